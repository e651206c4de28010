theorem dX3_wind_0 : decode cX3_wind 0 = .ok (.aload_n 0, 1) := by decide +kernel
theorem dX3_wind_1 : decode cX3_wind 1 = .ok (.iconst 0, 1) := by decide +kernel
theorem dX3_wind_2 : decode cX3_wind 2 = .ok (.putfield 34, 3) := by decide +kernel
theorem dX3_wind_5 : decode cX3_wind 5 = .ok (.iload_n 1, 1) := by decide +kernel
theorem dX3_wind_6 : decode cX3_wind 6 = .ok (.invokestatic 79, 3) := by decide +kernel
theorem dX3_wind_9 : decode cX3_wind 9 = .ok (.ifCond .ne 9, 3) := by decide +kernel
theorem dX3_wind_12 : decode cX3_wind 12 = .ok (.aload_n 0, 1) := by decide +kernel
theorem dX3_wind_13 : decode cX3_wind 13 = .ok (.iconst 1, 1) := by decide +kernel
theorem dX3_wind_14 : decode cX3_wind 14 = .ok (.invokevirtual 49, 3) := by decide +kernel
theorem dX3_wind_17 : decode cX3_wind 17 = .ok (.ireturn, 1) := by decide +kernel
theorem dX3_wind_18 : decode cX3_wind 18 = .ok (.iload_n 2, 1) := by decide +kernel
theorem dX3_wind_19 : decode cX3_wind 19 = .ok (.iconst 1, 1) := by decide +kernel
theorem dX3_wind_20 : decode cX3_wind 20 = .ok (.bipush 99, 2) := by decide +kernel
theorem dX3_wind_22 : decode cX3_wind 22 = .ok (.invokestatic 38, 3) := by decide +kernel
theorem dX3_wind_25 : decode cX3_wind 25 = .ok (.ifCond .ne 9, 3) := by decide +kernel
theorem dX3_wind_28 : decode cX3_wind 28 = .ok (.aload_n 0, 1) := by decide +kernel
theorem dX3_wind_29 : decode cX3_wind 29 = .ok (.iconst 2, 1) := by decide +kernel
theorem dX3_wind_30 : decode cX3_wind 30 = .ok (.invokevirtual 49, 3) := by decide +kernel
theorem dX3_wind_33 : decode cX3_wind 33 = .ok (.ireturn, 1) := by decide +kernel
theorem dX3_wind_34 : decode cX3_wind 34 = .ok (.aload_n 0, 1) := by decide +kernel
theorem dX3_wind_35 : decode cX3_wind 35 = .ok (.invokevirtual 83, 3) := by decide +kernel
theorem dX3_wind_38 : decode cX3_wind 38 = .ok (.aload_n 0, 1) := by decide +kernel
theorem dX3_wind_39 : decode cX3_wind 39 = .ok (.iconst 4, 1) := by decide +kernel
theorem dX3_wind_40 : decode cX3_wind 40 = .ok (.iload_n 1, 1) := by decide +kernel
theorem dX3_wind_41 : decode cX3_wind 41 = .ok (.iadd, 1) := by decide +kernel
theorem dX3_wind_42 : decode cX3_wind 42 = .ok (.iload_n 2, 1) := by decide +kernel
theorem dX3_wind_43 : decode cX3_wind 43 = .ok (.invokevirtual 86, 3) := by decide +kernel
theorem dX3_wind_46 : decode cX3_wind 46 = .ok (.ireturn, 1) := by decide +kernel
abbrev zX3_wind : List Cond := .code yX3_wind cX3_wind 3 (some .int) :: BIG
def fX3_wind (mo : MoT) (fn : (Nat → Int32)) (pa : (Nat → Int32)) (cu : Int32) (sp : Int32) : Option (Int32 × MoT × (Nat → Int32) × (Nat → Int32)) := (fX3_isCurtain cu).bind (fun r1 => (if (b2i r1) = 0 then (fX3_fails (mo.1, mo.2.1, 0, mo.2.2.2.1, mo.2.2.2.2.1, mo.2.2.2.2.2) 1).bind (fun r8 => some (r8.1, r8.2, fn, pa)) else (fX3_in sp 1 99).bind (fun r3 => (if (b2i r3) = 0 then (fX3_fails (mo.1, mo.2.1, 0, mo.2.2.2.1, mo.2.2.2.2.1, mo.2.2.2.2.2) 2).bind (fun r7 => some (r7.1, r7.2, fn, pa)) else (fX3_saves (mo.1, mo.2.1, 0, mo.2.2.2.1, mo.2.2.2.2.1, mo.2.2.2.2.2) fn pa).bind (fun r5 => (fX3_changes r5.1 fn (4 + cu) sp).bind (fun r6 => some (r6.1, r5.1, r6.2, r5.2)))))))
set_option maxHeartbeats 4000000 in
set_option maxRecDepth 100000 in
theorem mtX3_wind (l : Launch) (D : va_G) (t : Nat → ClassId) (mh : Nat) (mb : Nat → Nat) (mo : MoT) (fn : (Nat → Int32)) (pa : (Nat → Int32)) (cu : Int32) (sp : Int32) (out : Int32 × MoT × (Nat → Int32) × (Nat → Int32)) (h : fX3_wind mo fn pa cu sp = some out)  (sz : Nat) : Met l yX3_wind zX3_wind ({ frames := 2, cells := 0, slots := 0, locals := 45 }) (sPc D t (gMo mh mb mo ++ (gA t (mb 0) 71 fn ++ (gA t (mb 2) 426 pa))) sz [.ref mh, .int cu, .int sp]) (qI D t (gMo mh mb out.2.1 ++ (gA t (mb 0) 71 out.2.2.1 ++ (gA t (mb 2) 426 out.2.2.2))) out.1 (va_A (gMo mh mb mo ++ (gA t (mb 0) 71 fn ++ (gA t (mb 2) 426 pa))) sz)) 0 0 (va_A (gMo mh mb mo ++ (gA t (mb 0) 71 fn ++ (gA t (mb 2) 426 pa))) sz) := by
  refine met_of (Qf := fun A => qI D t (gMo mh mb out.2.1 ++ (gA t (mb 0) 71 out.2.2.1 ++ (gA t (mb 2) 426 out.2.2.2))) out.1 A) (cc := cX3_wind) (maxL := 3) (ret := some .int) (by decide) rfl (Nat.le_of_ble_eq_true rfl) ?_
  intro p e s m args below meth c A hx hb hr hml hts hown hlocks hA hP hK hD hE hS ls hl
  have htB : ∀ w ∈ BIG, w.before args s = true := fun w h => hts w (List.mem_cons_of_mem _ h)
  have hown : s.vm.findClass RX3 = some m.cls := hown
  have hl : lv_has ls 3 [(0, .ref mh), (1, .int cu), (2, .int sp)] := hl
  unfold fX3_wind at h
  refine lv_aload_n hx hb dX3_wind_0 rfl (lv_at hl 0 rfl) ?_
  refine lv_iconst (v := 0) hx hb dX3_wind_1 (by decide) ?_
  refine va_put (D := D) (ci := 3) (v := .int 0) (ty := .int) (C := RX3) (T := TX3) (N := 14) hx hb htB inlX3 tyX3 tyX3_ok nmX3 hown hK hP hD hS 0 rfl rfl 6 (by decide) (htB _ kw114) (fun _ h9 => h9) rfl (by decide +kernel) rfl rfl (Nat.le_of_ble_eq_true rfl) dX3_wind_2 (fun H locs hP hD hS => ?_)
  have hP : va_P D vwCl (gMo mh mb (mo.1, mo.2.1, 0, mo.2.2.2.1, mo.2.2.2.2.1, mo.2.2.2.2.2) ++ (gA t (mb 0) 71 fn ++ (gA t (mb 2) 426 pa))) H := hP
  have hD : va_D A (gMo mh mb (mo.1, mo.2.1, 0, mo.2.2.2.1, mo.2.2.2.2.1, mo.2.2.2.2.2) ++ (gA t (mb 0) 71 fn ++ (gA t (mb 2) 426 pa))) := hD
  refine lv_iload_n hx hb dX3_wind_5 rfl (lv_at hl 1 rfl) ?_
  obtain ⟨r1, h1, h⟩ := ob h
  refine call_i (v := b2i r1) (wc := ([] : va_W)) (wc' := ([] : va_W)) (ws' := (gMo mh mb (mo.1, mo.2.1, 0, mo.2.2.2.1, mo.2.2.2.2.1, mo.2.2.2.2.2) ++ (gA t (mb 0) 71 fn ++ (gA t (mb 2) 426 pa)))) (cutB (bs := [gMo mh mb (mo.1, mo.2.1, 0, mo.2.2.2.1, mo.2.2.2.2.1, mo.2.2.2.2.2), gA t (mb 0) 71 fn, gA t (mb 2) 426 pa]) (cs := []) (cs' := []) (bs' := [gMo mh mb (mo.1, mo.2.1, 0, mo.2.2.2.1, mo.2.2.2.2.1, mo.2.2.2.2.2), gA t (mb 0) 71 fn, gA t (mb 2) 426 pa]) [] hP hD hS hA rfl rfl rfl rfl) hS (fun hPc hDc => va_runS (As := [.int cu]) (rest := []) ⟨hx, hb, hml, hown, hts⟩ (mtX3_isCurtain l D t cu r1 h1 _) (va_cwS 1 hts (gBS kw115 kw116 kw5 kw117) rfl rfl rfl (by decide +kernel) ⟨Nat.le_of_ble_eq_true rfl, Nat.le_of_ble_eq_true rfl⟩) (sPc_S hPc hK hDc hE) rfl rfl hl.1 rfl (lv_room (Nat.le_of_ble_eq_true rfl)) dX3_wind_6 ⟨Nat.zero_le _, Nat.zero_le _⟩) (fun H locs hP hD hS => ?_)
  refine lv_if_ne (tgt := 18) hx hb dX3_wind_9 (by decide) (fun c2 => ?_) (fun c2 => ?_)
  · have h := it_n c2 h
    refine lv_iload_n hx hb dX3_wind_18 rfl (lv_at hl 2 rfl) ?_
    refine lv_iconst (v := 1) hx hb dX3_wind_19 (by decide) ?_
    refine lv_bipush (v := 99) hx hb dX3_wind_20 (by decide) ?_
    obtain ⟨r3, h3, h⟩ := ob h
    refine call_i (v := b2i r3) (wc := ([] : va_W)) (wc' := ([] : va_W)) (ws' := (gMo mh mb (mo.1, mo.2.1, 0, mo.2.2.2.1, mo.2.2.2.2.1, mo.2.2.2.2.2) ++ (gA t (mb 0) 71 fn ++ (gA t (mb 2) 426 pa)))) (cutB (bs := [gMo mh mb (mo.1, mo.2.1, 0, mo.2.2.2.1, mo.2.2.2.2.1, mo.2.2.2.2.2), gA t (mb 0) 71 fn, gA t (mb 2) 426 pa]) (cs := []) (cs' := []) (bs' := [gMo mh mb (mo.1, mo.2.1, 0, mo.2.2.2.1, mo.2.2.2.2.1, mo.2.2.2.2.2), gA t (mb 0) 71 fn, gA t (mb 2) 426 pa]) [] hP hD hS hA rfl rfl rfl rfl) hS (fun hPc hDc => va_runS (As := [.int sp, .int 1, .int 99]) (rest := []) ⟨hx, hb, hml, hown, hts⟩ (mtX3_in l D t sp 1 99 r3 h3 _) (va_cwS 3 hts (gBS kw118 kw119 kw5 kw120) rfl rfl rfl (by decide +kernel) ⟨Nat.le_of_ble_eq_true rfl, Nat.le_of_ble_eq_true rfl⟩) (sPc_S hPc hK hDc hE) rfl rfl hl.1 rfl (lv_room (Nat.le_of_ble_eq_true rfl)) dX3_wind_22 ⟨Nat.zero_le _, Nat.zero_le _⟩) (fun H locs hP hD hS => ?_)
    refine lv_if_ne (tgt := 34) hx hb dX3_wind_25 (by decide) (fun c4 => ?_) (fun c4 => ?_)
    · have h := it_n c4 h
      refine lv_aload_n hx hb dX3_wind_34 rfl (lv_at hl 0 rfl) ?_
      obtain ⟨r5, h5, h⟩ := ob h
      refine call_v (wc := (gMo mh mb (mo.1, mo.2.1, 0, mo.2.2.2.1, mo.2.2.2.2.1, mo.2.2.2.2.2) ++ (gA t (mb 0) 71 fn ++ (gA t (mb 2) 426 pa)))) (wc' := (gMo mh mb r5.1 ++ (gA t (mb 0) 71 fn ++ (gA t (mb 2) 426 r5.2)))) (ws' := (gMo mh mb r5.1 ++ (gA t (mb 0) 71 fn ++ (gA t (mb 2) 426 r5.2)))) (cutB (bs := [gMo mh mb (mo.1, mo.2.1, 0, mo.2.2.2.1, mo.2.2.2.2.1, mo.2.2.2.2.2), gA t (mb 0) 71 fn, gA t (mb 2) 426 pa]) (cs := [gMo mh mb (mo.1, mo.2.1, 0, mo.2.2.2.1, mo.2.2.2.2.1, mo.2.2.2.2.2), gA t (mb 0) 71 fn, gA t (mb 2) 426 pa]) (cs' := [gMo mh mb r5.1, gA t (mb 0) 71 fn, gA t (mb 2) 426 r5.2]) (bs' := [gMo mh mb r5.1, gA t (mb 0) 71 fn, gA t (mb 2) 426 r5.2]) [0, 1, 2] hP hD hS hA rfl rfl rfl rfl) hS (fun hPc hDc => va_runV (As := []) (rest := []) ⟨hx, hb, hml, hown, hts⟩ (mtX3_saves l D t mh mb (mo.1, mo.2.1, 0, mo.2.2.2.1, mo.2.2.2.2.1, mo.2.2.2.2.2) fn pa r5 h5 _) (cwV 0 hts (gBV kw125 kw126 kw127 kw5 kw128) rfl rfl rfl (by decide +kernel) ⟨Nat.le_of_ble_eq_true rfl, Nat.le_of_ble_eq_true rfl⟩) (sPc_V hPc hK hDc hE (va_recv hK hP (ci := 3) (q0 := 0) rfl rfl)) rfl rfl hl.1 rfl (lv_room (Nat.le_of_ble_eq_true rfl)) dX3_wind_35 ⟨Nat.zero_le _, Nat.zero_le _⟩) (fun H locs hP hD hS => ?_)
      refine lv_aload_n hx hb dX3_wind_38 rfl (lv_at hl 0 rfl) ?_
      refine lv_iconst (v := 4) hx hb dX3_wind_39 (by decide) ?_
      refine lv_iload_n hx hb dX3_wind_40 rfl (lv_at hl 1 rfl) ?_
      refine lv_iadd hx hb dX3_wind_41 ?_
      refine lv_iload_n hx hb dX3_wind_42 rfl (lv_at hl 2 rfl) ?_
      obtain ⟨r6, h6, h⟩ := ob h
      refine call_i (v := r6.1) (wc := (gMo mh mb r5.1 ++ (gA t (mb 0) 71 fn))) (wc' := (gMo mh mb r5.1 ++ (gA t (mb 0) 71 r6.2))) (ws' := (gMo mh mb r5.1 ++ (gA t (mb 0) 71 r6.2 ++ (gA t (mb 2) 426 r5.2)))) (cutB (bs := [gMo mh mb r5.1, gA t (mb 0) 71 fn, gA t (mb 2) 426 r5.2]) (cs := [gMo mh mb r5.1, gA t (mb 0) 71 fn]) (cs' := [gMo mh mb r5.1, gA t (mb 0) 71 r6.2]) (bs' := [gMo mh mb r5.1, gA t (mb 0) 71 r6.2, gA t (mb 2) 426 r5.2]) [0, 1] hP hD hS hA rfl rfl rfl rfl) hS (fun hPc hDc => va_runV (As := [.int (4 + cu), .int sp]) (rest := []) ⟨hx, hb, hml, hown, hts⟩ (mtX3_changes l D t mh mb r5.1 fn (4 + cu) sp r6 h6 _) (cwV 2 hts (gBV kw133 kw134 kw135 kw5 kw136) rfl rfl rfl (by decide +kernel) ⟨Nat.le_of_ble_eq_true rfl, Nat.le_of_ble_eq_true rfl⟩) (sPc_V hPc hK hDc hE (va_recv hK hP (ci := 3) (q0 := 0) rfl rfl)) rfl rfl hl.1 rfl (lv_room (Nat.le_of_ble_eq_true rfl)) dX3_wind_43 ⟨Nat.zero_le _, Nat.zero_le _⟩) (fun H locs hP hD hS => ?_)
      obtain rfl := os h
      exact ret_i hx hb hr hlocks hP hK hD hS dX3_wind_46
    · have h := it_p c4 h
      refine lv_aload_n hx hb dX3_wind_28 rfl (lv_at hl 0 rfl) ?_
      refine lv_iconst (v := 2) hx hb dX3_wind_29 (by decide) ?_
      obtain ⟨r7, h7, h⟩ := ob h
      refine call_i (v := r7.1) (wc := (gMo mh mb (mo.1, mo.2.1, 0, mo.2.2.2.1, mo.2.2.2.2.1, mo.2.2.2.2.2))) (wc' := (gMo mh mb r7.2)) (ws' := (gMo mh mb r7.2 ++ (gA t (mb 0) 71 fn ++ (gA t (mb 2) 426 pa)))) (cutB (bs := [gMo mh mb (mo.1, mo.2.1, 0, mo.2.2.2.1, mo.2.2.2.2.1, mo.2.2.2.2.2), gA t (mb 0) 71 fn, gA t (mb 2) 426 pa]) (cs := [gMo mh mb (mo.1, mo.2.1, 0, mo.2.2.2.1, mo.2.2.2.2.1, mo.2.2.2.2.2)]) (cs' := [gMo mh mb r7.2]) (bs' := [gMo mh mb r7.2, gA t (mb 0) 71 fn, gA t (mb 2) 426 pa]) [0] hP hD hS hA rfl rfl rfl rfl) hS (fun hPc hDc => va_runV (As := [.int 2]) (rest := []) ⟨hx, hb, hml, hown, hts⟩ (mtX3_fails l D t mh mb (mo.1, mo.2.1, 0, mo.2.2.2.1, mo.2.2.2.2.1, mo.2.2.2.2.2) 2 r7 h7 _) (cwV 1 hts (gBV kw121 kw122 kw123 kw5 kw124) rfl rfl rfl (by decide +kernel) ⟨Nat.le_of_ble_eq_true rfl, Nat.le_of_ble_eq_true rfl⟩) (sPc_V hPc hK hDc hE (va_recv hK hP (ci := 3) (q0 := 0) rfl rfl)) rfl rfl hl.1 rfl (lv_room (Nat.le_of_ble_eq_true rfl)) dX3_wind_30 ⟨Nat.zero_le _, Nat.zero_le _⟩) (fun H locs hP hD hS => ?_)
      obtain rfl := os h
      exact ret_i hx hb hr hlocks hP hK hD hS dX3_wind_33
  · have h := it_p c2 h
    refine lv_aload_n hx hb dX3_wind_12 rfl (lv_at hl 0 rfl) ?_
    refine lv_iconst (v := 1) hx hb dX3_wind_13 (by decide) ?_
    obtain ⟨r8, h8, h⟩ := ob h
    refine call_i (v := r8.1) (wc := (gMo mh mb (mo.1, mo.2.1, 0, mo.2.2.2.1, mo.2.2.2.2.1, mo.2.2.2.2.2))) (wc' := (gMo mh mb r8.2)) (ws' := (gMo mh mb r8.2 ++ (gA t (mb 0) 71 fn ++ (gA t (mb 2) 426 pa)))) (cutB (bs := [gMo mh mb (mo.1, mo.2.1, 0, mo.2.2.2.1, mo.2.2.2.2.1, mo.2.2.2.2.2), gA t (mb 0) 71 fn, gA t (mb 2) 426 pa]) (cs := [gMo mh mb (mo.1, mo.2.1, 0, mo.2.2.2.1, mo.2.2.2.2.1, mo.2.2.2.2.2)]) (cs' := [gMo mh mb r8.2]) (bs' := [gMo mh mb r8.2, gA t (mb 0) 71 fn, gA t (mb 2) 426 pa]) [0] hP hD hS hA rfl rfl rfl rfl) hS (fun hPc hDc => va_runV (As := [.int 1]) (rest := []) ⟨hx, hb, hml, hown, hts⟩ (mtX3_fails l D t mh mb (mo.1, mo.2.1, 0, mo.2.2.2.1, mo.2.2.2.2.1, mo.2.2.2.2.2) 1 r8 h8 _) (cwV 1 hts (gBV kw121 kw122 kw123 kw5 kw124) rfl rfl rfl (by decide +kernel) ⟨Nat.le_of_ble_eq_true rfl, Nat.le_of_ble_eq_true rfl⟩) (sPc_V hPc hK hDc hE (va_recv hK hP (ci := 3) (q0 := 0) rfl rfl)) rfl rfl hl.1 rfl (lv_room (Nat.le_of_ble_eq_true rfl)) dX3_wind_14 ⟨Nat.zero_le _, Nat.zero_le _⟩) (fun H locs hP hD hS => ?_)
    obtain rfl := os h
    exact ret_i hx hb hr hlocks hP hK hD hS dX3_wind_17

theorem dX3_drag_0 : decode cX3_drag 0 = .ok (.aload_n 0, 1) := by decide +kernel
theorem dX3_drag_1 : decode cX3_drag 1 = .ok (.iconst 0, 1) := by decide +kernel
theorem dX3_drag_2 : decode cX3_drag 2 = .ok (.putfield 34, 3) := by decide +kernel
theorem dX3_drag_5 : decode cX3_drag 5 = .ok (.iload_n 1, 1) := by decide +kernel
theorem dX3_drag_6 : decode cX3_drag 6 = .ok (.invokestatic 79, 3) := by decide +kernel
theorem dX3_drag_9 : decode cX3_drag 9 = .ok (.ifCond .ne 9, 3) := by decide +kernel
theorem dX3_drag_12 : decode cX3_drag 12 = .ok (.aload_n 0, 1) := by decide +kernel
theorem dX3_drag_13 : decode cX3_drag 13 = .ok (.iconst 1, 1) := by decide +kernel
theorem dX3_drag_14 : decode cX3_drag 14 = .ok (.invokevirtual 49, 3) := by decide +kernel
theorem dX3_drag_17 : decode cX3_drag 17 = .ok (.ireturn, 1) := by decide +kernel
theorem dX3_drag_18 : decode cX3_drag 18 = .ok (.iload_n 2, 1) := by decide +kernel
theorem dX3_drag_19 : decode cX3_drag 19 = .ok (.invokestatic 89, 3) := by decide +kernel
theorem dX3_drag_22 : decode cX3_drag 22 = .ok (.ifCond .eq 24, 3) := by decide +kernel
theorem dX3_drag_25 : decode cX3_drag 25 = .ok (.iload_n 3, 1) := by decide +kernel
theorem dX3_drag_26 : decode cX3_drag 26 = .ok (.iload_n 2, 1) := by decide +kernel
theorem dX3_drag_27 : decode cX3_drag 27 = .ok (.bipush 23, 2) := by decide +kernel
theorem dX3_drag_29 : decode cX3_drag 29 = .ok (.invokestatic 38, 3) := by decide +kernel
theorem dX3_drag_32 : decode cX3_drag 32 = .ok (.ifCond .eq 14, 3) := by decide +kernel
theorem dX3_drag_35 : decode cX3_drag 35 = .ok (.iload 4, 2) := by decide +kernel
theorem dX3_drag_37 : decode cX3_drag 37 = .ok (.iconst 0, 1) := by decide +kernel
theorem dX3_drag_38 : decode cX3_drag 38 = .ok (.bipush 50, 2) := by decide +kernel
theorem dX3_drag_40 : decode cX3_drag 40 = .ok (.invokestatic 38, 3) := by decide +kernel
theorem dX3_drag_43 : decode cX3_drag 43 = .ok (.ifCond .ne 9, 3) := by decide +kernel
theorem dX3_drag_46 : decode cX3_drag 46 = .ok (.aload_n 0, 1) := by decide +kernel
theorem dX3_drag_47 : decode cX3_drag 47 = .ok (.iconst 2, 1) := by decide +kernel
theorem dX3_drag_48 : decode cX3_drag 48 = .ok (.invokevirtual 49, 3) := by decide +kernel
theorem dX3_drag_51 : decode cX3_drag 51 = .ok (.ireturn, 1) := by decide +kernel
theorem dX3_drag_52 : decode cX3_drag 52 = .ok (.aload_n 0, 1) := by decide +kernel
theorem dX3_drag_53 : decode cX3_drag 53 = .ok (.invokevirtual 83, 3) := by decide +kernel
theorem dX3_drag_56 : decode cX3_drag 56 = .ok (.iconst 0, 1) := by decide +kernel
theorem dX3_drag_57 : decode cX3_drag 57 = .ok (.istore 5, 2) := by decide +kernel
theorem dX3_drag_59 : decode cX3_drag 59 = .ok (.iload_n 2, 1) := by decide +kernel
theorem dX3_drag_60 : decode cX3_drag 60 = .ok (.istore 6, 2) := by decide +kernel
theorem dX3_drag_62 : decode cX3_drag 62 = .ok (.iload 6, 2) := by decide +kernel
theorem dX3_drag_64 : decode cX3_drag 64 = .ok (.iload_n 3, 1) := by decide +kernel
theorem dX3_drag_65 : decode cX3_drag 65 = .ok (.if_icmp .gt 40, 3) := by decide +kernel
theorem dX3_drag_68 : decode cX3_drag 68 = .ok (.iload 5, 2) := by decide +kernel
theorem dX3_drag_70 : decode cX3_drag 70 = .ok (.aload_n 0, 1) := by decide +kernel
theorem dX3_drag_71 : decode cX3_drag 71 = .ok (.bipush 23, 2) := by decide +kernel
theorem dX3_drag_73 : decode cX3_drag 73 = .ok (.bipush 24, 2) := by decide +kernel
theorem dX3_drag_75 : decode cX3_drag 75 = .ok (.iload_n 1, 1) := by decide +kernel
theorem dX3_drag_76 : decode cX3_drag 76 = .ok (.imul, 1) := by decide +kernel
theorem dX3_drag_77 : decode cX3_drag 77 = .ok (.iadd, 1) := by decide +kernel
theorem dX3_drag_78 : decode cX3_drag 78 = .ok (.iload 6, 2) := by decide +kernel
theorem dX3_drag_80 : decode cX3_drag 80 = .ok (.iadd, 1) := by decide +kernel
theorem dX3_drag_81 : decode cX3_drag 81 = .ok (.iload 4, 2) := by decide +kernel
theorem dX3_drag_83 : decode cX3_drag 83 = .ok (.invokevirtual 86, 3) := by decide +kernel
theorem dX3_drag_86 : decode cX3_drag 86 = .ok (.iload 4, 2) := by decide +kernel
theorem dX3_drag_88 : decode cX3_drag 88 = .ok (.if_icmp .ne 7, 3) := by decide +kernel
theorem dX3_drag_91 : decode cX3_drag 91 = .ok (.iconst 0, 1) := by decide +kernel
theorem dX3_drag_92 : decode cX3_drag 92 = .ok (.goto 4, 3) := by decide +kernel
theorem dX3_drag_95 : decode cX3_drag 95 = .ok (.iconst 1, 1) := by decide +kernel
theorem dX3_drag_96 : decode cX3_drag 96 = .ok (.iadd, 1) := by decide +kernel
theorem dX3_drag_97 : decode cX3_drag 97 = .ok (.istore 5, 2) := by decide +kernel
theorem dX3_drag_99 : decode cX3_drag 99 = .ok (.iinc 6 1, 3) := by decide +kernel
theorem dX3_drag_102 : decode cX3_drag 102 = .ok (.goto (-40), 3) := by decide +kernel
theorem dX3_drag_105 : decode cX3_drag 105 = .ok (.iload 5, 2) := by decide +kernel
theorem dX3_drag_107 : decode cX3_drag 107 = .ok (.ireturn, 1) := by decide +kernel
abbrev zX3_drag : List Cond := .code yX3_drag cX3_drag 7 (some .int) :: BIG
def fX3_drag_l62   (K62 : (MoT × (Nat → Int32) × (Nat → Int32) × Int32 × Int32 × Int32 × Int32 × Int32) → Option (Int32 × MoT × (Nat → Int32) × (Nat → Int32))) (v62 : MoT × (Nat → Int32) × (Nat → Int32) × Int32 × Int32 × Int32 × Int32 × Int32) : Option (Int32 × MoT × (Nat → Int32) × (Nat → Int32)) := (if v62.2.2.2.2.1 < v62.2.2.2.2.2.2.2 then some (v62.2.2.2.2.2.2.1, v62.1, v62.2.1, v62.2.2.1) else (fX3_changes v62.1 v62.2.1 ((23 + (24 * v62.2.2.2.1)) + v62.2.2.2.2.2.2.2) v62.2.2.2.2.2.1).bind (fun r15 => (if r15.1 = v62.2.2.2.2.2.1 then K62 (v62.1, r15.2, v62.2.2.1, v62.2.2.2.1, v62.2.2.2.2.1, v62.2.2.2.2.2.1, v62.2.2.2.2.2.2.1 + 0, v62.2.2.2.2.2.2.2 + 1) else K62 (v62.1, r15.2, v62.2.2.1, v62.2.2.2.1, v62.2.2.2.2.1, v62.2.2.2.2.2.1, v62.2.2.2.2.2.2.1 + 1, v62.2.2.2.2.2.2.2 + 1))))
def fX3_drag (mo : MoT) (fn : (Nat → Int32)) (pa : (Nat → Int32)) (cu : Int32) (k1 : Int32) (k2 : Int32) (dr : Int32) : Option (Int32 × MoT × (Nat → Int32) × (Nat → Int32)) := (fX3_isCurtain cu).bind (fun r1 => (if (b2i r1) = 0 then (fX3_fails (mo.1, mo.2.1, 0, mo.2.2.2.1, mo.2.2.2.2.1, mo.2.2.2.2.2) 1).bind (fun r13 => some (r13.1, r13.2, fn, pa)) else (fX3_isColumn k1).bind (fun r3 => (if (b2i r3) = 0 then (fX3_fails (mo.1, mo.2.1, 0, mo.2.2.2.1, mo.2.2.2.2.1, mo.2.2.2.2.2) 2).bind (fun r5 => some (r5.1, r5.2, fn, pa)) else (fX3_in k2 k1 23).bind (fun r6 => (if (b2i r6) = 0 then (fX3_fails (mo.1, mo.2.1, 0, mo.2.2.2.1, mo.2.2.2.2.1, mo.2.2.2.2.2) 2).bind (fun r8 => some (r8.1, r8.2, fn, pa)) else (fX3_in dr 0 50).bind (fun r9 => (if (b2i r9) = 0 then (fX3_fails (mo.1, mo.2.1, 0, mo.2.2.2.1, mo.2.2.2.2.1, mo.2.2.2.2.2) 2).bind (fun r12 => some (r12.1, r12.2, fn, pa)) else (fX3_saves (mo.1, mo.2.1, 0, mo.2.2.2.1, mo.2.2.2.2.1, mo.2.2.2.2.2) fn pa).bind (fun r11 => lp (fX3_drag_l62) 2000 (r11.1, fn, r11.2, cu, k2, dr, 0, k1))))))))))
set_option maxHeartbeats 4000000 in
set_option maxRecDepth 100000 in
theorem mtX3_drag (l : Launch) (D : va_G) (t : Nat → ClassId) (mh : Nat) (mb : Nat → Nat) (mo : MoT) (fn : (Nat → Int32)) (pa : (Nat → Int32)) (cu : Int32) (k1 : Int32) (k2 : Int32) (dr : Int32) (out : Int32 × MoT × (Nat → Int32) × (Nat → Int32)) (h : fX3_drag mo fn pa cu k1 k2 dr = some out)  (sz : Nat) : Met l yX3_drag zX3_drag ({ frames := 2, cells := 0, slots := 0, locals := 45 }) (sPc D t (gMo mh mb mo ++ (gA t (mb 0) 71 fn ++ (gA t (mb 2) 426 pa))) sz [.ref mh, .int cu, .int k1, .int k2, .int dr]) (qI D t (gMo mh mb out.2.1 ++ (gA t (mb 0) 71 out.2.2.1 ++ (gA t (mb 2) 426 out.2.2.2))) out.1 (va_A (gMo mh mb mo ++ (gA t (mb 0) 71 fn ++ (gA t (mb 2) 426 pa))) sz)) 0 0 (va_A (gMo mh mb mo ++ (gA t (mb 0) 71 fn ++ (gA t (mb 2) 426 pa))) sz) := by
  refine met_of (Qf := fun A => qI D t (gMo mh mb out.2.1 ++ (gA t (mb 0) 71 out.2.2.1 ++ (gA t (mb 2) 426 out.2.2.2))) out.1 A) (cc := cX3_drag) (maxL := 7) (ret := some .int) (by decide) rfl (Nat.le_of_ble_eq_true rfl) ?_
  intro p e s m args below meth c A hx hb hr hml hts hown hlocks hA hP hK hD hE hS ls hl
  have htB : ∀ w ∈ BIG, w.before args s = true := fun w h => hts w (List.mem_cons_of_mem _ h)
  have hown : s.vm.findClass RX3 = some m.cls := hown
  have hl : lv_has ls 7 [(0, .ref mh), (1, .int cu), (2, .int k1), (3, .int k2), (4, .int dr)] := hl
  unfold fX3_drag at h
  have J62 : ∀ (fu62 : Nat) (v62 : MoT × (Nat → Int32) × (Nat → Int32) × Int32 × Int32 × Int32 × Int32 × Int32), lp (fX3_drag_l62) fu62 v62 = some out → ∀ (H : Heap) (locs : List Loc), va_P D vwCl (gMo mh mb v62.1 ++ (gA t (mb 0) 71 v62.2.1 ++ (gA t (mb 2) 426 v62.2.2.1))) H → va_D A (gMo mh mb v62.1 ++ (gA t (mb 0) 71 v62.2.1 ++ (gA t (mb 2) 426 v62.2.2.1))) → va_S A s.heap H locs → ∀ ls : Array Slot, lv_has ls 7 [(0, .ref mh), (1, .int v62.2.2.2.1), (3, .int v62.2.2.2.2.1), (4, .int v62.2.2.2.2.2.1), (5, .int v62.2.2.2.2.2.2.1), (6, .int v62.2.2.2.2.2.2.2)] → W p l e ({ frames := 2, cells := 0, slots := 0, locals := 45 }) s m args below meth c H locs 0 0 (MQ below (qI D t (gMo mh mb out.2.1 ++ (gA t (mb 0) 71 out.2.2.1 ++ (gA t (mb 2) 426 out.2.2.2))) out.1 A) args s 0 0 A) (F0 m 62 ls []) := by
    intro fu62
    induction fu62 with
    | zero => intro v62 h; cases h
    | succ fu62 ih62 =>
      intro v62 h H locs hP hD hS ls hl
      have h : fX3_drag_l62 (lp (fX3_drag_l62) fu62) v62 = some out := h
      unfold fX3_drag_l62 at h
      refine lv_iload hx hb dX3_drag_62 (lv_at hl 5 rfl) ?_
      refine lv_iload_n hx hb dX3_drag_64 rfl (lv_at hl 2 rfl) ?_
      refine lv_icmp_gt (tgt := 105) hx hb dX3_drag_65 (by decide) (fun c14 => ?_) (fun c14 => ?_)
      · have h := it_p c14 h
        refine lv_iload hx hb dX3_drag_105 (lv_at hl 4 rfl) ?_
        obtain rfl := os h
        exact ret_i hx hb hr hlocks hP hK hD hS dX3_drag_107
      · have h := it_n c14 h
        refine lv_iload hx hb dX3_drag_68 (lv_at hl 4 rfl) ?_
        refine lv_aload_n hx hb dX3_drag_70 rfl (lv_at hl 0 rfl) ?_
        refine lv_bipush (v := 23) hx hb dX3_drag_71 (by decide) ?_
        refine lv_bipush (v := 24) hx hb dX3_drag_73 (by decide) ?_
        refine lv_iload_n hx hb dX3_drag_75 rfl (lv_at hl 1 rfl) ?_
        refine lv_imul hx hb dX3_drag_76 ?_
        refine lv_iadd hx hb dX3_drag_77 ?_
        refine lv_iload hx hb dX3_drag_78 (lv_at hl 5 rfl) ?_
        refine lv_iadd hx hb dX3_drag_80 ?_
        refine lv_iload hx hb dX3_drag_81 (lv_at hl 3 rfl) ?_
        obtain ⟨r15, h15, h⟩ := ob h
        refine call_i (v := r15.1) (wc := (gMo mh mb v62.1 ++ (gA t (mb 0) 71 v62.2.1))) (wc' := (gMo mh mb v62.1 ++ (gA t (mb 0) 71 r15.2))) (ws' := (gMo mh mb v62.1 ++ (gA t (mb 0) 71 r15.2 ++ (gA t (mb 2) 426 v62.2.2.1)))) (cutB (bs := [gMo mh mb v62.1, gA t (mb 0) 71 v62.2.1, gA t (mb 2) 426 v62.2.2.1]) (cs := [gMo mh mb v62.1, gA t (mb 0) 71 v62.2.1]) (cs' := [gMo mh mb v62.1, gA t (mb 0) 71 r15.2]) (bs' := [gMo mh mb v62.1, gA t (mb 0) 71 r15.2, gA t (mb 2) 426 v62.2.2.1]) [0, 1] hP hD hS hA rfl rfl rfl rfl) hS (fun hPc hDc => va_runV (As := [.int ((23 + (24 * v62.2.2.2.1)) + v62.2.2.2.2.2.2.2), .int v62.2.2.2.2.2.1]) (rest := [.int v62.2.2.2.2.2.2.1]) ⟨hx, hb, hml, hown, hts⟩ (mtX3_changes l D t mh mb v62.1 v62.2.1 ((23 + (24 * v62.2.2.2.1)) + v62.2.2.2.2.2.2.2) v62.2.2.2.2.2.1 r15 h15 _) (cwV 2 hts (gBV kw133 kw134 kw135 kw5 kw136) rfl rfl rfl (by decide +kernel) ⟨Nat.le_of_ble_eq_true rfl, Nat.le_of_ble_eq_true rfl⟩) (sPc_V hPc hK hDc hE (va_recv hK hP (ci := 3) (q0 := 0) rfl rfl)) rfl rfl hl.1 rfl (lv_room (Nat.le_of_ble_eq_true rfl)) dX3_drag_83 ⟨Nat.zero_le _, Nat.zero_le _⟩) (fun H locs hP hD hS => ?_)
        refine lv_iload hx hb dX3_drag_86 (lv_at hl 3 rfl) ?_
        refine lv_icmp_ne (tgt := 95) hx hb dX3_drag_88 (by decide) (fun c16 => ?_) (fun c16 => ?_)
        · have h := it_n c16 h
          refine lv_iconst (v := 1) hx hb dX3_drag_95 (by decide) ?_
          refine lv_iadd hx hb dX3_drag_96 ?_
          refine lv_istore (lv' := [(5, .int (v62.2.2.2.2.2.2.1 + 1)), (0, .ref mh), (1, .int v62.2.2.2.1), (3, .int v62.2.2.2.2.1), (4, .int v62.2.2.2.2.2.1), (6, .int v62.2.2.2.2.2.2.2)]) hx hb dX3_drag_97 hl (by decide) rfl (fun ls hl => ?_)
          refine lv_iinc (v := v62.2.2.2.2.2.2.2 + 1) (lv' := [(6, .int (v62.2.2.2.2.2.2.2 + 1)), (5, .int (v62.2.2.2.2.2.2.1 + 1)), (0, .ref mh), (1, .int v62.2.2.2.1), (3, .int v62.2.2.2.2.1), (4, .int v62.2.2.2.2.2.1)]) hx hb dX3_drag_99 hl (k := 5) rfl rfl (by decide) rfl (fun ls hl => ?_)
          refine lv_goto (tgt := 62) hx hb dX3_drag_102 (by decide) ?_
          exact ih62 (v62.1, r15.2, v62.2.2.1, v62.2.2.2.1, v62.2.2.2.2.1, v62.2.2.2.2.2.1, v62.2.2.2.2.2.2.1 + 1, v62.2.2.2.2.2.2.2 + 1) h _ _ hP hD hS _ (lv_sub hl [2, 3, 4, 5, 1, 0] rfl)
        · have h := it_p c16 h
          refine lv_iconst (v := 0) hx hb dX3_drag_91 (by decide) ?_
          refine lv_goto (tgt := 96) hx hb dX3_drag_92 (by decide) ?_
          refine lv_iadd hx hb dX3_drag_96 ?_
          refine lv_istore (lv' := [(5, .int (v62.2.2.2.2.2.2.1 + 0)), (0, .ref mh), (1, .int v62.2.2.2.1), (3, .int v62.2.2.2.2.1), (4, .int v62.2.2.2.2.2.1), (6, .int v62.2.2.2.2.2.2.2)]) hx hb dX3_drag_97 hl (by decide) rfl (fun ls hl => ?_)
          refine lv_iinc (v := v62.2.2.2.2.2.2.2 + 1) (lv' := [(6, .int (v62.2.2.2.2.2.2.2 + 1)), (5, .int (v62.2.2.2.2.2.2.1 + 0)), (0, .ref mh), (1, .int v62.2.2.2.1), (3, .int v62.2.2.2.2.1), (4, .int v62.2.2.2.2.2.1)]) hx hb dX3_drag_99 hl (k := 5) rfl rfl (by decide) rfl (fun ls hl => ?_)
          refine lv_goto (tgt := 62) hx hb dX3_drag_102 (by decide) ?_
          exact ih62 (v62.1, r15.2, v62.2.2.1, v62.2.2.2.1, v62.2.2.2.2.1, v62.2.2.2.2.2.1, v62.2.2.2.2.2.2.1 + 0, v62.2.2.2.2.2.2.2 + 1) h _ _ hP hD hS _ (lv_sub hl [2, 3, 4, 5, 1, 0] rfl)
  refine lv_aload_n hx hb dX3_drag_0 rfl (lv_at hl 0 rfl) ?_
  refine lv_iconst (v := 0) hx hb dX3_drag_1 (by decide) ?_
  refine va_put (D := D) (ci := 3) (v := .int 0) (ty := .int) (C := RX3) (T := TX3) (N := 14) hx hb htB inlX3 tyX3 tyX3_ok nmX3 hown hK hP hD hS 0 rfl rfl 6 (by decide) (htB _ kw114) (fun _ h9 => h9) rfl (by decide +kernel) rfl rfl (Nat.le_of_ble_eq_true rfl) dX3_drag_2 (fun H locs hP hD hS => ?_)
  have hP : va_P D vwCl (gMo mh mb (mo.1, mo.2.1, 0, mo.2.2.2.1, mo.2.2.2.2.1, mo.2.2.2.2.2) ++ (gA t (mb 0) 71 fn ++ (gA t (mb 2) 426 pa))) H := hP
  have hD : va_D A (gMo mh mb (mo.1, mo.2.1, 0, mo.2.2.2.1, mo.2.2.2.2.1, mo.2.2.2.2.2) ++ (gA t (mb 0) 71 fn ++ (gA t (mb 2) 426 pa))) := hD
  refine lv_iload_n hx hb dX3_drag_5 rfl (lv_at hl 1 rfl) ?_
  obtain ⟨r1, h1, h⟩ := ob h
  refine call_i (v := b2i r1) (wc := ([] : va_W)) (wc' := ([] : va_W)) (ws' := (gMo mh mb (mo.1, mo.2.1, 0, mo.2.2.2.1, mo.2.2.2.2.1, mo.2.2.2.2.2) ++ (gA t (mb 0) 71 fn ++ (gA t (mb 2) 426 pa)))) (cutB (bs := [gMo mh mb (mo.1, mo.2.1, 0, mo.2.2.2.1, mo.2.2.2.2.1, mo.2.2.2.2.2), gA t (mb 0) 71 fn, gA t (mb 2) 426 pa]) (cs := []) (cs' := []) (bs' := [gMo mh mb (mo.1, mo.2.1, 0, mo.2.2.2.1, mo.2.2.2.2.1, mo.2.2.2.2.2), gA t (mb 0) 71 fn, gA t (mb 2) 426 pa]) [] hP hD hS hA rfl rfl rfl rfl) hS (fun hPc hDc => va_runS (As := [.int cu]) (rest := []) ⟨hx, hb, hml, hown, hts⟩ (mtX3_isCurtain l D t cu r1 h1 _) (va_cwS 1 hts (gBS kw115 kw116 kw5 kw117) rfl rfl rfl (by decide +kernel) ⟨Nat.le_of_ble_eq_true rfl, Nat.le_of_ble_eq_true rfl⟩) (sPc_S hPc hK hDc hE) rfl rfl hl.1 rfl (lv_room (Nat.le_of_ble_eq_true rfl)) dX3_drag_6 ⟨Nat.zero_le _, Nat.zero_le _⟩) (fun H locs hP hD hS => ?_)
  refine lv_if_ne (tgt := 18) hx hb dX3_drag_9 (by decide) (fun c2 => ?_) (fun c2 => ?_)
  · have h := it_n c2 h
    refine lv_iload_n hx hb dX3_drag_18 rfl (lv_at hl 2 rfl) ?_
    obtain ⟨r3, h3, h⟩ := ob h
    refine call_i (v := b2i r3) (wc := ([] : va_W)) (wc' := ([] : va_W)) (ws' := (gMo mh mb (mo.1, mo.2.1, 0, mo.2.2.2.1, mo.2.2.2.2.1, mo.2.2.2.2.2) ++ (gA t (mb 0) 71 fn ++ (gA t (mb 2) 426 pa)))) (cutB (bs := [gMo mh mb (mo.1, mo.2.1, 0, mo.2.2.2.1, mo.2.2.2.2.1, mo.2.2.2.2.2), gA t (mb 0) 71 fn, gA t (mb 2) 426 pa]) (cs := []) (cs' := []) (bs' := [gMo mh mb (mo.1, mo.2.1, 0, mo.2.2.2.1, mo.2.2.2.2.1, mo.2.2.2.2.2), gA t (mb 0) 71 fn, gA t (mb 2) 426 pa]) [] hP hD hS hA rfl rfl rfl rfl) hS (fun hPc hDc => va_runS (As := [.int k1]) (rest := []) ⟨hx, hb, hml, hown, hts⟩ (mtX3_isColumn l D t k1 r3 h3 _) (va_cwS 1 hts (gBS kw156 kw157 kw5 kw158) rfl rfl rfl (by decide +kernel) ⟨Nat.le_of_ble_eq_true rfl, Nat.le_of_ble_eq_true rfl⟩) (sPc_S hPc hK hDc hE) rfl rfl hl.1 rfl (lv_room (Nat.le_of_ble_eq_true rfl)) dX3_drag_19 ⟨Nat.zero_le _, Nat.zero_le _⟩) (fun H locs hP hD hS => ?_)
    refine lv_if_eq (tgt := 46) hx hb dX3_drag_22 (by decide) (fun c4 => ?_) (fun c4 => ?_)
    · have h := it_p c4 h
      refine lv_aload_n hx hb dX3_drag_46 rfl (lv_at hl 0 rfl) ?_
      refine lv_iconst (v := 2) hx hb dX3_drag_47 (by decide) ?_
      obtain ⟨r5, h5, h⟩ := ob h
      refine call_i (v := r5.1) (wc := (gMo mh mb (mo.1, mo.2.1, 0, mo.2.2.2.1, mo.2.2.2.2.1, mo.2.2.2.2.2))) (wc' := (gMo mh mb r5.2)) (ws' := (gMo mh mb r5.2 ++ (gA t (mb 0) 71 fn ++ (gA t (mb 2) 426 pa)))) (cutB (bs := [gMo mh mb (mo.1, mo.2.1, 0, mo.2.2.2.1, mo.2.2.2.2.1, mo.2.2.2.2.2), gA t (mb 0) 71 fn, gA t (mb 2) 426 pa]) (cs := [gMo mh mb (mo.1, mo.2.1, 0, mo.2.2.2.1, mo.2.2.2.2.1, mo.2.2.2.2.2)]) (cs' := [gMo mh mb r5.2]) (bs' := [gMo mh mb r5.2, gA t (mb 0) 71 fn, gA t (mb 2) 426 pa]) [0] hP hD hS hA rfl rfl rfl rfl) hS (fun hPc hDc => va_runV (As := [.int 2]) (rest := []) ⟨hx, hb, hml, hown, hts⟩ (mtX3_fails l D t mh mb (mo.1, mo.2.1, 0, mo.2.2.2.1, mo.2.2.2.2.1, mo.2.2.2.2.2) 2 r5 h5 _) (cwV 1 hts (gBV kw121 kw122 kw123 kw5 kw124) rfl rfl rfl (by decide +kernel) ⟨Nat.le_of_ble_eq_true rfl, Nat.le_of_ble_eq_true rfl⟩) (sPc_V hPc hK hDc hE (va_recv hK hP (ci := 3) (q0 := 0) rfl rfl)) rfl rfl hl.1 rfl (lv_room (Nat.le_of_ble_eq_true rfl)) dX3_drag_48 ⟨Nat.zero_le _, Nat.zero_le _⟩) (fun H locs hP hD hS => ?_)
      obtain rfl := os h
      exact ret_i hx hb hr hlocks hP hK hD hS dX3_drag_51
    · have h := it_n c4 h
      refine lv_iload_n hx hb dX3_drag_25 rfl (lv_at hl 3 rfl) ?_
      refine lv_iload_n hx hb dX3_drag_26 rfl (lv_at hl 2 rfl) ?_
      refine lv_bipush (v := 23) hx hb dX3_drag_27 (by decide) ?_
      obtain ⟨r6, h6, h⟩ := ob h
      refine call_i (v := b2i r6) (wc := ([] : va_W)) (wc' := ([] : va_W)) (ws' := (gMo mh mb (mo.1, mo.2.1, 0, mo.2.2.2.1, mo.2.2.2.2.1, mo.2.2.2.2.2) ++ (gA t (mb 0) 71 fn ++ (gA t (mb 2) 426 pa)))) (cutB (bs := [gMo mh mb (mo.1, mo.2.1, 0, mo.2.2.2.1, mo.2.2.2.2.1, mo.2.2.2.2.2), gA t (mb 0) 71 fn, gA t (mb 2) 426 pa]) (cs := []) (cs' := []) (bs' := [gMo mh mb (mo.1, mo.2.1, 0, mo.2.2.2.1, mo.2.2.2.2.1, mo.2.2.2.2.2), gA t (mb 0) 71 fn, gA t (mb 2) 426 pa]) [] hP hD hS hA rfl rfl rfl rfl) hS (fun hPc hDc => va_runS (As := [.int k2, .int k1, .int 23]) (rest := []) ⟨hx, hb, hml, hown, hts⟩ (mtX3_in l D t k2 k1 23 r6 h6 _) (va_cwS 3 hts (gBS kw118 kw119 kw5 kw120) rfl rfl rfl (by decide +kernel) ⟨Nat.le_of_ble_eq_true rfl, Nat.le_of_ble_eq_true rfl⟩) (sPc_S hPc hK hDc hE) rfl rfl hl.1 rfl (lv_room (Nat.le_of_ble_eq_true rfl)) dX3_drag_29 ⟨Nat.zero_le _, Nat.zero_le _⟩) (fun H locs hP hD hS => ?_)
      refine lv_if_eq (tgt := 46) hx hb dX3_drag_32 (by decide) (fun c7 => ?_) (fun c7 => ?_)
      · have h := it_p c7 h
        refine lv_aload_n hx hb dX3_drag_46 rfl (lv_at hl 0 rfl) ?_
        refine lv_iconst (v := 2) hx hb dX3_drag_47 (by decide) ?_
        obtain ⟨r8, h8, h⟩ := ob h
        refine call_i (v := r8.1) (wc := (gMo mh mb (mo.1, mo.2.1, 0, mo.2.2.2.1, mo.2.2.2.2.1, mo.2.2.2.2.2))) (wc' := (gMo mh mb r8.2)) (ws' := (gMo mh mb r8.2 ++ (gA t (mb 0) 71 fn ++ (gA t (mb 2) 426 pa)))) (cutB (bs := [gMo mh mb (mo.1, mo.2.1, 0, mo.2.2.2.1, mo.2.2.2.2.1, mo.2.2.2.2.2), gA t (mb 0) 71 fn, gA t (mb 2) 426 pa]) (cs := [gMo mh mb (mo.1, mo.2.1, 0, mo.2.2.2.1, mo.2.2.2.2.1, mo.2.2.2.2.2)]) (cs' := [gMo mh mb r8.2]) (bs' := [gMo mh mb r8.2, gA t (mb 0) 71 fn, gA t (mb 2) 426 pa]) [0] hP hD hS hA rfl rfl rfl rfl) hS (fun hPc hDc => va_runV (As := [.int 2]) (rest := []) ⟨hx, hb, hml, hown, hts⟩ (mtX3_fails l D t mh mb (mo.1, mo.2.1, 0, mo.2.2.2.1, mo.2.2.2.2.1, mo.2.2.2.2.2) 2 r8 h8 _) (cwV 1 hts (gBV kw121 kw122 kw123 kw5 kw124) rfl rfl rfl (by decide +kernel) ⟨Nat.le_of_ble_eq_true rfl, Nat.le_of_ble_eq_true rfl⟩) (sPc_V hPc hK hDc hE (va_recv hK hP (ci := 3) (q0 := 0) rfl rfl)) rfl rfl hl.1 rfl (lv_room (Nat.le_of_ble_eq_true rfl)) dX3_drag_48 ⟨Nat.zero_le _, Nat.zero_le _⟩) (fun H locs hP hD hS => ?_)
        obtain rfl := os h
        exact ret_i hx hb hr hlocks hP hK hD hS dX3_drag_51
      · have h := it_n c7 h
        refine lv_iload hx hb dX3_drag_35 (lv_at hl 4 rfl) ?_
        refine lv_iconst (v := 0) hx hb dX3_drag_37 (by decide) ?_
        refine lv_bipush (v := 50) hx hb dX3_drag_38 (by decide) ?_
        obtain ⟨r9, h9, h⟩ := ob h
        refine call_i (v := b2i r9) (wc := ([] : va_W)) (wc' := ([] : va_W)) (ws' := (gMo mh mb (mo.1, mo.2.1, 0, mo.2.2.2.1, mo.2.2.2.2.1, mo.2.2.2.2.2) ++ (gA t (mb 0) 71 fn ++ (gA t (mb 2) 426 pa)))) (cutB (bs := [gMo mh mb (mo.1, mo.2.1, 0, mo.2.2.2.1, mo.2.2.2.2.1, mo.2.2.2.2.2), gA t (mb 0) 71 fn, gA t (mb 2) 426 pa]) (cs := []) (cs' := []) (bs' := [gMo mh mb (mo.1, mo.2.1, 0, mo.2.2.2.1, mo.2.2.2.2.1, mo.2.2.2.2.2), gA t (mb 0) 71 fn, gA t (mb 2) 426 pa]) [] hP hD hS hA rfl rfl rfl rfl) hS (fun hPc hDc => va_runS (As := [.int dr, .int 0, .int 50]) (rest := []) ⟨hx, hb, hml, hown, hts⟩ (mtX3_in l D t dr 0 50 r9 h9 _) (va_cwS 3 hts (gBS kw118 kw119 kw5 kw120) rfl rfl rfl (by decide +kernel) ⟨Nat.le_of_ble_eq_true rfl, Nat.le_of_ble_eq_true rfl⟩) (sPc_S hPc hK hDc hE) rfl rfl hl.1 rfl (lv_room (Nat.le_of_ble_eq_true rfl)) dX3_drag_40 ⟨Nat.zero_le _, Nat.zero_le _⟩) (fun H locs hP hD hS => ?_)
        refine lv_if_ne (tgt := 52) hx hb dX3_drag_43 (by decide) (fun c10 => ?_) (fun c10 => ?_)
        · have h := it_n c10 h
          refine lv_aload_n hx hb dX3_drag_52 rfl (lv_at hl 0 rfl) ?_
          obtain ⟨r11, h11, h⟩ := ob h
          refine call_v (wc := (gMo mh mb (mo.1, mo.2.1, 0, mo.2.2.2.1, mo.2.2.2.2.1, mo.2.2.2.2.2) ++ (gA t (mb 0) 71 fn ++ (gA t (mb 2) 426 pa)))) (wc' := (gMo mh mb r11.1 ++ (gA t (mb 0) 71 fn ++ (gA t (mb 2) 426 r11.2)))) (ws' := (gMo mh mb r11.1 ++ (gA t (mb 0) 71 fn ++ (gA t (mb 2) 426 r11.2)))) (cutB (bs := [gMo mh mb (mo.1, mo.2.1, 0, mo.2.2.2.1, mo.2.2.2.2.1, mo.2.2.2.2.2), gA t (mb 0) 71 fn, gA t (mb 2) 426 pa]) (cs := [gMo mh mb (mo.1, mo.2.1, 0, mo.2.2.2.1, mo.2.2.2.2.1, mo.2.2.2.2.2), gA t (mb 0) 71 fn, gA t (mb 2) 426 pa]) (cs' := [gMo mh mb r11.1, gA t (mb 0) 71 fn, gA t (mb 2) 426 r11.2]) (bs' := [gMo mh mb r11.1, gA t (mb 0) 71 fn, gA t (mb 2) 426 r11.2]) [0, 1, 2] hP hD hS hA rfl rfl rfl rfl) hS (fun hPc hDc => va_runV (As := []) (rest := []) ⟨hx, hb, hml, hown, hts⟩ (mtX3_saves l D t mh mb (mo.1, mo.2.1, 0, mo.2.2.2.1, mo.2.2.2.2.1, mo.2.2.2.2.2) fn pa r11 h11 _) (cwV 0 hts (gBV kw125 kw126 kw127 kw5 kw128) rfl rfl rfl (by decide +kernel) ⟨Nat.le_of_ble_eq_true rfl, Nat.le_of_ble_eq_true rfl⟩) (sPc_V hPc hK hDc hE (va_recv hK hP (ci := 3) (q0 := 0) rfl rfl)) rfl rfl hl.1 rfl (lv_room (Nat.le_of_ble_eq_true rfl)) dX3_drag_53 ⟨Nat.zero_le _, Nat.zero_le _⟩) (fun H locs hP hD hS => ?_)
          refine lv_iconst (v := 0) hx hb dX3_drag_56 (by decide) ?_
          refine lv_istore (lv' := [(5, .int 0), (0, .ref mh), (1, .int cu), (2, .int k1), (3, .int k2), (4, .int dr)]) hx hb dX3_drag_57 hl (by decide) rfl (fun ls hl => ?_)
          refine lv_iload_n hx hb dX3_drag_59 rfl (lv_at hl 3 rfl) ?_
          refine lv_istore (lv' := [(6, .int k1), (5, .int 0), (0, .ref mh), (1, .int cu), (2, .int k1), (3, .int k2), (4, .int dr)]) hx hb dX3_drag_60 hl (by decide) rfl (fun ls hl => ?_)
          exact J62 2000 (r11.1, fn, r11.2, cu, k2, dr, 0, k1) h _ _ hP hD hS _ (lv_sub hl [2, 3, 5, 6, 1, 0] rfl)
        · have h := it_p c10 h
          refine lv_aload_n hx hb dX3_drag_46 rfl (lv_at hl 0 rfl) ?_
          refine lv_iconst (v := 2) hx hb dX3_drag_47 (by decide) ?_
          obtain ⟨r12, h12, h⟩ := ob h
          refine call_i (v := r12.1) (wc := (gMo mh mb (mo.1, mo.2.1, 0, mo.2.2.2.1, mo.2.2.2.2.1, mo.2.2.2.2.2))) (wc' := (gMo mh mb r12.2)) (ws' := (gMo mh mb r12.2 ++ (gA t (mb 0) 71 fn ++ (gA t (mb 2) 426 pa)))) (cutB (bs := [gMo mh mb (mo.1, mo.2.1, 0, mo.2.2.2.1, mo.2.2.2.2.1, mo.2.2.2.2.2), gA t (mb 0) 71 fn, gA t (mb 2) 426 pa]) (cs := [gMo mh mb (mo.1, mo.2.1, 0, mo.2.2.2.1, mo.2.2.2.2.1, mo.2.2.2.2.2)]) (cs' := [gMo mh mb r12.2]) (bs' := [gMo mh mb r12.2, gA t (mb 0) 71 fn, gA t (mb 2) 426 pa]) [0] hP hD hS hA rfl rfl rfl rfl) hS (fun hPc hDc => va_runV (As := [.int 2]) (rest := []) ⟨hx, hb, hml, hown, hts⟩ (mtX3_fails l D t mh mb (mo.1, mo.2.1, 0, mo.2.2.2.1, mo.2.2.2.2.1, mo.2.2.2.2.2) 2 r12 h12 _) (cwV 1 hts (gBV kw121 kw122 kw123 kw5 kw124) rfl rfl rfl (by decide +kernel) ⟨Nat.le_of_ble_eq_true rfl, Nat.le_of_ble_eq_true rfl⟩) (sPc_V hPc hK hDc hE (va_recv hK hP (ci := 3) (q0 := 0) rfl rfl)) rfl rfl hl.1 rfl (lv_room (Nat.le_of_ble_eq_true rfl)) dX3_drag_48 ⟨Nat.zero_le _, Nat.zero_le _⟩) (fun H locs hP hD hS => ?_)
          obtain rfl := os h
          exact ret_i hx hb hr hlocks hP hK hD hS dX3_drag_51
  · have h := it_p c2 h
    refine lv_aload_n hx hb dX3_drag_12 rfl (lv_at hl 0 rfl) ?_
    refine lv_iconst (v := 1) hx hb dX3_drag_13 (by decide) ?_
    obtain ⟨r13, h13, h⟩ := ob h
    refine call_i (v := r13.1) (wc := (gMo mh mb (mo.1, mo.2.1, 0, mo.2.2.2.1, mo.2.2.2.2.1, mo.2.2.2.2.2))) (wc' := (gMo mh mb r13.2)) (ws' := (gMo mh mb r13.2 ++ (gA t (mb 0) 71 fn ++ (gA t (mb 2) 426 pa)))) (cutB (bs := [gMo mh mb (mo.1, mo.2.1, 0, mo.2.2.2.1, mo.2.2.2.2.1, mo.2.2.2.2.2), gA t (mb 0) 71 fn, gA t (mb 2) 426 pa]) (cs := [gMo mh mb (mo.1, mo.2.1, 0, mo.2.2.2.1, mo.2.2.2.2.1, mo.2.2.2.2.2)]) (cs' := [gMo mh mb r13.2]) (bs' := [gMo mh mb r13.2, gA t (mb 0) 71 fn, gA t (mb 2) 426 pa]) [0] hP hD hS hA rfl rfl rfl rfl) hS (fun hPc hDc => va_runV (As := [.int 1]) (rest := []) ⟨hx, hb, hml, hown, hts⟩ (mtX3_fails l D t mh mb (mo.1, mo.2.1, 0, mo.2.2.2.1, mo.2.2.2.2.1, mo.2.2.2.2.2) 1 r13 h13 _) (cwV 1 hts (gBV kw121 kw122 kw123 kw5 kw124) rfl rfl rfl (by decide +kernel) ⟨Nat.le_of_ble_eq_true rfl, Nat.le_of_ble_eq_true rfl⟩) (sPc_V hPc hK hDc hE (va_recv hK hP (ci := 3) (q0 := 0) rfl rfl)) rfl rfl hl.1 rfl (lv_room (Nat.le_of_ble_eq_true rfl)) dX3_drag_14 ⟨Nat.zero_le _, Nat.zero_le _⟩) (fun H locs hP hD hS => ?_)
    obtain rfl := os h
    exact ret_i hx hb hr hlocks hP hK hD hS dX3_drag_17

theorem dX3_clean_0 : decode cX3_clean 0 = .ok (.aload_n 0, 1) := by decide +kernel
theorem dX3_clean_1 : decode cX3_clean 1 = .ok (.iconst 0, 1) := by decide +kernel
theorem dX3_clean_2 : decode cX3_clean 2 = .ok (.putfield 34, 3) := by decide +kernel
theorem dX3_clean_5 : decode cX3_clean 5 = .ok (.iload_n 1, 1) := by decide +kernel
theorem dX3_clean_6 : decode cX3_clean 6 = .ok (.invokestatic 79, 3) := by decide +kernel
theorem dX3_clean_9 : decode cX3_clean 9 = .ok (.ifCond .ne 9, 3) := by decide +kernel
theorem dX3_clean_12 : decode cX3_clean 12 = .ok (.aload_n 0, 1) := by decide +kernel
theorem dX3_clean_13 : decode cX3_clean 13 = .ok (.iconst 1, 1) := by decide +kernel
theorem dX3_clean_14 : decode cX3_clean 14 = .ok (.invokevirtual 49, 3) := by decide +kernel
theorem dX3_clean_17 : decode cX3_clean 17 = .ok (.ireturn, 1) := by decide +kernel
theorem dX3_clean_18 : decode cX3_clean 18 = .ok (.aload_n 0, 1) := by decide +kernel
theorem dX3_clean_19 : decode cX3_clean 19 = .ok (.invokevirtual 83, 3) := by decide +kernel
theorem dX3_clean_22 : decode cX3_clean 22 = .ok (.aload_n 0, 1) := by decide +kernel
theorem dX3_clean_23 : decode cX3_clean 23 = .ok (.bipush 6, 2) := by decide +kernel
theorem dX3_clean_25 : decode cX3_clean 25 = .ok (.iload_n 1, 1) := by decide +kernel
theorem dX3_clean_26 : decode cX3_clean 26 = .ok (.iadd, 1) := by decide +kernel
theorem dX3_clean_27 : decode cX3_clean 27 = .ok (.iconst 0, 1) := by decide +kernel
theorem dX3_clean_28 : decode cX3_clean 28 = .ok (.invokevirtual 86, 3) := by decide +kernel
theorem dX3_clean_31 : decode cX3_clean 31 = .ok (.ireturn, 1) := by decide +kernel
abbrev zX3_clean : List Cond := .code yX3_clean cX3_clean 2 (some .int) :: BIG
def fX3_clean (mo : MoT) (fn : (Nat → Int32)) (pa : (Nat → Int32)) (cu : Int32) : Option (Int32 × MoT × (Nat → Int32) × (Nat → Int32)) := (fX3_isCurtain cu).bind (fun r1 => (if (b2i r1) = 0 then (fX3_fails (mo.1, mo.2.1, 0, mo.2.2.2.1, mo.2.2.2.2.1, mo.2.2.2.2.2) 1).bind (fun r5 => some (r5.1, r5.2, fn, pa)) else (fX3_saves (mo.1, mo.2.1, 0, mo.2.2.2.1, mo.2.2.2.2.1, mo.2.2.2.2.2) fn pa).bind (fun r3 => (fX3_changes r3.1 fn (6 + cu) 0).bind (fun r4 => some (r4.1, r3.1, r4.2, r3.2)))))
set_option maxHeartbeats 4000000 in
set_option maxRecDepth 100000 in
theorem mtX3_clean (l : Launch) (D : va_G) (t : Nat → ClassId) (mh : Nat) (mb : Nat → Nat) (mo : MoT) (fn : (Nat → Int32)) (pa : (Nat → Int32)) (cu : Int32) (out : Int32 × MoT × (Nat → Int32) × (Nat → Int32)) (h : fX3_clean mo fn pa cu = some out)  (sz : Nat) : Met l yX3_clean zX3_clean ({ frames := 2, cells := 0, slots := 0, locals := 45 }) (sPc D t (gMo mh mb mo ++ (gA t (mb 0) 71 fn ++ (gA t (mb 2) 426 pa))) sz [.ref mh, .int cu]) (qI D t (gMo mh mb out.2.1 ++ (gA t (mb 0) 71 out.2.2.1 ++ (gA t (mb 2) 426 out.2.2.2))) out.1 (va_A (gMo mh mb mo ++ (gA t (mb 0) 71 fn ++ (gA t (mb 2) 426 pa))) sz)) 0 0 (va_A (gMo mh mb mo ++ (gA t (mb 0) 71 fn ++ (gA t (mb 2) 426 pa))) sz) := by
  refine met_of (Qf := fun A => qI D t (gMo mh mb out.2.1 ++ (gA t (mb 0) 71 out.2.2.1 ++ (gA t (mb 2) 426 out.2.2.2))) out.1 A) (cc := cX3_clean) (maxL := 2) (ret := some .int) (by decide) rfl (Nat.le_of_ble_eq_true rfl) ?_
  intro p e s m args below meth c A hx hb hr hml hts hown hlocks hA hP hK hD hE hS ls hl
  have htB : ∀ w ∈ BIG, w.before args s = true := fun w h => hts w (List.mem_cons_of_mem _ h)
  have hown : s.vm.findClass RX3 = some m.cls := hown
  have hl : lv_has ls 2 [(0, .ref mh), (1, .int cu)] := hl
  unfold fX3_clean at h
  refine lv_aload_n hx hb dX3_clean_0 rfl (lv_at hl 0 rfl) ?_
  refine lv_iconst (v := 0) hx hb dX3_clean_1 (by decide) ?_
  refine va_put (D := D) (ci := 3) (v := .int 0) (ty := .int) (C := RX3) (T := TX3) (N := 14) hx hb htB inlX3 tyX3 tyX3_ok nmX3 hown hK hP hD hS 0 rfl rfl 6 (by decide) (htB _ kw114) (fun _ h9 => h9) rfl (by decide +kernel) rfl rfl (Nat.le_of_ble_eq_true rfl) dX3_clean_2 (fun H locs hP hD hS => ?_)
  have hP : va_P D vwCl (gMo mh mb (mo.1, mo.2.1, 0, mo.2.2.2.1, mo.2.2.2.2.1, mo.2.2.2.2.2) ++ (gA t (mb 0) 71 fn ++ (gA t (mb 2) 426 pa))) H := hP
  have hD : va_D A (gMo mh mb (mo.1, mo.2.1, 0, mo.2.2.2.1, mo.2.2.2.2.1, mo.2.2.2.2.2) ++ (gA t (mb 0) 71 fn ++ (gA t (mb 2) 426 pa))) := hD
  refine lv_iload_n hx hb dX3_clean_5 rfl (lv_at hl 1 rfl) ?_
  obtain ⟨r1, h1, h⟩ := ob h
  refine call_i (v := b2i r1) (wc := ([] : va_W)) (wc' := ([] : va_W)) (ws' := (gMo mh mb (mo.1, mo.2.1, 0, mo.2.2.2.1, mo.2.2.2.2.1, mo.2.2.2.2.2) ++ (gA t (mb 0) 71 fn ++ (gA t (mb 2) 426 pa)))) (cutB (bs := [gMo mh mb (mo.1, mo.2.1, 0, mo.2.2.2.1, mo.2.2.2.2.1, mo.2.2.2.2.2), gA t (mb 0) 71 fn, gA t (mb 2) 426 pa]) (cs := []) (cs' := []) (bs' := [gMo mh mb (mo.1, mo.2.1, 0, mo.2.2.2.1, mo.2.2.2.2.1, mo.2.2.2.2.2), gA t (mb 0) 71 fn, gA t (mb 2) 426 pa]) [] hP hD hS hA rfl rfl rfl rfl) hS (fun hPc hDc => va_runS (As := [.int cu]) (rest := []) ⟨hx, hb, hml, hown, hts⟩ (mtX3_isCurtain l D t cu r1 h1 _) (va_cwS 1 hts (gBS kw115 kw116 kw5 kw117) rfl rfl rfl (by decide +kernel) ⟨Nat.le_of_ble_eq_true rfl, Nat.le_of_ble_eq_true rfl⟩) (sPc_S hPc hK hDc hE) rfl rfl hl.1 rfl (lv_room (Nat.le_of_ble_eq_true rfl)) dX3_clean_6 ⟨Nat.zero_le _, Nat.zero_le _⟩) (fun H locs hP hD hS => ?_)
  refine lv_if_ne (tgt := 18) hx hb dX3_clean_9 (by decide) (fun c2 => ?_) (fun c2 => ?_)
  · have h := it_n c2 h
    refine lv_aload_n hx hb dX3_clean_18 rfl (lv_at hl 0 rfl) ?_
    obtain ⟨r3, h3, h⟩ := ob h
    refine call_v (wc := (gMo mh mb (mo.1, mo.2.1, 0, mo.2.2.2.1, mo.2.2.2.2.1, mo.2.2.2.2.2) ++ (gA t (mb 0) 71 fn ++ (gA t (mb 2) 426 pa)))) (wc' := (gMo mh mb r3.1 ++ (gA t (mb 0) 71 fn ++ (gA t (mb 2) 426 r3.2)))) (ws' := (gMo mh mb r3.1 ++ (gA t (mb 0) 71 fn ++ (gA t (mb 2) 426 r3.2)))) (cutB (bs := [gMo mh mb (mo.1, mo.2.1, 0, mo.2.2.2.1, mo.2.2.2.2.1, mo.2.2.2.2.2), gA t (mb 0) 71 fn, gA t (mb 2) 426 pa]) (cs := [gMo mh mb (mo.1, mo.2.1, 0, mo.2.2.2.1, mo.2.2.2.2.1, mo.2.2.2.2.2), gA t (mb 0) 71 fn, gA t (mb 2) 426 pa]) (cs' := [gMo mh mb r3.1, gA t (mb 0) 71 fn, gA t (mb 2) 426 r3.2]) (bs' := [gMo mh mb r3.1, gA t (mb 0) 71 fn, gA t (mb 2) 426 r3.2]) [0, 1, 2] hP hD hS hA rfl rfl rfl rfl) hS (fun hPc hDc => va_runV (As := []) (rest := []) ⟨hx, hb, hml, hown, hts⟩ (mtX3_saves l D t mh mb (mo.1, mo.2.1, 0, mo.2.2.2.1, mo.2.2.2.2.1, mo.2.2.2.2.2) fn pa r3 h3 _) (cwV 0 hts (gBV kw125 kw126 kw127 kw5 kw128) rfl rfl rfl (by decide +kernel) ⟨Nat.le_of_ble_eq_true rfl, Nat.le_of_ble_eq_true rfl⟩) (sPc_V hPc hK hDc hE (va_recv hK hP (ci := 3) (q0 := 0) rfl rfl)) rfl rfl hl.1 rfl (lv_room (Nat.le_of_ble_eq_true rfl)) dX3_clean_19 ⟨Nat.zero_le _, Nat.zero_le _⟩) (fun H locs hP hD hS => ?_)
    refine lv_aload_n hx hb dX3_clean_22 rfl (lv_at hl 0 rfl) ?_
    refine lv_bipush (v := 6) hx hb dX3_clean_23 (by decide) ?_
    refine lv_iload_n hx hb dX3_clean_25 rfl (lv_at hl 1 rfl) ?_
    refine lv_iadd hx hb dX3_clean_26 ?_
    refine lv_iconst (v := 0) hx hb dX3_clean_27 (by decide) ?_
    obtain ⟨r4, h4, h⟩ := ob h
    refine call_i (v := r4.1) (wc := (gMo mh mb r3.1 ++ (gA t (mb 0) 71 fn))) (wc' := (gMo mh mb r3.1 ++ (gA t (mb 0) 71 r4.2))) (ws' := (gMo mh mb r3.1 ++ (gA t (mb 0) 71 r4.2 ++ (gA t (mb 2) 426 r3.2)))) (cutB (bs := [gMo mh mb r3.1, gA t (mb 0) 71 fn, gA t (mb 2) 426 r3.2]) (cs := [gMo mh mb r3.1, gA t (mb 0) 71 fn]) (cs' := [gMo mh mb r3.1, gA t (mb 0) 71 r4.2]) (bs' := [gMo mh mb r3.1, gA t (mb 0) 71 r4.2, gA t (mb 2) 426 r3.2]) [0, 1] hP hD hS hA rfl rfl rfl rfl) hS (fun hPc hDc => va_runV (As := [.int (6 + cu), .int 0]) (rest := []) ⟨hx, hb, hml, hown, hts⟩ (mtX3_changes l D t mh mb r3.1 fn (6 + cu) 0 r4 h4 _) (cwV 2 hts (gBV kw133 kw134 kw135 kw5 kw136) rfl rfl rfl (by decide +kernel) ⟨Nat.le_of_ble_eq_true rfl, Nat.le_of_ble_eq_true rfl⟩) (sPc_V hPc hK hDc hE (va_recv hK hP (ci := 3) (q0 := 0) rfl rfl)) rfl rfl hl.1 rfl (lv_room (Nat.le_of_ble_eq_true rfl)) dX3_clean_28 ⟨Nat.zero_le _, Nat.zero_le _⟩) (fun H locs hP hD hS => ?_)
    obtain rfl := os h
    exact ret_i hx hb hr hlocks hP hK hD hS dX3_clean_31
  · have h := it_p c2 h
    refine lv_aload_n hx hb dX3_clean_12 rfl (lv_at hl 0 rfl) ?_
    refine lv_iconst (v := 1) hx hb dX3_clean_13 (by decide) ?_
    obtain ⟨r5, h5, h⟩ := ob h
    refine call_i (v := r5.1) (wc := (gMo mh mb (mo.1, mo.2.1, 0, mo.2.2.2.1, mo.2.2.2.2.1, mo.2.2.2.2.2))) (wc' := (gMo mh mb r5.2)) (ws' := (gMo mh mb r5.2 ++ (gA t (mb 0) 71 fn ++ (gA t (mb 2) 426 pa)))) (cutB (bs := [gMo mh mb (mo.1, mo.2.1, 0, mo.2.2.2.1, mo.2.2.2.2.1, mo.2.2.2.2.2), gA t (mb 0) 71 fn, gA t (mb 2) 426 pa]) (cs := [gMo mh mb (mo.1, mo.2.1, 0, mo.2.2.2.1, mo.2.2.2.2.1, mo.2.2.2.2.2)]) (cs' := [gMo mh mb r5.2]) (bs' := [gMo mh mb r5.2, gA t (mb 0) 71 fn, gA t (mb 2) 426 pa]) [0] hP hD hS hA rfl rfl rfl rfl) hS (fun hPc hDc => va_runV (As := [.int 1]) (rest := []) ⟨hx, hb, hml, hown, hts⟩ (mtX3_fails l D t mh mb (mo.1, mo.2.1, 0, mo.2.2.2.1, mo.2.2.2.2.1, mo.2.2.2.2.2) 1 r5 h5 _) (cwV 1 hts (gBV kw121 kw122 kw123 kw5 kw124) rfl rfl rfl (by decide +kernel) ⟨Nat.le_of_ble_eq_true rfl, Nat.le_of_ble_eq_true rfl⟩) (sPc_V hPc hK hDc hE (va_recv hK hP (ci := 3) (q0 := 0) rfl rfl)) rfl rfl hl.1 rfl (lv_room (Nat.le_of_ble_eq_true rfl)) dX3_clean_14 ⟨Nat.zero_le _, Nat.zero_le _⟩) (fun H locs hP hD hS => ?_)
    obtain rfl := os h
    exact ret_i hx hb hr hlocks hP hK hD hS dX3_clean_17

theorem dX3_correct_0 : decode cX3_correct 0 = .ok (.aload_n 0, 1) := by decide +kernel
theorem dX3_correct_1 : decode cX3_correct 1 = .ok (.iconst 0, 1) := by decide +kernel
theorem dX3_correct_2 : decode cX3_correct 2 = .ok (.putfield 34, 3) := by decide +kernel
theorem dX3_correct_5 : decode cX3_correct 5 = .ok (.iload_n 1, 1) := by decide +kernel
theorem dX3_correct_6 : decode cX3_correct 6 = .ok (.invokestatic 92, 3) := by decide +kernel
theorem dX3_correct_9 : decode cX3_correct 9 = .ok (.ifCond .ne 9, 3) := by decide +kernel
theorem dX3_correct_12 : decode cX3_correct 12 = .ok (.aload_n 0, 1) := by decide +kernel
theorem dX3_correct_13 : decode cX3_correct 13 = .ok (.iconst 1, 1) := by decide +kernel
theorem dX3_correct_14 : decode cX3_correct 14 = .ok (.invokevirtual 49, 3) := by decide +kernel
theorem dX3_correct_17 : decode cX3_correct 17 = .ok (.ireturn, 1) := by decide +kernel
theorem dX3_correct_18 : decode cX3_correct 18 = .ok (.iload_n 2, 1) := by decide +kernel
theorem dX3_correct_19 : decode cX3_correct 19 = .ok (.bipush (-50), 2) := by decide +kernel
theorem dX3_correct_21 : decode cX3_correct 21 = .ok (.bipush 50, 2) := by decide +kernel
theorem dX3_correct_23 : decode cX3_correct 23 = .ok (.invokestatic 38, 3) := by decide +kernel
theorem dX3_correct_26 : decode cX3_correct 26 = .ok (.ifCond .ne 9, 3) := by decide +kernel
theorem dX3_correct_29 : decode cX3_correct 29 = .ok (.aload_n 0, 1) := by decide +kernel
theorem dX3_correct_30 : decode cX3_correct 30 = .ok (.iconst 2, 1) := by decide +kernel
theorem dX3_correct_31 : decode cX3_correct 31 = .ok (.invokevirtual 49, 3) := by decide +kernel
theorem dX3_correct_34 : decode cX3_correct 34 = .ok (.ireturn, 1) := by decide +kernel
theorem dX3_correct_35 : decode cX3_correct 35 = .ok (.aload_n 0, 1) := by decide +kernel
theorem dX3_correct_36 : decode cX3_correct 36 = .ok (.invokevirtual 83, 3) := by decide +kernel
theorem dX3_correct_39 : decode cX3_correct 39 = .ok (.aload_n 0, 1) := by decide +kernel
theorem dX3_correct_40 : decode cX3_correct 40 = .ok (.bipush 8, 2) := by decide +kernel
theorem dX3_correct_42 : decode cX3_correct 42 = .ok (.iload_n 1, 1) := by decide +kernel
theorem dX3_correct_43 : decode cX3_correct 43 = .ok (.iadd, 1) := by decide +kernel
theorem dX3_correct_44 : decode cX3_correct 44 = .ok (.iload_n 2, 1) := by decide +kernel
theorem dX3_correct_45 : decode cX3_correct 45 = .ok (.invokevirtual 86, 3) := by decide +kernel
theorem dX3_correct_48 : decode cX3_correct 48 = .ok (.bipush 100, 2) := by decide +kernel
theorem dX3_correct_50 : decode cX3_correct 50 = .ok (.iadd, 1) := by decide +kernel
theorem dX3_correct_51 : decode cX3_correct 51 = .ok (.ireturn, 1) := by decide +kernel
abbrev zX3_correct : List Cond := .code yX3_correct cX3_correct 3 (some .int) :: BIG
def fX3_correct (mo : MoT) (fn : (Nat → Int32)) (pa : (Nat → Int32)) (v : Int32) (w : Int32) : Option (Int32 × MoT × (Nat → Int32) × (Nat → Int32)) := (fX3_isSpeed v).bind (fun r1 => (if (b2i r1) = 0 then (fX3_fails (mo.1, mo.2.1, 0, mo.2.2.2.1, mo.2.2.2.2.1, mo.2.2.2.2.2) 1).bind (fun r8 => some (r8.1, r8.2, fn, pa)) else (fX3_in w (-50) 50).bind (fun r3 => (if (b2i r3) = 0 then (fX3_fails (mo.1, mo.2.1, 0, mo.2.2.2.1, mo.2.2.2.2.1, mo.2.2.2.2.2) 2).bind (fun r7 => some (r7.1, r7.2, fn, pa)) else (fX3_saves (mo.1, mo.2.1, 0, mo.2.2.2.1, mo.2.2.2.2.1, mo.2.2.2.2.2) fn pa).bind (fun r5 => (fX3_changes r5.1 fn (8 + v) w).bind (fun r6 => some (r6.1 + 100, r5.1, r6.2, r5.2)))))))
set_option maxHeartbeats 4000000 in
set_option maxRecDepth 100000 in
theorem mtX3_correct (l : Launch) (D : va_G) (t : Nat → ClassId) (mh : Nat) (mb : Nat → Nat) (mo : MoT) (fn : (Nat → Int32)) (pa : (Nat → Int32)) (v : Int32) (w : Int32) (out : Int32 × MoT × (Nat → Int32) × (Nat → Int32)) (h : fX3_correct mo fn pa v w = some out)  (sz : Nat) : Met l yX3_correct zX3_correct ({ frames := 2, cells := 0, slots := 0, locals := 45 }) (sPc D t (gMo mh mb mo ++ (gA t (mb 0) 71 fn ++ (gA t (mb 2) 426 pa))) sz [.ref mh, .int v, .int w]) (qI D t (gMo mh mb out.2.1 ++ (gA t (mb 0) 71 out.2.2.1 ++ (gA t (mb 2) 426 out.2.2.2))) out.1 (va_A (gMo mh mb mo ++ (gA t (mb 0) 71 fn ++ (gA t (mb 2) 426 pa))) sz)) 0 0 (va_A (gMo mh mb mo ++ (gA t (mb 0) 71 fn ++ (gA t (mb 2) 426 pa))) sz) := by
  refine met_of (Qf := fun A => qI D t (gMo mh mb out.2.1 ++ (gA t (mb 0) 71 out.2.2.1 ++ (gA t (mb 2) 426 out.2.2.2))) out.1 A) (cc := cX3_correct) (maxL := 3) (ret := some .int) (by decide) rfl (Nat.le_of_ble_eq_true rfl) ?_
  intro p e s m args below meth c A hx hb hr hml hts hown hlocks hA hP hK hD hE hS ls hl
  have htB : ∀ w ∈ BIG, w.before args s = true := fun w h => hts w (List.mem_cons_of_mem _ h)
  have hown : s.vm.findClass RX3 = some m.cls := hown
  have hl : lv_has ls 3 [(0, .ref mh), (1, .int v), (2, .int w)] := hl
  unfold fX3_correct at h
  refine lv_aload_n hx hb dX3_correct_0 rfl (lv_at hl 0 rfl) ?_
  refine lv_iconst (v := 0) hx hb dX3_correct_1 (by decide) ?_
  refine va_put (D := D) (ci := 3) (v := .int 0) (ty := .int) (C := RX3) (T := TX3) (N := 14) hx hb htB inlX3 tyX3 tyX3_ok nmX3 hown hK hP hD hS 0 rfl rfl 6 (by decide) (htB _ kw114) (fun _ h9 => h9) rfl (by decide +kernel) rfl rfl (Nat.le_of_ble_eq_true rfl) dX3_correct_2 (fun H locs hP hD hS => ?_)
  have hP : va_P D vwCl (gMo mh mb (mo.1, mo.2.1, 0, mo.2.2.2.1, mo.2.2.2.2.1, mo.2.2.2.2.2) ++ (gA t (mb 0) 71 fn ++ (gA t (mb 2) 426 pa))) H := hP
  have hD : va_D A (gMo mh mb (mo.1, mo.2.1, 0, mo.2.2.2.1, mo.2.2.2.2.1, mo.2.2.2.2.2) ++ (gA t (mb 0) 71 fn ++ (gA t (mb 2) 426 pa))) := hD
  refine lv_iload_n hx hb dX3_correct_5 rfl (lv_at hl 1 rfl) ?_
  obtain ⟨r1, h1, h⟩ := ob h
  refine call_i (v := b2i r1) (wc := ([] : va_W)) (wc' := ([] : va_W)) (ws' := (gMo mh mb (mo.1, mo.2.1, 0, mo.2.2.2.1, mo.2.2.2.2.1, mo.2.2.2.2.2) ++ (gA t (mb 0) 71 fn ++ (gA t (mb 2) 426 pa)))) (cutB (bs := [gMo mh mb (mo.1, mo.2.1, 0, mo.2.2.2.1, mo.2.2.2.2.1, mo.2.2.2.2.2), gA t (mb 0) 71 fn, gA t (mb 2) 426 pa]) (cs := []) (cs' := []) (bs' := [gMo mh mb (mo.1, mo.2.1, 0, mo.2.2.2.1, mo.2.2.2.2.1, mo.2.2.2.2.2), gA t (mb 0) 71 fn, gA t (mb 2) 426 pa]) [] hP hD hS hA rfl rfl rfl rfl) hS (fun hPc hDc => va_runS (As := [.int v]) (rest := []) ⟨hx, hb, hml, hown, hts⟩ (mtX3_isSpeed l D t v r1 h1 _) (va_cwS 1 hts (gBS kw186 kw187 kw5 kw188) rfl rfl rfl (by decide +kernel) ⟨Nat.le_of_ble_eq_true rfl, Nat.le_of_ble_eq_true rfl⟩) (sPc_S hPc hK hDc hE) rfl rfl hl.1 rfl (lv_room (Nat.le_of_ble_eq_true rfl)) dX3_correct_6 ⟨Nat.zero_le _, Nat.zero_le _⟩) (fun H locs hP hD hS => ?_)
  refine lv_if_ne (tgt := 18) hx hb dX3_correct_9 (by decide) (fun c2 => ?_) (fun c2 => ?_)
  · have h := it_n c2 h
    refine lv_iload_n hx hb dX3_correct_18 rfl (lv_at hl 2 rfl) ?_
    refine lv_bipush (v := (-50)) hx hb dX3_correct_19 (by decide) ?_
    refine lv_bipush (v := 50) hx hb dX3_correct_21 (by decide) ?_
    obtain ⟨r3, h3, h⟩ := ob h
    refine call_i (v := b2i r3) (wc := ([] : va_W)) (wc' := ([] : va_W)) (ws' := (gMo mh mb (mo.1, mo.2.1, 0, mo.2.2.2.1, mo.2.2.2.2.1, mo.2.2.2.2.2) ++ (gA t (mb 0) 71 fn ++ (gA t (mb 2) 426 pa)))) (cutB (bs := [gMo mh mb (mo.1, mo.2.1, 0, mo.2.2.2.1, mo.2.2.2.2.1, mo.2.2.2.2.2), gA t (mb 0) 71 fn, gA t (mb 2) 426 pa]) (cs := []) (cs' := []) (bs' := [gMo mh mb (mo.1, mo.2.1, 0, mo.2.2.2.1, mo.2.2.2.2.1, mo.2.2.2.2.2), gA t (mb 0) 71 fn, gA t (mb 2) 426 pa]) [] hP hD hS hA rfl rfl rfl rfl) hS (fun hPc hDc => va_runS (As := [.int w, .int (-50), .int 50]) (rest := []) ⟨hx, hb, hml, hown, hts⟩ (mtX3_in l D t w (-50) 50 r3 h3 _) (va_cwS 3 hts (gBS kw118 kw119 kw5 kw120) rfl rfl rfl (by decide +kernel) ⟨Nat.le_of_ble_eq_true rfl, Nat.le_of_ble_eq_true rfl⟩) (sPc_S hPc hK hDc hE) rfl rfl hl.1 rfl (lv_room (Nat.le_of_ble_eq_true rfl)) dX3_correct_23 ⟨Nat.zero_le _, Nat.zero_le _⟩) (fun H locs hP hD hS => ?_)
    refine lv_if_ne (tgt := 35) hx hb dX3_correct_26 (by decide) (fun c4 => ?_) (fun c4 => ?_)
    · have h := it_n c4 h
      refine lv_aload_n hx hb dX3_correct_35 rfl (lv_at hl 0 rfl) ?_
      obtain ⟨r5, h5, h⟩ := ob h
      refine call_v (wc := (gMo mh mb (mo.1, mo.2.1, 0, mo.2.2.2.1, mo.2.2.2.2.1, mo.2.2.2.2.2) ++ (gA t (mb 0) 71 fn ++ (gA t (mb 2) 426 pa)))) (wc' := (gMo mh mb r5.1 ++ (gA t (mb 0) 71 fn ++ (gA t (mb 2) 426 r5.2)))) (ws' := (gMo mh mb r5.1 ++ (gA t (mb 0) 71 fn ++ (gA t (mb 2) 426 r5.2)))) (cutB (bs := [gMo mh mb (mo.1, mo.2.1, 0, mo.2.2.2.1, mo.2.2.2.2.1, mo.2.2.2.2.2), gA t (mb 0) 71 fn, gA t (mb 2) 426 pa]) (cs := [gMo mh mb (mo.1, mo.2.1, 0, mo.2.2.2.1, mo.2.2.2.2.1, mo.2.2.2.2.2), gA t (mb 0) 71 fn, gA t (mb 2) 426 pa]) (cs' := [gMo mh mb r5.1, gA t (mb 0) 71 fn, gA t (mb 2) 426 r5.2]) (bs' := [gMo mh mb r5.1, gA t (mb 0) 71 fn, gA t (mb 2) 426 r5.2]) [0, 1, 2] hP hD hS hA rfl rfl rfl rfl) hS (fun hPc hDc => va_runV (As := []) (rest := []) ⟨hx, hb, hml, hown, hts⟩ (mtX3_saves l D t mh mb (mo.1, mo.2.1, 0, mo.2.2.2.1, mo.2.2.2.2.1, mo.2.2.2.2.2) fn pa r5 h5 _) (cwV 0 hts (gBV kw125 kw126 kw127 kw5 kw128) rfl rfl rfl (by decide +kernel) ⟨Nat.le_of_ble_eq_true rfl, Nat.le_of_ble_eq_true rfl⟩) (sPc_V hPc hK hDc hE (va_recv hK hP (ci := 3) (q0 := 0) rfl rfl)) rfl rfl hl.1 rfl (lv_room (Nat.le_of_ble_eq_true rfl)) dX3_correct_36 ⟨Nat.zero_le _, Nat.zero_le _⟩) (fun H locs hP hD hS => ?_)
      refine lv_aload_n hx hb dX3_correct_39 rfl (lv_at hl 0 rfl) ?_
      refine lv_bipush (v := 8) hx hb dX3_correct_40 (by decide) ?_
      refine lv_iload_n hx hb dX3_correct_42 rfl (lv_at hl 1 rfl) ?_
      refine lv_iadd hx hb dX3_correct_43 ?_
      refine lv_iload_n hx hb dX3_correct_44 rfl (lv_at hl 2 rfl) ?_
      obtain ⟨r6, h6, h⟩ := ob h
      refine call_i (v := r6.1) (wc := (gMo mh mb r5.1 ++ (gA t (mb 0) 71 fn))) (wc' := (gMo mh mb r5.1 ++ (gA t (mb 0) 71 r6.2))) (ws' := (gMo mh mb r5.1 ++ (gA t (mb 0) 71 r6.2 ++ (gA t (mb 2) 426 r5.2)))) (cutB (bs := [gMo mh mb r5.1, gA t (mb 0) 71 fn, gA t (mb 2) 426 r5.2]) (cs := [gMo mh mb r5.1, gA t (mb 0) 71 fn]) (cs' := [gMo mh mb r5.1, gA t (mb 0) 71 r6.2]) (bs' := [gMo mh mb r5.1, gA t (mb 0) 71 r6.2, gA t (mb 2) 426 r5.2]) [0, 1] hP hD hS hA rfl rfl rfl rfl) hS (fun hPc hDc => va_runV (As := [.int (8 + v), .int w]) (rest := []) ⟨hx, hb, hml, hown, hts⟩ (mtX3_changes l D t mh mb r5.1 fn (8 + v) w r6 h6 _) (cwV 2 hts (gBV kw133 kw134 kw135 kw5 kw136) rfl rfl rfl (by decide +kernel) ⟨Nat.le_of_ble_eq_true rfl, Nat.le_of_ble_eq_true rfl⟩) (sPc_V hPc hK hDc hE (va_recv hK hP (ci := 3) (q0 := 0) rfl rfl)) rfl rfl hl.1 rfl (lv_room (Nat.le_of_ble_eq_true rfl)) dX3_correct_45 ⟨Nat.zero_le _, Nat.zero_le _⟩) (fun H locs hP hD hS => ?_)
      refine lv_bipush (v := 100) hx hb dX3_correct_48 (by decide) ?_
      refine lv_iadd hx hb dX3_correct_50 ?_
      obtain rfl := os h
      exact ret_i hx hb hr hlocks hP hK hD hS dX3_correct_51
    · have h := it_p c4 h
      refine lv_aload_n hx hb dX3_correct_29 rfl (lv_at hl 0 rfl) ?_
      refine lv_iconst (v := 2) hx hb dX3_correct_30 (by decide) ?_
      obtain ⟨r7, h7, h⟩ := ob h
      refine call_i (v := r7.1) (wc := (gMo mh mb (mo.1, mo.2.1, 0, mo.2.2.2.1, mo.2.2.2.2.1, mo.2.2.2.2.2))) (wc' := (gMo mh mb r7.2)) (ws' := (gMo mh mb r7.2 ++ (gA t (mb 0) 71 fn ++ (gA t (mb 2) 426 pa)))) (cutB (bs := [gMo mh mb (mo.1, mo.2.1, 0, mo.2.2.2.1, mo.2.2.2.2.1, mo.2.2.2.2.2), gA t (mb 0) 71 fn, gA t (mb 2) 426 pa]) (cs := [gMo mh mb (mo.1, mo.2.1, 0, mo.2.2.2.1, mo.2.2.2.2.1, mo.2.2.2.2.2)]) (cs' := [gMo mh mb r7.2]) (bs' := [gMo mh mb r7.2, gA t (mb 0) 71 fn, gA t (mb 2) 426 pa]) [0] hP hD hS hA rfl rfl rfl rfl) hS (fun hPc hDc => va_runV (As := [.int 2]) (rest := []) ⟨hx, hb, hml, hown, hts⟩ (mtX3_fails l D t mh mb (mo.1, mo.2.1, 0, mo.2.2.2.1, mo.2.2.2.2.1, mo.2.2.2.2.2) 2 r7 h7 _) (cwV 1 hts (gBV kw121 kw122 kw123 kw5 kw124) rfl rfl rfl (by decide +kernel) ⟨Nat.le_of_ble_eq_true rfl, Nat.le_of_ble_eq_true rfl⟩) (sPc_V hPc hK hDc hE (va_recv hK hP (ci := 3) (q0 := 0) rfl rfl)) rfl rfl hl.1 rfl (lv_room (Nat.le_of_ble_eq_true rfl)) dX3_correct_31 ⟨Nat.zero_le _, Nat.zero_le _⟩) (fun H locs hP hD hS => ?_)
      obtain rfl := os h
      exact ret_i hx hb hr hlocks hP hK hD hS dX3_correct_34
  · have h := it_p c2 h
    refine lv_aload_n hx hb dX3_correct_12 rfl (lv_at hl 0 rfl) ?_
    refine lv_iconst (v := 1) hx hb dX3_correct_13 (by decide) ?_
    obtain ⟨r8, h8, h⟩ := ob h
    refine call_i (v := r8.1) (wc := (gMo mh mb (mo.1, mo.2.1, 0, mo.2.2.2.1, mo.2.2.2.2.1, mo.2.2.2.2.2))) (wc' := (gMo mh mb r8.2)) (ws' := (gMo mh mb r8.2 ++ (gA t (mb 0) 71 fn ++ (gA t (mb 2) 426 pa)))) (cutB (bs := [gMo mh mb (mo.1, mo.2.1, 0, mo.2.2.2.1, mo.2.2.2.2.1, mo.2.2.2.2.2), gA t (mb 0) 71 fn, gA t (mb 2) 426 pa]) (cs := [gMo mh mb (mo.1, mo.2.1, 0, mo.2.2.2.1, mo.2.2.2.2.1, mo.2.2.2.2.2)]) (cs' := [gMo mh mb r8.2]) (bs' := [gMo mh mb r8.2, gA t (mb 0) 71 fn, gA t (mb 2) 426 pa]) [0] hP hD hS hA rfl rfl rfl rfl) hS (fun hPc hDc => va_runV (As := [.int 1]) (rest := []) ⟨hx, hb, hml, hown, hts⟩ (mtX3_fails l D t mh mb (mo.1, mo.2.1, 0, mo.2.2.2.1, mo.2.2.2.2.1, mo.2.2.2.2.2) 1 r8 h8 _) (cwV 1 hts (gBV kw121 kw122 kw123 kw5 kw124) rfl rfl rfl (by decide +kernel) ⟨Nat.le_of_ble_eq_true rfl, Nat.le_of_ble_eq_true rfl⟩) (sPc_V hPc hK hDc hE (va_recv hK hP (ci := 3) (q0 := 0) rfl rfl)) rfl rfl hl.1 rfl (lv_room (Nat.le_of_ble_eq_true rfl)) dX3_correct_14 ⟨Nat.zero_le _, Nat.zero_le _⟩) (fun H locs hP hD hS => ?_)
    obtain rfl := os h
    exact ret_i hx hb hr hlocks hP hK hD hS dX3_correct_17

theorem dX3_set_0 : decode cX3_set 0 = .ok (.aload_n 0, 1) := by decide +kernel
theorem dX3_set_1 : decode cX3_set 1 = .ok (.iconst 0, 1) := by decide +kernel
theorem dX3_set_2 : decode cX3_set 2 = .ok (.putfield 34, 3) := by decide +kernel
theorem dX3_set_5 : decode cX3_set 5 = .ok (.iload_n 1, 1) := by decide +kernel
theorem dX3_set_6 : decode cX3_set 6 = .ok (.iconst 0, 1) := by decide +kernel
theorem dX3_set_7 : decode cX3_set 7 = .ok (.iconst 3, 1) := by decide +kernel
theorem dX3_set_8 : decode cX3_set 8 = .ok (.invokestatic 38, 3) := by decide +kernel
theorem dX3_set_11 : decode cX3_set 11 = .ok (.ifCond .ne 9, 3) := by decide +kernel
theorem dX3_set_14 : decode cX3_set 14 = .ok (.aload_n 0, 1) := by decide +kernel
theorem dX3_set_15 : decode cX3_set 15 = .ok (.iconst 1, 1) := by decide +kernel
theorem dX3_set_16 : decode cX3_set 16 = .ok (.invokevirtual 49, 3) := by decide +kernel
theorem dX3_set_19 : decode cX3_set 19 = .ok (.ireturn, 1) := by decide +kernel
theorem dX3_set_20 : decode cX3_set 20 = .ok (.iload_n 1, 1) := by decide +kernel
theorem dX3_set_21 : decode cX3_set 21 = .ok (.iload_n 2, 1) := by decide +kernel
theorem dX3_set_22 : decode cX3_set 22 = .ok (.invokestatic 95, 3) := by decide +kernel
theorem dX3_set_25 : decode cX3_set 25 = .ok (.ifCond .ne 9, 3) := by decide +kernel
theorem dX3_set_28 : decode cX3_set 28 = .ok (.aload_n 0, 1) := by decide +kernel
theorem dX3_set_29 : decode cX3_set 29 = .ok (.iconst 2, 1) := by decide +kernel
theorem dX3_set_30 : decode cX3_set 30 = .ok (.invokevirtual 49, 3) := by decide +kernel
theorem dX3_set_33 : decode cX3_set 33 = .ok (.ireturn, 1) := by decide +kernel
theorem dX3_set_34 : decode cX3_set 34 = .ok (.aload_n 0, 1) := by decide +kernel
theorem dX3_set_35 : decode cX3_set 35 = .ok (.invokevirtual 83, 3) := by decide +kernel
theorem dX3_set_38 : decode cX3_set 38 = .ok (.aload_n 0, 1) := by decide +kernel
theorem dX3_set_39 : decode cX3_set 39 = .ok (.iload_n 1, 1) := by decide +kernel
theorem dX3_set_40 : decode cX3_set 40 = .ok (.iload_n 2, 1) := by decide +kernel
theorem dX3_set_41 : decode cX3_set 41 = .ok (.invokevirtual 86, 3) := by decide +kernel
theorem dX3_set_44 : decode cX3_set 44 = .ok (.ireturn, 1) := by decide +kernel
abbrev zX3_set : List Cond := .code yX3_set cX3_set 3 (some .int) :: BIG
def fX3_set (mo : MoT) (fn : (Nat → Int32)) (pa : (Nat → Int32)) (v : Int32) (w : Int32) : Option (Int32 × MoT × (Nat → Int32) × (Nat → Int32)) := (fX3_in v 0 3).bind (fun r1 => (if (b2i r1) = 0 then (fX3_fails (mo.1, mo.2.1, 0, mo.2.2.2.1, mo.2.2.2.2.1, mo.2.2.2.2.2) 1).bind (fun r8 => some (r8.1, r8.2, fn, pa)) else (fX3_isFor v w).bind (fun r3 => (if (b2i r3) = 0 then (fX3_fails (mo.1, mo.2.1, 0, mo.2.2.2.1, mo.2.2.2.2.1, mo.2.2.2.2.2) 2).bind (fun r7 => some (r7.1, r7.2, fn, pa)) else (fX3_saves (mo.1, mo.2.1, 0, mo.2.2.2.1, mo.2.2.2.2.1, mo.2.2.2.2.2) fn pa).bind (fun r5 => (fX3_changes r5.1 fn v w).bind (fun r6 => some (r6.1, r5.1, r6.2, r5.2)))))))
set_option maxHeartbeats 4000000 in
set_option maxRecDepth 100000 in
theorem mtX3_set (l : Launch) (D : va_G) (t : Nat → ClassId) (mh : Nat) (mb : Nat → Nat) (mo : MoT) (fn : (Nat → Int32)) (pa : (Nat → Int32)) (v : Int32) (w : Int32) (out : Int32 × MoT × (Nat → Int32) × (Nat → Int32)) (h : fX3_set mo fn pa v w = some out)  (sz : Nat) : Met l yX3_set zX3_set ({ frames := 2, cells := 0, slots := 0, locals := 45 }) (sPc D t (gMo mh mb mo ++ (gA t (mb 0) 71 fn ++ (gA t (mb 2) 426 pa))) sz [.ref mh, .int v, .int w]) (qI D t (gMo mh mb out.2.1 ++ (gA t (mb 0) 71 out.2.2.1 ++ (gA t (mb 2) 426 out.2.2.2))) out.1 (va_A (gMo mh mb mo ++ (gA t (mb 0) 71 fn ++ (gA t (mb 2) 426 pa))) sz)) 0 0 (va_A (gMo mh mb mo ++ (gA t (mb 0) 71 fn ++ (gA t (mb 2) 426 pa))) sz) := by
  refine met_of (Qf := fun A => qI D t (gMo mh mb out.2.1 ++ (gA t (mb 0) 71 out.2.2.1 ++ (gA t (mb 2) 426 out.2.2.2))) out.1 A) (cc := cX3_set) (maxL := 3) (ret := some .int) (by decide) rfl (Nat.le_of_ble_eq_true rfl) ?_
  intro p e s m args below meth c A hx hb hr hml hts hown hlocks hA hP hK hD hE hS ls hl
  have htB : ∀ w ∈ BIG, w.before args s = true := fun w h => hts w (List.mem_cons_of_mem _ h)
  have hown : s.vm.findClass RX3 = some m.cls := hown
  have hl : lv_has ls 3 [(0, .ref mh), (1, .int v), (2, .int w)] := hl
  unfold fX3_set at h
  refine lv_aload_n hx hb dX3_set_0 rfl (lv_at hl 0 rfl) ?_
  refine lv_iconst (v := 0) hx hb dX3_set_1 (by decide) ?_
  refine va_put (D := D) (ci := 3) (v := .int 0) (ty := .int) (C := RX3) (T := TX3) (N := 14) hx hb htB inlX3 tyX3 tyX3_ok nmX3 hown hK hP hD hS 0 rfl rfl 6 (by decide) (htB _ kw114) (fun _ h9 => h9) rfl (by decide +kernel) rfl rfl (Nat.le_of_ble_eq_true rfl) dX3_set_2 (fun H locs hP hD hS => ?_)
  have hP : va_P D vwCl (gMo mh mb (mo.1, mo.2.1, 0, mo.2.2.2.1, mo.2.2.2.2.1, mo.2.2.2.2.2) ++ (gA t (mb 0) 71 fn ++ (gA t (mb 2) 426 pa))) H := hP
  have hD : va_D A (gMo mh mb (mo.1, mo.2.1, 0, mo.2.2.2.1, mo.2.2.2.2.1, mo.2.2.2.2.2) ++ (gA t (mb 0) 71 fn ++ (gA t (mb 2) 426 pa))) := hD
  refine lv_iload_n hx hb dX3_set_5 rfl (lv_at hl 1 rfl) ?_
  refine lv_iconst (v := 0) hx hb dX3_set_6 (by decide) ?_
  refine lv_iconst (v := 3) hx hb dX3_set_7 (by decide) ?_
  obtain ⟨r1, h1, h⟩ := ob h
  refine call_i (v := b2i r1) (wc := ([] : va_W)) (wc' := ([] : va_W)) (ws' := (gMo mh mb (mo.1, mo.2.1, 0, mo.2.2.2.1, mo.2.2.2.2.1, mo.2.2.2.2.2) ++ (gA t (mb 0) 71 fn ++ (gA t (mb 2) 426 pa)))) (cutB (bs := [gMo mh mb (mo.1, mo.2.1, 0, mo.2.2.2.1, mo.2.2.2.2.1, mo.2.2.2.2.2), gA t (mb 0) 71 fn, gA t (mb 2) 426 pa]) (cs := []) (cs' := []) (bs' := [gMo mh mb (mo.1, mo.2.1, 0, mo.2.2.2.1, mo.2.2.2.2.1, mo.2.2.2.2.2), gA t (mb 0) 71 fn, gA t (mb 2) 426 pa]) [] hP hD hS hA rfl rfl rfl rfl) hS (fun hPc hDc => va_runS (As := [.int v, .int 0, .int 3]) (rest := []) ⟨hx, hb, hml, hown, hts⟩ (mtX3_in l D t v 0 3 r1 h1 _) (va_cwS 3 hts (gBS kw118 kw119 kw5 kw120) rfl rfl rfl (by decide +kernel) ⟨Nat.le_of_ble_eq_true rfl, Nat.le_of_ble_eq_true rfl⟩) (sPc_S hPc hK hDc hE) rfl rfl hl.1 rfl (lv_room (Nat.le_of_ble_eq_true rfl)) dX3_set_8 ⟨Nat.zero_le _, Nat.zero_le _⟩) (fun H locs hP hD hS => ?_)
  refine lv_if_ne (tgt := 20) hx hb dX3_set_11 (by decide) (fun c2 => ?_) (fun c2 => ?_)
  · have h := it_n c2 h
    refine lv_iload_n hx hb dX3_set_20 rfl (lv_at hl 1 rfl) ?_
    refine lv_iload_n hx hb dX3_set_21 rfl (lv_at hl 2 rfl) ?_
    obtain ⟨r3, h3, h⟩ := ob h
    refine call_i (v := b2i r3) (wc := ([] : va_W)) (wc' := ([] : va_W)) (ws' := (gMo mh mb (mo.1, mo.2.1, 0, mo.2.2.2.1, mo.2.2.2.2.1, mo.2.2.2.2.2) ++ (gA t (mb 0) 71 fn ++ (gA t (mb 2) 426 pa)))) (cutB (bs := [gMo mh mb (mo.1, mo.2.1, 0, mo.2.2.2.1, mo.2.2.2.2.1, mo.2.2.2.2.2), gA t (mb 0) 71 fn, gA t (mb 2) 426 pa]) (cs := []) (cs' := []) (bs' := [gMo mh mb (mo.1, mo.2.1, 0, mo.2.2.2.1, mo.2.2.2.2.1, mo.2.2.2.2.2), gA t (mb 0) 71 fn, gA t (mb 2) 426 pa]) [] hP hD hS hA rfl rfl rfl rfl) hS (fun hPc hDc => va_runS (As := [.int v, .int w]) (rest := []) ⟨hx, hb, hml, hown, hts⟩ (mtX3_isFor l D t v w r3 h3 _) (va_cwS 2 hts (gBS kw210 kw211 kw5 kw212) rfl rfl rfl (by decide +kernel) ⟨Nat.le_of_ble_eq_true rfl, Nat.le_of_ble_eq_true rfl⟩) (sPc_S hPc hK hDc hE) rfl rfl hl.1 rfl (lv_room (Nat.le_of_ble_eq_true rfl)) dX3_set_22 ⟨Nat.zero_le _, Nat.zero_le _⟩) (fun H locs hP hD hS => ?_)
    refine lv_if_ne (tgt := 34) hx hb dX3_set_25 (by decide) (fun c4 => ?_) (fun c4 => ?_)
    · have h := it_n c4 h
      refine lv_aload_n hx hb dX3_set_34 rfl (lv_at hl 0 rfl) ?_
      obtain ⟨r5, h5, h⟩ := ob h
      refine call_v (wc := (gMo mh mb (mo.1, mo.2.1, 0, mo.2.2.2.1, mo.2.2.2.2.1, mo.2.2.2.2.2) ++ (gA t (mb 0) 71 fn ++ (gA t (mb 2) 426 pa)))) (wc' := (gMo mh mb r5.1 ++ (gA t (mb 0) 71 fn ++ (gA t (mb 2) 426 r5.2)))) (ws' := (gMo mh mb r5.1 ++ (gA t (mb 0) 71 fn ++ (gA t (mb 2) 426 r5.2)))) (cutB (bs := [gMo mh mb (mo.1, mo.2.1, 0, mo.2.2.2.1, mo.2.2.2.2.1, mo.2.2.2.2.2), gA t (mb 0) 71 fn, gA t (mb 2) 426 pa]) (cs := [gMo mh mb (mo.1, mo.2.1, 0, mo.2.2.2.1, mo.2.2.2.2.1, mo.2.2.2.2.2), gA t (mb 0) 71 fn, gA t (mb 2) 426 pa]) (cs' := [gMo mh mb r5.1, gA t (mb 0) 71 fn, gA t (mb 2) 426 r5.2]) (bs' := [gMo mh mb r5.1, gA t (mb 0) 71 fn, gA t (mb 2) 426 r5.2]) [0, 1, 2] hP hD hS hA rfl rfl rfl rfl) hS (fun hPc hDc => va_runV (As := []) (rest := []) ⟨hx, hb, hml, hown, hts⟩ (mtX3_saves l D t mh mb (mo.1, mo.2.1, 0, mo.2.2.2.1, mo.2.2.2.2.1, mo.2.2.2.2.2) fn pa r5 h5 _) (cwV 0 hts (gBV kw125 kw126 kw127 kw5 kw128) rfl rfl rfl (by decide +kernel) ⟨Nat.le_of_ble_eq_true rfl, Nat.le_of_ble_eq_true rfl⟩) (sPc_V hPc hK hDc hE (va_recv hK hP (ci := 3) (q0 := 0) rfl rfl)) rfl rfl hl.1 rfl (lv_room (Nat.le_of_ble_eq_true rfl)) dX3_set_35 ⟨Nat.zero_le _, Nat.zero_le _⟩) (fun H locs hP hD hS => ?_)
      refine lv_aload_n hx hb dX3_set_38 rfl (lv_at hl 0 rfl) ?_
      refine lv_iload_n hx hb dX3_set_39 rfl (lv_at hl 1 rfl) ?_
      refine lv_iload_n hx hb dX3_set_40 rfl (lv_at hl 2 rfl) ?_
      obtain ⟨r6, h6, h⟩ := ob h
      refine call_i (v := r6.1) (wc := (gMo mh mb r5.1 ++ (gA t (mb 0) 71 fn))) (wc' := (gMo mh mb r5.1 ++ (gA t (mb 0) 71 r6.2))) (ws' := (gMo mh mb r5.1 ++ (gA t (mb 0) 71 r6.2 ++ (gA t (mb 2) 426 r5.2)))) (cutB (bs := [gMo mh mb r5.1, gA t (mb 0) 71 fn, gA t (mb 2) 426 r5.2]) (cs := [gMo mh mb r5.1, gA t (mb 0) 71 fn]) (cs' := [gMo mh mb r5.1, gA t (mb 0) 71 r6.2]) (bs' := [gMo mh mb r5.1, gA t (mb 0) 71 r6.2, gA t (mb 2) 426 r5.2]) [0, 1] hP hD hS hA rfl rfl rfl rfl) hS (fun hPc hDc => va_runV (As := [.int v, .int w]) (rest := []) ⟨hx, hb, hml, hown, hts⟩ (mtX3_changes l D t mh mb r5.1 fn v w r6 h6 _) (cwV 2 hts (gBV kw133 kw134 kw135 kw5 kw136) rfl rfl rfl (by decide +kernel) ⟨Nat.le_of_ble_eq_true rfl, Nat.le_of_ble_eq_true rfl⟩) (sPc_V hPc hK hDc hE (va_recv hK hP (ci := 3) (q0 := 0) rfl rfl)) rfl rfl hl.1 rfl (lv_room (Nat.le_of_ble_eq_true rfl)) dX3_set_41 ⟨Nat.zero_le _, Nat.zero_le _⟩) (fun H locs hP hD hS => ?_)
      obtain rfl := os h
      exact ret_i hx hb hr hlocks hP hK hD hS dX3_set_44
    · have h := it_p c4 h
      refine lv_aload_n hx hb dX3_set_28 rfl (lv_at hl 0 rfl) ?_
      refine lv_iconst (v := 2) hx hb dX3_set_29 (by decide) ?_
      obtain ⟨r7, h7, h⟩ := ob h
      refine call_i (v := r7.1) (wc := (gMo mh mb (mo.1, mo.2.1, 0, mo.2.2.2.1, mo.2.2.2.2.1, mo.2.2.2.2.2))) (wc' := (gMo mh mb r7.2)) (ws' := (gMo mh mb r7.2 ++ (gA t (mb 0) 71 fn ++ (gA t (mb 2) 426 pa)))) (cutB (bs := [gMo mh mb (mo.1, mo.2.1, 0, mo.2.2.2.1, mo.2.2.2.2.1, mo.2.2.2.2.2), gA t (mb 0) 71 fn, gA t (mb 2) 426 pa]) (cs := [gMo mh mb (mo.1, mo.2.1, 0, mo.2.2.2.1, mo.2.2.2.2.1, mo.2.2.2.2.2)]) (cs' := [gMo mh mb r7.2]) (bs' := [gMo mh mb r7.2, gA t (mb 0) 71 fn, gA t (mb 2) 426 pa]) [0] hP hD hS hA rfl rfl rfl rfl) hS (fun hPc hDc => va_runV (As := [.int 2]) (rest := []) ⟨hx, hb, hml, hown, hts⟩ (mtX3_fails l D t mh mb (mo.1, mo.2.1, 0, mo.2.2.2.1, mo.2.2.2.2.1, mo.2.2.2.2.2) 2 r7 h7 _) (cwV 1 hts (gBV kw121 kw122 kw123 kw5 kw124) rfl rfl rfl (by decide +kernel) ⟨Nat.le_of_ble_eq_true rfl, Nat.le_of_ble_eq_true rfl⟩) (sPc_V hPc hK hDc hE (va_recv hK hP (ci := 3) (q0 := 0) rfl rfl)) rfl rfl hl.1 rfl (lv_room (Nat.le_of_ble_eq_true rfl)) dX3_set_30 ⟨Nat.zero_le _, Nat.zero_le _⟩) (fun H locs hP hD hS => ?_)
      obtain rfl := os h
      exact ret_i hx hb hr hlocks hP hK hD hS dX3_set_33
  · have h := it_p c2 h
    refine lv_aload_n hx hb dX3_set_14 rfl (lv_at hl 0 rfl) ?_
    refine lv_iconst (v := 1) hx hb dX3_set_15 (by decide) ?_
    obtain ⟨r8, h8, h⟩ := ob h
    refine call_i (v := r8.1) (wc := (gMo mh mb (mo.1, mo.2.1, 0, mo.2.2.2.1, mo.2.2.2.2.1, mo.2.2.2.2.2))) (wc' := (gMo mh mb r8.2)) (ws' := (gMo mh mb r8.2 ++ (gA t (mb 0) 71 fn ++ (gA t (mb 2) 426 pa)))) (cutB (bs := [gMo mh mb (mo.1, mo.2.1, 0, mo.2.2.2.1, mo.2.2.2.2.1, mo.2.2.2.2.2), gA t (mb 0) 71 fn, gA t (mb 2) 426 pa]) (cs := [gMo mh mb (mo.1, mo.2.1, 0, mo.2.2.2.1, mo.2.2.2.2.1, mo.2.2.2.2.2)]) (cs' := [gMo mh mb r8.2]) (bs' := [gMo mh mb r8.2, gA t (mb 0) 71 fn, gA t (mb 2) 426 pa]) [0] hP hD hS hA rfl rfl rfl rfl) hS (fun hPc hDc => va_runV (As := [.int 1]) (rest := []) ⟨hx, hb, hml, hown, hts⟩ (mtX3_fails l D t mh mb (mo.1, mo.2.1, 0, mo.2.2.2.1, mo.2.2.2.2.1, mo.2.2.2.2.2) 1 r8 h8 _) (cwV 1 hts (gBV kw121 kw122 kw123 kw5 kw124) rfl rfl rfl (by decide +kernel) ⟨Nat.le_of_ble_eq_true rfl, Nat.le_of_ble_eq_true rfl⟩) (sPc_V hPc hK hDc hE (va_recv hK hP (ci := 3) (q0 := 0) rfl rfl)) rfl rfl hl.1 rfl (lv_room (Nat.le_of_ble_eq_true rfl)) dX3_set_16 ⟨Nat.zero_le _, Nat.zero_le _⟩) (fun H locs hP hD hS => ?_)
    obtain rfl := os h
    exact ret_i hx hb hr hlocks hP hK hD hS dX3_set_19

theorem dX3_shoot_0 : decode cX3_shoot 0 = .ok (.aload_n 0, 1) := by decide +kernel
theorem dX3_shoot_1 : decode cX3_shoot 1 = .ok (.iconst 0, 1) := by decide +kernel
theorem dX3_shoot_2 : decode cX3_shoot 2 = .ok (.putfield 34, 3) := by decide +kernel
theorem dX3_shoot_5 : decode cX3_shoot 5 = .ok (.iload_n 1, 1) := by decide +kernel
theorem dX3_shoot_6 : decode cX3_shoot 6 = .ok (.invokestatic 92, 3) := by decide +kernel
theorem dX3_shoot_9 : decode cX3_shoot 9 = .ok (.ifCond .ne 9, 3) := by decide +kernel
theorem dX3_shoot_12 : decode cX3_shoot 12 = .ok (.aload_n 0, 1) := by decide +kernel
theorem dX3_shoot_13 : decode cX3_shoot 13 = .ok (.iconst 1, 1) := by decide +kernel
theorem dX3_shoot_14 : decode cX3_shoot 14 = .ok (.invokevirtual 49, 3) := by decide +kernel
theorem dX3_shoot_17 : decode cX3_shoot 17 = .ok (.ireturn, 1) := by decide +kernel
theorem dX3_shoot_18 : decode cX3_shoot 18 = .ok (.iload_n 2, 1) := by decide +kernel
theorem dX3_shoot_19 : decode cX3_shoot 19 = .ok (.iconst 1, 1) := by decide +kernel
theorem dX3_shoot_20 : decode cX3_shoot 20 = .ok (.bipush 50, 2) := by decide +kernel
theorem dX3_shoot_22 : decode cX3_shoot 22 = .ok (.invokestatic 38, 3) := by decide +kernel
theorem dX3_shoot_25 : decode cX3_shoot 25 = .ok (.ifCond .ne 9, 3) := by decide +kernel
theorem dX3_shoot_28 : decode cX3_shoot 28 = .ok (.aload_n 0, 1) := by decide +kernel
theorem dX3_shoot_29 : decode cX3_shoot 29 = .ok (.iconst 2, 1) := by decide +kernel
theorem dX3_shoot_30 : decode cX3_shoot 30 = .ok (.invokevirtual 49, 3) := by decide +kernel
theorem dX3_shoot_33 : decode cX3_shoot 33 = .ok (.ireturn, 1) := by decide +kernel
theorem dX3_shoot_34 : decode cX3_shoot 34 = .ok (.aload_n 0, 1) := by decide +kernel
theorem dX3_shoot_35 : decode cX3_shoot 35 = .ok (.invokevirtual 83, 3) := by decide +kernel
theorem dX3_shoot_38 : decode cX3_shoot 38 = .ok (.aload_n 0, 1) := by decide +kernel
theorem dX3_shoot_39 : decode cX3_shoot 39 = .ok (.aload_n 0, 1) := by decide +kernel
theorem dX3_shoot_40 : decode cX3_shoot 40 = .ok (.getfield 7, 3) := by decide +kernel
theorem dX3_shoot_43 : decode cX3_shoot 43 = .ok (.iload_n 1, 1) := by decide +kernel
theorem dX3_shoot_44 : decode cX3_shoot 44 = .ok (.iload_n 2, 1) := by decide +kernel
theorem dX3_shoot_45 : decode cX3_shoot 45 = .ok (.invokevirtual 102, 3) := by decide +kernel
theorem dX3_shoot_48 : decode cX3_shoot 48 = .ok (.aload_n 0, 1) := by decide +kernel
theorem dX3_shoot_49 : decode cX3_shoot 49 = .ok (.iload_n 1, 1) := by decide +kernel
theorem dX3_shoot_50 : decode cX3_shoot 50 = .ok (.iconst 4, 1) := by decide +kernel
theorem dX3_shoot_51 : decode cX3_shoot 51 = .ok (.invokevirtual 75, 3) := by decide +kernel
theorem dX3_shoot_54 : decode cX3_shoot 54 = .ok (.ireturn, 1) := by decide +kernel
abbrev zX3_shoot : List Cond := .code yX3_shoot cX3_shoot 3 (some .int) :: BIG
def fX3_shoot (mo : MoT) (fn : (Nat → Int32)) (pa : (Nat → Int32)) (le : (Nat → Int32)) (co : (Nat → Int32)) (li : (Nat → Int32)) (v : Int32) (w : Int32) : Option (Int32 × MoT × (Nat → Int32) × (Nat → Int32) × (Nat → Int32) × (Nat → Int32) × (Nat → Int32)) := (fX3_isSpeed v).bind (fun r1 => (if (b2i r1) = 0 then (fX3_fails (mo.1, mo.2.1, 0, mo.2.2.2.1, mo.2.2.2.2.1, mo.2.2.2.2.2) 1).bind (fun r9 => some (r9.1, r9.2, fn, pa, le, co, li)) else (fX3_in w 1 50).bind (fun r3 => (if (b2i r3) = 0 then (fX3_fails (mo.1, mo.2.1, 0, mo.2.2.2.1, mo.2.2.2.2.1, mo.2.2.2.2.2) 2).bind (fun r8 => some (r8.1, r8.2, fn, pa, le, co, li)) else (fX3_saves (mo.1, mo.2.1, 0, mo.2.2.2.1, mo.2.2.2.2.1, mo.2.2.2.2.2) fn pa).bind (fun r5 => (fX3_shots r5.1 fn le co li v w).bind (fun r6 => (fX3_tells r5.1 r6.2.2.2 v 4).bind (fun r7 => some (r7, r5.1, r6.1, r5.2, r6.2.1, r6.2.2.1, r6.2.2.2))))))))
set_option maxHeartbeats 4000000 in
set_option maxRecDepth 100000 in
theorem mtX3_shoot (l : Launch) (D : va_G) (t : Nat → ClassId) (mh : Nat) (mb : Nat → Nat) (mo : MoT) (fn : (Nat → Int32)) (pa : (Nat → Int32)) (le : (Nat → Int32)) (co : (Nat → Int32)) (li : (Nat → Int32)) (v : Int32) (w : Int32) (out : Int32 × MoT × (Nat → Int32) × (Nat → Int32) × (Nat → Int32) × (Nat → Int32) × (Nat → Int32)) (h : fX3_shoot mo fn pa le co li v w = some out)  (sz : Nat) : Met l yX3_shoot zX3_shoot ({ frames := 5, cells := 0, slots := 0, locals := 116 }) (sPc D t (gMo mh mb mo ++ (gA t (mb 0) 71 fn ++ (gA t (mb 2) 426 pa ++ (gA t (mb 5) 24 le ++ (gA t (mb 6) 24 co ++ (gA t (mb 7) 24 li)))))) sz [.ref mh, .int v, .int w]) (qI D t (gMo mh mb out.2.1 ++ (gA t (mb 0) 71 out.2.2.1 ++ (gA t (mb 2) 426 out.2.2.2.1 ++ (gA t (mb 5) 24 out.2.2.2.2.1 ++ (gA t (mb 6) 24 out.2.2.2.2.2.1 ++ (gA t (mb 7) 24 out.2.2.2.2.2.2)))))) out.1 (va_A (gMo mh mb mo ++ (gA t (mb 0) 71 fn ++ (gA t (mb 2) 426 pa ++ (gA t (mb 5) 24 le ++ (gA t (mb 6) 24 co ++ (gA t (mb 7) 24 li)))))) sz)) 0 0 (va_A (gMo mh mb mo ++ (gA t (mb 0) 71 fn ++ (gA t (mb 2) 426 pa ++ (gA t (mb 5) 24 le ++ (gA t (mb 6) 24 co ++ (gA t (mb 7) 24 li)))))) sz) := by
  refine met_of (Qf := fun A => qI D t (gMo mh mb out.2.1 ++ (gA t (mb 0) 71 out.2.2.1 ++ (gA t (mb 2) 426 out.2.2.2.1 ++ (gA t (mb 5) 24 out.2.2.2.2.1 ++ (gA t (mb 6) 24 out.2.2.2.2.2.1 ++ (gA t (mb 7) 24 out.2.2.2.2.2.2)))))) out.1 A) (cc := cX3_shoot) (maxL := 3) (ret := some .int) (by decide) rfl (Nat.le_of_ble_eq_true rfl) ?_
  intro p e s m args below meth c A hx hb hr hml hts hown hlocks hA hP hK hD hE hS ls hl
  have htB : ∀ w ∈ BIG, w.before args s = true := fun w h => hts w (List.mem_cons_of_mem _ h)
  have hown : s.vm.findClass RX3 = some m.cls := hown
  have hl : lv_has ls 3 [(0, .ref mh), (1, .int v), (2, .int w)] := hl
  unfold fX3_shoot at h
  refine lv_aload_n hx hb dX3_shoot_0 rfl (lv_at hl 0 rfl) ?_
  refine lv_iconst (v := 0) hx hb dX3_shoot_1 (by decide) ?_
  refine va_put (D := D) (ci := 3) (v := .int 0) (ty := .int) (C := RX3) (T := TX3) (N := 14) hx hb htB inlX3 tyX3 tyX3_ok nmX3 hown hK hP hD hS 0 rfl rfl 6 (by decide) (htB _ kw114) (fun _ h9 => h9) rfl (by decide +kernel) rfl rfl (Nat.le_of_ble_eq_true rfl) dX3_shoot_2 (fun H locs hP hD hS => ?_)
  have hP : va_P D vwCl (gMo mh mb (mo.1, mo.2.1, 0, mo.2.2.2.1, mo.2.2.2.2.1, mo.2.2.2.2.2) ++ (gA t (mb 0) 71 fn ++ (gA t (mb 2) 426 pa ++ (gA t (mb 5) 24 le ++ (gA t (mb 6) 24 co ++ (gA t (mb 7) 24 li)))))) H := hP
  have hD : va_D A (gMo mh mb (mo.1, mo.2.1, 0, mo.2.2.2.1, mo.2.2.2.2.1, mo.2.2.2.2.2) ++ (gA t (mb 0) 71 fn ++ (gA t (mb 2) 426 pa ++ (gA t (mb 5) 24 le ++ (gA t (mb 6) 24 co ++ (gA t (mb 7) 24 li)))))) := hD
  refine lv_iload_n hx hb dX3_shoot_5 rfl (lv_at hl 1 rfl) ?_
  obtain ⟨r1, h1, h⟩ := ob h
  refine call_i (v := b2i r1) (wc := ([] : va_W)) (wc' := ([] : va_W)) (ws' := (gMo mh mb (mo.1, mo.2.1, 0, mo.2.2.2.1, mo.2.2.2.2.1, mo.2.2.2.2.2) ++ (gA t (mb 0) 71 fn ++ (gA t (mb 2) 426 pa ++ (gA t (mb 5) 24 le ++ (gA t (mb 6) 24 co ++ (gA t (mb 7) 24 li))))))) (cutB (bs := [gMo mh mb (mo.1, mo.2.1, 0, mo.2.2.2.1, mo.2.2.2.2.1, mo.2.2.2.2.2), gA t (mb 0) 71 fn, gA t (mb 2) 426 pa, gA t (mb 5) 24 le, gA t (mb 6) 24 co, gA t (mb 7) 24 li]) (cs := []) (cs' := []) (bs' := [gMo mh mb (mo.1, mo.2.1, 0, mo.2.2.2.1, mo.2.2.2.2.1, mo.2.2.2.2.2), gA t (mb 0) 71 fn, gA t (mb 2) 426 pa, gA t (mb 5) 24 le, gA t (mb 6) 24 co, gA t (mb 7) 24 li]) [] hP hD hS hA rfl rfl rfl rfl) hS (fun hPc hDc => va_runS (As := [.int v]) (rest := []) ⟨hx, hb, hml, hown, hts⟩ (mtX3_isSpeed l D t v r1 h1 _) (va_cwS 1 hts (gBS kw186 kw187 kw5 kw188) rfl rfl rfl (by decide +kernel) ⟨Nat.le_of_ble_eq_true rfl, Nat.le_of_ble_eq_true rfl⟩) (sPc_S hPc hK hDc hE) rfl rfl hl.1 rfl (lv_room (Nat.le_of_ble_eq_true rfl)) dX3_shoot_6 ⟨Nat.zero_le _, Nat.zero_le _⟩) (fun H locs hP hD hS => ?_)
  refine lv_if_ne (tgt := 18) hx hb dX3_shoot_9 (by decide) (fun c2 => ?_) (fun c2 => ?_)
  · have h := it_n c2 h
    refine lv_iload_n hx hb dX3_shoot_18 rfl (lv_at hl 2 rfl) ?_
    refine lv_iconst (v := 1) hx hb dX3_shoot_19 (by decide) ?_
    refine lv_bipush (v := 50) hx hb dX3_shoot_20 (by decide) ?_
    obtain ⟨r3, h3, h⟩ := ob h
    refine call_i (v := b2i r3) (wc := ([] : va_W)) (wc' := ([] : va_W)) (ws' := (gMo mh mb (mo.1, mo.2.1, 0, mo.2.2.2.1, mo.2.2.2.2.1, mo.2.2.2.2.2) ++ (gA t (mb 0) 71 fn ++ (gA t (mb 2) 426 pa ++ (gA t (mb 5) 24 le ++ (gA t (mb 6) 24 co ++ (gA t (mb 7) 24 li))))))) (cutB (bs := [gMo mh mb (mo.1, mo.2.1, 0, mo.2.2.2.1, mo.2.2.2.2.1, mo.2.2.2.2.2), gA t (mb 0) 71 fn, gA t (mb 2) 426 pa, gA t (mb 5) 24 le, gA t (mb 6) 24 co, gA t (mb 7) 24 li]) (cs := []) (cs' := []) (bs' := [gMo mh mb (mo.1, mo.2.1, 0, mo.2.2.2.1, mo.2.2.2.2.1, mo.2.2.2.2.2), gA t (mb 0) 71 fn, gA t (mb 2) 426 pa, gA t (mb 5) 24 le, gA t (mb 6) 24 co, gA t (mb 7) 24 li]) [] hP hD hS hA rfl rfl rfl rfl) hS (fun hPc hDc => va_runS (As := [.int w, .int 1, .int 50]) (rest := []) ⟨hx, hb, hml, hown, hts⟩ (mtX3_in l D t w 1 50 r3 h3 _) (va_cwS 3 hts (gBS kw118 kw119 kw5 kw120) rfl rfl rfl (by decide +kernel) ⟨Nat.le_of_ble_eq_true rfl, Nat.le_of_ble_eq_true rfl⟩) (sPc_S hPc hK hDc hE) rfl rfl hl.1 rfl (lv_room (Nat.le_of_ble_eq_true rfl)) dX3_shoot_22 ⟨Nat.zero_le _, Nat.zero_le _⟩) (fun H locs hP hD hS => ?_)
    refine lv_if_ne (tgt := 34) hx hb dX3_shoot_25 (by decide) (fun c4 => ?_) (fun c4 => ?_)
    · have h := it_n c4 h
      refine lv_aload_n hx hb dX3_shoot_34 rfl (lv_at hl 0 rfl) ?_
      obtain ⟨r5, h5, h⟩ := ob h
      refine call_v (wc := (gMo mh mb (mo.1, mo.2.1, 0, mo.2.2.2.1, mo.2.2.2.2.1, mo.2.2.2.2.2) ++ (gA t (mb 0) 71 fn ++ (gA t (mb 2) 426 pa)))) (wc' := (gMo mh mb r5.1 ++ (gA t (mb 0) 71 fn ++ (gA t (mb 2) 426 r5.2)))) (ws' := (gMo mh mb r5.1 ++ (gA t (mb 0) 71 fn ++ (gA t (mb 2) 426 r5.2 ++ (gA t (mb 5) 24 le ++ (gA t (mb 6) 24 co ++ (gA t (mb 7) 24 li))))))) (cutB (bs := [gMo mh mb (mo.1, mo.2.1, 0, mo.2.2.2.1, mo.2.2.2.2.1, mo.2.2.2.2.2), gA t (mb 0) 71 fn, gA t (mb 2) 426 pa, gA t (mb 5) 24 le, gA t (mb 6) 24 co, gA t (mb 7) 24 li]) (cs := [gMo mh mb (mo.1, mo.2.1, 0, mo.2.2.2.1, mo.2.2.2.2.1, mo.2.2.2.2.2), gA t (mb 0) 71 fn, gA t (mb 2) 426 pa]) (cs' := [gMo mh mb r5.1, gA t (mb 0) 71 fn, gA t (mb 2) 426 r5.2]) (bs' := [gMo mh mb r5.1, gA t (mb 0) 71 fn, gA t (mb 2) 426 r5.2, gA t (mb 5) 24 le, gA t (mb 6) 24 co, gA t (mb 7) 24 li]) [0, 1, 2] hP hD hS hA rfl rfl rfl rfl) hS (fun hPc hDc => va_runV (As := []) (rest := []) ⟨hx, hb, hml, hown, hts⟩ (mtX3_saves l D t mh mb (mo.1, mo.2.1, 0, mo.2.2.2.1, mo.2.2.2.2.1, mo.2.2.2.2.2) fn pa r5 h5 _) (cwV 0 hts (gBV kw125 kw126 kw127 kw5 kw128) rfl rfl rfl (by decide +kernel) ⟨Nat.le_of_ble_eq_true rfl, Nat.le_of_ble_eq_true rfl⟩) (sPc_V hPc hK hDc hE (va_recv hK hP (ci := 3) (q0 := 0) rfl rfl)) rfl rfl hl.1 rfl (lv_room (Nat.le_of_ble_eq_true rfl)) dX3_shoot_35 ⟨Nat.zero_le _, Nat.zero_le _⟩) (fun H locs hP hD hS => ?_)
      refine lv_aload_n hx hb dX3_shoot_38 rfl (lv_at hl 0 rfl) ?_
      refine lv_aload_n hx hb dX3_shoot_39 rfl (lv_at hl 0 rfl) ?_
      refine va_get (D := D) (ci := 3) (v := .ref (mb 0)) (C := RX3) (T := TX3) (N := 14) hx hb htB inlX3 hown hK hP 0 rfl rfl 0 (by decide) (htB _ kw54) (fun _ h9 => h9) rfl dX3_shoot_40 ?_
      refine lv_iload_n hx hb dX3_shoot_43 rfl (lv_at hl 1 rfl) ?_
      refine lv_iload_n hx hb dX3_shoot_44 rfl (lv_at hl 2 rfl) ?_
      obtain ⟨r6, h6, h⟩ := ob h
      refine call_v (wc := (gMo mh mb r5.1 ++ (gA t (mb 0) 71 fn ++ (gA t (mb 5) 24 le ++ (gA t (mb 6) 24 co ++ (gA t (mb 7) 24 li)))))) (wc' := (gMo mh mb r5.1 ++ (gA t (mb 0) 71 r6.1 ++ (gA t (mb 5) 24 r6.2.1 ++ (gA t (mb 6) 24 r6.2.2.1 ++ (gA t (mb 7) 24 r6.2.2.2)))))) (ws' := (gMo mh mb r5.1 ++ (gA t (mb 0) 71 r6.1 ++ (gA t (mb 2) 426 r5.2 ++ (gA t (mb 5) 24 r6.2.1 ++ (gA t (mb 6) 24 r6.2.2.1 ++ (gA t (mb 7) 24 r6.2.2.2))))))) (cutB (bs := [gMo mh mb r5.1, gA t (mb 0) 71 fn, gA t (mb 2) 426 r5.2, gA t (mb 5) 24 le, gA t (mb 6) 24 co, gA t (mb 7) 24 li]) (cs := [gMo mh mb r5.1, gA t (mb 0) 71 fn, gA t (mb 5) 24 le, gA t (mb 6) 24 co, gA t (mb 7) 24 li]) (cs' := [gMo mh mb r5.1, gA t (mb 0) 71 r6.1, gA t (mb 5) 24 r6.2.1, gA t (mb 6) 24 r6.2.2.1, gA t (mb 7) 24 r6.2.2.2]) (bs' := [gMo mh mb r5.1, gA t (mb 0) 71 r6.1, gA t (mb 2) 426 r5.2, gA t (mb 5) 24 r6.2.1, gA t (mb 6) 24 r6.2.2.1, gA t (mb 7) 24 r6.2.2.2]) [0, 1, 3, 4, 5] hP hD hS hA rfl rfl rfl rfl) hS (fun hPc hDc => va_runV (As := [.ref (mb 0), .int v, .int w]) (rest := []) ⟨hx, hb, hml, hown, hts⟩ (mtX3_shots l D t mh mb r5.1 (mb 0) fn le co li v w r6 h6 _) (cwV 3 hts (gBV kw287 kw288 kw289 kw5 kw290) rfl rfl rfl (by decide +kernel) ⟨Nat.le_of_ble_eq_true rfl, Nat.le_of_ble_eq_true rfl⟩) (sPc_V hPc hK hDc hE (va_recv hK hP (ci := 3) (q0 := 0) rfl rfl)) rfl rfl hl.1 rfl (lv_room (Nat.le_of_ble_eq_true rfl)) dX3_shoot_45 ⟨Nat.zero_le _, Nat.zero_le _⟩) (fun H locs hP hD hS => ?_)
      refine lv_aload_n hx hb dX3_shoot_48 rfl (lv_at hl 0 rfl) ?_
      refine lv_iload_n hx hb dX3_shoot_49 rfl (lv_at hl 1 rfl) ?_
      refine lv_iconst (v := 4) hx hb dX3_shoot_50 (by decide) ?_
      obtain ⟨r7, h7, h⟩ := ob h
      refine call_i (v := r7) (wc := (gMo mh mb r5.1 ++ (gA t (mb 7) 24 r6.2.2.2))) (wc' := (gMo mh mb r5.1 ++ (gA t (mb 7) 24 r6.2.2.2))) (ws' := (gMo mh mb r5.1 ++ (gA t (mb 0) 71 r6.1 ++ (gA t (mb 2) 426 r5.2 ++ (gA t (mb 5) 24 r6.2.1 ++ (gA t (mb 6) 24 r6.2.2.1 ++ (gA t (mb 7) 24 r6.2.2.2))))))) (cutB (bs := [gMo mh mb r5.1, gA t (mb 0) 71 r6.1, gA t (mb 2) 426 r5.2, gA t (mb 5) 24 r6.2.1, gA t (mb 6) 24 r6.2.2.1, gA t (mb 7) 24 r6.2.2.2]) (cs := [gMo mh mb r5.1, gA t (mb 7) 24 r6.2.2.2]) (cs' := [gMo mh mb r5.1, gA t (mb 7) 24 r6.2.2.2]) (bs' := [gMo mh mb r5.1, gA t (mb 0) 71 r6.1, gA t (mb 2) 426 r5.2, gA t (mb 5) 24 r6.2.1, gA t (mb 6) 24 r6.2.2.1, gA t (mb 7) 24 r6.2.2.2]) [0, 5] hP hD hS hA rfl rfl rfl rfl) hS (fun hPc hDc => va_runV (As := [.int v, .int 4]) (rest := []) ⟨hx, hb, hml, hown, hts⟩ (mtX3_tells l D t mh mb r5.1 r6.2.2.2 v 4 r7 h7 _) (cwV 2 hts (gBV kw311 kw312 kw313 kw5 kw314) rfl rfl rfl (by decide +kernel) ⟨Nat.le_of_ble_eq_true rfl, Nat.le_of_ble_eq_true rfl⟩) (sPc_V hPc hK hDc hE (va_recv hK hP (ci := 3) (q0 := 0) rfl rfl)) rfl rfl hl.1 rfl (lv_room (Nat.le_of_ble_eq_true rfl)) dX3_shoot_51 ⟨Nat.zero_le _, Nat.zero_le _⟩) (fun H locs hP hD hS => ?_)
      obtain rfl := os h
      exact ret_i hx hb hr hlocks hP hK hD hS dX3_shoot_54
    · have h := it_p c4 h
      refine lv_aload_n hx hb dX3_shoot_28 rfl (lv_at hl 0 rfl) ?_
      refine lv_iconst (v := 2) hx hb dX3_shoot_29 (by decide) ?_
      obtain ⟨r8, h8, h⟩ := ob h
      refine call_i (v := r8.1) (wc := (gMo mh mb (mo.1, mo.2.1, 0, mo.2.2.2.1, mo.2.2.2.2.1, mo.2.2.2.2.2))) (wc' := (gMo mh mb r8.2)) (ws' := (gMo mh mb r8.2 ++ (gA t (mb 0) 71 fn ++ (gA t (mb 2) 426 pa ++ (gA t (mb 5) 24 le ++ (gA t (mb 6) 24 co ++ (gA t (mb 7) 24 li))))))) (cutB (bs := [gMo mh mb (mo.1, mo.2.1, 0, mo.2.2.2.1, mo.2.2.2.2.1, mo.2.2.2.2.2), gA t (mb 0) 71 fn, gA t (mb 2) 426 pa, gA t (mb 5) 24 le, gA t (mb 6) 24 co, gA t (mb 7) 24 li]) (cs := [gMo mh mb (mo.1, mo.2.1, 0, mo.2.2.2.1, mo.2.2.2.2.1, mo.2.2.2.2.2)]) (cs' := [gMo mh mb r8.2]) (bs' := [gMo mh mb r8.2, gA t (mb 0) 71 fn, gA t (mb 2) 426 pa, gA t (mb 5) 24 le, gA t (mb 6) 24 co, gA t (mb 7) 24 li]) [0] hP hD hS hA rfl rfl rfl rfl) hS (fun hPc hDc => va_runV (As := [.int 2]) (rest := []) ⟨hx, hb, hml, hown, hts⟩ (mtX3_fails l D t mh mb (mo.1, mo.2.1, 0, mo.2.2.2.1, mo.2.2.2.2.1, mo.2.2.2.2.2) 2 r8 h8 _) (cwV 1 hts (gBV kw121 kw122 kw123 kw5 kw124) rfl rfl rfl (by decide +kernel) ⟨Nat.le_of_ble_eq_true rfl, Nat.le_of_ble_eq_true rfl⟩) (sPc_V hPc hK hDc hE (va_recv hK hP (ci := 3) (q0 := 0) rfl rfl)) rfl rfl hl.1 rfl (lv_room (Nat.le_of_ble_eq_true rfl)) dX3_shoot_30 ⟨Nat.zero_le _, Nat.zero_le _⟩) (fun H locs hP hD hS => ?_)
      obtain rfl := os h
      exact ret_i hx hb hr hlocks hP hK hD hS dX3_shoot_33
  · have h := it_p c2 h
    refine lv_aload_n hx hb dX3_shoot_12 rfl (lv_at hl 0 rfl) ?_
    refine lv_iconst (v := 1) hx hb dX3_shoot_13 (by decide) ?_
    obtain ⟨r9, h9, h⟩ := ob h
    refine call_i (v := r9.1) (wc := (gMo mh mb (mo.1, mo.2.1, 0, mo.2.2.2.1, mo.2.2.2.2.1, mo.2.2.2.2.2))) (wc' := (gMo mh mb r9.2)) (ws' := (gMo mh mb r9.2 ++ (gA t (mb 0) 71 fn ++ (gA t (mb 2) 426 pa ++ (gA t (mb 5) 24 le ++ (gA t (mb 6) 24 co ++ (gA t (mb 7) 24 li))))))) (cutB (bs := [gMo mh mb (mo.1, mo.2.1, 0, mo.2.2.2.1, mo.2.2.2.2.1, mo.2.2.2.2.2), gA t (mb 0) 71 fn, gA t (mb 2) 426 pa, gA t (mb 5) 24 le, gA t (mb 6) 24 co, gA t (mb 7) 24 li]) (cs := [gMo mh mb (mo.1, mo.2.1, 0, mo.2.2.2.1, mo.2.2.2.2.1, mo.2.2.2.2.2)]) (cs' := [gMo mh mb r9.2]) (bs' := [gMo mh mb r9.2, gA t (mb 0) 71 fn, gA t (mb 2) 426 pa, gA t (mb 5) 24 le, gA t (mb 6) 24 co, gA t (mb 7) 24 li]) [0] hP hD hS hA rfl rfl rfl rfl) hS (fun hPc hDc => va_runV (As := [.int 1]) (rest := []) ⟨hx, hb, hml, hown, hts⟩ (mtX3_fails l D t mh mb (mo.1, mo.2.1, 0, mo.2.2.2.1, mo.2.2.2.2.1, mo.2.2.2.2.2) 1 r9 h9 _) (cwV 1 hts (gBV kw121 kw122 kw123 kw5 kw124) rfl rfl rfl (by decide +kernel) ⟨Nat.le_of_ble_eq_true rfl, Nat.le_of_ble_eq_true rfl⟩) (sPc_V hPc hK hDc hE (va_recv hK hP (ci := 3) (q0 := 0) rfl rfl)) rfl rfl hl.1 rfl (lv_room (Nat.le_of_ble_eq_true rfl)) dX3_shoot_14 ⟨Nat.zero_le _, Nat.zero_le _⟩) (fun H locs hP hD hS => ?_)
    obtain rfl := os h
    exact ret_i hx hb hr hlocks hP hK hD hS dX3_shoot_17

theorem dX3_append_0 : decode cX3_append 0 = .ok (.aload_n 0, 1) := by decide +kernel
theorem dX3_append_1 : decode cX3_append 1 = .ok (.iconst 0, 1) := by decide +kernel
theorem dX3_append_2 : decode cX3_append 2 = .ok (.putfield 34, 3) := by decide +kernel
theorem dX3_append_5 : decode cX3_append 5 = .ok (.iload_n 1, 1) := by decide +kernel
theorem dX3_append_6 : decode cX3_append 6 = .ok (.bipush 33, 2) := by decide +kernel
theorem dX3_append_8 : decode cX3_append 8 = .ok (.bipush 126, 2) := by decide +kernel
theorem dX3_append_10 : decode cX3_append 10 = .ok (.invokestatic 38, 3) := by decide +kernel
theorem dX3_append_13 : decode cX3_append 13 = .ok (.ifCond .ne 9, 3) := by decide +kernel
theorem dX3_append_16 : decode cX3_append 16 = .ok (.aload_n 0, 1) := by decide +kernel
theorem dX3_append_17 : decode cX3_append 17 = .ok (.iconst 1, 1) := by decide +kernel
theorem dX3_append_18 : decode cX3_append 18 = .ok (.invokevirtual 49, 3) := by decide +kernel
theorem dX3_append_21 : decode cX3_append 21 = .ok (.ireturn, 1) := by decide +kernel
theorem dX3_append_22 : decode cX3_append 22 = .ok (.aload_n 0, 1) := by decide +kernel
theorem dX3_append_23 : decode cX3_append 23 = .ok (.getfield 106, 3) := by decide +kernel
theorem dX3_append_26 : decode cX3_append 26 = .ok (.bipush 60, 2) := by decide +kernel
theorem dX3_append_28 : decode cX3_append 28 = .ok (.if_icmp .ne 9, 3) := by decide +kernel
theorem dX3_append_31 : decode cX3_append 31 = .ok (.aload_n 0, 1) := by decide +kernel
theorem dX3_append_32 : decode cX3_append 32 = .ok (.iconst 2, 1) := by decide +kernel
theorem dX3_append_33 : decode cX3_append 33 = .ok (.invokevirtual 49, 3) := by decide +kernel
theorem dX3_append_36 : decode cX3_append 36 = .ok (.ireturn, 1) := by decide +kernel
theorem dX3_append_37 : decode cX3_append 37 = .ok (.aload_n 0, 1) := by decide +kernel
theorem dX3_append_38 : decode cX3_append 38 = .ok (.getfield 19, 3) := by decide +kernel
theorem dX3_append_41 : decode cX3_append 41 = .ok (.aload_n 0, 1) := by decide +kernel
theorem dX3_append_42 : decode cX3_append 42 = .ok (.getfield 106, 3) := by decide +kernel
theorem dX3_append_45 : decode cX3_append 45 = .ok (.iload_n 1, 1) := by decide +kernel
theorem dX3_append_46 : decode cX3_append 46 = .ok (.iastore, 1) := by decide +kernel
theorem dX3_append_47 : decode cX3_append 47 = .ok (.aload_n 0, 1) := by decide +kernel
theorem dX3_append_48 : decode cX3_append 48 = .ok (.dup, 1) := by decide +kernel
theorem dX3_append_49 : decode cX3_append 49 = .ok (.getfield 106, 3) := by decide +kernel
theorem dX3_append_52 : decode cX3_append 52 = .ok (.iconst 1, 1) := by decide +kernel
theorem dX3_append_53 : decode cX3_append 53 = .ok (.iadd, 1) := by decide +kernel
theorem dX3_append_54 : decode cX3_append 54 = .ok (.putfield 106, 3) := by decide +kernel
theorem dX3_append_57 : decode cX3_append 57 = .ok (.aload_n 0, 1) := by decide +kernel
theorem dX3_append_58 : decode cX3_append 58 = .ok (.getfield 106, 3) := by decide +kernel
theorem dX3_append_61 : decode cX3_append 61 = .ok (.ireturn, 1) := by decide +kernel
abbrev zX3_append : List Cond := .code yX3_append cX3_append 2 (some .int) :: BIG
def fX3_append (mo : MoT) (tx : (Nat → Int32)) (v : Int32) : Option (Int32 × MoT × (Nat → Int32)) := (fX3_in v 33 126).bind (fun r1 => (if (b2i r1) = 0 then (fX3_fails (mo.1, mo.2.1, 0, mo.2.2.2.1, mo.2.2.2.2.1, mo.2.2.2.2.2) 1).bind (fun r6 => some (r6.1, r6.2, tx)) else (if mo.2.1 = 60 then (fX3_fails (mo.1, mo.2.1, 0, mo.2.2.2.1, mo.2.2.2.2.1, mo.2.2.2.2.2) 2).bind (fun r5 => some (r5.1, r5.2, tx)) else gd (pin mo.2.1 60) (some ((mo.2.1 + 1), (mo.1, (mo.2.1 + 1), 0, mo.2.2.2.1, mo.2.2.2.2.1, mo.2.2.2.2.2), (upd tx (Int32.toNatClampNeg mo.2.1) v))))))
set_option maxHeartbeats 4000000 in
set_option maxRecDepth 100000 in
theorem mtX3_append (l : Launch) (D : va_G) (t : Nat → ClassId) (mh : Nat) (mb : Nat → Nat) (mo : MoT) (tx : (Nat → Int32)) (v : Int32) (out : Int32 × MoT × (Nat → Int32)) (h : fX3_append mo tx v = some out)  (sz : Nat) : Met l yX3_append zX3_append ({ frames := 1, cells := 0, slots := 0, locals := 22 }) (sPc D t (gMo mh mb mo ++ (gA t (mb 3) 60 tx)) sz [.ref mh, .int v]) (qI D t (gMo mh mb out.2.1 ++ (gA t (mb 3) 60 out.2.2)) out.1 (va_A (gMo mh mb mo ++ (gA t (mb 3) 60 tx)) sz)) 0 0 (va_A (gMo mh mb mo ++ (gA t (mb 3) 60 tx)) sz) := by
  refine met_of (Qf := fun A => qI D t (gMo mh mb out.2.1 ++ (gA t (mb 3) 60 out.2.2)) out.1 A) (cc := cX3_append) (maxL := 2) (ret := some .int) (by decide) rfl (Nat.le_of_ble_eq_true rfl) ?_
  intro p e s m args below meth c A hx hb hr hml hts hown hlocks hA hP hK hD hE hS ls hl
  have htB : ∀ w ∈ BIG, w.before args s = true := fun w h => hts w (List.mem_cons_of_mem _ h)
  have hown : s.vm.findClass RX3 = some m.cls := hown
  have hl : lv_has ls 2 [(0, .ref mh), (1, .int v)] := hl
  unfold fX3_append at h
  refine lv_aload_n hx hb dX3_append_0 rfl (lv_at hl 0 rfl) ?_
  refine lv_iconst (v := 0) hx hb dX3_append_1 (by decide) ?_
  refine va_put (D := D) (ci := 3) (v := .int 0) (ty := .int) (C := RX3) (T := TX3) (N := 14) hx hb htB inlX3 tyX3 tyX3_ok nmX3 hown hK hP hD hS 0 rfl rfl 6 (by decide) (htB _ kw114) (fun _ h9 => h9) rfl (by decide +kernel) rfl rfl (Nat.le_of_ble_eq_true rfl) dX3_append_2 (fun H locs hP hD hS => ?_)
  have hP : va_P D vwCl (gMo mh mb (mo.1, mo.2.1, 0, mo.2.2.2.1, mo.2.2.2.2.1, mo.2.2.2.2.2) ++ (gA t (mb 3) 60 tx)) H := hP
  have hD : va_D A (gMo mh mb (mo.1, mo.2.1, 0, mo.2.2.2.1, mo.2.2.2.2.1, mo.2.2.2.2.2) ++ (gA t (mb 3) 60 tx)) := hD
  refine lv_iload_n hx hb dX3_append_5 rfl (lv_at hl 1 rfl) ?_
  refine lv_bipush (v := 33) hx hb dX3_append_6 (by decide) ?_
  refine lv_bipush (v := 126) hx hb dX3_append_8 (by decide) ?_
  obtain ⟨r1, h1, h⟩ := ob h
  refine call_i (v := b2i r1) (wc := ([] : va_W)) (wc' := ([] : va_W)) (ws' := (gMo mh mb (mo.1, mo.2.1, 0, mo.2.2.2.1, mo.2.2.2.2.1, mo.2.2.2.2.2) ++ (gA t (mb 3) 60 tx))) (cutB (bs := [gMo mh mb (mo.1, mo.2.1, 0, mo.2.2.2.1, mo.2.2.2.2.1, mo.2.2.2.2.2), gA t (mb 3) 60 tx]) (cs := []) (cs' := []) (bs' := [gMo mh mb (mo.1, mo.2.1, 0, mo.2.2.2.1, mo.2.2.2.2.1, mo.2.2.2.2.2), gA t (mb 3) 60 tx]) [] hP hD hS hA rfl rfl rfl rfl) hS (fun hPc hDc => va_runS (As := [.int v, .int 33, .int 126]) (rest := []) ⟨hx, hb, hml, hown, hts⟩ (mtX3_in l D t v 33 126 r1 h1 _) (va_cwS 3 hts (gBS kw118 kw119 kw5 kw120) rfl rfl rfl (by decide +kernel) ⟨Nat.le_of_ble_eq_true rfl, Nat.le_of_ble_eq_true rfl⟩) (sPc_S hPc hK hDc hE) rfl rfl hl.1 rfl (lv_room (Nat.le_of_ble_eq_true rfl)) dX3_append_10 ⟨Nat.zero_le _, Nat.zero_le _⟩) (fun H locs hP hD hS => ?_)
  refine lv_if_ne (tgt := 22) hx hb dX3_append_13 (by decide) (fun c2 => ?_) (fun c2 => ?_)
  · have h := it_n c2 h
    refine lv_aload_n hx hb dX3_append_22 rfl (lv_at hl 0 rfl) ?_
    refine va_get (D := D) (ci := 3) (v := .int mo.2.1) (C := RX3) (T := TX3) (N := 14) hx hb htB inlX3 hown hK hP 0 rfl rfl 5 (by decide) (htB _ kw332) (fun _ h9 => h9) rfl dX3_append_23 ?_
    refine lv_bipush (v := 60) hx hb dX3_append_26 (by decide) ?_
    refine lv_icmp_ne (tgt := 37) hx hb dX3_append_28 (by decide) (fun c3 => ?_) (fun c3 => ?_)
    · have h := it_n c3 h
      refine lv_aload_n hx hb dX3_append_37 rfl (lv_at hl 0 rfl) ?_
      refine va_get (D := D) (ci := 3) (v := .ref (mb 3)) (C := RX3) (T := TX3) (N := 14) hx hb htB inlX3 hown hK hP 0 rfl rfl 4 (by decide) (htB _ kw57) (fun _ h9 => h9) rfl dX3_append_38 ?_
      refine lv_aload_n hx hb dX3_append_41 rfl (lv_at hl 0 rfl) ?_
      refine va_get (D := D) (ci := 3) (v := .int mo.2.1) (C := RX3) (T := TX3) (N := 14) hx hb htB inlX3 hown hK hP 0 rfl rfl 5 (by decide) (htB _ kw332) (fun _ h9 => h9) rfl dX3_append_42 ?_
      refine lv_iload_n hx hb dX3_append_45 rfl (lv_at hl 1 rfl) ?_
      obtain ⟨g4, h⟩ := og h
      refine va_iast hx hb hK hP hD hS 1 0 rfl rfl (pin_in g4) dX3_append_46 (fun H locs hP hD hS => ?_)
      have hP : va_P D vwCl (gMo mh mb (mo.1, mo.2.1, 0, mo.2.2.2.1, mo.2.2.2.2.1, mo.2.2.2.2.2) ++ (gA t (mb 3) 60 (upd tx (Int32.toNatClampNeg mo.2.1) v))) H := hP
      have hD : va_D A (gMo mh mb (mo.1, mo.2.1, 0, mo.2.2.2.1, mo.2.2.2.2.1, mo.2.2.2.2.2) ++ (gA t (mb 3) 60 (upd tx (Int32.toNatClampNeg mo.2.1) v))) := hD
      refine lv_aload_n hx hb dX3_append_47 rfl (lv_at hl 0 rfl) ?_
      refine lv_dup hx hb dX3_append_48 rfl ?_
      refine va_get (D := D) (ci := 3) (v := .int mo.2.1) (C := RX3) (T := TX3) (N := 14) hx hb htB inlX3 hown hK hP 0 rfl rfl 5 (by decide) (htB _ kw332) (fun _ h9 => h9) rfl dX3_append_49 ?_
      refine lv_iconst (v := 1) hx hb dX3_append_52 (by decide) ?_
      refine lv_iadd hx hb dX3_append_53 ?_
      refine va_put (D := D) (ci := 3) (v := .int (mo.2.1 + 1)) (ty := .int) (C := RX3) (T := TX3) (N := 14) hx hb htB inlX3 tyX3 tyX3_ok nmX3 hown hK hP hD hS 0 rfl rfl 5 (by decide) (htB _ kw332) (fun _ h9 => h9) rfl (by decide +kernel) rfl rfl (Nat.le_of_ble_eq_true rfl) dX3_append_54 (fun H locs hP hD hS => ?_)
      have hP : va_P D vwCl (gMo mh mb (mo.1, (mo.2.1 + 1), 0, mo.2.2.2.1, mo.2.2.2.2.1, mo.2.2.2.2.2) ++ (gA t (mb 3) 60 (upd tx (Int32.toNatClampNeg mo.2.1) v))) H := hP
      have hD : va_D A (gMo mh mb (mo.1, (mo.2.1 + 1), 0, mo.2.2.2.1, mo.2.2.2.2.1, mo.2.2.2.2.2) ++ (gA t (mb 3) 60 (upd tx (Int32.toNatClampNeg mo.2.1) v))) := hD
      refine lv_aload_n hx hb dX3_append_57 rfl (lv_at hl 0 rfl) ?_
      refine va_get (D := D) (ci := 3) (v := .int (mo.2.1 + 1)) (C := RX3) (T := TX3) (N := 14) hx hb htB inlX3 hown hK hP 0 rfl rfl 5 (by decide) (htB _ kw332) (fun _ h9 => h9) rfl dX3_append_58 ?_
      obtain rfl := os h
      exact ret_i hx hb hr hlocks hP hK hD hS dX3_append_61
    · have h := it_p c3 h
      refine lv_aload_n hx hb dX3_append_31 rfl (lv_at hl 0 rfl) ?_
      refine lv_iconst (v := 2) hx hb dX3_append_32 (by decide) ?_
      obtain ⟨r5, h5, h⟩ := ob h
      refine call_i (v := r5.1) (wc := (gMo mh mb (mo.1, mo.2.1, 0, mo.2.2.2.1, mo.2.2.2.2.1, mo.2.2.2.2.2))) (wc' := (gMo mh mb r5.2)) (ws' := (gMo mh mb r5.2 ++ (gA t (mb 3) 60 tx))) (cutB (bs := [gMo mh mb (mo.1, mo.2.1, 0, mo.2.2.2.1, mo.2.2.2.2.1, mo.2.2.2.2.2), gA t (mb 3) 60 tx]) (cs := [gMo mh mb (mo.1, mo.2.1, 0, mo.2.2.2.1, mo.2.2.2.2.1, mo.2.2.2.2.2)]) (cs' := [gMo mh mb r5.2]) (bs' := [gMo mh mb r5.2, gA t (mb 3) 60 tx]) [0] hP hD hS hA rfl rfl rfl rfl) hS (fun hPc hDc => va_runV (As := [.int 2]) (rest := []) ⟨hx, hb, hml, hown, hts⟩ (mtX3_fails l D t mh mb (mo.1, mo.2.1, 0, mo.2.2.2.1, mo.2.2.2.2.1, mo.2.2.2.2.2) 2 r5 h5 _) (cwV 1 hts (gBV kw121 kw122 kw123 kw5 kw124) rfl rfl rfl (by decide +kernel) ⟨Nat.le_of_ble_eq_true rfl, Nat.le_of_ble_eq_true rfl⟩) (sPc_V hPc hK hDc hE (va_recv hK hP (ci := 3) (q0 := 0) rfl rfl)) rfl rfl hl.1 rfl (lv_room (Nat.le_of_ble_eq_true rfl)) dX3_append_33 ⟨Nat.zero_le _, Nat.zero_le _⟩) (fun H locs hP hD hS => ?_)
      obtain rfl := os h
      exact ret_i hx hb hr hlocks hP hK hD hS dX3_append_36
  · have h := it_p c2 h
    refine lv_aload_n hx hb dX3_append_16 rfl (lv_at hl 0 rfl) ?_
    refine lv_iconst (v := 1) hx hb dX3_append_17 (by decide) ?_
    obtain ⟨r6, h6, h⟩ := ob h
    refine call_i (v := r6.1) (wc := (gMo mh mb (mo.1, mo.2.1, 0, mo.2.2.2.1, mo.2.2.2.2.1, mo.2.2.2.2.2))) (wc' := (gMo mh mb r6.2)) (ws' := (gMo mh mb r6.2 ++ (gA t (mb 3) 60 tx))) (cutB (bs := [gMo mh mb (mo.1, mo.2.1, 0, mo.2.2.2.1, mo.2.2.2.2.1, mo.2.2.2.2.2), gA t (mb 3) 60 tx]) (cs := [gMo mh mb (mo.1, mo.2.1, 0, mo.2.2.2.1, mo.2.2.2.2.1, mo.2.2.2.2.2)]) (cs' := [gMo mh mb r6.2]) (bs' := [gMo mh mb r6.2, gA t (mb 3) 60 tx]) [0] hP hD hS hA rfl rfl rfl rfl) hS (fun hPc hDc => va_runV (As := [.int 1]) (rest := []) ⟨hx, hb, hml, hown, hts⟩ (mtX3_fails l D t mh mb (mo.1, mo.2.1, 0, mo.2.2.2.1, mo.2.2.2.2.1, mo.2.2.2.2.2) 1 r6 h6 _) (cwV 1 hts (gBV kw121 kw122 kw123 kw5 kw124) rfl rfl rfl (by decide +kernel) ⟨Nat.le_of_ble_eq_true rfl, Nat.le_of_ble_eq_true rfl⟩) (sPc_V hPc hK hDc hE (va_recv hK hP (ci := 3) (q0 := 0) rfl rfl)) rfl rfl hl.1 rfl (lv_room (Nat.le_of_ble_eq_true rfl)) dX3_append_18 ⟨Nat.zero_le _, Nat.zero_le _⟩) (fun H locs hP hD hS => ?_)
    obtain rfl := os h
    exact ret_i hx hb hr hlocks hP hK hD hS dX3_append_21

theorem dX3_clearBuffer_0 : decode cX3_clearBuffer 0 = .ok (.aload_n 0, 1) := by decide +kernel
theorem dX3_clearBuffer_1 : decode cX3_clearBuffer 1 = .ok (.iconst 0, 1) := by decide +kernel
theorem dX3_clearBuffer_2 : decode cX3_clearBuffer 2 = .ok (.putfield 34, 3) := by decide +kernel
theorem dX3_clearBuffer_5 : decode cX3_clearBuffer 5 = .ok (.aload_n 0, 1) := by decide +kernel
theorem dX3_clearBuffer_6 : decode cX3_clearBuffer 6 = .ok (.getfield 106, 3) := by decide +kernel
theorem dX3_clearBuffer_9 : decode cX3_clearBuffer 9 = .ok (.istore_n 1, 1) := by decide +kernel
theorem dX3_clearBuffer_10 : decode cX3_clearBuffer 10 = .ok (.aload_n 0, 1) := by decide +kernel
theorem dX3_clearBuffer_11 : decode cX3_clearBuffer 11 = .ok (.iconst 0, 1) := by decide +kernel
theorem dX3_clearBuffer_12 : decode cX3_clearBuffer 12 = .ok (.putfield 106, 3) := by decide +kernel
theorem dX3_clearBuffer_15 : decode cX3_clearBuffer 15 = .ok (.iload_n 1, 1) := by decide +kernel
theorem dX3_clearBuffer_16 : decode cX3_clearBuffer 16 = .ok (.ireturn, 1) := by decide +kernel
abbrev zX3_clearBuffer : List Cond := .code yX3_clearBuffer cX3_clearBuffer 2 (some .int) :: BIG
def fX3_clearBuffer (mo : MoT) : Option (Int32 × MoT) := some (mo.2.1, (mo.1, 0, 0, mo.2.2.2.1, mo.2.2.2.2.1, mo.2.2.2.2.2))
set_option maxHeartbeats 4000000 in
set_option maxRecDepth 100000 in
theorem mtX3_clearBuffer (l : Launch) (D : va_G) (t : Nat → ClassId) (mh : Nat) (mb : Nat → Nat) (mo : MoT) (out : Int32 × MoT) (h : fX3_clearBuffer mo = some out)  (sz : Nat) : Met l yX3_clearBuffer zX3_clearBuffer ({ frames := 0, cells := 0, slots := 0, locals := 0 }) (sPc D t (gMo mh mb mo) sz [.ref mh]) (qI D t (gMo mh mb out.2) out.1 (va_A (gMo mh mb mo) sz)) 0 0 (va_A (gMo mh mb mo) sz) := by
  refine met_of (Qf := fun A => qI D t (gMo mh mb out.2) out.1 A) (cc := cX3_clearBuffer) (maxL := 2) (ret := some .int) (by decide) rfl (Nat.le_of_ble_eq_true rfl) ?_
  intro p e s m args below meth c A hx hb hr hml hts hown hlocks hA hP hK hD hE hS ls hl
  have htB : ∀ w ∈ BIG, w.before args s = true := fun w h => hts w (List.mem_cons_of_mem _ h)
  have hown : s.vm.findClass RX3 = some m.cls := hown
  have hl : lv_has ls 2 [(0, .ref mh)] := hl
  unfold fX3_clearBuffer at h
  refine lv_aload_n hx hb dX3_clearBuffer_0 rfl (lv_at hl 0 rfl) ?_
  refine lv_iconst (v := 0) hx hb dX3_clearBuffer_1 (by decide) ?_
  refine va_put (D := D) (ci := 3) (v := .int 0) (ty := .int) (C := RX3) (T := TX3) (N := 14) hx hb htB inlX3 tyX3 tyX3_ok nmX3 hown hK hP hD hS 0 rfl rfl 6 (by decide) (htB _ kw114) (fun _ h9 => h9) rfl (by decide +kernel) rfl rfl (Nat.le_of_ble_eq_true rfl) dX3_clearBuffer_2 (fun H locs hP hD hS => ?_)
  have hP : va_P D vwCl (gMo mh mb (mo.1, mo.2.1, 0, mo.2.2.2.1, mo.2.2.2.2.1, mo.2.2.2.2.2)) H := hP
  have hD : va_D A (gMo mh mb (mo.1, mo.2.1, 0, mo.2.2.2.1, mo.2.2.2.2.1, mo.2.2.2.2.2)) := hD
  refine lv_aload_n hx hb dX3_clearBuffer_5 rfl (lv_at hl 0 rfl) ?_
  refine va_get (D := D) (ci := 3) (v := .int mo.2.1) (C := RX3) (T := TX3) (N := 14) hx hb htB inlX3 hown hK hP 0 rfl rfl 5 (by decide) (htB _ kw332) (fun _ h9 => h9) rfl dX3_clearBuffer_6 ?_
  refine lv_istore_n (lv' := [(1, .int mo.2.1), (0, .ref mh)]) hx hb dX3_clearBuffer_9 rfl hl (by decide) rfl (fun ls hl => ?_)
  refine lv_aload_n hx hb dX3_clearBuffer_10 rfl (lv_at hl 1 rfl) ?_
  refine lv_iconst (v := 0) hx hb dX3_clearBuffer_11 (by decide) ?_
  refine va_put (D := D) (ci := 3) (v := .int 0) (ty := .int) (C := RX3) (T := TX3) (N := 14) hx hb htB inlX3 tyX3 tyX3_ok nmX3 hown hK hP hD hS 0 rfl rfl 5 (by decide) (htB _ kw332) (fun _ h9 => h9) rfl (by decide +kernel) rfl rfl (Nat.le_of_ble_eq_true rfl) dX3_clearBuffer_12 (fun H locs hP hD hS => ?_)
  have hP : va_P D vwCl (gMo mh mb (mo.1, 0, 0, mo.2.2.2.1, mo.2.2.2.2.1, mo.2.2.2.2.2)) H := hP
  have hD : va_D A (gMo mh mb (mo.1, 0, 0, mo.2.2.2.1, mo.2.2.2.2.1, mo.2.2.2.2.2)) := hD
  refine lv_iload_n hx hb dX3_clearBuffer_15 rfl (lv_at hl 0 rfl) ?_
  obtain rfl := os h
  exact ret_i hx hb hr hlocks hP hK hD hS dX3_clearBuffer_16

theorem dX3_isAt_0 : decode cX3_isAt 0 = .ok (.aload_n 0, 1) := by decide +kernel
theorem dX3_isAt_1 : decode cX3_isAt 1 = .ok (.getfield 109, 3) := by decide +kernel
theorem dX3_isAt_4 : decode cX3_isAt 4 = .ok (.aload_n 0, 1) := by decide +kernel
theorem dX3_isAt_5 : decode cX3_isAt 5 = .ok (.getfield 106, 3) := by decide +kernel
theorem dX3_isAt_8 : decode cX3_isAt 8 = .ok (.if_icmp .ge 24, 3) := by decide +kernel
theorem dX3_isAt_11 : decode cX3_isAt 11 = .ok (.aload_n 0, 1) := by decide +kernel
theorem dX3_isAt_12 : decode cX3_isAt 12 = .ok (.getfield 19, 3) := by decide +kernel
theorem dX3_isAt_15 : decode cX3_isAt 15 = .ok (.aload_n 0, 1) := by decide +kernel
theorem dX3_isAt_16 : decode cX3_isAt 16 = .ok (.getfield 109, 3) := by decide +kernel
theorem dX3_isAt_19 : decode cX3_isAt 19 = .ok (.iaload, 1) := by decide +kernel
theorem dX3_isAt_20 : decode cX3_isAt 20 = .ok (.iload_n 1, 1) := by decide +kernel
theorem dX3_isAt_21 : decode cX3_isAt 21 = .ok (.iload_n 2, 1) := by decide +kernel
theorem dX3_isAt_22 : decode cX3_isAt 22 = .ok (.invokestatic 38, 3) := by decide +kernel
theorem dX3_isAt_25 : decode cX3_isAt 25 = .ok (.ifCond .eq 7, 3) := by decide +kernel
theorem dX3_isAt_28 : decode cX3_isAt 28 = .ok (.iconst 1, 1) := by decide +kernel
theorem dX3_isAt_29 : decode cX3_isAt 29 = .ok (.goto 4, 3) := by decide +kernel
theorem dX3_isAt_32 : decode cX3_isAt 32 = .ok (.iconst 0, 1) := by decide +kernel
theorem dX3_isAt_33 : decode cX3_isAt 33 = .ok (.ireturn, 1) := by decide +kernel
abbrev zX3_isAt : List Cond := .code yX3_isAt cX3_isAt 3 (some .boolean) :: BIG
def fX3_isAt (mo : MoT) (tx : (Nat → Int32)) (lo : Int32) (hi : Int32) : Option (Bool) := (if mo.2.1 ≤ mo.2.2.2.1 then some false else gd (pin mo.2.2.2.1 60) ((fX3_in (tx (Int32.toNatClampNeg mo.2.2.2.1)) lo hi).bind (fun r3 => (if (b2i r3) = 0 then some false else some true))))
set_option maxHeartbeats 4000000 in
set_option maxRecDepth 100000 in
theorem mtX3_isAt (l : Launch) (D : va_G) (t : Nat → ClassId) (mh : Nat) (mb : Nat → Nat) (mo : MoT) (tx : (Nat → Int32)) (lo : Int32) (hi : Int32) (out : Bool) (h : fX3_isAt mo tx lo hi = some out)  (sz : Nat) : Met l yX3_isAt zX3_isAt ({ frames := 1, cells := 0, slots := 0, locals := 22 }) (sPc D t (gMo mh mb mo ++ (gA t (mb 3) 60 tx)) sz [.ref mh, .int lo, .int hi]) (qI D t (gMo mh mb mo ++ (gA t (mb 3) 60 tx)) (b2i out) (va_A (gMo mh mb mo ++ (gA t (mb 3) 60 tx)) sz)) 0 0 (va_A (gMo mh mb mo ++ (gA t (mb 3) 60 tx)) sz) := by
  refine met_of (Qf := fun A => qI D t (gMo mh mb mo ++ (gA t (mb 3) 60 tx)) (b2i out) A) (cc := cX3_isAt) (maxL := 3) (ret := some .boolean) (by decide) rfl (Nat.le_of_ble_eq_true rfl) ?_
  intro p e s m args below meth c A hx hb hr hml hts hown hlocks hA hP hK hD hE hS ls hl
  have htB : ∀ w ∈ BIG, w.before args s = true := fun w h => hts w (List.mem_cons_of_mem _ h)
  have hown : s.vm.findClass RX3 = some m.cls := hown
  have hl : lv_has ls 3 [(0, .ref mh), (1, .int lo), (2, .int hi)] := hl
  unfold fX3_isAt at h
  refine lv_aload_n hx hb dX3_isAt_0 rfl (lv_at hl 0 rfl) ?_
  refine va_get (D := D) (ci := 3) (v := .int mo.2.2.2.1) (C := RX3) (T := TX3) (N := 14) hx hb htB inlX3 hown hK hP 0 rfl rfl 7 (by decide) (htB _ kw362) (fun _ h9 => h9) rfl dX3_isAt_1 ?_
  refine lv_aload_n hx hb dX3_isAt_4 rfl (lv_at hl 0 rfl) ?_
  refine va_get (D := D) (ci := 3) (v := .int mo.2.1) (C := RX3) (T := TX3) (N := 14) hx hb htB inlX3 hown hK hP 0 rfl rfl 5 (by decide) (htB _ kw332) (fun _ h9 => h9) rfl dX3_isAt_5 ?_
  refine lv_icmp_ge (tgt := 32) hx hb dX3_isAt_8 (by decide) (fun c1 => ?_) (fun c1 => ?_)
  · have h := it_p c1 h
    refine lv_iconst (v := 0) hx hb dX3_isAt_32 (by decide) ?_
    obtain rfl := os h
    exact ret_z hx hb hr hlocks hP hK hD hS dX3_isAt_33
  · have h := it_n c1 h
    refine lv_aload_n hx hb dX3_isAt_11 rfl (lv_at hl 0 rfl) ?_
    refine va_get (D := D) (ci := 3) (v := .ref (mb 3)) (C := RX3) (T := TX3) (N := 14) hx hb htB inlX3 hown hK hP 0 rfl rfl 4 (by decide) (htB _ kw57) (fun _ h9 => h9) rfl dX3_isAt_12 ?_
    refine lv_aload_n hx hb dX3_isAt_15 rfl (lv_at hl 0 rfl) ?_
    refine va_get (D := D) (ci := 3) (v := .int mo.2.2.2.1) (C := RX3) (T := TX3) (N := 14) hx hb htB inlX3 hown hK hP 0 rfl rfl 7 (by decide) (htB _ kw362) (fun _ h9 => h9) rfl dX3_isAt_16 ?_
    obtain ⟨g2, h⟩ := og h
    refine va_iald hx hb hK hP 1 0 rfl rfl (pin_in g2) dX3_isAt_19 ?_
    refine lv_iload_n hx hb dX3_isAt_20 rfl (lv_at hl 1 rfl) ?_
    refine lv_iload_n hx hb dX3_isAt_21 rfl (lv_at hl 2 rfl) ?_
    obtain ⟨r3, h3, h⟩ := ob h
    refine call_i (v := b2i r3) (wc := ([] : va_W)) (wc' := ([] : va_W)) (ws' := (gMo mh mb mo ++ (gA t (mb 3) 60 tx))) (cutB (bs := [gMo mh mb mo, gA t (mb 3) 60 tx]) (cs := []) (cs' := []) (bs' := [gMo mh mb mo, gA t (mb 3) 60 tx]) [] hP hD hS hA rfl rfl rfl rfl) hS (fun hPc hDc => va_runS (As := [.int (tx (Int32.toNatClampNeg mo.2.2.2.1)), .int lo, .int hi]) (rest := []) ⟨hx, hb, hml, hown, hts⟩ (mtX3_in l D t (tx (Int32.toNatClampNeg mo.2.2.2.1)) lo hi r3 h3 _) (va_cwS 3 hts (gBS kw118 kw119 kw5 kw120) rfl rfl rfl (by decide +kernel) ⟨Nat.le_of_ble_eq_true rfl, Nat.le_of_ble_eq_true rfl⟩) (sPc_S hPc hK hDc hE) rfl rfl hl.1 rfl (lv_room (Nat.le_of_ble_eq_true rfl)) dX3_isAt_22 ⟨Nat.zero_le _, Nat.zero_le _⟩) (fun H locs hP hD hS => ?_)
    refine lv_if_eq (tgt := 32) hx hb dX3_isAt_25 (by decide) (fun c4 => ?_) (fun c4 => ?_)
    · have h := it_p c4 h
      refine lv_iconst (v := 0) hx hb dX3_isAt_32 (by decide) ?_
      obtain rfl := os h
      exact ret_z hx hb hr hlocks hP hK hD hS dX3_isAt_33
    · have h := it_n c4 h
      refine lv_iconst (v := 1) hx hb dX3_isAt_28 (by decide) ?_
      refine lv_goto (tgt := 33) hx hb dX3_isAt_29 (by decide) ?_
      obtain rfl := os h
      exact ret_z hx hb hr hlocks hP hK hD hS dX3_isAt_33

theorem dX3_stops_0 : decode cX3_stops 0 = .ok (.aload_n 0, 1) := by decide +kernel
theorem dX3_stops_1 : decode cX3_stops 1 = .ok (.aload_n 0, 1) := by decide +kernel
theorem dX3_stops_2 : decode cX3_stops 2 = .ok (.getfield 109, 3) := by decide +kernel
theorem dX3_stops_5 : decode cX3_stops 5 = .ok (.aload_n 0, 1) := by decide +kernel
theorem dX3_stops_6 : decode cX3_stops 6 = .ok (.getfield 106, 3) := by decide +kernel
theorem dX3_stops_9 : decode cX3_stops 9 = .ok (.if_icmp .ge 7, 3) := by decide +kernel
theorem dX3_stops_12 : decode cX3_stops 12 = .ok (.iconst 1, 1) := by decide +kernel
theorem dX3_stops_13 : decode cX3_stops 13 = .ok (.goto 4, 3) := by decide +kernel
theorem dX3_stops_16 : decode cX3_stops 16 = .ok (.iconst 0, 1) := by decide +kernel
theorem dX3_stops_17 : decode cX3_stops 17 = .ok (.putfield 112, 3) := by decide +kernel
theorem dX3_stops_20 : decode cX3_stops 20 = .ok (.iconst 0, 1) := by decide +kernel
theorem dX3_stops_21 : decode cX3_stops 21 = .ok (.ireturn, 1) := by decide +kernel
abbrev zX3_stops : List Cond := .code yX3_stops cX3_stops 1 (some .boolean) :: BIG
def fX3_stops (mo : MoT) : Option (Bool × MoT) := (if mo.2.1 ≤ mo.2.2.2.1 then some (false, (mo.1, mo.2.1, mo.2.2.1, mo.2.2.2.1, 0, mo.2.2.2.2.2)) else some (false, (mo.1, mo.2.1, mo.2.2.1, mo.2.2.2.1, 1, mo.2.2.2.2.2)))
set_option maxHeartbeats 4000000 in
set_option maxRecDepth 100000 in
theorem mtX3_stops (l : Launch) (D : va_G) (t : Nat → ClassId) (mh : Nat) (mb : Nat → Nat) (mo : MoT) (out : Bool × MoT) (h : fX3_stops mo = some out)  (sz : Nat) : Met l yX3_stops zX3_stops ({ frames := 0, cells := 0, slots := 0, locals := 0 }) (sPc D t (gMo mh mb mo) sz [.ref mh]) (qI D t (gMo mh mb out.2) (b2i out.1) (va_A (gMo mh mb mo) sz)) 0 0 (va_A (gMo mh mb mo) sz) := by
  refine met_of (Qf := fun A => qI D t (gMo mh mb out.2) (b2i out.1) A) (cc := cX3_stops) (maxL := 1) (ret := some .boolean) (by decide) rfl (Nat.le_of_ble_eq_true rfl) ?_
  intro p e s m args below meth c A hx hb hr hml hts hown hlocks hA hP hK hD hE hS ls hl
  have htB : ∀ w ∈ BIG, w.before args s = true := fun w h => hts w (List.mem_cons_of_mem _ h)
  have hown : s.vm.findClass RX3 = some m.cls := hown
  have hl : lv_has ls 1 [(0, .ref mh)] := hl
  unfold fX3_stops at h
  refine lv_aload_n hx hb dX3_stops_0 rfl (lv_at hl 0 rfl) ?_
  refine lv_aload_n hx hb dX3_stops_1 rfl (lv_at hl 0 rfl) ?_
  refine va_get (D := D) (ci := 3) (v := .int mo.2.2.2.1) (C := RX3) (T := TX3) (N := 14) hx hb htB inlX3 hown hK hP 0 rfl rfl 7 (by decide) (htB _ kw362) (fun _ h9 => h9) rfl dX3_stops_2 ?_
  refine lv_aload_n hx hb dX3_stops_5 rfl (lv_at hl 0 rfl) ?_
  refine va_get (D := D) (ci := 3) (v := .int mo.2.1) (C := RX3) (T := TX3) (N := 14) hx hb htB inlX3 hown hK hP 0 rfl rfl 5 (by decide) (htB _ kw332) (fun _ h9 => h9) rfl dX3_stops_6 ?_
  refine lv_icmp_ge (tgt := 16) hx hb dX3_stops_9 (by decide) (fun c1 => ?_) (fun c1 => ?_)
  · have h := it_p c1 h
    refine lv_iconst (v := 0) hx hb dX3_stops_16 (by decide) ?_
    refine va_put (D := D) (ci := 3) (v := .int 0) (ty := .boolean) (C := RX3) (T := TX3) (N := 14) hx hb htB inlX3 tyX3 tyX3_ok nmX3 hown hK hP hD hS 0 rfl rfl 8 (by decide) (htB _ kw361) (fun _ h9 => h9) rfl (by decide +kernel) rfl rfl (Nat.le_of_ble_eq_true rfl) dX3_stops_17 (fun H locs hP hD hS => ?_)
    have hP : va_P D vwCl (gMo mh mb (mo.1, mo.2.1, mo.2.2.1, mo.2.2.2.1, 0, mo.2.2.2.2.2)) H := hP
    have hD : va_D A (gMo mh mb (mo.1, mo.2.1, mo.2.2.1, mo.2.2.2.1, 0, mo.2.2.2.2.2)) := hD
    refine lv_iconst (v := 0) hx hb dX3_stops_20 (by decide) ?_
    obtain rfl := os h
    exact ret_z hx hb hr hlocks hP hK hD hS dX3_stops_21
  · have h := it_n c1 h
    refine lv_iconst (v := 1) hx hb dX3_stops_12 (by decide) ?_
    refine lv_goto (tgt := 17) hx hb dX3_stops_13 (by decide) ?_
    refine va_put (D := D) (ci := 3) (v := .int 1) (ty := .boolean) (C := RX3) (T := TX3) (N := 14) hx hb htB inlX3 tyX3 tyX3_ok nmX3 hown hK hP hD hS 0 rfl rfl 8 (by decide) (htB _ kw361) (fun _ h9 => h9) rfl (by decide +kernel) rfl rfl (Nat.le_of_ble_eq_true rfl) dX3_stops_17 (fun H locs hP hD hS => ?_)
    have hP : va_P D vwCl (gMo mh mb (mo.1, mo.2.1, mo.2.2.1, mo.2.2.2.1, 1, mo.2.2.2.2.2)) H := hP
    have hD : va_D A (gMo mh mb (mo.1, mo.2.1, mo.2.2.1, mo.2.2.2.1, 1, mo.2.2.2.2.2)) := hD
    refine lv_iconst (v := 0) hx hb dX3_stops_20 (by decide) ?_
    obtain rfl := os h
    exact ret_z hx hb hr hlocks hP hK hD hS dX3_stops_21

theorem dX3_isDigit_0 : decode cX3_isDigit 0 = .ok (.aload_n 0, 1) := by decide +kernel
theorem dX3_isDigit_1 : decode cX3_isDigit 1 = .ok (.iload_n 2, 1) := by decide +kernel
theorem dX3_isDigit_2 : decode cX3_isDigit 2 = .ok (.iload_n 3, 1) := by decide +kernel
theorem dX3_isDigit_3 : decode cX3_isDigit 3 = .ok (.invokevirtual 116, 3) := by decide +kernel
theorem dX3_isDigit_6 : decode cX3_isDigit 6 = .ok (.ifCond .ne 8, 3) := by decide +kernel
theorem dX3_isDigit_9 : decode cX3_isDigit 9 = .ok (.aload_n 0, 1) := by decide +kernel
theorem dX3_isDigit_10 : decode cX3_isDigit 10 = .ok (.invokevirtual 119, 3) := by decide +kernel
theorem dX3_isDigit_13 : decode cX3_isDigit 13 = .ok (.ireturn, 1) := by decide +kernel
theorem dX3_isDigit_14 : decode cX3_isDigit 14 = .ok (.aload_n 0, 1) := by decide +kernel
theorem dX3_isDigit_15 : decode cX3_isDigit 15 = .ok (.getfield 22, 3) := by decide +kernel
theorem dX3_isDigit_18 : decode cX3_isDigit 18 = .ok (.iconst 3, 1) := by decide +kernel
theorem dX3_isDigit_19 : decode cX3_isDigit 19 = .ok (.aload_n 0, 1) := by decide +kernel
theorem dX3_isDigit_20 : decode cX3_isDigit 20 = .ok (.getfield 123, 3) := by decide +kernel
theorem dX3_isDigit_23 : decode cX3_isDigit 23 = .ok (.imul, 1) := by decide +kernel
theorem dX3_isDigit_24 : decode cX3_isDigit 24 = .ok (.iload_n 1, 1) := by decide +kernel
theorem dX3_isDigit_25 : decode cX3_isDigit 25 = .ok (.iadd, 1) := by decide +kernel
theorem dX3_isDigit_26 : decode cX3_isDigit 26 = .ok (.aload_n 0, 1) := by decide +kernel
theorem dX3_isDigit_27 : decode cX3_isDigit 27 = .ok (.getfield 19, 3) := by decide +kernel
theorem dX3_isDigit_30 : decode cX3_isDigit 30 = .ok (.aload_n 0, 1) := by decide +kernel
theorem dX3_isDigit_31 : decode cX3_isDigit 31 = .ok (.getfield 109, 3) := by decide +kernel
theorem dX3_isDigit_34 : decode cX3_isDigit 34 = .ok (.iaload, 1) := by decide +kernel
theorem dX3_isDigit_35 : decode cX3_isDigit 35 = .ok (.bipush 48, 2) := by decide +kernel
theorem dX3_isDigit_37 : decode cX3_isDigit 37 = .ok (.isub, 1) := by decide +kernel
theorem dX3_isDigit_38 : decode cX3_isDigit 38 = .ok (.iastore, 1) := by decide +kernel
theorem dX3_isDigit_39 : decode cX3_isDigit 39 = .ok (.aload_n 0, 1) := by decide +kernel
theorem dX3_isDigit_40 : decode cX3_isDigit 40 = .ok (.dup, 1) := by decide +kernel
theorem dX3_isDigit_41 : decode cX3_isDigit 41 = .ok (.getfield 109, 3) := by decide +kernel
theorem dX3_isDigit_44 : decode cX3_isDigit 44 = .ok (.iconst 1, 1) := by decide +kernel
theorem dX3_isDigit_45 : decode cX3_isDigit 45 = .ok (.iadd, 1) := by decide +kernel
theorem dX3_isDigit_46 : decode cX3_isDigit 46 = .ok (.putfield 109, 3) := by decide +kernel
theorem dX3_isDigit_49 : decode cX3_isDigit 49 = .ok (.iconst 1, 1) := by decide +kernel
theorem dX3_isDigit_50 : decode cX3_isDigit 50 = .ok (.ireturn, 1) := by decide +kernel
abbrev zX3_isDigit : List Cond := .code yX3_isDigit cX3_isDigit 4 (some .boolean) :: BIG
def fX3_isDigit (mo : MoT) (tx : (Nat → Int32)) (td : (Nat → Int32)) (k : Int32) (lo : Int32) (hi : Int32) : Option (Bool × MoT × (Nat → Int32)) := (fX3_isAt mo tx lo hi).bind (fun r1 => (if (b2i r1) = 0 then (fX3_stops mo).bind (fun r5 => some (r5.1, r5.2, td)) else gd (pin mo.2.2.2.1 60) (gd (pin ((3 * mo.2.2.2.2.2) + k) 93) (some (true, (mo.1, mo.2.1, mo.2.2.1, (mo.2.2.2.1 + 1), mo.2.2.2.2.1, mo.2.2.2.2.2), (upd td (Int32.toNatClampNeg ((3 * mo.2.2.2.2.2) + k)) ((tx (Int32.toNatClampNeg mo.2.2.2.1)) - 48)))))))
set_option maxHeartbeats 4000000 in
set_option maxRecDepth 100000 in
theorem mtX3_isDigit (l : Launch) (D : va_G) (t : Nat → ClassId) (mh : Nat) (mb : Nat → Nat) (mo : MoT) (tx : (Nat → Int32)) (td : (Nat → Int32)) (k : Int32) (lo : Int32) (hi : Int32) (out : Bool × MoT × (Nat → Int32)) (h : fX3_isDigit mo tx td k lo hi = some out)  (sz : Nat) : Met l yX3_isDigit zX3_isDigit ({ frames := 2, cells := 0, slots := 0, locals := 44 }) (sPc D t (gMo mh mb mo ++ (gA t (mb 3) 60 tx ++ (gA t (mb 4) 93 td))) sz [.ref mh, .int k, .int lo, .int hi]) (qI D t (gMo mh mb out.2.1 ++ (gA t (mb 3) 60 tx ++ (gA t (mb 4) 93 out.2.2))) (b2i out.1) (va_A (gMo mh mb mo ++ (gA t (mb 3) 60 tx ++ (gA t (mb 4) 93 td))) sz)) 0 0 (va_A (gMo mh mb mo ++ (gA t (mb 3) 60 tx ++ (gA t (mb 4) 93 td))) sz) := by
  refine met_of (Qf := fun A => qI D t (gMo mh mb out.2.1 ++ (gA t (mb 3) 60 tx ++ (gA t (mb 4) 93 out.2.2))) (b2i out.1) A) (cc := cX3_isDigit) (maxL := 4) (ret := some .boolean) (by decide) rfl (Nat.le_of_ble_eq_true rfl) ?_
  intro p e s m args below meth c A hx hb hr hml hts hown hlocks hA hP hK hD hE hS ls hl
  have htB : ∀ w ∈ BIG, w.before args s = true := fun w h => hts w (List.mem_cons_of_mem _ h)
  have hown : s.vm.findClass RX3 = some m.cls := hown
  have hl : lv_has ls 4 [(0, .ref mh), (1, .int k), (2, .int lo), (3, .int hi)] := hl
  unfold fX3_isDigit at h
  refine lv_aload_n hx hb dX3_isDigit_0 rfl (lv_at hl 0 rfl) ?_
  refine lv_iload_n hx hb dX3_isDigit_1 rfl (lv_at hl 2 rfl) ?_
  refine lv_iload_n hx hb dX3_isDigit_2 rfl (lv_at hl 3 rfl) ?_
  obtain ⟨r1, h1, h⟩ := ob h
  refine call_i (v := b2i r1) (wc := (gMo mh mb mo ++ (gA t (mb 3) 60 tx))) (wc' := (gMo mh mb mo ++ (gA t (mb 3) 60 tx))) (ws' := (gMo mh mb mo ++ (gA t (mb 3) 60 tx ++ (gA t (mb 4) 93 td)))) (cutB (bs := [gMo mh mb mo, gA t (mb 3) 60 tx, gA t (mb 4) 93 td]) (cs := [gMo mh mb mo, gA t (mb 3) 60 tx]) (cs' := [gMo mh mb mo, gA t (mb 3) 60 tx]) (bs' := [gMo mh mb mo, gA t (mb 3) 60 tx, gA t (mb 4) 93 td]) [0, 1] hP hD hS hA rfl rfl rfl rfl) hS (fun hPc hDc => va_runV (As := [.int lo, .int hi]) (rest := []) ⟨hx, hb, hml, hown, hts⟩ (mtX3_isAt l D t mh mb mo tx lo hi r1 h1 _) (cwV 2 hts (gBV kw380 kw381 kw382 kw5 kw383) rfl rfl rfl (by decide +kernel) ⟨Nat.le_of_ble_eq_true rfl, Nat.le_of_ble_eq_true rfl⟩) (sPc_V hPc hK hDc hE (va_recv hK hP (ci := 3) (q0 := 0) rfl rfl)) rfl rfl hl.1 rfl (lv_room (Nat.le_of_ble_eq_true rfl)) dX3_isDigit_3 ⟨Nat.zero_le _, Nat.zero_le _⟩) (fun H locs hP hD hS => ?_)
  refine lv_if_ne (tgt := 14) hx hb dX3_isDigit_6 (by decide) (fun c2 => ?_) (fun c2 => ?_)
  · have h := it_n c2 h
    refine lv_aload_n hx hb dX3_isDigit_14 rfl (lv_at hl 0 rfl) ?_
    refine va_get (D := D) (ci := 3) (v := .ref (mb 4)) (C := RX3) (T := TX3) (N := 14) hx hb htB inlX3 hown hK hP 0 rfl rfl 9 (by decide) (htB _ kw58) (fun _ h9 => h9) rfl dX3_isDigit_15 ?_
    refine lv_iconst (v := 3) hx hb dX3_isDigit_18 (by decide) ?_
    refine lv_aload_n hx hb dX3_isDigit_19 rfl (lv_at hl 0 rfl) ?_
    refine va_get (D := D) (ci := 3) (v := .int mo.2.2.2.2.2) (C := RX3) (T := TX3) (N := 14) hx hb htB inlX3 hown hK hP 0 rfl rfl 10 (by decide) (htB _ kw367) (fun _ h9 => h9) rfl dX3_isDigit_20 ?_
    refine lv_imul hx hb dX3_isDigit_23 ?_
    refine lv_iload_n hx hb dX3_isDigit_24 rfl (lv_at hl 1 rfl) ?_
    refine lv_iadd hx hb dX3_isDigit_25 ?_
    refine lv_aload_n hx hb dX3_isDigit_26 rfl (lv_at hl 0 rfl) ?_
    refine va_get (D := D) (ci := 3) (v := .ref (mb 3)) (C := RX3) (T := TX3) (N := 14) hx hb htB inlX3 hown hK hP 0 rfl rfl 4 (by decide) (htB _ kw57) (fun _ h9 => h9) rfl dX3_isDigit_27 ?_
    refine lv_aload_n hx hb dX3_isDigit_30 rfl (lv_at hl 0 rfl) ?_
    refine va_get (D := D) (ci := 3) (v := .int mo.2.2.2.1) (C := RX3) (T := TX3) (N := 14) hx hb htB inlX3 hown hK hP 0 rfl rfl 7 (by decide) (htB _ kw362) (fun _ h9 => h9) rfl dX3_isDigit_31 ?_
    obtain ⟨g3, h⟩ := og h
    refine va_iald hx hb hK hP 1 0 rfl rfl (pin_in g3) dX3_isDigit_34 ?_
    refine lv_bipush (v := 48) hx hb dX3_isDigit_35 (by decide) ?_
    refine lv_isub hx hb dX3_isDigit_37 ?_
    obtain ⟨g4, h⟩ := og h
    refine va_iast hx hb hK hP hD hS 2 0 rfl rfl (pin_in g4) dX3_isDigit_38 (fun H locs hP hD hS => ?_)
    have hP : va_P D vwCl (gMo mh mb mo ++ (gA t (mb 3) 60 tx ++ (gA t (mb 4) 93 (upd td (Int32.toNatClampNeg ((3 * mo.2.2.2.2.2) + k)) ((tx (Int32.toNatClampNeg mo.2.2.2.1)) - 48))))) H := hP
    have hD : va_D A (gMo mh mb mo ++ (gA t (mb 3) 60 tx ++ (gA t (mb 4) 93 (upd td (Int32.toNatClampNeg ((3 * mo.2.2.2.2.2) + k)) ((tx (Int32.toNatClampNeg mo.2.2.2.1)) - 48))))) := hD
    refine lv_aload_n hx hb dX3_isDigit_39 rfl (lv_at hl 0 rfl) ?_
    refine lv_dup hx hb dX3_isDigit_40 rfl ?_
    refine va_get (D := D) (ci := 3) (v := .int mo.2.2.2.1) (C := RX3) (T := TX3) (N := 14) hx hb htB inlX3 hown hK hP 0 rfl rfl 7 (by decide) (htB _ kw362) (fun _ h9 => h9) rfl dX3_isDigit_41 ?_
    refine lv_iconst (v := 1) hx hb dX3_isDigit_44 (by decide) ?_
    refine lv_iadd hx hb dX3_isDigit_45 ?_
    refine va_put (D := D) (ci := 3) (v := .int (mo.2.2.2.1 + 1)) (ty := .int) (C := RX3) (T := TX3) (N := 14) hx hb htB inlX3 tyX3 tyX3_ok nmX3 hown hK hP hD hS 0 rfl rfl 7 (by decide) (htB _ kw362) (fun _ h9 => h9) rfl (by decide +kernel) rfl rfl (Nat.le_of_ble_eq_true rfl) dX3_isDigit_46 (fun H locs hP hD hS => ?_)
    have hP : va_P D vwCl (gMo mh mb (mo.1, mo.2.1, mo.2.2.1, (mo.2.2.2.1 + 1), mo.2.2.2.2.1, mo.2.2.2.2.2) ++ (gA t (mb 3) 60 tx ++ (gA t (mb 4) 93 (upd td (Int32.toNatClampNeg ((3 * mo.2.2.2.2.2) + k)) ((tx (Int32.toNatClampNeg mo.2.2.2.1)) - 48))))) H := hP
    have hD : va_D A (gMo mh mb (mo.1, mo.2.1, mo.2.2.1, (mo.2.2.2.1 + 1), mo.2.2.2.2.1, mo.2.2.2.2.2) ++ (gA t (mb 3) 60 tx ++ (gA t (mb 4) 93 (upd td (Int32.toNatClampNeg ((3 * mo.2.2.2.2.2) + k)) ((tx (Int32.toNatClampNeg mo.2.2.2.1)) - 48))))) := hD
    refine lv_iconst (v := 1) hx hb dX3_isDigit_49 (by decide) ?_
    obtain rfl := os h
    exact ret_z hx hb hr hlocks hP hK hD hS dX3_isDigit_50
  · have h := it_p c2 h
    refine lv_aload_n hx hb dX3_isDigit_9 rfl (lv_at hl 0 rfl) ?_
    obtain ⟨r5, h5, h⟩ := ob h
    refine call_i (v := b2i r5.1) (wc := (gMo mh mb mo)) (wc' := (gMo mh mb r5.2)) (ws' := (gMo mh mb r5.2 ++ (gA t (mb 3) 60 tx ++ (gA t (mb 4) 93 td)))) (cutB (bs := [gMo mh mb mo, gA t (mb 3) 60 tx, gA t (mb 4) 93 td]) (cs := [gMo mh mb mo]) (cs' := [gMo mh mb r5.2]) (bs' := [gMo mh mb r5.2, gA t (mb 3) 60 tx, gA t (mb 4) 93 td]) [0] hP hD hS hA rfl rfl rfl rfl) hS (fun hPc hDc => va_runV (As := []) (rest := []) ⟨hx, hb, hml, hown, hts⟩ (mtX3_stops l D t mh mb mo r5 h5 _) (cwV 0 hts (gBV kw384 kw385 kw386 kw5 kw387) rfl rfl rfl (by decide +kernel) ⟨Nat.le_of_ble_eq_true rfl, Nat.le_of_ble_eq_true rfl⟩) (sPc_V hPc hK hDc hE (va_recv hK hP (ci := 3) (q0 := 0) rfl rfl)) rfl rfl hl.1 rfl (lv_room (Nat.le_of_ble_eq_true rfl)) dX3_isDigit_10 ⟨Nat.zero_le _, Nat.zero_le _⟩) (fun H locs hP hD hS => ?_)
    obtain rfl := os h
    exact ret_z hx hb hr hlocks hP hK hD hS dX3_isDigit_13

theorem dX3_isWinding_0 : decode cX3_isWinding 0 = .ok (.aload_n 0, 1) := by decide +kernel
theorem dX3_isWinding_1 : decode cX3_isWinding 1 = .ok (.iconst 1, 1) := by decide +kernel
theorem dX3_isWinding_2 : decode cX3_isWinding 2 = .ok (.bipush 48, 2) := by decide +kernel
theorem dX3_isWinding_4 : decode cX3_isWinding 4 = .ok (.bipush 49, 2) := by decide +kernel
theorem dX3_isWinding_6 : decode cX3_isWinding 6 = .ok (.invokevirtual 126, 3) := by decide +kernel
theorem dX3_isWinding_9 : decode cX3_isWinding 9 = .ok (.ifCond .ne 5, 3) := by decide +kernel
theorem dX3_isWinding_12 : decode cX3_isWinding 12 = .ok (.iconst 0, 1) := by decide +kernel
theorem dX3_isWinding_13 : decode cX3_isWinding 13 = .ok (.ireturn, 1) := by decide +kernel
theorem dX3_isWinding_14 : decode cX3_isWinding 14 = .ok (.aload_n 0, 1) := by decide +kernel
theorem dX3_isWinding_15 : decode cX3_isWinding 15 = .ok (.bipush 58, 2) := by decide +kernel
theorem dX3_isWinding_17 : decode cX3_isWinding 17 = .ok (.bipush 58, 2) := by decide +kernel
theorem dX3_isWinding_19 : decode cX3_isWinding 19 = .ok (.invokevirtual 116, 3) := by decide +kernel
theorem dX3_isWinding_22 : decode cX3_isWinding 22 = .ok (.ifCond .ne 8, 3) := by decide +kernel
theorem dX3_isWinding_25 : decode cX3_isWinding 25 = .ok (.aload_n 0, 1) := by decide +kernel
theorem dX3_isWinding_26 : decode cX3_isWinding 26 = .ok (.invokevirtual 119, 3) := by decide +kernel
theorem dX3_isWinding_29 : decode cX3_isWinding 29 = .ok (.ireturn, 1) := by decide +kernel
theorem dX3_isWinding_30 : decode cX3_isWinding 30 = .ok (.aload_n 0, 1) := by decide +kernel
theorem dX3_isWinding_31 : decode cX3_isWinding 31 = .ok (.dup, 1) := by decide +kernel
theorem dX3_isWinding_32 : decode cX3_isWinding 32 = .ok (.getfield 109, 3) := by decide +kernel
theorem dX3_isWinding_35 : decode cX3_isWinding 35 = .ok (.iconst 1, 1) := by decide +kernel
theorem dX3_isWinding_36 : decode cX3_isWinding 36 = .ok (.iadd, 1) := by decide +kernel
theorem dX3_isWinding_37 : decode cX3_isWinding 37 = .ok (.putfield 109, 3) := by decide +kernel
theorem dX3_isWinding_40 : decode cX3_isWinding 40 = .ok (.aload_n 0, 1) := by decide +kernel
theorem dX3_isWinding_41 : decode cX3_isWinding 41 = .ok (.iconst 2, 1) := by decide +kernel
theorem dX3_isWinding_42 : decode cX3_isWinding 42 = .ok (.bipush 49, 2) := by decide +kernel
theorem dX3_isWinding_44 : decode cX3_isWinding 44 = .ok (.bipush 57, 2) := by decide +kernel
theorem dX3_isWinding_46 : decode cX3_isWinding 46 = .ok (.invokevirtual 126, 3) := by decide +kernel
theorem dX3_isWinding_49 : decode cX3_isWinding 49 = .ok (.ifCond .ne 5, 3) := by decide +kernel
theorem dX3_isWinding_52 : decode cX3_isWinding 52 = .ok (.iconst 0, 1) := by decide +kernel
theorem dX3_isWinding_53 : decode cX3_isWinding 53 = .ok (.ireturn, 1) := by decide +kernel
theorem dX3_isWinding_54 : decode cX3_isWinding 54 = .ok (.aload_n 0, 1) := by decide +kernel
theorem dX3_isWinding_55 : decode cX3_isWinding 55 = .ok (.bipush 48, 2) := by decide +kernel
theorem dX3_isWinding_57 : decode cX3_isWinding 57 = .ok (.bipush 57, 2) := by decide +kernel
theorem dX3_isWinding_59 : decode cX3_isWinding 59 = .ok (.invokevirtual 116, 3) := by decide +kernel
theorem dX3_isWinding_62 : decode cX3_isWinding 62 = .ok (.ifCond .eq 55, 3) := by decide +kernel
theorem dX3_isWinding_65 : decode cX3_isWinding 65 = .ok (.aload_n 0, 1) := by decide +kernel
theorem dX3_isWinding_66 : decode cX3_isWinding 66 = .ok (.getfield 22, 3) := by decide +kernel
theorem dX3_isWinding_69 : decode cX3_isWinding 69 = .ok (.iconst 3, 1) := by decide +kernel
theorem dX3_isWinding_70 : decode cX3_isWinding 70 = .ok (.aload_n 0, 1) := by decide +kernel
theorem dX3_isWinding_71 : decode cX3_isWinding 71 = .ok (.getfield 123, 3) := by decide +kernel
theorem dX3_isWinding_74 : decode cX3_isWinding 74 = .ok (.imul, 1) := by decide +kernel
theorem dX3_isWinding_75 : decode cX3_isWinding 75 = .ok (.iconst 2, 1) := by decide +kernel
theorem dX3_isWinding_76 : decode cX3_isWinding 76 = .ok (.iadd, 1) := by decide +kernel
theorem dX3_isWinding_77 : decode cX3_isWinding 77 = .ok (.bipush 10, 2) := by decide +kernel
theorem dX3_isWinding_79 : decode cX3_isWinding 79 = .ok (.aload_n 0, 1) := by decide +kernel
theorem dX3_isWinding_80 : decode cX3_isWinding 80 = .ok (.getfield 22, 3) := by decide +kernel
theorem dX3_isWinding_83 : decode cX3_isWinding 83 = .ok (.iconst 3, 1) := by decide +kernel
theorem dX3_isWinding_84 : decode cX3_isWinding 84 = .ok (.aload_n 0, 1) := by decide +kernel
theorem dX3_isWinding_85 : decode cX3_isWinding 85 = .ok (.getfield 123, 3) := by decide +kernel
theorem dX3_isWinding_88 : decode cX3_isWinding 88 = .ok (.imul, 1) := by decide +kernel
theorem dX3_isWinding_89 : decode cX3_isWinding 89 = .ok (.iconst 2, 1) := by decide +kernel
theorem dX3_isWinding_90 : decode cX3_isWinding 90 = .ok (.iadd, 1) := by decide +kernel
theorem dX3_isWinding_91 : decode cX3_isWinding 91 = .ok (.iaload, 1) := by decide +kernel
theorem dX3_isWinding_92 : decode cX3_isWinding 92 = .ok (.imul, 1) := by decide +kernel
theorem dX3_isWinding_93 : decode cX3_isWinding 93 = .ok (.aload_n 0, 1) := by decide +kernel
theorem dX3_isWinding_94 : decode cX3_isWinding 94 = .ok (.getfield 19, 3) := by decide +kernel
theorem dX3_isWinding_97 : decode cX3_isWinding 97 = .ok (.aload_n 0, 1) := by decide +kernel
theorem dX3_isWinding_98 : decode cX3_isWinding 98 = .ok (.getfield 109, 3) := by decide +kernel
theorem dX3_isWinding_101 : decode cX3_isWinding 101 = .ok (.iaload, 1) := by decide +kernel
theorem dX3_isWinding_102 : decode cX3_isWinding 102 = .ok (.iadd, 1) := by decide +kernel
theorem dX3_isWinding_103 : decode cX3_isWinding 103 = .ok (.bipush 48, 2) := by decide +kernel
theorem dX3_isWinding_105 : decode cX3_isWinding 105 = .ok (.isub, 1) := by decide +kernel
theorem dX3_isWinding_106 : decode cX3_isWinding 106 = .ok (.iastore, 1) := by decide +kernel
theorem dX3_isWinding_107 : decode cX3_isWinding 107 = .ok (.aload_n 0, 1) := by decide +kernel
theorem dX3_isWinding_108 : decode cX3_isWinding 108 = .ok (.dup, 1) := by decide +kernel
theorem dX3_isWinding_109 : decode cX3_isWinding 109 = .ok (.getfield 109, 3) := by decide +kernel
theorem dX3_isWinding_112 : decode cX3_isWinding 112 = .ok (.iconst 1, 1) := by decide +kernel
theorem dX3_isWinding_113 : decode cX3_isWinding 113 = .ok (.iadd, 1) := by decide +kernel
theorem dX3_isWinding_114 : decode cX3_isWinding 114 = .ok (.putfield 109, 3) := by decide +kernel
theorem dX3_isWinding_117 : decode cX3_isWinding 117 = .ok (.iconst 1, 1) := by decide +kernel
theorem dX3_isWinding_118 : decode cX3_isWinding 118 = .ok (.ireturn, 1) := by decide +kernel
abbrev zX3_isWinding : List Cond := .code yX3_isWinding cX3_isWinding 1 (some .boolean) :: BIG
def fX3_isWinding (mo : MoT) (tx : (Nat → Int32)) (td : (Nat → Int32)) : Option (Bool × MoT × (Nat → Int32)) := (fX3_isDigit mo tx td 1 48 49).bind (fun r1 => (if (b2i r1.1) = 0 then some (false, r1.2.1, r1.2.2) else (fX3_isAt r1.2.1 tx 58 58).bind (fun r3 => (if (b2i r3) = 0 then (fX3_stops r1.2.1).bind (fun r11 => some (r11.1, r11.2, r1.2.2)) else (fX3_isDigit (r1.2.1.1, r1.2.1.2.1, r1.2.1.2.2.1, (r1.2.1.2.2.2.1 + 1), r1.2.1.2.2.2.2.1, r1.2.1.2.2.2.2.2) tx r1.2.2 2 49 57).bind (fun r5 => (if (b2i r5.1) = 0 then some (false, r5.2.1, r5.2.2) else (fX3_isAt r5.2.1 tx 48 57).bind (fun r7 => (if (b2i r7) = 0 then some (true, r5.2.1, r5.2.2) else gd (pin ((3 * r5.2.1.2.2.2.2.2) + 2) 93) (gd (pin r5.2.1.2.2.2.1 60) (some (true, (r5.2.1.1, r5.2.1.2.1, r5.2.1.2.2.1, (r5.2.1.2.2.2.1 + 1), r5.2.1.2.2.2.2.1, r5.2.1.2.2.2.2.2), (upd r5.2.2 (Int32.toNatClampNeg ((3 * r5.2.1.2.2.2.2.2) + 2)) (((10 * (r5.2.2 (Int32.toNatClampNeg ((3 * r5.2.1.2.2.2.2.2) + 2)))) + (tx (Int32.toNatClampNeg r5.2.1.2.2.2.1))) - 48)))))))))))))
set_option maxHeartbeats 4000000 in
set_option maxRecDepth 100000 in
theorem mtX3_isWinding (l : Launch) (D : va_G) (t : Nat → ClassId) (mh : Nat) (mb : Nat → Nat) (mo : MoT) (tx : (Nat → Int32)) (td : (Nat → Int32)) (out : Bool × MoT × (Nat → Int32)) (h : fX3_isWinding mo tx td = some out)  (sz : Nat) : Met l yX3_isWinding zX3_isWinding ({ frames := 3, cells := 0, slots := 0, locals := 67 }) (sPc D t (gMo mh mb mo ++ (gA t (mb 3) 60 tx ++ (gA t (mb 4) 93 td))) sz [.ref mh]) (qI D t (gMo mh mb out.2.1 ++ (gA t (mb 3) 60 tx ++ (gA t (mb 4) 93 out.2.2))) (b2i out.1) (va_A (gMo mh mb mo ++ (gA t (mb 3) 60 tx ++ (gA t (mb 4) 93 td))) sz)) 0 0 (va_A (gMo mh mb mo ++ (gA t (mb 3) 60 tx ++ (gA t (mb 4) 93 td))) sz) := by
  refine met_of (Qf := fun A => qI D t (gMo mh mb out.2.1 ++ (gA t (mb 3) 60 tx ++ (gA t (mb 4) 93 out.2.2))) (b2i out.1) A) (cc := cX3_isWinding) (maxL := 1) (ret := some .boolean) (by decide) rfl (Nat.le_of_ble_eq_true rfl) ?_
  intro p e s m args below meth c A hx hb hr hml hts hown hlocks hA hP hK hD hE hS ls hl
  have htB : ∀ w ∈ BIG, w.before args s = true := fun w h => hts w (List.mem_cons_of_mem _ h)
  have hown : s.vm.findClass RX3 = some m.cls := hown
  have hl : lv_has ls 1 [(0, .ref mh)] := hl
  unfold fX3_isWinding at h
  refine lv_aload_n hx hb dX3_isWinding_0 rfl (lv_at hl 0 rfl) ?_
  refine lv_iconst (v := 1) hx hb dX3_isWinding_1 (by decide) ?_
  refine lv_bipush (v := 48) hx hb dX3_isWinding_2 (by decide) ?_
  refine lv_bipush (v := 49) hx hb dX3_isWinding_4 (by decide) ?_
  obtain ⟨r1, h1, h⟩ := ob h
  refine call_i (v := b2i r1.1) (wc := (gMo mh mb mo ++ (gA t (mb 3) 60 tx ++ (gA t (mb 4) 93 td)))) (wc' := (gMo mh mb r1.2.1 ++ (gA t (mb 3) 60 tx ++ (gA t (mb 4) 93 r1.2.2)))) (ws' := (gMo mh mb r1.2.1 ++ (gA t (mb 3) 60 tx ++ (gA t (mb 4) 93 r1.2.2)))) (cutB (bs := [gMo mh mb mo, gA t (mb 3) 60 tx, gA t (mb 4) 93 td]) (cs := [gMo mh mb mo, gA t (mb 3) 60 tx, gA t (mb 4) 93 td]) (cs' := [gMo mh mb r1.2.1, gA t (mb 3) 60 tx, gA t (mb 4) 93 r1.2.2]) (bs' := [gMo mh mb r1.2.1, gA t (mb 3) 60 tx, gA t (mb 4) 93 r1.2.2]) [0, 1, 2] hP hD hS hA rfl rfl rfl rfl) hS (fun hPc hDc => va_runV (As := [.int 1, .int 48, .int 49]) (rest := []) ⟨hx, hb, hml, hown, hts⟩ (mtX3_isDigit l D t mh mb mo tx td 1 48 49 r1 h1 _) (cwV 3 hts (gBV kw376 kw377 kw378 kw5 kw379) rfl rfl rfl (by decide +kernel) ⟨Nat.le_of_ble_eq_true rfl, Nat.le_of_ble_eq_true rfl⟩) (sPc_V hPc hK hDc hE (va_recv hK hP (ci := 3) (q0 := 0) rfl rfl)) rfl rfl hl.1 rfl (lv_room (Nat.le_of_ble_eq_true rfl)) dX3_isWinding_6 ⟨Nat.zero_le _, Nat.zero_le _⟩) (fun H locs hP hD hS => ?_)
  refine lv_if_ne (tgt := 14) hx hb dX3_isWinding_9 (by decide) (fun c2 => ?_) (fun c2 => ?_)
  · have h := it_n c2 h
    refine lv_aload_n hx hb dX3_isWinding_14 rfl (lv_at hl 0 rfl) ?_
    refine lv_bipush (v := 58) hx hb dX3_isWinding_15 (by decide) ?_
    refine lv_bipush (v := 58) hx hb dX3_isWinding_17 (by decide) ?_
    obtain ⟨r3, h3, h⟩ := ob h
    refine call_i (v := b2i r3) (wc := (gMo mh mb r1.2.1 ++ (gA t (mb 3) 60 tx))) (wc' := (gMo mh mb r1.2.1 ++ (gA t (mb 3) 60 tx))) (ws' := (gMo mh mb r1.2.1 ++ (gA t (mb 3) 60 tx ++ (gA t (mb 4) 93 r1.2.2)))) (cutB (bs := [gMo mh mb r1.2.1, gA t (mb 3) 60 tx, gA t (mb 4) 93 r1.2.2]) (cs := [gMo mh mb r1.2.1, gA t (mb 3) 60 tx]) (cs' := [gMo mh mb r1.2.1, gA t (mb 3) 60 tx]) (bs' := [gMo mh mb r1.2.1, gA t (mb 3) 60 tx, gA t (mb 4) 93 r1.2.2]) [0, 1] hP hD hS hA rfl rfl rfl rfl) hS (fun hPc hDc => va_runV (As := [.int 58, .int 58]) (rest := []) ⟨hx, hb, hml, hown, hts⟩ (mtX3_isAt l D t mh mb r1.2.1 tx 58 58 r3 h3 _) (cwV 2 hts (gBV kw380 kw381 kw382 kw5 kw383) rfl rfl rfl (by decide +kernel) ⟨Nat.le_of_ble_eq_true rfl, Nat.le_of_ble_eq_true rfl⟩) (sPc_V hPc hK hDc hE (va_recv hK hP (ci := 3) (q0 := 0) rfl rfl)) rfl rfl hl.1 rfl (lv_room (Nat.le_of_ble_eq_true rfl)) dX3_isWinding_19 ⟨Nat.zero_le _, Nat.zero_le _⟩) (fun H locs hP hD hS => ?_)
    refine lv_if_ne (tgt := 30) hx hb dX3_isWinding_22 (by decide) (fun c4 => ?_) (fun c4 => ?_)
    · have h := it_n c4 h
      refine lv_aload_n hx hb dX3_isWinding_30 rfl (lv_at hl 0 rfl) ?_
      refine lv_dup hx hb dX3_isWinding_31 rfl ?_
      refine va_get (D := D) (ci := 3) (v := .int r1.2.1.2.2.2.1) (C := RX3) (T := TX3) (N := 14) hx hb htB inlX3 hown hK hP 0 rfl rfl 7 (by decide) (htB _ kw362) (fun _ h9 => h9) rfl dX3_isWinding_32 ?_
      refine lv_iconst (v := 1) hx hb dX3_isWinding_35 (by decide) ?_
      refine lv_iadd hx hb dX3_isWinding_36 ?_
      refine va_put (D := D) (ci := 3) (v := .int (r1.2.1.2.2.2.1 + 1)) (ty := .int) (C := RX3) (T := TX3) (N := 14) hx hb htB inlX3 tyX3 tyX3_ok nmX3 hown hK hP hD hS 0 rfl rfl 7 (by decide) (htB _ kw362) (fun _ h9 => h9) rfl (by decide +kernel) rfl rfl (Nat.le_of_ble_eq_true rfl) dX3_isWinding_37 (fun H locs hP hD hS => ?_)
      have hP : va_P D vwCl (gMo mh mb (r1.2.1.1, r1.2.1.2.1, r1.2.1.2.2.1, (r1.2.1.2.2.2.1 + 1), r1.2.1.2.2.2.2.1, r1.2.1.2.2.2.2.2) ++ (gA t (mb 3) 60 tx ++ (gA t (mb 4) 93 r1.2.2))) H := hP
      have hD : va_D A (gMo mh mb (r1.2.1.1, r1.2.1.2.1, r1.2.1.2.2.1, (r1.2.1.2.2.2.1 + 1), r1.2.1.2.2.2.2.1, r1.2.1.2.2.2.2.2) ++ (gA t (mb 3) 60 tx ++ (gA t (mb 4) 93 r1.2.2))) := hD
      refine lv_aload_n hx hb dX3_isWinding_40 rfl (lv_at hl 0 rfl) ?_
      refine lv_iconst (v := 2) hx hb dX3_isWinding_41 (by decide) ?_
      refine lv_bipush (v := 49) hx hb dX3_isWinding_42 (by decide) ?_
      refine lv_bipush (v := 57) hx hb dX3_isWinding_44 (by decide) ?_
      obtain ⟨r5, h5, h⟩ := ob h
      refine call_i (v := b2i r5.1) (wc := (gMo mh mb (r1.2.1.1, r1.2.1.2.1, r1.2.1.2.2.1, (r1.2.1.2.2.2.1 + 1), r1.2.1.2.2.2.2.1, r1.2.1.2.2.2.2.2) ++ (gA t (mb 3) 60 tx ++ (gA t (mb 4) 93 r1.2.2)))) (wc' := (gMo mh mb r5.2.1 ++ (gA t (mb 3) 60 tx ++ (gA t (mb 4) 93 r5.2.2)))) (ws' := (gMo mh mb r5.2.1 ++ (gA t (mb 3) 60 tx ++ (gA t (mb 4) 93 r5.2.2)))) (cutB (bs := [gMo mh mb (r1.2.1.1, r1.2.1.2.1, r1.2.1.2.2.1, (r1.2.1.2.2.2.1 + 1), r1.2.1.2.2.2.2.1, r1.2.1.2.2.2.2.2), gA t (mb 3) 60 tx, gA t (mb 4) 93 r1.2.2]) (cs := [gMo mh mb (r1.2.1.1, r1.2.1.2.1, r1.2.1.2.2.1, (r1.2.1.2.2.2.1 + 1), r1.2.1.2.2.2.2.1, r1.2.1.2.2.2.2.2), gA t (mb 3) 60 tx, gA t (mb 4) 93 r1.2.2]) (cs' := [gMo mh mb r5.2.1, gA t (mb 3) 60 tx, gA t (mb 4) 93 r5.2.2]) (bs' := [gMo mh mb r5.2.1, gA t (mb 3) 60 tx, gA t (mb 4) 93 r5.2.2]) [0, 1, 2] hP hD hS hA rfl rfl rfl rfl) hS (fun hPc hDc => va_runV (As := [.int 2, .int 49, .int 57]) (rest := []) ⟨hx, hb, hml, hown, hts⟩ (mtX3_isDigit l D t mh mb (r1.2.1.1, r1.2.1.2.1, r1.2.1.2.2.1, (r1.2.1.2.2.2.1 + 1), r1.2.1.2.2.2.2.1, r1.2.1.2.2.2.2.2) tx r1.2.2 2 49 57 r5 h5 _) (cwV 3 hts (gBV kw376 kw377 kw378 kw5 kw379) rfl rfl rfl (by decide +kernel) ⟨Nat.le_of_ble_eq_true rfl, Nat.le_of_ble_eq_true rfl⟩) (sPc_V hPc hK hDc hE (va_recv hK hP (ci := 3) (q0 := 0) rfl rfl)) rfl rfl hl.1 rfl (lv_room (Nat.le_of_ble_eq_true rfl)) dX3_isWinding_46 ⟨Nat.zero_le _, Nat.zero_le _⟩) (fun H locs hP hD hS => ?_)
      refine lv_if_ne (tgt := 54) hx hb dX3_isWinding_49 (by decide) (fun c6 => ?_) (fun c6 => ?_)
      · have h := it_n c6 h
        refine lv_aload_n hx hb dX3_isWinding_54 rfl (lv_at hl 0 rfl) ?_
        refine lv_bipush (v := 48) hx hb dX3_isWinding_55 (by decide) ?_
        refine lv_bipush (v := 57) hx hb dX3_isWinding_57 (by decide) ?_
        obtain ⟨r7, h7, h⟩ := ob h
        refine call_i (v := b2i r7) (wc := (gMo mh mb r5.2.1 ++ (gA t (mb 3) 60 tx))) (wc' := (gMo mh mb r5.2.1 ++ (gA t (mb 3) 60 tx))) (ws' := (gMo mh mb r5.2.1 ++ (gA t (mb 3) 60 tx ++ (gA t (mb 4) 93 r5.2.2)))) (cutB (bs := [gMo mh mb r5.2.1, gA t (mb 3) 60 tx, gA t (mb 4) 93 r5.2.2]) (cs := [gMo mh mb r5.2.1, gA t (mb 3) 60 tx]) (cs' := [gMo mh mb r5.2.1, gA t (mb 3) 60 tx]) (bs' := [gMo mh mb r5.2.1, gA t (mb 3) 60 tx, gA t (mb 4) 93 r5.2.2]) [0, 1] hP hD hS hA rfl rfl rfl rfl) hS (fun hPc hDc => va_runV (As := [.int 48, .int 57]) (rest := []) ⟨hx, hb, hml, hown, hts⟩ (mtX3_isAt l D t mh mb r5.2.1 tx 48 57 r7 h7 _) (cwV 2 hts (gBV kw380 kw381 kw382 kw5 kw383) rfl rfl rfl (by decide +kernel) ⟨Nat.le_of_ble_eq_true rfl, Nat.le_of_ble_eq_true rfl⟩) (sPc_V hPc hK hDc hE (va_recv hK hP (ci := 3) (q0 := 0) rfl rfl)) rfl rfl hl.1 rfl (lv_room (Nat.le_of_ble_eq_true rfl)) dX3_isWinding_59 ⟨Nat.zero_le _, Nat.zero_le _⟩) (fun H locs hP hD hS => ?_)
        refine lv_if_eq (tgt := 117) hx hb dX3_isWinding_62 (by decide) (fun c8 => ?_) (fun c8 => ?_)
        · have h := it_p c8 h
          refine lv_iconst (v := 1) hx hb dX3_isWinding_117 (by decide) ?_
          obtain rfl := os h
          exact ret_z hx hb hr hlocks hP hK hD hS dX3_isWinding_118
        · have h := it_n c8 h
          refine lv_aload_n hx hb dX3_isWinding_65 rfl (lv_at hl 0 rfl) ?_
          refine va_get (D := D) (ci := 3) (v := .ref (mb 4)) (C := RX3) (T := TX3) (N := 14) hx hb htB inlX3 hown hK hP 0 rfl rfl 9 (by decide) (htB _ kw58) (fun _ h9 => h9) rfl dX3_isWinding_66 ?_
          refine lv_iconst (v := 3) hx hb dX3_isWinding_69 (by decide) ?_
          refine lv_aload_n hx hb dX3_isWinding_70 rfl (lv_at hl 0 rfl) ?_
          refine va_get (D := D) (ci := 3) (v := .int r5.2.1.2.2.2.2.2) (C := RX3) (T := TX3) (N := 14) hx hb htB inlX3 hown hK hP 0 rfl rfl 10 (by decide) (htB _ kw367) (fun _ h9 => h9) rfl dX3_isWinding_71 ?_
          refine lv_imul hx hb dX3_isWinding_74 ?_
          refine lv_iconst (v := 2) hx hb dX3_isWinding_75 (by decide) ?_
          refine lv_iadd hx hb dX3_isWinding_76 ?_
          refine lv_bipush (v := 10) hx hb dX3_isWinding_77 (by decide) ?_
          refine lv_aload_n hx hb dX3_isWinding_79 rfl (lv_at hl 0 rfl) ?_
          refine va_get (D := D) (ci := 3) (v := .ref (mb 4)) (C := RX3) (T := TX3) (N := 14) hx hb htB inlX3 hown hK hP 0 rfl rfl 9 (by decide) (htB _ kw58) (fun _ h9 => h9) rfl dX3_isWinding_80 ?_
          refine lv_iconst (v := 3) hx hb dX3_isWinding_83 (by decide) ?_
          refine lv_aload_n hx hb dX3_isWinding_84 rfl (lv_at hl 0 rfl) ?_
          refine va_get (D := D) (ci := 3) (v := .int r5.2.1.2.2.2.2.2) (C := RX3) (T := TX3) (N := 14) hx hb htB inlX3 hown hK hP 0 rfl rfl 10 (by decide) (htB _ kw367) (fun _ h9 => h9) rfl dX3_isWinding_85 ?_
          refine lv_imul hx hb dX3_isWinding_88 ?_
          refine lv_iconst (v := 2) hx hb dX3_isWinding_89 (by decide) ?_
          refine lv_iadd hx hb dX3_isWinding_90 ?_
          obtain ⟨g9, h⟩ := og h
          refine va_iald hx hb hK hP 2 0 rfl rfl (pin_in g9) dX3_isWinding_91 ?_
          refine lv_imul hx hb dX3_isWinding_92 ?_
          refine lv_aload_n hx hb dX3_isWinding_93 rfl (lv_at hl 0 rfl) ?_
          refine va_get (D := D) (ci := 3) (v := .ref (mb 3)) (C := RX3) (T := TX3) (N := 14) hx hb htB inlX3 hown hK hP 0 rfl rfl 4 (by decide) (htB _ kw57) (fun _ h9 => h9) rfl dX3_isWinding_94 ?_
          refine lv_aload_n hx hb dX3_isWinding_97 rfl (lv_at hl 0 rfl) ?_
          refine va_get (D := D) (ci := 3) (v := .int r5.2.1.2.2.2.1) (C := RX3) (T := TX3) (N := 14) hx hb htB inlX3 hown hK hP 0 rfl rfl 7 (by decide) (htB _ kw362) (fun _ h9 => h9) rfl dX3_isWinding_98 ?_
          obtain ⟨g10, h⟩ := og h
          refine va_iald hx hb hK hP 1 0 rfl rfl (pin_in g10) dX3_isWinding_101 ?_
          refine lv_iadd hx hb dX3_isWinding_102 ?_
          refine lv_bipush (v := 48) hx hb dX3_isWinding_103 (by decide) ?_
          refine lv_isub hx hb dX3_isWinding_105 ?_
          refine va_iast hx hb hK hP hD hS 2 0 rfl rfl (pin_in g9) dX3_isWinding_106 (fun H locs hP hD hS => ?_)
          have hP : va_P D vwCl (gMo mh mb r5.2.1 ++ (gA t (mb 3) 60 tx ++ (gA t (mb 4) 93 (upd r5.2.2 (Int32.toNatClampNeg ((3 * r5.2.1.2.2.2.2.2) + 2)) (((10 * (r5.2.2 (Int32.toNatClampNeg ((3 * r5.2.1.2.2.2.2.2) + 2)))) + (tx (Int32.toNatClampNeg r5.2.1.2.2.2.1))) - 48))))) H := hP
          have hD : va_D A (gMo mh mb r5.2.1 ++ (gA t (mb 3) 60 tx ++ (gA t (mb 4) 93 (upd r5.2.2 (Int32.toNatClampNeg ((3 * r5.2.1.2.2.2.2.2) + 2)) (((10 * (r5.2.2 (Int32.toNatClampNeg ((3 * r5.2.1.2.2.2.2.2) + 2)))) + (tx (Int32.toNatClampNeg r5.2.1.2.2.2.1))) - 48))))) := hD
          refine lv_aload_n hx hb dX3_isWinding_107 rfl (lv_at hl 0 rfl) ?_
          refine lv_dup hx hb dX3_isWinding_108 rfl ?_
          refine va_get (D := D) (ci := 3) (v := .int r5.2.1.2.2.2.1) (C := RX3) (T := TX3) (N := 14) hx hb htB inlX3 hown hK hP 0 rfl rfl 7 (by decide) (htB _ kw362) (fun _ h9 => h9) rfl dX3_isWinding_109 ?_
          refine lv_iconst (v := 1) hx hb dX3_isWinding_112 (by decide) ?_
          refine lv_iadd hx hb dX3_isWinding_113 ?_
          refine va_put (D := D) (ci := 3) (v := .int (r5.2.1.2.2.2.1 + 1)) (ty := .int) (C := RX3) (T := TX3) (N := 14) hx hb htB inlX3 tyX3 tyX3_ok nmX3 hown hK hP hD hS 0 rfl rfl 7 (by decide) (htB _ kw362) (fun _ h9 => h9) rfl (by decide +kernel) rfl rfl (Nat.le_of_ble_eq_true rfl) dX3_isWinding_114 (fun H locs hP hD hS => ?_)
          have hP : va_P D vwCl (gMo mh mb (r5.2.1.1, r5.2.1.2.1, r5.2.1.2.2.1, (r5.2.1.2.2.2.1 + 1), r5.2.1.2.2.2.2.1, r5.2.1.2.2.2.2.2) ++ (gA t (mb 3) 60 tx ++ (gA t (mb 4) 93 (upd r5.2.2 (Int32.toNatClampNeg ((3 * r5.2.1.2.2.2.2.2) + 2)) (((10 * (r5.2.2 (Int32.toNatClampNeg ((3 * r5.2.1.2.2.2.2.2) + 2)))) + (tx (Int32.toNatClampNeg r5.2.1.2.2.2.1))) - 48))))) H := hP
          have hD : va_D A (gMo mh mb (r5.2.1.1, r5.2.1.2.1, r5.2.1.2.2.1, (r5.2.1.2.2.2.1 + 1), r5.2.1.2.2.2.2.1, r5.2.1.2.2.2.2.2) ++ (gA t (mb 3) 60 tx ++ (gA t (mb 4) 93 (upd r5.2.2 (Int32.toNatClampNeg ((3 * r5.2.1.2.2.2.2.2) + 2)) (((10 * (r5.2.2 (Int32.toNatClampNeg ((3 * r5.2.1.2.2.2.2.2) + 2)))) + (tx (Int32.toNatClampNeg r5.2.1.2.2.2.1))) - 48))))) := hD
          refine lv_iconst (v := 1) hx hb dX3_isWinding_117 (by decide) ?_
          obtain rfl := os h
          exact ret_z hx hb hr hlocks hP hK hD hS dX3_isWinding_118
      · have h := it_p c6 h
        refine lv_iconst (v := 0) hx hb dX3_isWinding_52 (by decide) ?_
        obtain rfl := os h
        exact ret_z hx hb hr hlocks hP hK hD hS dX3_isWinding_53
    · have h := it_p c4 h
      refine lv_aload_n hx hb dX3_isWinding_25 rfl (lv_at hl 0 rfl) ?_
      obtain ⟨r11, h11, h⟩ := ob h
      refine call_i (v := b2i r11.1) (wc := (gMo mh mb r1.2.1)) (wc' := (gMo mh mb r11.2)) (ws' := (gMo mh mb r11.2 ++ (gA t (mb 3) 60 tx ++ (gA t (mb 4) 93 r1.2.2)))) (cutB (bs := [gMo mh mb r1.2.1, gA t (mb 3) 60 tx, gA t (mb 4) 93 r1.2.2]) (cs := [gMo mh mb r1.2.1]) (cs' := [gMo mh mb r11.2]) (bs' := [gMo mh mb r11.2, gA t (mb 3) 60 tx, gA t (mb 4) 93 r1.2.2]) [0] hP hD hS hA rfl rfl rfl rfl) hS (fun hPc hDc => va_runV (As := []) (rest := []) ⟨hx, hb, hml, hown, hts⟩ (mtX3_stops l D t mh mb r1.2.1 r11 h11 _) (cwV 0 hts (gBV kw384 kw385 kw386 kw5 kw387) rfl rfl rfl (by decide +kernel) ⟨Nat.le_of_ble_eq_true rfl, Nat.le_of_ble_eq_true rfl⟩) (sPc_V hPc hK hDc hE (va_recv hK hP (ci := 3) (q0 := 0) rfl rfl)) rfl rfl hl.1 rfl (lv_room (Nat.le_of_ble_eq_true rfl)) dX3_isWinding_26 ⟨Nat.zero_le _, Nat.zero_le _⟩) (fun H locs hP hD hS => ?_)
      obtain rfl := os h
      exact ret_z hx hb hr hlocks hP hK hD hS dX3_isWinding_29
  · have h := it_p c2 h
    refine lv_iconst (v := 0) hx hb dX3_isWinding_12 (by decide) ?_
    obtain rfl := os h
    exact ret_z hx hb hr hlocks hP hK hD hS dX3_isWinding_13

theorem dX3_isPart_0 : decode cX3_isPart 0 = .ok (.aload_n 0, 1) := by decide +kernel
theorem dX3_isPart_1 : decode cX3_isPart 1 = .ok (.getfield 109, 3) := by decide +kernel
theorem dX3_isPart_4 : decode cX3_isPart 4 = .ok (.aload_n 0, 1) := by decide +kernel
theorem dX3_isPart_5 : decode cX3_isPart 5 = .ok (.getfield 106, 3) := by decide +kernel
theorem dX3_isPart_8 : decode cX3_isPart 8 = .ok (.if_icmp .ge 15, 3) := by decide +kernel
theorem dX3_isPart_11 : decode cX3_isPart 11 = .ok (.aload_n 0, 1) := by decide +kernel
theorem dX3_isPart_12 : decode cX3_isPart 12 = .ok (.getfield 19, 3) := by decide +kernel
theorem dX3_isPart_15 : decode cX3_isPart 15 = .ok (.aload_n 0, 1) := by decide +kernel
theorem dX3_isPart_16 : decode cX3_isPart 16 = .ok (.getfield 109, 3) := by decide +kernel
theorem dX3_isPart_19 : decode cX3_isPart 19 = .ok (.iaload, 1) := by decide +kernel
theorem dX3_isPart_20 : decode cX3_isPart 20 = .ok (.goto 4, 3) := by decide +kernel
theorem dX3_isPart_23 : decode cX3_isPart 23 = .ok (.iconst 0, 1) := by decide +kernel
theorem dX3_isPart_24 : decode cX3_isPart 24 = .ok (.istore_n 1, 1) := by decide +kernel
theorem dX3_isPart_25 : decode cX3_isPart 25 = .ok (.aload_n 0, 1) := by decide +kernel
theorem dX3_isPart_26 : decode cX3_isPart 26 = .ok (.getfield 22, 3) := by decide +kernel
theorem dX3_isPart_29 : decode cX3_isPart 29 = .ok (.iconst 3, 1) := by decide +kernel
theorem dX3_isPart_30 : decode cX3_isPart 30 = .ok (.aload_n 0, 1) := by decide +kernel
theorem dX3_isPart_31 : decode cX3_isPart 31 = .ok (.getfield 123, 3) := by decide +kernel
theorem dX3_isPart_34 : decode cX3_isPart 34 = .ok (.imul, 1) := by decide +kernel
theorem dX3_isPart_35 : decode cX3_isPart 35 = .ok (.iload_n 1, 1) := by decide +kernel
theorem dX3_isPart_36 : decode cX3_isPart 36 = .ok (.iastore, 1) := by decide +kernel
theorem dX3_isPart_37 : decode cX3_isPart 37 = .ok (.iload_n 1, 1) := by decide +kernel
theorem dX3_isPart_38 : decode cX3_isPart 38 = .ok (.bipush 119, 2) := by decide +kernel
theorem dX3_isPart_40 : decode cX3_isPart 40 = .ok (.if_icmp .ne 18, 3) := by decide +kernel
theorem dX3_isPart_43 : decode cX3_isPart 43 = .ok (.aload_n 0, 1) := by decide +kernel
theorem dX3_isPart_44 : decode cX3_isPart 44 = .ok (.dup, 1) := by decide +kernel
theorem dX3_isPart_45 : decode cX3_isPart 45 = .ok (.getfield 109, 3) := by decide +kernel
theorem dX3_isPart_48 : decode cX3_isPart 48 = .ok (.iconst 1, 1) := by decide +kernel
theorem dX3_isPart_49 : decode cX3_isPart 49 = .ok (.iadd, 1) := by decide +kernel
theorem dX3_isPart_50 : decode cX3_isPart 50 = .ok (.putfield 109, 3) := by decide +kernel
theorem dX3_isPart_53 : decode cX3_isPart 53 = .ok (.aload_n 0, 1) := by decide +kernel
theorem dX3_isPart_54 : decode cX3_isPart 54 = .ok (.invokevirtual 129, 3) := by decide +kernel
theorem dX3_isPart_57 : decode cX3_isPart 57 = .ok (.ireturn, 1) := by decide +kernel
theorem dX3_isPart_58 : decode cX3_isPart 58 = .ok (.iload_n 1, 1) := by decide +kernel
theorem dX3_isPart_59 : decode cX3_isPart 59 = .ok (.bipush 99, 2) := by decide +kernel
theorem dX3_isPart_61 : decode cX3_isPart 61 = .ok (.if_icmp .ne 23, 3) := by decide +kernel
theorem dX3_isPart_64 : decode cX3_isPart 64 = .ok (.aload_n 0, 1) := by decide +kernel
theorem dX3_isPart_65 : decode cX3_isPart 65 = .ok (.dup, 1) := by decide +kernel
theorem dX3_isPart_66 : decode cX3_isPart 66 = .ok (.getfield 109, 3) := by decide +kernel
theorem dX3_isPart_69 : decode cX3_isPart 69 = .ok (.iconst 1, 1) := by decide +kernel
theorem dX3_isPart_70 : decode cX3_isPart 70 = .ok (.iadd, 1) := by decide +kernel
theorem dX3_isPart_71 : decode cX3_isPart 71 = .ok (.putfield 109, 3) := by decide +kernel
theorem dX3_isPart_74 : decode cX3_isPart 74 = .ok (.aload_n 0, 1) := by decide +kernel
theorem dX3_isPart_75 : decode cX3_isPart 75 = .ok (.iconst 1, 1) := by decide +kernel
theorem dX3_isPart_76 : decode cX3_isPart 76 = .ok (.bipush 48, 2) := by decide +kernel
theorem dX3_isPart_78 : decode cX3_isPart 78 = .ok (.bipush 49, 2) := by decide +kernel
theorem dX3_isPart_80 : decode cX3_isPart 80 = .ok (.invokevirtual 126, 3) := by decide +kernel
theorem dX3_isPart_83 : decode cX3_isPart 83 = .ok (.ireturn, 1) := by decide +kernel
theorem dX3_isPart_84 : decode cX3_isPart 84 = .ok (.aload_n 0, 1) := by decide +kernel
theorem dX3_isPart_85 : decode cX3_isPart 85 = .ok (.getfield 22, 3) := by decide +kernel
theorem dX3_isPart_88 : decode cX3_isPart 88 = .ok (.iconst 3, 1) := by decide +kernel
theorem dX3_isPart_89 : decode cX3_isPart 89 = .ok (.aload_n 0, 1) := by decide +kernel
theorem dX3_isPart_90 : decode cX3_isPart 90 = .ok (.getfield 123, 3) := by decide +kernel
theorem dX3_isPart_93 : decode cX3_isPart 93 = .ok (.imul, 1) := by decide +kernel
theorem dX3_isPart_94 : decode cX3_isPart 94 = .ok (.iconst 2, 1) := by decide +kernel
theorem dX3_isPart_95 : decode cX3_isPart 95 = .ok (.iadd, 1) := by decide +kernel
theorem dX3_isPart_96 : decode cX3_isPart 96 = .ok (.iconst 1, 1) := by decide +kernel
theorem dX3_isPart_97 : decode cX3_isPart 97 = .ok (.iastore, 1) := by decide +kernel
theorem dX3_isPart_98 : decode cX3_isPart 98 = .ok (.aload_n 0, 1) := by decide +kernel
theorem dX3_isPart_99 : decode cX3_isPart 99 = .ok (.iconst 1, 1) := by decide +kernel
theorem dX3_isPart_100 : decode cX3_isPart 100 = .ok (.bipush 48, 2) := by decide +kernel
theorem dX3_isPart_102 : decode cX3_isPart 102 = .ok (.bipush 53, 2) := by decide +kernel
theorem dX3_isPart_104 : decode cX3_isPart 104 = .ok (.invokevirtual 126, 3) := by decide +kernel
theorem dX3_isPart_107 : decode cX3_isPart 107 = .ok (.ifCond .ne 5, 3) := by decide +kernel
theorem dX3_isPart_110 : decode cX3_isPart 110 = .ok (.iconst 0, 1) := by decide +kernel
theorem dX3_isPart_111 : decode cX3_isPart 111 = .ok (.ireturn, 1) := by decide +kernel
theorem dX3_isPart_112 : decode cX3_isPart 112 = .ok (.aload_n 0, 1) := by decide +kernel
theorem dX3_isPart_113 : decode cX3_isPart 113 = .ok (.bipush 42, 2) := by decide +kernel
theorem dX3_isPart_115 : decode cX3_isPart 115 = .ok (.bipush 42, 2) := by decide +kernel
theorem dX3_isPart_117 : decode cX3_isPart 117 = .ok (.invokevirtual 116, 3) := by decide +kernel
theorem dX3_isPart_120 : decode cX3_isPart 120 = .ok (.ifCond .ne 5, 3) := by decide +kernel
theorem dX3_isPart_123 : decode cX3_isPart 123 = .ok (.iconst 1, 1) := by decide +kernel
theorem dX3_isPart_124 : decode cX3_isPart 124 = .ok (.ireturn, 1) := by decide +kernel
theorem dX3_isPart_125 : decode cX3_isPart 125 = .ok (.aload_n 0, 1) := by decide +kernel
theorem dX3_isPart_126 : decode cX3_isPart 126 = .ok (.dup, 1) := by decide +kernel
theorem dX3_isPart_127 : decode cX3_isPart 127 = .ok (.getfield 109, 3) := by decide +kernel
theorem dX3_isPart_130 : decode cX3_isPart 130 = .ok (.iconst 1, 1) := by decide +kernel
theorem dX3_isPart_131 : decode cX3_isPart 131 = .ok (.iadd, 1) := by decide +kernel
theorem dX3_isPart_132 : decode cX3_isPart 132 = .ok (.putfield 109, 3) := by decide +kernel
theorem dX3_isPart_135 : decode cX3_isPart 135 = .ok (.aload_n 0, 1) := by decide +kernel
theorem dX3_isPart_136 : decode cX3_isPart 136 = .ok (.iconst 2, 1) := by decide +kernel
theorem dX3_isPart_137 : decode cX3_isPart 137 = .ok (.bipush 50, 2) := by decide +kernel
theorem dX3_isPart_139 : decode cX3_isPart 139 = .ok (.bipush 57, 2) := by decide +kernel
theorem dX3_isPart_141 : decode cX3_isPart 141 = .ok (.invokevirtual 126, 3) := by decide +kernel
theorem dX3_isPart_144 : decode cX3_isPart 144 = .ok (.ireturn, 1) := by decide +kernel
abbrev zX3_isPart : List Cond := .code yX3_isPart cX3_isPart 2 (some .boolean) :: BIG
def fX3_isPart_j24 (tx : (Nat → Int32))  (v24 : MoT × (Nat → Int32) × Int32) : Option (Bool × MoT × (Nat → Int32)) := gd (pin (3 * v24.1.2.2.2.2.2) 93) ((if v24.2.2 = 119 then (fX3_isWinding (v24.1.1, v24.1.2.1, v24.1.2.2.1, (v24.1.2.2.2.1 + 1), v24.1.2.2.2.2.1, v24.1.2.2.2.2.2) tx (upd v24.2.1 (Int32.toNatClampNeg (3 * v24.1.2.2.2.2.2)) v24.2.2)).bind (fun r13 => some (r13.1, r13.2.1, r13.2.2)) else (if v24.2.2 = 99 then (fX3_isDigit (v24.1.1, v24.1.2.1, v24.1.2.2.1, (v24.1.2.2.2.1 + 1), v24.1.2.2.2.2.1, v24.1.2.2.2.2.2) tx (upd v24.2.1 (Int32.toNatClampNeg (3 * v24.1.2.2.2.2.2)) v24.2.2) 1 48 49).bind (fun r12 => some (r12.1, r12.2.1, r12.2.2)) else gd (pin ((3 * v24.1.2.2.2.2.2) + 2) 93) ((fX3_isDigit v24.1 tx (upd (upd v24.2.1 (Int32.toNatClampNeg (3 * v24.1.2.2.2.2.2)) v24.2.2) (Int32.toNatClampNeg ((3 * v24.1.2.2.2.2.2) + 2)) 1) 1 48 53).bind (fun r7 => (if (b2i r7.1) = 0 then some (false, r7.2.1, r7.2.2) else (fX3_isAt r7.2.1 tx 42 42).bind (fun r9 => (if (b2i r9) = 0 then some (true, r7.2.1, r7.2.2) else (fX3_isDigit (r7.2.1.1, r7.2.1.2.1, r7.2.1.2.2.1, (r7.2.1.2.2.2.1 + 1), r7.2.1.2.2.2.2.1, r7.2.1.2.2.2.2.2) tx r7.2.2 2 50 57).bind (fun r11 => some (r11.1, r11.2.1, r11.2.2))))))))))
def fX3_isPart (mo : MoT) (tx : (Nat → Int32)) (td : (Nat → Int32)) : Option (Bool × MoT × (Nat → Int32)) := (if mo.2.1 ≤ mo.2.2.2.1 then fX3_isPart_j24 tx (mo, td, 0) else gd (pin mo.2.2.2.1 60) (fX3_isPart_j24 tx (mo, td, tx (Int32.toNatClampNeg mo.2.2.2.1))))
set_option maxHeartbeats 4000000 in
set_option maxRecDepth 100000 in
theorem mtX3_isPart (l : Launch) (D : va_G) (t : Nat → ClassId) (mh : Nat) (mb : Nat → Nat) (mo : MoT) (tx : (Nat → Int32)) (td : (Nat → Int32)) (out : Bool × MoT × (Nat → Int32)) (h : fX3_isPart mo tx td = some out)  (sz : Nat) : Met l yX3_isPart zX3_isPart ({ frames := 4, cells := 0, slots := 0, locals := 87 }) (sPc D t (gMo mh mb mo ++ (gA t (mb 3) 60 tx ++ (gA t (mb 4) 93 td))) sz [.ref mh]) (qI D t (gMo mh mb out.2.1 ++ (gA t (mb 3) 60 tx ++ (gA t (mb 4) 93 out.2.2))) (b2i out.1) (va_A (gMo mh mb mo ++ (gA t (mb 3) 60 tx ++ (gA t (mb 4) 93 td))) sz)) 0 0 (va_A (gMo mh mb mo ++ (gA t (mb 3) 60 tx ++ (gA t (mb 4) 93 td))) sz) := by
  refine met_of (Qf := fun A => qI D t (gMo mh mb out.2.1 ++ (gA t (mb 3) 60 tx ++ (gA t (mb 4) 93 out.2.2))) (b2i out.1) A) (cc := cX3_isPart) (maxL := 2) (ret := some .boolean) (by decide) rfl (Nat.le_of_ble_eq_true rfl) ?_
  intro p e s m args below meth c A hx hb hr hml hts hown hlocks hA hP hK hD hE hS ls hl
  have htB : ∀ w ∈ BIG, w.before args s = true := fun w h => hts w (List.mem_cons_of_mem _ h)
  have hown : s.vm.findClass RX3 = some m.cls := hown
  have hl : lv_has ls 2 [(0, .ref mh)] := hl
  unfold fX3_isPart at h
  have J24 : ∀ v24 : MoT × (Nat → Int32) × Int32, fX3_isPart_j24 tx v24 = some out → ∀ (H : Heap) (locs : List Loc), va_P D vwCl (gMo mh mb v24.1 ++ (gA t (mb 3) 60 tx ++ (gA t (mb 4) 93 v24.2.1))) H → va_D A (gMo mh mb v24.1 ++ (gA t (mb 3) 60 tx ++ (gA t (mb 4) 93 v24.2.1))) → va_S A s.heap H locs → ∀ ls : Array Slot, lv_has ls 2 [(0, .ref mh)] → W p l e ({ frames := 4, cells := 0, slots := 0, locals := 87 }) s m args below meth c H locs 0 0 (MQ below (qI D t (gMo mh mb out.2.1 ++ (gA t (mb 3) 60 tx ++ (gA t (mb 4) 93 out.2.2))) (b2i out.1) A) args s 0 0 A) (F0 m 24 ls [.int v24.2.2]) := by
    intro v24 h H locs hP hD hS ls hl
    unfold fX3_isPart_j24 at h
    refine lv_istore_n (lv' := [(1, .int v24.2.2), (0, .ref mh)]) hx hb dX3_isPart_24 rfl hl (by decide) rfl (fun ls hl => ?_)
    refine lv_aload_n hx hb dX3_isPart_25 rfl (lv_at hl 1 rfl) ?_
    refine va_get (D := D) (ci := 3) (v := .ref (mb 4)) (C := RX3) (T := TX3) (N := 14) hx hb htB inlX3 hown hK hP 0 rfl rfl 9 (by decide) (htB _ kw58) (fun _ h9 => h9) rfl dX3_isPart_26 ?_
    refine lv_iconst (v := 3) hx hb dX3_isPart_29 (by decide) ?_
    refine lv_aload_n hx hb dX3_isPart_30 rfl (lv_at hl 1 rfl) ?_
    refine va_get (D := D) (ci := 3) (v := .int v24.1.2.2.2.2.2) (C := RX3) (T := TX3) (N := 14) hx hb htB inlX3 hown hK hP 0 rfl rfl 10 (by decide) (htB _ kw367) (fun _ h9 => h9) rfl dX3_isPart_31 ?_
    refine lv_imul hx hb dX3_isPart_34 ?_
    refine lv_iload_n hx hb dX3_isPart_35 rfl (lv_at hl 0 rfl) ?_
    obtain ⟨g3, h⟩ := og h
    refine va_iast hx hb hK hP hD hS 2 0 rfl rfl (pin_in g3) dX3_isPart_36 (fun H locs hP hD hS => ?_)
    have hP : va_P D vwCl (gMo mh mb v24.1 ++ (gA t (mb 3) 60 tx ++ (gA t (mb 4) 93 (upd v24.2.1 (Int32.toNatClampNeg (3 * v24.1.2.2.2.2.2)) v24.2.2)))) H := hP
    have hD : va_D A (gMo mh mb v24.1 ++ (gA t (mb 3) 60 tx ++ (gA t (mb 4) 93 (upd v24.2.1 (Int32.toNatClampNeg (3 * v24.1.2.2.2.2.2)) v24.2.2)))) := hD
    refine lv_iload_n hx hb dX3_isPart_37 rfl (lv_at hl 0 rfl) ?_
    refine lv_bipush (v := 119) hx hb dX3_isPart_38 (by decide) ?_
    refine lv_icmp_ne (tgt := 58) hx hb dX3_isPart_40 (by decide) (fun c4 => ?_) (fun c4 => ?_)
    · have h := it_n c4 h
      refine lv_iload_n hx hb dX3_isPart_58 rfl (lv_at hl 0 rfl) ?_
      refine lv_bipush (v := 99) hx hb dX3_isPart_59 (by decide) ?_
      refine lv_icmp_ne (tgt := 84) hx hb dX3_isPart_61 (by decide) (fun c5 => ?_) (fun c5 => ?_)
      · have h := it_n c5 h
        refine lv_aload_n hx hb dX3_isPart_84 rfl (lv_at hl 1 rfl) ?_
        refine va_get (D := D) (ci := 3) (v := .ref (mb 4)) (C := RX3) (T := TX3) (N := 14) hx hb htB inlX3 hown hK hP 0 rfl rfl 9 (by decide) (htB _ kw58) (fun _ h9 => h9) rfl dX3_isPart_85 ?_
        refine lv_iconst (v := 3) hx hb dX3_isPart_88 (by decide) ?_
        refine lv_aload_n hx hb dX3_isPart_89 rfl (lv_at hl 1 rfl) ?_
        refine va_get (D := D) (ci := 3) (v := .int v24.1.2.2.2.2.2) (C := RX3) (T := TX3) (N := 14) hx hb htB inlX3 hown hK hP 0 rfl rfl 10 (by decide) (htB _ kw367) (fun _ h9 => h9) rfl dX3_isPart_90 ?_
        refine lv_imul hx hb dX3_isPart_93 ?_
        refine lv_iconst (v := 2) hx hb dX3_isPart_94 (by decide) ?_
        refine lv_iadd hx hb dX3_isPart_95 ?_
        refine lv_iconst (v := 1) hx hb dX3_isPart_96 (by decide) ?_
        obtain ⟨g6, h⟩ := og h
        refine va_iast hx hb hK hP hD hS 2 0 rfl rfl (pin_in g6) dX3_isPart_97 (fun H locs hP hD hS => ?_)
        have hP : va_P D vwCl (gMo mh mb v24.1 ++ (gA t (mb 3) 60 tx ++ (gA t (mb 4) 93 (upd (upd v24.2.1 (Int32.toNatClampNeg (3 * v24.1.2.2.2.2.2)) v24.2.2) (Int32.toNatClampNeg ((3 * v24.1.2.2.2.2.2) + 2)) 1)))) H := hP
        have hD : va_D A (gMo mh mb v24.1 ++ (gA t (mb 3) 60 tx ++ (gA t (mb 4) 93 (upd (upd v24.2.1 (Int32.toNatClampNeg (3 * v24.1.2.2.2.2.2)) v24.2.2) (Int32.toNatClampNeg ((3 * v24.1.2.2.2.2.2) + 2)) 1)))) := hD
        refine lv_aload_n hx hb dX3_isPart_98 rfl (lv_at hl 1 rfl) ?_
        refine lv_iconst (v := 1) hx hb dX3_isPart_99 (by decide) ?_
        refine lv_bipush (v := 48) hx hb dX3_isPart_100 (by decide) ?_
        refine lv_bipush (v := 53) hx hb dX3_isPart_102 (by decide) ?_
        obtain ⟨r7, h7, h⟩ := ob h
        refine call_i (v := b2i r7.1) (wc := (gMo mh mb v24.1 ++ (gA t (mb 3) 60 tx ++ (gA t (mb 4) 93 (upd (upd v24.2.1 (Int32.toNatClampNeg (3 * v24.1.2.2.2.2.2)) v24.2.2) (Int32.toNatClampNeg ((3 * v24.1.2.2.2.2.2) + 2)) 1))))) (wc' := (gMo mh mb r7.2.1 ++ (gA t (mb 3) 60 tx ++ (gA t (mb 4) 93 r7.2.2)))) (ws' := (gMo mh mb r7.2.1 ++ (gA t (mb 3) 60 tx ++ (gA t (mb 4) 93 r7.2.2)))) (cutB (bs := [gMo mh mb v24.1, gA t (mb 3) 60 tx, gA t (mb 4) 93 (upd (upd v24.2.1 (Int32.toNatClampNeg (3 * v24.1.2.2.2.2.2)) v24.2.2) (Int32.toNatClampNeg ((3 * v24.1.2.2.2.2.2) + 2)) 1)]) (cs := [gMo mh mb v24.1, gA t (mb 3) 60 tx, gA t (mb 4) 93 (upd (upd v24.2.1 (Int32.toNatClampNeg (3 * v24.1.2.2.2.2.2)) v24.2.2) (Int32.toNatClampNeg ((3 * v24.1.2.2.2.2.2) + 2)) 1)]) (cs' := [gMo mh mb r7.2.1, gA t (mb 3) 60 tx, gA t (mb 4) 93 r7.2.2]) (bs' := [gMo mh mb r7.2.1, gA t (mb 3) 60 tx, gA t (mb 4) 93 r7.2.2]) [0, 1, 2] hP hD hS hA rfl rfl rfl rfl) hS (fun hPc hDc => va_runV (As := [.int 1, .int 48, .int 53]) (rest := []) ⟨hx, hb, hml, hown, hts⟩ (mtX3_isDigit l D t mh mb v24.1 tx (upd (upd v24.2.1 (Int32.toNatClampNeg (3 * v24.1.2.2.2.2.2)) v24.2.2) (Int32.toNatClampNeg ((3 * v24.1.2.2.2.2.2) + 2)) 1) 1 48 53 r7 h7 _) (cwV 3 hts (gBV kw376 kw377 kw378 kw5 kw379) rfl rfl rfl (by decide +kernel) ⟨Nat.le_of_ble_eq_true rfl, Nat.le_of_ble_eq_true rfl⟩) (sPc_V hPc hK hDc hE (va_recv hK hP (ci := 3) (q0 := 0) rfl rfl)) rfl rfl hl.1 rfl (lv_room (Nat.le_of_ble_eq_true rfl)) dX3_isPart_104 ⟨Nat.zero_le _, Nat.zero_le _⟩) (fun H locs hP hD hS => ?_)
        refine lv_if_ne (tgt := 112) hx hb dX3_isPart_107 (by decide) (fun c8 => ?_) (fun c8 => ?_)
        · have h := it_n c8 h
          refine lv_aload_n hx hb dX3_isPart_112 rfl (lv_at hl 1 rfl) ?_
          refine lv_bipush (v := 42) hx hb dX3_isPart_113 (by decide) ?_
          refine lv_bipush (v := 42) hx hb dX3_isPart_115 (by decide) ?_
          obtain ⟨r9, h9, h⟩ := ob h
          refine call_i (v := b2i r9) (wc := (gMo mh mb r7.2.1 ++ (gA t (mb 3) 60 tx))) (wc' := (gMo mh mb r7.2.1 ++ (gA t (mb 3) 60 tx))) (ws' := (gMo mh mb r7.2.1 ++ (gA t (mb 3) 60 tx ++ (gA t (mb 4) 93 r7.2.2)))) (cutB (bs := [gMo mh mb r7.2.1, gA t (mb 3) 60 tx, gA t (mb 4) 93 r7.2.2]) (cs := [gMo mh mb r7.2.1, gA t (mb 3) 60 tx]) (cs' := [gMo mh mb r7.2.1, gA t (mb 3) 60 tx]) (bs' := [gMo mh mb r7.2.1, gA t (mb 3) 60 tx, gA t (mb 4) 93 r7.2.2]) [0, 1] hP hD hS hA rfl rfl rfl rfl) hS (fun hPc hDc => va_runV (As := [.int 42, .int 42]) (rest := []) ⟨hx, hb, hml, hown, hts⟩ (mtX3_isAt l D t mh mb r7.2.1 tx 42 42 r9 h9 _) (cwV 2 hts (gBV kw380 kw381 kw382 kw5 kw383) rfl rfl rfl (by decide +kernel) ⟨Nat.le_of_ble_eq_true rfl, Nat.le_of_ble_eq_true rfl⟩) (sPc_V hPc hK hDc hE (va_recv hK hP (ci := 3) (q0 := 0) rfl rfl)) rfl rfl hl.1 rfl (lv_room (Nat.le_of_ble_eq_true rfl)) dX3_isPart_117 ⟨Nat.zero_le _, Nat.zero_le _⟩) (fun H locs hP hD hS => ?_)
          refine lv_if_ne (tgt := 125) hx hb dX3_isPart_120 (by decide) (fun c10 => ?_) (fun c10 => ?_)
          · have h := it_n c10 h
            refine lv_aload_n hx hb dX3_isPart_125 rfl (lv_at hl 1 rfl) ?_
            refine lv_dup hx hb dX3_isPart_126 rfl ?_
            refine va_get (D := D) (ci := 3) (v := .int r7.2.1.2.2.2.1) (C := RX3) (T := TX3) (N := 14) hx hb htB inlX3 hown hK hP 0 rfl rfl 7 (by decide) (htB _ kw362) (fun _ h9 => h9) rfl dX3_isPart_127 ?_
            refine lv_iconst (v := 1) hx hb dX3_isPart_130 (by decide) ?_
            refine lv_iadd hx hb dX3_isPart_131 ?_
            refine va_put (D := D) (ci := 3) (v := .int (r7.2.1.2.2.2.1 + 1)) (ty := .int) (C := RX3) (T := TX3) (N := 14) hx hb htB inlX3 tyX3 tyX3_ok nmX3 hown hK hP hD hS 0 rfl rfl 7 (by decide) (htB _ kw362) (fun _ h9 => h9) rfl (by decide +kernel) rfl rfl (Nat.le_of_ble_eq_true rfl) dX3_isPart_132 (fun H locs hP hD hS => ?_)
            have hP : va_P D vwCl (gMo mh mb (r7.2.1.1, r7.2.1.2.1, r7.2.1.2.2.1, (r7.2.1.2.2.2.1 + 1), r7.2.1.2.2.2.2.1, r7.2.1.2.2.2.2.2) ++ (gA t (mb 3) 60 tx ++ (gA t (mb 4) 93 r7.2.2))) H := hP
            have hD : va_D A (gMo mh mb (r7.2.1.1, r7.2.1.2.1, r7.2.1.2.2.1, (r7.2.1.2.2.2.1 + 1), r7.2.1.2.2.2.2.1, r7.2.1.2.2.2.2.2) ++ (gA t (mb 3) 60 tx ++ (gA t (mb 4) 93 r7.2.2))) := hD
            refine lv_aload_n hx hb dX3_isPart_135 rfl (lv_at hl 1 rfl) ?_
            refine lv_iconst (v := 2) hx hb dX3_isPart_136 (by decide) ?_
            refine lv_bipush (v := 50) hx hb dX3_isPart_137 (by decide) ?_
            refine lv_bipush (v := 57) hx hb dX3_isPart_139 (by decide) ?_
            obtain ⟨r11, h11, h⟩ := ob h
            refine call_i (v := b2i r11.1) (wc := (gMo mh mb (r7.2.1.1, r7.2.1.2.1, r7.2.1.2.2.1, (r7.2.1.2.2.2.1 + 1), r7.2.1.2.2.2.2.1, r7.2.1.2.2.2.2.2) ++ (gA t (mb 3) 60 tx ++ (gA t (mb 4) 93 r7.2.2)))) (wc' := (gMo mh mb r11.2.1 ++ (gA t (mb 3) 60 tx ++ (gA t (mb 4) 93 r11.2.2)))) (ws' := (gMo mh mb r11.2.1 ++ (gA t (mb 3) 60 tx ++ (gA t (mb 4) 93 r11.2.2)))) (cutB (bs := [gMo mh mb (r7.2.1.1, r7.2.1.2.1, r7.2.1.2.2.1, (r7.2.1.2.2.2.1 + 1), r7.2.1.2.2.2.2.1, r7.2.1.2.2.2.2.2), gA t (mb 3) 60 tx, gA t (mb 4) 93 r7.2.2]) (cs := [gMo mh mb (r7.2.1.1, r7.2.1.2.1, r7.2.1.2.2.1, (r7.2.1.2.2.2.1 + 1), r7.2.1.2.2.2.2.1, r7.2.1.2.2.2.2.2), gA t (mb 3) 60 tx, gA t (mb 4) 93 r7.2.2]) (cs' := [gMo mh mb r11.2.1, gA t (mb 3) 60 tx, gA t (mb 4) 93 r11.2.2]) (bs' := [gMo mh mb r11.2.1, gA t (mb 3) 60 tx, gA t (mb 4) 93 r11.2.2]) [0, 1, 2] hP hD hS hA rfl rfl rfl rfl) hS (fun hPc hDc => va_runV (As := [.int 2, .int 50, .int 57]) (rest := []) ⟨hx, hb, hml, hown, hts⟩ (mtX3_isDigit l D t mh mb (r7.2.1.1, r7.2.1.2.1, r7.2.1.2.2.1, (r7.2.1.2.2.2.1 + 1), r7.2.1.2.2.2.2.1, r7.2.1.2.2.2.2.2) tx r7.2.2 2 50 57 r11 h11 _) (cwV 3 hts (gBV kw376 kw377 kw378 kw5 kw379) rfl rfl rfl (by decide +kernel) ⟨Nat.le_of_ble_eq_true rfl, Nat.le_of_ble_eq_true rfl⟩) (sPc_V hPc hK hDc hE (va_recv hK hP (ci := 3) (q0 := 0) rfl rfl)) rfl rfl hl.1 rfl (lv_room (Nat.le_of_ble_eq_true rfl)) dX3_isPart_141 ⟨Nat.zero_le _, Nat.zero_le _⟩) (fun H locs hP hD hS => ?_)
            obtain rfl := os h
            exact ret_z hx hb hr hlocks hP hK hD hS dX3_isPart_144
          · have h := it_p c10 h
            refine lv_iconst (v := 1) hx hb dX3_isPart_123 (by decide) ?_
            obtain rfl := os h
            exact ret_z hx hb hr hlocks hP hK hD hS dX3_isPart_124
        · have h := it_p c8 h
          refine lv_iconst (v := 0) hx hb dX3_isPart_110 (by decide) ?_
          obtain rfl := os h
          exact ret_z hx hb hr hlocks hP hK hD hS dX3_isPart_111
      · have h := it_p c5 h
        refine lv_aload_n hx hb dX3_isPart_64 rfl (lv_at hl 1 rfl) ?_
        refine lv_dup hx hb dX3_isPart_65 rfl ?_
        refine va_get (D := D) (ci := 3) (v := .int v24.1.2.2.2.1) (C := RX3) (T := TX3) (N := 14) hx hb htB inlX3 hown hK hP 0 rfl rfl 7 (by decide) (htB _ kw362) (fun _ h9 => h9) rfl dX3_isPart_66 ?_
        refine lv_iconst (v := 1) hx hb dX3_isPart_69 (by decide) ?_
        refine lv_iadd hx hb dX3_isPart_70 ?_
        refine va_put (D := D) (ci := 3) (v := .int (v24.1.2.2.2.1 + 1)) (ty := .int) (C := RX3) (T := TX3) (N := 14) hx hb htB inlX3 tyX3 tyX3_ok nmX3 hown hK hP hD hS 0 rfl rfl 7 (by decide) (htB _ kw362) (fun _ h9 => h9) rfl (by decide +kernel) rfl rfl (Nat.le_of_ble_eq_true rfl) dX3_isPart_71 (fun H locs hP hD hS => ?_)
        have hP : va_P D vwCl (gMo mh mb (v24.1.1, v24.1.2.1, v24.1.2.2.1, (v24.1.2.2.2.1 + 1), v24.1.2.2.2.2.1, v24.1.2.2.2.2.2) ++ (gA t (mb 3) 60 tx ++ (gA t (mb 4) 93 (upd v24.2.1 (Int32.toNatClampNeg (3 * v24.1.2.2.2.2.2)) v24.2.2)))) H := hP
        have hD : va_D A (gMo mh mb (v24.1.1, v24.1.2.1, v24.1.2.2.1, (v24.1.2.2.2.1 + 1), v24.1.2.2.2.2.1, v24.1.2.2.2.2.2) ++ (gA t (mb 3) 60 tx ++ (gA t (mb 4) 93 (upd v24.2.1 (Int32.toNatClampNeg (3 * v24.1.2.2.2.2.2)) v24.2.2)))) := hD
        refine lv_aload_n hx hb dX3_isPart_74 rfl (lv_at hl 1 rfl) ?_
        refine lv_iconst (v := 1) hx hb dX3_isPart_75 (by decide) ?_
        refine lv_bipush (v := 48) hx hb dX3_isPart_76 (by decide) ?_
        refine lv_bipush (v := 49) hx hb dX3_isPart_78 (by decide) ?_
        obtain ⟨r12, h12, h⟩ := ob h
        refine call_i (v := b2i r12.1) (wc := (gMo mh mb (v24.1.1, v24.1.2.1, v24.1.2.2.1, (v24.1.2.2.2.1 + 1), v24.1.2.2.2.2.1, v24.1.2.2.2.2.2) ++ (gA t (mb 3) 60 tx ++ (gA t (mb 4) 93 (upd v24.2.1 (Int32.toNatClampNeg (3 * v24.1.2.2.2.2.2)) v24.2.2))))) (wc' := (gMo mh mb r12.2.1 ++ (gA t (mb 3) 60 tx ++ (gA t (mb 4) 93 r12.2.2)))) (ws' := (gMo mh mb r12.2.1 ++ (gA t (mb 3) 60 tx ++ (gA t (mb 4) 93 r12.2.2)))) (cutB (bs := [gMo mh mb (v24.1.1, v24.1.2.1, v24.1.2.2.1, (v24.1.2.2.2.1 + 1), v24.1.2.2.2.2.1, v24.1.2.2.2.2.2), gA t (mb 3) 60 tx, gA t (mb 4) 93 (upd v24.2.1 (Int32.toNatClampNeg (3 * v24.1.2.2.2.2.2)) v24.2.2)]) (cs := [gMo mh mb (v24.1.1, v24.1.2.1, v24.1.2.2.1, (v24.1.2.2.2.1 + 1), v24.1.2.2.2.2.1, v24.1.2.2.2.2.2), gA t (mb 3) 60 tx, gA t (mb 4) 93 (upd v24.2.1 (Int32.toNatClampNeg (3 * v24.1.2.2.2.2.2)) v24.2.2)]) (cs' := [gMo mh mb r12.2.1, gA t (mb 3) 60 tx, gA t (mb 4) 93 r12.2.2]) (bs' := [gMo mh mb r12.2.1, gA t (mb 3) 60 tx, gA t (mb 4) 93 r12.2.2]) [0, 1, 2] hP hD hS hA rfl rfl rfl rfl) hS (fun hPc hDc => va_runV (As := [.int 1, .int 48, .int 49]) (rest := []) ⟨hx, hb, hml, hown, hts⟩ (mtX3_isDigit l D t mh mb (v24.1.1, v24.1.2.1, v24.1.2.2.1, (v24.1.2.2.2.1 + 1), v24.1.2.2.2.2.1, v24.1.2.2.2.2.2) tx (upd v24.2.1 (Int32.toNatClampNeg (3 * v24.1.2.2.2.2.2)) v24.2.2) 1 48 49 r12 h12 _) (cwV 3 hts (gBV kw376 kw377 kw378 kw5 kw379) rfl rfl rfl (by decide +kernel) ⟨Nat.le_of_ble_eq_true rfl, Nat.le_of_ble_eq_true rfl⟩) (sPc_V hPc hK hDc hE (va_recv hK hP (ci := 3) (q0 := 0) rfl rfl)) rfl rfl hl.1 rfl (lv_room (Nat.le_of_ble_eq_true rfl)) dX3_isPart_80 ⟨Nat.zero_le _, Nat.zero_le _⟩) (fun H locs hP hD hS => ?_)
        obtain rfl := os h
        exact ret_z hx hb hr hlocks hP hK hD hS dX3_isPart_83
    · have h := it_p c4 h
      refine lv_aload_n hx hb dX3_isPart_43 rfl (lv_at hl 1 rfl) ?_
      refine lv_dup hx hb dX3_isPart_44 rfl ?_
      refine va_get (D := D) (ci := 3) (v := .int v24.1.2.2.2.1) (C := RX3) (T := TX3) (N := 14) hx hb htB inlX3 hown hK hP 0 rfl rfl 7 (by decide) (htB _ kw362) (fun _ h9 => h9) rfl dX3_isPart_45 ?_
      refine lv_iconst (v := 1) hx hb dX3_isPart_48 (by decide) ?_
      refine lv_iadd hx hb dX3_isPart_49 ?_
      refine va_put (D := D) (ci := 3) (v := .int (v24.1.2.2.2.1 + 1)) (ty := .int) (C := RX3) (T := TX3) (N := 14) hx hb htB inlX3 tyX3 tyX3_ok nmX3 hown hK hP hD hS 0 rfl rfl 7 (by decide) (htB _ kw362) (fun _ h9 => h9) rfl (by decide +kernel) rfl rfl (Nat.le_of_ble_eq_true rfl) dX3_isPart_50 (fun H locs hP hD hS => ?_)
      have hP : va_P D vwCl (gMo mh mb (v24.1.1, v24.1.2.1, v24.1.2.2.1, (v24.1.2.2.2.1 + 1), v24.1.2.2.2.2.1, v24.1.2.2.2.2.2) ++ (gA t (mb 3) 60 tx ++ (gA t (mb 4) 93 (upd v24.2.1 (Int32.toNatClampNeg (3 * v24.1.2.2.2.2.2)) v24.2.2)))) H := hP
      have hD : va_D A (gMo mh mb (v24.1.1, v24.1.2.1, v24.1.2.2.1, (v24.1.2.2.2.1 + 1), v24.1.2.2.2.2.1, v24.1.2.2.2.2.2) ++ (gA t (mb 3) 60 tx ++ (gA t (mb 4) 93 (upd v24.2.1 (Int32.toNatClampNeg (3 * v24.1.2.2.2.2.2)) v24.2.2)))) := hD
      refine lv_aload_n hx hb dX3_isPart_53 rfl (lv_at hl 1 rfl) ?_
      obtain ⟨r13, h13, h⟩ := ob h
      refine call_i (v := b2i r13.1) (wc := (gMo mh mb (v24.1.1, v24.1.2.1, v24.1.2.2.1, (v24.1.2.2.2.1 + 1), v24.1.2.2.2.2.1, v24.1.2.2.2.2.2) ++ (gA t (mb 3) 60 tx ++ (gA t (mb 4) 93 (upd v24.2.1 (Int32.toNatClampNeg (3 * v24.1.2.2.2.2.2)) v24.2.2))))) (wc' := (gMo mh mb r13.2.1 ++ (gA t (mb 3) 60 tx ++ (gA t (mb 4) 93 r13.2.2)))) (ws' := (gMo mh mb r13.2.1 ++ (gA t (mb 3) 60 tx ++ (gA t (mb 4) 93 r13.2.2)))) (cutB (bs := [gMo mh mb (v24.1.1, v24.1.2.1, v24.1.2.2.1, (v24.1.2.2.2.1 + 1), v24.1.2.2.2.2.1, v24.1.2.2.2.2.2), gA t (mb 3) 60 tx, gA t (mb 4) 93 (upd v24.2.1 (Int32.toNatClampNeg (3 * v24.1.2.2.2.2.2)) v24.2.2)]) (cs := [gMo mh mb (v24.1.1, v24.1.2.1, v24.1.2.2.1, (v24.1.2.2.2.1 + 1), v24.1.2.2.2.2.1, v24.1.2.2.2.2.2), gA t (mb 3) 60 tx, gA t (mb 4) 93 (upd v24.2.1 (Int32.toNatClampNeg (3 * v24.1.2.2.2.2.2)) v24.2.2)]) (cs' := [gMo mh mb r13.2.1, gA t (mb 3) 60 tx, gA t (mb 4) 93 r13.2.2]) (bs' := [gMo mh mb r13.2.1, gA t (mb 3) 60 tx, gA t (mb 4) 93 r13.2.2]) [0, 1, 2] hP hD hS hA rfl rfl rfl rfl) hS (fun hPc hDc => va_runV (As := []) (rest := []) ⟨hx, hb, hml, hown, hts⟩ (mtX3_isWinding l D t mh mb (v24.1.1, v24.1.2.1, v24.1.2.2.1, (v24.1.2.2.2.1 + 1), v24.1.2.2.2.2.1, v24.1.2.2.2.2.2) tx (upd v24.2.1 (Int32.toNatClampNeg (3 * v24.1.2.2.2.2.2)) v24.2.2) r13 h13 _) (cwV 0 hts (gBV kw372 kw373 kw374 kw5 kw375) rfl rfl rfl (by decide +kernel) ⟨Nat.le_of_ble_eq_true rfl, Nat.le_of_ble_eq_true rfl⟩) (sPc_V hPc hK hDc hE (va_recv hK hP (ci := 3) (q0 := 0) rfl rfl)) rfl rfl hl.1 rfl (lv_room (Nat.le_of_ble_eq_true rfl)) dX3_isPart_54 ⟨Nat.zero_le _, Nat.zero_le _⟩) (fun H locs hP hD hS => ?_)
      obtain rfl := os h
      exact ret_z hx hb hr hlocks hP hK hD hS dX3_isPart_57
  refine lv_aload_n hx hb dX3_isPart_0 rfl (lv_at hl 0 rfl) ?_
  refine va_get (D := D) (ci := 3) (v := .int mo.2.2.2.1) (C := RX3) (T := TX3) (N := 14) hx hb htB inlX3 hown hK hP 0 rfl rfl 7 (by decide) (htB _ kw362) (fun _ h9 => h9) rfl dX3_isPart_1 ?_
  refine lv_aload_n hx hb dX3_isPart_4 rfl (lv_at hl 0 rfl) ?_
  refine va_get (D := D) (ci := 3) (v := .int mo.2.1) (C := RX3) (T := TX3) (N := 14) hx hb htB inlX3 hown hK hP 0 rfl rfl 5 (by decide) (htB _ kw332) (fun _ h9 => h9) rfl dX3_isPart_5 ?_
  refine lv_icmp_ge (tgt := 23) hx hb dX3_isPart_8 (by decide) (fun c1 => ?_) (fun c1 => ?_)
  · have h := it_p c1 h
    refine lv_iconst (v := 0) hx hb dX3_isPart_23 (by decide) ?_
    exact J24 (mo, td, 0) h _ _ hP hD hS _ (lv_sub hl [0] rfl)
  · have h := it_n c1 h
    refine lv_aload_n hx hb dX3_isPart_11 rfl (lv_at hl 0 rfl) ?_
    refine va_get (D := D) (ci := 3) (v := .ref (mb 3)) (C := RX3) (T := TX3) (N := 14) hx hb htB inlX3 hown hK hP 0 rfl rfl 4 (by decide) (htB _ kw57) (fun _ h9 => h9) rfl dX3_isPart_12 ?_
    refine lv_aload_n hx hb dX3_isPart_15 rfl (lv_at hl 0 rfl) ?_
    refine va_get (D := D) (ci := 3) (v := .int mo.2.2.2.1) (C := RX3) (T := TX3) (N := 14) hx hb htB inlX3 hown hK hP 0 rfl rfl 7 (by decide) (htB _ kw362) (fun _ h9 => h9) rfl dX3_isPart_16 ?_
    obtain ⟨g2, h⟩ := og h
    refine va_iald hx hb hK hP 1 0 rfl rfl (pin_in g2) dX3_isPart_19 ?_
    refine lv_goto (tgt := 24) hx hb dX3_isPart_20 (by decide) ?_
    exact J24 (mo, td, tx (Int32.toNatClampNeg mo.2.2.2.1)) h _ _ hP hD hS _ (lv_sub hl [0] rfl)

theorem dX3_isText_0 : decode cX3_isText 0 = .ok (.aload_n 0, 1) := by decide +kernel
theorem dX3_isText_1 : decode cX3_isText 1 = .ok (.iconst 0, 1) := by decide +kernel
theorem dX3_isText_2 : decode cX3_isText 2 = .ok (.putfield 109, 3) := by decide +kernel
theorem dX3_isText_5 : decode cX3_isText 5 = .ok (.aload_n 0, 1) := by decide +kernel
theorem dX3_isText_6 : decode cX3_isText 6 = .ok (.iconst 0, 1) := by decide +kernel
theorem dX3_isText_7 : decode cX3_isText 7 = .ok (.putfield 123, 3) := by decide +kernel
theorem dX3_isText_10 : decode cX3_isText 10 = .ok (.aload_n 0, 1) := by decide +kernel
theorem dX3_isText_11 : decode cX3_isText 11 = .ok (.iconst 0, 1) := by decide +kernel
theorem dX3_isText_12 : decode cX3_isText 12 = .ok (.putfield 112, 3) := by decide +kernel
theorem dX3_isText_15 : decode cX3_isText 15 = .ok (.iconst 1, 1) := by decide +kernel
theorem dX3_isText_16 : decode cX3_isText 16 = .ok (.istore_n 1, 1) := by decide +kernel
theorem dX3_isText_17 : decode cX3_isText 17 = .ok (.iload_n 1, 1) := by decide +kernel
theorem dX3_isText_18 : decode cX3_isText 18 = .ok (.ifCond .eq 52, 3) := by decide +kernel
theorem dX3_isText_21 : decode cX3_isText 21 = .ok (.aload_n 0, 1) := by decide +kernel
theorem dX3_isText_22 : decode cX3_isText 22 = .ok (.invokevirtual 132, 3) := by decide +kernel
theorem dX3_isText_25 : decode cX3_isText 25 = .ok (.ifCond .ne 5, 3) := by decide +kernel
theorem dX3_isText_28 : decode cX3_isText 28 = .ok (.iconst 0, 1) := by decide +kernel
theorem dX3_isText_29 : decode cX3_isText 29 = .ok (.ireturn, 1) := by decide +kernel
theorem dX3_isText_30 : decode cX3_isText 30 = .ok (.aload_n 0, 1) := by decide +kernel
theorem dX3_isText_31 : decode cX3_isText 31 = .ok (.dup, 1) := by decide +kernel
theorem dX3_isText_32 : decode cX3_isText 32 = .ok (.getfield 123, 3) := by decide +kernel
theorem dX3_isText_35 : decode cX3_isText 35 = .ok (.iconst 1, 1) := by decide +kernel
theorem dX3_isText_36 : decode cX3_isText 36 = .ok (.iadd, 1) := by decide +kernel
theorem dX3_isText_37 : decode cX3_isText 37 = .ok (.putfield 123, 3) := by decide +kernel
theorem dX3_isText_40 : decode cX3_isText 40 = .ok (.aload_n 0, 1) := by decide +kernel
theorem dX3_isText_41 : decode cX3_isText 41 = .ok (.bipush 59, 2) := by decide +kernel
theorem dX3_isText_43 : decode cX3_isText 43 = .ok (.bipush 59, 2) := by decide +kernel
theorem dX3_isText_45 : decode cX3_isText 45 = .ok (.invokevirtual 116, 3) := by decide +kernel
theorem dX3_isText_48 : decode cX3_isText 48 = .ok (.istore_n 1, 1) := by decide +kernel
theorem dX3_isText_49 : decode cX3_isText 49 = .ok (.aload_n 0, 1) := by decide +kernel
theorem dX3_isText_50 : decode cX3_isText 50 = .ok (.dup, 1) := by decide +kernel
theorem dX3_isText_51 : decode cX3_isText 51 = .ok (.getfield 109, 3) := by decide +kernel
theorem dX3_isText_54 : decode cX3_isText 54 = .ok (.iload_n 1, 1) := by decide +kernel
theorem dX3_isText_55 : decode cX3_isText 55 = .ok (.ifCond .eq 7, 3) := by decide +kernel
theorem dX3_isText_58 : decode cX3_isText 58 = .ok (.iconst 1, 1) := by decide +kernel
theorem dX3_isText_59 : decode cX3_isText 59 = .ok (.goto 4, 3) := by decide +kernel
theorem dX3_isText_62 : decode cX3_isText 62 = .ok (.iconst 0, 1) := by decide +kernel
theorem dX3_isText_63 : decode cX3_isText 63 = .ok (.iadd, 1) := by decide +kernel
theorem dX3_isText_64 : decode cX3_isText 64 = .ok (.putfield 109, 3) := by decide +kernel
theorem dX3_isText_67 : decode cX3_isText 67 = .ok (.goto (-50), 3) := by decide +kernel
theorem dX3_isText_70 : decode cX3_isText 70 = .ok (.aload_n 0, 1) := by decide +kernel
theorem dX3_isText_71 : decode cX3_isText 71 = .ok (.aload_n 0, 1) := by decide +kernel
theorem dX3_isText_72 : decode cX3_isText 72 = .ok (.getfield 109, 3) := by decide +kernel
theorem dX3_isText_75 : decode cX3_isText 75 = .ok (.aload_n 0, 1) := by decide +kernel
theorem dX3_isText_76 : decode cX3_isText 76 = .ok (.getfield 106, 3) := by decide +kernel
theorem dX3_isText_79 : decode cX3_isText 79 = .ok (.if_icmp .ge 7, 3) := by decide +kernel
theorem dX3_isText_82 : decode cX3_isText 82 = .ok (.iconst 1, 1) := by decide +kernel
theorem dX3_isText_83 : decode cX3_isText 83 = .ok (.goto 4, 3) := by decide +kernel
theorem dX3_isText_86 : decode cX3_isText 86 = .ok (.iconst 0, 1) := by decide +kernel
theorem dX3_isText_87 : decode cX3_isText 87 = .ok (.putfield 112, 3) := by decide +kernel
theorem dX3_isText_90 : decode cX3_isText 90 = .ok (.aload_n 0, 1) := by decide +kernel
theorem dX3_isText_91 : decode cX3_isText 91 = .ok (.getfield 109, 3) := by decide +kernel
theorem dX3_isText_94 : decode cX3_isText 94 = .ok (.aload_n 0, 1) := by decide +kernel
theorem dX3_isText_95 : decode cX3_isText 95 = .ok (.getfield 106, 3) := by decide +kernel
theorem dX3_isText_98 : decode cX3_isText 98 = .ok (.if_icmp .ne 7, 3) := by decide +kernel
theorem dX3_isText_101 : decode cX3_isText 101 = .ok (.iconst 1, 1) := by decide +kernel
theorem dX3_isText_102 : decode cX3_isText 102 = .ok (.goto 4, 3) := by decide +kernel
theorem dX3_isText_105 : decode cX3_isText 105 = .ok (.iconst 0, 1) := by decide +kernel
theorem dX3_isText_106 : decode cX3_isText 106 = .ok (.ireturn, 1) := by decide +kernel
abbrev zX3_isText : List Cond := .code yX3_isText cX3_isText 2 (some .boolean) :: BIG
def fX3_isText_l17 (tx : (Nat → Int32))  (K17 : (MoT × (Nat → Int32) × Int32) → Option (Bool × MoT × (Nat → Int32))) (v17 : MoT × (Nat → Int32) × Int32) : Option (Bool × MoT × (Nat → Int32)) := (if v17.2.2 = 0 then (if v17.1.2.1 ≤ v17.1.2.2.2.1 then (if v17.1.2.2.2.1 = v17.1.2.1 then some (true, (v17.1.1, v17.1.2.1, v17.1.2.2.1, v17.1.2.2.2.1, 0, v17.1.2.2.2.2.2), v17.2.1) else some (false, (v17.1.1, v17.1.2.1, v17.1.2.2.1, v17.1.2.2.2.1, 0, v17.1.2.2.2.2.2), v17.2.1)) else (if v17.1.2.2.2.1 = v17.1.2.1 then some (true, (v17.1.1, v17.1.2.1, v17.1.2.2.1, v17.1.2.2.2.1, 1, v17.1.2.2.2.2.2), v17.2.1) else some (false, (v17.1.1, v17.1.2.1, v17.1.2.2.1, v17.1.2.2.2.1, 1, v17.1.2.2.2.2.2), v17.2.1))) else (fX3_isPart v17.1 tx v17.2.1).bind (fun r5 => (if (b2i r5.1) = 0 then some (false, r5.2.1, r5.2.2) else (fX3_isAt (r5.2.1.1, r5.2.1.2.1, r5.2.1.2.2.1, r5.2.1.2.2.2.1, r5.2.1.2.2.2.2.1, (r5.2.1.2.2.2.2.2 + 1)) tx 59 59).bind (fun r7 => (if (b2i r7) = 0 then K17 ((r5.2.1.1, r5.2.1.2.1, r5.2.1.2.2.1, (r5.2.1.2.2.2.1 + 0), r5.2.1.2.2.2.2.1, (r5.2.1.2.2.2.2.2 + 1)), r5.2.2, b2i r7) else K17 ((r5.2.1.1, r5.2.1.2.1, r5.2.1.2.2.1, (r5.2.1.2.2.2.1 + 1), r5.2.1.2.2.2.2.1, (r5.2.1.2.2.2.2.2 + 1)), r5.2.2, b2i r7))))))
def fX3_isText (mo : MoT) (tx : (Nat → Int32)) (td : (Nat → Int32)) : Option (Bool × MoT × (Nat → Int32)) := lp (fX3_isText_l17 tx) 2000 ((mo.1, mo.2.1, mo.2.2.1, 0, 0, 0), td, 1)
set_option maxHeartbeats 4000000 in
set_option maxRecDepth 100000 in
theorem mtX3_isText (l : Launch) (D : va_G) (t : Nat → ClassId) (mh : Nat) (mb : Nat → Nat) (mo : MoT) (tx : (Nat → Int32)) (td : (Nat → Int32)) (out : Bool × MoT × (Nat → Int32)) (h : fX3_isText mo tx td = some out)  (sz : Nat) : Met l yX3_isText zX3_isText ({ frames := 5, cells := 0, slots := 0, locals := 108 }) (sPc D t (gMo mh mb mo ++ (gA t (mb 3) 60 tx ++ (gA t (mb 4) 93 td))) sz [.ref mh]) (qI D t (gMo mh mb out.2.1 ++ (gA t (mb 3) 60 tx ++ (gA t (mb 4) 93 out.2.2))) (b2i out.1) (va_A (gMo mh mb mo ++ (gA t (mb 3) 60 tx ++ (gA t (mb 4) 93 td))) sz)) 0 0 (va_A (gMo mh mb mo ++ (gA t (mb 3) 60 tx ++ (gA t (mb 4) 93 td))) sz) := by
  refine met_of (Qf := fun A => qI D t (gMo mh mb out.2.1 ++ (gA t (mb 3) 60 tx ++ (gA t (mb 4) 93 out.2.2))) (b2i out.1) A) (cc := cX3_isText) (maxL := 2) (ret := some .boolean) (by decide) rfl (Nat.le_of_ble_eq_true rfl) ?_
  intro p e s m args below meth c A hx hb hr hml hts hown hlocks hA hP hK hD hE hS ls hl
  have htB : ∀ w ∈ BIG, w.before args s = true := fun w h => hts w (List.mem_cons_of_mem _ h)
  have hown : s.vm.findClass RX3 = some m.cls := hown
  have hl : lv_has ls 2 [(0, .ref mh)] := hl
  unfold fX3_isText at h
  have J17 : ∀ (fu17 : Nat) (v17 : MoT × (Nat → Int32) × Int32), lp (fX3_isText_l17 tx) fu17 v17 = some out → ∀ (H : Heap) (locs : List Loc), va_P D vwCl (gMo mh mb v17.1 ++ (gA t (mb 3) 60 tx ++ (gA t (mb 4) 93 v17.2.1))) H → va_D A (gMo mh mb v17.1 ++ (gA t (mb 3) 60 tx ++ (gA t (mb 4) 93 v17.2.1))) → va_S A s.heap H locs → ∀ ls : Array Slot, lv_has ls 2 [(0, .ref mh), (1, .int v17.2.2)] → W p l e ({ frames := 5, cells := 0, slots := 0, locals := 108 }) s m args below meth c H locs 0 0 (MQ below (qI D t (gMo mh mb out.2.1 ++ (gA t (mb 3) 60 tx ++ (gA t (mb 4) 93 out.2.2))) (b2i out.1) A) args s 0 0 A) (F0 m 17 ls []) := by
    intro fu17
    induction fu17 with
    | zero => intro v17 h; cases h
    | succ fu17 ih17 =>
      intro v17 h H locs hP hD hS ls hl
      have h : fX3_isText_l17 tx (lp (fX3_isText_l17 tx) fu17) v17 = some out := h
      unfold fX3_isText_l17 at h
      refine lv_iload_n hx hb dX3_isText_17 rfl (lv_at hl 1 rfl) ?_
      refine lv_if_eq (tgt := 70) hx hb dX3_isText_18 (by decide) (fun c1 => ?_) (fun c1 => ?_)
      · have h := it_p c1 h
        refine lv_aload_n hx hb dX3_isText_70 rfl (lv_at hl 0 rfl) ?_
        refine lv_aload_n hx hb dX3_isText_71 rfl (lv_at hl 0 rfl) ?_
        refine va_get (D := D) (ci := 3) (v := .int v17.1.2.2.2.1) (C := RX3) (T := TX3) (N := 14) hx hb htB inlX3 hown hK hP 0 rfl rfl 7 (by decide) (htB _ kw362) (fun _ h9 => h9) rfl dX3_isText_72 ?_
        refine lv_aload_n hx hb dX3_isText_75 rfl (lv_at hl 0 rfl) ?_
        refine va_get (D := D) (ci := 3) (v := .int v17.1.2.1) (C := RX3) (T := TX3) (N := 14) hx hb htB inlX3 hown hK hP 0 rfl rfl 5 (by decide) (htB _ kw332) (fun _ h9 => h9) rfl dX3_isText_76 ?_
        refine lv_icmp_ge (tgt := 86) hx hb dX3_isText_79 (by decide) (fun c2 => ?_) (fun c2 => ?_)
        · have h := it_p c2 h
          refine lv_iconst (v := 0) hx hb dX3_isText_86 (by decide) ?_
          refine va_put (D := D) (ci := 3) (v := .int 0) (ty := .boolean) (C := RX3) (T := TX3) (N := 14) hx hb htB inlX3 tyX3 tyX3_ok nmX3 hown hK hP hD hS 0 rfl rfl 8 (by decide) (htB _ kw361) (fun _ h9 => h9) rfl (by decide +kernel) rfl rfl (Nat.le_of_ble_eq_true rfl) dX3_isText_87 (fun H locs hP hD hS => ?_)
          have hP : va_P D vwCl (gMo mh mb (v17.1.1, v17.1.2.1, v17.1.2.2.1, v17.1.2.2.2.1, 0, v17.1.2.2.2.2.2) ++ (gA t (mb 3) 60 tx ++ (gA t (mb 4) 93 v17.2.1))) H := hP
          have hD : va_D A (gMo mh mb (v17.1.1, v17.1.2.1, v17.1.2.2.1, v17.1.2.2.2.1, 0, v17.1.2.2.2.2.2) ++ (gA t (mb 3) 60 tx ++ (gA t (mb 4) 93 v17.2.1))) := hD
          refine lv_aload_n hx hb dX3_isText_90 rfl (lv_at hl 0 rfl) ?_
          refine va_get (D := D) (ci := 3) (v := .int v17.1.2.2.2.1) (C := RX3) (T := TX3) (N := 14) hx hb htB inlX3 hown hK hP 0 rfl rfl 7 (by decide) (htB _ kw362) (fun _ h9 => h9) rfl dX3_isText_91 ?_
          refine lv_aload_n hx hb dX3_isText_94 rfl (lv_at hl 0 rfl) ?_
          refine va_get (D := D) (ci := 3) (v := .int v17.1.2.1) (C := RX3) (T := TX3) (N := 14) hx hb htB inlX3 hown hK hP 0 rfl rfl 5 (by decide) (htB _ kw332) (fun _ h9 => h9) rfl dX3_isText_95 ?_
          refine lv_icmp_ne (tgt := 105) hx hb dX3_isText_98 (by decide) (fun c3 => ?_) (fun c3 => ?_)
          · have h := it_n c3 h
            refine lv_iconst (v := 0) hx hb dX3_isText_105 (by decide) ?_
            obtain rfl := os h
            exact ret_z hx hb hr hlocks hP hK hD hS dX3_isText_106
          · have h := it_p c3 h
            refine lv_iconst (v := 1) hx hb dX3_isText_101 (by decide) ?_
            refine lv_goto (tgt := 106) hx hb dX3_isText_102 (by decide) ?_
            obtain rfl := os h
            exact ret_z hx hb hr hlocks hP hK hD hS dX3_isText_106
        · have h := it_n c2 h
          refine lv_iconst (v := 1) hx hb dX3_isText_82 (by decide) ?_
          refine lv_goto (tgt := 87) hx hb dX3_isText_83 (by decide) ?_
          refine va_put (D := D) (ci := 3) (v := .int 1) (ty := .boolean) (C := RX3) (T := TX3) (N := 14) hx hb htB inlX3 tyX3 tyX3_ok nmX3 hown hK hP hD hS 0 rfl rfl 8 (by decide) (htB _ kw361) (fun _ h9 => h9) rfl (by decide +kernel) rfl rfl (Nat.le_of_ble_eq_true rfl) dX3_isText_87 (fun H locs hP hD hS => ?_)
          have hP : va_P D vwCl (gMo mh mb (v17.1.1, v17.1.2.1, v17.1.2.2.1, v17.1.2.2.2.1, 1, v17.1.2.2.2.2.2) ++ (gA t (mb 3) 60 tx ++ (gA t (mb 4) 93 v17.2.1))) H := hP
          have hD : va_D A (gMo mh mb (v17.1.1, v17.1.2.1, v17.1.2.2.1, v17.1.2.2.2.1, 1, v17.1.2.2.2.2.2) ++ (gA t (mb 3) 60 tx ++ (gA t (mb 4) 93 v17.2.1))) := hD
          refine lv_aload_n hx hb dX3_isText_90 rfl (lv_at hl 0 rfl) ?_
          refine va_get (D := D) (ci := 3) (v := .int v17.1.2.2.2.1) (C := RX3) (T := TX3) (N := 14) hx hb htB inlX3 hown hK hP 0 rfl rfl 7 (by decide) (htB _ kw362) (fun _ h9 => h9) rfl dX3_isText_91 ?_
          refine lv_aload_n hx hb dX3_isText_94 rfl (lv_at hl 0 rfl) ?_
          refine va_get (D := D) (ci := 3) (v := .int v17.1.2.1) (C := RX3) (T := TX3) (N := 14) hx hb htB inlX3 hown hK hP 0 rfl rfl 5 (by decide) (htB _ kw332) (fun _ h9 => h9) rfl dX3_isText_95 ?_
          refine lv_icmp_ne (tgt := 105) hx hb dX3_isText_98 (by decide) (fun c4 => ?_) (fun c4 => ?_)
          · have h := it_n c4 h
            refine lv_iconst (v := 0) hx hb dX3_isText_105 (by decide) ?_
            obtain rfl := os h
            exact ret_z hx hb hr hlocks hP hK hD hS dX3_isText_106
          · have h := it_p c4 h
            refine lv_iconst (v := 1) hx hb dX3_isText_101 (by decide) ?_
            refine lv_goto (tgt := 106) hx hb dX3_isText_102 (by decide) ?_
            obtain rfl := os h
            exact ret_z hx hb hr hlocks hP hK hD hS dX3_isText_106
      · have h := it_n c1 h
        refine lv_aload_n hx hb dX3_isText_21 rfl (lv_at hl 0 rfl) ?_
        obtain ⟨r5, h5, h⟩ := ob h
        refine call_i (v := b2i r5.1) (wc := (gMo mh mb v17.1 ++ (gA t (mb 3) 60 tx ++ (gA t (mb 4) 93 v17.2.1)))) (wc' := (gMo mh mb r5.2.1 ++ (gA t (mb 3) 60 tx ++ (gA t (mb 4) 93 r5.2.2)))) (ws' := (gMo mh mb r5.2.1 ++ (gA t (mb 3) 60 tx ++ (gA t (mb 4) 93 r5.2.2)))) (cutB (bs := [gMo mh mb v17.1, gA t (mb 3) 60 tx, gA t (mb 4) 93 v17.2.1]) (cs := [gMo mh mb v17.1, gA t (mb 3) 60 tx, gA t (mb 4) 93 v17.2.1]) (cs' := [gMo mh mb r5.2.1, gA t (mb 3) 60 tx, gA t (mb 4) 93 r5.2.2]) (bs' := [gMo mh mb r5.2.1, gA t (mb 3) 60 tx, gA t (mb 4) 93 r5.2.2]) [0, 1, 2] hP hD hS hA rfl rfl rfl rfl) hS (fun hPc hDc => va_runV (As := []) (rest := []) ⟨hx, hb, hml, hown, hts⟩ (mtX3_isPart l D t mh mb v17.1 tx v17.2.1 r5 h5 _) (cwV 0 hts (gBV kw368 kw369 kw370 kw5 kw371) rfl rfl rfl (by decide +kernel) ⟨Nat.le_of_ble_eq_true rfl, Nat.le_of_ble_eq_true rfl⟩) (sPc_V hPc hK hDc hE (va_recv hK hP (ci := 3) (q0 := 0) rfl rfl)) rfl rfl hl.1 rfl (lv_room (Nat.le_of_ble_eq_true rfl)) dX3_isText_22 ⟨Nat.zero_le _, Nat.zero_le _⟩) (fun H locs hP hD hS => ?_)
        refine lv_if_ne (tgt := 30) hx hb dX3_isText_25 (by decide) (fun c6 => ?_) (fun c6 => ?_)
        · have h := it_n c6 h
          refine lv_aload_n hx hb dX3_isText_30 rfl (lv_at hl 0 rfl) ?_
          refine lv_dup hx hb dX3_isText_31 rfl ?_
          refine va_get (D := D) (ci := 3) (v := .int r5.2.1.2.2.2.2.2) (C := RX3) (T := TX3) (N := 14) hx hb htB inlX3 hown hK hP 0 rfl rfl 10 (by decide) (htB _ kw367) (fun _ h9 => h9) rfl dX3_isText_32 ?_
          refine lv_iconst (v := 1) hx hb dX3_isText_35 (by decide) ?_
          refine lv_iadd hx hb dX3_isText_36 ?_
          refine va_put (D := D) (ci := 3) (v := .int (r5.2.1.2.2.2.2.2 + 1)) (ty := .int) (C := RX3) (T := TX3) (N := 14) hx hb htB inlX3 tyX3 tyX3_ok nmX3 hown hK hP hD hS 0 rfl rfl 10 (by decide) (htB _ kw367) (fun _ h9 => h9) rfl (by decide +kernel) rfl rfl (Nat.le_of_ble_eq_true rfl) dX3_isText_37 (fun H locs hP hD hS => ?_)
          have hP : va_P D vwCl (gMo mh mb (r5.2.1.1, r5.2.1.2.1, r5.2.1.2.2.1, r5.2.1.2.2.2.1, r5.2.1.2.2.2.2.1, (r5.2.1.2.2.2.2.2 + 1)) ++ (gA t (mb 3) 60 tx ++ (gA t (mb 4) 93 r5.2.2))) H := hP
          have hD : va_D A (gMo mh mb (r5.2.1.1, r5.2.1.2.1, r5.2.1.2.2.1, r5.2.1.2.2.2.1, r5.2.1.2.2.2.2.1, (r5.2.1.2.2.2.2.2 + 1)) ++ (gA t (mb 3) 60 tx ++ (gA t (mb 4) 93 r5.2.2))) := hD
          refine lv_aload_n hx hb dX3_isText_40 rfl (lv_at hl 0 rfl) ?_
          refine lv_bipush (v := 59) hx hb dX3_isText_41 (by decide) ?_
          refine lv_bipush (v := 59) hx hb dX3_isText_43 (by decide) ?_
          obtain ⟨r7, h7, h⟩ := ob h
          refine call_i (v := b2i r7) (wc := (gMo mh mb (r5.2.1.1, r5.2.1.2.1, r5.2.1.2.2.1, r5.2.1.2.2.2.1, r5.2.1.2.2.2.2.1, (r5.2.1.2.2.2.2.2 + 1)) ++ (gA t (mb 3) 60 tx))) (wc' := (gMo mh mb (r5.2.1.1, r5.2.1.2.1, r5.2.1.2.2.1, r5.2.1.2.2.2.1, r5.2.1.2.2.2.2.1, (r5.2.1.2.2.2.2.2 + 1)) ++ (gA t (mb 3) 60 tx))) (ws' := (gMo mh mb (r5.2.1.1, r5.2.1.2.1, r5.2.1.2.2.1, r5.2.1.2.2.2.1, r5.2.1.2.2.2.2.1, (r5.2.1.2.2.2.2.2 + 1)) ++ (gA t (mb 3) 60 tx ++ (gA t (mb 4) 93 r5.2.2)))) (cutB (bs := [gMo mh mb (r5.2.1.1, r5.2.1.2.1, r5.2.1.2.2.1, r5.2.1.2.2.2.1, r5.2.1.2.2.2.2.1, (r5.2.1.2.2.2.2.2 + 1)), gA t (mb 3) 60 tx, gA t (mb 4) 93 r5.2.2]) (cs := [gMo mh mb (r5.2.1.1, r5.2.1.2.1, r5.2.1.2.2.1, r5.2.1.2.2.2.1, r5.2.1.2.2.2.2.1, (r5.2.1.2.2.2.2.2 + 1)), gA t (mb 3) 60 tx]) (cs' := [gMo mh mb (r5.2.1.1, r5.2.1.2.1, r5.2.1.2.2.1, r5.2.1.2.2.2.1, r5.2.1.2.2.2.2.1, (r5.2.1.2.2.2.2.2 + 1)), gA t (mb 3) 60 tx]) (bs' := [gMo mh mb (r5.2.1.1, r5.2.1.2.1, r5.2.1.2.2.1, r5.2.1.2.2.2.1, r5.2.1.2.2.2.2.1, (r5.2.1.2.2.2.2.2 + 1)), gA t (mb 3) 60 tx, gA t (mb 4) 93 r5.2.2]) [0, 1] hP hD hS hA rfl rfl rfl rfl) hS (fun hPc hDc => va_runV (As := [.int 59, .int 59]) (rest := []) ⟨hx, hb, hml, hown, hts⟩ (mtX3_isAt l D t mh mb (r5.2.1.1, r5.2.1.2.1, r5.2.1.2.2.1, r5.2.1.2.2.2.1, r5.2.1.2.2.2.2.1, (r5.2.1.2.2.2.2.2 + 1)) tx 59 59 r7 h7 _) (cwV 2 hts (gBV kw380 kw381 kw382 kw5 kw383) rfl rfl rfl (by decide +kernel) ⟨Nat.le_of_ble_eq_true rfl, Nat.le_of_ble_eq_true rfl⟩) (sPc_V hPc hK hDc hE (va_recv hK hP (ci := 3) (q0 := 0) rfl rfl)) rfl rfl hl.1 rfl (lv_room (Nat.le_of_ble_eq_true rfl)) dX3_isText_45 ⟨Nat.zero_le _, Nat.zero_le _⟩) (fun H locs hP hD hS => ?_)
          refine lv_istore_n (lv' := [(1, .int (b2i r7)), (0, .ref mh)]) hx hb dX3_isText_48 rfl hl (by decide) rfl (fun ls hl => ?_)
          refine lv_aload_n hx hb dX3_isText_49 rfl (lv_at hl 1 rfl) ?_
          refine lv_dup hx hb dX3_isText_50 rfl ?_
          refine va_get (D := D) (ci := 3) (v := .int r5.2.1.2.2.2.1) (C := RX3) (T := TX3) (N := 14) hx hb htB inlX3 hown hK hP 0 rfl rfl 7 (by decide) (htB _ kw362) (fun _ h9 => h9) rfl dX3_isText_51 ?_
          refine lv_iload_n hx hb dX3_isText_54 rfl (lv_at hl 0 rfl) ?_
          refine lv_if_eq (tgt := 62) hx hb dX3_isText_55 (by decide) (fun c8 => ?_) (fun c8 => ?_)
          · have h := it_p c8 h
            refine lv_iconst (v := 0) hx hb dX3_isText_62 (by decide) ?_
            refine lv_iadd hx hb dX3_isText_63 ?_
            refine va_put (D := D) (ci := 3) (v := .int (r5.2.1.2.2.2.1 + 0)) (ty := .int) (C := RX3) (T := TX3) (N := 14) hx hb htB inlX3 tyX3 tyX3_ok nmX3 hown hK hP hD hS 0 rfl rfl 7 (by decide) (htB _ kw362) (fun _ h9 => h9) rfl (by decide +kernel) rfl rfl (Nat.le_of_ble_eq_true rfl) dX3_isText_64 (fun H locs hP hD hS => ?_)
            have hP : va_P D vwCl (gMo mh mb (r5.2.1.1, r5.2.1.2.1, r5.2.1.2.2.1, (r5.2.1.2.2.2.1 + 0), r5.2.1.2.2.2.2.1, (r5.2.1.2.2.2.2.2 + 1)) ++ (gA t (mb 3) 60 tx ++ (gA t (mb 4) 93 r5.2.2))) H := hP
            have hD : va_D A (gMo mh mb (r5.2.1.1, r5.2.1.2.1, r5.2.1.2.2.1, (r5.2.1.2.2.2.1 + 0), r5.2.1.2.2.2.2.1, (r5.2.1.2.2.2.2.2 + 1)) ++ (gA t (mb 3) 60 tx ++ (gA t (mb 4) 93 r5.2.2))) := hD
            refine lv_goto (tgt := 17) hx hb dX3_isText_67 (by decide) ?_
            exact ih17 ((r5.2.1.1, r5.2.1.2.1, r5.2.1.2.2.1, (r5.2.1.2.2.2.1 + 0), r5.2.1.2.2.2.2.1, (r5.2.1.2.2.2.2.2 + 1)), r5.2.2, b2i r7) h _ _ hP hD hS _ (lv_sub hl [1, 0] rfl)
          · have h := it_n c8 h
            refine lv_iconst (v := 1) hx hb dX3_isText_58 (by decide) ?_
            refine lv_goto (tgt := 63) hx hb dX3_isText_59 (by decide) ?_
            refine lv_iadd hx hb dX3_isText_63 ?_
            refine va_put (D := D) (ci := 3) (v := .int (r5.2.1.2.2.2.1 + 1)) (ty := .int) (C := RX3) (T := TX3) (N := 14) hx hb htB inlX3 tyX3 tyX3_ok nmX3 hown hK hP hD hS 0 rfl rfl 7 (by decide) (htB _ kw362) (fun _ h9 => h9) rfl (by decide +kernel) rfl rfl (Nat.le_of_ble_eq_true rfl) dX3_isText_64 (fun H locs hP hD hS => ?_)
            have hP : va_P D vwCl (gMo mh mb (r5.2.1.1, r5.2.1.2.1, r5.2.1.2.2.1, (r5.2.1.2.2.2.1 + 1), r5.2.1.2.2.2.2.1, (r5.2.1.2.2.2.2.2 + 1)) ++ (gA t (mb 3) 60 tx ++ (gA t (mb 4) 93 r5.2.2))) H := hP
            have hD : va_D A (gMo mh mb (r5.2.1.1, r5.2.1.2.1, r5.2.1.2.2.1, (r5.2.1.2.2.2.1 + 1), r5.2.1.2.2.2.2.1, (r5.2.1.2.2.2.2.2 + 1)) ++ (gA t (mb 3) 60 tx ++ (gA t (mb 4) 93 r5.2.2))) := hD
            refine lv_goto (tgt := 17) hx hb dX3_isText_67 (by decide) ?_
            exact ih17 ((r5.2.1.1, r5.2.1.2.1, r5.2.1.2.2.1, (r5.2.1.2.2.2.1 + 1), r5.2.1.2.2.2.2.1, (r5.2.1.2.2.2.2.2 + 1)), r5.2.2, b2i r7) h _ _ hP hD hS _ (lv_sub hl [1, 0] rfl)
        · have h := it_p c6 h
          refine lv_iconst (v := 0) hx hb dX3_isText_28 (by decide) ?_
          obtain rfl := os h
          exact ret_z hx hb hr hlocks hP hK hD hS dX3_isText_29
  refine lv_aload_n hx hb dX3_isText_0 rfl (lv_at hl 0 rfl) ?_
  refine lv_iconst (v := 0) hx hb dX3_isText_1 (by decide) ?_
  refine va_put (D := D) (ci := 3) (v := .int 0) (ty := .int) (C := RX3) (T := TX3) (N := 14) hx hb htB inlX3 tyX3 tyX3_ok nmX3 hown hK hP hD hS 0 rfl rfl 7 (by decide) (htB _ kw362) (fun _ h9 => h9) rfl (by decide +kernel) rfl rfl (Nat.le_of_ble_eq_true rfl) dX3_isText_2 (fun H locs hP hD hS => ?_)
  have hP : va_P D vwCl (gMo mh mb (mo.1, mo.2.1, mo.2.2.1, 0, mo.2.2.2.2.1, mo.2.2.2.2.2) ++ (gA t (mb 3) 60 tx ++ (gA t (mb 4) 93 td))) H := hP
  have hD : va_D A (gMo mh mb (mo.1, mo.2.1, mo.2.2.1, 0, mo.2.2.2.2.1, mo.2.2.2.2.2) ++ (gA t (mb 3) 60 tx ++ (gA t (mb 4) 93 td))) := hD
  refine lv_aload_n hx hb dX3_isText_5 rfl (lv_at hl 0 rfl) ?_
  refine lv_iconst (v := 0) hx hb dX3_isText_6 (by decide) ?_
  refine va_put (D := D) (ci := 3) (v := .int 0) (ty := .int) (C := RX3) (T := TX3) (N := 14) hx hb htB inlX3 tyX3 tyX3_ok nmX3 hown hK hP hD hS 0 rfl rfl 10 (by decide) (htB _ kw367) (fun _ h9 => h9) rfl (by decide +kernel) rfl rfl (Nat.le_of_ble_eq_true rfl) dX3_isText_7 (fun H locs hP hD hS => ?_)
  have hP : va_P D vwCl (gMo mh mb (mo.1, mo.2.1, mo.2.2.1, 0, mo.2.2.2.2.1, 0) ++ (gA t (mb 3) 60 tx ++ (gA t (mb 4) 93 td))) H := hP
  have hD : va_D A (gMo mh mb (mo.1, mo.2.1, mo.2.2.1, 0, mo.2.2.2.2.1, 0) ++ (gA t (mb 3) 60 tx ++ (gA t (mb 4) 93 td))) := hD
  refine lv_aload_n hx hb dX3_isText_10 rfl (lv_at hl 0 rfl) ?_
  refine lv_iconst (v := 0) hx hb dX3_isText_11 (by decide) ?_
  refine va_put (D := D) (ci := 3) (v := .int 0) (ty := .boolean) (C := RX3) (T := TX3) (N := 14) hx hb htB inlX3 tyX3 tyX3_ok nmX3 hown hK hP hD hS 0 rfl rfl 8 (by decide) (htB _ kw361) (fun _ h9 => h9) rfl (by decide +kernel) rfl rfl (Nat.le_of_ble_eq_true rfl) dX3_isText_12 (fun H locs hP hD hS => ?_)
  have hP : va_P D vwCl (gMo mh mb (mo.1, mo.2.1, mo.2.2.1, 0, 0, 0) ++ (gA t (mb 3) 60 tx ++ (gA t (mb 4) 93 td))) H := hP
  have hD : va_D A (gMo mh mb (mo.1, mo.2.1, mo.2.2.1, 0, 0, 0) ++ (gA t (mb 3) 60 tx ++ (gA t (mb 4) 93 td))) := hD
  refine lv_iconst (v := 1) hx hb dX3_isText_15 (by decide) ?_
  refine lv_istore_n (lv' := [(1, .int 1), (0, .ref mh)]) hx hb dX3_isText_16 rfl hl (by decide) rfl (fun ls hl => ?_)
  exact J17 2000 ((mo.1, mo.2.1, mo.2.2.1, 0, 0, 0), td, 1) h _ _ hP hD hS _ (lv_sub hl [1, 0] rfl)

theorem dX3_firstError_0 : decode cX3_firstError 0 = .ok (.aload_n 0, 1) := by decide +kernel
theorem dX3_firstError_1 : decode cX3_firstError 1 = .ok (.iconst 0, 1) := by decide +kernel
theorem dX3_firstError_2 : decode cX3_firstError 2 = .ok (.putfield 34, 3) := by decide +kernel
theorem dX3_firstError_5 : decode cX3_firstError 5 = .ok (.aload_n 0, 1) := by decide +kernel
theorem dX3_firstError_6 : decode cX3_firstError 6 = .ok (.invokevirtual 135, 3) := by decide +kernel
theorem dX3_firstError_9 : decode cX3_firstError 9 = .ok (.istore_n 1, 1) := by decide +kernel
theorem dX3_firstError_10 : decode cX3_firstError 10 = .ok (.iload_n 1, 1) := by decide +kernel
theorem dX3_firstError_11 : decode cX3_firstError 11 = .ok (.ifCond .ne 17, 3) := by decide +kernel
theorem dX3_firstError_14 : decode cX3_firstError 14 = .ok (.aload_n 0, 1) := by decide +kernel
theorem dX3_firstError_15 : decode cX3_firstError 15 = .ok (.getfield 112, 3) := by decide +kernel
theorem dX3_firstError_18 : decode cX3_firstError 18 = .ok (.ifCond .eq 10, 3) := by decide +kernel
theorem dX3_firstError_21 : decode cX3_firstError 21 = .ok (.aload_n 0, 1) := by decide +kernel
theorem dX3_firstError_22 : decode cX3_firstError 22 = .ok (.getfield 109, 3) := by decide +kernel
theorem dX3_firstError_25 : decode cX3_firstError 25 = .ok (.goto 7, 3) := by decide +kernel
theorem dX3_firstError_28 : decode cX3_firstError 28 = .ok (.aload_n 0, 1) := by decide +kernel
theorem dX3_firstError_29 : decode cX3_firstError 29 = .ok (.getfield 106, 3) := by decide +kernel
theorem dX3_firstError_32 : decode cX3_firstError 32 = .ok (.ireturn, 1) := by decide +kernel
abbrev zX3_firstError : List Cond := .code yX3_firstError cX3_firstError 2 (some .int) :: BIG
def fX3_firstError (mo : MoT) (tx : (Nat → Int32)) (td : (Nat → Int32)) : Option (Int32 × MoT × (Nat → Int32)) := (fX3_isText (mo.1, mo.2.1, 0, mo.2.2.2.1, mo.2.2.2.2.1, mo.2.2.2.2.2) tx td).bind (fun r1 => (if (b2i r1.1) = 0 then (if r1.2.1.2.2.2.2.1 = 0 then some (r1.2.1.2.1, r1.2.1, r1.2.2) else some (r1.2.1.2.2.2.1, r1.2.1, r1.2.2)) else some (r1.2.1.2.1, r1.2.1, r1.2.2)))
set_option maxHeartbeats 4000000 in
set_option maxRecDepth 100000 in
theorem mtX3_firstError (l : Launch) (D : va_G) (t : Nat → ClassId) (mh : Nat) (mb : Nat → Nat) (mo : MoT) (tx : (Nat → Int32)) (td : (Nat → Int32)) (out : Int32 × MoT × (Nat → Int32)) (h : fX3_firstError mo tx td = some out)  (sz : Nat) : Met l yX3_firstError zX3_firstError ({ frames := 6, cells := 0, slots := 0, locals := 129 }) (sPc D t (gMo mh mb mo ++ (gA t (mb 3) 60 tx ++ (gA t (mb 4) 93 td))) sz [.ref mh]) (qI D t (gMo mh mb out.2.1 ++ (gA t (mb 3) 60 tx ++ (gA t (mb 4) 93 out.2.2))) out.1 (va_A (gMo mh mb mo ++ (gA t (mb 3) 60 tx ++ (gA t (mb 4) 93 td))) sz)) 0 0 (va_A (gMo mh mb mo ++ (gA t (mb 3) 60 tx ++ (gA t (mb 4) 93 td))) sz) := by
  refine met_of (Qf := fun A => qI D t (gMo mh mb out.2.1 ++ (gA t (mb 3) 60 tx ++ (gA t (mb 4) 93 out.2.2))) out.1 A) (cc := cX3_firstError) (maxL := 2) (ret := some .int) (by decide) rfl (Nat.le_of_ble_eq_true rfl) ?_
  intro p e s m args below meth c A hx hb hr hml hts hown hlocks hA hP hK hD hE hS ls hl
  have htB : ∀ w ∈ BIG, w.before args s = true := fun w h => hts w (List.mem_cons_of_mem _ h)
  have hown : s.vm.findClass RX3 = some m.cls := hown
  have hl : lv_has ls 2 [(0, .ref mh)] := hl
  unfold fX3_firstError at h
  refine lv_aload_n hx hb dX3_firstError_0 rfl (lv_at hl 0 rfl) ?_
  refine lv_iconst (v := 0) hx hb dX3_firstError_1 (by decide) ?_
  refine va_put (D := D) (ci := 3) (v := .int 0) (ty := .int) (C := RX3) (T := TX3) (N := 14) hx hb htB inlX3 tyX3 tyX3_ok nmX3 hown hK hP hD hS 0 rfl rfl 6 (by decide) (htB _ kw114) (fun _ h9 => h9) rfl (by decide +kernel) rfl rfl (Nat.le_of_ble_eq_true rfl) dX3_firstError_2 (fun H locs hP hD hS => ?_)
  have hP : va_P D vwCl (gMo mh mb (mo.1, mo.2.1, 0, mo.2.2.2.1, mo.2.2.2.2.1, mo.2.2.2.2.2) ++ (gA t (mb 3) 60 tx ++ (gA t (mb 4) 93 td))) H := hP
  have hD : va_D A (gMo mh mb (mo.1, mo.2.1, 0, mo.2.2.2.1, mo.2.2.2.2.1, mo.2.2.2.2.2) ++ (gA t (mb 3) 60 tx ++ (gA t (mb 4) 93 td))) := hD
  refine lv_aload_n hx hb dX3_firstError_5 rfl (lv_at hl 0 rfl) ?_
  obtain ⟨r1, h1, h⟩ := ob h
  refine call_i (v := b2i r1.1) (wc := (gMo mh mb (mo.1, mo.2.1, 0, mo.2.2.2.1, mo.2.2.2.2.1, mo.2.2.2.2.2) ++ (gA t (mb 3) 60 tx ++ (gA t (mb 4) 93 td)))) (wc' := (gMo mh mb r1.2.1 ++ (gA t (mb 3) 60 tx ++ (gA t (mb 4) 93 r1.2.2)))) (ws' := (gMo mh mb r1.2.1 ++ (gA t (mb 3) 60 tx ++ (gA t (mb 4) 93 r1.2.2)))) (cutB (bs := [gMo mh mb (mo.1, mo.2.1, 0, mo.2.2.2.1, mo.2.2.2.2.1, mo.2.2.2.2.2), gA t (mb 3) 60 tx, gA t (mb 4) 93 td]) (cs := [gMo mh mb (mo.1, mo.2.1, 0, mo.2.2.2.1, mo.2.2.2.2.1, mo.2.2.2.2.2), gA t (mb 3) 60 tx, gA t (mb 4) 93 td]) (cs' := [gMo mh mb r1.2.1, gA t (mb 3) 60 tx, gA t (mb 4) 93 r1.2.2]) (bs' := [gMo mh mb r1.2.1, gA t (mb 3) 60 tx, gA t (mb 4) 93 r1.2.2]) [0, 1, 2] hP hD hS hA rfl rfl rfl rfl) hS (fun hPc hDc => va_runV (As := []) (rest := []) ⟨hx, hb, hml, hown, hts⟩ (mtX3_isText l D t mh mb (mo.1, mo.2.1, 0, mo.2.2.2.1, mo.2.2.2.2.1, mo.2.2.2.2.2) tx td r1 h1 _) (cwV 0 hts (gBV kw363 kw364 kw365 kw5 kw366) rfl rfl rfl (by decide +kernel) ⟨Nat.le_of_ble_eq_true rfl, Nat.le_of_ble_eq_true rfl⟩) (sPc_V hPc hK hDc hE (va_recv hK hP (ci := 3) (q0 := 0) rfl rfl)) rfl rfl hl.1 rfl (lv_room (Nat.le_of_ble_eq_true rfl)) dX3_firstError_6 ⟨Nat.zero_le _, Nat.zero_le _⟩) (fun H locs hP hD hS => ?_)
  refine lv_istore_n (lv' := [(1, .int (b2i r1.1)), (0, .ref mh)]) hx hb dX3_firstError_9 rfl hl (by decide) rfl (fun ls hl => ?_)
  refine lv_iload_n hx hb dX3_firstError_10 rfl (lv_at hl 0 rfl) ?_
  refine lv_if_ne (tgt := 28) hx hb dX3_firstError_11 (by decide) (fun c2 => ?_) (fun c2 => ?_)
  · have h := it_n c2 h
    refine lv_aload_n hx hb dX3_firstError_28 rfl (lv_at hl 1 rfl) ?_
    refine va_get (D := D) (ci := 3) (v := .int r1.2.1.2.1) (C := RX3) (T := TX3) (N := 14) hx hb htB inlX3 hown hK hP 0 rfl rfl 5 (by decide) (htB _ kw332) (fun _ h9 => h9) rfl dX3_firstError_29 ?_
    obtain rfl := os h
    exact ret_i hx hb hr hlocks hP hK hD hS dX3_firstError_32
  · have h := it_p c2 h
    refine lv_aload_n hx hb dX3_firstError_14 rfl (lv_at hl 1 rfl) ?_
    refine va_get (D := D) (ci := 3) (v := .int r1.2.1.2.2.2.2.1) (C := RX3) (T := TX3) (N := 14) hx hb htB inlX3 hown hK hP 0 rfl rfl 8 (by decide) (htB _ kw361) (fun _ h9 => h9) rfl dX3_firstError_15 ?_
    refine lv_if_eq (tgt := 28) hx hb dX3_firstError_18 (by decide) (fun c3 => ?_) (fun c3 => ?_)
    · have h := it_p c3 h
      refine lv_aload_n hx hb dX3_firstError_28 rfl (lv_at hl 1 rfl) ?_
      refine va_get (D := D) (ci := 3) (v := .int r1.2.1.2.1) (C := RX3) (T := TX3) (N := 14) hx hb htB inlX3 hown hK hP 0 rfl rfl 5 (by decide) (htB _ kw332) (fun _ h9 => h9) rfl dX3_firstError_29 ?_
      obtain rfl := os h
      exact ret_i hx hb hr hlocks hP hK hD hS dX3_firstError_32
    · have h := it_n c3 h
      refine lv_aload_n hx hb dX3_firstError_21 rfl (lv_at hl 1 rfl) ?_
      refine va_get (D := D) (ci := 3) (v := .int r1.2.1.2.2.2.1) (C := RX3) (T := TX3) (N := 14) hx hb htB inlX3 hown hK hP 0 rfl rfl 7 (by decide) (htB _ kw362) (fun _ h9 => h9) rfl dX3_firstError_22 ?_
      refine lv_goto (tgt := 32) hx hb dX3_firstError_25 (by decide) ?_
      obtain rfl := os h
      exact ret_i hx hb hr hlocks hP hK hD hS dX3_firstError_32

theorem dX3_play_0 : decode cX3_play 0 = .ok (.aload_n 0, 1) := by decide +kernel
theorem dX3_play_1 : decode cX3_play 1 = .ok (.iconst 0, 1) := by decide +kernel
theorem dX3_play_2 : decode cX3_play 2 = .ok (.putfield 34, 3) := by decide +kernel
theorem dX3_play_5 : decode cX3_play 5 = .ok (.aload_n 0, 1) := by decide +kernel
theorem dX3_play_6 : decode cX3_play 6 = .ok (.invokevirtual 135, 3) := by decide +kernel
theorem dX3_play_9 : decode cX3_play 9 = .ok (.ifCond .ne 9, 3) := by decide +kernel
theorem dX3_play_12 : decode cX3_play 12 = .ok (.aload_n 0, 1) := by decide +kernel
theorem dX3_play_13 : decode cX3_play 13 = .ok (.iconst 1, 1) := by decide +kernel
theorem dX3_play_14 : decode cX3_play 14 = .ok (.invokevirtual 49, 3) := by decide +kernel
theorem dX3_play_17 : decode cX3_play 17 = .ok (.ireturn, 1) := by decide +kernel
theorem dX3_play_18 : decode cX3_play 18 = .ok (.aload_n 0, 1) := by decide +kernel
theorem dX3_play_19 : decode cX3_play 19 = .ok (.invokevirtual 83, 3) := by decide +kernel
theorem dX3_play_22 : decode cX3_play 22 = .ok (.aload_n 0, 1) := by decide +kernel
theorem dX3_play_23 : decode cX3_play 23 = .ok (.iconst 0, 1) := by decide +kernel
theorem dX3_play_24 : decode cX3_play 24 = .ok (.putfield 106, 3) := by decide +kernel
theorem dX3_play_27 : decode cX3_play 27 = .ok (.aload_n 0, 1) := by decide +kernel
theorem dX3_play_28 : decode cX3_play 28 = .ok (.getfield 7, 3) := by decide +kernel
theorem dX3_play_31 : decode cX3_play 31 = .ok (.bipush 20, 2) := by decide +kernel
theorem dX3_play_33 : decode cX3_play 33 = .ok (.iaload, 1) := by decide +kernel
theorem dX3_play_34 : decode cX3_play 34 = .ok (.istore_n 1, 1) := by decide +kernel
theorem dX3_play_35 : decode cX3_play 35 = .ok (.iconst 0, 1) := by decide +kernel
theorem dX3_play_36 : decode cX3_play 36 = .ok (.istore_n 2, 1) := by decide +kernel
theorem dX3_play_37 : decode cX3_play 37 = .ok (.iload_n 2, 1) := by decide +kernel
theorem dX3_play_38 : decode cX3_play 38 = .ok (.aload_n 0, 1) := by decide +kernel
theorem dX3_play_39 : decode cX3_play 39 = .ok (.getfield 123, 3) := by decide +kernel
theorem dX3_play_42 : decode cX3_play 42 = .ok (.if_icmp .ge 99, 3) := by decide +kernel
theorem dX3_play_45 : decode cX3_play 45 = .ok (.aload_n 0, 1) := by decide +kernel
theorem dX3_play_46 : decode cX3_play 46 = .ok (.getfield 22, 3) := by decide +kernel
theorem dX3_play_49 : decode cX3_play 49 = .ok (.iconst 3, 1) := by decide +kernel
theorem dX3_play_50 : decode cX3_play 50 = .ok (.iload_n 2, 1) := by decide +kernel
theorem dX3_play_51 : decode cX3_play 51 = .ok (.imul, 1) := by decide +kernel
theorem dX3_play_52 : decode cX3_play 52 = .ok (.iconst 1, 1) := by decide +kernel
theorem dX3_play_53 : decode cX3_play 53 = .ok (.iadd, 1) := by decide +kernel
theorem dX3_play_54 : decode cX3_play 54 = .ok (.iaload, 1) := by decide +kernel
theorem dX3_play_55 : decode cX3_play 55 = .ok (.istore_n 3, 1) := by decide +kernel
theorem dX3_play_56 : decode cX3_play 56 = .ok (.aload_n 0, 1) := by decide +kernel
theorem dX3_play_57 : decode cX3_play 57 = .ok (.getfield 22, 3) := by decide +kernel
theorem dX3_play_60 : decode cX3_play 60 = .ok (.iconst 3, 1) := by decide +kernel
theorem dX3_play_61 : decode cX3_play 61 = .ok (.iload_n 2, 1) := by decide +kernel
theorem dX3_play_62 : decode cX3_play 62 = .ok (.imul, 1) := by decide +kernel
theorem dX3_play_63 : decode cX3_play 63 = .ok (.iaload, 1) := by decide +kernel
theorem dX3_play_64 : decode cX3_play 64 = .ok (.bipush 119, 2) := by decide +kernel
theorem dX3_play_66 : decode cX3_play 66 = .ok (.if_icmp .ne 24, 3) := by decide +kernel
theorem dX3_play_69 : decode cX3_play 69 = .ok (.aload_n 0, 1) := by decide +kernel
theorem dX3_play_70 : decode cX3_play 70 = .ok (.getfield 7, 3) := by decide +kernel
theorem dX3_play_73 : decode cX3_play 73 = .ok (.iconst 4, 1) := by decide +kernel
theorem dX3_play_74 : decode cX3_play 74 = .ok (.iload_n 3, 1) := by decide +kernel
theorem dX3_play_75 : decode cX3_play 75 = .ok (.iadd, 1) := by decide +kernel
theorem dX3_play_76 : decode cX3_play 76 = .ok (.aload_n 0, 1) := by decide +kernel
theorem dX3_play_77 : decode cX3_play 77 = .ok (.getfield 22, 3) := by decide +kernel
theorem dX3_play_80 : decode cX3_play 80 = .ok (.iconst 3, 1) := by decide +kernel
theorem dX3_play_81 : decode cX3_play 81 = .ok (.iload_n 2, 1) := by decide +kernel
theorem dX3_play_82 : decode cX3_play 82 = .ok (.imul, 1) := by decide +kernel
theorem dX3_play_83 : decode cX3_play 83 = .ok (.iconst 2, 1) := by decide +kernel
theorem dX3_play_84 : decode cX3_play 84 = .ok (.iadd, 1) := by decide +kernel
theorem dX3_play_85 : decode cX3_play 85 = .ok (.iaload, 1) := by decide +kernel
theorem dX3_play_86 : decode cX3_play 86 = .ok (.iastore, 1) := by decide +kernel
theorem dX3_play_87 : decode cX3_play 87 = .ok (.goto 48, 3) := by decide +kernel
theorem dX3_play_90 : decode cX3_play 90 = .ok (.aload_n 0, 1) := by decide +kernel
theorem dX3_play_91 : decode cX3_play 91 = .ok (.getfield 22, 3) := by decide +kernel
theorem dX3_play_94 : decode cX3_play 94 = .ok (.iconst 3, 1) := by decide +kernel
theorem dX3_play_95 : decode cX3_play 95 = .ok (.iload_n 2, 1) := by decide +kernel
theorem dX3_play_96 : decode cX3_play 96 = .ok (.imul, 1) := by decide +kernel
theorem dX3_play_97 : decode cX3_play 97 = .ok (.iaload, 1) := by decide +kernel
theorem dX3_play_98 : decode cX3_play 98 = .ok (.bipush 99, 2) := by decide +kernel
theorem dX3_play_100 : decode cX3_play 100 = .ok (.if_icmp .ne 16, 3) := by decide +kernel
theorem dX3_play_103 : decode cX3_play 103 = .ok (.aload_n 0, 1) := by decide +kernel
theorem dX3_play_104 : decode cX3_play 104 = .ok (.getfield 7, 3) := by decide +kernel
theorem dX3_play_107 : decode cX3_play 107 = .ok (.bipush 6, 2) := by decide +kernel
theorem dX3_play_109 : decode cX3_play 109 = .ok (.iload_n 3, 1) := by decide +kernel
theorem dX3_play_110 : decode cX3_play 110 = .ok (.iadd, 1) := by decide +kernel
theorem dX3_play_111 : decode cX3_play 111 = .ok (.iconst 0, 1) := by decide +kernel
theorem dX3_play_112 : decode cX3_play 112 = .ok (.iastore, 1) := by decide +kernel
theorem dX3_play_113 : decode cX3_play 113 = .ok (.goto 22, 3) := by decide +kernel
theorem dX3_play_116 : decode cX3_play 116 = .ok (.aload_n 0, 1) := by decide +kernel
theorem dX3_play_117 : decode cX3_play 117 = .ok (.aload_n 0, 1) := by decide +kernel
theorem dX3_play_118 : decode cX3_play 118 = .ok (.getfield 7, 3) := by decide +kernel
theorem dX3_play_121 : decode cX3_play 121 = .ok (.iload_n 3, 1) := by decide +kernel
theorem dX3_play_122 : decode cX3_play 122 = .ok (.aload_n 0, 1) := by decide +kernel
theorem dX3_play_123 : decode cX3_play 123 = .ok (.getfield 22, 3) := by decide +kernel
theorem dX3_play_126 : decode cX3_play 126 = .ok (.iconst 3, 1) := by decide +kernel
theorem dX3_play_127 : decode cX3_play 127 = .ok (.iload_n 2, 1) := by decide +kernel
theorem dX3_play_128 : decode cX3_play 128 = .ok (.imul, 1) := by decide +kernel
theorem dX3_play_129 : decode cX3_play 129 = .ok (.iconst 2, 1) := by decide +kernel
theorem dX3_play_130 : decode cX3_play 130 = .ok (.iadd, 1) := by decide +kernel
theorem dX3_play_131 : decode cX3_play 131 = .ok (.iaload, 1) := by decide +kernel
theorem dX3_play_132 : decode cX3_play 132 = .ok (.invokevirtual 102, 3) := by decide +kernel
theorem dX3_play_135 : decode cX3_play 135 = .ok (.iinc 2 1, 3) := by decide +kernel
theorem dX3_play_138 : decode cX3_play 138 = .ok (.goto (-101), 3) := by decide +kernel
theorem dX3_play_141 : decode cX3_play 141 = .ok (.aload_n 0, 1) := by decide +kernel
theorem dX3_play_142 : decode cX3_play 142 = .ok (.getfield 7, 3) := by decide +kernel
theorem dX3_play_145 : decode cX3_play 145 = .ok (.bipush 20, 2) := by decide +kernel
theorem dX3_play_147 : decode cX3_play 147 = .ok (.iaload, 1) := by decide +kernel
theorem dX3_play_148 : decode cX3_play 148 = .ok (.iload_n 1, 1) := by decide +kernel
theorem dX3_play_149 : decode cX3_play 149 = .ok (.isub, 1) := by decide +kernel
theorem dX3_play_150 : decode cX3_play 150 = .ok (.ireturn, 1) := by decide +kernel
abbrev zX3_play : List Cond := .code yX3_play cX3_play 4 (some .int) :: BIG
def fX3_play_l37 (tx : (Nat → Int32))  (K37 : (MoT × (Nat → Int32) × (Nat → Int32) × (Nat → Int32) × (Nat → Int32) × (Nat → Int32) × (Nat → Int32) × Int32 × Int32) → Option (Int32 × MoT × (Nat → Int32) × (Nat → Int32) × (Nat → Int32) × (Nat → Int32) × (Nat → Int32) × (Nat → Int32))) (v37 : MoT × (Nat → Int32) × (Nat → Int32) × (Nat → Int32) × (Nat → Int32) × (Nat → Int32) × (Nat → Int32) × Int32 × Int32) : Option (Int32 × MoT × (Nat → Int32) × (Nat → Int32) × (Nat → Int32) × (Nat → Int32) × (Nat → Int32) × (Nat → Int32)) := (if v37.1.2.2.2.2.2 ≤ v37.2.2.2.2.2.2.2.2 then some ((v37.2.1 (Int32.toNatClampNeg 20)) - v37.2.2.2.2.2.2.2.1, v37.1, v37.2.1, v37.2.2.1, v37.2.2.2.1, v37.2.2.2.2.1, v37.2.2.2.2.2.1, v37.2.2.2.2.2.2.1) else gd (pin ((3 * v37.2.2.2.2.2.2.2.2) + 1) 93) (gd (pin (3 * v37.2.2.2.2.2.2.2.2) 93) ((if (v37.2.2.2.1 (Int32.toNatClampNeg (3 * v37.2.2.2.2.2.2.2.2))) = 119 then gd (pin ((3 * v37.2.2.2.2.2.2.2.2) + 2) 93) (gd (pin (4 + (v37.2.2.2.1 (Int32.toNatClampNeg ((3 * v37.2.2.2.2.2.2.2.2) + 1)))) 71) (K37 (v37.1, (upd v37.2.1 (Int32.toNatClampNeg (4 + (v37.2.2.2.1 (Int32.toNatClampNeg ((3 * v37.2.2.2.2.2.2.2.2) + 1))))) (v37.2.2.2.1 (Int32.toNatClampNeg ((3 * v37.2.2.2.2.2.2.2.2) + 2)))), v37.2.2.1, v37.2.2.2.1, v37.2.2.2.2.1, v37.2.2.2.2.2.1, v37.2.2.2.2.2.2.1, v37.2.2.2.2.2.2.2.1, v37.2.2.2.2.2.2.2.2 + 1))) else (if (v37.2.2.2.1 (Int32.toNatClampNeg (3 * v37.2.2.2.2.2.2.2.2))) = 99 then gd (pin (6 + (v37.2.2.2.1 (Int32.toNatClampNeg ((3 * v37.2.2.2.2.2.2.2.2) + 1)))) 71) (K37 (v37.1, (upd v37.2.1 (Int32.toNatClampNeg (6 + (v37.2.2.2.1 (Int32.toNatClampNeg ((3 * v37.2.2.2.2.2.2.2.2) + 1))))) 0), v37.2.2.1, v37.2.2.2.1, v37.2.2.2.2.1, v37.2.2.2.2.2.1, v37.2.2.2.2.2.2.1, v37.2.2.2.2.2.2.2.1, v37.2.2.2.2.2.2.2.2 + 1)) else gd (pin ((3 * v37.2.2.2.2.2.2.2.2) + 2) 93) ((fX3_shots v37.1 v37.2.1 v37.2.2.2.2.1 v37.2.2.2.2.2.1 v37.2.2.2.2.2.2.1 (v37.2.2.2.1 (Int32.toNatClampNeg ((3 * v37.2.2.2.2.2.2.2.2) + 1))) (v37.2.2.2.1 (Int32.toNatClampNeg ((3 * v37.2.2.2.2.2.2.2.2) + 2)))).bind (fun r11 => K37 (v37.1, r11.1, v37.2.2.1, v37.2.2.2.1, r11.2.1, r11.2.2.1, r11.2.2.2, v37.2.2.2.2.2.2.2.1, v37.2.2.2.2.2.2.2.2 + 1))))))))
def fX3_play (mo : MoT) (fn : (Nat → Int32)) (pa : (Nat → Int32)) (tx : (Nat → Int32)) (td : (Nat → Int32)) (le : (Nat → Int32)) (co : (Nat → Int32)) (li : (Nat → Int32)) : Option (Int32 × MoT × (Nat → Int32) × (Nat → Int32) × (Nat → Int32) × (Nat → Int32) × (Nat → Int32) × (Nat → Int32)) := (fX3_isText (mo.1, mo.2.1, 0, mo.2.2.2.1, mo.2.2.2.2.1, mo.2.2.2.2.2) tx td).bind (fun r1 => (if (b2i r1.1) = 0 then (fX3_fails r1.2.1 1).bind (fun r4 => some (r4.1, r4.2, fn, pa, r1.2.2, le, co, li)) else (fX3_saves r1.2.1 fn pa).bind (fun r3 => lp (fX3_play_l37 tx) 2000 ((r3.1.1, 0, r3.1.2.2.1, r3.1.2.2.2.1, r3.1.2.2.2.2.1, r3.1.2.2.2.2.2), fn, r3.2, r1.2.2, le, co, li, fn (Int32.toNatClampNeg 20), 0))))
set_option maxHeartbeats 4000000 in
set_option maxRecDepth 100000 in
theorem mtX3_play (l : Launch) (D : va_G) (t : Nat → ClassId) (mh : Nat) (mb : Nat → Nat) (mo : MoT) (fn : (Nat → Int32)) (pa : (Nat → Int32)) (tx : (Nat → Int32)) (td : (Nat → Int32)) (le : (Nat → Int32)) (co : (Nat → Int32)) (li : (Nat → Int32)) (out : Int32 × MoT × (Nat → Int32) × (Nat → Int32) × (Nat → Int32) × (Nat → Int32) × (Nat → Int32) × (Nat → Int32)) (h : fX3_play mo fn pa tx td le co li = some out)  (sz : Nat) : Met l yX3_play zX3_play ({ frames := 6, cells := 0, slots := 0, locals := 129 }) (sPc D t (gMo mh mb mo ++ (gA t (mb 0) 71 fn ++ (gA t (mb 2) 426 pa ++ (gA t (mb 3) 60 tx ++ (gA t (mb 4) 93 td ++ (gA t (mb 5) 24 le ++ (gA t (mb 6) 24 co ++ (gA t (mb 7) 24 li)))))))) sz [.ref mh]) (qI D t (gMo mh mb out.2.1 ++ (gA t (mb 0) 71 out.2.2.1 ++ (gA t (mb 2) 426 out.2.2.2.1 ++ (gA t (mb 3) 60 tx ++ (gA t (mb 4) 93 out.2.2.2.2.1 ++ (gA t (mb 5) 24 out.2.2.2.2.2.1 ++ (gA t (mb 6) 24 out.2.2.2.2.2.2.1 ++ (gA t (mb 7) 24 out.2.2.2.2.2.2.2)))))))) out.1 (va_A (gMo mh mb mo ++ (gA t (mb 0) 71 fn ++ (gA t (mb 2) 426 pa ++ (gA t (mb 3) 60 tx ++ (gA t (mb 4) 93 td ++ (gA t (mb 5) 24 le ++ (gA t (mb 6) 24 co ++ (gA t (mb 7) 24 li)))))))) sz)) 0 0 (va_A (gMo mh mb mo ++ (gA t (mb 0) 71 fn ++ (gA t (mb 2) 426 pa ++ (gA t (mb 3) 60 tx ++ (gA t (mb 4) 93 td ++ (gA t (mb 5) 24 le ++ (gA t (mb 6) 24 co ++ (gA t (mb 7) 24 li)))))))) sz) := by
  refine met_of (Qf := fun A => qI D t (gMo mh mb out.2.1 ++ (gA t (mb 0) 71 out.2.2.1 ++ (gA t (mb 2) 426 out.2.2.2.1 ++ (gA t (mb 3) 60 tx ++ (gA t (mb 4) 93 out.2.2.2.2.1 ++ (gA t (mb 5) 24 out.2.2.2.2.2.1 ++ (gA t (mb 6) 24 out.2.2.2.2.2.2.1 ++ (gA t (mb 7) 24 out.2.2.2.2.2.2.2)))))))) out.1 A) (cc := cX3_play) (maxL := 4) (ret := some .int) (by decide) rfl (Nat.le_of_ble_eq_true rfl) ?_
  intro p e s m args below meth c A hx hb hr hml hts hown hlocks hA hP hK hD hE hS ls hl
  have htB : ∀ w ∈ BIG, w.before args s = true := fun w h => hts w (List.mem_cons_of_mem _ h)
  have hown : s.vm.findClass RX3 = some m.cls := hown
  have hl : lv_has ls 4 [(0, .ref mh)] := hl
  unfold fX3_play at h
  have J37 : ∀ (fu37 : Nat) (v37 : MoT × (Nat → Int32) × (Nat → Int32) × (Nat → Int32) × (Nat → Int32) × (Nat → Int32) × (Nat → Int32) × Int32 × Int32), lp (fX3_play_l37 tx) fu37 v37 = some out → ∀ (H : Heap) (locs : List Loc), va_P D vwCl (gMo mh mb v37.1 ++ (gA t (mb 0) 71 v37.2.1 ++ (gA t (mb 2) 426 v37.2.2.1 ++ (gA t (mb 3) 60 tx ++ (gA t (mb 4) 93 v37.2.2.2.1 ++ (gA t (mb 5) 24 v37.2.2.2.2.1 ++ (gA t (mb 6) 24 v37.2.2.2.2.2.1 ++ (gA t (mb 7) 24 v37.2.2.2.2.2.2.1)))))))) H → va_D A (gMo mh mb v37.1 ++ (gA t (mb 0) 71 v37.2.1 ++ (gA t (mb 2) 426 v37.2.2.1 ++ (gA t (mb 3) 60 tx ++ (gA t (mb 4) 93 v37.2.2.2.1 ++ (gA t (mb 5) 24 v37.2.2.2.2.1 ++ (gA t (mb 6) 24 v37.2.2.2.2.2.1 ++ (gA t (mb 7) 24 v37.2.2.2.2.2.2.1)))))))) → va_S A s.heap H locs → ∀ ls : Array Slot, lv_has ls 4 [(0, .ref mh), (1, .int v37.2.2.2.2.2.2.2.1), (2, .int v37.2.2.2.2.2.2.2.2)] → W p l e ({ frames := 6, cells := 0, slots := 0, locals := 129 }) s m args below meth c H locs 0 0 (MQ below (qI D t (gMo mh mb out.2.1 ++ (gA t (mb 0) 71 out.2.2.1 ++ (gA t (mb 2) 426 out.2.2.2.1 ++ (gA t (mb 3) 60 tx ++ (gA t (mb 4) 93 out.2.2.2.2.1 ++ (gA t (mb 5) 24 out.2.2.2.2.2.1 ++ (gA t (mb 6) 24 out.2.2.2.2.2.2.1 ++ (gA t (mb 7) 24 out.2.2.2.2.2.2.2)))))))) out.1 A) args s 0 0 A) (F0 m 37 ls []) := by
    intro fu37
    induction fu37 with
    | zero => intro v37 h; cases h
    | succ fu37 ih37 =>
      intro v37 h H locs hP hD hS ls hl
      have h : fX3_play_l37 tx (lp (fX3_play_l37 tx) fu37) v37 = some out := h
      unfold fX3_play_l37 at h
      refine lv_iload_n hx hb dX3_play_37 rfl (lv_at hl 2 rfl) ?_
      refine lv_aload_n hx hb dX3_play_38 rfl (lv_at hl 0 rfl) ?_
      refine va_get (D := D) (ci := 3) (v := .int v37.1.2.2.2.2.2) (C := RX3) (T := TX3) (N := 14) hx hb htB inlX3 hown hK hP 0 rfl rfl 10 (by decide) (htB _ kw367) (fun _ h9 => h9) rfl dX3_play_39 ?_
      refine lv_icmp_ge (tgt := 141) hx hb dX3_play_42 (by decide) (fun c5 => ?_) (fun c5 => ?_)
      · have h := it_p c5 h
        refine lv_aload_n hx hb dX3_play_141 rfl (lv_at hl 0 rfl) ?_
        refine va_get (D := D) (ci := 3) (v := .ref (mb 0)) (C := RX3) (T := TX3) (N := 14) hx hb htB inlX3 hown hK hP 0 rfl rfl 0 (by decide) (htB _ kw54) (fun _ h9 => h9) rfl dX3_play_142 ?_
        refine lv_bipush (v := 20) hx hb dX3_play_145 (by decide) ?_
        refine va_iald hx hb hK hP 1 0 rfl rfl (pin_in (by decide)) dX3_play_147 ?_
        refine lv_iload_n hx hb dX3_play_148 rfl (lv_at hl 1 rfl) ?_
        refine lv_isub hx hb dX3_play_149 ?_
        obtain rfl := os h
        exact ret_i hx hb hr hlocks hP hK hD hS dX3_play_150
      · have h := it_n c5 h
        refine lv_aload_n hx hb dX3_play_45 rfl (lv_at hl 0 rfl) ?_
        refine va_get (D := D) (ci := 3) (v := .ref (mb 4)) (C := RX3) (T := TX3) (N := 14) hx hb htB inlX3 hown hK hP 0 rfl rfl 9 (by decide) (htB _ kw58) (fun _ h9 => h9) rfl dX3_play_46 ?_
        refine lv_iconst (v := 3) hx hb dX3_play_49 (by decide) ?_
        refine lv_iload_n hx hb dX3_play_50 rfl (lv_at hl 2 rfl) ?_
        refine lv_imul hx hb dX3_play_51 ?_
        refine lv_iconst (v := 1) hx hb dX3_play_52 (by decide) ?_
        refine lv_iadd hx hb dX3_play_53 ?_
        obtain ⟨g6, h⟩ := og h
        refine va_iald hx hb hK hP 4 0 rfl rfl (pin_in g6) dX3_play_54 ?_
        refine lv_istore_n (lv' := [(3, .int (v37.2.2.2.1 (Int32.toNatClampNeg ((3 * v37.2.2.2.2.2.2.2.2) + 1)))), (0, .ref mh), (1, .int v37.2.2.2.2.2.2.2.1), (2, .int v37.2.2.2.2.2.2.2.2)]) hx hb dX3_play_55 rfl hl (by decide) rfl (fun ls hl => ?_)
        refine lv_aload_n hx hb dX3_play_56 rfl (lv_at hl 1 rfl) ?_
        refine va_get (D := D) (ci := 3) (v := .ref (mb 4)) (C := RX3) (T := TX3) (N := 14) hx hb htB inlX3 hown hK hP 0 rfl rfl 9 (by decide) (htB _ kw58) (fun _ h9 => h9) rfl dX3_play_57 ?_
        refine lv_iconst (v := 3) hx hb dX3_play_60 (by decide) ?_
        refine lv_iload_n hx hb dX3_play_61 rfl (lv_at hl 3 rfl) ?_
        refine lv_imul hx hb dX3_play_62 ?_
        obtain ⟨g7, h⟩ := og h
        refine va_iald hx hb hK hP 4 0 rfl rfl (pin_in g7) dX3_play_63 ?_
        refine lv_bipush (v := 119) hx hb dX3_play_64 (by decide) ?_
        refine lv_icmp_ne (tgt := 90) hx hb dX3_play_66 (by decide) (fun c8 => ?_) (fun c8 => ?_)
        · have h := it_n c8 h
          refine lv_aload_n hx hb dX3_play_90 rfl (lv_at hl 1 rfl) ?_
          refine va_get (D := D) (ci := 3) (v := .ref (mb 4)) (C := RX3) (T := TX3) (N := 14) hx hb htB inlX3 hown hK hP 0 rfl rfl 9 (by decide) (htB _ kw58) (fun _ h9 => h9) rfl dX3_play_91 ?_
          refine lv_iconst (v := 3) hx hb dX3_play_94 (by decide) ?_
          refine lv_iload_n hx hb dX3_play_95 rfl (lv_at hl 3 rfl) ?_
          refine lv_imul hx hb dX3_play_96 ?_
          refine va_iald hx hb hK hP 4 0 rfl rfl (pin_in g7) dX3_play_97 ?_
          refine lv_bipush (v := 99) hx hb dX3_play_98 (by decide) ?_
          refine lv_icmp_ne (tgt := 116) hx hb dX3_play_100 (by decide) (fun c9 => ?_) (fun c9 => ?_)
          · have h := it_n c9 h
            refine lv_aload_n hx hb dX3_play_116 rfl (lv_at hl 1 rfl) ?_
            refine lv_aload_n hx hb dX3_play_117 rfl (lv_at hl 1 rfl) ?_
            refine va_get (D := D) (ci := 3) (v := .ref (mb 0)) (C := RX3) (T := TX3) (N := 14) hx hb htB inlX3 hown hK hP 0 rfl rfl 0 (by decide) (htB _ kw54) (fun _ h9 => h9) rfl dX3_play_118 ?_
            refine lv_iload_n hx hb dX3_play_121 rfl (lv_at hl 0 rfl) ?_
            refine lv_aload_n hx hb dX3_play_122 rfl (lv_at hl 1 rfl) ?_
            refine va_get (D := D) (ci := 3) (v := .ref (mb 4)) (C := RX3) (T := TX3) (N := 14) hx hb htB inlX3 hown hK hP 0 rfl rfl 9 (by decide) (htB _ kw58) (fun _ h9 => h9) rfl dX3_play_123 ?_
            refine lv_iconst (v := 3) hx hb dX3_play_126 (by decide) ?_
            refine lv_iload_n hx hb dX3_play_127 rfl (lv_at hl 3 rfl) ?_
            refine lv_imul hx hb dX3_play_128 ?_
            refine lv_iconst (v := 2) hx hb dX3_play_129 (by decide) ?_
            refine lv_iadd hx hb dX3_play_130 ?_
            obtain ⟨g10, h⟩ := og h
            refine va_iald hx hb hK hP 4 0 rfl rfl (pin_in g10) dX3_play_131 ?_
            obtain ⟨r11, h11, h⟩ := ob h
            refine call_v (wc := (gMo mh mb v37.1 ++ (gA t (mb 0) 71 v37.2.1 ++ (gA t (mb 5) 24 v37.2.2.2.2.1 ++ (gA t (mb 6) 24 v37.2.2.2.2.2.1 ++ (gA t (mb 7) 24 v37.2.2.2.2.2.2.1)))))) (wc' := (gMo mh mb v37.1 ++ (gA t (mb 0) 71 r11.1 ++ (gA t (mb 5) 24 r11.2.1 ++ (gA t (mb 6) 24 r11.2.2.1 ++ (gA t (mb 7) 24 r11.2.2.2)))))) (ws' := (gMo mh mb v37.1 ++ (gA t (mb 0) 71 r11.1 ++ (gA t (mb 2) 426 v37.2.2.1 ++ (gA t (mb 3) 60 tx ++ (gA t (mb 4) 93 v37.2.2.2.1 ++ (gA t (mb 5) 24 r11.2.1 ++ (gA t (mb 6) 24 r11.2.2.1 ++ (gA t (mb 7) 24 r11.2.2.2))))))))) (cutB (bs := [gMo mh mb v37.1, gA t (mb 0) 71 v37.2.1, gA t (mb 2) 426 v37.2.2.1, gA t (mb 3) 60 tx, gA t (mb 4) 93 v37.2.2.2.1, gA t (mb 5) 24 v37.2.2.2.2.1, gA t (mb 6) 24 v37.2.2.2.2.2.1, gA t (mb 7) 24 v37.2.2.2.2.2.2.1]) (cs := [gMo mh mb v37.1, gA t (mb 0) 71 v37.2.1, gA t (mb 5) 24 v37.2.2.2.2.1, gA t (mb 6) 24 v37.2.2.2.2.2.1, gA t (mb 7) 24 v37.2.2.2.2.2.2.1]) (cs' := [gMo mh mb v37.1, gA t (mb 0) 71 r11.1, gA t (mb 5) 24 r11.2.1, gA t (mb 6) 24 r11.2.2.1, gA t (mb 7) 24 r11.2.2.2]) (bs' := [gMo mh mb v37.1, gA t (mb 0) 71 r11.1, gA t (mb 2) 426 v37.2.2.1, gA t (mb 3) 60 tx, gA t (mb 4) 93 v37.2.2.2.1, gA t (mb 5) 24 r11.2.1, gA t (mb 6) 24 r11.2.2.1, gA t (mb 7) 24 r11.2.2.2]) [0, 1, 5, 6, 7] hP hD hS hA rfl rfl rfl rfl) hS (fun hPc hDc => va_runV (As := [.ref (mb 0), .int (v37.2.2.2.1 (Int32.toNatClampNeg ((3 * v37.2.2.2.2.2.2.2.2) + 1))), .int (v37.2.2.2.1 (Int32.toNatClampNeg ((3 * v37.2.2.2.2.2.2.2.2) + 2)))]) (rest := []) ⟨hx, hb, hml, hown, hts⟩ (mtX3_shots l D t mh mb v37.1 (mb 0) v37.2.1 v37.2.2.2.2.1 v37.2.2.2.2.2.1 v37.2.2.2.2.2.2.1 (v37.2.2.2.1 (Int32.toNatClampNeg ((3 * v37.2.2.2.2.2.2.2.2) + 1))) (v37.2.2.2.1 (Int32.toNatClampNeg ((3 * v37.2.2.2.2.2.2.2.2) + 2))) r11 h11 _) (cwV 3 hts (gBV kw287 kw288 kw289 kw5 kw290) rfl rfl rfl (by decide +kernel) ⟨Nat.le_of_ble_eq_true rfl, Nat.le_of_ble_eq_true rfl⟩) (sPc_V hPc hK hDc hE (va_recv hK hP (ci := 3) (q0 := 0) rfl rfl)) rfl rfl hl.1 rfl (lv_room (Nat.le_of_ble_eq_true rfl)) dX3_play_132 ⟨Nat.zero_le _, Nat.zero_le _⟩) (fun H locs hP hD hS => ?_)
            refine lv_iinc (v := v37.2.2.2.2.2.2.2.2 + 1) (lv' := [(2, .int (v37.2.2.2.2.2.2.2.2 + 1)), (3, .int (v37.2.2.2.1 (Int32.toNatClampNeg ((3 * v37.2.2.2.2.2.2.2.2) + 1)))), (0, .ref mh), (1, .int v37.2.2.2.2.2.2.2.1)]) hx hb dX3_play_135 hl (k := 3) rfl rfl (by decide) rfl (fun ls hl => ?_)
            refine lv_goto (tgt := 37) hx hb dX3_play_138 (by decide) ?_
            exact ih37 (v37.1, r11.1, v37.2.2.1, v37.2.2.2.1, r11.2.1, r11.2.2.1, r11.2.2.2, v37.2.2.2.2.2.2.2.1, v37.2.2.2.2.2.2.2.2 + 1) h _ _ hP hD hS _ (lv_sub hl [2, 3, 0] rfl)
          · have h := it_p c9 h
            refine lv_aload_n hx hb dX3_play_103 rfl (lv_at hl 1 rfl) ?_
            refine va_get (D := D) (ci := 3) (v := .ref (mb 0)) (C := RX3) (T := TX3) (N := 14) hx hb htB inlX3 hown hK hP 0 rfl rfl 0 (by decide) (htB _ kw54) (fun _ h9 => h9) rfl dX3_play_104 ?_
            refine lv_bipush (v := 6) hx hb dX3_play_107 (by decide) ?_
            refine lv_iload_n hx hb dX3_play_109 rfl (lv_at hl 0 rfl) ?_
            refine lv_iadd hx hb dX3_play_110 ?_
            refine lv_iconst (v := 0) hx hb dX3_play_111 (by decide) ?_
            obtain ⟨g12, h⟩ := og h
            refine va_iast hx hb hK hP hD hS 1 0 rfl rfl (pin_in g12) dX3_play_112 (fun H locs hP hD hS => ?_)
            have hP : va_P D vwCl (gMo mh mb v37.1 ++ (gA t (mb 0) 71 (upd v37.2.1 (Int32.toNatClampNeg (6 + (v37.2.2.2.1 (Int32.toNatClampNeg ((3 * v37.2.2.2.2.2.2.2.2) + 1))))) 0) ++ (gA t (mb 2) 426 v37.2.2.1 ++ (gA t (mb 3) 60 tx ++ (gA t (mb 4) 93 v37.2.2.2.1 ++ (gA t (mb 5) 24 v37.2.2.2.2.1 ++ (gA t (mb 6) 24 v37.2.2.2.2.2.1 ++ (gA t (mb 7) 24 v37.2.2.2.2.2.2.1)))))))) H := hP
            have hD : va_D A (gMo mh mb v37.1 ++ (gA t (mb 0) 71 (upd v37.2.1 (Int32.toNatClampNeg (6 + (v37.2.2.2.1 (Int32.toNatClampNeg ((3 * v37.2.2.2.2.2.2.2.2) + 1))))) 0) ++ (gA t (mb 2) 426 v37.2.2.1 ++ (gA t (mb 3) 60 tx ++ (gA t (mb 4) 93 v37.2.2.2.1 ++ (gA t (mb 5) 24 v37.2.2.2.2.1 ++ (gA t (mb 6) 24 v37.2.2.2.2.2.1 ++ (gA t (mb 7) 24 v37.2.2.2.2.2.2.1)))))))) := hD
            refine lv_goto (tgt := 135) hx hb dX3_play_113 (by decide) ?_
            refine lv_iinc (v := v37.2.2.2.2.2.2.2.2 + 1) (lv' := [(2, .int (v37.2.2.2.2.2.2.2.2 + 1)), (3, .int (v37.2.2.2.1 (Int32.toNatClampNeg ((3 * v37.2.2.2.2.2.2.2.2) + 1)))), (0, .ref mh), (1, .int v37.2.2.2.2.2.2.2.1)]) hx hb dX3_play_135 hl (k := 3) rfl rfl (by decide) rfl (fun ls hl => ?_)
            refine lv_goto (tgt := 37) hx hb dX3_play_138 (by decide) ?_
            exact ih37 (v37.1, (upd v37.2.1 (Int32.toNatClampNeg (6 + (v37.2.2.2.1 (Int32.toNatClampNeg ((3 * v37.2.2.2.2.2.2.2.2) + 1))))) 0), v37.2.2.1, v37.2.2.2.1, v37.2.2.2.2.1, v37.2.2.2.2.2.1, v37.2.2.2.2.2.2.1, v37.2.2.2.2.2.2.2.1, v37.2.2.2.2.2.2.2.2 + 1) h _ _ hP hD hS _ (lv_sub hl [2, 3, 0] rfl)
        · have h := it_p c8 h
          refine lv_aload_n hx hb dX3_play_69 rfl (lv_at hl 1 rfl) ?_
          refine va_get (D := D) (ci := 3) (v := .ref (mb 0)) (C := RX3) (T := TX3) (N := 14) hx hb htB inlX3 hown hK hP 0 rfl rfl 0 (by decide) (htB _ kw54) (fun _ h9 => h9) rfl dX3_play_70 ?_
          refine lv_iconst (v := 4) hx hb dX3_play_73 (by decide) ?_
          refine lv_iload_n hx hb dX3_play_74 rfl (lv_at hl 0 rfl) ?_
          refine lv_iadd hx hb dX3_play_75 ?_
          refine lv_aload_n hx hb dX3_play_76 rfl (lv_at hl 1 rfl) ?_
          refine va_get (D := D) (ci := 3) (v := .ref (mb 4)) (C := RX3) (T := TX3) (N := 14) hx hb htB inlX3 hown hK hP 0 rfl rfl 9 (by decide) (htB _ kw58) (fun _ h9 => h9) rfl dX3_play_77 ?_
          refine lv_iconst (v := 3) hx hb dX3_play_80 (by decide) ?_
          refine lv_iload_n hx hb dX3_play_81 rfl (lv_at hl 3 rfl) ?_
          refine lv_imul hx hb dX3_play_82 ?_
          refine lv_iconst (v := 2) hx hb dX3_play_83 (by decide) ?_
          refine lv_iadd hx hb dX3_play_84 ?_
          obtain ⟨g13, h⟩ := og h
          refine va_iald hx hb hK hP 4 0 rfl rfl (pin_in g13) dX3_play_85 ?_
          obtain ⟨g14, h⟩ := og h
          refine va_iast hx hb hK hP hD hS 1 0 rfl rfl (pin_in g14) dX3_play_86 (fun H locs hP hD hS => ?_)
          have hP : va_P D vwCl (gMo mh mb v37.1 ++ (gA t (mb 0) 71 (upd v37.2.1 (Int32.toNatClampNeg (4 + (v37.2.2.2.1 (Int32.toNatClampNeg ((3 * v37.2.2.2.2.2.2.2.2) + 1))))) (v37.2.2.2.1 (Int32.toNatClampNeg ((3 * v37.2.2.2.2.2.2.2.2) + 2)))) ++ (gA t (mb 2) 426 v37.2.2.1 ++ (gA t (mb 3) 60 tx ++ (gA t (mb 4) 93 v37.2.2.2.1 ++ (gA t (mb 5) 24 v37.2.2.2.2.1 ++ (gA t (mb 6) 24 v37.2.2.2.2.2.1 ++ (gA t (mb 7) 24 v37.2.2.2.2.2.2.1)))))))) H := hP
          have hD : va_D A (gMo mh mb v37.1 ++ (gA t (mb 0) 71 (upd v37.2.1 (Int32.toNatClampNeg (4 + (v37.2.2.2.1 (Int32.toNatClampNeg ((3 * v37.2.2.2.2.2.2.2.2) + 1))))) (v37.2.2.2.1 (Int32.toNatClampNeg ((3 * v37.2.2.2.2.2.2.2.2) + 2)))) ++ (gA t (mb 2) 426 v37.2.2.1 ++ (gA t (mb 3) 60 tx ++ (gA t (mb 4) 93 v37.2.2.2.1 ++ (gA t (mb 5) 24 v37.2.2.2.2.1 ++ (gA t (mb 6) 24 v37.2.2.2.2.2.1 ++ (gA t (mb 7) 24 v37.2.2.2.2.2.2.1)))))))) := hD
          refine lv_goto (tgt := 135) hx hb dX3_play_87 (by decide) ?_
          refine lv_iinc (v := v37.2.2.2.2.2.2.2.2 + 1) (lv' := [(2, .int (v37.2.2.2.2.2.2.2.2 + 1)), (3, .int (v37.2.2.2.1 (Int32.toNatClampNeg ((3 * v37.2.2.2.2.2.2.2.2) + 1)))), (0, .ref mh), (1, .int v37.2.2.2.2.2.2.2.1)]) hx hb dX3_play_135 hl (k := 3) rfl rfl (by decide) rfl (fun ls hl => ?_)
          refine lv_goto (tgt := 37) hx hb dX3_play_138 (by decide) ?_
          exact ih37 (v37.1, (upd v37.2.1 (Int32.toNatClampNeg (4 + (v37.2.2.2.1 (Int32.toNatClampNeg ((3 * v37.2.2.2.2.2.2.2.2) + 1))))) (v37.2.2.2.1 (Int32.toNatClampNeg ((3 * v37.2.2.2.2.2.2.2.2) + 2)))), v37.2.2.1, v37.2.2.2.1, v37.2.2.2.2.1, v37.2.2.2.2.2.1, v37.2.2.2.2.2.2.1, v37.2.2.2.2.2.2.2.1, v37.2.2.2.2.2.2.2.2 + 1) h _ _ hP hD hS _ (lv_sub hl [2, 3, 0] rfl)
  refine lv_aload_n hx hb dX3_play_0 rfl (lv_at hl 0 rfl) ?_
  refine lv_iconst (v := 0) hx hb dX3_play_1 (by decide) ?_
  refine va_put (D := D) (ci := 3) (v := .int 0) (ty := .int) (C := RX3) (T := TX3) (N := 14) hx hb htB inlX3 tyX3 tyX3_ok nmX3 hown hK hP hD hS 0 rfl rfl 6 (by decide) (htB _ kw114) (fun _ h9 => h9) rfl (by decide +kernel) rfl rfl (Nat.le_of_ble_eq_true rfl) dX3_play_2 (fun H locs hP hD hS => ?_)
  have hP : va_P D vwCl (gMo mh mb (mo.1, mo.2.1, 0, mo.2.2.2.1, mo.2.2.2.2.1, mo.2.2.2.2.2) ++ (gA t (mb 0) 71 fn ++ (gA t (mb 2) 426 pa ++ (gA t (mb 3) 60 tx ++ (gA t (mb 4) 93 td ++ (gA t (mb 5) 24 le ++ (gA t (mb 6) 24 co ++ (gA t (mb 7) 24 li)))))))) H := hP
  have hD : va_D A (gMo mh mb (mo.1, mo.2.1, 0, mo.2.2.2.1, mo.2.2.2.2.1, mo.2.2.2.2.2) ++ (gA t (mb 0) 71 fn ++ (gA t (mb 2) 426 pa ++ (gA t (mb 3) 60 tx ++ (gA t (mb 4) 93 td ++ (gA t (mb 5) 24 le ++ (gA t (mb 6) 24 co ++ (gA t (mb 7) 24 li)))))))) := hD
  refine lv_aload_n hx hb dX3_play_5 rfl (lv_at hl 0 rfl) ?_
  obtain ⟨r1, h1, h⟩ := ob h
  refine call_i (v := b2i r1.1) (wc := (gMo mh mb (mo.1, mo.2.1, 0, mo.2.2.2.1, mo.2.2.2.2.1, mo.2.2.2.2.2) ++ (gA t (mb 3) 60 tx ++ (gA t (mb 4) 93 td)))) (wc' := (gMo mh mb r1.2.1 ++ (gA t (mb 3) 60 tx ++ (gA t (mb 4) 93 r1.2.2)))) (ws' := (gMo mh mb r1.2.1 ++ (gA t (mb 0) 71 fn ++ (gA t (mb 2) 426 pa ++ (gA t (mb 3) 60 tx ++ (gA t (mb 4) 93 r1.2.2 ++ (gA t (mb 5) 24 le ++ (gA t (mb 6) 24 co ++ (gA t (mb 7) 24 li))))))))) (cutB (bs := [gMo mh mb (mo.1, mo.2.1, 0, mo.2.2.2.1, mo.2.2.2.2.1, mo.2.2.2.2.2), gA t (mb 0) 71 fn, gA t (mb 2) 426 pa, gA t (mb 3) 60 tx, gA t (mb 4) 93 td, gA t (mb 5) 24 le, gA t (mb 6) 24 co, gA t (mb 7) 24 li]) (cs := [gMo mh mb (mo.1, mo.2.1, 0, mo.2.2.2.1, mo.2.2.2.2.1, mo.2.2.2.2.2), gA t (mb 3) 60 tx, gA t (mb 4) 93 td]) (cs' := [gMo mh mb r1.2.1, gA t (mb 3) 60 tx, gA t (mb 4) 93 r1.2.2]) (bs' := [gMo mh mb r1.2.1, gA t (mb 0) 71 fn, gA t (mb 2) 426 pa, gA t (mb 3) 60 tx, gA t (mb 4) 93 r1.2.2, gA t (mb 5) 24 le, gA t (mb 6) 24 co, gA t (mb 7) 24 li]) [0, 3, 4] hP hD hS hA rfl rfl rfl rfl) hS (fun hPc hDc => va_runV (As := []) (rest := []) ⟨hx, hb, hml, hown, hts⟩ (mtX3_isText l D t mh mb (mo.1, mo.2.1, 0, mo.2.2.2.1, mo.2.2.2.2.1, mo.2.2.2.2.2) tx td r1 h1 _) (cwV 0 hts (gBV kw363 kw364 kw365 kw5 kw366) rfl rfl rfl (by decide +kernel) ⟨Nat.le_of_ble_eq_true rfl, Nat.le_of_ble_eq_true rfl⟩) (sPc_V hPc hK hDc hE (va_recv hK hP (ci := 3) (q0 := 0) rfl rfl)) rfl rfl hl.1 rfl (lv_room (Nat.le_of_ble_eq_true rfl)) dX3_play_6 ⟨Nat.zero_le _, Nat.zero_le _⟩) (fun H locs hP hD hS => ?_)
  refine lv_if_ne (tgt := 18) hx hb dX3_play_9 (by decide) (fun c2 => ?_) (fun c2 => ?_)
  · have h := it_n c2 h
    refine lv_aload_n hx hb dX3_play_18 rfl (lv_at hl 0 rfl) ?_
    obtain ⟨r3, h3, h⟩ := ob h
    refine call_v (wc := (gMo mh mb r1.2.1 ++ (gA t (mb 0) 71 fn ++ (gA t (mb 2) 426 pa)))) (wc' := (gMo mh mb r3.1 ++ (gA t (mb 0) 71 fn ++ (gA t (mb 2) 426 r3.2)))) (ws' := (gMo mh mb r3.1 ++ (gA t (mb 0) 71 fn ++ (gA t (mb 2) 426 r3.2 ++ (gA t (mb 3) 60 tx ++ (gA t (mb 4) 93 r1.2.2 ++ (gA t (mb 5) 24 le ++ (gA t (mb 6) 24 co ++ (gA t (mb 7) 24 li))))))))) (cutB (bs := [gMo mh mb r1.2.1, gA t (mb 0) 71 fn, gA t (mb 2) 426 pa, gA t (mb 3) 60 tx, gA t (mb 4) 93 r1.2.2, gA t (mb 5) 24 le, gA t (mb 6) 24 co, gA t (mb 7) 24 li]) (cs := [gMo mh mb r1.2.1, gA t (mb 0) 71 fn, gA t (mb 2) 426 pa]) (cs' := [gMo mh mb r3.1, gA t (mb 0) 71 fn, gA t (mb 2) 426 r3.2]) (bs' := [gMo mh mb r3.1, gA t (mb 0) 71 fn, gA t (mb 2) 426 r3.2, gA t (mb 3) 60 tx, gA t (mb 4) 93 r1.2.2, gA t (mb 5) 24 le, gA t (mb 6) 24 co, gA t (mb 7) 24 li]) [0, 1, 2] hP hD hS hA rfl rfl rfl rfl) hS (fun hPc hDc => va_runV (As := []) (rest := []) ⟨hx, hb, hml, hown, hts⟩ (mtX3_saves l D t mh mb r1.2.1 fn pa r3 h3 _) (cwV 0 hts (gBV kw125 kw126 kw127 kw5 kw128) rfl rfl rfl (by decide +kernel) ⟨Nat.le_of_ble_eq_true rfl, Nat.le_of_ble_eq_true rfl⟩) (sPc_V hPc hK hDc hE (va_recv hK hP (ci := 3) (q0 := 0) rfl rfl)) rfl rfl hl.1 rfl (lv_room (Nat.le_of_ble_eq_true rfl)) dX3_play_19 ⟨Nat.zero_le _, Nat.zero_le _⟩) (fun H locs hP hD hS => ?_)
    refine lv_aload_n hx hb dX3_play_22 rfl (lv_at hl 0 rfl) ?_
    refine lv_iconst (v := 0) hx hb dX3_play_23 (by decide) ?_
    refine va_put (D := D) (ci := 3) (v := .int 0) (ty := .int) (C := RX3) (T := TX3) (N := 14) hx hb htB inlX3 tyX3 tyX3_ok nmX3 hown hK hP hD hS 0 rfl rfl 5 (by decide) (htB _ kw332) (fun _ h9 => h9) rfl (by decide +kernel) rfl rfl (Nat.le_of_ble_eq_true rfl) dX3_play_24 (fun H locs hP hD hS => ?_)
    have hP : va_P D vwCl (gMo mh mb (r3.1.1, 0, r3.1.2.2.1, r3.1.2.2.2.1, r3.1.2.2.2.2.1, r3.1.2.2.2.2.2) ++ (gA t (mb 0) 71 fn ++ (gA t (mb 2) 426 r3.2 ++ (gA t (mb 3) 60 tx ++ (gA t (mb 4) 93 r1.2.2 ++ (gA t (mb 5) 24 le ++ (gA t (mb 6) 24 co ++ (gA t (mb 7) 24 li)))))))) H := hP
    have hD : va_D A (gMo mh mb (r3.1.1, 0, r3.1.2.2.1, r3.1.2.2.2.1, r3.1.2.2.2.2.1, r3.1.2.2.2.2.2) ++ (gA t (mb 0) 71 fn ++ (gA t (mb 2) 426 r3.2 ++ (gA t (mb 3) 60 tx ++ (gA t (mb 4) 93 r1.2.2 ++ (gA t (mb 5) 24 le ++ (gA t (mb 6) 24 co ++ (gA t (mb 7) 24 li)))))))) := hD
    refine lv_aload_n hx hb dX3_play_27 rfl (lv_at hl 0 rfl) ?_
    refine va_get (D := D) (ci := 3) (v := .ref (mb 0)) (C := RX3) (T := TX3) (N := 14) hx hb htB inlX3 hown hK hP 0 rfl rfl 0 (by decide) (htB _ kw54) (fun _ h9 => h9) rfl dX3_play_28 ?_
    refine lv_bipush (v := 20) hx hb dX3_play_31 (by decide) ?_
    refine va_iald hx hb hK hP 1 0 rfl rfl (pin_in (by decide)) dX3_play_33 ?_
    refine lv_istore_n (lv' := [(1, .int (fn (Int32.toNatClampNeg 20))), (0, .ref mh)]) hx hb dX3_play_34 rfl hl (by decide) rfl (fun ls hl => ?_)
    refine lv_iconst (v := 0) hx hb dX3_play_35 (by decide) ?_
    refine lv_istore_n (lv' := [(2, .int 0), (1, .int (fn (Int32.toNatClampNeg 20))), (0, .ref mh)]) hx hb dX3_play_36 rfl hl (by decide) rfl (fun ls hl => ?_)
    exact J37 2000 ((r3.1.1, 0, r3.1.2.2.1, r3.1.2.2.2.1, r3.1.2.2.2.2.1, r3.1.2.2.2.2.2), fn, r3.2, r1.2.2, le, co, li, fn (Int32.toNatClampNeg 20), 0) h _ _ hP hD hS _ (lv_sub hl [2, 1, 0] rfl)
  · have h := it_p c2 h
    refine lv_aload_n hx hb dX3_play_12 rfl (lv_at hl 0 rfl) ?_
    refine lv_iconst (v := 1) hx hb dX3_play_13 (by decide) ?_
    obtain ⟨r4, h4, h⟩ := ob h
    refine call_i (v := r4.1) (wc := (gMo mh mb r1.2.1)) (wc' := (gMo mh mb r4.2)) (ws' := (gMo mh mb r4.2 ++ (gA t (mb 0) 71 fn ++ (gA t (mb 2) 426 pa ++ (gA t (mb 3) 60 tx ++ (gA t (mb 4) 93 r1.2.2 ++ (gA t (mb 5) 24 le ++ (gA t (mb 6) 24 co ++ (gA t (mb 7) 24 li))))))))) (cutB (bs := [gMo mh mb r1.2.1, gA t (mb 0) 71 fn, gA t (mb 2) 426 pa, gA t (mb 3) 60 tx, gA t (mb 4) 93 r1.2.2, gA t (mb 5) 24 le, gA t (mb 6) 24 co, gA t (mb 7) 24 li]) (cs := [gMo mh mb r1.2.1]) (cs' := [gMo mh mb r4.2]) (bs' := [gMo mh mb r4.2, gA t (mb 0) 71 fn, gA t (mb 2) 426 pa, gA t (mb 3) 60 tx, gA t (mb 4) 93 r1.2.2, gA t (mb 5) 24 le, gA t (mb 6) 24 co, gA t (mb 7) 24 li]) [0] hP hD hS hA rfl rfl rfl rfl) hS (fun hPc hDc => va_runV (As := [.int 1]) (rest := []) ⟨hx, hb, hml, hown, hts⟩ (mtX3_fails l D t mh mb r1.2.1 1 r4 h4 _) (cwV 1 hts (gBV kw121 kw122 kw123 kw5 kw124) rfl rfl rfl (by decide +kernel) ⟨Nat.le_of_ble_eq_true rfl, Nat.le_of_ble_eq_true rfl⟩) (sPc_V hPc hK hDc hE (va_recv hK hP (ci := 3) (q0 := 0) rfl rfl)) rfl rfl hl.1 rfl (lv_room (Nat.le_of_ble_eq_true rfl)) dX3_play_14 ⟨Nat.zero_le _, Nat.zero_le _⟩) (fun H locs hP hD hS => ?_)
    obtain rfl := os h
    exact ret_i hx hb hr hlocks hP hK hD hS dX3_play_17
