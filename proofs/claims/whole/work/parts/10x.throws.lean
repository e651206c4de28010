theorem dX2_needIndex_12 : decode cX2_needIndex 12 = .ok (.dup, 1) := by decide +kernel
theorem dX2_needIndex_13 : decode cX2_needIndex 13 = .ok (.ldc_w 289, 3) := by decide +kernel
theorem dX2_needIndex_16 : decode cX2_needIndex 16 = .ok (.invokespecial 291, 3) := by decide +kernel
theorem dX2_needIndex_19 : decode cX2_needIndex 19 = .ok (.athrow, 1) := by decide +kernel
set_option maxHeartbeats 4000000 in
set_option maxRecDepth 100000 in
theorem xmX2_needIndex (l : Launch) (hfl : l.stackTraces = false) (D : va_G) (t : Nat → ClassId) (i : Int32) (b : Int32) (E : Nat) (h : fX2_needIndex i b = some (.inl E)) (sz : Nat) : vx_Met l yX2_needIndex zX2_needIndex ({ frames := 6, cells := 1, slots := 6, locals := 82 }) (xPc D t ([] : va_W) sz [.int i, .int b]) (qX (va_A ([] : va_W) sz)) (xC D t ([] : va_W) E (va_A ([] : va_W) sz)) 1 6 (va_A ([] : va_W) sz) := by
  refine met_ofX (cc := cX2_needIndex) (maxL := 2) (ret := none) (by decide) rfl (Nat.le_of_ble_eq_true rfl) ?_
  intro p e s m args below meth c A hx hb hr hml hts hown hlocks hA hP hK hD hE hS hX hT ls hl
  have htB : ∀ w ∈ BIG, w.before args s = true := fun w h => hts w (List.mem_cons_of_mem _ h)
  have hown : s.vm.findClass RX2 = some m.cls := hown
  have hl : lv_has ls 2 [(0, .int i), (1, .int b)] := hl
  unfold fX2_needIndex at h
  refine lv_iload_n hx hb dX2_needIndex_0 rfl (lv_at hl 0 rfl) ?_
  refine lv_if_lt (tgt := 9) hx hb dX2_needIndex_1 (by decide) (fun c1 => ?_) (fun c1 => ?_)
  · have h := it_p c1 h
    obtain rfl : 0 = E := Sum.inl.inj (Option.some.inj h)
    obtain ⟨sa9, hsa⟩ := hX.2.1.2.2.2.1
    exact vx_throwSW hx hb hfl (own := RX2) (cls := xname 0) (text := "no such curtain, column, speed or setting") (names := xnames) hown (by decide +kernel) (by decide +kernel) (htB _ kw79) (htB _ kw80) hsa (xhat0 htB hX.2.2.1) xgood0 hX.1.1 hX.1.2 hS (hl.1.trans hml.symm) dX2_needIndex_9 dX2_needIndex_12 dX2_needIndex_13 dX2_needIndex_16 dX2_needIndex_19 (fun x hx => hT x hx _) (Nat.le_of_ble_eq_true rfl) (Nat.le_of_ble_eq_true rfl) (Nat.le_of_ble_eq_true rfl) (Nat.le_of_ble_eq_true rfl) hlocks (xthrown hP hK hD hS) hS.2.2 (Nat.le_of_ble_eq_true rfl) (Nat.le_of_ble_eq_true rfl)
  · have h := it_n c1 h
    refine lv_iload_n hx hb dX2_needIndex_4 rfl (lv_at hl 0 rfl) ?_
    refine lv_iload_n hx hb dX2_needIndex_5 rfl (lv_at hl 1 rfl) ?_
    refine lv_icmp_lt (tgt := 20) hx hb dX2_needIndex_6 (by decide) (fun c2 => ?_) (fun c2 => ?_)
    · have h := it_p c2 h
      cases h
    · have h := it_n c2 h
      obtain rfl : 0 = E := Sum.inl.inj (Option.some.inj h)
      obtain ⟨sa9, hsa⟩ := hX.2.1.2.2.2.1
      exact vx_throwSW hx hb hfl (own := RX2) (cls := xname 0) (text := "no such curtain, column, speed or setting") (names := xnames) hown (by decide +kernel) (by decide +kernel) (htB _ kw79) (htB _ kw80) hsa (xhat0 htB hX.2.2.1) xgood0 hX.1.1 hX.1.2 hS (hl.1.trans hml.symm) dX2_needIndex_9 dX2_needIndex_12 dX2_needIndex_13 dX2_needIndex_16 dX2_needIndex_19 (fun x hx => hT x hx _) (Nat.le_of_ble_eq_true rfl) (Nat.le_of_ble_eq_true rfl) (Nat.le_of_ble_eq_true rfl) (Nat.le_of_ble_eq_true rfl) hlocks (xthrown hP hK hD hS) hS.2.2 (Nat.le_of_ble_eq_true rfl) (Nat.le_of_ble_eq_true rfl)

set_option maxHeartbeats 4000000 in
set_option maxRecDepth 100000 in
theorem xmX2_needCurtain (l : Launch) (hfl : l.stackTraces = false) (D : va_G) (t : Nat → ClassId) (i : Int32) (E : Nat) (h : fX2_needCurtain i = some (.inl E)) (sz : Nat) : vx_Met l yX2_needCurtain zX2_needCurtain ({ frames := 7, cells := 1, slots := 6, locals := 103 }) (xPc D t ([] : va_W) sz [.int i]) (qX (va_A ([] : va_W) sz)) (xC D t ([] : va_W) E (va_A ([] : va_W) sz)) 1 6 (va_A ([] : va_W) sz) := by
  refine met_ofX (cc := cX2_needCurtain) (maxL := 1) (ret := none) (by decide) rfl (Nat.le_of_ble_eq_true rfl) ?_
  intro p e s m args below meth c A hx hb hr hml hts hown hlocks hA hP hK hD hE hS hX hT ls hl
  have htB : ∀ w ∈ BIG, w.before args s = true := fun w h => hts w (List.mem_cons_of_mem _ h)
  have hown : s.vm.findClass RX2 = some m.cls := hown
  have hl : lv_has ls 1 [(0, .int i)] := hl
  unfold fX2_needCurtain at h
  refine lv_iload_n hx hb dX2_needCurtain_0 rfl (lv_at hl 0 rfl) ?_
  refine lv_iconst (v := 2) hx hb dX2_needCurtain_1 (by decide) ?_
  rcases tb_l h with h1 | ⟨r1, h1, h⟩
  · exact call_x (E := E) (wc := ([] : va_W)) (ws := ([] : va_W)) (cutB (bs := []) (cs := []) (cs' := []) (bs' := []) [] hP hD hS hA rfl rfl rfl rfl) hS hK hT hlocks (Nat.le_of_ble_eq_true rfl) (Nat.le_of_ble_eq_true rfl) (fun hPc hDc hAB => vx_runS (As := [.int i, .int 2]) (rest := []) ⟨hx, hb, hml, hown, hts⟩ (xmX2_needIndex l hfl D t i 2 E h1 _) (va_cwS 2 hts (gBS kw76 kw77 kw2 kw78) rfl rfl rfl (by decide +kernel) ⟨Nat.le_of_ble_eq_true rfl, Nat.le_of_ble_eq_true rfl⟩) (xPc_S hPc hK hDc hE hX hS hAB) rfl rfl hl.1 rfl (lv_room (Nat.le_of_ble_eq_true rfl)) dX2_needCurtain_2 ⟨Nat.le_of_ble_eq_true rfl, Nat.le_of_ble_eq_true rfl⟩)
  refine call_v (wc := ([] : va_W)) (wc' := ([] : va_W)) (ws' := ([] : va_W)) (cutB (bs := []) (cs := []) (cs' := []) (bs' := []) [] hP hD hS hA rfl rfl rfl rfl) hS (fun hPc hDc => va_runS (As := [.int i, .int 2]) (rest := []) ⟨hx, hb, hml, hown, hts⟩ (mtX2_needIndex l D t i 2 r1 h1 _) (va_cwS 2 hts (gBS kw76 kw77 kw2 kw78) rfl rfl rfl (by decide +kernel) ⟨Nat.le_of_ble_eq_true rfl, Nat.le_of_ble_eq_true rfl⟩) (sPc_S hPc hK hDc hE) rfl rfl hl.1 rfl (lv_room (Nat.le_of_ble_eq_true rfl)) dX2_needCurtain_2 ⟨Nat.zero_le _, Nat.zero_le _⟩) (fun H locs hP hD hS => ?_)
  cases h

set_option maxHeartbeats 4000000 in
set_option maxRecDepth 100000 in
theorem xmX2_needSpeed (l : Launch) (hfl : l.stackTraces = false) (D : va_G) (t : Nat → ClassId) (i : Int32) (E : Nat) (h : fX2_needSpeed i = some (.inl E)) (sz : Nat) : vx_Met l yX2_needSpeed zX2_needSpeed ({ frames := 7, cells := 1, slots := 6, locals := 103 }) (xPc D t ([] : va_W) sz [.int i]) (qX (va_A ([] : va_W) sz)) (xC D t ([] : va_W) E (va_A ([] : va_W) sz)) 1 6 (va_A ([] : va_W) sz) := by
  refine met_ofX (cc := cX2_needSpeed) (maxL := 1) (ret := none) (by decide) rfl (Nat.le_of_ble_eq_true rfl) ?_
  intro p e s m args below meth c A hx hb hr hml hts hown hlocks hA hP hK hD hE hS hX hT ls hl
  have htB : ∀ w ∈ BIG, w.before args s = true := fun w h => hts w (List.mem_cons_of_mem _ h)
  have hown : s.vm.findClass RX2 = some m.cls := hown
  have hl : lv_has ls 1 [(0, .int i)] := hl
  unfold fX2_needSpeed at h
  refine lv_iload_n hx hb dX2_needSpeed_0 rfl (lv_at hl 0 rfl) ?_
  refine lv_bipush (v := 6) hx hb dX2_needSpeed_1 (by decide) ?_
  rcases tb_l h with h1 | ⟨r1, h1, h⟩
  · exact call_x (E := E) (wc := ([] : va_W)) (ws := ([] : va_W)) (cutB (bs := []) (cs := []) (cs' := []) (bs' := []) [] hP hD hS hA rfl rfl rfl rfl) hS hK hT hlocks (Nat.le_of_ble_eq_true rfl) (Nat.le_of_ble_eq_true rfl) (fun hPc hDc hAB => vx_runS (As := [.int i, .int 6]) (rest := []) ⟨hx, hb, hml, hown, hts⟩ (xmX2_needIndex l hfl D t i 6 E h1 _) (va_cwS 2 hts (gBS kw76 kw77 kw2 kw78) rfl rfl rfl (by decide +kernel) ⟨Nat.le_of_ble_eq_true rfl, Nat.le_of_ble_eq_true rfl⟩) (xPc_S hPc hK hDc hE hX hS hAB) rfl rfl hl.1 rfl (lv_room (Nat.le_of_ble_eq_true rfl)) dX2_needSpeed_3 ⟨Nat.le_of_ble_eq_true rfl, Nat.le_of_ble_eq_true rfl⟩)
  refine call_v (wc := ([] : va_W)) (wc' := ([] : va_W)) (ws' := ([] : va_W)) (cutB (bs := []) (cs := []) (cs' := []) (bs' := []) [] hP hD hS hA rfl rfl rfl rfl) hS (fun hPc hDc => va_runS (As := [.int i, .int 6]) (rest := []) ⟨hx, hb, hml, hown, hts⟩ (mtX2_needIndex l D t i 6 r1 h1 _) (va_cwS 2 hts (gBS kw76 kw77 kw2 kw78) rfl rfl rfl (by decide +kernel) ⟨Nat.le_of_ble_eq_true rfl, Nat.le_of_ble_eq_true rfl⟩) (sPc_S hPc hK hDc hE) rfl rfl hl.1 rfl (lv_room (Nat.le_of_ble_eq_true rfl)) dX2_needSpeed_3 ⟨Nat.zero_le _, Nat.zero_le _⟩) (fun H locs hP hD hS => ?_)
  cases h

set_option maxHeartbeats 4000000 in
set_option maxRecDepth 100000 in
theorem xmX2_needSetting (l : Launch) (hfl : l.stackTraces = false) (D : va_G) (t : Nat → ClassId) (i : Int32) (E : Nat) (h : fX2_needSetting i = some (.inl E)) (sz : Nat) : vx_Met l yX2_needSetting zX2_needSetting ({ frames := 7, cells := 1, slots := 6, locals := 103 }) (xPc D t ([] : va_W) sz [.int i]) (qX (va_A ([] : va_W) sz)) (xC D t ([] : va_W) E (va_A ([] : va_W) sz)) 1 6 (va_A ([] : va_W) sz) := by
  refine met_ofX (cc := cX2_needSetting) (maxL := 1) (ret := none) (by decide) rfl (Nat.le_of_ble_eq_true rfl) ?_
  intro p e s m args below meth c A hx hb hr hml hts hown hlocks hA hP hK hD hE hS hX hT ls hl
  have htB : ∀ w ∈ BIG, w.before args s = true := fun w h => hts w (List.mem_cons_of_mem _ h)
  have hown : s.vm.findClass RX2 = some m.cls := hown
  have hl : lv_has ls 1 [(0, .int i)] := hl
  unfold fX2_needSetting at h
  refine lv_iload_n hx hb dX2_needSetting_0 rfl (lv_at hl 0 rfl) ?_
  refine lv_iconst (v := 4) hx hb dX2_needSetting_1 (by decide) ?_
  rcases tb_l h with h1 | ⟨r1, h1, h⟩
  · exact call_x (E := E) (wc := ([] : va_W)) (ws := ([] : va_W)) (cutB (bs := []) (cs := []) (cs' := []) (bs' := []) [] hP hD hS hA rfl rfl rfl rfl) hS hK hT hlocks (Nat.le_of_ble_eq_true rfl) (Nat.le_of_ble_eq_true rfl) (fun hPc hDc hAB => vx_runS (As := [.int i, .int 4]) (rest := []) ⟨hx, hb, hml, hown, hts⟩ (xmX2_needIndex l hfl D t i 4 E h1 _) (va_cwS 2 hts (gBS kw76 kw77 kw2 kw78) rfl rfl rfl (by decide +kernel) ⟨Nat.le_of_ble_eq_true rfl, Nat.le_of_ble_eq_true rfl⟩) (xPc_S hPc hK hDc hE hX hS hAB) rfl rfl hl.1 rfl (lv_room (Nat.le_of_ble_eq_true rfl)) dX2_needSetting_2 ⟨Nat.le_of_ble_eq_true rfl, Nat.le_of_ble_eq_true rfl⟩)
  refine call_v (wc := ([] : va_W)) (wc' := ([] : va_W)) (ws' := ([] : va_W)) (cutB (bs := []) (cs := []) (cs' := []) (bs' := []) [] hP hD hS hA rfl rfl rfl rfl) hS (fun hPc hDc => va_runS (As := [.int i, .int 4]) (rest := []) ⟨hx, hb, hml, hown, hts⟩ (mtX2_needIndex l D t i 4 r1 h1 _) (va_cwS 2 hts (gBS kw76 kw77 kw2 kw78) rfl rfl rfl (by decide +kernel) ⟨Nat.le_of_ble_eq_true rfl, Nat.le_of_ble_eq_true rfl⟩) (sPc_S hPc hK hDc hE) rfl rfl hl.1 rfl (lv_room (Nat.le_of_ble_eq_true rfl)) dX2_needSetting_2 ⟨Nat.zero_le _, Nat.zero_le _⟩) (fun H locs hP hD hS => ?_)
  cases h

theorem dX2_needRange_13 : decode cX2_needRange 13 = .ok (.dup, 1) := by decide +kernel
theorem dX2_needRange_14 : decode cX2_needRange 14 = .ok (.ldc_w 292, 3) := by decide +kernel
theorem dX2_needRange_17 : decode cX2_needRange 17 = .ok (.invokespecial 119, 3) := by decide +kernel
theorem dX2_needRange_20 : decode cX2_needRange 20 = .ok (.athrow, 1) := by decide +kernel
set_option maxHeartbeats 4000000 in
set_option maxRecDepth 100000 in
theorem xmX2_needRange (l : Launch) (hfl : l.stackTraces = false) (D : va_G) (t : Nat → ClassId) (v : Int32) (lo : Int32) (hi : Int32) (E : Nat) (h : fX2_needRange v lo hi = some (.inl E)) (sz : Nat) : vx_Met l yX2_needRange zX2_needRange ({ frames := 6, cells := 1, slots := 6, locals := 82 }) (xPc D t ([] : va_W) sz [.int v, .int lo, .int hi]) (qX (va_A ([] : va_W) sz)) (xC D t ([] : va_W) E (va_A ([] : va_W) sz)) 1 6 (va_A ([] : va_W) sz) := by
  refine met_ofX (cc := cX2_needRange) (maxL := 3) (ret := none) (by decide) rfl (Nat.le_of_ble_eq_true rfl) ?_
  intro p e s m args below meth c A hx hb hr hml hts hown hlocks hA hP hK hD hE hS hX hT ls hl
  have htB : ∀ w ∈ BIG, w.before args s = true := fun w h => hts w (List.mem_cons_of_mem _ h)
  have hown : s.vm.findClass RX2 = some m.cls := hown
  have hl : lv_has ls 3 [(0, .int v), (1, .int lo), (2, .int hi)] := hl
  unfold fX2_needRange at h
  refine lv_iload_n hx hb dX2_needRange_0 rfl (lv_at hl 0 rfl) ?_
  refine lv_iload_n hx hb dX2_needRange_1 rfl (lv_at hl 1 rfl) ?_
  refine lv_icmp_lt (tgt := 10) hx hb dX2_needRange_2 (by decide) (fun c1 => ?_) (fun c1 => ?_)
  · have h := it_p c1 h
    obtain rfl : 1 = E := Sum.inl.inj (Option.some.inj h)
    obtain ⟨sa9, hsa⟩ := hX.2.1.2.2.2.2
    exact vx_throwSW hx hb hfl (own := RX2) (cls := xname 1) (text := "a value is out of range") (names := xnames) hown (by decide +kernel) (by decide +kernel) (htB _ kw84) (htB _ kw85) hsa (xhat1 htB hX.2.2.2.1) xgood1 hX.1.1 hX.1.2 hS (hl.1.trans hml.symm) dX2_needRange_10 dX2_needRange_13 dX2_needRange_14 dX2_needRange_17 dX2_needRange_20 (fun x hx => hT x hx _) (Nat.le_of_ble_eq_true rfl) (Nat.le_of_ble_eq_true rfl) (Nat.le_of_ble_eq_true rfl) (Nat.le_of_ble_eq_true rfl) hlocks (xthrown hP hK hD hS) hS.2.2 (Nat.le_of_ble_eq_true rfl) (Nat.le_of_ble_eq_true rfl)
  · have h := it_n c1 h
    refine lv_iload_n hx hb dX2_needRange_5 rfl (lv_at hl 0 rfl) ?_
    refine lv_iload_n hx hb dX2_needRange_6 rfl (lv_at hl 2 rfl) ?_
    refine lv_icmp_le (tgt := 21) hx hb dX2_needRange_7 (by decide) (fun c2 => ?_) (fun c2 => ?_)
    · have h := it_p c2 h
      cases h
    · have h := it_n c2 h
      obtain rfl : 1 = E := Sum.inl.inj (Option.some.inj h)
      obtain ⟨sa9, hsa⟩ := hX.2.1.2.2.2.2
      exact vx_throwSW hx hb hfl (own := RX2) (cls := xname 1) (text := "a value is out of range") (names := xnames) hown (by decide +kernel) (by decide +kernel) (htB _ kw84) (htB _ kw85) hsa (xhat1 htB hX.2.2.2.1) xgood1 hX.1.1 hX.1.2 hS (hl.1.trans hml.symm) dX2_needRange_10 dX2_needRange_13 dX2_needRange_14 dX2_needRange_17 dX2_needRange_20 (fun x hx => hT x hx _) (Nat.le_of_ble_eq_true rfl) (Nat.le_of_ble_eq_true rfl) (Nat.le_of_ble_eq_true rfl) (Nat.le_of_ble_eq_true rfl) hlocks (xthrown hP hK hD hS) hS.2.2 (Nat.le_of_ble_eq_true rfl) (Nat.le_of_ble_eq_true rfl)

set_option maxHeartbeats 4000000 in
set_option maxRecDepth 100000 in
theorem xmX2_wind (l : Launch) (hfl : l.stackTraces = false) (D : va_G) (t : Nat → ClassId) (bh : Nat) (bk : Nat → Nat) (bo : BoT) (nb : Nat → Nat) (now : ShT) (sa : Nat → Nat) (sb : Nat → Nat → Nat) (sv : (Nat → ShT)) (cu : Int32) (sp : Int32) (E : Nat) (h : fX2_wind bo now sv cu sp = some (.inl E)) (sz : Nat) : vx_Met l yX2_wind zX2_wind ({ frames := 8, cells := 1, slots := 6, locals := 123 }) (xPc D t (gBo bh bk bo ++ (gS t (bk 0) nb now ++ (gQ t (bk 3) sa ++ (g6 t sa sb sv)))) sz [.ref bh, .int cu, .int sp]) (qX (va_A (gBo bh bk bo ++ (gS t (bk 0) nb now ++ (gQ t (bk 3) sa ++ (g6 t sa sb sv)))) sz)) (xC D t (gBo bh bk bo ++ (gS t (bk 0) nb now ++ (gQ t (bk 3) sa ++ (g6 t sa sb sv)))) E (va_A (gBo bh bk bo ++ (gS t (bk 0) nb now ++ (gQ t (bk 3) sa ++ (g6 t sa sb sv)))) sz)) 1 6 (va_A (gBo bh bk bo ++ (gS t (bk 0) nb now ++ (gQ t (bk 3) sa ++ (g6 t sa sb sv)))) sz) := by
  refine met_ofX (cc := cX2_wind) (maxL := 4) (ret := some .int) (by decide) rfl (Nat.le_of_ble_eq_true rfl) ?_
  intro p e s m args below meth c A hx hb hr hml hts hown hlocks hA hP hK hD hE hS hX hT ls hl
  have htB : ∀ w ∈ BIG, w.before args s = true := fun w h => hts w (List.mem_cons_of_mem _ h)
  have hown : s.vm.findClass RX2 = some m.cls := hown
  have hl : lv_has ls 4 [(0, .ref bh), (1, .int cu), (2, .int sp)] := hl
  unfold fX2_wind at h
  refine lv_iload_n hx hb dX2_wind_0 rfl (lv_at hl 1 rfl) ?_
  rcases tb_l h with h1 | ⟨r1, h1, h⟩
  · exact call_x (E := E) (wc := ([] : va_W)) (ws := (gBo bh bk bo ++ (gS t (bk 0) nb now ++ (gQ t (bk 3) sa ++ (g6 t sa sb sv))))) (cutB (bs := [gBo bh bk bo, gS t (bk 0) nb now, gQ t (bk 3) sa, g6 t sa sb sv]) (cs := []) (cs' := []) (bs' := [gBo bh bk bo, gS t (bk 0) nb now, gQ t (bk 3) sa, g6 t sa sb sv]) [] hP hD hS hA rfl rfl rfl rfl) hS hK hT hlocks (Nat.le_of_ble_eq_true rfl) (Nat.le_of_ble_eq_true rfl) (fun hPc hDc hAB => vx_runS (As := [.int cu]) (rest := []) ⟨hx, hb, hml, hown, hts⟩ (xmX2_needCurtain l hfl D t cu E h1 _) (va_cwS 1 hts (gBS kw73 kw74 kw2 kw75) rfl rfl rfl (by decide +kernel) ⟨Nat.le_of_ble_eq_true rfl, Nat.le_of_ble_eq_true rfl⟩) (xPc_S hPc hK hDc hE hX hS hAB) rfl rfl hl.1 rfl (lv_room (Nat.le_of_ble_eq_true rfl)) dX2_wind_1 ⟨Nat.le_of_ble_eq_true rfl, Nat.le_of_ble_eq_true rfl⟩)
  refine call_v (wc := ([] : va_W)) (wc' := ([] : va_W)) (ws' := (gBo bh bk bo ++ (gS t (bk 0) nb now ++ (gQ t (bk 3) sa ++ (g6 t sa sb sv))))) (cutB (bs := [gBo bh bk bo, gS t (bk 0) nb now, gQ t (bk 3) sa, g6 t sa sb sv]) (cs := []) (cs' := []) (bs' := [gBo bh bk bo, gS t (bk 0) nb now, gQ t (bk 3) sa, g6 t sa sb sv]) [] hP hD hS hA rfl rfl rfl rfl) hS (fun hPc hDc => va_runS (As := [.int cu]) (rest := []) ⟨hx, hb, hml, hown, hts⟩ (mtX2_needCurtain l D t cu r1 h1 _) (va_cwS 1 hts (gBS kw73 kw74 kw2 kw75) rfl rfl rfl (by decide +kernel) ⟨Nat.le_of_ble_eq_true rfl, Nat.le_of_ble_eq_true rfl⟩) (sPc_S hPc hK hDc hE) rfl rfl hl.1 rfl (lv_room (Nat.le_of_ble_eq_true rfl)) dX2_wind_1 ⟨Nat.zero_le _, Nat.zero_le _⟩) (fun H locs hP hD hS => ?_)
  refine lv_iload_n hx hb dX2_wind_4 rfl (lv_at hl 2 rfl) ?_
  refine lv_iconst (v := 1) hx hb dX2_wind_5 (by decide) ?_
  refine lv_bipush (v := 99) hx hb dX2_wind_6 (by decide) ?_
  rcases tb_l h with h2 | ⟨r2, h2, h⟩
  · exact call_x (E := E) (wc := ([] : va_W)) (ws := (gBo bh bk bo ++ (gS t (bk 0) nb now ++ (gQ t (bk 3) sa ++ (g6 t sa sb sv))))) (cutB (bs := [gBo bh bk bo, gS t (bk 0) nb now, gQ t (bk 3) sa, g6 t sa sb sv]) (cs := []) (cs' := []) (bs' := [gBo bh bk bo, gS t (bk 0) nb now, gQ t (bk 3) sa, g6 t sa sb sv]) [] hP hD hS hA rfl rfl rfl rfl) hS hK hT hlocks (Nat.le_of_ble_eq_true rfl) (Nat.le_of_ble_eq_true rfl) (fun hPc hDc hAB => vx_runS (As := [.int sp, .int 1, .int 99]) (rest := []) ⟨hx, hb, hml, hown, hts⟩ (xmX2_needRange l hfl D t sp 1 99 E h2 _) (va_cwS 3 hts (gBS kw81 kw82 kw2 kw83) rfl rfl rfl (by decide +kernel) ⟨Nat.le_of_ble_eq_true rfl, Nat.le_of_ble_eq_true rfl⟩) (xPc_S hPc hK hDc hE hX hS hAB) rfl rfl hl.1 rfl (lv_room (Nat.le_of_ble_eq_true rfl)) dX2_wind_8 ⟨Nat.le_of_ble_eq_true rfl, Nat.le_of_ble_eq_true rfl⟩)
  refine call_v (wc := ([] : va_W)) (wc' := ([] : va_W)) (ws' := (gBo bh bk bo ++ (gS t (bk 0) nb now ++ (gQ t (bk 3) sa ++ (g6 t sa sb sv))))) (cutB (bs := [gBo bh bk bo, gS t (bk 0) nb now, gQ t (bk 3) sa, g6 t sa sb sv]) (cs := []) (cs' := []) (bs' := [gBo bh bk bo, gS t (bk 0) nb now, gQ t (bk 3) sa, g6 t sa sb sv]) [] hP hD hS hA rfl rfl rfl rfl) hS (fun hPc hDc => va_runS (As := [.int sp, .int 1, .int 99]) (rest := []) ⟨hx, hb, hml, hown, hts⟩ (mtX2_needRange l D t sp 1 99 r2 h2 _) (va_cwS 3 hts (gBS kw81 kw82 kw2 kw83) rfl rfl rfl (by decide +kernel) ⟨Nat.le_of_ble_eq_true rfl, Nat.le_of_ble_eq_true rfl⟩) (sPc_S hPc hK hDc hE) rfl rfl hl.1 rfl (lv_room (Nat.le_of_ble_eq_true rfl)) dX2_wind_8 ⟨Nat.zero_le _, Nat.zero_le _⟩) (fun H locs hP hD hS => ?_)
  refine lv_aload_n hx hb dX2_wind_11 rfl (lv_at hl 0 rfl) ?_
  obtain ⟨r3, h3, h⟩ := ob h
  refine call_v (wc := (gBo bh bk bo ++ (gS t (bk 0) nb now ++ (gQ t (bk 3) sa ++ (g6 t sa sb sv))))) (wc' := (gBo bh bk r3.1 ++ (gS t (bk 0) nb now ++ (gQ t (bk 3) sa ++ (g6 t sa sb r3.2))))) (ws' := (gBo bh bk r3.1 ++ (gS t (bk 0) nb now ++ (gQ t (bk 3) sa ++ (g6 t sa sb r3.2))))) (cutB (bs := [gBo bh bk bo, gS t (bk 0) nb now, gQ t (bk 3) sa, g6 t sa sb sv]) (cs := [gBo bh bk bo, gS t (bk 0) nb now, gQ t (bk 3) sa, g6 t sa sb sv]) (cs' := [gBo bh bk r3.1, gS t (bk 0) nb now, gQ t (bk 3) sa, g6 t sa sb r3.2]) (bs' := [gBo bh bk r3.1, gS t (bk 0) nb now, gQ t (bk 3) sa, g6 t sa sb r3.2]) [0, 1, 2, 3] hP hD hS hA rfl rfl rfl rfl) hS (fun hPc hDc => va_runV (As := []) (rest := []) ⟨hx, hb, hml, hown, hts⟩ (mtX2_saveState l D t bh bk bo nb now sa sb sv r3 h3 _) (cwV 0 hts (gBV kw86 kw87 kw88 kw2 kw89) rfl rfl rfl (by decide +kernel) ⟨Nat.le_of_ble_eq_true rfl, Nat.le_of_ble_eq_true rfl⟩) (sPc_V hPc hK hDc hE (va_recv hK hP (ci := 2) (q0 := 0) rfl rfl)) rfl rfl hl.1 rfl (lv_room (Nat.le_of_ble_eq_true rfl)) dX2_wind_12 ⟨Nat.zero_le _, Nat.zero_le _⟩) (fun H locs hP hD hS => ?_)
  refine lv_aload_n hx hb dX2_wind_15 rfl (lv_at hl 0 rfl) ?_
  refine va_get (D := D) (ci := 2) (v := .ref (bk 0)) (C := RX2) (T := TX2) (N := 8) hx hb htB inlX2 hown hK hP 0 rfl rfl 0 (by decide) (htB _ kw17) (fun _ h9 => h9) rfl dX2_wind_16 ?_
  refine va_get (D := D) (ci := 1) (v := .ref (nb 0)) (C := RX1) (T := TX1) (N := 10) hx hb htB inlX1 hown hK hP 1 rfl rfl 0 (by decide) (htB _ kw72) (fun _ h9 => h9) rfl dX2_wind_19 ?_
  refine lv_iload_n hx hb dX2_wind_22 rfl (lv_at hl 1 rfl) ?_
  obtain ⟨r4, h4, h⟩ := ob h
  refine call_i (v := r4) (wc := (gA t (nb 0) 2 now.1)) (wc' := (gA t (nb 0) 2 now.1)) (ws' := (gBo bh bk r3.1 ++ (gS t (bk 0) nb now ++ (gQ t (bk 3) sa ++ (g6 t sa sb r3.2))))) (cutI (wc := (gA t (nb 0) 2 now.1)) (wc' := (gA t (nb 0) 2 now.1)) (ws' := (gBo bh bk r3.1 ++ (gS t (bk 0) nb now ++ (gQ t (bk 3) sa ++ (g6 t sa sb r3.2))))) [2] hP hD hS hA rfl rfl rfl rfl) hS (fun hPc hDc => va_runS (As := [.ref (nb 0), .int cu]) (rest := []) ⟨hx, hb, hml, hown, hts⟩ (mtX2_at l D t (nb 0) 2 now.1 cu r4 h4 (by decide) _) (va_cwS 2 hts (gBS kw104 kw105 kw2 kw106) rfl rfl rfl (by decide +kernel) ⟨Nat.le_of_ble_eq_true rfl, Nat.le_of_ble_eq_true rfl⟩) (sPc_S hPc hK hDc hE) rfl rfl hl.1 rfl (lv_room (Nat.le_of_ble_eq_true rfl)) dX2_wind_23 ⟨Nat.zero_le _, Nat.zero_le _⟩) (fun H locs hP hD hS => ?_)
  refine lv_istore_n (lv' := [(3, .int r4), (0, .ref bh), (1, .int cu), (2, .int sp)]) hx hb dX2_wind_26 rfl hl (by decide) rfl (fun ls hl => ?_)
  refine lv_aload_n hx hb dX2_wind_27 rfl (lv_at hl 1 rfl) ?_
  refine va_get (D := D) (ci := 2) (v := .ref (bk 0)) (C := RX2) (T := TX2) (N := 8) hx hb htB inlX2 hown hK hP 0 rfl rfl 0 (by decide) (htB _ kw17) (fun _ h9 => h9) rfl dX2_wind_28 ?_
  refine va_get (D := D) (ci := 1) (v := .ref (nb 0)) (C := RX1) (T := TX1) (N := 10) hx hb htB inlX1 hown hK hP 1 rfl rfl 0 (by decide) (htB _ kw72) (fun _ h9 => h9) rfl dX2_wind_31 ?_
  refine lv_iload_n hx hb dX2_wind_34 rfl (lv_at hl 2 rfl) ?_
  refine lv_iload_n hx hb dX2_wind_35 rfl (lv_at hl 3 rfl) ?_
  obtain ⟨r5, h5, h⟩ := ob h
  refine call_v (wc := (gA t (nb 0) 2 now.1)) (wc' := (gA t (nb 0) 2 r5)) (ws' := (gBo bh bk r3.1 ++ (gS t (bk 0) nb (r5, now.2.1, now.2.2.1, now.2.2.2.1, now.2.2.2.2.1, now.2.2.2.2.2.1, now.2.2.2.2.2.2.1, now.2.2.2.2.2.2.2.1, now.2.2.2.2.2.2.2.2.1, now.2.2.2.2.2.2.2.2.2) ++ (gQ t (bk 3) sa ++ (g6 t sa sb r3.2))))) (cutI (wc := (gA t (nb 0) 2 now.1)) (wc' := (gA t (nb 0) 2 r5)) (ws' := (gBo bh bk r3.1 ++ (gS t (bk 0) nb (r5, now.2.1, now.2.2.1, now.2.2.2.1, now.2.2.2.2.1, now.2.2.2.2.2.1, now.2.2.2.2.2.2.1, now.2.2.2.2.2.2.2.1, now.2.2.2.2.2.2.2.2.1, now.2.2.2.2.2.2.2.2.2) ++ (gQ t (bk 3) sa ++ (g6 t sa sb r3.2))))) [2] hP hD hS hA rfl rfl rfl rfl) hS (fun hPc hDc => va_runS (As := [.ref (nb 0), .int cu, .int sp]) (rest := []) ⟨hx, hb, hml, hown, hts⟩ (mtX2_put l D t (nb 0) 2 now.1 cu sp r5 h5 (by decide) _) (va_cwS 3 hts (gBS kw107 kw108 kw2 kw109) rfl rfl rfl (by decide +kernel) ⟨Nat.le_of_ble_eq_true rfl, Nat.le_of_ble_eq_true rfl⟩) (sPc_S hPc hK hDc hE) rfl rfl hl.1 rfl (lv_room (Nat.le_of_ble_eq_true rfl)) dX2_wind_36 ⟨Nat.zero_le _, Nat.zero_le _⟩) (fun H locs hP hD hS => ?_)
  refine lv_iload_n hx hb dX2_wind_39 rfl (lv_at hl 0 rfl) ?_
  cases h

set_option maxHeartbeats 4000000 in
set_option maxRecDepth 100000 in
theorem xmX2_drag (l : Launch) (hfl : l.stackTraces = false) (D : va_G) (t : Nat → ClassId) (bh : Nat) (bk : Nat → Nat) (bo : BoT) (nb : Nat → Nat) (now : ShT) (sa : Nat → Nat) (sb : Nat → Nat → Nat) (sv : (Nat → ShT)) (cu : Int32) (k1 : Int32) (k2 : Int32) (dr : Int32) (E : Nat) (h : fX2_drag bo now sv cu k1 k2 dr = some (.inl E)) (sz : Nat) : vx_Met l yX2_drag zX2_drag ({ frames := 8, cells := 1, slots := 6, locals := 123 }) (xPc D t (gBo bh bk bo ++ (gS t (bk 0) nb now ++ (gQ t (bk 3) sa ++ (g6 t sa sb sv)))) sz [.ref bh, .int cu, .int k1, .int k2, .int dr]) (qX (va_A (gBo bh bk bo ++ (gS t (bk 0) nb now ++ (gQ t (bk 3) sa ++ (g6 t sa sb sv)))) sz)) (xC D t (gBo bh bk bo ++ (gS t (bk 0) nb now ++ (gQ t (bk 3) sa ++ (g6 t sa sb sv)))) E (va_A (gBo bh bk bo ++ (gS t (bk 0) nb now ++ (gQ t (bk 3) sa ++ (g6 t sa sb sv)))) sz)) 1 6 (va_A (gBo bh bk bo ++ (gS t (bk 0) nb now ++ (gQ t (bk 3) sa ++ (g6 t sa sb sv)))) sz) := by
  refine met_ofX (cc := cX2_drag) (maxL := 8) (ret := some .int) (by decide) rfl (Nat.le_of_ble_eq_true rfl) ?_
  intro p e s m args below meth c A hx hb hr hml hts hown hlocks hA hP hK hD hE hS hX hT ls hl
  have htB : ∀ w ∈ BIG, w.before args s = true := fun w h => hts w (List.mem_cons_of_mem _ h)
  have hown : s.vm.findClass RX2 = some m.cls := hown
  have hl : lv_has ls 8 [(0, .ref bh), (1, .int cu), (2, .int k1), (3, .int k2), (4, .int dr)] := hl
  unfold fX2_drag at h
  have J46_1 : ∀ (fu46_1 : Nat) (v46_1 : BoT × ShT × (Nat → ShT) × Int32 × Int32 × Int32 × Int32), lp (fX2_drag_l46_1) fu46_1 v46_1 = some (.inl E) → ∀ (H : Heap) (locs : List Loc), va_P D vwCl (gBo bh bk v46_1.1 ++ (gS t (bk 0) nb v46_1.2.1 ++ (gQ t (bk 3) sa ++ (g6 t sa sb v46_1.2.2.1)))) H → va_D A (gBo bh bk v46_1.1 ++ (gS t (bk 0) nb v46_1.2.1 ++ (gQ t (bk 3) sa ++ (g6 t sa sb v46_1.2.2.1)))) → va_S A s.heap H locs → ∀ ls : Array Slot, lv_has ls 8 [(3, .int v46_1.2.2.2.1), (4, .int v46_1.2.2.2.2.1), (5, .ref (nb 3)), (6, .int v46_1.2.2.2.2.2.1), (7, .int v46_1.2.2.2.2.2.2)] → W p l e ({ frames := 8, cells := 1, slots := 6, locals := 123 }) s m args below meth c H locs 0 0 (vx_MQ below (qX A) (xC D t (gBo bh bk bo ++ (gS t (bk 0) nb now ++ (gQ t (bk 3) sa ++ (g6 t sa sb sv)))) E A) args s 1 6 A) (F0 m 46 ls []) := by
    intro fu46_1
    induction fu46_1 with
    | zero => intro v46_1 h; cases h
    | succ fu46_1 ih46_1 =>
      intro v46_1 h H locs hP hD hS ls hl
      have h : fX2_drag_l46_1 (lp (fX2_drag_l46_1) fu46_1) v46_1 = some (.inl E) := h
      unfold fX2_drag_l46_1 at h
      refine lv_iload hx hb dX2_drag_46 (lv_at hl 4 rfl) ?_
      refine lv_iload_n hx hb dX2_drag_48 rfl (lv_at hl 0 rfl) ?_
      refine lv_icmp_gt (tgt := 89) hx hb dX2_drag_49 (by decide) (fun c13 => ?_) (fun c13 => ?_)
      · have h := it_p c13 h
        refine lv_iload hx hb dX2_drag_89 (lv_at hl 3 rfl) ?_
        cases h
      · have h := it_n c13 h
        refine lv_iload hx hb dX2_drag_52 (lv_at hl 4 rfl) ?_
        refine lv_bipush (v := 24) hx hb dX2_drag_54 (by decide) ?_
        refine lv_icmp_ge (tgt := 89) hx hb dX2_drag_56 (by decide) (fun c14 => ?_) (fun c14 => ?_)
        · have h := it_p c14 h
          refine lv_iload hx hb dX2_drag_89 (lv_at hl 3 rfl) ?_
          cases h
        · have h := it_n c14 h
          refine lv_aload hx hb dX2_drag_59 (lv_at hl 2 rfl) ?_
          refine lv_iload hx hb dX2_drag_61 (lv_at hl 4 rfl) ?_
          obtain ⟨r15, h15, h⟩ := ob h
          refine call_i (v := r15) (wc := (gA t (nb 3) 24 v46_1.2.1.2.2.2.1)) (wc' := (gA t (nb 3) 24 v46_1.2.1.2.2.2.1)) (ws' := (gBo bh bk v46_1.1 ++ (gS t (bk 0) nb v46_1.2.1 ++ (gQ t (bk 3) sa ++ (g6 t sa sb v46_1.2.2.1))))) (cutI (wc := (gA t (nb 3) 24 v46_1.2.1.2.2.2.1)) (wc' := (gA t (nb 3) 24 v46_1.2.1.2.2.2.1)) (ws' := (gBo bh bk v46_1.1 ++ (gS t (bk 0) nb v46_1.2.1 ++ (gQ t (bk 3) sa ++ (g6 t sa sb v46_1.2.2.1))))) [5] hP hD hS hA rfl rfl rfl rfl) hS (fun hPc hDc => va_runS (As := [.ref (nb 3), .int v46_1.2.2.2.2.2.2]) (rest := []) ⟨hx, hb, hml, hown, hts⟩ (mtX2_at l D t (nb 3) 24 v46_1.2.1.2.2.2.1 v46_1.2.2.2.2.2.2 r15 h15 (by decide) _) (va_cwS 2 hts (gBS kw104 kw105 kw2 kw106) rfl rfl rfl (by decide +kernel) ⟨Nat.le_of_ble_eq_true rfl, Nat.le_of_ble_eq_true rfl⟩) (sPc_S hPc hK hDc hE) rfl rfl hl.1 rfl (lv_room (Nat.le_of_ble_eq_true rfl)) dX2_drag_63 ⟨Nat.zero_le _, Nat.zero_le _⟩) (fun H locs hP hD hS => ?_)
          refine lv_iload hx hb dX2_drag_66 (lv_at hl 1 rfl) ?_
          refine lv_icmp_eq (tgt := 83) hx hb dX2_drag_68 (by decide) (fun c16 => ?_) (fun c16 => ?_)
          · have h := it_p c16 h
            refine lv_iinc (v := v46_1.2.2.2.2.2.2 + 1) (lv' := [(7, .int (v46_1.2.2.2.2.2.2 + 1)), (3, .int v46_1.2.2.2.1), (4, .int v46_1.2.2.2.2.1), (5, .ref (nb 3)), (6, .int v46_1.2.2.2.2.2.1)]) hx hb dX2_drag_83 hl (k := 4) rfl rfl (by decide) rfl (fun ls hl => ?_)
            refine lv_goto (tgt := 46) hx hb dX2_drag_86 (by decide) ?_
            exact ih46_1 (v46_1.1, v46_1.2.1, v46_1.2.2.1, v46_1.2.2.2.1, v46_1.2.2.2.2.1, v46_1.2.2.2.2.2.1, v46_1.2.2.2.2.2.2 + 1) h _ _ hP hD hS _ (lv_sub hl [1, 2, 3, 4, 0] rfl)
          · have h := it_n c16 h
            refine lv_aload hx hb dX2_drag_71 (lv_at hl 2 rfl) ?_
            refine lv_iload hx hb dX2_drag_73 (lv_at hl 4 rfl) ?_
            refine lv_iload hx hb dX2_drag_75 (lv_at hl 1 rfl) ?_
            obtain ⟨r17, h17, h⟩ := ob h
            refine call_v (wc := (gA t (nb 3) 24 v46_1.2.1.2.2.2.1)) (wc' := (gA t (nb 3) 24 r17)) (ws' := (gBo bh bk v46_1.1 ++ (gS t (bk 0) nb (v46_1.2.1.1, v46_1.2.1.2.1, v46_1.2.1.2.2.1, r17, v46_1.2.1.2.2.2.2.1, v46_1.2.1.2.2.2.2.2.1, v46_1.2.1.2.2.2.2.2.2.1, v46_1.2.1.2.2.2.2.2.2.2.1, v46_1.2.1.2.2.2.2.2.2.2.2.1, v46_1.2.1.2.2.2.2.2.2.2.2.2) ++ (gQ t (bk 3) sa ++ (g6 t sa sb v46_1.2.2.1))))) (cutI (wc := (gA t (nb 3) 24 v46_1.2.1.2.2.2.1)) (wc' := (gA t (nb 3) 24 r17)) (ws' := (gBo bh bk v46_1.1 ++ (gS t (bk 0) nb (v46_1.2.1.1, v46_1.2.1.2.1, v46_1.2.1.2.2.1, r17, v46_1.2.1.2.2.2.2.1, v46_1.2.1.2.2.2.2.2.1, v46_1.2.1.2.2.2.2.2.2.1, v46_1.2.1.2.2.2.2.2.2.2.1, v46_1.2.1.2.2.2.2.2.2.2.2.1, v46_1.2.1.2.2.2.2.2.2.2.2.2) ++ (gQ t (bk 3) sa ++ (g6 t sa sb v46_1.2.2.1))))) [5] hP hD hS hA rfl rfl rfl rfl) hS (fun hPc hDc => va_runS (As := [.ref (nb 3), .int v46_1.2.2.2.2.2.2, .int v46_1.2.2.2.2.1]) (rest := []) ⟨hx, hb, hml, hown, hts⟩ (mtX2_put l D t (nb 3) 24 v46_1.2.1.2.2.2.1 v46_1.2.2.2.2.2.2 v46_1.2.2.2.2.1 r17 h17 (by decide) _) (va_cwS 3 hts (gBS kw107 kw108 kw2 kw109) rfl rfl rfl (by decide +kernel) ⟨Nat.le_of_ble_eq_true rfl, Nat.le_of_ble_eq_true rfl⟩) (sPc_S hPc hK hDc hE) rfl rfl hl.1 rfl (lv_room (Nat.le_of_ble_eq_true rfl)) dX2_drag_77 ⟨Nat.zero_le _, Nat.zero_le _⟩) (fun H locs hP hD hS => ?_)
            refine lv_iinc (v := v46_1.2.2.2.2.2.1 + 1) (lv' := [(6, .int (v46_1.2.2.2.2.2.1 + 1)), (3, .int v46_1.2.2.2.1), (4, .int v46_1.2.2.2.2.1), (5, .ref (nb 3)), (7, .int v46_1.2.2.2.2.2.2)]) hx hb dX2_drag_80 hl (k := 3) rfl rfl (by decide) rfl (fun ls hl => ?_)
            refine lv_iinc (v := v46_1.2.2.2.2.2.2 + 1) (lv' := [(7, .int (v46_1.2.2.2.2.2.2 + 1)), (6, .int (v46_1.2.2.2.2.2.1 + 1)), (3, .int v46_1.2.2.2.1), (4, .int v46_1.2.2.2.2.1), (5, .ref (nb 3))]) hx hb dX2_drag_83 hl (k := 4) rfl rfl (by decide) rfl (fun ls hl => ?_)
            refine lv_goto (tgt := 46) hx hb dX2_drag_86 (by decide) ?_
            exact ih46_1 (v46_1.1, (v46_1.2.1.1, v46_1.2.1.2.1, v46_1.2.1.2.2.1, r17, v46_1.2.1.2.2.2.2.1, v46_1.2.1.2.2.2.2.2.1, v46_1.2.1.2.2.2.2.2.2.1, v46_1.2.1.2.2.2.2.2.2.2.1, v46_1.2.1.2.2.2.2.2.2.2.2.1, v46_1.2.1.2.2.2.2.2.2.2.2.2), v46_1.2.2.1, v46_1.2.2.2.1, v46_1.2.2.2.2.1, v46_1.2.2.2.2.2.1 + 1, v46_1.2.2.2.2.2.2 + 1) h _ _ hP hD hS _ (lv_sub hl [2, 3, 4, 1, 0] rfl)
  have J46 : ∀ (fu46 : Nat) (v46 : BoT × ShT × (Nat → ShT) × Int32 × Int32 × Int32 × Int32), lp (fX2_drag_l46) fu46 v46 = some (.inl E) → ∀ (H : Heap) (locs : List Loc), va_P D vwCl (gBo bh bk v46.1 ++ (gS t (bk 0) nb v46.2.1 ++ (gQ t (bk 3) sa ++ (g6 t sa sb v46.2.2.1)))) H → va_D A (gBo bh bk v46.1 ++ (gS t (bk 0) nb v46.2.1 ++ (gQ t (bk 3) sa ++ (g6 t sa sb v46.2.2.1)))) → va_S A s.heap H locs → ∀ ls : Array Slot, lv_has ls 8 [(3, .int v46.2.2.2.1), (4, .int v46.2.2.2.2.1), (5, .ref (nb 2)), (6, .int v46.2.2.2.2.2.1), (7, .int v46.2.2.2.2.2.2)] → W p l e ({ frames := 8, cells := 1, slots := 6, locals := 123 }) s m args below meth c H locs 0 0 (vx_MQ below (qX A) (xC D t (gBo bh bk bo ++ (gS t (bk 0) nb now ++ (gQ t (bk 3) sa ++ (g6 t sa sb sv)))) E A) args s 1 6 A) (F0 m 46 ls []) := by
    intro fu46
    induction fu46 with
    | zero => intro v46 h; cases h
    | succ fu46 ih46 =>
      intro v46 h H locs hP hD hS ls hl
      have h : fX2_drag_l46 (lp (fX2_drag_l46) fu46) v46 = some (.inl E) := h
      unfold fX2_drag_l46 at h
      refine lv_iload hx hb dX2_drag_46 (lv_at hl 4 rfl) ?_
      refine lv_iload_n hx hb dX2_drag_48 rfl (lv_at hl 0 rfl) ?_
      refine lv_icmp_gt (tgt := 89) hx hb dX2_drag_49 (by decide) (fun c8 => ?_) (fun c8 => ?_)
      · have h := it_p c8 h
        refine lv_iload hx hb dX2_drag_89 (lv_at hl 3 rfl) ?_
        cases h
      · have h := it_n c8 h
        refine lv_iload hx hb dX2_drag_52 (lv_at hl 4 rfl) ?_
        refine lv_bipush (v := 24) hx hb dX2_drag_54 (by decide) ?_
        refine lv_icmp_ge (tgt := 89) hx hb dX2_drag_56 (by decide) (fun c9 => ?_) (fun c9 => ?_)
        · have h := it_p c9 h
          refine lv_iload hx hb dX2_drag_89 (lv_at hl 3 rfl) ?_
          cases h
        · have h := it_n c9 h
          refine lv_aload hx hb dX2_drag_59 (lv_at hl 2 rfl) ?_
          refine lv_iload hx hb dX2_drag_61 (lv_at hl 4 rfl) ?_
          obtain ⟨r10, h10, h⟩ := ob h
          refine call_i (v := r10) (wc := (gA t (nb 2) 24 v46.2.1.2.2.1)) (wc' := (gA t (nb 2) 24 v46.2.1.2.2.1)) (ws' := (gBo bh bk v46.1 ++ (gS t (bk 0) nb v46.2.1 ++ (gQ t (bk 3) sa ++ (g6 t sa sb v46.2.2.1))))) (cutI (wc := (gA t (nb 2) 24 v46.2.1.2.2.1)) (wc' := (gA t (nb 2) 24 v46.2.1.2.2.1)) (ws' := (gBo bh bk v46.1 ++ (gS t (bk 0) nb v46.2.1 ++ (gQ t (bk 3) sa ++ (g6 t sa sb v46.2.2.1))))) [4] hP hD hS hA rfl rfl rfl rfl) hS (fun hPc hDc => va_runS (As := [.ref (nb 2), .int v46.2.2.2.2.2.2]) (rest := []) ⟨hx, hb, hml, hown, hts⟩ (mtX2_at l D t (nb 2) 24 v46.2.1.2.2.1 v46.2.2.2.2.2.2 r10 h10 (by decide) _) (va_cwS 2 hts (gBS kw104 kw105 kw2 kw106) rfl rfl rfl (by decide +kernel) ⟨Nat.le_of_ble_eq_true rfl, Nat.le_of_ble_eq_true rfl⟩) (sPc_S hPc hK hDc hE) rfl rfl hl.1 rfl (lv_room (Nat.le_of_ble_eq_true rfl)) dX2_drag_63 ⟨Nat.zero_le _, Nat.zero_le _⟩) (fun H locs hP hD hS => ?_)
          refine lv_iload hx hb dX2_drag_66 (lv_at hl 1 rfl) ?_
          refine lv_icmp_eq (tgt := 83) hx hb dX2_drag_68 (by decide) (fun c11 => ?_) (fun c11 => ?_)
          · have h := it_p c11 h
            refine lv_iinc (v := v46.2.2.2.2.2.2 + 1) (lv' := [(7, .int (v46.2.2.2.2.2.2 + 1)), (3, .int v46.2.2.2.1), (4, .int v46.2.2.2.2.1), (5, .ref (nb 2)), (6, .int v46.2.2.2.2.2.1)]) hx hb dX2_drag_83 hl (k := 4) rfl rfl (by decide) rfl (fun ls hl => ?_)
            refine lv_goto (tgt := 46) hx hb dX2_drag_86 (by decide) ?_
            exact ih46 (v46.1, v46.2.1, v46.2.2.1, v46.2.2.2.1, v46.2.2.2.2.1, v46.2.2.2.2.2.1, v46.2.2.2.2.2.2 + 1) h _ _ hP hD hS _ (lv_sub hl [1, 2, 3, 4, 0] rfl)
          · have h := it_n c11 h
            refine lv_aload hx hb dX2_drag_71 (lv_at hl 2 rfl) ?_
            refine lv_iload hx hb dX2_drag_73 (lv_at hl 4 rfl) ?_
            refine lv_iload hx hb dX2_drag_75 (lv_at hl 1 rfl) ?_
            obtain ⟨r12, h12, h⟩ := ob h
            refine call_v (wc := (gA t (nb 2) 24 v46.2.1.2.2.1)) (wc' := (gA t (nb 2) 24 r12)) (ws' := (gBo bh bk v46.1 ++ (gS t (bk 0) nb (v46.2.1.1, v46.2.1.2.1, r12, v46.2.1.2.2.2.1, v46.2.1.2.2.2.2.1, v46.2.1.2.2.2.2.2.1, v46.2.1.2.2.2.2.2.2.1, v46.2.1.2.2.2.2.2.2.2.1, v46.2.1.2.2.2.2.2.2.2.2.1, v46.2.1.2.2.2.2.2.2.2.2.2) ++ (gQ t (bk 3) sa ++ (g6 t sa sb v46.2.2.1))))) (cutI (wc := (gA t (nb 2) 24 v46.2.1.2.2.1)) (wc' := (gA t (nb 2) 24 r12)) (ws' := (gBo bh bk v46.1 ++ (gS t (bk 0) nb (v46.2.1.1, v46.2.1.2.1, r12, v46.2.1.2.2.2.1, v46.2.1.2.2.2.2.1, v46.2.1.2.2.2.2.2.1, v46.2.1.2.2.2.2.2.2.1, v46.2.1.2.2.2.2.2.2.2.1, v46.2.1.2.2.2.2.2.2.2.2.1, v46.2.1.2.2.2.2.2.2.2.2.2) ++ (gQ t (bk 3) sa ++ (g6 t sa sb v46.2.2.1))))) [4] hP hD hS hA rfl rfl rfl rfl) hS (fun hPc hDc => va_runS (As := [.ref (nb 2), .int v46.2.2.2.2.2.2, .int v46.2.2.2.2.1]) (rest := []) ⟨hx, hb, hml, hown, hts⟩ (mtX2_put l D t (nb 2) 24 v46.2.1.2.2.1 v46.2.2.2.2.2.2 v46.2.2.2.2.1 r12 h12 (by decide) _) (va_cwS 3 hts (gBS kw107 kw108 kw2 kw109) rfl rfl rfl (by decide +kernel) ⟨Nat.le_of_ble_eq_true rfl, Nat.le_of_ble_eq_true rfl⟩) (sPc_S hPc hK hDc hE) rfl rfl hl.1 rfl (lv_room (Nat.le_of_ble_eq_true rfl)) dX2_drag_77 ⟨Nat.zero_le _, Nat.zero_le _⟩) (fun H locs hP hD hS => ?_)
            refine lv_iinc (v := v46.2.2.2.2.2.1 + 1) (lv' := [(6, .int (v46.2.2.2.2.2.1 + 1)), (3, .int v46.2.2.2.1), (4, .int v46.2.2.2.2.1), (5, .ref (nb 2)), (7, .int v46.2.2.2.2.2.2)]) hx hb dX2_drag_80 hl (k := 3) rfl rfl (by decide) rfl (fun ls hl => ?_)
            refine lv_iinc (v := v46.2.2.2.2.2.2 + 1) (lv' := [(7, .int (v46.2.2.2.2.2.2 + 1)), (6, .int (v46.2.2.2.2.2.1 + 1)), (3, .int v46.2.2.2.1), (4, .int v46.2.2.2.2.1), (5, .ref (nb 2))]) hx hb dX2_drag_83 hl (k := 4) rfl rfl (by decide) rfl (fun ls hl => ?_)
            refine lv_goto (tgt := 46) hx hb dX2_drag_86 (by decide) ?_
            exact ih46 (v46.1, (v46.2.1.1, v46.2.1.2.1, r12, v46.2.1.2.2.2.1, v46.2.1.2.2.2.2.1, v46.2.1.2.2.2.2.2.1, v46.2.1.2.2.2.2.2.2.1, v46.2.1.2.2.2.2.2.2.2.1, v46.2.1.2.2.2.2.2.2.2.2.1, v46.2.1.2.2.2.2.2.2.2.2.2), v46.2.2.1, v46.2.2.2.1, v46.2.2.2.2.1, v46.2.2.2.2.2.1 + 1, v46.2.2.2.2.2.2 + 1) h _ _ hP hD hS _ (lv_sub hl [2, 3, 4, 1, 0] rfl)
  refine lv_iload_n hx hb dX2_drag_0 rfl (lv_at hl 1 rfl) ?_
  rcases tb_l h with h1 | ⟨r1, h1, h⟩
  · exact call_x (E := E) (wc := ([] : va_W)) (ws := (gBo bh bk bo ++ (gS t (bk 0) nb now ++ (gQ t (bk 3) sa ++ (g6 t sa sb sv))))) (cutB (bs := [gBo bh bk bo, gS t (bk 0) nb now, gQ t (bk 3) sa, g6 t sa sb sv]) (cs := []) (cs' := []) (bs' := [gBo bh bk bo, gS t (bk 0) nb now, gQ t (bk 3) sa, g6 t sa sb sv]) [] hP hD hS hA rfl rfl rfl rfl) hS hK hT hlocks (Nat.le_of_ble_eq_true rfl) (Nat.le_of_ble_eq_true rfl) (fun hPc hDc hAB => vx_runS (As := [.int cu]) (rest := []) ⟨hx, hb, hml, hown, hts⟩ (xmX2_needCurtain l hfl D t cu E h1 _) (va_cwS 1 hts (gBS kw73 kw74 kw2 kw75) rfl rfl rfl (by decide +kernel) ⟨Nat.le_of_ble_eq_true rfl, Nat.le_of_ble_eq_true rfl⟩) (xPc_S hPc hK hDc hE hX hS hAB) rfl rfl hl.1 rfl (lv_room (Nat.le_of_ble_eq_true rfl)) dX2_drag_1 ⟨Nat.le_of_ble_eq_true rfl, Nat.le_of_ble_eq_true rfl⟩)
  refine call_v (wc := ([] : va_W)) (wc' := ([] : va_W)) (ws' := (gBo bh bk bo ++ (gS t (bk 0) nb now ++ (gQ t (bk 3) sa ++ (g6 t sa sb sv))))) (cutB (bs := [gBo bh bk bo, gS t (bk 0) nb now, gQ t (bk 3) sa, g6 t sa sb sv]) (cs := []) (cs' := []) (bs' := [gBo bh bk bo, gS t (bk 0) nb now, gQ t (bk 3) sa, g6 t sa sb sv]) [] hP hD hS hA rfl rfl rfl rfl) hS (fun hPc hDc => va_runS (As := [.int cu]) (rest := []) ⟨hx, hb, hml, hown, hts⟩ (mtX2_needCurtain l D t cu r1 h1 _) (va_cwS 1 hts (gBS kw73 kw74 kw2 kw75) rfl rfl rfl (by decide +kernel) ⟨Nat.le_of_ble_eq_true rfl, Nat.le_of_ble_eq_true rfl⟩) (sPc_S hPc hK hDc hE) rfl rfl hl.1 rfl (lv_room (Nat.le_of_ble_eq_true rfl)) dX2_drag_1 ⟨Nat.zero_le _, Nat.zero_le _⟩) (fun H locs hP hD hS => ?_)
  refine lv_iload_n hx hb dX2_drag_4 rfl (lv_at hl 2 rfl) ?_
  refine lv_iconst (v := 0) hx hb dX2_drag_5 (by decide) ?_
  refine lv_bipush (v := 23) hx hb dX2_drag_6 (by decide) ?_
  rcases tb_l h with h2 | ⟨r2, h2, h⟩
  · exact call_x (E := E) (wc := ([] : va_W)) (ws := (gBo bh bk bo ++ (gS t (bk 0) nb now ++ (gQ t (bk 3) sa ++ (g6 t sa sb sv))))) (cutB (bs := [gBo bh bk bo, gS t (bk 0) nb now, gQ t (bk 3) sa, g6 t sa sb sv]) (cs := []) (cs' := []) (bs' := [gBo bh bk bo, gS t (bk 0) nb now, gQ t (bk 3) sa, g6 t sa sb sv]) [] hP hD hS hA rfl rfl rfl rfl) hS hK hT hlocks (Nat.le_of_ble_eq_true rfl) (Nat.le_of_ble_eq_true rfl) (fun hPc hDc hAB => vx_runS (As := [.int k1, .int 0, .int 23]) (rest := []) ⟨hx, hb, hml, hown, hts⟩ (xmX2_needRange l hfl D t k1 0 23 E h2 _) (va_cwS 3 hts (gBS kw81 kw82 kw2 kw83) rfl rfl rfl (by decide +kernel) ⟨Nat.le_of_ble_eq_true rfl, Nat.le_of_ble_eq_true rfl⟩) (xPc_S hPc hK hDc hE hX hS hAB) rfl rfl hl.1 rfl (lv_room (Nat.le_of_ble_eq_true rfl)) dX2_drag_8 ⟨Nat.le_of_ble_eq_true rfl, Nat.le_of_ble_eq_true rfl⟩)
  refine call_v (wc := ([] : va_W)) (wc' := ([] : va_W)) (ws' := (gBo bh bk bo ++ (gS t (bk 0) nb now ++ (gQ t (bk 3) sa ++ (g6 t sa sb sv))))) (cutB (bs := [gBo bh bk bo, gS t (bk 0) nb now, gQ t (bk 3) sa, g6 t sa sb sv]) (cs := []) (cs' := []) (bs' := [gBo bh bk bo, gS t (bk 0) nb now, gQ t (bk 3) sa, g6 t sa sb sv]) [] hP hD hS hA rfl rfl rfl rfl) hS (fun hPc hDc => va_runS (As := [.int k1, .int 0, .int 23]) (rest := []) ⟨hx, hb, hml, hown, hts⟩ (mtX2_needRange l D t k1 0 23 r2 h2 _) (va_cwS 3 hts (gBS kw81 kw82 kw2 kw83) rfl rfl rfl (by decide +kernel) ⟨Nat.le_of_ble_eq_true rfl, Nat.le_of_ble_eq_true rfl⟩) (sPc_S hPc hK hDc hE) rfl rfl hl.1 rfl (lv_room (Nat.le_of_ble_eq_true rfl)) dX2_drag_8 ⟨Nat.zero_le _, Nat.zero_le _⟩) (fun H locs hP hD hS => ?_)
  refine lv_iload_n hx hb dX2_drag_11 rfl (lv_at hl 3 rfl) ?_
  refine lv_iload_n hx hb dX2_drag_12 rfl (lv_at hl 2 rfl) ?_
  refine lv_bipush (v := 23) hx hb dX2_drag_13 (by decide) ?_
  rcases tb_l h with h3 | ⟨r3, h3, h⟩
  · exact call_x (E := E) (wc := ([] : va_W)) (ws := (gBo bh bk bo ++ (gS t (bk 0) nb now ++ (gQ t (bk 3) sa ++ (g6 t sa sb sv))))) (cutB (bs := [gBo bh bk bo, gS t (bk 0) nb now, gQ t (bk 3) sa, g6 t sa sb sv]) (cs := []) (cs' := []) (bs' := [gBo bh bk bo, gS t (bk 0) nb now, gQ t (bk 3) sa, g6 t sa sb sv]) [] hP hD hS hA rfl rfl rfl rfl) hS hK hT hlocks (Nat.le_of_ble_eq_true rfl) (Nat.le_of_ble_eq_true rfl) (fun hPc hDc hAB => vx_runS (As := [.int k2, .int k1, .int 23]) (rest := []) ⟨hx, hb, hml, hown, hts⟩ (xmX2_needRange l hfl D t k2 k1 23 E h3 _) (va_cwS 3 hts (gBS kw81 kw82 kw2 kw83) rfl rfl rfl (by decide +kernel) ⟨Nat.le_of_ble_eq_true rfl, Nat.le_of_ble_eq_true rfl⟩) (xPc_S hPc hK hDc hE hX hS hAB) rfl rfl hl.1 rfl (lv_room (Nat.le_of_ble_eq_true rfl)) dX2_drag_15 ⟨Nat.le_of_ble_eq_true rfl, Nat.le_of_ble_eq_true rfl⟩)
  refine call_v (wc := ([] : va_W)) (wc' := ([] : va_W)) (ws' := (gBo bh bk bo ++ (gS t (bk 0) nb now ++ (gQ t (bk 3) sa ++ (g6 t sa sb sv))))) (cutB (bs := [gBo bh bk bo, gS t (bk 0) nb now, gQ t (bk 3) sa, g6 t sa sb sv]) (cs := []) (cs' := []) (bs' := [gBo bh bk bo, gS t (bk 0) nb now, gQ t (bk 3) sa, g6 t sa sb sv]) [] hP hD hS hA rfl rfl rfl rfl) hS (fun hPc hDc => va_runS (As := [.int k2, .int k1, .int 23]) (rest := []) ⟨hx, hb, hml, hown, hts⟩ (mtX2_needRange l D t k2 k1 23 r3 h3 _) (va_cwS 3 hts (gBS kw81 kw82 kw2 kw83) rfl rfl rfl (by decide +kernel) ⟨Nat.le_of_ble_eq_true rfl, Nat.le_of_ble_eq_true rfl⟩) (sPc_S hPc hK hDc hE) rfl rfl hl.1 rfl (lv_room (Nat.le_of_ble_eq_true rfl)) dX2_drag_15 ⟨Nat.zero_le _, Nat.zero_le _⟩) (fun H locs hP hD hS => ?_)
  refine lv_iload hx hb dX2_drag_18 (lv_at hl 4 rfl) ?_
  refine lv_iconst (v := 0) hx hb dX2_drag_20 (by decide) ?_
  refine lv_bipush (v := 50) hx hb dX2_drag_21 (by decide) ?_
  rcases tb_l h with h4 | ⟨r4, h4, h⟩
  · exact call_x (E := E) (wc := ([] : va_W)) (ws := (gBo bh bk bo ++ (gS t (bk 0) nb now ++ (gQ t (bk 3) sa ++ (g6 t sa sb sv))))) (cutB (bs := [gBo bh bk bo, gS t (bk 0) nb now, gQ t (bk 3) sa, g6 t sa sb sv]) (cs := []) (cs' := []) (bs' := [gBo bh bk bo, gS t (bk 0) nb now, gQ t (bk 3) sa, g6 t sa sb sv]) [] hP hD hS hA rfl rfl rfl rfl) hS hK hT hlocks (Nat.le_of_ble_eq_true rfl) (Nat.le_of_ble_eq_true rfl) (fun hPc hDc hAB => vx_runS (As := [.int dr, .int 0, .int 50]) (rest := []) ⟨hx, hb, hml, hown, hts⟩ (xmX2_needRange l hfl D t dr 0 50 E h4 _) (va_cwS 3 hts (gBS kw81 kw82 kw2 kw83) rfl rfl rfl (by decide +kernel) ⟨Nat.le_of_ble_eq_true rfl, Nat.le_of_ble_eq_true rfl⟩) (xPc_S hPc hK hDc hE hX hS hAB) rfl rfl hl.1 rfl (lv_room (Nat.le_of_ble_eq_true rfl)) dX2_drag_23 ⟨Nat.le_of_ble_eq_true rfl, Nat.le_of_ble_eq_true rfl⟩)
  refine call_v (wc := ([] : va_W)) (wc' := ([] : va_W)) (ws' := (gBo bh bk bo ++ (gS t (bk 0) nb now ++ (gQ t (bk 3) sa ++ (g6 t sa sb sv))))) (cutB (bs := [gBo bh bk bo, gS t (bk 0) nb now, gQ t (bk 3) sa, g6 t sa sb sv]) (cs := []) (cs' := []) (bs' := [gBo bh bk bo, gS t (bk 0) nb now, gQ t (bk 3) sa, g6 t sa sb sv]) [] hP hD hS hA rfl rfl rfl rfl) hS (fun hPc hDc => va_runS (As := [.int dr, .int 0, .int 50]) (rest := []) ⟨hx, hb, hml, hown, hts⟩ (mtX2_needRange l D t dr 0 50 r4 h4 _) (va_cwS 3 hts (gBS kw81 kw82 kw2 kw83) rfl rfl rfl (by decide +kernel) ⟨Nat.le_of_ble_eq_true rfl, Nat.le_of_ble_eq_true rfl⟩) (sPc_S hPc hK hDc hE) rfl rfl hl.1 rfl (lv_room (Nat.le_of_ble_eq_true rfl)) dX2_drag_23 ⟨Nat.zero_le _, Nat.zero_le _⟩) (fun H locs hP hD hS => ?_)
  refine lv_aload_n hx hb dX2_drag_26 rfl (lv_at hl 0 rfl) ?_
  obtain ⟨r5, h5, h⟩ := ob h
  refine call_v (wc := (gBo bh bk bo ++ (gS t (bk 0) nb now ++ (gQ t (bk 3) sa ++ (g6 t sa sb sv))))) (wc' := (gBo bh bk r5.1 ++ (gS t (bk 0) nb now ++ (gQ t (bk 3) sa ++ (g6 t sa sb r5.2))))) (ws' := (gBo bh bk r5.1 ++ (gS t (bk 0) nb now ++ (gQ t (bk 3) sa ++ (g6 t sa sb r5.2))))) (cutB (bs := [gBo bh bk bo, gS t (bk 0) nb now, gQ t (bk 3) sa, g6 t sa sb sv]) (cs := [gBo bh bk bo, gS t (bk 0) nb now, gQ t (bk 3) sa, g6 t sa sb sv]) (cs' := [gBo bh bk r5.1, gS t (bk 0) nb now, gQ t (bk 3) sa, g6 t sa sb r5.2]) (bs' := [gBo bh bk r5.1, gS t (bk 0) nb now, gQ t (bk 3) sa, g6 t sa sb r5.2]) [0, 1, 2, 3] hP hD hS hA rfl rfl rfl rfl) hS (fun hPc hDc => va_runV (As := []) (rest := []) ⟨hx, hb, hml, hown, hts⟩ (mtX2_saveState l D t bh bk bo nb now sa sb sv r5 h5 _) (cwV 0 hts (gBV kw86 kw87 kw88 kw2 kw89) rfl rfl rfl (by decide +kernel) ⟨Nat.le_of_ble_eq_true rfl, Nat.le_of_ble_eq_true rfl⟩) (sPc_V hPc hK hDc hE (va_recv hK hP (ci := 2) (q0 := 0) rfl rfl)) rfl rfl hl.1 rfl (lv_room (Nat.le_of_ble_eq_true rfl)) dX2_drag_27 ⟨Nat.zero_le _, Nat.zero_le _⟩) (fun H locs hP hD hS => ?_)
  refine lv_aload_n hx hb dX2_drag_30 rfl (lv_at hl 0 rfl) ?_
  refine va_get (D := D) (ci := 2) (v := .ref (bk 0)) (C := RX2) (T := TX2) (N := 8) hx hb htB inlX2 hown hK hP 0 rfl rfl 0 (by decide) (htB _ kw17) (fun _ h9 => h9) rfl dX2_drag_31 ?_
  refine lv_iload_n hx hb dX2_drag_34 rfl (lv_at hl 1 rfl) ?_
  obtain ⟨r6, h6, h⟩ := ob h
  refine call_r (v := if cu = 0 then nb 2 else nb 3) (wc := (gS t (bk 0) nb now)) (wc' := (gS t (bk 0) nb now)) (ws' := (gBo bh bk r5.1 ++ (gS t (bk 0) nb now ++ (gQ t (bk 3) sa ++ (g6 t sa sb r5.2))))) (cutB (bs := [gBo bh bk r5.1, gS t (bk 0) nb now, gQ t (bk 3) sa, g6 t sa sb r5.2]) (cs := [gS t (bk 0) nb now]) (cs' := [gS t (bk 0) nb now]) (bs' := [gBo bh bk r5.1, gS t (bk 0) nb now, gQ t (bk 3) sa, g6 t sa sb r5.2]) [1] hP hD hS hA rfl rfl rfl rfl) hS (fun hPc hDc => va_runV (As := [.int cu]) (rest := []) ⟨hx, hb, hml, hown, hts⟩ (mtX1_dragsOf l D t (bk 0) nb now cu r6 h6 _) (cwV 1 hts (gBV kw148 kw149 kw150 kw16 kw151) rfl rfl rfl (by decide +kernel) ⟨Nat.le_of_ble_eq_true rfl, Nat.le_of_ble_eq_true rfl⟩) (sPc_V hPc hK hDc hE (va_recv hK hP (ci := 1) (q0 := 1) rfl rfl)) rfl rfl hl.1 rfl (lv_room (Nat.le_of_ble_eq_true rfl)) dX2_drag_35 ⟨Nat.zero_le _, Nat.zero_le _⟩) (fun H locs hP hD hS => ?_)
  by_cases c7 : cu = 0
  · have h := it_p c7 h
    rw [if_pos c7]
    refine lv_astore (lv' := [(5, .ref (nb 2)), (0, .ref bh), (1, .int cu), (2, .int k1), (3, .int k2), (4, .int dr)]) hx hb dX2_drag_38 hl (by decide) rfl (fun ls hl => ?_)
    refine lv_iconst (v := 0) hx hb dX2_drag_40 (by decide) ?_
    refine lv_istore (lv' := [(6, .int 0), (5, .ref (nb 2)), (0, .ref bh), (1, .int cu), (2, .int k1), (3, .int k2), (4, .int dr)]) hx hb dX2_drag_41 hl (by decide) rfl (fun ls hl => ?_)
    refine lv_iload_n hx hb dX2_drag_43 rfl (lv_at hl 4 rfl) ?_
    refine lv_istore (lv' := [(7, .int k1), (6, .int 0), (5, .ref (nb 2)), (0, .ref bh), (1, .int cu), (2, .int k1), (3, .int k2), (4, .int dr)]) hx hb dX2_drag_44 hl (by decide) rfl (fun ls hl => ?_)
    exact J46 2000 (r5.1, now, r5.2, k2, dr, 0, k1) h _ _ hP hD hS _ (lv_sub hl [6, 7, 2, 1, 0] rfl)
  · have h := it_n c7 h
    rw [if_neg c7]
    refine lv_astore (lv' := [(5, .ref (nb 3)), (0, .ref bh), (1, .int cu), (2, .int k1), (3, .int k2), (4, .int dr)]) hx hb dX2_drag_38 hl (by decide) rfl (fun ls hl => ?_)
    refine lv_iconst (v := 0) hx hb dX2_drag_40 (by decide) ?_
    refine lv_istore (lv' := [(6, .int 0), (5, .ref (nb 3)), (0, .ref bh), (1, .int cu), (2, .int k1), (3, .int k2), (4, .int dr)]) hx hb dX2_drag_41 hl (by decide) rfl (fun ls hl => ?_)
    refine lv_iload_n hx hb dX2_drag_43 rfl (lv_at hl 4 rfl) ?_
    refine lv_istore (lv' := [(7, .int k1), (6, .int 0), (5, .ref (nb 3)), (0, .ref bh), (1, .int cu), (2, .int k1), (3, .int k2), (4, .int dr)]) hx hb dX2_drag_44 hl (by decide) rfl (fun ls hl => ?_)
    exact J46_1 2000 (r5.1, now, r5.2, k2, dr, 0, k1) h _ _ hP hD hS _ (lv_sub hl [6, 7, 2, 1, 0] rfl)

set_option maxHeartbeats 4000000 in
set_option maxRecDepth 100000 in
theorem xmX2_clean (l : Launch) (hfl : l.stackTraces = false) (D : va_G) (t : Nat → ClassId) (bh : Nat) (bk : Nat → Nat) (bo : BoT) (nb : Nat → Nat) (now : ShT) (sa : Nat → Nat) (sb : Nat → Nat → Nat) (sv : (Nat → ShT)) (cu : Int32) (E : Nat) (h : fX2_clean bo now sv cu = some (.inl E)) (sz : Nat) : vx_Met l yX2_clean zX2_clean ({ frames := 8, cells := 1, slots := 6, locals := 123 }) (xPc D t (gBo bh bk bo ++ (gS t (bk 0) nb now ++ (gQ t (bk 3) sa ++ (g6 t sa sb sv)))) sz [.ref bh, .int cu]) (qX (va_A (gBo bh bk bo ++ (gS t (bk 0) nb now ++ (gQ t (bk 3) sa ++ (g6 t sa sb sv)))) sz)) (xC D t (gBo bh bk bo ++ (gS t (bk 0) nb now ++ (gQ t (bk 3) sa ++ (g6 t sa sb sv)))) E (va_A (gBo bh bk bo ++ (gS t (bk 0) nb now ++ (gQ t (bk 3) sa ++ (g6 t sa sb sv)))) sz)) 1 6 (va_A (gBo bh bk bo ++ (gS t (bk 0) nb now ++ (gQ t (bk 3) sa ++ (g6 t sa sb sv)))) sz) := by
  refine met_ofX (cc := cX2_clean) (maxL := 3) (ret := some .int) (by decide) rfl (Nat.le_of_ble_eq_true rfl) ?_
  intro p e s m args below meth c A hx hb hr hml hts hown hlocks hA hP hK hD hE hS hX hT ls hl
  have htB : ∀ w ∈ BIG, w.before args s = true := fun w h => hts w (List.mem_cons_of_mem _ h)
  have hown : s.vm.findClass RX2 = some m.cls := hown
  have hl : lv_has ls 3 [(0, .ref bh), (1, .int cu)] := hl
  unfold fX2_clean at h
  refine lv_iload_n hx hb dX2_clean_0 rfl (lv_at hl 1 rfl) ?_
  rcases tb_l h with h1 | ⟨r1, h1, h⟩
  · exact call_x (E := E) (wc := ([] : va_W)) (ws := (gBo bh bk bo ++ (gS t (bk 0) nb now ++ (gQ t (bk 3) sa ++ (g6 t sa sb sv))))) (cutB (bs := [gBo bh bk bo, gS t (bk 0) nb now, gQ t (bk 3) sa, g6 t sa sb sv]) (cs := []) (cs' := []) (bs' := [gBo bh bk bo, gS t (bk 0) nb now, gQ t (bk 3) sa, g6 t sa sb sv]) [] hP hD hS hA rfl rfl rfl rfl) hS hK hT hlocks (Nat.le_of_ble_eq_true rfl) (Nat.le_of_ble_eq_true rfl) (fun hPc hDc hAB => vx_runS (As := [.int cu]) (rest := []) ⟨hx, hb, hml, hown, hts⟩ (xmX2_needCurtain l hfl D t cu E h1 _) (va_cwS 1 hts (gBS kw73 kw74 kw2 kw75) rfl rfl rfl (by decide +kernel) ⟨Nat.le_of_ble_eq_true rfl, Nat.le_of_ble_eq_true rfl⟩) (xPc_S hPc hK hDc hE hX hS hAB) rfl rfl hl.1 rfl (lv_room (Nat.le_of_ble_eq_true rfl)) dX2_clean_1 ⟨Nat.le_of_ble_eq_true rfl, Nat.le_of_ble_eq_true rfl⟩)
  refine call_v (wc := ([] : va_W)) (wc' := ([] : va_W)) (ws' := (gBo bh bk bo ++ (gS t (bk 0) nb now ++ (gQ t (bk 3) sa ++ (g6 t sa sb sv))))) (cutB (bs := [gBo bh bk bo, gS t (bk 0) nb now, gQ t (bk 3) sa, g6 t sa sb sv]) (cs := []) (cs' := []) (bs' := [gBo bh bk bo, gS t (bk 0) nb now, gQ t (bk 3) sa, g6 t sa sb sv]) [] hP hD hS hA rfl rfl rfl rfl) hS (fun hPc hDc => va_runS (As := [.int cu]) (rest := []) ⟨hx, hb, hml, hown, hts⟩ (mtX2_needCurtain l D t cu r1 h1 _) (va_cwS 1 hts (gBS kw73 kw74 kw2 kw75) rfl rfl rfl (by decide +kernel) ⟨Nat.le_of_ble_eq_true rfl, Nat.le_of_ble_eq_true rfl⟩) (sPc_S hPc hK hDc hE) rfl rfl hl.1 rfl (lv_room (Nat.le_of_ble_eq_true rfl)) dX2_clean_1 ⟨Nat.zero_le _, Nat.zero_le _⟩) (fun H locs hP hD hS => ?_)
  refine lv_aload_n hx hb dX2_clean_4 rfl (lv_at hl 0 rfl) ?_
  obtain ⟨r2, h2, h⟩ := ob h
  refine call_v (wc := (gBo bh bk bo ++ (gS t (bk 0) nb now ++ (gQ t (bk 3) sa ++ (g6 t sa sb sv))))) (wc' := (gBo bh bk r2.1 ++ (gS t (bk 0) nb now ++ (gQ t (bk 3) sa ++ (g6 t sa sb r2.2))))) (ws' := (gBo bh bk r2.1 ++ (gS t (bk 0) nb now ++ (gQ t (bk 3) sa ++ (g6 t sa sb r2.2))))) (cutB (bs := [gBo bh bk bo, gS t (bk 0) nb now, gQ t (bk 3) sa, g6 t sa sb sv]) (cs := [gBo bh bk bo, gS t (bk 0) nb now, gQ t (bk 3) sa, g6 t sa sb sv]) (cs' := [gBo bh bk r2.1, gS t (bk 0) nb now, gQ t (bk 3) sa, g6 t sa sb r2.2]) (bs' := [gBo bh bk r2.1, gS t (bk 0) nb now, gQ t (bk 3) sa, g6 t sa sb r2.2]) [0, 1, 2, 3] hP hD hS hA rfl rfl rfl rfl) hS (fun hPc hDc => va_runV (As := []) (rest := []) ⟨hx, hb, hml, hown, hts⟩ (mtX2_saveState l D t bh bk bo nb now sa sb sv r2 h2 _) (cwV 0 hts (gBV kw86 kw87 kw88 kw2 kw89) rfl rfl rfl (by decide +kernel) ⟨Nat.le_of_ble_eq_true rfl, Nat.le_of_ble_eq_true rfl⟩) (sPc_V hPc hK hDc hE (va_recv hK hP (ci := 2) (q0 := 0) rfl rfl)) rfl rfl hl.1 rfl (lv_room (Nat.le_of_ble_eq_true rfl)) dX2_clean_5 ⟨Nat.zero_le _, Nat.zero_le _⟩) (fun H locs hP hD hS => ?_)
  refine lv_aload_n hx hb dX2_clean_8 rfl (lv_at hl 0 rfl) ?_
  refine va_get (D := D) (ci := 2) (v := .ref (bk 0)) (C := RX2) (T := TX2) (N := 8) hx hb htB inlX2 hown hK hP 0 rfl rfl 0 (by decide) (htB _ kw17) (fun _ h9 => h9) rfl dX2_clean_9 ?_
  refine va_get (D := D) (ci := 1) (v := .ref (nb 1)) (C := RX1) (T := TX1) (N := 10) hx hb htB inlX1 hown hK hP 1 rfl rfl 1 (by decide) (htB _ kw166) (fun _ h9 => h9) rfl dX2_clean_12 ?_
  refine lv_iload_n hx hb dX2_clean_15 rfl (lv_at hl 1 rfl) ?_
  obtain ⟨r3, h3, h⟩ := ob h
  refine call_i (v := r3) (wc := (gA t (nb 1) 2 now.2.1)) (wc' := (gA t (nb 1) 2 now.2.1)) (ws' := (gBo bh bk r2.1 ++ (gS t (bk 0) nb now ++ (gQ t (bk 3) sa ++ (g6 t sa sb r2.2))))) (cutI (wc := (gA t (nb 1) 2 now.2.1)) (wc' := (gA t (nb 1) 2 now.2.1)) (ws' := (gBo bh bk r2.1 ++ (gS t (bk 0) nb now ++ (gQ t (bk 3) sa ++ (g6 t sa sb r2.2))))) [3] hP hD hS hA rfl rfl rfl rfl) hS (fun hPc hDc => va_runS (As := [.ref (nb 1), .int cu]) (rest := []) ⟨hx, hb, hml, hown, hts⟩ (mtX2_at l D t (nb 1) 2 now.2.1 cu r3 h3 (by decide) _) (va_cwS 2 hts (gBS kw104 kw105 kw2 kw106) rfl rfl rfl (by decide +kernel) ⟨Nat.le_of_ble_eq_true rfl, Nat.le_of_ble_eq_true rfl⟩) (sPc_S hPc hK hDc hE) rfl rfl hl.1 rfl (lv_room (Nat.le_of_ble_eq_true rfl)) dX2_clean_16 ⟨Nat.zero_le _, Nat.zero_le _⟩) (fun H locs hP hD hS => ?_)
  refine lv_istore_n (lv' := [(2, .int r3), (0, .ref bh), (1, .int cu)]) hx hb dX2_clean_19 rfl hl (by decide) rfl (fun ls hl => ?_)
  refine lv_aload_n hx hb dX2_clean_20 rfl (lv_at hl 1 rfl) ?_
  refine va_get (D := D) (ci := 2) (v := .ref (bk 0)) (C := RX2) (T := TX2) (N := 8) hx hb htB inlX2 hown hK hP 0 rfl rfl 0 (by decide) (htB _ kw17) (fun _ h9 => h9) rfl dX2_clean_21 ?_
  refine va_get (D := D) (ci := 1) (v := .ref (nb 1)) (C := RX1) (T := TX1) (N := 10) hx hb htB inlX1 hown hK hP 1 rfl rfl 1 (by decide) (htB _ kw166) (fun _ h9 => h9) rfl dX2_clean_24 ?_
  refine lv_iload_n hx hb dX2_clean_27 rfl (lv_at hl 2 rfl) ?_
  refine lv_iconst (v := 0) hx hb dX2_clean_28 (by decide) ?_
  obtain ⟨r4, h4, h⟩ := ob h
  refine call_v (wc := (gA t (nb 1) 2 now.2.1)) (wc' := (gA t (nb 1) 2 r4)) (ws' := (gBo bh bk r2.1 ++ (gS t (bk 0) nb (now.1, r4, now.2.2.1, now.2.2.2.1, now.2.2.2.2.1, now.2.2.2.2.2.1, now.2.2.2.2.2.2.1, now.2.2.2.2.2.2.2.1, now.2.2.2.2.2.2.2.2.1, now.2.2.2.2.2.2.2.2.2) ++ (gQ t (bk 3) sa ++ (g6 t sa sb r2.2))))) (cutI (wc := (gA t (nb 1) 2 now.2.1)) (wc' := (gA t (nb 1) 2 r4)) (ws' := (gBo bh bk r2.1 ++ (gS t (bk 0) nb (now.1, r4, now.2.2.1, now.2.2.2.1, now.2.2.2.2.1, now.2.2.2.2.2.1, now.2.2.2.2.2.2.1, now.2.2.2.2.2.2.2.1, now.2.2.2.2.2.2.2.2.1, now.2.2.2.2.2.2.2.2.2) ++ (gQ t (bk 3) sa ++ (g6 t sa sb r2.2))))) [3] hP hD hS hA rfl rfl rfl rfl) hS (fun hPc hDc => va_runS (As := [.ref (nb 1), .int cu, .int 0]) (rest := []) ⟨hx, hb, hml, hown, hts⟩ (mtX2_put l D t (nb 1) 2 now.2.1 cu 0 r4 h4 (by decide) _) (va_cwS 3 hts (gBS kw107 kw108 kw2 kw109) rfl rfl rfl (by decide +kernel) ⟨Nat.le_of_ble_eq_true rfl, Nat.le_of_ble_eq_true rfl⟩) (sPc_S hPc hK hDc hE) rfl rfl hl.1 rfl (lv_room (Nat.le_of_ble_eq_true rfl)) dX2_clean_29 ⟨Nat.zero_le _, Nat.zero_le _⟩) (fun H locs hP hD hS => ?_)
  refine lv_iload_n hx hb dX2_clean_32 rfl (lv_at hl 0 rfl) ?_
  cases h

set_option maxHeartbeats 4000000 in
set_option maxRecDepth 100000 in
theorem xmX2_correct (l : Launch) (hfl : l.stackTraces = false) (D : va_G) (t : Nat → ClassId) (bh : Nat) (bk : Nat → Nat) (bo : BoT) (nb : Nat → Nat) (now : ShT) (sa : Nat → Nat) (sb : Nat → Nat → Nat) (sv : (Nat → ShT)) (v : Int32) (w : Int32) (E : Nat) (h : fX2_correct bo now sv v w = some (.inl E)) (sz : Nat) : vx_Met l yX2_correct zX2_correct ({ frames := 8, cells := 1, slots := 6, locals := 123 }) (xPc D t (gBo bh bk bo ++ (gS t (bk 0) nb now ++ (gQ t (bk 3) sa ++ (g6 t sa sb sv)))) sz [.ref bh, .int v, .int w]) (qX (va_A (gBo bh bk bo ++ (gS t (bk 0) nb now ++ (gQ t (bk 3) sa ++ (g6 t sa sb sv)))) sz)) (xC D t (gBo bh bk bo ++ (gS t (bk 0) nb now ++ (gQ t (bk 3) sa ++ (g6 t sa sb sv)))) E (va_A (gBo bh bk bo ++ (gS t (bk 0) nb now ++ (gQ t (bk 3) sa ++ (g6 t sa sb sv)))) sz)) 1 6 (va_A (gBo bh bk bo ++ (gS t (bk 0) nb now ++ (gQ t (bk 3) sa ++ (g6 t sa sb sv)))) sz) := by
  refine met_ofX (cc := cX2_correct) (maxL := 4) (ret := some .int) (by decide) rfl (Nat.le_of_ble_eq_true rfl) ?_
  intro p e s m args below meth c A hx hb hr hml hts hown hlocks hA hP hK hD hE hS hX hT ls hl
  have htB : ∀ w ∈ BIG, w.before args s = true := fun w h => hts w (List.mem_cons_of_mem _ h)
  have hown : s.vm.findClass RX2 = some m.cls := hown
  have hl : lv_has ls 4 [(0, .ref bh), (1, .int v), (2, .int w)] := hl
  unfold fX2_correct at h
  refine lv_iload_n hx hb dX2_correct_0 rfl (lv_at hl 1 rfl) ?_
  rcases tb_l h with h1 | ⟨r1, h1, h⟩
  · exact call_x (E := E) (wc := ([] : va_W)) (ws := (gBo bh bk bo ++ (gS t (bk 0) nb now ++ (gQ t (bk 3) sa ++ (g6 t sa sb sv))))) (cutB (bs := [gBo bh bk bo, gS t (bk 0) nb now, gQ t (bk 3) sa, g6 t sa sb sv]) (cs := []) (cs' := []) (bs' := [gBo bh bk bo, gS t (bk 0) nb now, gQ t (bk 3) sa, g6 t sa sb sv]) [] hP hD hS hA rfl rfl rfl rfl) hS hK hT hlocks (Nat.le_of_ble_eq_true rfl) (Nat.le_of_ble_eq_true rfl) (fun hPc hDc hAB => vx_runS (As := [.int v]) (rest := []) ⟨hx, hb, hml, hown, hts⟩ (xmX2_needSpeed l hfl D t v E h1 _) (va_cwS 1 hts (gBS kw179 kw180 kw2 kw181) rfl rfl rfl (by decide +kernel) ⟨Nat.le_of_ble_eq_true rfl, Nat.le_of_ble_eq_true rfl⟩) (xPc_S hPc hK hDc hE hX hS hAB) rfl rfl hl.1 rfl (lv_room (Nat.le_of_ble_eq_true rfl)) dX2_correct_1 ⟨Nat.le_of_ble_eq_true rfl, Nat.le_of_ble_eq_true rfl⟩)
  refine call_v (wc := ([] : va_W)) (wc' := ([] : va_W)) (ws' := (gBo bh bk bo ++ (gS t (bk 0) nb now ++ (gQ t (bk 3) sa ++ (g6 t sa sb sv))))) (cutB (bs := [gBo bh bk bo, gS t (bk 0) nb now, gQ t (bk 3) sa, g6 t sa sb sv]) (cs := []) (cs' := []) (bs' := [gBo bh bk bo, gS t (bk 0) nb now, gQ t (bk 3) sa, g6 t sa sb sv]) [] hP hD hS hA rfl rfl rfl rfl) hS (fun hPc hDc => va_runS (As := [.int v]) (rest := []) ⟨hx, hb, hml, hown, hts⟩ (mtX2_needSpeed l D t v r1 h1 _) (va_cwS 1 hts (gBS kw179 kw180 kw2 kw181) rfl rfl rfl (by decide +kernel) ⟨Nat.le_of_ble_eq_true rfl, Nat.le_of_ble_eq_true rfl⟩) (sPc_S hPc hK hDc hE) rfl rfl hl.1 rfl (lv_room (Nat.le_of_ble_eq_true rfl)) dX2_correct_1 ⟨Nat.zero_le _, Nat.zero_le _⟩) (fun H locs hP hD hS => ?_)
  refine lv_iload_n hx hb dX2_correct_4 rfl (lv_at hl 2 rfl) ?_
  refine lv_bipush (v := (-50)) hx hb dX2_correct_5 (by decide) ?_
  refine lv_bipush (v := 50) hx hb dX2_correct_7 (by decide) ?_
  rcases tb_l h with h2 | ⟨r2, h2, h⟩
  · exact call_x (E := E) (wc := ([] : va_W)) (ws := (gBo bh bk bo ++ (gS t (bk 0) nb now ++ (gQ t (bk 3) sa ++ (g6 t sa sb sv))))) (cutB (bs := [gBo bh bk bo, gS t (bk 0) nb now, gQ t (bk 3) sa, g6 t sa sb sv]) (cs := []) (cs' := []) (bs' := [gBo bh bk bo, gS t (bk 0) nb now, gQ t (bk 3) sa, g6 t sa sb sv]) [] hP hD hS hA rfl rfl rfl rfl) hS hK hT hlocks (Nat.le_of_ble_eq_true rfl) (Nat.le_of_ble_eq_true rfl) (fun hPc hDc hAB => vx_runS (As := [.int w, .int (-50), .int 50]) (rest := []) ⟨hx, hb, hml, hown, hts⟩ (xmX2_needRange l hfl D t w (-50) 50 E h2 _) (va_cwS 3 hts (gBS kw81 kw82 kw2 kw83) rfl rfl rfl (by decide +kernel) ⟨Nat.le_of_ble_eq_true rfl, Nat.le_of_ble_eq_true rfl⟩) (xPc_S hPc hK hDc hE hX hS hAB) rfl rfl hl.1 rfl (lv_room (Nat.le_of_ble_eq_true rfl)) dX2_correct_9 ⟨Nat.le_of_ble_eq_true rfl, Nat.le_of_ble_eq_true rfl⟩)
  refine call_v (wc := ([] : va_W)) (wc' := ([] : va_W)) (ws' := (gBo bh bk bo ++ (gS t (bk 0) nb now ++ (gQ t (bk 3) sa ++ (g6 t sa sb sv))))) (cutB (bs := [gBo bh bk bo, gS t (bk 0) nb now, gQ t (bk 3) sa, g6 t sa sb sv]) (cs := []) (cs' := []) (bs' := [gBo bh bk bo, gS t (bk 0) nb now, gQ t (bk 3) sa, g6 t sa sb sv]) [] hP hD hS hA rfl rfl rfl rfl) hS (fun hPc hDc => va_runS (As := [.int w, .int (-50), .int 50]) (rest := []) ⟨hx, hb, hml, hown, hts⟩ (mtX2_needRange l D t w (-50) 50 r2 h2 _) (va_cwS 3 hts (gBS kw81 kw82 kw2 kw83) rfl rfl rfl (by decide +kernel) ⟨Nat.le_of_ble_eq_true rfl, Nat.le_of_ble_eq_true rfl⟩) (sPc_S hPc hK hDc hE) rfl rfl hl.1 rfl (lv_room (Nat.le_of_ble_eq_true rfl)) dX2_correct_9 ⟨Nat.zero_le _, Nat.zero_le _⟩) (fun H locs hP hD hS => ?_)
  refine lv_aload_n hx hb dX2_correct_12 rfl (lv_at hl 0 rfl) ?_
  obtain ⟨r3, h3, h⟩ := ob h
  refine call_v (wc := (gBo bh bk bo ++ (gS t (bk 0) nb now ++ (gQ t (bk 3) sa ++ (g6 t sa sb sv))))) (wc' := (gBo bh bk r3.1 ++ (gS t (bk 0) nb now ++ (gQ t (bk 3) sa ++ (g6 t sa sb r3.2))))) (ws' := (gBo bh bk r3.1 ++ (gS t (bk 0) nb now ++ (gQ t (bk 3) sa ++ (g6 t sa sb r3.2))))) (cutB (bs := [gBo bh bk bo, gS t (bk 0) nb now, gQ t (bk 3) sa, g6 t sa sb sv]) (cs := [gBo bh bk bo, gS t (bk 0) nb now, gQ t (bk 3) sa, g6 t sa sb sv]) (cs' := [gBo bh bk r3.1, gS t (bk 0) nb now, gQ t (bk 3) sa, g6 t sa sb r3.2]) (bs' := [gBo bh bk r3.1, gS t (bk 0) nb now, gQ t (bk 3) sa, g6 t sa sb r3.2]) [0, 1, 2, 3] hP hD hS hA rfl rfl rfl rfl) hS (fun hPc hDc => va_runV (As := []) (rest := []) ⟨hx, hb, hml, hown, hts⟩ (mtX2_saveState l D t bh bk bo nb now sa sb sv r3 h3 _) (cwV 0 hts (gBV kw86 kw87 kw88 kw2 kw89) rfl rfl rfl (by decide +kernel) ⟨Nat.le_of_ble_eq_true rfl, Nat.le_of_ble_eq_true rfl⟩) (sPc_V hPc hK hDc hE (va_recv hK hP (ci := 2) (q0 := 0) rfl rfl)) rfl rfl hl.1 rfl (lv_room (Nat.le_of_ble_eq_true rfl)) dX2_correct_13 ⟨Nat.zero_le _, Nat.zero_le _⟩) (fun H locs hP hD hS => ?_)
  refine lv_aload_n hx hb dX2_correct_16 rfl (lv_at hl 0 rfl) ?_
  refine va_get (D := D) (ci := 2) (v := .ref (bk 0)) (C := RX2) (T := TX2) (N := 8) hx hb htB inlX2 hown hK hP 0 rfl rfl 0 (by decide) (htB _ kw17) (fun _ h9 => h9) rfl dX2_correct_17 ?_
  refine va_get (D := D) (ci := 1) (v := .ref (nb 4)) (C := RX1) (T := TX1) (N := 10) hx hb htB inlX1 hown hK hP 1 rfl rfl 4 (by decide) (htB _ kw178) (fun _ h9 => h9) rfl dX2_correct_20 ?_
  refine lv_iload_n hx hb dX2_correct_23 rfl (lv_at hl 1 rfl) ?_
  obtain ⟨r4, h4, h⟩ := ob h
  refine call_i (v := r4) (wc := (gA t (nb 4) 6 now.2.2.2.2.1)) (wc' := (gA t (nb 4) 6 now.2.2.2.2.1)) (ws' := (gBo bh bk r3.1 ++ (gS t (bk 0) nb now ++ (gQ t (bk 3) sa ++ (g6 t sa sb r3.2))))) (cutI (wc := (gA t (nb 4) 6 now.2.2.2.2.1)) (wc' := (gA t (nb 4) 6 now.2.2.2.2.1)) (ws' := (gBo bh bk r3.1 ++ (gS t (bk 0) nb now ++ (gQ t (bk 3) sa ++ (g6 t sa sb r3.2))))) [6] hP hD hS hA rfl rfl rfl rfl) hS (fun hPc hDc => va_runS (As := [.ref (nb 4), .int v]) (rest := []) ⟨hx, hb, hml, hown, hts⟩ (mtX2_at l D t (nb 4) 6 now.2.2.2.2.1 v r4 h4 (by decide) _) (va_cwS 2 hts (gBS kw104 kw105 kw2 kw106) rfl rfl rfl (by decide +kernel) ⟨Nat.le_of_ble_eq_true rfl, Nat.le_of_ble_eq_true rfl⟩) (sPc_S hPc hK hDc hE) rfl rfl hl.1 rfl (lv_room (Nat.le_of_ble_eq_true rfl)) dX2_correct_24 ⟨Nat.zero_le _, Nat.zero_le _⟩) (fun H locs hP hD hS => ?_)
  refine lv_istore_n (lv' := [(3, .int r4), (0, .ref bh), (1, .int v), (2, .int w)]) hx hb dX2_correct_27 rfl hl (by decide) rfl (fun ls hl => ?_)
  refine lv_aload_n hx hb dX2_correct_28 rfl (lv_at hl 1 rfl) ?_
  refine va_get (D := D) (ci := 2) (v := .ref (bk 0)) (C := RX2) (T := TX2) (N := 8) hx hb htB inlX2 hown hK hP 0 rfl rfl 0 (by decide) (htB _ kw17) (fun _ h9 => h9) rfl dX2_correct_29 ?_
  refine va_get (D := D) (ci := 1) (v := .ref (nb 4)) (C := RX1) (T := TX1) (N := 10) hx hb htB inlX1 hown hK hP 1 rfl rfl 4 (by decide) (htB _ kw178) (fun _ h9 => h9) rfl dX2_correct_32 ?_
  refine lv_iload_n hx hb dX2_correct_35 rfl (lv_at hl 2 rfl) ?_
  refine lv_iload_n hx hb dX2_correct_36 rfl (lv_at hl 3 rfl) ?_
  obtain ⟨r5, h5, h⟩ := ob h
  refine call_v (wc := (gA t (nb 4) 6 now.2.2.2.2.1)) (wc' := (gA t (nb 4) 6 r5)) (ws' := (gBo bh bk r3.1 ++ (gS t (bk 0) nb (now.1, now.2.1, now.2.2.1, now.2.2.2.1, r5, now.2.2.2.2.2.1, now.2.2.2.2.2.2.1, now.2.2.2.2.2.2.2.1, now.2.2.2.2.2.2.2.2.1, now.2.2.2.2.2.2.2.2.2) ++ (gQ t (bk 3) sa ++ (g6 t sa sb r3.2))))) (cutI (wc := (gA t (nb 4) 6 now.2.2.2.2.1)) (wc' := (gA t (nb 4) 6 r5)) (ws' := (gBo bh bk r3.1 ++ (gS t (bk 0) nb (now.1, now.2.1, now.2.2.1, now.2.2.2.1, r5, now.2.2.2.2.2.1, now.2.2.2.2.2.2.1, now.2.2.2.2.2.2.2.1, now.2.2.2.2.2.2.2.2.1, now.2.2.2.2.2.2.2.2.2) ++ (gQ t (bk 3) sa ++ (g6 t sa sb r3.2))))) [6] hP hD hS hA rfl rfl rfl rfl) hS (fun hPc hDc => va_runS (As := [.ref (nb 4), .int v, .int w]) (rest := []) ⟨hx, hb, hml, hown, hts⟩ (mtX2_put l D t (nb 4) 6 now.2.2.2.2.1 v w r5 h5 (by decide) _) (va_cwS 3 hts (gBS kw107 kw108 kw2 kw109) rfl rfl rfl (by decide +kernel) ⟨Nat.le_of_ble_eq_true rfl, Nat.le_of_ble_eq_true rfl⟩) (sPc_S hPc hK hDc hE) rfl rfl hl.1 rfl (lv_room (Nat.le_of_ble_eq_true rfl)) dX2_correct_37 ⟨Nat.zero_le _, Nat.zero_le _⟩) (fun H locs hP hD hS => ?_)
  refine lv_iload_n hx hb dX2_correct_40 rfl (lv_at hl 0 rfl) ?_
  refine lv_bipush (v := 100) hx hb dX2_correct_41 (by decide) ?_
  refine lv_iadd hx hb dX2_correct_43 ?_
  cases h

set_option maxHeartbeats 4000000 in
set_option maxRecDepth 100000 in
theorem xmX2_set (l : Launch) (hfl : l.stackTraces = false) (D : va_G) (t : Nat → ClassId) (bh : Nat) (bk : Nat → Nat) (bo : BoT) (nb : Nat → Nat) (now : ShT) (sa : Nat → Nat) (sb : Nat → Nat → Nat) (sv : (Nat → ShT)) (v : Int32) (w : Int32) (E : Nat) (h : fX2_set bo now sv v w = some (.inl E)) (sz : Nat) : vx_Met l yX2_set zX2_set ({ frames := 8, cells := 1, slots := 6, locals := 123 }) (xPc D t (gBo bh bk bo ++ (gS t (bk 0) nb now ++ (gQ t (bk 3) sa ++ (g6 t sa sb sv)))) sz [.ref bh, .int v, .int w]) (qX (va_A (gBo bh bk bo ++ (gS t (bk 0) nb now ++ (gQ t (bk 3) sa ++ (g6 t sa sb sv)))) sz)) (xC D t (gBo bh bk bo ++ (gS t (bk 0) nb now ++ (gQ t (bk 3) sa ++ (g6 t sa sb sv)))) E (va_A (gBo bh bk bo ++ (gS t (bk 0) nb now ++ (gQ t (bk 3) sa ++ (g6 t sa sb sv)))) sz)) 1 6 (va_A (gBo bh bk bo ++ (gS t (bk 0) nb now ++ (gQ t (bk 3) sa ++ (g6 t sa sb sv)))) sz) := by
  refine met_ofX (cc := cX2_set) (maxL := 4) (ret := some .int) (by decide) rfl (Nat.le_of_ble_eq_true rfl) ?_
  intro p e s m args below meth c A hx hb hr hml hts hown hlocks hA hP hK hD hE hS hX hT ls hl
  have htB : ∀ w ∈ BIG, w.before args s = true := fun w h => hts w (List.mem_cons_of_mem _ h)
  have hown : s.vm.findClass RX2 = some m.cls := hown
  have hl : lv_has ls 4 [(0, .ref bh), (1, .int v), (2, .int w)] := hl
  unfold fX2_set at h
  refine lv_iload_n hx hb dX2_set_0 rfl (lv_at hl 1 rfl) ?_
  rcases tb_l h with h1 | ⟨r1, h1, h⟩
  · exact call_x (E := E) (wc := ([] : va_W)) (ws := (gBo bh bk bo ++ (gS t (bk 0) nb now ++ (gQ t (bk 3) sa ++ (g6 t sa sb sv))))) (cutB (bs := [gBo bh bk bo, gS t (bk 0) nb now, gQ t (bk 3) sa, g6 t sa sb sv]) (cs := []) (cs' := []) (bs' := [gBo bh bk bo, gS t (bk 0) nb now, gQ t (bk 3) sa, g6 t sa sb sv]) [] hP hD hS hA rfl rfl rfl rfl) hS hK hT hlocks (Nat.le_of_ble_eq_true rfl) (Nat.le_of_ble_eq_true rfl) (fun hPc hDc hAB => vx_runS (As := [.int v]) (rest := []) ⟨hx, hb, hml, hown, hts⟩ (xmX2_needSetting l hfl D t v E h1 _) (va_cwS 1 hts (gBS kw197 kw198 kw2 kw199) rfl rfl rfl (by decide +kernel) ⟨Nat.le_of_ble_eq_true rfl, Nat.le_of_ble_eq_true rfl⟩) (xPc_S hPc hK hDc hE hX hS hAB) rfl rfl hl.1 rfl (lv_room (Nat.le_of_ble_eq_true rfl)) dX2_set_1 ⟨Nat.le_of_ble_eq_true rfl, Nat.le_of_ble_eq_true rfl⟩)
  refine call_v (wc := ([] : va_W)) (wc' := ([] : va_W)) (ws' := (gBo bh bk bo ++ (gS t (bk 0) nb now ++ (gQ t (bk 3) sa ++ (g6 t sa sb sv))))) (cutB (bs := [gBo bh bk bo, gS t (bk 0) nb now, gQ t (bk 3) sa, g6 t sa sb sv]) (cs := []) (cs' := []) (bs' := [gBo bh bk bo, gS t (bk 0) nb now, gQ t (bk 3) sa, g6 t sa sb sv]) [] hP hD hS hA rfl rfl rfl rfl) hS (fun hPc hDc => va_runS (As := [.int v]) (rest := []) ⟨hx, hb, hml, hown, hts⟩ (mtX2_needSetting l D t v r1 h1 _) (va_cwS 1 hts (gBS kw197 kw198 kw2 kw199) rfl rfl rfl (by decide +kernel) ⟨Nat.le_of_ble_eq_true rfl, Nat.le_of_ble_eq_true rfl⟩) (sPc_S hPc hK hDc hE) rfl rfl hl.1 rfl (lv_room (Nat.le_of_ble_eq_true rfl)) dX2_set_1 ⟨Nat.zero_le _, Nat.zero_le _⟩) (fun H locs hP hD hS => ?_)
  refine lv_iload_n hx hb dX2_set_4 rfl (lv_at hl 2 rfl) ?_
  refine lv_iload_n hx hb dX2_set_5 rfl (lv_at hl 1 rfl) ?_
  obtain ⟨r2, h2, h⟩ := ob h
  refine call_i (v := r2) (wc := ([] : va_W)) (wc' := ([] : va_W)) (ws' := (gBo bh bk bo ++ (gS t (bk 0) nb now ++ (gQ t (bk 3) sa ++ (g6 t sa sb sv))))) (cutB (bs := [gBo bh bk bo, gS t (bk 0) nb now, gQ t (bk 3) sa, g6 t sa sb sv]) (cs := []) (cs' := []) (bs' := [gBo bh bk bo, gS t (bk 0) nb now, gQ t (bk 3) sa, g6 t sa sb sv]) [] hP hD hS hA rfl rfl rfl rfl) hS (fun hPc hDc => va_runS (As := [.int v]) (rest := [.int w]) ⟨hx, hb, hml, hown, hts⟩ (mtX2_leastValue l D t v r2 h2 _) (va_cwS 1 hts (gBS kw200 kw201 kw2 kw202) rfl rfl rfl (by decide +kernel) ⟨Nat.le_of_ble_eq_true rfl, Nat.le_of_ble_eq_true rfl⟩) (sPc_S hPc hK hDc hE) rfl rfl hl.1 rfl (lv_room (Nat.le_of_ble_eq_true rfl)) dX2_set_6 ⟨Nat.zero_le _, Nat.zero_le _⟩) (fun H locs hP hD hS => ?_)
  refine lv_iload_n hx hb dX2_set_9 rfl (lv_at hl 1 rfl) ?_
  obtain ⟨r3, h3, h⟩ := ob h
  refine call_i (v := r3) (wc := ([] : va_W)) (wc' := ([] : va_W)) (ws' := (gBo bh bk bo ++ (gS t (bk 0) nb now ++ (gQ t (bk 3) sa ++ (g6 t sa sb sv))))) (cutB (bs := [gBo bh bk bo, gS t (bk 0) nb now, gQ t (bk 3) sa, g6 t sa sb sv]) (cs := []) (cs' := []) (bs' := [gBo bh bk bo, gS t (bk 0) nb now, gQ t (bk 3) sa, g6 t sa sb sv]) [] hP hD hS hA rfl rfl rfl rfl) hS (fun hPc hDc => va_runS (As := [.int v]) (rest := [.int r2, .int w]) ⟨hx, hb, hml, hown, hts⟩ (mtX2_mostValue l D t v r3 h3 _) (va_cwS 1 hts (gBS kw203 kw204 kw2 kw205) rfl rfl rfl (by decide +kernel) ⟨Nat.le_of_ble_eq_true rfl, Nat.le_of_ble_eq_true rfl⟩) (sPc_S hPc hK hDc hE) rfl rfl hl.1 rfl (lv_room (Nat.le_of_ble_eq_true rfl)) dX2_set_10 ⟨Nat.zero_le _, Nat.zero_le _⟩) (fun H locs hP hD hS => ?_)
  rcases tb_l h with h4 | ⟨r4, h4, h⟩
  · exact call_x (E := E) (wc := ([] : va_W)) (ws := (gBo bh bk bo ++ (gS t (bk 0) nb now ++ (gQ t (bk 3) sa ++ (g6 t sa sb sv))))) (cutB (bs := [gBo bh bk bo, gS t (bk 0) nb now, gQ t (bk 3) sa, g6 t sa sb sv]) (cs := []) (cs' := []) (bs' := [gBo bh bk bo, gS t (bk 0) nb now, gQ t (bk 3) sa, g6 t sa sb sv]) [] hP hD hS hA rfl rfl rfl rfl) hS hK hT hlocks (Nat.le_of_ble_eq_true rfl) (Nat.le_of_ble_eq_true rfl) (fun hPc hDc hAB => vx_runS (As := [.int w, .int r2, .int r3]) (rest := []) ⟨hx, hb, hml, hown, hts⟩ (xmX2_needRange l hfl D t w r2 r3 E h4 _) (va_cwS 3 hts (gBS kw81 kw82 kw2 kw83) rfl rfl rfl (by decide +kernel) ⟨Nat.le_of_ble_eq_true rfl, Nat.le_of_ble_eq_true rfl⟩) (xPc_S hPc hK hDc hE hX hS hAB) rfl rfl hl.1 rfl (lv_room (Nat.le_of_ble_eq_true rfl)) dX2_set_13 ⟨Nat.le_of_ble_eq_true rfl, Nat.le_of_ble_eq_true rfl⟩)
  refine call_v (wc := ([] : va_W)) (wc' := ([] : va_W)) (ws' := (gBo bh bk bo ++ (gS t (bk 0) nb now ++ (gQ t (bk 3) sa ++ (g6 t sa sb sv))))) (cutB (bs := [gBo bh bk bo, gS t (bk 0) nb now, gQ t (bk 3) sa, g6 t sa sb sv]) (cs := []) (cs' := []) (bs' := [gBo bh bk bo, gS t (bk 0) nb now, gQ t (bk 3) sa, g6 t sa sb sv]) [] hP hD hS hA rfl rfl rfl rfl) hS (fun hPc hDc => va_runS (As := [.int w, .int r2, .int r3]) (rest := []) ⟨hx, hb, hml, hown, hts⟩ (mtX2_needRange l D t w r2 r3 r4 h4 _) (va_cwS 3 hts (gBS kw81 kw82 kw2 kw83) rfl rfl rfl (by decide +kernel) ⟨Nat.le_of_ble_eq_true rfl, Nat.le_of_ble_eq_true rfl⟩) (sPc_S hPc hK hDc hE) rfl rfl hl.1 rfl (lv_room (Nat.le_of_ble_eq_true rfl)) dX2_set_13 ⟨Nat.zero_le _, Nat.zero_le _⟩) (fun H locs hP hD hS => ?_)
  refine lv_aload_n hx hb dX2_set_16 rfl (lv_at hl 0 rfl) ?_
  obtain ⟨r5, h5, h⟩ := ob h
  refine call_v (wc := (gBo bh bk bo ++ (gS t (bk 0) nb now ++ (gQ t (bk 3) sa ++ (g6 t sa sb sv))))) (wc' := (gBo bh bk r5.1 ++ (gS t (bk 0) nb now ++ (gQ t (bk 3) sa ++ (g6 t sa sb r5.2))))) (ws' := (gBo bh bk r5.1 ++ (gS t (bk 0) nb now ++ (gQ t (bk 3) sa ++ (g6 t sa sb r5.2))))) (cutB (bs := [gBo bh bk bo, gS t (bk 0) nb now, gQ t (bk 3) sa, g6 t sa sb sv]) (cs := [gBo bh bk bo, gS t (bk 0) nb now, gQ t (bk 3) sa, g6 t sa sb sv]) (cs' := [gBo bh bk r5.1, gS t (bk 0) nb now, gQ t (bk 3) sa, g6 t sa sb r5.2]) (bs' := [gBo bh bk r5.1, gS t (bk 0) nb now, gQ t (bk 3) sa, g6 t sa sb r5.2]) [0, 1, 2, 3] hP hD hS hA rfl rfl rfl rfl) hS (fun hPc hDc => va_runV (As := []) (rest := []) ⟨hx, hb, hml, hown, hts⟩ (mtX2_saveState l D t bh bk bo nb now sa sb sv r5 h5 _) (cwV 0 hts (gBV kw86 kw87 kw88 kw2 kw89) rfl rfl rfl (by decide +kernel) ⟨Nat.le_of_ble_eq_true rfl, Nat.le_of_ble_eq_true rfl⟩) (sPc_V hPc hK hDc hE (va_recv hK hP (ci := 2) (q0 := 0) rfl rfl)) rfl rfl hl.1 rfl (lv_room (Nat.le_of_ble_eq_true rfl)) dX2_set_17 ⟨Nat.zero_le _, Nat.zero_le _⟩) (fun H locs hP hD hS => ?_)
  refine lv_aload_n hx hb dX2_set_20 rfl (lv_at hl 0 rfl) ?_
  refine va_get (D := D) (ci := 2) (v := .ref (bk 0)) (C := RX2) (T := TX2) (N := 8) hx hb htB inlX2 hown hK hP 0 rfl rfl 0 (by decide) (htB _ kw17) (fun _ h9 => h9) rfl dX2_set_21 ?_
  refine va_get (D := D) (ci := 1) (v := .ref (nb 5)) (C := RX1) (T := TX1) (N := 10) hx hb htB inlX1 hown hK hP 1 rfl rfl 5 (by decide) (htB _ kw196) (fun _ h9 => h9) rfl dX2_set_24 ?_
  refine lv_iload_n hx hb dX2_set_27 rfl (lv_at hl 1 rfl) ?_
  obtain ⟨r6, h6, h⟩ := ob h
  refine call_i (v := r6) (wc := (gA t (nb 5) 4 now.2.2.2.2.2.1)) (wc' := (gA t (nb 5) 4 now.2.2.2.2.2.1)) (ws' := (gBo bh bk r5.1 ++ (gS t (bk 0) nb now ++ (gQ t (bk 3) sa ++ (g6 t sa sb r5.2))))) (cutI (wc := (gA t (nb 5) 4 now.2.2.2.2.2.1)) (wc' := (gA t (nb 5) 4 now.2.2.2.2.2.1)) (ws' := (gBo bh bk r5.1 ++ (gS t (bk 0) nb now ++ (gQ t (bk 3) sa ++ (g6 t sa sb r5.2))))) [7] hP hD hS hA rfl rfl rfl rfl) hS (fun hPc hDc => va_runS (As := [.ref (nb 5), .int v]) (rest := []) ⟨hx, hb, hml, hown, hts⟩ (mtX2_at l D t (nb 5) 4 now.2.2.2.2.2.1 v r6 h6 (by decide) _) (va_cwS 2 hts (gBS kw104 kw105 kw2 kw106) rfl rfl rfl (by decide +kernel) ⟨Nat.le_of_ble_eq_true rfl, Nat.le_of_ble_eq_true rfl⟩) (sPc_S hPc hK hDc hE) rfl rfl hl.1 rfl (lv_room (Nat.le_of_ble_eq_true rfl)) dX2_set_28 ⟨Nat.zero_le _, Nat.zero_le _⟩) (fun H locs hP hD hS => ?_)
  refine lv_istore_n (lv' := [(3, .int r6), (0, .ref bh), (1, .int v), (2, .int w)]) hx hb dX2_set_31 rfl hl (by decide) rfl (fun ls hl => ?_)
  refine lv_aload_n hx hb dX2_set_32 rfl (lv_at hl 1 rfl) ?_
  refine va_get (D := D) (ci := 2) (v := .ref (bk 0)) (C := RX2) (T := TX2) (N := 8) hx hb htB inlX2 hown hK hP 0 rfl rfl 0 (by decide) (htB _ kw17) (fun _ h9 => h9) rfl dX2_set_33 ?_
  refine va_get (D := D) (ci := 1) (v := .ref (nb 5)) (C := RX1) (T := TX1) (N := 10) hx hb htB inlX1 hown hK hP 1 rfl rfl 5 (by decide) (htB _ kw196) (fun _ h9 => h9) rfl dX2_set_36 ?_
  refine lv_iload_n hx hb dX2_set_39 rfl (lv_at hl 2 rfl) ?_
  refine lv_iload_n hx hb dX2_set_40 rfl (lv_at hl 3 rfl) ?_
  obtain ⟨r7, h7, h⟩ := ob h
  refine call_v (wc := (gA t (nb 5) 4 now.2.2.2.2.2.1)) (wc' := (gA t (nb 5) 4 r7)) (ws' := (gBo bh bk r5.1 ++ (gS t (bk 0) nb (now.1, now.2.1, now.2.2.1, now.2.2.2.1, now.2.2.2.2.1, r7, now.2.2.2.2.2.2.1, now.2.2.2.2.2.2.2.1, now.2.2.2.2.2.2.2.2.1, now.2.2.2.2.2.2.2.2.2) ++ (gQ t (bk 3) sa ++ (g6 t sa sb r5.2))))) (cutI (wc := (gA t (nb 5) 4 now.2.2.2.2.2.1)) (wc' := (gA t (nb 5) 4 r7)) (ws' := (gBo bh bk r5.1 ++ (gS t (bk 0) nb (now.1, now.2.1, now.2.2.1, now.2.2.2.1, now.2.2.2.2.1, r7, now.2.2.2.2.2.2.1, now.2.2.2.2.2.2.2.1, now.2.2.2.2.2.2.2.2.1, now.2.2.2.2.2.2.2.2.2) ++ (gQ t (bk 3) sa ++ (g6 t sa sb r5.2))))) [7] hP hD hS hA rfl rfl rfl rfl) hS (fun hPc hDc => va_runS (As := [.ref (nb 5), .int v, .int w]) (rest := []) ⟨hx, hb, hml, hown, hts⟩ (mtX2_put l D t (nb 5) 4 now.2.2.2.2.2.1 v w r7 h7 (by decide) _) (va_cwS 3 hts (gBS kw107 kw108 kw2 kw109) rfl rfl rfl (by decide +kernel) ⟨Nat.le_of_ble_eq_true rfl, Nat.le_of_ble_eq_true rfl⟩) (sPc_S hPc hK hDc hE) rfl rfl hl.1 rfl (lv_room (Nat.le_of_ble_eq_true rfl)) dX2_set_41 ⟨Nat.zero_le _, Nat.zero_le _⟩) (fun H locs hP hD hS => ?_)
  refine lv_iload_n hx hb dX2_set_44 rfl (lv_at hl 0 rfl) ?_
  cases h

set_option maxHeartbeats 4000000 in
set_option maxRecDepth 100000 in
theorem xmX2_shoot (l : Launch) (hfl : l.stackTraces = false) (D : va_G) (t : Nat → ClassId) (bh : Nat) (bk : Nat → Nat) (bo : BoT) (nb : Nat → Nat) (now : ShT) (eb : Nat → Nat) (ex : ExT) (sa : Nat → Nat) (sb : Nat → Nat → Nat) (sv : (Nat → ShT)) (v : Int32) (w : Int32) (E : Nat) (h : fX2_shoot bo now ex sv v w = some (.inl E)) (sz : Nat) : vx_Met l yX2_shoot zX2_shoot ({ frames := 8, cells := 1, slots := 6, locals := 123 }) (xPc D t (gBo bh bk bo ++ (gS t (bk 0) nb now ++ (gE t (bk 2) eb ex ++ (gQ t (bk 3) sa ++ (g6 t sa sb sv))))) sz [.ref bh, .int v, .int w]) (qX (va_A (gBo bh bk bo ++ (gS t (bk 0) nb now ++ (gE t (bk 2) eb ex ++ (gQ t (bk 3) sa ++ (g6 t sa sb sv))))) sz)) (xC D t (gBo bh bk bo ++ (gS t (bk 0) nb now ++ (gE t (bk 2) eb ex ++ (gQ t (bk 3) sa ++ (g6 t sa sb sv))))) E (va_A (gBo bh bk bo ++ (gS t (bk 0) nb now ++ (gE t (bk 2) eb ex ++ (gQ t (bk 3) sa ++ (g6 t sa sb sv))))) sz)) 1 6 (va_A (gBo bh bk bo ++ (gS t (bk 0) nb now ++ (gE t (bk 2) eb ex ++ (gQ t (bk 3) sa ++ (g6 t sa sb sv))))) sz) := by
  refine met_ofX (cc := cX2_shoot) (maxL := 3) (ret := some .int) (by decide) rfl (Nat.le_of_ble_eq_true rfl) ?_
  intro p e s m args below meth c A hx hb hr hml hts hown hlocks hA hP hK hD hE hS hX hT ls hl
  have htB : ∀ w ∈ BIG, w.before args s = true := fun w h => hts w (List.mem_cons_of_mem _ h)
  have hown : s.vm.findClass RX2 = some m.cls := hown
  have hl : lv_has ls 3 [(0, .ref bh), (1, .int v), (2, .int w)] := hl
  unfold fX2_shoot at h
  refine lv_iload_n hx hb dX2_shoot_0 rfl (lv_at hl 1 rfl) ?_
  rcases tb_l h with h1 | ⟨r1, h1, h⟩
  · exact call_x (E := E) (wc := ([] : va_W)) (ws := (gBo bh bk bo ++ (gS t (bk 0) nb now ++ (gE t (bk 2) eb ex ++ (gQ t (bk 3) sa ++ (g6 t sa sb sv)))))) (cutB (bs := [gBo bh bk bo, gS t (bk 0) nb now, gE t (bk 2) eb ex, gQ t (bk 3) sa, g6 t sa sb sv]) (cs := []) (cs' := []) (bs' := [gBo bh bk bo, gS t (bk 0) nb now, gE t (bk 2) eb ex, gQ t (bk 3) sa, g6 t sa sb sv]) [] hP hD hS hA rfl rfl rfl rfl) hS hK hT hlocks (Nat.le_of_ble_eq_true rfl) (Nat.le_of_ble_eq_true rfl) (fun hPc hDc hAB => vx_runS (As := [.int v]) (rest := []) ⟨hx, hb, hml, hown, hts⟩ (xmX2_needSpeed l hfl D t v E h1 _) (va_cwS 1 hts (gBS kw179 kw180 kw2 kw181) rfl rfl rfl (by decide +kernel) ⟨Nat.le_of_ble_eq_true rfl, Nat.le_of_ble_eq_true rfl⟩) (xPc_S hPc hK hDc hE hX hS hAB) rfl rfl hl.1 rfl (lv_room (Nat.le_of_ble_eq_true rfl)) dX2_shoot_1 ⟨Nat.le_of_ble_eq_true rfl, Nat.le_of_ble_eq_true rfl⟩)
  refine call_v (wc := ([] : va_W)) (wc' := ([] : va_W)) (ws' := (gBo bh bk bo ++ (gS t (bk 0) nb now ++ (gE t (bk 2) eb ex ++ (gQ t (bk 3) sa ++ (g6 t sa sb sv)))))) (cutB (bs := [gBo bh bk bo, gS t (bk 0) nb now, gE t (bk 2) eb ex, gQ t (bk 3) sa, g6 t sa sb sv]) (cs := []) (cs' := []) (bs' := [gBo bh bk bo, gS t (bk 0) nb now, gE t (bk 2) eb ex, gQ t (bk 3) sa, g6 t sa sb sv]) [] hP hD hS hA rfl rfl rfl rfl) hS (fun hPc hDc => va_runS (As := [.int v]) (rest := []) ⟨hx, hb, hml, hown, hts⟩ (mtX2_needSpeed l D t v r1 h1 _) (va_cwS 1 hts (gBS kw179 kw180 kw2 kw181) rfl rfl rfl (by decide +kernel) ⟨Nat.le_of_ble_eq_true rfl, Nat.le_of_ble_eq_true rfl⟩) (sPc_S hPc hK hDc hE) rfl rfl hl.1 rfl (lv_room (Nat.le_of_ble_eq_true rfl)) dX2_shoot_1 ⟨Nat.zero_le _, Nat.zero_le _⟩) (fun H locs hP hD hS => ?_)
  refine lv_iload_n hx hb dX2_shoot_4 rfl (lv_at hl 2 rfl) ?_
  refine lv_iconst (v := 1) hx hb dX2_shoot_5 (by decide) ?_
  refine lv_bipush (v := 50) hx hb dX2_shoot_6 (by decide) ?_
  rcases tb_l h with h2 | ⟨r2, h2, h⟩
  · exact call_x (E := E) (wc := ([] : va_W)) (ws := (gBo bh bk bo ++ (gS t (bk 0) nb now ++ (gE t (bk 2) eb ex ++ (gQ t (bk 3) sa ++ (g6 t sa sb sv)))))) (cutB (bs := [gBo bh bk bo, gS t (bk 0) nb now, gE t (bk 2) eb ex, gQ t (bk 3) sa, g6 t sa sb sv]) (cs := []) (cs' := []) (bs' := [gBo bh bk bo, gS t (bk 0) nb now, gE t (bk 2) eb ex, gQ t (bk 3) sa, g6 t sa sb sv]) [] hP hD hS hA rfl rfl rfl rfl) hS hK hT hlocks (Nat.le_of_ble_eq_true rfl) (Nat.le_of_ble_eq_true rfl) (fun hPc hDc hAB => vx_runS (As := [.int w, .int 1, .int 50]) (rest := []) ⟨hx, hb, hml, hown, hts⟩ (xmX2_needRange l hfl D t w 1 50 E h2 _) (va_cwS 3 hts (gBS kw81 kw82 kw2 kw83) rfl rfl rfl (by decide +kernel) ⟨Nat.le_of_ble_eq_true rfl, Nat.le_of_ble_eq_true rfl⟩) (xPc_S hPc hK hDc hE hX hS hAB) rfl rfl hl.1 rfl (lv_room (Nat.le_of_ble_eq_true rfl)) dX2_shoot_8 ⟨Nat.le_of_ble_eq_true rfl, Nat.le_of_ble_eq_true rfl⟩)
  refine call_v (wc := ([] : va_W)) (wc' := ([] : va_W)) (ws' := (gBo bh bk bo ++ (gS t (bk 0) nb now ++ (gE t (bk 2) eb ex ++ (gQ t (bk 3) sa ++ (g6 t sa sb sv)))))) (cutB (bs := [gBo bh bk bo, gS t (bk 0) nb now, gE t (bk 2) eb ex, gQ t (bk 3) sa, g6 t sa sb sv]) (cs := []) (cs' := []) (bs' := [gBo bh bk bo, gS t (bk 0) nb now, gE t (bk 2) eb ex, gQ t (bk 3) sa, g6 t sa sb sv]) [] hP hD hS hA rfl rfl rfl rfl) hS (fun hPc hDc => va_runS (As := [.int w, .int 1, .int 50]) (rest := []) ⟨hx, hb, hml, hown, hts⟩ (mtX2_needRange l D t w 1 50 r2 h2 _) (va_cwS 3 hts (gBS kw81 kw82 kw2 kw83) rfl rfl rfl (by decide +kernel) ⟨Nat.le_of_ble_eq_true rfl, Nat.le_of_ble_eq_true rfl⟩) (sPc_S hPc hK hDc hE) rfl rfl hl.1 rfl (lv_room (Nat.le_of_ble_eq_true rfl)) dX2_shoot_8 ⟨Nat.zero_le _, Nat.zero_le _⟩) (fun H locs hP hD hS => ?_)
  refine lv_aload_n hx hb dX2_shoot_11 rfl (lv_at hl 0 rfl) ?_
  obtain ⟨r3, h3, h⟩ := ob h
  refine call_v (wc := (gBo bh bk bo ++ (gS t (bk 0) nb now ++ (gQ t (bk 3) sa ++ (g6 t sa sb sv))))) (wc' := (gBo bh bk r3.1 ++ (gS t (bk 0) nb now ++ (gQ t (bk 3) sa ++ (g6 t sa sb r3.2))))) (ws' := (gBo bh bk r3.1 ++ (gS t (bk 0) nb now ++ (gE t (bk 2) eb ex ++ (gQ t (bk 3) sa ++ (g6 t sa sb r3.2)))))) (cutB (bs := [gBo bh bk bo, gS t (bk 0) nb now, gE t (bk 2) eb ex, gQ t (bk 3) sa, g6 t sa sb sv]) (cs := [gBo bh bk bo, gS t (bk 0) nb now, gQ t (bk 3) sa, g6 t sa sb sv]) (cs' := [gBo bh bk r3.1, gS t (bk 0) nb now, gQ t (bk 3) sa, g6 t sa sb r3.2]) (bs' := [gBo bh bk r3.1, gS t (bk 0) nb now, gE t (bk 2) eb ex, gQ t (bk 3) sa, g6 t sa sb r3.2]) [0, 1, 3, 4] hP hD hS hA rfl rfl rfl rfl) hS (fun hPc hDc => va_runV (As := []) (rest := []) ⟨hx, hb, hml, hown, hts⟩ (mtX2_saveState l D t bh bk bo nb now sa sb sv r3 h3 _) (cwV 0 hts (gBV kw86 kw87 kw88 kw2 kw89) rfl rfl rfl (by decide +kernel) ⟨Nat.le_of_ble_eq_true rfl, Nat.le_of_ble_eq_true rfl⟩) (sPc_V hPc hK hDc hE (va_recv hK hP (ci := 2) (q0 := 0) rfl rfl)) rfl rfl hl.1 rfl (lv_room (Nat.le_of_ble_eq_true rfl)) dX2_shoot_12 ⟨Nat.zero_le _, Nat.zero_le _⟩) (fun H locs hP hD hS => ?_)
  refine lv_aload_n hx hb dX2_shoot_15 rfl (lv_at hl 0 rfl) ?_
  refine lv_aload_n hx hb dX2_shoot_16 rfl (lv_at hl 0 rfl) ?_
  refine va_get (D := D) (ci := 2) (v := .ref (bk 0)) (C := RX2) (T := TX2) (N := 8) hx hb htB inlX2 hown hK hP 0 rfl rfl 0 (by decide) (htB _ kw17) (fun _ h9 => h9) rfl dX2_shoot_17 ?_
  refine lv_iload_n hx hb dX2_shoot_20 rfl (lv_at hl 1 rfl) ?_
  refine lv_iload_n hx hb dX2_shoot_21 rfl (lv_at hl 2 rfl) ?_
  obtain ⟨r4, h4, h⟩ := ob h
  refine call_v (wc := (gBo bh bk r3.1 ++ (gE t (bk 2) eb ex ++ (gS t (bk 0) nb now)))) (wc' := (gBo bh bk r3.1 ++ (gE t (bk 2) eb r4.1 ++ (gS t (bk 0) nb r4.2)))) (ws' := (gBo bh bk r3.1 ++ (gS t (bk 0) nb r4.2 ++ (gE t (bk 2) eb r4.1 ++ (gQ t (bk 3) sa ++ (g6 t sa sb r3.2)))))) (cutB (bs := [gBo bh bk r3.1, gS t (bk 0) nb now, gE t (bk 2) eb ex, gQ t (bk 3) sa, g6 t sa sb r3.2]) (cs := [gBo bh bk r3.1, gE t (bk 2) eb ex, gS t (bk 0) nb now]) (cs' := [gBo bh bk r3.1, gE t (bk 2) eb r4.1, gS t (bk 0) nb r4.2]) (bs' := [gBo bh bk r3.1, gS t (bk 0) nb r4.2, gE t (bk 2) eb r4.1, gQ t (bk 3) sa, g6 t sa sb r3.2]) [0, 2, 1] hP hD hS hA rfl rfl rfl rfl) hS (fun hPc hDc => va_runV (As := [.ref (bk 0), .int v, .int w]) (rest := []) ⟨hx, hb, hml, hown, hts⟩ (mtX2_fire l D t bh bk r3.1 eb ex (bk 0) nb now v w r4 h4 _) (cwV 3 hts (gBV kw220 kw221 kw222 kw2 kw223) rfl rfl rfl (by decide +kernel) ⟨Nat.le_of_ble_eq_true rfl, Nat.le_of_ble_eq_true rfl⟩) (sPc_V hPc hK hDc hE (va_recv hK hP (ci := 2) (q0 := 0) rfl rfl)) rfl rfl hl.1 rfl (lv_room (Nat.le_of_ble_eq_true rfl)) dX2_shoot_22 ⟨Nat.zero_le _, Nat.zero_le _⟩) (fun H locs hP hD hS => ?_)
  refine lv_aload_n hx hb dX2_shoot_25 rfl (lv_at hl 0 rfl) ?_
  refine va_get (D := D) (ci := 2) (v := .ref (bk 2)) (C := RX2) (T := TX2) (N := 8) hx hb htB inlX2 hown hK hP 0 rfl rfl 2 (by decide) (htB _ kw22) (fun _ h9 => h9) rfl dX2_shoot_26 ?_
  obtain ⟨r5, h5, h⟩ := ob h
  refine call_i (v := r5) (wc := (gE t (bk 2) eb r4.1)) (wc' := (gE t (bk 2) eb r4.1)) (ws' := (gBo bh bk r3.1 ++ (gS t (bk 0) nb r4.2 ++ (gE t (bk 2) eb r4.1 ++ (gQ t (bk 3) sa ++ (g6 t sa sb r3.2)))))) (cutB (bs := [gBo bh bk r3.1, gS t (bk 0) nb r4.2, gE t (bk 2) eb r4.1, gQ t (bk 3) sa, g6 t sa sb r3.2]) (cs := [gE t (bk 2) eb r4.1]) (cs' := [gE t (bk 2) eb r4.1]) (bs' := [gBo bh bk r3.1, gS t (bk 0) nb r4.2, gE t (bk 2) eb r4.1, gQ t (bk 3) sa, g6 t sa sb r3.2]) [2] hP hD hS hA rfl rfl rfl rfl) hS (fun hPc hDc => va_runV (As := []) (rest := []) ⟨hx, hb, hml, hown, hts⟩ (mtX0_spread l D t (bk 2) eb r4.1 r5 h5 _) (cwV 0 hts (gBV kw282 kw279 kw280 kw21 kw281) rfl rfl rfl (by decide +kernel) ⟨Nat.le_of_ble_eq_true rfl, Nat.le_of_ble_eq_true rfl⟩) (sPc_V hPc hK hDc hE (va_recv hK hP (ci := 0) (q0 := 9) rfl rfl)) rfl rfl hl.1 rfl (lv_room (Nat.le_of_ble_eq_true rfl)) dX2_shoot_29 ⟨Nat.zero_le _, Nat.zero_le _⟩) (fun H locs hP hD hS => ?_)
  cases h

theorem dX2_append_20 : decode cX2_append 20 = .ok (.dup, 1) := by decide +kernel
theorem dX2_append_21 : decode cX2_append 21 = .ok (.ldc 102, 2) := by decide +kernel
theorem dX2_append_23 : decode cX2_append 23 = .ok (.invokespecial 104, 3) := by decide +kernel
theorem dX2_append_26 : decode cX2_append 26 = .ok (.athrow, 1) := by decide +kernel
set_option maxHeartbeats 4000000 in
set_option maxRecDepth 100000 in
theorem xmX2_append (l : Launch) (hfl : l.stackTraces = false) (D : va_G) (t : Nat → ClassId) (bh : Nat) (bk : Nat → Nat) (bo : BoT) (buf : (Nat → Int32)) (v : Int32) (E : Nat) (h : fX2_append bo buf v = some (.inl E)) (sz : Nat) : vx_Met l yX2_append zX2_append ({ frames := 7, cells := 1, slots := 6, locals := 104 }) (xPc D t (gBo bh bk bo ++ (gA t (bk 4) 60 buf)) sz [.ref bh, .int v]) (qX (va_A (gBo bh bk bo ++ (gA t (bk 4) 60 buf)) sz)) (xC D t (gBo bh bk bo ++ (gA t (bk 4) 60 buf)) E (va_A (gBo bh bk bo ++ (gA t (bk 4) 60 buf)) sz)) 1 6 (va_A (gBo bh bk bo ++ (gA t (bk 4) 60 buf)) sz) := by
  refine met_ofX (cc := cX2_append) (maxL := 2) (ret := some .int) (by decide) rfl (Nat.le_of_ble_eq_true rfl) ?_
  intro p e s m args below meth c A hx hb hr hml hts hown hlocks hA hP hK hD hE hS hX hT ls hl
  have htB : ∀ w ∈ BIG, w.before args s = true := fun w h => hts w (List.mem_cons_of_mem _ h)
  have hown : s.vm.findClass RX2 = some m.cls := hown
  have hl : lv_has ls 2 [(0, .ref bh), (1, .int v)] := hl
  unfold fX2_append at h
  refine lv_iload_n hx hb dX2_append_0 rfl (lv_at hl 1 rfl) ?_
  refine lv_bipush (v := 33) hx hb dX2_append_1 (by decide) ?_
  refine lv_bipush (v := 126) hx hb dX2_append_3 (by decide) ?_
  rcases tb_l h with h1 | ⟨r1, h1, h⟩
  · exact call_x (E := E) (wc := ([] : va_W)) (ws := (gBo bh bk bo ++ (gA t (bk 4) 60 buf))) (cutB (bs := [gBo bh bk bo, gA t (bk 4) 60 buf]) (cs := []) (cs' := []) (bs' := [gBo bh bk bo, gA t (bk 4) 60 buf]) [] hP hD hS hA rfl rfl rfl rfl) hS hK hT hlocks (Nat.le_of_ble_eq_true rfl) (Nat.le_of_ble_eq_true rfl) (fun hPc hDc hAB => vx_runS (As := [.int v, .int 33, .int 126]) (rest := []) ⟨hx, hb, hml, hown, hts⟩ (xmX2_needRange l hfl D t v 33 126 E h1 _) (va_cwS 3 hts (gBS kw81 kw82 kw2 kw83) rfl rfl rfl (by decide +kernel) ⟨Nat.le_of_ble_eq_true rfl, Nat.le_of_ble_eq_true rfl⟩) (xPc_S hPc hK hDc hE hX hS hAB) rfl rfl hl.1 rfl (lv_room (Nat.le_of_ble_eq_true rfl)) dX2_append_5 ⟨Nat.le_of_ble_eq_true rfl, Nat.le_of_ble_eq_true rfl⟩)
  refine call_v (wc := ([] : va_W)) (wc' := ([] : va_W)) (ws' := (gBo bh bk bo ++ (gA t (bk 4) 60 buf))) (cutB (bs := [gBo bh bk bo, gA t (bk 4) 60 buf]) (cs := []) (cs' := []) (bs' := [gBo bh bk bo, gA t (bk 4) 60 buf]) [] hP hD hS hA rfl rfl rfl rfl) hS (fun hPc hDc => va_runS (As := [.int v, .int 33, .int 126]) (rest := []) ⟨hx, hb, hml, hown, hts⟩ (mtX2_needRange l D t v 33 126 r1 h1 _) (va_cwS 3 hts (gBS kw81 kw82 kw2 kw83) rfl rfl rfl (by decide +kernel) ⟨Nat.le_of_ble_eq_true rfl, Nat.le_of_ble_eq_true rfl⟩) (sPc_S hPc hK hDc hE) rfl rfl hl.1 rfl (lv_room (Nat.le_of_ble_eq_true rfl)) dX2_append_5 ⟨Nat.zero_le _, Nat.zero_le _⟩) (fun H locs hP hD hS => ?_)
  refine lv_aload_n hx hb dX2_append_8 rfl (lv_at hl 0 rfl) ?_
  refine va_get (D := D) (ci := 2) (v := .int bo.2.2) (C := RX2) (T := TX2) (N := 8) hx hb htB inlX2 hown hK hP 0 rfl rfl 7 (by decide) (htB _ kw28) (fun _ h9 => h9) rfl dX2_append_9 ?_
  refine lv_bipush (v := 60) hx hb dX2_append_12 (by decide) ?_
  refine lv_icmp_lt (tgt := 27) hx hb dX2_append_14 (by decide) (fun c2 => ?_) (fun c2 => ?_)
  · have h := it_p c2 h
    refine lv_aload_n hx hb dX2_append_27 rfl (lv_at hl 0 rfl) ?_
    refine va_get (D := D) (ci := 2) (v := .ref (bk 4)) (C := RX2) (T := TX2) (N := 8) hx hb htB inlX2 hown hK hP 0 rfl rfl 6 (by decide) (htB _ kw27) (fun _ h9 => h9) rfl dX2_append_28 ?_
    refine lv_aload_n hx hb dX2_append_31 rfl (lv_at hl 0 rfl) ?_
    refine va_get (D := D) (ci := 2) (v := .int bo.2.2) (C := RX2) (T := TX2) (N := 8) hx hb htB inlX2 hown hK hP 0 rfl rfl 7 (by decide) (htB _ kw28) (fun _ h9 => h9) rfl dX2_append_32 ?_
    refine lv_iload_n hx hb dX2_append_35 rfl (lv_at hl 1 rfl) ?_
    obtain ⟨r3, h3, h⟩ := ob h
    refine call_v (wc := (gA t (bk 4) 60 buf)) (wc' := (gA t (bk 4) 60 r3)) (ws' := (gBo bh bk bo ++ (gA t (bk 4) 60 r3))) (cutB (bs := [gBo bh bk bo, gA t (bk 4) 60 buf]) (cs := [gA t (bk 4) 60 buf]) (cs' := [gA t (bk 4) 60 r3]) (bs' := [gBo bh bk bo, gA t (bk 4) 60 r3]) [1] hP hD hS hA rfl rfl rfl rfl) hS (fun hPc hDc => va_runS (As := [.ref (bk 4), .int bo.2.2, .int v]) (rest := []) ⟨hx, hb, hml, hown, hts⟩ (mtX2_put l D t (bk 4) 60 buf bo.2.2 v r3 h3 (by decide) _) (va_cwS 3 hts (gBS kw107 kw108 kw2 kw109) rfl rfl rfl (by decide +kernel) ⟨Nat.le_of_ble_eq_true rfl, Nat.le_of_ble_eq_true rfl⟩) (sPc_S hPc hK hDc hE) rfl rfl hl.1 rfl (lv_room (Nat.le_of_ble_eq_true rfl)) dX2_append_36 ⟨Nat.zero_le _, Nat.zero_le _⟩) (fun H locs hP hD hS => ?_)
    refine lv_aload_n hx hb dX2_append_39 rfl (lv_at hl 0 rfl) ?_
    refine lv_dup hx hb dX2_append_40 rfl ?_
    refine va_get (D := D) (ci := 2) (v := .int bo.2.2) (C := RX2) (T := TX2) (N := 8) hx hb htB inlX2 hown hK hP 0 rfl rfl 7 (by decide) (htB _ kw28) (fun _ h9 => h9) rfl dX2_append_41 ?_
    refine lv_iconst (v := 1) hx hb dX2_append_44 (by decide) ?_
    refine lv_iadd hx hb dX2_append_45 ?_
    refine va_put (D := D) (ci := 2) (v := .int (bo.2.2 + 1)) (ty := .int) (C := RX2) (T := TX2) (N := 8) hx hb htB inlX2 tyX2 tyX2_ok nmX2 hown hK hP hD hS 0 rfl rfl 7 (by decide) (htB _ kw28) (fun _ h9 => h9) rfl (by decide +kernel) rfl rfl (Nat.le_of_ble_eq_true rfl) dX2_append_46 (fun H locs hP hD hS => ?_)
    have hP : va_P D vwCl (gBo bh bk (bo.1, bo.2.1, (bo.2.2 + 1)) ++ (gA t (bk 4) 60 r3)) H := hP
    have hD : va_D A (gBo bh bk (bo.1, bo.2.1, (bo.2.2 + 1)) ++ (gA t (bk 4) 60 r3)) := hD
    refine lv_aload_n hx hb dX2_append_49 rfl (lv_at hl 0 rfl) ?_
    refine va_get (D := D) (ci := 2) (v := .int (bo.2.2 + 1)) (C := RX2) (T := TX2) (N := 8) hx hb htB inlX2 hown hK hP 0 rfl rfl 7 (by decide) (htB _ kw28) (fun _ h9 => h9) rfl dX2_append_50 ?_
    cases h
  · have h := it_n c2 h
    obtain rfl : 2 = E := Sum.inl.inj (Option.some.inj h)
    obtain ⟨sa9, hsa⟩ := hX.2.1.1
    exact vx_throwS hx hb hfl (own := RX2) (cls := xname 2) (text := "the buffer is full") (names := xnames) hown (by decide +kernel) (by decide +kernel) (htB _ kw326) (htB _ kw327) hsa (xhat2 htB hX.2.2.2.2) xgood2 hX.1.1 hX.1.2 hS (hl.1.trans hml.symm) dX2_append_17 dX2_append_20 dX2_append_21 dX2_append_23 dX2_append_26 (fun x hx => hT x hx _) (Nat.le_of_ble_eq_true rfl) (Nat.le_of_ble_eq_true rfl) (Nat.le_of_ble_eq_true rfl) (Nat.le_of_ble_eq_true rfl) hlocks (xthrown hP hK hD hS) hS.2.2 (Nat.le_of_ble_eq_true rfl) (Nat.le_of_ble_eq_true rfl)

theorem dX2_play_10 : decode cX2_play 10 = .ok (.dup, 1) := by decide +kernel
theorem dX2_play_11 : decode cX2_play 11 = .ok (.ldc 117, 2) := by decide +kernel
theorem dX2_play_13 : decode cX2_play 13 = .ok (.invokespecial 119, 3) := by decide +kernel
theorem dX2_play_16 : decode cX2_play 16 = .ok (.athrow, 1) := by decide +kernel
set_option maxHeartbeats 4000000 in
set_option maxRecDepth 100000 in
theorem xmX2_play (l : Launch) (hfl : l.stackTraces = false) (D : va_G) (t : Nat → ClassId) (bh : Nat) (bk : Nat → Nat) (bo : BoT) (nb : Nat → Nat) (now : ShT) (eb : Nat → Nat) (ex : ExT) (sa : Nat → Nat) (sb : Nat → Nat → Nat) (sv : (Nat → ShT)) (buf : (Nat → Int32)) (E : Nat) (h : fX2_play bo now ex sv buf = some (.inl E)) (sz : Nat) : vx_Met l yX2_play zX2_play ({ frames := 6, cells := 1, slots := 6, locals := 141 }) (xPc D t (gBo bh bk bo ++ (gS t (bk 0) nb now ++ (gE t (bk 2) eb ex ++ (gQ t (bk 3) sa ++ (g6 t sa sb sv ++ (gA t (bk 4) 60 buf)))))) sz [.ref bh]) (qX (va_A (gBo bh bk bo ++ (gS t (bk 0) nb now ++ (gE t (bk 2) eb ex ++ (gQ t (bk 3) sa ++ (g6 t sa sb sv ++ (gA t (bk 4) 60 buf)))))) sz)) (xC D t (gBo bh bk bo ++ (gS t (bk 0) nb now ++ (gE t (bk 2) eb ex ++ (gQ t (bk 3) sa ++ (g6 t sa sb sv ++ (gA t (bk 4) 60 buf)))))) E (va_A (gBo bh bk bo ++ (gS t (bk 0) nb now ++ (gE t (bk 2) eb ex ++ (gQ t (bk 3) sa ++ (g6 t sa sb sv ++ (gA t (bk 4) 60 buf)))))) sz)) 1 6 (va_A (gBo bh bk bo ++ (gS t (bk 0) nb now ++ (gE t (bk 2) eb ex ++ (gQ t (bk 3) sa ++ (g6 t sa sb sv ++ (gA t (bk 4) 60 buf)))))) sz) := by
  refine met_ofX (cc := cX2_play) (maxL := 4) (ret := some .int) (by decide) rfl (Nat.le_of_ble_eq_true rfl) ?_
  intro p e s m args below meth c A hx hb hr hml hts hown hlocks hA hP hK hD hE hS hX hT ls hl
  have htB : ∀ w ∈ BIG, w.before args s = true := fun w h => hts w (List.mem_cons_of_mem _ h)
  have hown : s.vm.findClass RX2 = some m.cls := hown
  have hl : lv_has ls 4 [(0, .ref bh)] := hl
  unfold fX2_play at h
  have J27 : ∀ (fu27 : Nat) (v27 : BoT × ShT × ExT × (Nat → ShT) × Int32 × Int32 × Int32), lp (fX2_play_l27 buf) fu27 v27 = some (.inl E) → ∀ (H : Heap) (locs : List Loc), va_P D vwCl (gBo bh bk v27.1 ++ (gS t (bk 0) nb v27.2.1 ++ (gE t (bk 2) eb v27.2.2.1 ++ (gQ t (bk 3) sa ++ (g6 t sa sb v27.2.2.2.1 ++ (gA t (bk 4) 60 buf)))))) H → va_D A (gBo bh bk v27.1 ++ (gS t (bk 0) nb v27.2.1 ++ (gE t (bk 2) eb v27.2.2.1 ++ (gQ t (bk 3) sa ++ (g6 t sa sb v27.2.2.2.1 ++ (gA t (bk 4) 60 buf)))))) → va_S A s.heap H locs → ∀ ls : Array Slot, lv_has ls 4 [(0, .ref bh), (1, .int v27.2.2.2.2.1), (2, .int v27.2.2.2.2.2.1), (3, .int v27.2.2.2.2.2.2)] → W p l e ({ frames := 6, cells := 1, slots := 6, locals := 141 }) s m args below meth c H locs 0 0 (vx_MQ below (qX A) (xC D t (gBo bh bk bo ++ (gS t (bk 0) nb now ++ (gE t (bk 2) eb ex ++ (gQ t (bk 3) sa ++ (g6 t sa sb sv ++ (gA t (bk 4) 60 buf)))))) E A) args s 1 6 A) (F0 m 27 ls []) := by
    intro fu27
    induction fu27 with
    | zero => intro v27 h; cases h
    | succ fu27 ih27 =>
      intro v27 h H locs hP hD hS ls hl
      have h : fX2_play_l27 buf (lp (fX2_play_l27 buf) fu27) v27 = some (.inl E) := h
      unfold fX2_play_l27 at h
      have J56 : ∀ v56 : BoT × ShT × ExT × (Nat → ShT) × Int32 × Int32 × Int32, fX2_play_j56 buf (lp (fX2_play_l27 buf) fu27) v56 = some (.inl E) → ∀ (H : Heap) (locs : List Loc), va_P D vwCl (gBo bh bk v56.1 ++ (gS t (bk 0) nb v56.2.1 ++ (gE t (bk 2) eb v56.2.2.1 ++ (gQ t (bk 3) sa ++ (g6 t sa sb v56.2.2.2.1 ++ (gA t (bk 4) 60 buf)))))) H → va_D A (gBo bh bk v56.1 ++ (gS t (bk 0) nb v56.2.1 ++ (gE t (bk 2) eb v56.2.2.1 ++ (gQ t (bk 3) sa ++ (g6 t sa sb v56.2.2.2.1 ++ (gA t (bk 4) 60 buf)))))) → va_S A s.heap H locs → ∀ ls : Array Slot, lv_has ls 4 [(0, .ref bh), (1, .int v56.2.2.2.2.1), (2, .int v56.2.2.2.2.2.1), (3, .int v56.2.2.2.2.2.2)] → W p l e ({ frames := 6, cells := 1, slots := 6, locals := 141 }) s m args below meth c H locs 0 0 (vx_MQ below (qX A) (xC D t (gBo bh bk bo ++ (gS t (bk 0) nb now ++ (gE t (bk 2) eb ex ++ (gQ t (bk 3) sa ++ (g6 t sa sb sv ++ (gA t (bk 4) 60 buf)))))) E A) args s 1 6 A) (F0 m 56 ls []) := by
        intro v56 h H locs hP hD hS ls hl
        unfold fX2_play_j56 at h
        refine lv_iload_n hx hb dX2_play_56 rfl (lv_at hl 1 rfl) ?_
        refine lv_aload_n hx hb dX2_play_57 rfl (lv_at hl 0 rfl) ?_
        refine lv_iload_n hx hb dX2_play_58 rfl (lv_at hl 2 rfl) ?_
        refine lv_iload_n hx hb dX2_play_59 rfl (lv_at hl 3 rfl) ?_
        obtain ⟨r8, h8, h⟩ := ob h
        refine call_i (v := r8.1) (wc := (gBo bh bk v56.1 ++ (gS t (bk 0) nb v56.2.1 ++ (gE t (bk 2) eb v56.2.2.1 ++ (gA t (bk 4) 60 buf))))) (wc' := (gBo bh bk v56.1 ++ (gS t (bk 0) nb r8.2.1 ++ (gE t (bk 2) eb r8.2.2 ++ (gA t (bk 4) 60 buf))))) (ws' := (gBo bh bk v56.1 ++ (gS t (bk 0) nb r8.2.1 ++ (gE t (bk 2) eb r8.2.2 ++ (gQ t (bk 3) sa ++ (g6 t sa sb v56.2.2.2.1 ++ (gA t (bk 4) 60 buf))))))) (cutB (bs := [gBo bh bk v56.1, gS t (bk 0) nb v56.2.1, gE t (bk 2) eb v56.2.2.1, gQ t (bk 3) sa, g6 t sa sb v56.2.2.2.1, gA t (bk 4) 60 buf]) (cs := [gBo bh bk v56.1, gS t (bk 0) nb v56.2.1, gE t (bk 2) eb v56.2.2.1, gA t (bk 4) 60 buf]) (cs' := [gBo bh bk v56.1, gS t (bk 0) nb r8.2.1, gE t (bk 2) eb r8.2.2, gA t (bk 4) 60 buf]) (bs' := [gBo bh bk v56.1, gS t (bk 0) nb r8.2.1, gE t (bk 2) eb r8.2.2, gQ t (bk 3) sa, g6 t sa sb v56.2.2.2.1, gA t (bk 4) 60 buf]) [0, 1, 2, 5] hP hD hS hA rfl rfl rfl rfl) hS (fun hPc hDc => va_runV (As := [.int v56.2.2.2.2.2.1, .int v56.2.2.2.2.2.2]) (rest := [.int v56.2.2.2.2.1]) ⟨hx, hb, hml, hown, hts⟩ (mtX2_playPart l D t bh bk v56.1 nb v56.2.1 eb v56.2.2.1 buf v56.2.2.2.2.2.1 v56.2.2.2.2.2.2 r8 h8 _) (cwV 2 hts (gBV kw399 kw400 kw401 kw2 kw402) rfl rfl rfl (by decide +kernel) ⟨Nat.le_of_ble_eq_true rfl, Nat.le_of_ble_eq_true rfl⟩) (sPc_V hPc hK hDc hE (va_recv hK hP (ci := 2) (q0 := 0) rfl rfl)) rfl rfl hl.1 rfl (lv_room (Nat.le_of_ble_eq_true rfl)) dX2_play_60 ⟨Nat.zero_le _, Nat.zero_le _⟩) (fun H locs hP hD hS => ?_)
        refine lv_iadd hx hb dX2_play_63 ?_
        refine lv_istore_n (lv' := [(1, .int (v56.2.2.2.2.1 + r8.1)), (0, .ref bh), (2, .int v56.2.2.2.2.2.1), (3, .int v56.2.2.2.2.2.2)]) hx hb dX2_play_64 rfl hl (by decide) rfl (fun ls hl => ?_)
        refine lv_iload_n hx hb dX2_play_65 rfl (lv_at hl 3 rfl) ?_
        refine lv_iconst (v := 1) hx hb dX2_play_66 (by decide) ?_
        refine lv_iadd hx hb dX2_play_67 ?_
        refine lv_istore_n (lv' := [(2, .int (v56.2.2.2.2.2.2 + 1)), (1, .int (v56.2.2.2.2.1 + r8.1)), (0, .ref bh), (3, .int v56.2.2.2.2.2.2)]) hx hb dX2_play_68 rfl hl (by decide) rfl (fun ls hl => ?_)
        refine lv_iinc (v := v56.2.2.2.2.2.2 + 1) (lv' := [(3, .int (v56.2.2.2.2.2.2 + 1)), (2, .int (v56.2.2.2.2.2.2 + 1)), (1, .int (v56.2.2.2.2.1 + r8.1)), (0, .ref bh)]) hx hb dX2_play_69 hl (k := 3) rfl rfl (by decide) rfl (fun ls hl => ?_)
        refine lv_goto (tgt := 27) hx hb dX2_play_72 (by decide) ?_
        exact ih27 (v56.1, r8.2.1, r8.2.2, v56.2.2.2.1, v56.2.2.2.2.1 + r8.1, v56.2.2.2.2.2.2 + 1, v56.2.2.2.2.2.2 + 1) h _ _ hP hD hS _ (lv_sub hl [3, 2, 1, 0] rfl)
      refine lv_iload_n hx hb dX2_play_27 rfl (lv_at hl 3 rfl) ?_
      refine lv_aload_n hx hb dX2_play_28 rfl (lv_at hl 0 rfl) ?_
      refine va_get (D := D) (ci := 2) (v := .int v27.1.2.2) (C := RX2) (T := TX2) (N := 8) hx hb htB inlX2 hown hK hP 0 rfl rfl 7 (by decide) (htB _ kw28) (fun _ h9 => h9) rfl dX2_play_29 ?_
      refine lv_icmp_gt (tgt := 75) hx hb dX2_play_32 (by decide) (fun c4 => ?_) (fun c4 => ?_)
      · have h := it_p c4 h
        refine lv_aload_n hx hb dX2_play_75 rfl (lv_at hl 0 rfl) ?_
        refine lv_iconst (v := 0) hx hb dX2_play_76 (by decide) ?_
        refine va_put (D := D) (ci := 2) (v := .int 0) (ty := .int) (C := RX2) (T := TX2) (N := 8) hx hb htB inlX2 tyX2 tyX2_ok nmX2 hown hK hP hD hS 0 rfl rfl 7 (by decide) (htB _ kw28) (fun _ h9 => h9) rfl (by decide +kernel) rfl rfl (Nat.le_of_ble_eq_true rfl) dX2_play_77 (fun H locs hP hD hS => ?_)
        have hP : va_P D vwCl (gBo bh bk (v27.1.1, v27.1.2.1, 0) ++ (gS t (bk 0) nb v27.2.1 ++ (gE t (bk 2) eb v27.2.2.1 ++ (gQ t (bk 3) sa ++ (g6 t sa sb v27.2.2.2.1 ++ (gA t (bk 4) 60 buf)))))) H := hP
        have hD : va_D A (gBo bh bk (v27.1.1, v27.1.2.1, 0) ++ (gS t (bk 0) nb v27.2.1 ++ (gE t (bk 2) eb v27.2.2.1 ++ (gQ t (bk 3) sa ++ (g6 t sa sb v27.2.2.2.1 ++ (gA t (bk 4) 60 buf)))))) := hD
        refine lv_iload_n hx hb dX2_play_80 rfl (lv_at hl 1 rfl) ?_
        cases h
      · have h := it_n c4 h
        refine lv_iload_n hx hb dX2_play_35 rfl (lv_at hl 3 rfl) ?_
        refine lv_aload_n hx hb dX2_play_36 rfl (lv_at hl 0 rfl) ?_
        refine va_get (D := D) (ci := 2) (v := .int v27.1.2.2) (C := RX2) (T := TX2) (N := 8) hx hb htB inlX2 hown hK hP 0 rfl rfl 7 (by decide) (htB _ kw28) (fun _ h9 => h9) rfl dX2_play_37 ?_
        refine lv_icmp_eq (tgt := 56) hx hb dX2_play_40 (by decide) (fun c5 => ?_) (fun c5 => ?_)
        · have h := it_p c5 h
          exact J56 (v27.1, v27.2.1, v27.2.2.1, v27.2.2.2.1, v27.2.2.2.2.1, v27.2.2.2.2.2.1, v27.2.2.2.2.2.2) h _ _ hP hD hS _ (lv_sub hl [0, 1, 2, 3] rfl)
        · have h := it_n c5 h
          refine lv_aload_n hx hb dX2_play_43 rfl (lv_at hl 0 rfl) ?_
          refine va_get (D := D) (ci := 2) (v := .ref (bk 4)) (C := RX2) (T := TX2) (N := 8) hx hb htB inlX2 hown hK hP 0 rfl rfl 6 (by decide) (htB _ kw27) (fun _ h9 => h9) rfl dX2_play_44 ?_
          refine lv_iload_n hx hb dX2_play_47 rfl (lv_at hl 3 rfl) ?_
          obtain ⟨r6, h6, h⟩ := ob h
          refine call_i (v := r6) (wc := (gA t (bk 4) 60 buf)) (wc' := (gA t (bk 4) 60 buf)) (ws' := (gBo bh bk v27.1 ++ (gS t (bk 0) nb v27.2.1 ++ (gE t (bk 2) eb v27.2.2.1 ++ (gQ t (bk 3) sa ++ (g6 t sa sb v27.2.2.2.1 ++ (gA t (bk 4) 60 buf))))))) (cutB (bs := [gBo bh bk v27.1, gS t (bk 0) nb v27.2.1, gE t (bk 2) eb v27.2.2.1, gQ t (bk 3) sa, g6 t sa sb v27.2.2.2.1, gA t (bk 4) 60 buf]) (cs := [gA t (bk 4) 60 buf]) (cs' := [gA t (bk 4) 60 buf]) (bs' := [gBo bh bk v27.1, gS t (bk 0) nb v27.2.1, gE t (bk 2) eb v27.2.2.1, gQ t (bk 3) sa, g6 t sa sb v27.2.2.2.1, gA t (bk 4) 60 buf]) [5] hP hD hS hA rfl rfl rfl rfl) hS (fun hPc hDc => va_runS (As := [.ref (bk 4), .int v27.2.2.2.2.2.2]) (rest := []) ⟨hx, hb, hml, hown, hts⟩ (mtX2_at l D t (bk 4) 60 buf v27.2.2.2.2.2.2 r6 h6 (by decide) _) (va_cwS 2 hts (gBS kw104 kw105 kw2 kw106) rfl rfl rfl (by decide +kernel) ⟨Nat.le_of_ble_eq_true rfl, Nat.le_of_ble_eq_true rfl⟩) (sPc_S hPc hK hDc hE) rfl rfl hl.1 rfl (lv_room (Nat.le_of_ble_eq_true rfl)) dX2_play_48 ⟨Nat.zero_le _, Nat.zero_le _⟩) (fun H locs hP hD hS => ?_)
          refine lv_bipush (v := 59) hx hb dX2_play_51 (by decide) ?_
          refine lv_icmp_ne (tgt := 69) hx hb dX2_play_53 (by decide) (fun c7 => ?_) (fun c7 => ?_)
          · have h := it_n c7 h
            refine lv_iinc (v := v27.2.2.2.2.2.2 + 1) (lv' := [(3, .int (v27.2.2.2.2.2.2 + 1)), (0, .ref bh), (1, .int v27.2.2.2.2.1), (2, .int v27.2.2.2.2.2.1)]) hx hb dX2_play_69 hl (k := 3) rfl rfl (by decide) rfl (fun ls hl => ?_)
            refine lv_goto (tgt := 27) hx hb dX2_play_72 (by decide) ?_
            exact ih27 (v27.1, v27.2.1, v27.2.2.1, v27.2.2.2.1, v27.2.2.2.2.1, v27.2.2.2.2.2.1, v27.2.2.2.2.2.2 + 1) h _ _ hP hD hS _ (lv_sub hl [1, 2, 3, 0] rfl)
          · have h := it_p c7 h
            exact J56 (v27.1, v27.2.1, v27.2.2.1, v27.2.2.2.1, v27.2.2.2.2.1, v27.2.2.2.2.2.1, v27.2.2.2.2.2.2) h _ _ hP hD hS _ (lv_sub hl [0, 1, 2, 3] rfl)
  refine lv_aload_n hx hb dX2_play_0 rfl (lv_at hl 0 rfl) ?_
  obtain ⟨r1, h1, h⟩ := ob h
  refine call_i (v := b2i r1) (wc := (gBo bh bk bo ++ (gA t (bk 4) 60 buf))) (wc' := (gBo bh bk bo ++ (gA t (bk 4) 60 buf))) (ws' := (gBo bh bk bo ++ (gS t (bk 0) nb now ++ (gE t (bk 2) eb ex ++ (gQ t (bk 3) sa ++ (g6 t sa sb sv ++ (gA t (bk 4) 60 buf))))))) (cutB (bs := [gBo bh bk bo, gS t (bk 0) nb now, gE t (bk 2) eb ex, gQ t (bk 3) sa, g6 t sa sb sv, gA t (bk 4) 60 buf]) (cs := [gBo bh bk bo, gA t (bk 4) 60 buf]) (cs' := [gBo bh bk bo, gA t (bk 4) 60 buf]) (bs' := [gBo bh bk bo, gS t (bk 0) nb now, gE t (bk 2) eb ex, gQ t (bk 3) sa, g6 t sa sb sv, gA t (bk 4) 60 buf]) [0, 5] hP hD hS hA rfl rfl rfl rfl) hS (fun hPc hDc => va_runV (As := []) (rest := []) ⟨hx, hb, hml, hown, hts⟩ (mtX2_isComplete l D t bh bk bo buf r1 h1 _) (cwV 0 hts (gBV kw395 kw396 kw397 kw2 kw398) rfl rfl rfl (by decide +kernel) ⟨Nat.le_of_ble_eq_true rfl, Nat.le_of_ble_eq_true rfl⟩) (sPc_V hPc hK hDc hE (va_recv hK hP (ci := 2) (q0 := 0) rfl rfl)) rfl rfl hl.1 rfl (lv_room (Nat.le_of_ble_eq_true rfl)) dX2_play_1 ⟨Nat.zero_le _, Nat.zero_le _⟩) (fun H locs hP hD hS => ?_)
  refine lv_if_ne (tgt := 17) hx hb dX2_play_4 (by decide) (fun c2 => ?_) (fun c2 => ?_)
  · have h := it_n c2 h
    refine lv_aload_n hx hb dX2_play_17 rfl (lv_at hl 0 rfl) ?_
    obtain ⟨r3, h3, h⟩ := ob h
    refine call_v (wc := (gBo bh bk bo ++ (gS t (bk 0) nb now ++ (gQ t (bk 3) sa ++ (g6 t sa sb sv))))) (wc' := (gBo bh bk r3.1 ++ (gS t (bk 0) nb now ++ (gQ t (bk 3) sa ++ (g6 t sa sb r3.2))))) (ws' := (gBo bh bk r3.1 ++ (gS t (bk 0) nb now ++ (gE t (bk 2) eb ex ++ (gQ t (bk 3) sa ++ (g6 t sa sb r3.2 ++ (gA t (bk 4) 60 buf))))))) (cutB (bs := [gBo bh bk bo, gS t (bk 0) nb now, gE t (bk 2) eb ex, gQ t (bk 3) sa, g6 t sa sb sv, gA t (bk 4) 60 buf]) (cs := [gBo bh bk bo, gS t (bk 0) nb now, gQ t (bk 3) sa, g6 t sa sb sv]) (cs' := [gBo bh bk r3.1, gS t (bk 0) nb now, gQ t (bk 3) sa, g6 t sa sb r3.2]) (bs' := [gBo bh bk r3.1, gS t (bk 0) nb now, gE t (bk 2) eb ex, gQ t (bk 3) sa, g6 t sa sb r3.2, gA t (bk 4) 60 buf]) [0, 1, 3, 4] hP hD hS hA rfl rfl rfl rfl) hS (fun hPc hDc => va_runV (As := []) (rest := []) ⟨hx, hb, hml, hown, hts⟩ (mtX2_saveState l D t bh bk bo nb now sa sb sv r3 h3 _) (cwV 0 hts (gBV kw86 kw87 kw88 kw2 kw89) rfl rfl rfl (by decide +kernel) ⟨Nat.le_of_ble_eq_true rfl, Nat.le_of_ble_eq_true rfl⟩) (sPc_V hPc hK hDc hE (va_recv hK hP (ci := 2) (q0 := 0) rfl rfl)) rfl rfl hl.1 rfl (lv_room (Nat.le_of_ble_eq_true rfl)) dX2_play_18 ⟨Nat.zero_le _, Nat.zero_le _⟩) (fun H locs hP hD hS => ?_)
    refine lv_iconst (v := 0) hx hb dX2_play_21 (by decide) ?_
    refine lv_istore_n (lv' := [(1, .int 0), (0, .ref bh)]) hx hb dX2_play_22 rfl hl (by decide) rfl (fun ls hl => ?_)
    refine lv_iconst (v := 0) hx hb dX2_play_23 (by decide) ?_
    refine lv_istore_n (lv' := [(2, .int 0), (1, .int 0), (0, .ref bh)]) hx hb dX2_play_24 rfl hl (by decide) rfl (fun ls hl => ?_)
    refine lv_iconst (v := 0) hx hb dX2_play_25 (by decide) ?_
    refine lv_istore_n (lv' := [(3, .int 0), (2, .int 0), (1, .int 0), (0, .ref bh)]) hx hb dX2_play_26 rfl hl (by decide) rfl (fun ls hl => ?_)
    exact J27 2000 (r3.1, now, ex, r3.2, 0, 0, 0) h _ _ hP hD hS _ (lv_sub hl [3, 2, 1, 0] rfl)
  · have h := it_p c2 h
    obtain rfl : 1 = E := Sum.inl.inj (Option.some.inj h)
    obtain ⟨sa9, hsa⟩ := hX.2.1.2.1
    exact vx_throwS hx hb hfl (own := RX2) (cls := xname 1) (text := "not complete shots as a text") (names := xnames) hown (by decide +kernel) (by decide +kernel) (htB _ kw84) (htB _ kw85) hsa (xhat1 htB hX.2.2.2.1) xgood1 hX.1.1 hX.1.2 hS (hl.1.trans hml.symm) dX2_play_7 dX2_play_10 dX2_play_11 dX2_play_13 dX2_play_16 (fun x hx => hT x hx _) (Nat.le_of_ble_eq_true rfl) (Nat.le_of_ble_eq_true rfl) (Nat.le_of_ble_eq_true rfl) (Nat.le_of_ble_eq_true rfl) hlocks (xthrown hP hK hD hS) hS.2.2 (Nat.le_of_ble_eq_true rfl) (Nat.le_of_ble_eq_true rfl)

theorem dX2_undo_11 : decode cX2_undo 11 = .ok (.dup, 1) := by decide +kernel
theorem dX2_undo_12 : decode cX2_undo 12 = .ok (.ldc 123, 2) := by decide +kernel
theorem dX2_undo_14 : decode cX2_undo 14 = .ok (.invokespecial 104, 3) := by decide +kernel
theorem dX2_undo_17 : decode cX2_undo 17 = .ok (.athrow, 1) := by decide +kernel
set_option maxHeartbeats 4000000 in
set_option maxRecDepth 100000 in
theorem xmX2_undo (l : Launch) (hfl : l.stackTraces = false) (D : va_G) (t : Nat → ClassId) (bh : Nat) (bk : Nat → Nat) (bo : BoT) (nb : Nat → Nat) (now : ShT) (sa : Nat → Nat) (sb : Nat → Nat → Nat) (sv : (Nat → ShT)) (E : Nat) (h : fX2_undo bo now sv = some (.inl E)) (sz : Nat) : vx_Met l yX2_undo zX2_undo ({ frames := 6, cells := 1, slots := 6, locals := 82 }) (xPc D t (gBo bh bk bo ++ (gS t (bk 0) nb now ++ (gQ t (bk 3) sa ++ (g6 t sa sb sv)))) sz [.ref bh]) (qX (va_A (gBo bh bk bo ++ (gS t (bk 0) nb now ++ (gQ t (bk 3) sa ++ (g6 t sa sb sv)))) sz)) (xC D t (gBo bh bk bo ++ (gS t (bk 0) nb now ++ (gQ t (bk 3) sa ++ (g6 t sa sb sv)))) E (va_A (gBo bh bk bo ++ (gS t (bk 0) nb now ++ (gQ t (bk 3) sa ++ (g6 t sa sb sv)))) sz)) 1 6 (va_A (gBo bh bk bo ++ (gS t (bk 0) nb now ++ (gQ t (bk 3) sa ++ (g6 t sa sb sv)))) sz) := by
  refine met_ofX (cc := cX2_undo) (maxL := 2) (ret := some .int) (by decide) rfl (Nat.le_of_ble_eq_true rfl) ?_
  intro p e s m args below meth c A hx hb hr hml hts hown hlocks hA hP hK hD hE hS hX hT ls hl
  have htB : ∀ w ∈ BIG, w.before args s = true := fun w h => hts w (List.mem_cons_of_mem _ h)
  have hown : s.vm.findClass RX2 = some m.cls := hown
  have hl : lv_has ls 2 [(0, .ref bh)] := hl
  unfold fX2_undo at h
  have J36 : ∀ v36 : BoT × ShT × Int32, fX2_undo_j36 sv v36 = some (.inl E) → ∀ (H : Heap) (locs : List Loc), va_P D vwCl (gBo bh bk v36.1 ++ (gS t (bk 0) nb v36.2.1 ++ (gQ t (bk 3) sa ++ (g6 t sa sb sv)))) H → va_D A (gBo bh bk v36.1 ++ (gS t (bk 0) nb v36.2.1 ++ (gQ t (bk 3) sa ++ (g6 t sa sb sv)))) → va_S A s.heap H locs → ∀ ls : Array Slot, lv_has ls 2 [(0, .ref bh)] → W p l e ({ frames := 6, cells := 1, slots := 6, locals := 82 }) s m args below meth c H locs 0 0 (vx_MQ below (qX A) (xC D t (gBo bh bk bo ++ (gS t (bk 0) nb now ++ (gQ t (bk 3) sa ++ (g6 t sa sb sv)))) E A) args s 1 6 A) (F0 m 36 ls [.int v36.2.2, .ref bh]) := by
    intro v36 h H locs hP hD hS ls hl
    unfold fX2_undo_j36 at h
    refine va_put (D := D) (ci := 2) (v := .int v36.2.2) (ty := .int) (C := RX2) (T := TX2) (N := 8) hx hb htB inlX2 tyX2 tyX2_ok nmX2 hown hK hP hD hS 0 rfl rfl 5 (by decide) (htB _ kw25) (fun _ h9 => h9) rfl (by decide +kernel) rfl rfl (Nat.le_of_ble_eq_true rfl) dX2_undo_36 (fun H locs hP hD hS => ?_)
    have hP : va_P D vwCl (gBo bh bk (v36.1.1, v36.2.2, v36.1.2.2) ++ (gS t (bk 0) nb v36.2.1 ++ (gQ t (bk 3) sa ++ (g6 t sa sb sv)))) H := hP
    have hD : va_D A (gBo bh bk (v36.1.1, v36.2.2, v36.1.2.2) ++ (gS t (bk 0) nb v36.2.1 ++ (gQ t (bk 3) sa ++ (g6 t sa sb sv)))) := hD
    refine lv_aload_n hx hb dX2_undo_39 rfl (lv_at hl 0 rfl) ?_
    refine lv_dup hx hb dX2_undo_40 rfl ?_
    refine va_get (D := D) (ci := 2) (v := .int v36.1.1) (C := RX2) (T := TX2) (N := 8) hx hb htB inlX2 hown hK hP 0 rfl rfl 4 (by decide) (htB _ kw24) (fun _ h9 => h9) rfl dX2_undo_41 ?_
    refine lv_iconst (v := 1) hx hb dX2_undo_44 (by decide) ?_
    refine lv_isub hx hb dX2_undo_45 ?_
    refine va_put (D := D) (ci := 2) (v := .int (v36.1.1 - 1)) (ty := .int) (C := RX2) (T := TX2) (N := 8) hx hb htB inlX2 tyX2 tyX2_ok nmX2 hown hK hP hD hS 0 rfl rfl 4 (by decide) (htB _ kw24) (fun _ h9 => h9) rfl (by decide +kernel) rfl rfl (Nat.le_of_ble_eq_true rfl) dX2_undo_46 (fun H locs hP hD hS => ?_)
    have hP : va_P D vwCl (gBo bh bk ((v36.1.1 - 1), v36.2.2, v36.1.2.2) ++ (gS t (bk 0) nb v36.2.1 ++ (gQ t (bk 3) sa ++ (g6 t sa sb sv)))) H := hP
    have hD : va_D A (gBo bh bk ((v36.1.1 - 1), v36.2.2, v36.1.2.2) ++ (gS t (bk 0) nb v36.2.1 ++ (gQ t (bk 3) sa ++ (g6 t sa sb sv)))) := hD
    refine lv_aload_n hx hb dX2_undo_49 rfl (lv_at hl 0 rfl) ?_
    refine lv_aload_n hx hb dX2_undo_50 rfl (lv_at hl 0 rfl) ?_
    refine va_get (D := D) (ci := 2) (v := .int v36.2.2) (C := RX2) (T := TX2) (N := 8) hx hb htB inlX2 hown hK hP 0 rfl rfl 5 (by decide) (htB _ kw25) (fun _ h9 => h9) rfl dX2_undo_51 ?_
    obtain ⟨r3, h3, h⟩ := ob h
    refine call_r (v := sa (Int32.toNatClampNeg v36.2.2)) (wc := (gBo bh bk ((v36.1.1 - 1), v36.2.2, v36.1.2.2) ++ (gQ t (bk 3) sa))) (wc' := (gBo bh bk ((v36.1.1 - 1), v36.2.2, v36.1.2.2) ++ (gQ t (bk 3) sa))) (ws' := (gBo bh bk ((v36.1.1 - 1), v36.2.2, v36.1.2.2) ++ (gS t (bk 0) nb v36.2.1 ++ (gQ t (bk 3) sa ++ (g6 t sa sb sv))))) (cutB (bs := [gBo bh bk ((v36.1.1 - 1), v36.2.2, v36.1.2.2), gS t (bk 0) nb v36.2.1, gQ t (bk 3) sa, g6 t sa sb sv]) (cs := [gBo bh bk ((v36.1.1 - 1), v36.2.2, v36.1.2.2), gQ t (bk 3) sa]) (cs' := [gBo bh bk ((v36.1.1 - 1), v36.2.2, v36.1.2.2), gQ t (bk 3) sa]) (bs' := [gBo bh bk ((v36.1.1 - 1), v36.2.2, v36.1.2.2), gS t (bk 0) nb v36.2.1, gQ t (bk 3) sa, g6 t sa sb sv]) [0, 2] hP hD hS hA rfl rfl rfl rfl) hS (fun hPc hDc => va_runV (As := [.int v36.2.2]) (rest := []) ⟨hx, hb, hml, hown, hts⟩ (mtX2_savedAt l D t bh bk ((v36.1.1 - 1), v36.2.2, v36.1.2.2) sa v36.2.2 r3 h3 _) (cwV 1 hts (gBV kw94 kw95 kw96 kw2 kw97) rfl rfl rfl (by decide +kernel) ⟨Nat.le_of_ble_eq_true rfl, Nat.le_of_ble_eq_true rfl⟩) (sPc_V hPc hK hDc hE (va_recv hK hP (ci := 2) (q0 := 0) rfl rfl)) rfl rfl hl.1 rfl (lv_room (Nat.le_of_ble_eq_true rfl)) dX2_undo_54 ⟨Nat.zero_le _, Nat.zero_le _⟩) (fun H locs hP hD hS => ?_)
    have hj6 := pin6 (sv_pin h3)
    refine lv_astore_n (lv' := [(1, .ref (sa (Int32.toNatClampNeg v36.2.2))), (0, .ref bh)]) hx hb dX2_undo_57 rfl hl (by decide) rfl (fun ls hl => ?_)
    refine lv_aload_n hx hb dX2_undo_58 rfl (lv_at hl 0 rfl) ?_
    refine lv_ifnull hx hb dX2_undo_59 ?_
    refine lv_aload_n hx hb dX2_undo_62 rfl (lv_at hl 1 rfl) ?_
    refine va_get (D := D) (ci := 2) (v := .ref (bk 0)) (C := RX2) (T := TX2) (N := 8) hx hb htB inlX2 hown hK hP 0 rfl rfl 0 (by decide) (htB _ kw17) (fun _ h9 => h9) rfl dX2_undo_63 ?_
    refine lv_aload_n hx hb dX2_undo_66 rfl (lv_at hl 0 rfl) ?_
    obtain ⟨r4, h4, h⟩ := ob h
    refine call_v (wc := (gS t (bk 0) nb v36.2.1 ++ (gS t (sa (Int32.toNatClampNeg v36.2.2)) (sb (Int32.toNatClampNeg v36.2.2)) (sv (Int32.toNatClampNeg v36.2.2))))) (wc' := (gS t (bk 0) nb r4 ++ (gS t (sa (Int32.toNatClampNeg v36.2.2)) (sb (Int32.toNatClampNeg v36.2.2)) (sv (Int32.toNatClampNeg v36.2.2))))) (ws' := (gBo bh bk ((v36.1.1 - 1), v36.2.2, v36.1.2.2) ++ (gS t (bk 0) nb r4 ++ (gQ t (bk 3) sa ++ (g6 t sa sb sv))))) (cutB (bs := [gBo bh bk ((v36.1.1 - 1), v36.2.2, v36.1.2.2), gS t (bk 0) nb v36.2.1, gQ t (bk 3) sa, gS t (sa 0) (sb 0) (sv 0), gS t (sa 1) (sb 1) (sv 1), gS t (sa 2) (sb 2) (sv 2), gS t (sa 3) (sb 3) (sv 3), gS t (sa 4) (sb 4) (sv 4), gS t (sa 5) (sb 5) (sv 5)]) (cs := [gS t (bk 0) nb v36.2.1, gS t (sa (Int32.toNatClampNeg v36.2.2)) (sb (Int32.toNatClampNeg v36.2.2)) (sv (Int32.toNatClampNeg v36.2.2))]) (cs' := [gS t (bk 0) nb r4, gS t (sa (Int32.toNatClampNeg v36.2.2)) (sb (Int32.toNatClampNeg v36.2.2)) (sv (Int32.toNatClampNeg v36.2.2))]) (bs' := [gBo bh bk ((v36.1.1 - 1), v36.2.2, v36.1.2.2), gS t (bk 0) nb r4, gQ t (bk 3) sa, gS t (sa 0) (sb 0) (sv 0), gS t (sa 1) (sb 1) (sv 1), gS t (sa 2) (sb 2) (sv 2), gS t (sa 3) (sb 3) (sv 3), gS t (sa 4) (sb 4) (sv 4), gS t (sa 5) (sb 5) (sv 5)]) [1, 3 + (Int32.toNatClampNeg v36.2.2)] hP hD hS hA (by rcases hj6 with e9 | e9 | e9 | e9 | e9 | e9 <;> rw [e9] <;> rfl) (by rcases hj6 with e9 | e9 | e9 | e9 | e9 | e9 <;> rw [e9] <;> rfl) (by rcases hj6 with e9 | e9 | e9 | e9 | e9 | e9 <;> rw [e9] <;> rfl) rfl) hS (fun hPc hDc => va_runV (As := [.ref (sa (Int32.toNatClampNeg v36.2.2))]) (rest := []) ⟨hx, hb, hml, hown, hts⟩ (mtX1_become l D t (bk 0) nb v36.2.1 (sa (Int32.toNatClampNeg v36.2.2)) (sb (Int32.toNatClampNeg v36.2.2)) (sv (Int32.toNatClampNeg v36.2.2)) r4 h4 _) (cwV 1 hts (gBV kw98 kw99 kw100 kw16 kw101) rfl rfl rfl (by decide +kernel) ⟨Nat.le_of_ble_eq_true rfl, Nat.le_of_ble_eq_true rfl⟩) (sPc_V hPc hK hDc hE (va_recv hK hP (ci := 1) (q0 := 1) rfl rfl)) rfl rfl hl.1 rfl (lv_room (Nat.le_of_ble_eq_true rfl)) dX2_undo_67 ⟨Nat.zero_le _, Nat.zero_le _⟩) (fun H locs hP hD hS => ?_)
    refine lv_aload_n hx hb dX2_undo_70 rfl (lv_at hl 1 rfl) ?_
    refine va_get (D := D) (ci := 2) (v := .int (v36.1.1 - 1)) (C := RX2) (T := TX2) (N := 8) hx hb htB inlX2 hown hK hP 0 rfl rfl 4 (by decide) (htB _ kw24) (fun _ h9 => h9) rfl dX2_undo_71 ?_
    cases h
  refine lv_aload_n hx hb dX2_undo_0 rfl (lv_at hl 0 rfl) ?_
  refine va_get (D := D) (ci := 2) (v := .int bo.1) (C := RX2) (T := TX2) (N := 8) hx hb htB inlX2 hown hK hP 0 rfl rfl 4 (by decide) (htB _ kw24) (fun _ h9 => h9) rfl dX2_undo_1 ?_
  refine lv_iconst (v := 1) hx hb dX2_undo_4 (by decide) ?_
  refine lv_icmp_ge (tgt := 18) hx hb dX2_undo_5 (by decide) (fun c1 => ?_) (fun c1 => ?_)
  · have h := it_p c1 h
    refine lv_aload_n hx hb dX2_undo_18 rfl (lv_at hl 0 rfl) ?_
    refine lv_aload_n hx hb dX2_undo_19 rfl (lv_at hl 0 rfl) ?_
    refine va_get (D := D) (ci := 2) (v := .int bo.2.1) (C := RX2) (T := TX2) (N := 8) hx hb htB inlX2 hown hK hP 0 rfl rfl 5 (by decide) (htB _ kw25) (fun _ h9 => h9) rfl dX2_undo_20 ?_
    refine lv_if_le (tgt := 35) hx hb dX2_undo_23 (by decide) (fun c2 => ?_) (fun c2 => ?_)
    · have h := it_p c2 h
      refine lv_iconst (v := 5) hx hb dX2_undo_35 (by decide) ?_
      exact J36 (bo, now, 5) h _ _ hP hD hS _ (lv_sub hl [0] rfl)
    · have h := it_n c2 h
      refine lv_aload_n hx hb dX2_undo_26 rfl (lv_at hl 0 rfl) ?_
      refine va_get (D := D) (ci := 2) (v := .int bo.2.1) (C := RX2) (T := TX2) (N := 8) hx hb htB inlX2 hown hK hP 0 rfl rfl 5 (by decide) (htB _ kw25) (fun _ h9 => h9) rfl dX2_undo_27 ?_
      refine lv_iconst (v := 1) hx hb dX2_undo_30 (by decide) ?_
      refine lv_isub hx hb dX2_undo_31 ?_
      refine lv_goto (tgt := 36) hx hb dX2_undo_32 (by decide) ?_
      exact J36 (bo, now, bo.2.1 - 1) h _ _ hP hD hS _ (lv_sub hl [0] rfl)
  · have h := it_n c1 h
    obtain rfl : 2 = E := Sum.inl.inj (Option.some.inj h)
    obtain ⟨sa9, hsa⟩ := hX.2.1.2.2.1
    exact vx_throwS hx hb hfl (own := RX2) (cls := xname 2) (text := "no state is saved") (names := xnames) hown (by decide +kernel) (by decide +kernel) (htB _ kw326) (htB _ kw327) hsa (xhat2 htB hX.2.2.2.2) xgood2 hX.1.1 hX.1.2 hS (hl.1.trans hml.symm) dX2_undo_8 dX2_undo_11 dX2_undo_12 dX2_undo_14 dX2_undo_17 (fun x hx => hT x hx _) (Nat.le_of_ble_eq_true rfl) (Nat.le_of_ble_eq_true rfl) (Nat.le_of_ble_eq_true rfl) (Nat.le_of_ble_eq_true rfl) hlocks (xthrown hP hK hD hS) hS.2.2 (Nat.le_of_ble_eq_true rfl) (Nat.le_of_ble_eq_true rfl)

set_option maxHeartbeats 4000000 in
set_option maxRecDepth 100000 in
theorem xmX2_curtain (l : Launch) (hfl : l.stackTraces = false) (D : va_G) (t : Nat → ClassId) (bh : Nat) (bk : Nat → Nat) (bo : BoT) (nb : Nat → Nat) (now : ShT) (cu : Int32) (w : Int32) (E : Nat) (h : fX2_curtain bo now cu w = some (.inl E)) (sz : Nat) : vx_Met l yX2_curtain zX2_curtain ({ frames := 8, cells := 1, slots := 6, locals := 123 }) (xPc D t (gBo bh bk bo ++ (gS t (bk 0) nb now)) sz [.ref bh, .int cu, .int w]) (qX (va_A (gBo bh bk bo ++ (gS t (bk 0) nb now)) sz)) (xC D t (gBo bh bk bo ++ (gS t (bk 0) nb now)) E (va_A (gBo bh bk bo ++ (gS t (bk 0) nb now)) sz)) 1 6 (va_A (gBo bh bk bo ++ (gS t (bk 0) nb now)) sz) := by
  refine met_ofX (cc := cX2_curtain) (maxL := 3) (ret := some .int) (by decide) rfl (Nat.le_of_ble_eq_true rfl) ?_
  intro p e s m args below meth c A hx hb hr hml hts hown hlocks hA hP hK hD hE hS hX hT ls hl
  have htB : ∀ w ∈ BIG, w.before args s = true := fun w h => hts w (List.mem_cons_of_mem _ h)
  have hown : s.vm.findClass RX2 = some m.cls := hown
  have hl : lv_has ls 3 [(0, .ref bh), (1, .int cu), (2, .int w)] := hl
  unfold fX2_curtain at h
  refine lv_iload_n hx hb dX2_curtain_0 rfl (lv_at hl 1 rfl) ?_
  rcases tb_l h with h1 | ⟨r1, h1, h⟩
  · exact call_x (E := E) (wc := ([] : va_W)) (ws := (gBo bh bk bo ++ (gS t (bk 0) nb now))) (cutB (bs := [gBo bh bk bo, gS t (bk 0) nb now]) (cs := []) (cs' := []) (bs' := [gBo bh bk bo, gS t (bk 0) nb now]) [] hP hD hS hA rfl rfl rfl rfl) hS hK hT hlocks (Nat.le_of_ble_eq_true rfl) (Nat.le_of_ble_eq_true rfl) (fun hPc hDc hAB => vx_runS (As := [.int cu]) (rest := []) ⟨hx, hb, hml, hown, hts⟩ (xmX2_needCurtain l hfl D t cu E h1 _) (va_cwS 1 hts (gBS kw73 kw74 kw2 kw75) rfl rfl rfl (by decide +kernel) ⟨Nat.le_of_ble_eq_true rfl, Nat.le_of_ble_eq_true rfl⟩) (xPc_S hPc hK hDc hE hX hS hAB) rfl rfl hl.1 rfl (lv_room (Nat.le_of_ble_eq_true rfl)) dX2_curtain_1 ⟨Nat.le_of_ble_eq_true rfl, Nat.le_of_ble_eq_true rfl⟩)
  refine call_v (wc := ([] : va_W)) (wc' := ([] : va_W)) (ws' := (gBo bh bk bo ++ (gS t (bk 0) nb now))) (cutB (bs := [gBo bh bk bo, gS t (bk 0) nb now]) (cs := []) (cs' := []) (bs' := [gBo bh bk bo, gS t (bk 0) nb now]) [] hP hD hS hA rfl rfl rfl rfl) hS (fun hPc hDc => va_runS (As := [.int cu]) (rest := []) ⟨hx, hb, hml, hown, hts⟩ (mtX2_needCurtain l D t cu r1 h1 _) (va_cwS 1 hts (gBS kw73 kw74 kw2 kw75) rfl rfl rfl (by decide +kernel) ⟨Nat.le_of_ble_eq_true rfl, Nat.le_of_ble_eq_true rfl⟩) (sPc_S hPc hK hDc hE) rfl rfl hl.1 rfl (lv_room (Nat.le_of_ble_eq_true rfl)) dX2_curtain_1 ⟨Nat.zero_le _, Nat.zero_le _⟩) (fun H locs hP hD hS => ?_)
  refine lv_iload_n hx hb dX2_curtain_4 rfl (lv_at hl 2 rfl) ?_
  refine lv_iconst (v := 0) hx hb dX2_curtain_5 (by decide) ?_
  refine lv_iconst (v := 3) hx hb dX2_curtain_6 (by decide) ?_
  rcases tb_l h with h2 | ⟨r2, h2, h⟩
  · exact call_x (E := E) (wc := ([] : va_W)) (ws := (gBo bh bk bo ++ (gS t (bk 0) nb now))) (cutB (bs := [gBo bh bk bo, gS t (bk 0) nb now]) (cs := []) (cs' := []) (bs' := [gBo bh bk bo, gS t (bk 0) nb now]) [] hP hD hS hA rfl rfl rfl rfl) hS hK hT hlocks (Nat.le_of_ble_eq_true rfl) (Nat.le_of_ble_eq_true rfl) (fun hPc hDc hAB => vx_runS (As := [.int w, .int 0, .int 3]) (rest := []) ⟨hx, hb, hml, hown, hts⟩ (xmX2_needRange l hfl D t w 0 3 E h2 _) (va_cwS 3 hts (gBS kw81 kw82 kw2 kw83) rfl rfl rfl (by decide +kernel) ⟨Nat.le_of_ble_eq_true rfl, Nat.le_of_ble_eq_true rfl⟩) (xPc_S hPc hK hDc hE hX hS hAB) rfl rfl hl.1 rfl (lv_room (Nat.le_of_ble_eq_true rfl)) dX2_curtain_7 ⟨Nat.le_of_ble_eq_true rfl, Nat.le_of_ble_eq_true rfl⟩)
  refine call_v (wc := ([] : va_W)) (wc' := ([] : va_W)) (ws' := (gBo bh bk bo ++ (gS t (bk 0) nb now))) (cutB (bs := [gBo bh bk bo, gS t (bk 0) nb now]) (cs := []) (cs' := []) (bs' := [gBo bh bk bo, gS t (bk 0) nb now]) [] hP hD hS hA rfl rfl rfl rfl) hS (fun hPc hDc => va_runS (As := [.int w, .int 0, .int 3]) (rest := []) ⟨hx, hb, hml, hown, hts⟩ (mtX2_needRange l D t w 0 3 r2 h2 _) (va_cwS 3 hts (gBS kw81 kw82 kw2 kw83) rfl rfl rfl (by decide +kernel) ⟨Nat.le_of_ble_eq_true rfl, Nat.le_of_ble_eq_true rfl⟩) (sPc_S hPc hK hDc hE) rfl rfl hl.1 rfl (lv_room (Nat.le_of_ble_eq_true rfl)) dX2_curtain_7 ⟨Nat.zero_le _, Nat.zero_le _⟩) (fun H locs hP hD hS => ?_)
  refine lv_iload_n hx hb dX2_curtain_10 rfl (lv_at hl 2 rfl) ?_
  by_cases c3 : w = 0
  · have h := it_p c3 h
    refine lv_tableIn (off := 25) (tgt := 36) hx hb dX2_curtain_11 (by rw [c3]; decide) (by rw [c3]; decide) (by rw [c3]; rfl) (by decide) ?_
    refine lv_aload_n hx hb dX2_curtain_36 rfl (lv_at hl 0 rfl) ?_
    refine va_get (D := D) (ci := 2) (v := .ref (bk 0)) (C := RX2) (T := TX2) (N := 8) hx hb htB inlX2 hown hK hP 0 rfl rfl 0 (by decide) (htB _ kw17) (fun _ h9 => h9) rfl dX2_curtain_37 ?_
    refine va_get (D := D) (ci := 1) (v := .ref (nb 0)) (C := RX1) (T := TX1) (N := 10) hx hb htB inlX1 hown hK hP 1 rfl rfl 0 (by decide) (htB _ kw72) (fun _ h9 => h9) rfl dX2_curtain_40 ?_
    refine lv_iload_n hx hb dX2_curtain_43 rfl (lv_at hl 1 rfl) ?_
    obtain ⟨r4, h4, h⟩ := ob h
    refine call_i (v := r4) (wc := (gA t (nb 0) 2 now.1)) (wc' := (gA t (nb 0) 2 now.1)) (ws' := (gBo bh bk bo ++ (gS t (bk 0) nb now))) (cutI (wc := (gA t (nb 0) 2 now.1)) (wc' := (gA t (nb 0) 2 now.1)) (ws' := (gBo bh bk bo ++ (gS t (bk 0) nb now))) [2] hP hD hS hA rfl rfl rfl rfl) hS (fun hPc hDc => va_runS (As := [.ref (nb 0), .int cu]) (rest := []) ⟨hx, hb, hml, hown, hts⟩ (mtX2_at l D t (nb 0) 2 now.1 cu r4 h4 (by decide) _) (va_cwS 2 hts (gBS kw104 kw105 kw2 kw106) rfl rfl rfl (by decide +kernel) ⟨Nat.le_of_ble_eq_true rfl, Nat.le_of_ble_eq_true rfl⟩) (sPc_S hPc hK hDc hE) rfl rfl hl.1 rfl (lv_room (Nat.le_of_ble_eq_true rfl)) dX2_curtain_44 ⟨Nat.zero_le _, Nat.zero_le _⟩) (fun H locs hP hD hS => ?_)
    cases h
  · have h := it_n c3 h
    by_cases c5 : w = 1
    · have h := it_p c5 h
      refine lv_tableIn (off := 37) (tgt := 48) hx hb dX2_curtain_11 (by rw [c5]; decide) (by rw [c5]; decide) (by rw [c5]; rfl) (by decide) ?_
      refine lv_aload_n hx hb dX2_curtain_48 rfl (lv_at hl 0 rfl) ?_
      refine va_get (D := D) (ci := 2) (v := .ref (bk 0)) (C := RX2) (T := TX2) (N := 8) hx hb htB inlX2 hown hK hP 0 rfl rfl 0 (by decide) (htB _ kw17) (fun _ h9 => h9) rfl dX2_curtain_49 ?_
      refine va_get (D := D) (ci := 1) (v := .ref (nb 1)) (C := RX1) (T := TX1) (N := 10) hx hb htB inlX1 hown hK hP 1 rfl rfl 1 (by decide) (htB _ kw166) (fun _ h9 => h9) rfl dX2_curtain_52 ?_
      refine lv_iload_n hx hb dX2_curtain_55 rfl (lv_at hl 1 rfl) ?_
      obtain ⟨r6, h6, h⟩ := ob h
      refine call_i (v := r6) (wc := (gA t (nb 1) 2 now.2.1)) (wc' := (gA t (nb 1) 2 now.2.1)) (ws' := (gBo bh bk bo ++ (gS t (bk 0) nb now))) (cutI (wc := (gA t (nb 1) 2 now.2.1)) (wc' := (gA t (nb 1) 2 now.2.1)) (ws' := (gBo bh bk bo ++ (gS t (bk 0) nb now))) [3] hP hD hS hA rfl rfl rfl rfl) hS (fun hPc hDc => va_runS (As := [.ref (nb 1), .int cu]) (rest := []) ⟨hx, hb, hml, hown, hts⟩ (mtX2_at l D t (nb 1) 2 now.2.1 cu r6 h6 (by decide) _) (va_cwS 2 hts (gBS kw104 kw105 kw2 kw106) rfl rfl rfl (by decide +kernel) ⟨Nat.le_of_ble_eq_true rfl, Nat.le_of_ble_eq_true rfl⟩) (sPc_S hPc hK hDc hE) rfl rfl hl.1 rfl (lv_room (Nat.le_of_ble_eq_true rfl)) dX2_curtain_56 ⟨Nat.zero_le _, Nat.zero_le _⟩) (fun H locs hP hD hS => ?_)
      cases h
    · have h := it_n c5 h
      by_cases c7 : w = 2
      · have h := it_p c7 h
        refine lv_tableIn (off := 49) (tgt := 60) hx hb dX2_curtain_11 (by rw [c7]; decide) (by rw [c7]; decide) (by rw [c7]; rfl) (by decide) ?_
        refine lv_aload_n hx hb dX2_curtain_60 rfl (lv_at hl 0 rfl) ?_
        refine va_get (D := D) (ci := 2) (v := .ref (bk 0)) (C := RX2) (T := TX2) (N := 8) hx hb htB inlX2 hown hK hP 0 rfl rfl 0 (by decide) (htB _ kw17) (fun _ h9 => h9) rfl dX2_curtain_61 ?_
        refine lv_iload_n hx hb dX2_curtain_64 rfl (lv_at hl 1 rfl) ?_
        obtain ⟨r8, h8, h⟩ := ob h
        refine call_i (v := r8) (wc := (gS t (bk 0) nb now)) (wc' := (gS t (bk 0) nb now)) (ws' := (gBo bh bk bo ++ (gS t (bk 0) nb now))) (cutB (bs := [gBo bh bk bo, gS t (bk 0) nb now]) (cs := [gS t (bk 0) nb now]) (cs' := [gS t (bk 0) nb now]) (bs' := [gBo bh bk bo, gS t (bk 0) nb now]) [1] hP hD hS hA rfl rfl rfl rfl) hS (fun hPc hDc => va_runV (As := [.int cu]) (rest := []) ⟨hx, hb, hml, hown, hts⟩ (mtX1_ticksForAll l D t (bk 0) nb now cu r8 h8 _) (cwV 1 hts (gBV kw433 kw434 kw435 kw16 kw436) rfl rfl rfl (by decide +kernel) ⟨Nat.le_of_ble_eq_true rfl, Nat.le_of_ble_eq_true rfl⟩) (sPc_V hPc hK hDc hE (va_recv hK hP (ci := 1) (q0 := 1) rfl rfl)) rfl rfl hl.1 rfl (lv_room (Nat.le_of_ble_eq_true rfl)) dX2_curtain_65 ⟨Nat.zero_le _, Nat.zero_le _⟩) (fun H locs hP hD hS => ?_)
        cases h
      · have h := it_n c7 h
        refine lv_tableOut (tgt := 69) hx hb dX2_curtain_11 (tab_0_2 c3 c5 c7) (by decide) ?_
        refine lv_aload_n hx hb dX2_curtain_69 rfl (lv_at hl 0 rfl) ?_
        refine va_get (D := D) (ci := 2) (v := .ref (bk 0)) (C := RX2) (T := TX2) (N := 8) hx hb htB inlX2 hown hK hP 0 rfl rfl 0 (by decide) (htB _ kw17) (fun _ h9 => h9) rfl dX2_curtain_70 ?_
        refine lv_iload_n hx hb dX2_curtain_73 rfl (lv_at hl 1 rfl) ?_
        obtain ⟨r9, h9, h⟩ := ob h
        refine call_i (v := r9) (wc := (gS t (bk 0) nb now)) (wc' := (gS t (bk 0) nb now)) (ws' := (gBo bh bk bo ++ (gS t (bk 0) nb now))) (cutB (bs := [gBo bh bk bo, gS t (bk 0) nb now]) (cs := [gS t (bk 0) nb now]) (cs' := [gS t (bk 0) nb now]) (bs' := [gBo bh bk bo, gS t (bk 0) nb now]) [1] hP hD hS hA rfl rfl rfl rfl) hS (fun hPc hDc => va_runV (As := [.int cu]) (rest := []) ⟨hx, hb, hml, hown, hts⟩ (mtX1_slowestColumn l D t (bk 0) nb now cu r9 h9 _) (cwV 1 hts (gBV kw439 kw440 kw441 kw16 kw442) rfl rfl rfl (by decide +kernel) ⟨Nat.le_of_ble_eq_true rfl, Nat.le_of_ble_eq_true rfl⟩) (sPc_V hPc hK hDc hE (va_recv hK hP (ci := 1) (q0 := 1) rfl rfl)) rfl rfl hl.1 rfl (lv_room (Nat.le_of_ble_eq_true rfl)) dX2_curtain_74 ⟨Nat.zero_le _, Nat.zero_le _⟩) (fun H locs hP hD hS => ?_)
        cases h

set_option maxHeartbeats 4000000 in
set_option maxRecDepth 100000 in
theorem xmX2_column (l : Launch) (hfl : l.stackTraces = false) (D : va_G) (t : Nat → ClassId) (bh : Nat) (bk : Nat → Nat) (bo : BoT) (nb : Nat → Nat) (now : ShT) (eb : Nat → Nat) (ex : ExT) (v : Int32) (k : Int32) (w : Int32) (E : Nat) (h : fX2_column bo now ex v k w = some (.inl E)) (sz : Nat) : vx_Met l yX2_column zX2_column ({ frames := 8, cells := 1, slots := 6, locals := 123 }) (xPc D t (gBo bh bk bo ++ (gS t (bk 0) nb now ++ (gE t (bk 2) eb ex))) sz [.ref bh, .int v, .int k, .int w]) (qX (va_A (gBo bh bk bo ++ (gS t (bk 0) nb now ++ (gE t (bk 2) eb ex))) sz)) (xC D t (gBo bh bk bo ++ (gS t (bk 0) nb now ++ (gE t (bk 2) eb ex))) E (va_A (gBo bh bk bo ++ (gS t (bk 0) nb now ++ (gE t (bk 2) eb ex))) sz)) 1 6 (va_A (gBo bh bk bo ++ (gS t (bk 0) nb now ++ (gE t (bk 2) eb ex))) sz) := by
  refine met_ofX (cc := cX2_column) (maxL := 4) (ret := some .int) (by decide) rfl (Nat.le_of_ble_eq_true rfl) ?_
  intro p e s m args below meth c A hx hb hr hml hts hown hlocks hA hP hK hD hE hS hX hT ls hl
  have htB : ∀ w ∈ BIG, w.before args s = true := fun w h => hts w (List.mem_cons_of_mem _ h)
  have hown : s.vm.findClass RX2 = some m.cls := hown
  have hl : lv_has ls 4 [(0, .ref bh), (1, .int v), (2, .int k), (3, .int w)] := hl
  unfold fX2_column at h
  refine lv_iload_n hx hb dX2_column_0 rfl (lv_at hl 1 rfl) ?_
  rcases tb_l h with h1 | ⟨r1, h1, h⟩
  · exact call_x (E := E) (wc := ([] : va_W)) (ws := (gBo bh bk bo ++ (gS t (bk 0) nb now ++ (gE t (bk 2) eb ex)))) (cutB (bs := [gBo bh bk bo, gS t (bk 0) nb now, gE t (bk 2) eb ex]) (cs := []) (cs' := []) (bs' := [gBo bh bk bo, gS t (bk 0) nb now, gE t (bk 2) eb ex]) [] hP hD hS hA rfl rfl rfl rfl) hS hK hT hlocks (Nat.le_of_ble_eq_true rfl) (Nat.le_of_ble_eq_true rfl) (fun hPc hDc hAB => vx_runS (As := [.int v]) (rest := []) ⟨hx, hb, hml, hown, hts⟩ (xmX2_needSpeed l hfl D t v E h1 _) (va_cwS 1 hts (gBS kw179 kw180 kw2 kw181) rfl rfl rfl (by decide +kernel) ⟨Nat.le_of_ble_eq_true rfl, Nat.le_of_ble_eq_true rfl⟩) (xPc_S hPc hK hDc hE hX hS hAB) rfl rfl hl.1 rfl (lv_room (Nat.le_of_ble_eq_true rfl)) dX2_column_1 ⟨Nat.le_of_ble_eq_true rfl, Nat.le_of_ble_eq_true rfl⟩)
  refine call_v (wc := ([] : va_W)) (wc' := ([] : va_W)) (ws' := (gBo bh bk bo ++ (gS t (bk 0) nb now ++ (gE t (bk 2) eb ex)))) (cutB (bs := [gBo bh bk bo, gS t (bk 0) nb now, gE t (bk 2) eb ex]) (cs := []) (cs' := []) (bs' := [gBo bh bk bo, gS t (bk 0) nb now, gE t (bk 2) eb ex]) [] hP hD hS hA rfl rfl rfl rfl) hS (fun hPc hDc => va_runS (As := [.int v]) (rest := []) ⟨hx, hb, hml, hown, hts⟩ (mtX2_needSpeed l D t v r1 h1 _) (va_cwS 1 hts (gBS kw179 kw180 kw2 kw181) rfl rfl rfl (by decide +kernel) ⟨Nat.le_of_ble_eq_true rfl, Nat.le_of_ble_eq_true rfl⟩) (sPc_S hPc hK hDc hE) rfl rfl hl.1 rfl (lv_room (Nat.le_of_ble_eq_true rfl)) dX2_column_1 ⟨Nat.zero_le _, Nat.zero_le _⟩) (fun H locs hP hD hS => ?_)
  refine lv_iload_n hx hb dX2_column_4 rfl (lv_at hl 2 rfl) ?_
  refine lv_bipush (v := 24) hx hb dX2_column_5 (by decide) ?_
  rcases tb_l h with h2 | ⟨r2, h2, h⟩
  · exact call_x (E := E) (wc := ([] : va_W)) (ws := (gBo bh bk bo ++ (gS t (bk 0) nb now ++ (gE t (bk 2) eb ex)))) (cutB (bs := [gBo bh bk bo, gS t (bk 0) nb now, gE t (bk 2) eb ex]) (cs := []) (cs' := []) (bs' := [gBo bh bk bo, gS t (bk 0) nb now, gE t (bk 2) eb ex]) [] hP hD hS hA rfl rfl rfl rfl) hS hK hT hlocks (Nat.le_of_ble_eq_true rfl) (Nat.le_of_ble_eq_true rfl) (fun hPc hDc hAB => vx_runS (As := [.int k, .int 24]) (rest := []) ⟨hx, hb, hml, hown, hts⟩ (xmX2_needIndex l hfl D t k 24 E h2 _) (va_cwS 2 hts (gBS kw76 kw77 kw2 kw78) rfl rfl rfl (by decide +kernel) ⟨Nat.le_of_ble_eq_true rfl, Nat.le_of_ble_eq_true rfl⟩) (xPc_S hPc hK hDc hE hX hS hAB) rfl rfl hl.1 rfl (lv_room (Nat.le_of_ble_eq_true rfl)) dX2_column_7 ⟨Nat.le_of_ble_eq_true rfl, Nat.le_of_ble_eq_true rfl⟩)
  refine call_v (wc := ([] : va_W)) (wc' := ([] : va_W)) (ws' := (gBo bh bk bo ++ (gS t (bk 0) nb now ++ (gE t (bk 2) eb ex)))) (cutB (bs := [gBo bh bk bo, gS t (bk 0) nb now, gE t (bk 2) eb ex]) (cs := []) (cs' := []) (bs' := [gBo bh bk bo, gS t (bk 0) nb now, gE t (bk 2) eb ex]) [] hP hD hS hA rfl rfl rfl rfl) hS (fun hPc hDc => va_runS (As := [.int k, .int 24]) (rest := []) ⟨hx, hb, hml, hown, hts⟩ (mtX2_needIndex l D t k 24 r2 h2 _) (va_cwS 2 hts (gBS kw76 kw77 kw2 kw78) rfl rfl rfl (by decide +kernel) ⟨Nat.le_of_ble_eq_true rfl, Nat.le_of_ble_eq_true rfl⟩) (sPc_S hPc hK hDc hE) rfl rfl hl.1 rfl (lv_room (Nat.le_of_ble_eq_true rfl)) dX2_column_7 ⟨Nat.zero_le _, Nat.zero_le _⟩) (fun H locs hP hD hS => ?_)
  refine lv_iload_n hx hb dX2_column_10 rfl (lv_at hl 3 rfl) ?_
  refine lv_iconst (v := 0) hx hb dX2_column_11 (by decide) ?_
  refine lv_iconst (v := 5) hx hb dX2_column_12 (by decide) ?_
  rcases tb_l h with h3 | ⟨r3, h3, h⟩
  · exact call_x (E := E) (wc := ([] : va_W)) (ws := (gBo bh bk bo ++ (gS t (bk 0) nb now ++ (gE t (bk 2) eb ex)))) (cutB (bs := [gBo bh bk bo, gS t (bk 0) nb now, gE t (bk 2) eb ex]) (cs := []) (cs' := []) (bs' := [gBo bh bk bo, gS t (bk 0) nb now, gE t (bk 2) eb ex]) [] hP hD hS hA rfl rfl rfl rfl) hS hK hT hlocks (Nat.le_of_ble_eq_true rfl) (Nat.le_of_ble_eq_true rfl) (fun hPc hDc hAB => vx_runS (As := [.int w, .int 0, .int 5]) (rest := []) ⟨hx, hb, hml, hown, hts⟩ (xmX2_needRange l hfl D t w 0 5 E h3 _) (va_cwS 3 hts (gBS kw81 kw82 kw2 kw83) rfl rfl rfl (by decide +kernel) ⟨Nat.le_of_ble_eq_true rfl, Nat.le_of_ble_eq_true rfl⟩) (xPc_S hPc hK hDc hE hX hS hAB) rfl rfl hl.1 rfl (lv_room (Nat.le_of_ble_eq_true rfl)) dX2_column_13 ⟨Nat.le_of_ble_eq_true rfl, Nat.le_of_ble_eq_true rfl⟩)
  refine call_v (wc := ([] : va_W)) (wc' := ([] : va_W)) (ws' := (gBo bh bk bo ++ (gS t (bk 0) nb now ++ (gE t (bk 2) eb ex)))) (cutB (bs := [gBo bh bk bo, gS t (bk 0) nb now, gE t (bk 2) eb ex]) (cs := []) (cs' := []) (bs' := [gBo bh bk bo, gS t (bk 0) nb now, gE t (bk 2) eb ex]) [] hP hD hS hA rfl rfl rfl rfl) hS (fun hPc hDc => va_runS (As := [.int w, .int 0, .int 5]) (rest := []) ⟨hx, hb, hml, hown, hts⟩ (mtX2_needRange l D t w 0 5 r3 h3 _) (va_cwS 3 hts (gBS kw81 kw82 kw2 kw83) rfl rfl rfl (by decide +kernel) ⟨Nat.le_of_ble_eq_true rfl, Nat.le_of_ble_eq_true rfl⟩) (sPc_S hPc hK hDc hE) rfl rfl hl.1 rfl (lv_room (Nat.le_of_ble_eq_true rfl)) dX2_column_13 ⟨Nat.zero_le _, Nat.zero_le _⟩) (fun H locs hP hD hS => ?_)
  refine lv_aload_n hx hb dX2_column_16 rfl (lv_at hl 0 rfl) ?_
  refine va_get (D := D) (ci := 2) (v := .ref (bk 2)) (C := RX2) (T := TX2) (N := 8) hx hb htB inlX2 hown hK hP 0 rfl rfl 2 (by decide) (htB _ kw22) (fun _ h9 => h9) rfl dX2_column_17 ?_
  refine lv_aload_n hx hb dX2_column_20 rfl (lv_at hl 0 rfl) ?_
  refine va_get (D := D) (ci := 2) (v := .ref (bk 0)) (C := RX2) (T := TX2) (N := 8) hx hb htB inlX2 hown hK hP 0 rfl rfl 0 (by decide) (htB _ kw17) (fun _ h9 => h9) rfl dX2_column_21 ?_
  refine lv_iload_n hx hb dX2_column_24 rfl (lv_at hl 1 rfl) ?_
  obtain ⟨r4, h4, h⟩ := ob h
  refine call_v (wc := (gE t (bk 2) eb ex ++ (gS t (bk 0) nb now))) (wc' := (gE t (bk 2) eb r4 ++ (gS t (bk 0) nb now))) (ws' := (gBo bh bk bo ++ (gS t (bk 0) nb now ++ (gE t (bk 2) eb r4)))) (cutB (bs := [gBo bh bk bo, gS t (bk 0) nb now, gE t (bk 2) eb ex]) (cs := [gE t (bk 2) eb ex, gS t (bk 0) nb now]) (cs' := [gE t (bk 2) eb r4, gS t (bk 0) nb now]) (bs' := [gBo bh bk bo, gS t (bk 0) nb now, gE t (bk 2) eb r4]) [2, 1] hP hD hS hA rfl rfl rfl rfl) hS (fun hPc hDc => va_runV (As := [.ref (bk 0), .int v]) (rest := []) ⟨hx, hb, hml, hown, hts⟩ (mtX0_expose l D t (bk 2) eb ex (bk 0) nb now v r4 h4 _) (cwV 2 hts (gBV kw224 kw225 kw226 kw21 kw227) rfl rfl rfl (by decide +kernel) ⟨Nat.le_of_ble_eq_true rfl, Nat.le_of_ble_eq_true rfl⟩) (sPc_V hPc hK hDc hE (va_recv hK hP (ci := 0) (q0 := 9) rfl rfl)) rfl rfl hl.1 rfl (lv_room (Nat.le_of_ble_eq_true rfl)) dX2_column_25 ⟨Nat.zero_le _, Nat.zero_le _⟩) (fun H locs hP hD hS => ?_)
  refine lv_iload_n hx hb dX2_column_28 rfl (lv_at hl 3 rfl) ?_
  by_cases c5 : w = 0
  · have h := it_p c5 h
    refine lv_tableIn (off := 35) (tgt := 64) hx hb dX2_column_29 (by rw [c5]; decide) (by rw [c5]; decide) (by rw [c5]; rfl) (by decide) ?_
    refine lv_aload_n hx hb dX2_column_64 rfl (lv_at hl 0 rfl) ?_
    refine va_get (D := D) (ci := 2) (v := .ref (bk 2)) (C := RX2) (T := TX2) (N := 8) hx hb htB inlX2 hown hK hP 0 rfl rfl 2 (by decide) (htB _ kw22) (fun _ h9 => h9) rfl dX2_column_65 ?_
    refine va_get (D := D) (ci := 0) (v := .ref (eb 0)) (C := RX0) (T := TX0) (N := 10) hx hb htB inlX0 hown hK hP 9 rfl rfl 0 (by decide) (htB _ kw458) (fun _ h9 => h9) rfl dX2_column_68 ?_
    refine lv_iload_n hx hb dX2_column_71 rfl (lv_at hl 2 rfl) ?_
    obtain ⟨r6, h6, h⟩ := ob h
    refine call_i (v := r6) (wc := (gA t (eb 0) 24 r4.1)) (wc' := (gA t (eb 0) 24 r4.1)) (ws' := (gBo bh bk bo ++ (gS t (bk 0) nb now ++ (gE t (bk 2) eb r4)))) (cutI (wc := (gA t (eb 0) 24 r4.1)) (wc' := (gA t (eb 0) 24 r4.1)) (ws' := (gBo bh bk bo ++ (gS t (bk 0) nb now ++ (gE t (bk 2) eb r4)))) [10] hP hD hS hA rfl rfl rfl rfl) hS (fun hPc hDc => va_runS (As := [.ref (eb 0), .int k]) (rest := []) ⟨hx, hb, hml, hown, hts⟩ (mtX2_at l D t (eb 0) 24 r4.1 k r6 h6 (by decide) _) (va_cwS 2 hts (gBS kw104 kw105 kw2 kw106) rfl rfl rfl (by decide +kernel) ⟨Nat.le_of_ble_eq_true rfl, Nat.le_of_ble_eq_true rfl⟩) (sPc_S hPc hK hDc hE) rfl rfl hl.1 rfl (lv_room (Nat.le_of_ble_eq_true rfl)) dX2_column_72 ⟨Nat.zero_le _, Nat.zero_le _⟩) (fun H locs hP hD hS => ?_)
    cases h
  · have h := it_n c5 h
    by_cases c7 : w = 1
    · have h := it_p c7 h
      refine lv_tableIn (off := 47) (tgt := 76) hx hb dX2_column_29 (by rw [c7]; decide) (by rw [c7]; decide) (by rw [c7]; rfl) (by decide) ?_
      refine lv_aload_n hx hb dX2_column_76 rfl (lv_at hl 0 rfl) ?_
      refine va_get (D := D) (ci := 2) (v := .ref (bk 2)) (C := RX2) (T := TX2) (N := 8) hx hb htB inlX2 hown hK hP 0 rfl rfl 2 (by decide) (htB _ kw22) (fun _ h9 => h9) rfl dX2_column_77 ?_
      refine va_get (D := D) (ci := 0) (v := .ref (eb 1)) (C := RX0) (T := TX0) (N := 10) hx hb htB inlX0 hown hK hP 9 rfl rfl 1 (by decide) (htB _ kw459) (fun _ h9 => h9) rfl dX2_column_80 ?_
      refine lv_iload_n hx hb dX2_column_83 rfl (lv_at hl 2 rfl) ?_
      obtain ⟨r8, h8, h⟩ := ob h
      refine call_i (v := r8) (wc := (gA t (eb 1) 24 r4.2.1)) (wc' := (gA t (eb 1) 24 r4.2.1)) (ws' := (gBo bh bk bo ++ (gS t (bk 0) nb now ++ (gE t (bk 2) eb r4)))) (cutI (wc := (gA t (eb 1) 24 r4.2.1)) (wc' := (gA t (eb 1) 24 r4.2.1)) (ws' := (gBo bh bk bo ++ (gS t (bk 0) nb now ++ (gE t (bk 2) eb r4)))) [11] hP hD hS hA rfl rfl rfl rfl) hS (fun hPc hDc => va_runS (As := [.ref (eb 1), .int k]) (rest := []) ⟨hx, hb, hml, hown, hts⟩ (mtX2_at l D t (eb 1) 24 r4.2.1 k r8 h8 (by decide) _) (va_cwS 2 hts (gBS kw104 kw105 kw2 kw106) rfl rfl rfl (by decide +kernel) ⟨Nat.le_of_ble_eq_true rfl, Nat.le_of_ble_eq_true rfl⟩) (sPc_S hPc hK hDc hE) rfl rfl hl.1 rfl (lv_room (Nat.le_of_ble_eq_true rfl)) dX2_column_84 ⟨Nat.zero_le _, Nat.zero_le _⟩) (fun H locs hP hD hS => ?_)
      cases h
    · have h := it_n c7 h
      by_cases c9 : w = 2
      · have h := it_p c9 h
        refine lv_tableIn (off := 59) (tgt := 88) hx hb dX2_column_29 (by rw [c9]; decide) (by rw [c9]; decide) (by rw [c9]; rfl) (by decide) ?_
        refine lv_aload_n hx hb dX2_column_88 rfl (lv_at hl 0 rfl) ?_
        refine va_get (D := D) (ci := 2) (v := .ref (bk 2)) (C := RX2) (T := TX2) (N := 8) hx hb htB inlX2 hown hK hP 0 rfl rfl 2 (by decide) (htB _ kw22) (fun _ h9 => h9) rfl dX2_column_89 ?_
        refine va_get (D := D) (ci := 0) (v := .ref (eb 2)) (C := RX0) (T := TX0) (N := 10) hx hb htB inlX0 hown hK hP 9 rfl rfl 2 (by decide) (htB _ kw460) (fun _ h9 => h9) rfl dX2_column_92 ?_
        refine lv_iload_n hx hb dX2_column_95 rfl (lv_at hl 2 rfl) ?_
        obtain ⟨r10, h10, h⟩ := ob h
        refine call_i (v := r10) (wc := (gA t (eb 2) 24 r4.2.2.1)) (wc' := (gA t (eb 2) 24 r4.2.2.1)) (ws' := (gBo bh bk bo ++ (gS t (bk 0) nb now ++ (gE t (bk 2) eb r4)))) (cutI (wc := (gA t (eb 2) 24 r4.2.2.1)) (wc' := (gA t (eb 2) 24 r4.2.2.1)) (ws' := (gBo bh bk bo ++ (gS t (bk 0) nb now ++ (gE t (bk 2) eb r4)))) [12] hP hD hS hA rfl rfl rfl rfl) hS (fun hPc hDc => va_runS (As := [.ref (eb 2), .int k]) (rest := []) ⟨hx, hb, hml, hown, hts⟩ (mtX2_at l D t (eb 2) 24 r4.2.2.1 k r10 h10 (by decide) _) (va_cwS 2 hts (gBS kw104 kw105 kw2 kw106) rfl rfl rfl (by decide +kernel) ⟨Nat.le_of_ble_eq_true rfl, Nat.le_of_ble_eq_true rfl⟩) (sPc_S hPc hK hDc hE) rfl rfl hl.1 rfl (lv_room (Nat.le_of_ble_eq_true rfl)) dX2_column_96 ⟨Nat.zero_le _, Nat.zero_le _⟩) (fun H locs hP hD hS => ?_)
        cases h
      · have h := it_n c9 h
        by_cases c11 : w = 3
        · have h := it_p c11 h
          refine lv_tableIn (off := 71) (tgt := 100) hx hb dX2_column_29 (by rw [c11]; decide) (by rw [c11]; decide) (by rw [c11]; rfl) (by decide) ?_
          refine lv_aload_n hx hb dX2_column_100 rfl (lv_at hl 0 rfl) ?_
          refine va_get (D := D) (ci := 2) (v := .ref (bk 2)) (C := RX2) (T := TX2) (N := 8) hx hb htB inlX2 hown hK hP 0 rfl rfl 2 (by decide) (htB _ kw22) (fun _ h9 => h9) rfl dX2_column_101 ?_
          refine va_get (D := D) (ci := 0) (v := .ref (eb 2)) (C := RX0) (T := TX0) (N := 10) hx hb htB inlX0 hown hK hP 9 rfl rfl 2 (by decide) (htB _ kw460) (fun _ h9 => h9) rfl dX2_column_104 ?_
          refine lv_iload_n hx hb dX2_column_107 rfl (lv_at hl 2 rfl) ?_
          obtain ⟨r12, h12, h⟩ := ob h
          refine call_i (v := r12) (wc := (gA t (eb 2) 24 r4.2.2.1)) (wc' := (gA t (eb 2) 24 r4.2.2.1)) (ws' := (gBo bh bk bo ++ (gS t (bk 0) nb now ++ (gE t (bk 2) eb r4)))) (cutI (wc := (gA t (eb 2) 24 r4.2.2.1)) (wc' := (gA t (eb 2) 24 r4.2.2.1)) (ws' := (gBo bh bk bo ++ (gS t (bk 0) nb now ++ (gE t (bk 2) eb r4)))) [12] hP hD hS hA rfl rfl rfl rfl) hS (fun hPc hDc => va_runS (As := [.ref (eb 2), .int k]) (rest := []) ⟨hx, hb, hml, hown, hts⟩ (mtX2_at l D t (eb 2) 24 r4.2.2.1 k r12 h12 (by decide) _) (va_cwS 2 hts (gBS kw104 kw105 kw2 kw106) rfl rfl rfl (by decide +kernel) ⟨Nat.le_of_ble_eq_true rfl, Nat.le_of_ble_eq_true rfl⟩) (sPc_S hPc hK hDc hE) rfl rfl hl.1 rfl (lv_room (Nat.le_of_ble_eq_true rfl)) dX2_column_108 ⟨Nat.zero_le _, Nat.zero_le _⟩) (fun H locs hP hD hS => ?_)
          refine lv_iload_n hx hb dX2_column_111 rfl (lv_at hl 1 rfl) ?_
          obtain ⟨r13, h13, h⟩ := ob h
          refine call_i (v := r13) (wc := ([] : va_W)) (wc' := ([] : va_W)) (ws' := (gBo bh bk bo ++ (gS t (bk 0) nb now ++ (gE t (bk 2) eb r4)))) (cutB (bs := [gBo bh bk bo, gS t (bk 0) nb now, gE t (bk 2) eb r4]) (cs := []) (cs' := []) (bs' := [gBo bh bk bo, gS t (bk 0) nb now, gE t (bk 2) eb r4]) [] hP hD hS hA rfl rfl rfl rfl) hS (fun hPc hDc => va_runS (As := [.int v]) (rest := [.int r12]) ⟨hx, hb, hml, hown, hts⟩ (mtX2_wantedLight l D t v r13 h13 _) (va_cwS 1 hts (gBS kw462 kw246 kw2 kw247) rfl rfl rfl (by decide +kernel) ⟨Nat.le_of_ble_eq_true rfl, Nat.le_of_ble_eq_true rfl⟩) (sPc_S hPc hK hDc hE) rfl rfl hl.1 rfl (lv_room (Nat.le_of_ble_eq_true rfl)) dX2_column_112 ⟨Nat.zero_le _, Nat.zero_le _⟩) (fun H locs hP hD hS => ?_)
          refine lv_isub hx hb dX2_column_115 ?_
          refine va_mabs hx hb (by rw [hml]; exact hl.1.symm) hown (htB _ kw461) (htB _ kw271) (htB _ kw92) (htB _ kw272) (Nat.le_of_ble_eq_true rfl) (Nat.le_of_ble_eq_true rfl) (Nat.zero_le _) (Nat.zero_le _) dX2_column_116 ?_
          cases h
        · have h := it_n c11 h
          by_cases c14 : w = 4
          · have h := it_p c14 h
            refine lv_tableIn (off := 91) (tgt := 120) hx hb dX2_column_29 (by rw [c14]; decide) (by rw [c14]; decide) (by rw [c14]; rfl) (by decide) ?_
            refine lv_aload_n hx hb dX2_column_120 rfl (lv_at hl 0 rfl) ?_
            refine va_get (D := D) (ci := 2) (v := .ref (bk 0)) (C := RX2) (T := TX2) (N := 8) hx hb htB inlX2 hown hK hP 0 rfl rfl 0 (by decide) (htB _ kw17) (fun _ h9 => h9) rfl dX2_column_121 ?_
            refine lv_iconst (v := 0) hx hb dX2_column_124 (by decide) ?_
            obtain ⟨r15, h15, h⟩ := ob h
            refine call_r (v := if 0 = 0 then nb 2 else nb 3) (wc := (gS t (bk 0) nb now)) (wc' := (gS t (bk 0) nb now)) (ws' := (gBo bh bk bo ++ (gS t (bk 0) nb now ++ (gE t (bk 2) eb r4)))) (cutB (bs := [gBo bh bk bo, gS t (bk 0) nb now, gE t (bk 2) eb r4]) (cs := [gS t (bk 0) nb now]) (cs' := [gS t (bk 0) nb now]) (bs' := [gBo bh bk bo, gS t (bk 0) nb now, gE t (bk 2) eb r4]) [1] hP hD hS hA rfl rfl rfl rfl) hS (fun hPc hDc => va_runV (As := [.int 0]) (rest := []) ⟨hx, hb, hml, hown, hts⟩ (mtX1_dragsOf l D t (bk 0) nb now 0 r15 h15 _) (cwV 1 hts (gBV kw148 kw149 kw150 kw16 kw151) rfl rfl rfl (by decide +kernel) ⟨Nat.le_of_ble_eq_true rfl, Nat.le_of_ble_eq_true rfl⟩) (sPc_V hPc hK hDc hE (va_recv hK hP (ci := 1) (q0 := 1) rfl rfl)) rfl rfl hl.1 rfl (lv_room (Nat.le_of_ble_eq_true rfl)) dX2_column_125 ⟨Nat.zero_le _, Nat.zero_le _⟩) (fun H locs hP hD hS => ?_)
            rw [if_pos (by decide)]
            refine lv_iload_n hx hb dX2_column_128 rfl (lv_at hl 2 rfl) ?_
            obtain ⟨r16, h16, h⟩ := ob h
            refine call_i (v := r16) (wc := (gA t (nb 2) 24 now.2.2.1)) (wc' := (gA t (nb 2) 24 now.2.2.1)) (ws' := (gBo bh bk bo ++ (gS t (bk 0) nb now ++ (gE t (bk 2) eb r4)))) (cutI (wc := (gA t (nb 2) 24 now.2.2.1)) (wc' := (gA t (nb 2) 24 now.2.2.1)) (ws' := (gBo bh bk bo ++ (gS t (bk 0) nb now ++ (gE t (bk 2) eb r4)))) [4] hP hD hS hA rfl rfl rfl rfl) hS (fun hPc hDc => va_runS (As := [.ref (nb 2), .int k]) (rest := []) ⟨hx, hb, hml, hown, hts⟩ (mtX2_at l D t (nb 2) 24 now.2.2.1 k r16 h16 (by decide) _) (va_cwS 2 hts (gBS kw104 kw105 kw2 kw106) rfl rfl rfl (by decide +kernel) ⟨Nat.le_of_ble_eq_true rfl, Nat.le_of_ble_eq_true rfl⟩) (sPc_S hPc hK hDc hE) rfl rfl hl.1 rfl (lv_room (Nat.le_of_ble_eq_true rfl)) dX2_column_129 ⟨Nat.zero_le _, Nat.zero_le _⟩) (fun H locs hP hD hS => ?_)
            cases h
          · have h := it_n c14 h
            refine lv_tableOut (tgt := 133) hx hb dX2_column_29 (tab_0_4 c5 c7 c9 c11 c14) (by decide) ?_
            refine lv_aload_n hx hb dX2_column_133 rfl (lv_at hl 0 rfl) ?_
            refine va_get (D := D) (ci := 2) (v := .ref (bk 0)) (C := RX2) (T := TX2) (N := 8) hx hb htB inlX2 hown hK hP 0 rfl rfl 0 (by decide) (htB _ kw17) (fun _ h9 => h9) rfl dX2_column_134 ?_
            refine lv_iconst (v := 1) hx hb dX2_column_137 (by decide) ?_
            obtain ⟨r17, h17, h⟩ := ob h
            refine call_r (v := if 1 = 0 then nb 2 else nb 3) (wc := (gS t (bk 0) nb now)) (wc' := (gS t (bk 0) nb now)) (ws' := (gBo bh bk bo ++ (gS t (bk 0) nb now ++ (gE t (bk 2) eb r4)))) (cutB (bs := [gBo bh bk bo, gS t (bk 0) nb now, gE t (bk 2) eb r4]) (cs := [gS t (bk 0) nb now]) (cs' := [gS t (bk 0) nb now]) (bs' := [gBo bh bk bo, gS t (bk 0) nb now, gE t (bk 2) eb r4]) [1] hP hD hS hA rfl rfl rfl rfl) hS (fun hPc hDc => va_runV (As := [.int 1]) (rest := []) ⟨hx, hb, hml, hown, hts⟩ (mtX1_dragsOf l D t (bk 0) nb now 1 r17 h17 _) (cwV 1 hts (gBV kw148 kw149 kw150 kw16 kw151) rfl rfl rfl (by decide +kernel) ⟨Nat.le_of_ble_eq_true rfl, Nat.le_of_ble_eq_true rfl⟩) (sPc_V hPc hK hDc hE (va_recv hK hP (ci := 1) (q0 := 1) rfl rfl)) rfl rfl hl.1 rfl (lv_room (Nat.le_of_ble_eq_true rfl)) dX2_column_138 ⟨Nat.zero_le _, Nat.zero_le _⟩) (fun H locs hP hD hS => ?_)
            rw [if_neg (by decide)]
            refine lv_iload_n hx hb dX2_column_141 rfl (lv_at hl 2 rfl) ?_
            obtain ⟨r18, h18, h⟩ := ob h
            refine call_i (v := r18) (wc := (gA t (nb 3) 24 now.2.2.2.1)) (wc' := (gA t (nb 3) 24 now.2.2.2.1)) (ws' := (gBo bh bk bo ++ (gS t (bk 0) nb now ++ (gE t (bk 2) eb r4)))) (cutI (wc := (gA t (nb 3) 24 now.2.2.2.1)) (wc' := (gA t (nb 3) 24 now.2.2.2.1)) (ws' := (gBo bh bk bo ++ (gS t (bk 0) nb now ++ (gE t (bk 2) eb r4)))) [5] hP hD hS hA rfl rfl rfl rfl) hS (fun hPc hDc => va_runS (As := [.ref (nb 3), .int k]) (rest := []) ⟨hx, hb, hml, hown, hts⟩ (mtX2_at l D t (nb 3) 24 now.2.2.2.1 k r18 h18 (by decide) _) (va_cwS 2 hts (gBS kw104 kw105 kw2 kw106) rfl rfl rfl (by decide +kernel) ⟨Nat.le_of_ble_eq_true rfl, Nat.le_of_ble_eq_true rfl⟩) (sPc_S hPc hK hDc hE) rfl rfl hl.1 rfl (lv_room (Nat.le_of_ble_eq_true rfl)) dX2_column_142 ⟨Nat.zero_le _, Nat.zero_le _⟩) (fun H locs hP hD hS => ?_)
            cases h

set_option maxHeartbeats 4000000 in
set_option maxRecDepth 100000 in
theorem xmX2_speed (l : Launch) (hfl : l.stackTraces = false) (D : va_G) (t : Nat → ClassId) (bh : Nat) (bk : Nat → Nat) (bo : BoT) (nb : Nat → Nat) (now : ShT) (eb : Nat → Nat) (ex : ExT) (v : Int32) (w : Int32) (E : Nat) (h : fX2_speed bo now ex v w = some (.inl E)) (sz : Nat) : vx_Met l yX2_speed zX2_speed ({ frames := 8, cells := 1, slots := 6, locals := 123 }) (xPc D t (gBo bh bk bo ++ (gS t (bk 0) nb now ++ (gE t (bk 2) eb ex))) sz [.ref bh, .int v, .int w]) (qX (va_A (gBo bh bk bo ++ (gS t (bk 0) nb now ++ (gE t (bk 2) eb ex))) sz)) (xC D t (gBo bh bk bo ++ (gS t (bk 0) nb now ++ (gE t (bk 2) eb ex))) E (va_A (gBo bh bk bo ++ (gS t (bk 0) nb now ++ (gE t (bk 2) eb ex))) sz)) 1 6 (va_A (gBo bh bk bo ++ (gS t (bk 0) nb now ++ (gE t (bk 2) eb ex))) sz) := by
  refine met_ofX (cc := cX2_speed) (maxL := 3) (ret := some .int) (by decide) rfl (Nat.le_of_ble_eq_true rfl) ?_
  intro p e s m args below meth c A hx hb hr hml hts hown hlocks hA hP hK hD hE hS hX hT ls hl
  have htB : ∀ w ∈ BIG, w.before args s = true := fun w h => hts w (List.mem_cons_of_mem _ h)
  have hown : s.vm.findClass RX2 = some m.cls := hown
  have hl : lv_has ls 3 [(0, .ref bh), (1, .int v), (2, .int w)] := hl
  unfold fX2_speed at h
  refine lv_iload_n hx hb dX2_speed_0 rfl (lv_at hl 1 rfl) ?_
  rcases tb_l h with h1 | ⟨r1, h1, h⟩
  · exact call_x (E := E) (wc := ([] : va_W)) (ws := (gBo bh bk bo ++ (gS t (bk 0) nb now ++ (gE t (bk 2) eb ex)))) (cutB (bs := [gBo bh bk bo, gS t (bk 0) nb now, gE t (bk 2) eb ex]) (cs := []) (cs' := []) (bs' := [gBo bh bk bo, gS t (bk 0) nb now, gE t (bk 2) eb ex]) [] hP hD hS hA rfl rfl rfl rfl) hS hK hT hlocks (Nat.le_of_ble_eq_true rfl) (Nat.le_of_ble_eq_true rfl) (fun hPc hDc hAB => vx_runS (As := [.int v]) (rest := []) ⟨hx, hb, hml, hown, hts⟩ (xmX2_needSpeed l hfl D t v E h1 _) (va_cwS 1 hts (gBS kw179 kw180 kw2 kw181) rfl rfl rfl (by decide +kernel) ⟨Nat.le_of_ble_eq_true rfl, Nat.le_of_ble_eq_true rfl⟩) (xPc_S hPc hK hDc hE hX hS hAB) rfl rfl hl.1 rfl (lv_room (Nat.le_of_ble_eq_true rfl)) dX2_speed_1 ⟨Nat.le_of_ble_eq_true rfl, Nat.le_of_ble_eq_true rfl⟩)
  refine call_v (wc := ([] : va_W)) (wc' := ([] : va_W)) (ws' := (gBo bh bk bo ++ (gS t (bk 0) nb now ++ (gE t (bk 2) eb ex)))) (cutB (bs := [gBo bh bk bo, gS t (bk 0) nb now, gE t (bk 2) eb ex]) (cs := []) (cs' := []) (bs' := [gBo bh bk bo, gS t (bk 0) nb now, gE t (bk 2) eb ex]) [] hP hD hS hA rfl rfl rfl rfl) hS (fun hPc hDc => va_runS (As := [.int v]) (rest := []) ⟨hx, hb, hml, hown, hts⟩ (mtX2_needSpeed l D t v r1 h1 _) (va_cwS 1 hts (gBS kw179 kw180 kw2 kw181) rfl rfl rfl (by decide +kernel) ⟨Nat.le_of_ble_eq_true rfl, Nat.le_of_ble_eq_true rfl⟩) (sPc_S hPc hK hDc hE) rfl rfl hl.1 rfl (lv_room (Nat.le_of_ble_eq_true rfl)) dX2_speed_1 ⟨Nat.zero_le _, Nat.zero_le _⟩) (fun H locs hP hD hS => ?_)
  refine lv_iload_n hx hb dX2_speed_4 rfl (lv_at hl 2 rfl) ?_
  refine lv_iconst (v := 0) hx hb dX2_speed_5 (by decide) ?_
  refine lv_bipush (v := 8) hx hb dX2_speed_6 (by decide) ?_
  rcases tb_l h with h2 | ⟨r2, h2, h⟩
  · exact call_x (E := E) (wc := ([] : va_W)) (ws := (gBo bh bk bo ++ (gS t (bk 0) nb now ++ (gE t (bk 2) eb ex)))) (cutB (bs := [gBo bh bk bo, gS t (bk 0) nb now, gE t (bk 2) eb ex]) (cs := []) (cs' := []) (bs' := [gBo bh bk bo, gS t (bk 0) nb now, gE t (bk 2) eb ex]) [] hP hD hS hA rfl rfl rfl rfl) hS hK hT hlocks (Nat.le_of_ble_eq_true rfl) (Nat.le_of_ble_eq_true rfl) (fun hPc hDc hAB => vx_runS (As := [.int w, .int 0, .int 8]) (rest := []) ⟨hx, hb, hml, hown, hts⟩ (xmX2_needRange l hfl D t w 0 8 E h2 _) (va_cwS 3 hts (gBS kw81 kw82 kw2 kw83) rfl rfl rfl (by decide +kernel) ⟨Nat.le_of_ble_eq_true rfl, Nat.le_of_ble_eq_true rfl⟩) (xPc_S hPc hK hDc hE hX hS hAB) rfl rfl hl.1 rfl (lv_room (Nat.le_of_ble_eq_true rfl)) dX2_speed_8 ⟨Nat.le_of_ble_eq_true rfl, Nat.le_of_ble_eq_true rfl⟩)
  refine call_v (wc := ([] : va_W)) (wc' := ([] : va_W)) (ws' := (gBo bh bk bo ++ (gS t (bk 0) nb now ++ (gE t (bk 2) eb ex)))) (cutB (bs := [gBo bh bk bo, gS t (bk 0) nb now, gE t (bk 2) eb ex]) (cs := []) (cs' := []) (bs' := [gBo bh bk bo, gS t (bk 0) nb now, gE t (bk 2) eb ex]) [] hP hD hS hA rfl rfl rfl rfl) hS (fun hPc hDc => va_runS (As := [.int w, .int 0, .int 8]) (rest := []) ⟨hx, hb, hml, hown, hts⟩ (mtX2_needRange l D t w 0 8 r2 h2 _) (va_cwS 3 hts (gBS kw81 kw82 kw2 kw83) rfl rfl rfl (by decide +kernel) ⟨Nat.le_of_ble_eq_true rfl, Nat.le_of_ble_eq_true rfl⟩) (sPc_S hPc hK hDc hE) rfl rfl hl.1 rfl (lv_room (Nat.le_of_ble_eq_true rfl)) dX2_speed_8 ⟨Nat.zero_le _, Nat.zero_le _⟩) (fun H locs hP hD hS => ?_)
  refine lv_aload_n hx hb dX2_speed_11 rfl (lv_at hl 0 rfl) ?_
  refine va_get (D := D) (ci := 2) (v := .ref (bk 2)) (C := RX2) (T := TX2) (N := 8) hx hb htB inlX2 hown hK hP 0 rfl rfl 2 (by decide) (htB _ kw22) (fun _ h9 => h9) rfl dX2_speed_12 ?_
  refine lv_aload_n hx hb dX2_speed_15 rfl (lv_at hl 0 rfl) ?_
  refine va_get (D := D) (ci := 2) (v := .ref (bk 0)) (C := RX2) (T := TX2) (N := 8) hx hb htB inlX2 hown hK hP 0 rfl rfl 0 (by decide) (htB _ kw17) (fun _ h9 => h9) rfl dX2_speed_16 ?_
  refine lv_iload_n hx hb dX2_speed_19 rfl (lv_at hl 1 rfl) ?_
  obtain ⟨r3, h3, h⟩ := ob h
  refine call_v (wc := (gE t (bk 2) eb ex ++ (gS t (bk 0) nb now))) (wc' := (gE t (bk 2) eb r3 ++ (gS t (bk 0) nb now))) (ws' := (gBo bh bk bo ++ (gS t (bk 0) nb now ++ (gE t (bk 2) eb r3)))) (cutB (bs := [gBo bh bk bo, gS t (bk 0) nb now, gE t (bk 2) eb ex]) (cs := [gE t (bk 2) eb ex, gS t (bk 0) nb now]) (cs' := [gE t (bk 2) eb r3, gS t (bk 0) nb now]) (bs' := [gBo bh bk bo, gS t (bk 0) nb now, gE t (bk 2) eb r3]) [2, 1] hP hD hS hA rfl rfl rfl rfl) hS (fun hPc hDc => va_runV (As := [.ref (bk 0), .int v]) (rest := []) ⟨hx, hb, hml, hown, hts⟩ (mtX0_expose l D t (bk 2) eb ex (bk 0) nb now v r3 h3 _) (cwV 2 hts (gBV kw224 kw225 kw226 kw21 kw227) rfl rfl rfl (by decide +kernel) ⟨Nat.le_of_ble_eq_true rfl, Nat.le_of_ble_eq_true rfl⟩) (sPc_V hPc hK hDc hE (va_recv hK hP (ci := 0) (q0 := 9) rfl rfl)) rfl rfl hl.1 rfl (lv_room (Nat.le_of_ble_eq_true rfl)) dX2_speed_20 ⟨Nat.zero_le _, Nat.zero_le _⟩) (fun H locs hP hD hS => ?_)
  refine lv_iload_n hx hb dX2_speed_23 rfl (lv_at hl 2 rfl) ?_
  by_cases c4 : w = 0
  · have h := it_p c4 h
    refine lv_tableIn (off := 48) (tgt := 72) hx hb dX2_speed_24 (by rw [c4]; decide) (by rw [c4]; decide) (by rw [c4]; rfl) (by decide) ?_
    refine lv_iload_n hx hb dX2_speed_72 rfl (lv_at hl 1 rfl) ?_
    obtain ⟨r5, h5, h⟩ := ob h
    refine call_i (v := r5) (wc := ([] : va_W)) (wc' := ([] : va_W)) (ws' := (gBo bh bk bo ++ (gS t (bk 0) nb now ++ (gE t (bk 2) eb r3)))) (cutB (bs := [gBo bh bk bo, gS t (bk 0) nb now, gE t (bk 2) eb r3]) (cs := []) (cs' := []) (bs' := [gBo bh bk bo, gS t (bk 0) nb now, gE t (bk 2) eb r3]) [] hP hD hS hA rfl rfl rfl rfl) hS (fun hPc hDc => va_runS (As := [.int v]) (rest := []) ⟨hx, hb, hml, hown, hts⟩ (mtX2_wantedLight l D t v r5 h5 _) (va_cwS 1 hts (gBS kw462 kw246 kw2 kw247) rfl rfl rfl (by decide +kernel) ⟨Nat.le_of_ble_eq_true rfl, Nat.le_of_ble_eq_true rfl⟩) (sPc_S hPc hK hDc hE) rfl rfl hl.1 rfl (lv_room (Nat.le_of_ble_eq_true rfl)) dX2_speed_73 ⟨Nat.zero_le _, Nat.zero_le _⟩) (fun H locs hP hD hS => ?_)
    cases h
  · have h := it_n c4 h
    by_cases c6 : w = 1
    · have h := it_p c6 h
      refine lv_tableIn (off := 53) (tgt := 77) hx hb dX2_speed_24 (by rw [c6]; decide) (by rw [c6]; decide) (by rw [c6]; rfl) (by decide) ?_
      refine lv_aload_n hx hb dX2_speed_77 rfl (lv_at hl 0 rfl) ?_
      refine va_get (D := D) (ci := 2) (v := .ref (bk 0)) (C := RX2) (T := TX2) (N := 8) hx hb htB inlX2 hown hK hP 0 rfl rfl 0 (by decide) (htB _ kw17) (fun _ h9 => h9) rfl dX2_speed_78 ?_
      refine va_get (D := D) (ci := 1) (v := .ref (nb 4)) (C := RX1) (T := TX1) (N := 10) hx hb htB inlX1 hown hK hP 1 rfl rfl 4 (by decide) (htB _ kw178) (fun _ h9 => h9) rfl dX2_speed_81 ?_
      refine lv_iload_n hx hb dX2_speed_84 rfl (lv_at hl 1 rfl) ?_
      obtain ⟨r7, h7, h⟩ := ob h
      refine call_i (v := r7) (wc := (gA t (nb 4) 6 now.2.2.2.2.1)) (wc' := (gA t (nb 4) 6 now.2.2.2.2.1)) (ws' := (gBo bh bk bo ++ (gS t (bk 0) nb now ++ (gE t (bk 2) eb r3)))) (cutI (wc := (gA t (nb 4) 6 now.2.2.2.2.1)) (wc' := (gA t (nb 4) 6 now.2.2.2.2.1)) (ws' := (gBo bh bk bo ++ (gS t (bk 0) nb now ++ (gE t (bk 2) eb r3)))) [6] hP hD hS hA rfl rfl rfl rfl) hS (fun hPc hDc => va_runS (As := [.ref (nb 4), .int v]) (rest := []) ⟨hx, hb, hml, hown, hts⟩ (mtX2_at l D t (nb 4) 6 now.2.2.2.2.1 v r7 h7 (by decide) _) (va_cwS 2 hts (gBS kw104 kw105 kw2 kw106) rfl rfl rfl (by decide +kernel) ⟨Nat.le_of_ble_eq_true rfl, Nat.le_of_ble_eq_true rfl⟩) (sPc_S hPc hK hDc hE) rfl rfl hl.1 rfl (lv_room (Nat.le_of_ble_eq_true rfl)) dX2_speed_85 ⟨Nat.zero_le _, Nat.zero_le _⟩) (fun H locs hP hD hS => ?_)
      refine lv_bipush (v := 100) hx hb dX2_speed_88 (by decide) ?_
      refine lv_iadd hx hb dX2_speed_90 ?_
      cases h
    · have h := it_n c6 h
      by_cases c8 : w = 2
      · have h := it_p c8 h
        refine lv_tableIn (off := 68) (tgt := 92) hx hb dX2_speed_24 (by rw [c8]; decide) (by rw [c8]; decide) (by rw [c8]; rfl) (by decide) ?_
        refine lv_aload_n hx hb dX2_speed_92 rfl (lv_at hl 0 rfl) ?_
        refine va_get (D := D) (ci := 2) (v := .ref (bk 0)) (C := RX2) (T := TX2) (N := 8) hx hb htB inlX2 hown hK hP 0 rfl rfl 0 (by decide) (htB _ kw17) (fun _ h9 => h9) rfl dX2_speed_93 ?_
        refine lv_iload_n hx hb dX2_speed_96 rfl (lv_at hl 1 rfl) ?_
        obtain ⟨r9, h9, h⟩ := ob h
        refine call_i (v := r9) (wc := (gS t (bk 0) nb now)) (wc' := (gS t (bk 0) nb now)) (ws' := (gBo bh bk bo ++ (gS t (bk 0) nb now ++ (gE t (bk 2) eb r3)))) (cutB (bs := [gBo bh bk bo, gS t (bk 0) nb now, gE t (bk 2) eb r3]) (cs := [gS t (bk 0) nb now]) (cs' := [gS t (bk 0) nb now]) (bs' := [gBo bh bk bo, gS t (bk 0) nb now, gE t (bk 2) eb r3]) [1] hP hD hS hA rfl rfl rfl rfl) hS (fun hPc hDc => va_runV (As := [.int v]) (rest := []) ⟨hx, hb, hml, hown, hts⟩ (mtX1_startOfSecond l D t (bk 0) nb now v r9 h9 _) (cwV 1 hts (gBV kw483 kw242 kw243 kw16 kw244) rfl rfl rfl (by decide +kernel) ⟨Nat.le_of_ble_eq_true rfl, Nat.le_of_ble_eq_true rfl⟩) (sPc_V hPc hK hDc hE (va_recv hK hP (ci := 1) (q0 := 1) rfl rfl)) rfl rfl hl.1 rfl (lv_room (Nat.le_of_ble_eq_true rfl)) dX2_speed_97 ⟨Nat.zero_le _, Nat.zero_le _⟩) (fun H locs hP hD hS => ?_)
        cases h
      · have h := it_n c8 h
        by_cases c10 : w = 3
        · have h := it_p c10 h
          refine lv_tableIn (off := 77) (tgt := 101) hx hb dX2_speed_24 (by rw [c10]; decide) (by rw [c10]; decide) (by rw [c10]; rfl) (by decide) ?_
          refine lv_aload_n hx hb dX2_speed_101 rfl (lv_at hl 0 rfl) ?_
          refine va_get (D := D) (ci := 2) (v := .ref (bk 2)) (C := RX2) (T := TX2) (N := 8) hx hb htB inlX2 hown hK hP 0 rfl rfl 2 (by decide) (htB _ kw22) (fun _ h9 => h9) rfl dX2_speed_102 ?_
          refine va_get (D := D) (ci := 0) (v := .int r3.2.2.2.1) (C := RX0) (T := TX0) (N := 10) hx hb htB inlX0 hown hK hP 9 rfl rfl 3 (by decide) (htB _ kw478) (fun _ h9 => h9) rfl dX2_speed_105 ?_
          cases h
        · have h := it_n c10 h
          by_cases c11 : w = 4
          · have h := it_p c11 h
            refine lv_tableIn (off := 85) (tgt := 109) hx hb dX2_speed_24 (by rw [c11]; decide) (by rw [c11]; decide) (by rw [c11]; rfl) (by decide) ?_
            refine lv_aload_n hx hb dX2_speed_109 rfl (lv_at hl 0 rfl) ?_
            refine va_get (D := D) (ci := 2) (v := .ref (bk 2)) (C := RX2) (T := TX2) (N := 8) hx hb htB inlX2 hown hK hP 0 rfl rfl 2 (by decide) (htB _ kw22) (fun _ h9 => h9) rfl dX2_speed_110 ?_
            obtain ⟨r12, h12, h⟩ := ob h
            refine call_i (v := r12) (wc := (gE t (bk 2) eb r3)) (wc' := (gE t (bk 2) eb r3)) (ws' := (gBo bh bk bo ++ (gS t (bk 0) nb now ++ (gE t (bk 2) eb r3)))) (cutB (bs := [gBo bh bk bo, gS t (bk 0) nb now, gE t (bk 2) eb r3]) (cs := [gE t (bk 2) eb r3]) (cs' := [gE t (bk 2) eb r3]) (bs' := [gBo bh bk bo, gS t (bk 0) nb now, gE t (bk 2) eb r3]) [2] hP hD hS hA rfl rfl rfl rfl) hS (fun hPc hDc => va_runV (As := []) (rest := []) ⟨hx, hb, hml, hown, hts⟩ (mtX0_spread l D t (bk 2) eb r3 r12 h12 _) (cwV 0 hts (gBV kw282 kw279 kw280 kw21 kw281) rfl rfl rfl (by decide +kernel) ⟨Nat.le_of_ble_eq_true rfl, Nat.le_of_ble_eq_true rfl⟩) (sPc_V hPc hK hDc hE (va_recv hK hP (ci := 0) (q0 := 9) rfl rfl)) rfl rfl hl.1 rfl (lv_room (Nat.le_of_ble_eq_true rfl)) dX2_speed_113 ⟨Nat.zero_le _, Nat.zero_le _⟩) (fun H locs hP hD hS => ?_)
            cases h
          · have h := it_n c11 h
            by_cases c13 : w = 5
            · have h := it_p c13 h
              refine lv_tableIn (off := 93) (tgt := 117) hx hb dX2_speed_24 (by rw [c13]; decide) (by rw [c13]; decide) (by rw [c13]; rfl) (by decide) ?_
              refine lv_aload_n hx hb dX2_speed_117 rfl (lv_at hl 0 rfl) ?_
              refine va_get (D := D) (ci := 2) (v := .ref (bk 2)) (C := RX2) (T := TX2) (N := 8) hx hb htB inlX2 hown hK hP 0 rfl rfl 2 (by decide) (htB _ kw22) (fun _ h9 => h9) rfl dX2_speed_118 ?_
              refine va_get (D := D) (ci := 0) (v := .int r3.2.2.2.2.2.2.2.1) (C := RX0) (T := TX0) (N := 10) hx hb htB inlX0 hown hK hP 9 rfl rfl 7 (by decide) (htB _ kw479) (fun _ h9 => h9) rfl dX2_speed_121 ?_
              cases h
            · have h := it_n c13 h
              by_cases c14 : w = 6
              · have h := it_p c14 h
                refine lv_tableIn (off := 101) (tgt := 125) hx hb dX2_speed_24 (by rw [c14]; decide) (by rw [c14]; decide) (by rw [c14]; rfl) (by decide) ?_
                refine lv_aload_n hx hb dX2_speed_125 rfl (lv_at hl 0 rfl) ?_
                refine va_get (D := D) (ci := 2) (v := .ref (bk 2)) (C := RX2) (T := TX2) (N := 8) hx hb htB inlX2 hown hK hP 0 rfl rfl 2 (by decide) (htB _ kw22) (fun _ h9 => h9) rfl dX2_speed_126 ?_
                refine va_get (D := D) (ci := 0) (v := .int r3.2.2.2.2.2.2.2.2.1) (C := RX0) (T := TX0) (N := 10) hx hb htB inlX0 hown hK hP 9 rfl rfl 8 (by decide) (htB _ kw480) (fun _ h9 => h9) rfl dX2_speed_129 ?_
                cases h
              · have h := it_n c14 h
                by_cases c15 : w = 7
                · have h := it_p c15 h
                  refine lv_tableIn (off := 109) (tgt := 133) hx hb dX2_speed_24 (by rw [c15]; decide) (by rw [c15]; decide) (by rw [c15]; rfl) (by decide) ?_
                  refine lv_aload_n hx hb dX2_speed_133 rfl (lv_at hl 0 rfl) ?_
                  refine va_get (D := D) (ci := 2) (v := .ref (bk 2)) (C := RX2) (T := TX2) (N := 8) hx hb htB inlX2 hown hK hP 0 rfl rfl 2 (by decide) (htB _ kw22) (fun _ h9 => h9) rfl dX2_speed_134 ?_
                  refine va_get (D := D) (ci := 0) (v := .int r3.2.2.2.2.2.2.2.2.2) (C := RX0) (T := TX0) (N := 10) hx hb htB inlX0 hown hK hP 9 rfl rfl 9 (by decide) (htB _ kw481) (fun _ h9 => h9) rfl dX2_speed_137 ?_
                  cases h
                · have h := it_n c15 h
                  refine lv_tableOut (tgt := 141) hx hb dX2_speed_24 (tab_0_7 c4 c6 c8 c10 c11 c13 c14 c15) (by decide) ?_
                  refine lv_aload_n hx hb dX2_speed_141 rfl (lv_at hl 0 rfl) ?_
                  refine va_get (D := D) (ci := 2) (v := .ref (bk 0)) (C := RX2) (T := TX2) (N := 8) hx hb htB inlX2 hown hK hP 0 rfl rfl 0 (by decide) (htB _ kw17) (fun _ h9 => h9) rfl dX2_speed_142 ?_
                  refine va_get (D := D) (ci := 1) (v := .ref (nb 6)) (C := RX1) (T := TX1) (N := 10) hx hb htB inlX1 hown hK hP 1 rfl rfl 6 (by decide) (htB _ kw482) (fun _ h9 => h9) rfl dX2_speed_145 ?_
                  refine lv_iload_n hx hb dX2_speed_148 rfl (lv_at hl 1 rfl) ?_
                  obtain ⟨r16, h16, h⟩ := ob h
                  refine call_i (v := r16) (wc := (gA t (nb 6) 6 now.2.2.2.2.2.2.1)) (wc' := (gA t (nb 6) 6 now.2.2.2.2.2.2.1)) (ws' := (gBo bh bk bo ++ (gS t (bk 0) nb now ++ (gE t (bk 2) eb r3)))) (cutI (wc := (gA t (nb 6) 6 now.2.2.2.2.2.2.1)) (wc' := (gA t (nb 6) 6 now.2.2.2.2.2.2.1)) (ws' := (gBo bh bk bo ++ (gS t (bk 0) nb now ++ (gE t (bk 2) eb r3)))) [8] hP hD hS hA rfl rfl rfl rfl) hS (fun hPc hDc => va_runS (As := [.ref (nb 6), .int v]) (rest := []) ⟨hx, hb, hml, hown, hts⟩ (mtX2_at l D t (nb 6) 6 now.2.2.2.2.2.2.1 v r16 h16 (by decide) _) (va_cwS 2 hts (gBS kw104 kw105 kw2 kw106) rfl rfl rfl (by decide +kernel) ⟨Nat.le_of_ble_eq_true rfl, Nat.le_of_ble_eq_true rfl⟩) (sPc_S hPc hK hDc hE) rfl rfl hl.1 rfl (lv_room (Nat.le_of_ble_eq_true rfl)) dX2_speed_149 ⟨Nat.zero_le _, Nat.zero_le _⟩) (fun H locs hP hD hS => ?_)
                  cases h

set_option maxHeartbeats 4000000 in
set_option maxRecDepth 100000 in
theorem xmX2_count (l : Launch) (hfl : l.stackTraces = false) (D : va_G) (t : Nat → ClassId) (bh : Nat) (bk : Nat → Nat) (bo : BoT) (nb : Nat → Nat) (now : ShT) (w : Int32) (E : Nat) (h : fX2_count bo now w = some (.inl E)) (sz : Nat) : vx_Met l yX2_count zX2_count ({ frames := 7, cells := 1, slots := 6, locals := 104 }) (xPc D t (gBo bh bk bo ++ (gS t (bk 0) nb now)) sz [.ref bh, .int w]) (qX (va_A (gBo bh bk bo ++ (gS t (bk 0) nb now)) sz)) (xC D t (gBo bh bk bo ++ (gS t (bk 0) nb now)) E (va_A (gBo bh bk bo ++ (gS t (bk 0) nb now)) sz)) 1 6 (va_A (gBo bh bk bo ++ (gS t (bk 0) nb now)) sz) := by
  refine met_ofX (cc := cX2_count) (maxL := 2) (ret := some .int) (by decide) rfl (Nat.le_of_ble_eq_true rfl) ?_
  intro p e s m args below meth c A hx hb hr hml hts hown hlocks hA hP hK hD hE hS hX hT ls hl
  have htB : ∀ w ∈ BIG, w.before args s = true := fun w h => hts w (List.mem_cons_of_mem _ h)
  have hown : s.vm.findClass RX2 = some m.cls := hown
  have hl : lv_has ls 2 [(0, .ref bh), (1, .int w)] := hl
  unfold fX2_count at h
  refine lv_iload_n hx hb dX2_count_0 rfl (lv_at hl 1 rfl) ?_
  refine lv_iconst (v := 0) hx hb dX2_count_1 (by decide) ?_
  refine lv_iconst (v := 4) hx hb dX2_count_2 (by decide) ?_
  rcases tb_l h with h1 | ⟨r1, h1, h⟩
  · exact call_x (E := E) (wc := ([] : va_W)) (ws := (gBo bh bk bo ++ (gS t (bk 0) nb now))) (cutB (bs := [gBo bh bk bo, gS t (bk 0) nb now]) (cs := []) (cs' := []) (bs' := [gBo bh bk bo, gS t (bk 0) nb now]) [] hP hD hS hA rfl rfl rfl rfl) hS hK hT hlocks (Nat.le_of_ble_eq_true rfl) (Nat.le_of_ble_eq_true rfl) (fun hPc hDc hAB => vx_runS (As := [.int w, .int 0, .int 4]) (rest := []) ⟨hx, hb, hml, hown, hts⟩ (xmX2_needRange l hfl D t w 0 4 E h1 _) (va_cwS 3 hts (gBS kw81 kw82 kw2 kw83) rfl rfl rfl (by decide +kernel) ⟨Nat.le_of_ble_eq_true rfl, Nat.le_of_ble_eq_true rfl⟩) (xPc_S hPc hK hDc hE hX hS hAB) rfl rfl hl.1 rfl (lv_room (Nat.le_of_ble_eq_true rfl)) dX2_count_3 ⟨Nat.le_of_ble_eq_true rfl, Nat.le_of_ble_eq_true rfl⟩)
  refine call_v (wc := ([] : va_W)) (wc' := ([] : va_W)) (ws' := (gBo bh bk bo ++ (gS t (bk 0) nb now))) (cutB (bs := [gBo bh bk bo, gS t (bk 0) nb now]) (cs := []) (cs' := []) (bs' := [gBo bh bk bo, gS t (bk 0) nb now]) [] hP hD hS hA rfl rfl rfl rfl) hS (fun hPc hDc => va_runS (As := [.int w, .int 0, .int 4]) (rest := []) ⟨hx, hb, hml, hown, hts⟩ (mtX2_needRange l D t w 0 4 r1 h1 _) (va_cwS 3 hts (gBS kw81 kw82 kw2 kw83) rfl rfl rfl (by decide +kernel) ⟨Nat.le_of_ble_eq_true rfl, Nat.le_of_ble_eq_true rfl⟩) (sPc_S hPc hK hDc hE) rfl rfl hl.1 rfl (lv_room (Nat.le_of_ble_eq_true rfl)) dX2_count_3 ⟨Nat.zero_le _, Nat.zero_le _⟩) (fun H locs hP hD hS => ?_)
  refine lv_iload_n hx hb dX2_count_6 rfl (lv_at hl 1 rfl) ?_
  by_cases c2 : w = 0
  · have h := it_p c2 h
    refine lv_tableIn (off := 29) (tgt := 36) hx hb dX2_count_7 (by rw [c2]; decide) (by rw [c2]; decide) (by rw [c2]; rfl) (by decide) ?_
    refine lv_aload_n hx hb dX2_count_36 rfl (lv_at hl 0 rfl) ?_
    refine va_get (D := D) (ci := 2) (v := .ref (bk 0)) (C := RX2) (T := TX2) (N := 8) hx hb htB inlX2 hown hK hP 0 rfl rfl 0 (by decide) (htB _ kw17) (fun _ h9 => h9) rfl dX2_count_37 ?_
    refine va_get (D := D) (ci := 1) (v := .int now.2.2.2.2.2.2.2.1) (C := RX1) (T := TX1) (N := 10) hx hb htB inlX1 hown hK hP 1 rfl rfl 7 (by decide) (htB _ kw499) (fun _ h9 => h9) rfl dX2_count_40 ?_
    cases h
  · have h := it_n c2 h
    by_cases c3 : w = 1
    · have h := it_p c3 h
      refine lv_tableIn (off := 37) (tgt := 44) hx hb dX2_count_7 (by rw [c3]; decide) (by rw [c3]; decide) (by rw [c3]; rfl) (by decide) ?_
      refine lv_aload_n hx hb dX2_count_44 rfl (lv_at hl 0 rfl) ?_
      refine va_get (D := D) (ci := 2) (v := .ref (bk 0)) (C := RX2) (T := TX2) (N := 8) hx hb htB inlX2 hown hK hP 0 rfl rfl 0 (by decide) (htB _ kw17) (fun _ h9 => h9) rfl dX2_count_45 ?_
      refine va_get (D := D) (ci := 1) (v := .int now.2.2.2.2.2.2.2.2.1) (C := RX1) (T := TX1) (N := 10) hx hb htB inlX1 hown hK hP 1 rfl rfl 8 (by decide) (htB _ kw500) (fun _ h9 => h9) rfl dX2_count_48 ?_
      cases h
    · have h := it_n c3 h
      by_cases c4 : w = 2
      · have h := it_p c4 h
        refine lv_tableIn (off := 45) (tgt := 52) hx hb dX2_count_7 (by rw [c4]; decide) (by rw [c4]; decide) (by rw [c4]; rfl) (by decide) ?_
        refine lv_aload_n hx hb dX2_count_52 rfl (lv_at hl 0 rfl) ?_
        refine va_get (D := D) (ci := 2) (v := .ref (bk 0)) (C := RX2) (T := TX2) (N := 8) hx hb htB inlX2 hown hK hP 0 rfl rfl 0 (by decide) (htB _ kw17) (fun _ h9 => h9) rfl dX2_count_53 ?_
        obtain ⟨r5, h5, h⟩ := ob h
        refine call_i (v := r5) (wc := (gS t (bk 0) nb now)) (wc' := (gS t (bk 0) nb now)) (ws' := (gBo bh bk bo ++ (gS t (bk 0) nb now))) (cutB (bs := [gBo bh bk bo, gS t (bk 0) nb now]) (cs := [gS t (bk 0) nb now]) (cs' := [gS t (bk 0) nb now]) (bs' := [gBo bh bk bo, gS t (bk 0) nb now]) [1] hP hD hS hA rfl rfl rfl rfl) hS (fun hPc hDc => va_runV (As := []) (rest := []) ⟨hx, hb, hml, hown, hts⟩ (mtX1_bounceColumns l D t (bk 0) nb now r5 h5 _) (cwV 0 hts (gBV kw502 kw255 kw256 kw16 kw257) rfl rfl rfl (by decide +kernel) ⟨Nat.le_of_ble_eq_true rfl, Nat.le_of_ble_eq_true rfl⟩) (sPc_V hPc hK hDc hE (va_recv hK hP (ci := 1) (q0 := 1) rfl rfl)) rfl rfl hl.1 rfl (lv_room (Nat.le_of_ble_eq_true rfl)) dX2_count_56 ⟨Nat.zero_le _, Nat.zero_le _⟩) (fun H locs hP hD hS => ?_)
        cases h
      · have h := it_n c4 h
        by_cases c6 : w = 3
        · have h := it_p c6 h
          refine lv_tableIn (off := 53) (tgt := 60) hx hb dX2_count_7 (by rw [c6]; decide) (by rw [c6]; decide) (by rw [c6]; rfl) (by decide) ?_
          refine lv_aload_n hx hb dX2_count_60 rfl (lv_at hl 0 rfl) ?_
          refine va_get (D := D) (ci := 2) (v := .ref (bk 0)) (C := RX2) (T := TX2) (N := 8) hx hb htB inlX2 hown hK hP 0 rfl rfl 0 (by decide) (htB _ kw17) (fun _ h9 => h9) rfl dX2_count_61 ?_
          refine va_get (D := D) (ci := 1) (v := .int now.2.2.2.2.2.2.2.2.2) (C := RX1) (T := TX1) (N := 10) hx hb htB inlX1 hown hK hP 1 rfl rfl 9 (by decide) (htB _ kw501) (fun _ h9 => h9) rfl dX2_count_64 ?_
          cases h
        · have h := it_n c6 h
          refine lv_tableOut (tgt := 68) hx hb dX2_count_7 (tab_0_3 c2 c3 c4 c6) (by decide) ?_
          refine lv_aload_n hx hb dX2_count_68 rfl (lv_at hl 0 rfl) ?_
          refine va_get (D := D) (ci := 2) (v := .int bo.1) (C := RX2) (T := TX2) (N := 8) hx hb htB inlX2 hown hK hP 0 rfl rfl 4 (by decide) (htB _ kw24) (fun _ h9 => h9) rfl dX2_count_69 ?_
          cases h

set_option maxHeartbeats 4000000 in
set_option maxRecDepth 100000 in
theorem xmX2_setting (l : Launch) (hfl : l.stackTraces = false) (D : va_G) (t : Nat → ClassId) (bh : Nat) (bk : Nat → Nat) (bo : BoT) (nb : Nat → Nat) (now : ShT) (w : Int32) (E : Nat) (h : fX2_setting bo now w = some (.inl E)) (sz : Nat) : vx_Met l yX2_setting zX2_setting ({ frames := 8, cells := 1, slots := 6, locals := 123 }) (xPc D t (gBo bh bk bo ++ (gS t (bk 0) nb now)) sz [.ref bh, .int w]) (qX (va_A (gBo bh bk bo ++ (gS t (bk 0) nb now)) sz)) (xC D t (gBo bh bk bo ++ (gS t (bk 0) nb now)) E (va_A (gBo bh bk bo ++ (gS t (bk 0) nb now)) sz)) 1 6 (va_A (gBo bh bk bo ++ (gS t (bk 0) nb now)) sz) := by
  refine met_ofX (cc := cX2_setting) (maxL := 2) (ret := some .int) (by decide) rfl (Nat.le_of_ble_eq_true rfl) ?_
  intro p e s m args below meth c A hx hb hr hml hts hown hlocks hA hP hK hD hE hS hX hT ls hl
  have htB : ∀ w ∈ BIG, w.before args s = true := fun w h => hts w (List.mem_cons_of_mem _ h)
  have hown : s.vm.findClass RX2 = some m.cls := hown
  have hl : lv_has ls 2 [(0, .ref bh), (1, .int w)] := hl
  unfold fX2_setting at h
  refine lv_iload_n hx hb dX2_setting_0 rfl (lv_at hl 1 rfl) ?_
  rcases tb_l h with h1 | ⟨r1, h1, h⟩
  · exact call_x (E := E) (wc := ([] : va_W)) (ws := (gBo bh bk bo ++ (gS t (bk 0) nb now))) (cutB (bs := [gBo bh bk bo, gS t (bk 0) nb now]) (cs := []) (cs' := []) (bs' := [gBo bh bk bo, gS t (bk 0) nb now]) [] hP hD hS hA rfl rfl rfl rfl) hS hK hT hlocks (Nat.le_of_ble_eq_true rfl) (Nat.le_of_ble_eq_true rfl) (fun hPc hDc hAB => vx_runS (As := [.int w]) (rest := []) ⟨hx, hb, hml, hown, hts⟩ (xmX2_needSetting l hfl D t w E h1 _) (va_cwS 1 hts (gBS kw197 kw198 kw2 kw199) rfl rfl rfl (by decide +kernel) ⟨Nat.le_of_ble_eq_true rfl, Nat.le_of_ble_eq_true rfl⟩) (xPc_S hPc hK hDc hE hX hS hAB) rfl rfl hl.1 rfl (lv_room (Nat.le_of_ble_eq_true rfl)) dX2_setting_1 ⟨Nat.le_of_ble_eq_true rfl, Nat.le_of_ble_eq_true rfl⟩)
  refine call_v (wc := ([] : va_W)) (wc' := ([] : va_W)) (ws' := (gBo bh bk bo ++ (gS t (bk 0) nb now))) (cutB (bs := [gBo bh bk bo, gS t (bk 0) nb now]) (cs := []) (cs' := []) (bs' := [gBo bh bk bo, gS t (bk 0) nb now]) [] hP hD hS hA rfl rfl rfl rfl) hS (fun hPc hDc => va_runS (As := [.int w]) (rest := []) ⟨hx, hb, hml, hown, hts⟩ (mtX2_needSetting l D t w r1 h1 _) (va_cwS 1 hts (gBS kw197 kw198 kw2 kw199) rfl rfl rfl (by decide +kernel) ⟨Nat.le_of_ble_eq_true rfl, Nat.le_of_ble_eq_true rfl⟩) (sPc_S hPc hK hDc hE) rfl rfl hl.1 rfl (lv_room (Nat.le_of_ble_eq_true rfl)) dX2_setting_1 ⟨Nat.zero_le _, Nat.zero_le _⟩) (fun H locs hP hD hS => ?_)
  refine lv_aload_n hx hb dX2_setting_4 rfl (lv_at hl 0 rfl) ?_
  refine va_get (D := D) (ci := 2) (v := .ref (bk 0)) (C := RX2) (T := TX2) (N := 8) hx hb htB inlX2 hown hK hP 0 rfl rfl 0 (by decide) (htB _ kw17) (fun _ h9 => h9) rfl dX2_setting_5 ?_
  refine va_get (D := D) (ci := 1) (v := .ref (nb 5)) (C := RX1) (T := TX1) (N := 10) hx hb htB inlX1 hown hK hP 1 rfl rfl 5 (by decide) (htB _ kw196) (fun _ h9 => h9) rfl dX2_setting_8 ?_
  refine lv_iload_n hx hb dX2_setting_11 rfl (lv_at hl 1 rfl) ?_
  obtain ⟨r2, h2, h⟩ := ob h
  refine call_i (v := r2) (wc := (gA t (nb 5) 4 now.2.2.2.2.2.1)) (wc' := (gA t (nb 5) 4 now.2.2.2.2.2.1)) (ws' := (gBo bh bk bo ++ (gS t (bk 0) nb now))) (cutI (wc := (gA t (nb 5) 4 now.2.2.2.2.2.1)) (wc' := (gA t (nb 5) 4 now.2.2.2.2.2.1)) (ws' := (gBo bh bk bo ++ (gS t (bk 0) nb now))) [7] hP hD hS hA rfl rfl rfl rfl) hS (fun hPc hDc => va_runS (As := [.ref (nb 5), .int w]) (rest := []) ⟨hx, hb, hml, hown, hts⟩ (mtX2_at l D t (nb 5) 4 now.2.2.2.2.2.1 w r2 h2 (by decide) _) (va_cwS 2 hts (gBS kw104 kw105 kw2 kw106) rfl rfl rfl (by decide +kernel) ⟨Nat.le_of_ble_eq_true rfl, Nat.le_of_ble_eq_true rfl⟩) (sPc_S hPc hK hDc hE) rfl rfl hl.1 rfl (lv_room (Nat.le_of_ble_eq_true rfl)) dX2_setting_12 ⟨Nat.zero_le _, Nat.zero_le _⟩) (fun H locs hP hD hS => ?_)
  cases h

set_option maxHeartbeats 4000000 in
set_option maxRecDepth 100000 in
theorem xmX2_bestCorrection (l : Launch) (hfl : l.stackTraces = false) (D : va_G) (t : Nat → ClassId) (bh : Nat) (bk : Nat → Nat) (bo : BoT) (nb : Nat → Nat) (now : ShT) (pb : Nat → Nat) (pr : ShT) (eb : Nat → Nat) (ex : ExT) (v : Int32) (E : Nat) (h : fX2_bestCorrection bo now pr ex v = some (.inl E)) (sz : Nat) : vx_Met l yX2_bestCorrection zX2_bestCorrection ({ frames := 8, cells := 1, slots := 6, locals := 123 }) (xPc D t (gBo bh bk bo ++ (gS t (bk 0) nb now ++ (gS t (bk 1) pb pr ++ (gE t (bk 2) eb ex)))) sz [.ref bh, .int v]) (qX (va_A (gBo bh bk bo ++ (gS t (bk 0) nb now ++ (gS t (bk 1) pb pr ++ (gE t (bk 2) eb ex)))) sz)) (xC D t (gBo bh bk bo ++ (gS t (bk 0) nb now ++ (gS t (bk 1) pb pr ++ (gE t (bk 2) eb ex)))) E (va_A (gBo bh bk bo ++ (gS t (bk 0) nb now ++ (gS t (bk 1) pb pr ++ (gE t (bk 2) eb ex)))) sz)) 1 6 (va_A (gBo bh bk bo ++ (gS t (bk 0) nb now ++ (gS t (bk 1) pb pr ++ (gE t (bk 2) eb ex)))) sz) := by
  refine met_ofX (cc := cX2_bestCorrection) (maxL := 5) (ret := some .int) (by decide) rfl (Nat.le_of_ble_eq_true rfl) ?_
  intro p e s m args below meth c A hx hb hr hml hts hown hlocks hA hP hK hD hE hS hX hT ls hl
  have htB : ∀ w ∈ BIG, w.before args s = true := fun w h => hts w (List.mem_cons_of_mem _ h)
  have hown : s.vm.findClass RX2 = some m.cls := hown
  have hl : lv_has ls 5 [(0, .ref bh), (1, .int v)] := hl
  unfold fX2_bestCorrection at h
  have J24 : ∀ (fu24 : Nat) (v24 : ShT × ExT × Int32 × Int32 × Int32 × Int32), lp (fX2_bestCorrection_l24 bo now) fu24 v24 = some (.inl E) → ∀ (H : Heap) (locs : List Loc), va_P D vwCl (gBo bh bk bo ++ (gS t (bk 0) nb now ++ (gS t (bk 1) pb v24.1 ++ (gE t (bk 2) eb v24.2.1)))) H → va_D A (gBo bh bk bo ++ (gS t (bk 0) nb now ++ (gS t (bk 1) pb v24.1 ++ (gE t (bk 2) eb v24.2.1)))) → va_S A s.heap H locs → ∀ ls : Array Slot, lv_has ls 5 [(0, .ref bh), (1, .int v24.2.2.1), (2, .int v24.2.2.2.1), (3, .int v24.2.2.2.2.1), (4, .int v24.2.2.2.2.2)] → W p l e ({ frames := 8, cells := 1, slots := 6, locals := 123 }) s m args below meth c H locs 0 0 (vx_MQ below (qX A) (xC D t (gBo bh bk bo ++ (gS t (bk 0) nb now ++ (gS t (bk 1) pb pr ++ (gE t (bk 2) eb ex)))) E A) args s 1 6 A) (F0 m 24 ls []) := by
    intro fu24
    induction fu24 with
    | zero => intro v24 h; cases h
    | succ fu24 ih24 =>
      intro v24 h H locs hP hD hS ls hl
      have h : fX2_bestCorrection_l24 bo now (lp (fX2_bestCorrection_l24 bo now) fu24) v24 = some (.inl E) := h
      unfold fX2_bestCorrection_l24 at h
      refine lv_iload hx hb dX2_bestCorrection_24 (lv_at hl 4 rfl) ?_
      refine lv_bipush (v := 50) hx hb dX2_bestCorrection_26 (by decide) ?_
      refine lv_icmp_gt (tgt := 89) hx hb dX2_bestCorrection_28 (by decide) (fun c3 => ?_) (fun c3 => ?_)
      · have h := it_p c3 h
        refine lv_iload_n hx hb dX2_bestCorrection_89 rfl (lv_at hl 2 rfl) ?_
        refine lv_bipush (v := 100) hx hb dX2_bestCorrection_90 (by decide) ?_
        refine lv_iadd hx hb dX2_bestCorrection_92 ?_
        cases h
      · have h := it_n c3 h
        refine lv_aload_n hx hb dX2_bestCorrection_31 rfl (lv_at hl 0 rfl) ?_
        refine va_get (D := D) (ci := 2) (v := .ref (bk 1)) (C := RX2) (T := TX2) (N := 8) hx hb htB inlX2 hown hK hP 0 rfl rfl 1 (by decide) (htB _ kw18) (fun _ h9 => h9) rfl dX2_bestCorrection_32 ?_
        refine va_get (D := D) (ci := 1) (v := .ref (pb 4)) (C := RX1) (T := TX1) (N := 10) hx hb htB inlX1 hown hK hP 9 rfl rfl 4 (by decide) (htB _ kw178) (fun _ h9 => h9) rfl dX2_bestCorrection_35 ?_
        refine lv_iload_n hx hb dX2_bestCorrection_38 rfl (lv_at hl 1 rfl) ?_
        refine lv_iload hx hb dX2_bestCorrection_39 (lv_at hl 4 rfl) ?_
        obtain ⟨r4, h4, h⟩ := ob h
        refine call_v (wc := (gA t (pb 4) 6 v24.1.2.2.2.2.1)) (wc' := (gA t (pb 4) 6 r4)) (ws' := (gBo bh bk bo ++ (gS t (bk 0) nb now ++ (gS t (bk 1) pb (v24.1.1, v24.1.2.1, v24.1.2.2.1, v24.1.2.2.2.1, r4, v24.1.2.2.2.2.2.1, v24.1.2.2.2.2.2.2.1, v24.1.2.2.2.2.2.2.2.1, v24.1.2.2.2.2.2.2.2.2.1, v24.1.2.2.2.2.2.2.2.2.2) ++ (gE t (bk 2) eb v24.2.1))))) (cutI (wc := (gA t (pb 4) 6 v24.1.2.2.2.2.1)) (wc' := (gA t (pb 4) 6 r4)) (ws' := (gBo bh bk bo ++ (gS t (bk 0) nb now ++ (gS t (bk 1) pb (v24.1.1, v24.1.2.1, v24.1.2.2.1, v24.1.2.2.2.1, r4, v24.1.2.2.2.2.2.1, v24.1.2.2.2.2.2.2.1, v24.1.2.2.2.2.2.2.2.1, v24.1.2.2.2.2.2.2.2.2.1, v24.1.2.2.2.2.2.2.2.2.2) ++ (gE t (bk 2) eb v24.2.1))))) [14] hP hD hS hA rfl rfl rfl rfl) hS (fun hPc hDc => va_runS (As := [.ref (pb 4), .int v24.2.2.1, .int v24.2.2.2.2.2]) (rest := []) ⟨hx, hb, hml, hown, hts⟩ (mtX2_put l D t (pb 4) 6 v24.1.2.2.2.2.1 v24.2.2.1 v24.2.2.2.2.2 r4 h4 (by decide) _) (va_cwS 3 hts (gBS kw107 kw108 kw2 kw109) rfl rfl rfl (by decide +kernel) ⟨Nat.le_of_ble_eq_true rfl, Nat.le_of_ble_eq_true rfl⟩) (sPc_S hPc hK hDc hE) rfl rfl hl.1 rfl (lv_room (Nat.le_of_ble_eq_true rfl)) dX2_bestCorrection_41 ⟨Nat.zero_le _, Nat.zero_le _⟩) (fun H locs hP hD hS => ?_)
        refine lv_aload_n hx hb dX2_bestCorrection_44 rfl (lv_at hl 0 rfl) ?_
        refine va_get (D := D) (ci := 2) (v := .ref (bk 2)) (C := RX2) (T := TX2) (N := 8) hx hb htB inlX2 hown hK hP 0 rfl rfl 2 (by decide) (htB _ kw22) (fun _ h9 => h9) rfl dX2_bestCorrection_45 ?_
        refine lv_aload_n hx hb dX2_bestCorrection_48 rfl (lv_at hl 0 rfl) ?_
        refine va_get (D := D) (ci := 2) (v := .ref (bk 1)) (C := RX2) (T := TX2) (N := 8) hx hb htB inlX2 hown hK hP 0 rfl rfl 1 (by decide) (htB _ kw18) (fun _ h9 => h9) rfl dX2_bestCorrection_49 ?_
        refine lv_iload_n hx hb dX2_bestCorrection_52 rfl (lv_at hl 1 rfl) ?_
        obtain ⟨r5, h5, h⟩ := ob h
        refine call_v (wc := (gE t (bk 2) eb v24.2.1 ++ (gS t (bk 1) pb (v24.1.1, v24.1.2.1, v24.1.2.2.1, v24.1.2.2.2.1, r4, v24.1.2.2.2.2.2.1, v24.1.2.2.2.2.2.2.1, v24.1.2.2.2.2.2.2.2.1, v24.1.2.2.2.2.2.2.2.2.1, v24.1.2.2.2.2.2.2.2.2.2)))) (wc' := (gE t (bk 2) eb r5 ++ (gS t (bk 1) pb (v24.1.1, v24.1.2.1, v24.1.2.2.1, v24.1.2.2.2.1, r4, v24.1.2.2.2.2.2.1, v24.1.2.2.2.2.2.2.1, v24.1.2.2.2.2.2.2.2.1, v24.1.2.2.2.2.2.2.2.2.1, v24.1.2.2.2.2.2.2.2.2.2)))) (ws' := (gBo bh bk bo ++ (gS t (bk 0) nb now ++ (gS t (bk 1) pb (v24.1.1, v24.1.2.1, v24.1.2.2.1, v24.1.2.2.2.1, r4, v24.1.2.2.2.2.2.1, v24.1.2.2.2.2.2.2.1, v24.1.2.2.2.2.2.2.2.1, v24.1.2.2.2.2.2.2.2.2.1, v24.1.2.2.2.2.2.2.2.2.2) ++ (gE t (bk 2) eb r5))))) (cutB (bs := [gBo bh bk bo, gS t (bk 0) nb now, gS t (bk 1) pb (v24.1.1, v24.1.2.1, v24.1.2.2.1, v24.1.2.2.2.1, r4, v24.1.2.2.2.2.2.1, v24.1.2.2.2.2.2.2.1, v24.1.2.2.2.2.2.2.2.1, v24.1.2.2.2.2.2.2.2.2.1, v24.1.2.2.2.2.2.2.2.2.2), gE t (bk 2) eb v24.2.1]) (cs := [gE t (bk 2) eb v24.2.1, gS t (bk 1) pb (v24.1.1, v24.1.2.1, v24.1.2.2.1, v24.1.2.2.2.1, r4, v24.1.2.2.2.2.2.1, v24.1.2.2.2.2.2.2.1, v24.1.2.2.2.2.2.2.2.1, v24.1.2.2.2.2.2.2.2.2.1, v24.1.2.2.2.2.2.2.2.2.2)]) (cs' := [gE t (bk 2) eb r5, gS t (bk 1) pb (v24.1.1, v24.1.2.1, v24.1.2.2.1, v24.1.2.2.2.1, r4, v24.1.2.2.2.2.2.1, v24.1.2.2.2.2.2.2.1, v24.1.2.2.2.2.2.2.2.1, v24.1.2.2.2.2.2.2.2.2.1, v24.1.2.2.2.2.2.2.2.2.2)]) (bs' := [gBo bh bk bo, gS t (bk 0) nb now, gS t (bk 1) pb (v24.1.1, v24.1.2.1, v24.1.2.2.1, v24.1.2.2.2.1, r4, v24.1.2.2.2.2.2.1, v24.1.2.2.2.2.2.2.1, v24.1.2.2.2.2.2.2.2.1, v24.1.2.2.2.2.2.2.2.2.1, v24.1.2.2.2.2.2.2.2.2.2), gE t (bk 2) eb r5]) [3, 2] hP hD hS hA rfl rfl rfl rfl) hS (fun hPc hDc => va_runV (As := [.ref (bk 1), .int v24.2.2.1]) (rest := []) ⟨hx, hb, hml, hown, hts⟩ (mtX0_expose l D t (bk 2) eb v24.2.1 (bk 1) pb (v24.1.1, v24.1.2.1, v24.1.2.2.1, v24.1.2.2.2.1, r4, v24.1.2.2.2.2.2.1, v24.1.2.2.2.2.2.2.1, v24.1.2.2.2.2.2.2.2.1, v24.1.2.2.2.2.2.2.2.2.1, v24.1.2.2.2.2.2.2.2.2.2) v24.2.2.1 r5 h5 _) (cwV 2 hts (gBV kw224 kw225 kw226 kw21 kw227) rfl rfl rfl (by decide +kernel) ⟨Nat.le_of_ble_eq_true rfl, Nat.le_of_ble_eq_true rfl⟩) (sPc_V hPc hK hDc hE (va_recv hK hP (ci := 0) (q0 := 17) rfl rfl)) rfl rfl hl.1 rfl (lv_room (Nat.le_of_ble_eq_true rfl)) dX2_bestCorrection_53 ⟨Nat.zero_le _, Nat.zero_le _⟩) (fun H locs hP hD hS => ?_)
        refine lv_iload_n hx hb dX2_bestCorrection_56 rfl (lv_at hl 3 rfl) ?_
        refine lv_iconst (v := (-1)) hx hb dX2_bestCorrection_57 (by decide) ?_
        refine lv_icmp_eq (tgt := 72) hx hb dX2_bestCorrection_58 (by decide) (fun c6 => ?_) (fun c6 => ?_)
        · have h := it_p c6 h
          refine lv_aload_n hx hb dX2_bestCorrection_72 rfl (lv_at hl 0 rfl) ?_
          refine va_get (D := D) (ci := 2) (v := .ref (bk 2)) (C := RX2) (T := TX2) (N := 8) hx hb htB inlX2 hown hK hP 0 rfl rfl 2 (by decide) (htB _ kw22) (fun _ h9 => h9) rfl dX2_bestCorrection_73 ?_
          refine va_get (D := D) (ci := 0) (v := .int r5.2.2.2.2.2.2.1) (C := RX0) (T := TX0) (N := 10) hx hb htB inlX0 hown hK hP 17 rfl rfl 6 (by decide) (htB _ kw529) (fun _ h9 => h9) rfl dX2_bestCorrection_76 ?_
          refine lv_istore_n (lv' := [(3, .int r5.2.2.2.2.2.2.1), (0, .ref bh), (1, .int v24.2.2.1), (2, .int v24.2.2.2.1), (4, .int v24.2.2.2.2.2)]) hx hb dX2_bestCorrection_79 rfl hl (by decide) rfl (fun ls hl => ?_)
          refine lv_iload hx hb dX2_bestCorrection_80 (lv_at hl 4 rfl) ?_
          refine lv_istore_n (lv' := [(2, .int v24.2.2.2.2.2), (3, .int r5.2.2.2.2.2.2.1), (0, .ref bh), (1, .int v24.2.2.1), (4, .int v24.2.2.2.2.2)]) hx hb dX2_bestCorrection_82 rfl hl (by decide) rfl (fun ls hl => ?_)
          refine lv_iinc (v := v24.2.2.2.2.2 + 1) (lv' := [(4, .int (v24.2.2.2.2.2 + 1)), (2, .int v24.2.2.2.2.2), (3, .int r5.2.2.2.2.2.2.1), (0, .ref bh), (1, .int v24.2.2.1)]) hx hb dX2_bestCorrection_83 hl (k := 4) rfl rfl (by decide) rfl (fun ls hl => ?_)
          refine lv_goto (tgt := 24) hx hb dX2_bestCorrection_86 (by decide) ?_
          exact ih24 ((v24.1.1, v24.1.2.1, v24.1.2.2.1, v24.1.2.2.2.1, r4, v24.1.2.2.2.2.2.1, v24.1.2.2.2.2.2.2.1, v24.1.2.2.2.2.2.2.2.1, v24.1.2.2.2.2.2.2.2.2.1, v24.1.2.2.2.2.2.2.2.2.2), r5, v24.2.2.1, v24.2.2.2.2.2, r5.2.2.2.2.2.2.1, v24.2.2.2.2.2 + 1) h _ _ hP hD hS _ (lv_sub hl [3, 4, 1, 2, 0] rfl)
        · have h := it_n c6 h
          refine lv_aload_n hx hb dX2_bestCorrection_61 rfl (lv_at hl 0 rfl) ?_
          refine va_get (D := D) (ci := 2) (v := .ref (bk 2)) (C := RX2) (T := TX2) (N := 8) hx hb htB inlX2 hown hK hP 0 rfl rfl 2 (by decide) (htB _ kw22) (fun _ h9 => h9) rfl dX2_bestCorrection_62 ?_
          refine va_get (D := D) (ci := 0) (v := .int r5.2.2.2.2.2.2.1) (C := RX0) (T := TX0) (N := 10) hx hb htB inlX0 hown hK hP 17 rfl rfl 6 (by decide) (htB _ kw529) (fun _ h9 => h9) rfl dX2_bestCorrection_65 ?_
          refine lv_iload_n hx hb dX2_bestCorrection_68 rfl (lv_at hl 3 rfl) ?_
          refine lv_icmp_ge (tgt := 83) hx hb dX2_bestCorrection_69 (by decide) (fun c7 => ?_) (fun c7 => ?_)
          · have h := it_p c7 h
            refine lv_iinc (v := v24.2.2.2.2.2 + 1) (lv' := [(4, .int (v24.2.2.2.2.2 + 1)), (0, .ref bh), (1, .int v24.2.2.1), (2, .int v24.2.2.2.1), (3, .int v24.2.2.2.2.1)]) hx hb dX2_bestCorrection_83 hl (k := 4) rfl rfl (by decide) rfl (fun ls hl => ?_)
            refine lv_goto (tgt := 24) hx hb dX2_bestCorrection_86 (by decide) ?_
            exact ih24 ((v24.1.1, v24.1.2.1, v24.1.2.2.1, v24.1.2.2.2.1, r4, v24.1.2.2.2.2.2.1, v24.1.2.2.2.2.2.2.1, v24.1.2.2.2.2.2.2.2.1, v24.1.2.2.2.2.2.2.2.2.1, v24.1.2.2.2.2.2.2.2.2.2), r5, v24.2.2.1, v24.2.2.2.1, v24.2.2.2.2.1, v24.2.2.2.2.2 + 1) h _ _ hP hD hS _ (lv_sub hl [1, 2, 3, 4, 0] rfl)
          · have h := it_n c7 h
            refine lv_aload_n hx hb dX2_bestCorrection_72 rfl (lv_at hl 0 rfl) ?_
            refine va_get (D := D) (ci := 2) (v := .ref (bk 2)) (C := RX2) (T := TX2) (N := 8) hx hb htB inlX2 hown hK hP 0 rfl rfl 2 (by decide) (htB _ kw22) (fun _ h9 => h9) rfl dX2_bestCorrection_73 ?_
            refine va_get (D := D) (ci := 0) (v := .int r5.2.2.2.2.2.2.1) (C := RX0) (T := TX0) (N := 10) hx hb htB inlX0 hown hK hP 17 rfl rfl 6 (by decide) (htB _ kw529) (fun _ h9 => h9) rfl dX2_bestCorrection_76 ?_
            refine lv_istore_n (lv' := [(3, .int r5.2.2.2.2.2.2.1), (0, .ref bh), (1, .int v24.2.2.1), (2, .int v24.2.2.2.1), (4, .int v24.2.2.2.2.2)]) hx hb dX2_bestCorrection_79 rfl hl (by decide) rfl (fun ls hl => ?_)
            refine lv_iload hx hb dX2_bestCorrection_80 (lv_at hl 4 rfl) ?_
            refine lv_istore_n (lv' := [(2, .int v24.2.2.2.2.2), (3, .int r5.2.2.2.2.2.2.1), (0, .ref bh), (1, .int v24.2.2.1), (4, .int v24.2.2.2.2.2)]) hx hb dX2_bestCorrection_82 rfl hl (by decide) rfl (fun ls hl => ?_)
            refine lv_iinc (v := v24.2.2.2.2.2 + 1) (lv' := [(4, .int (v24.2.2.2.2.2 + 1)), (2, .int v24.2.2.2.2.2), (3, .int r5.2.2.2.2.2.2.1), (0, .ref bh), (1, .int v24.2.2.1)]) hx hb dX2_bestCorrection_83 hl (k := 4) rfl rfl (by decide) rfl (fun ls hl => ?_)
            refine lv_goto (tgt := 24) hx hb dX2_bestCorrection_86 (by decide) ?_
            exact ih24 ((v24.1.1, v24.1.2.1, v24.1.2.2.1, v24.1.2.2.2.1, r4, v24.1.2.2.2.2.2.1, v24.1.2.2.2.2.2.2.1, v24.1.2.2.2.2.2.2.2.1, v24.1.2.2.2.2.2.2.2.2.1, v24.1.2.2.2.2.2.2.2.2.2), r5, v24.2.2.1, v24.2.2.2.2.2, r5.2.2.2.2.2.2.1, v24.2.2.2.2.2 + 1) h _ _ hP hD hS _ (lv_sub hl [3, 4, 1, 2, 0] rfl)
  refine lv_iload_n hx hb dX2_bestCorrection_0 rfl (lv_at hl 1 rfl) ?_
  rcases tb_l h with h1 | ⟨r1, h1, h⟩
  · exact call_x (E := E) (wc := ([] : va_W)) (ws := (gBo bh bk bo ++ (gS t (bk 0) nb now ++ (gS t (bk 1) pb pr ++ (gE t (bk 2) eb ex))))) (cutB (bs := [gBo bh bk bo, gS t (bk 0) nb now, gS t (bk 1) pb pr, gE t (bk 2) eb ex]) (cs := []) (cs' := []) (bs' := [gBo bh bk bo, gS t (bk 0) nb now, gS t (bk 1) pb pr, gE t (bk 2) eb ex]) [] hP hD hS hA rfl rfl rfl rfl) hS hK hT hlocks (Nat.le_of_ble_eq_true rfl) (Nat.le_of_ble_eq_true rfl) (fun hPc hDc hAB => vx_runS (As := [.int v]) (rest := []) ⟨hx, hb, hml, hown, hts⟩ (xmX2_needSpeed l hfl D t v E h1 _) (va_cwS 1 hts (gBS kw179 kw180 kw2 kw181) rfl rfl rfl (by decide +kernel) ⟨Nat.le_of_ble_eq_true rfl, Nat.le_of_ble_eq_true rfl⟩) (xPc_S hPc hK hDc hE hX hS hAB) rfl rfl hl.1 rfl (lv_room (Nat.le_of_ble_eq_true rfl)) dX2_bestCorrection_1 ⟨Nat.le_of_ble_eq_true rfl, Nat.le_of_ble_eq_true rfl⟩)
  refine call_v (wc := ([] : va_W)) (wc' := ([] : va_W)) (ws' := (gBo bh bk bo ++ (gS t (bk 0) nb now ++ (gS t (bk 1) pb pr ++ (gE t (bk 2) eb ex))))) (cutB (bs := [gBo bh bk bo, gS t (bk 0) nb now, gS t (bk 1) pb pr, gE t (bk 2) eb ex]) (cs := []) (cs' := []) (bs' := [gBo bh bk bo, gS t (bk 0) nb now, gS t (bk 1) pb pr, gE t (bk 2) eb ex]) [] hP hD hS hA rfl rfl rfl rfl) hS (fun hPc hDc => va_runS (As := [.int v]) (rest := []) ⟨hx, hb, hml, hown, hts⟩ (mtX2_needSpeed l D t v r1 h1 _) (va_cwS 1 hts (gBS kw179 kw180 kw2 kw181) rfl rfl rfl (by decide +kernel) ⟨Nat.le_of_ble_eq_true rfl, Nat.le_of_ble_eq_true rfl⟩) (sPc_S hPc hK hDc hE) rfl rfl hl.1 rfl (lv_room (Nat.le_of_ble_eq_true rfl)) dX2_bestCorrection_1 ⟨Nat.zero_le _, Nat.zero_le _⟩) (fun H locs hP hD hS => ?_)
  refine lv_aload_n hx hb dX2_bestCorrection_4 rfl (lv_at hl 0 rfl) ?_
  refine va_get (D := D) (ci := 2) (v := .ref (bk 1)) (C := RX2) (T := TX2) (N := 8) hx hb htB inlX2 hown hK hP 0 rfl rfl 1 (by decide) (htB _ kw18) (fun _ h9 => h9) rfl dX2_bestCorrection_5 ?_
  refine lv_aload_n hx hb dX2_bestCorrection_8 rfl (lv_at hl 0 rfl) ?_
  refine va_get (D := D) (ci := 2) (v := .ref (bk 0)) (C := RX2) (T := TX2) (N := 8) hx hb htB inlX2 hown hK hP 0 rfl rfl 0 (by decide) (htB _ kw17) (fun _ h9 => h9) rfl dX2_bestCorrection_9 ?_
  obtain ⟨r2, h2, h⟩ := ob h
  refine call_v (wc := (gS t (bk 1) pb pr ++ (gS t (bk 0) nb now))) (wc' := (gS t (bk 1) pb r2 ++ (gS t (bk 0) nb now))) (ws' := (gBo bh bk bo ++ (gS t (bk 0) nb now ++ (gS t (bk 1) pb r2 ++ (gE t (bk 2) eb ex))))) (cutB (bs := [gBo bh bk bo, gS t (bk 0) nb now, gS t (bk 1) pb pr, gE t (bk 2) eb ex]) (cs := [gS t (bk 1) pb pr, gS t (bk 0) nb now]) (cs' := [gS t (bk 1) pb r2, gS t (bk 0) nb now]) (bs' := [gBo bh bk bo, gS t (bk 0) nb now, gS t (bk 1) pb r2, gE t (bk 2) eb ex]) [2, 1] hP hD hS hA rfl rfl rfl rfl) hS (fun hPc hDc => va_runV (As := [.ref (bk 0)]) (rest := []) ⟨hx, hb, hml, hown, hts⟩ (mtX1_become l D t (bk 1) pb pr (bk 0) nb now r2 h2 _) (cwV 1 hts (gBV kw98 kw99 kw100 kw16 kw101) rfl rfl rfl (by decide +kernel) ⟨Nat.le_of_ble_eq_true rfl, Nat.le_of_ble_eq_true rfl⟩) (sPc_V hPc hK hDc hE (va_recv hK hP (ci := 1) (q0 := 9) rfl rfl)) rfl rfl hl.1 rfl (lv_room (Nat.le_of_ble_eq_true rfl)) dX2_bestCorrection_12 ⟨Nat.zero_le _, Nat.zero_le _⟩) (fun H locs hP hD hS => ?_)
  refine lv_bipush (v := (-50)) hx hb dX2_bestCorrection_15 (by decide) ?_
  refine lv_istore_n (lv' := [(2, .int (-50)), (0, .ref bh), (1, .int v)]) hx hb dX2_bestCorrection_17 rfl hl (by decide) rfl (fun ls hl => ?_)
  refine lv_iconst (v := (-1)) hx hb dX2_bestCorrection_18 (by decide) ?_
  refine lv_istore_n (lv' := [(3, .int (-1)), (2, .int (-50)), (0, .ref bh), (1, .int v)]) hx hb dX2_bestCorrection_19 rfl hl (by decide) rfl (fun ls hl => ?_)
  refine lv_bipush (v := (-50)) hx hb dX2_bestCorrection_20 (by decide) ?_
  refine lv_istore (lv' := [(4, .int (-50)), (3, .int (-1)), (2, .int (-50)), (0, .ref bh), (1, .int v)]) hx hb dX2_bestCorrection_22 hl (by decide) rfl (fun ls hl => ?_)
  exact J24 2000 (r2, ex, v, (-50), (-1), (-50)) h _ _ hP hD hS _ (lv_sub hl [3, 4, 2, 1, 0] rfl)

set_option maxHeartbeats 4000000 in
set_option maxRecDepth 100000 in
theorem xmX2_bestSpring (l : Launch) (hfl : l.stackTraces = false) (D : va_G) (t : Nat → ClassId) (bh : Nat) (bk : Nat → Nat) (bo : BoT) (nb : Nat → Nat) (now : ShT) (pb : Nat → Nat) (pr : ShT) (eb : Nat → Nat) (ex : ExT) (cu : Int32) (v : Int32) (E : Nat) (h : fX2_bestSpring bo now pr ex cu v = some (.inl E)) (sz : Nat) : vx_Met l yX2_bestSpring zX2_bestSpring ({ frames := 8, cells := 1, slots := 6, locals := 123 }) (xPc D t (gBo bh bk bo ++ (gS t (bk 0) nb now ++ (gS t (bk 1) pb pr ++ (gE t (bk 2) eb ex)))) sz [.ref bh, .int cu, .int v]) (qX (va_A (gBo bh bk bo ++ (gS t (bk 0) nb now ++ (gS t (bk 1) pb pr ++ (gE t (bk 2) eb ex)))) sz)) (xC D t (gBo bh bk bo ++ (gS t (bk 0) nb now ++ (gS t (bk 1) pb pr ++ (gE t (bk 2) eb ex)))) E (va_A (gBo bh bk bo ++ (gS t (bk 0) nb now ++ (gS t (bk 1) pb pr ++ (gE t (bk 2) eb ex)))) sz)) 1 6 (va_A (gBo bh bk bo ++ (gS t (bk 0) nb now ++ (gS t (bk 1) pb pr ++ (gE t (bk 2) eb ex)))) sz) := by
  refine met_ofX (cc := cX2_bestSpring) (maxL := 6) (ret := some .int) (by decide) rfl (Nat.le_of_ble_eq_true rfl) ?_
  intro p e s m args below meth c A hx hb hr hml hts hown hlocks hA hP hK hD hE hS hX hT ls hl
  have htB : ∀ w ∈ BIG, w.before args s = true := fun w h => hts w (List.mem_cons_of_mem _ h)
  have hown : s.vm.findClass RX2 = some m.cls := hown
  have hl : lv_has ls 6 [(0, .ref bh), (1, .int cu), (2, .int v)] := hl
  unfold fX2_bestSpring at h
  have J27 : ∀ (fu27 : Nat) (v27 : ShT × ExT × Int32 × Int32 × Int32 × Int32 × Int32), lp (fX2_bestSpring_l27 bo now) fu27 v27 = some (.inl E) → ∀ (H : Heap) (locs : List Loc), va_P D vwCl (gBo bh bk bo ++ (gS t (bk 0) nb now ++ (gS t (bk 1) pb v27.1 ++ (gE t (bk 2) eb v27.2.1)))) H → va_D A (gBo bh bk bo ++ (gS t (bk 0) nb now ++ (gS t (bk 1) pb v27.1 ++ (gE t (bk 2) eb v27.2.1)))) → va_S A s.heap H locs → ∀ ls : Array Slot, lv_has ls 6 [(0, .ref bh), (1, .int v27.2.2.1), (2, .int v27.2.2.2.1), (3, .int v27.2.2.2.2.1), (4, .int v27.2.2.2.2.2.1), (5, .int v27.2.2.2.2.2.2)] → W p l e ({ frames := 8, cells := 1, slots := 6, locals := 123 }) s m args below meth c H locs 0 0 (vx_MQ below (qX A) (xC D t (gBo bh bk bo ++ (gS t (bk 0) nb now ++ (gS t (bk 1) pb pr ++ (gE t (bk 2) eb ex)))) E A) args s 1 6 A) (F0 m 27 ls []) := by
    intro fu27
    induction fu27 with
    | zero => intro v27 h; cases h
    | succ fu27 ih27 =>
      intro v27 h H locs hP hD hS ls hl
      have h : fX2_bestSpring_l27 bo now (lp (fX2_bestSpring_l27 bo now) fu27) v27 = some (.inl E) := h
      unfold fX2_bestSpring_l27 at h
      have J77 : ∀ v77 : ShT × ExT × Int32 × Int32 × Int32, fX2_bestSpring_j77 bo now (lp (fX2_bestSpring_l27 bo now) fu27) v77 = some (.inl E) → ∀ (H : Heap) (locs : List Loc), va_P D vwCl (gBo bh bk bo ++ (gS t (bk 0) nb now ++ (gS t (bk 1) pb v77.1 ++ (gE t (bk 2) eb v77.2.1)))) H → va_D A (gBo bh bk bo ++ (gS t (bk 0) nb now ++ (gS t (bk 1) pb v77.1 ++ (gE t (bk 2) eb v77.2.1)))) → va_S A s.heap H locs → ∀ ls : Array Slot, lv_has ls 6 [(0, .ref bh), (1, .int v77.2.2.1), (2, .int v77.2.2.2.1), (5, .int v77.2.2.2.2)] → W p l e ({ frames := 8, cells := 1, slots := 6, locals := 123 }) s m args below meth c H locs 0 0 (vx_MQ below (qX A) (xC D t (gBo bh bk bo ++ (gS t (bk 0) nb now ++ (gS t (bk 1) pb pr ++ (gE t (bk 2) eb ex)))) E A) args s 1 6 A) (F0 m 77 ls []) := by
        intro v77 h H locs hP hD hS ls hl
        unfold fX2_bestSpring_j77 at h
        refine lv_aload_n hx hb dX2_bestSpring_77 rfl (lv_at hl 0 rfl) ?_
        refine va_get (D := D) (ci := 2) (v := .ref (bk 2)) (C := RX2) (T := TX2) (N := 8) hx hb htB inlX2 hown hK hP 0 rfl rfl 2 (by decide) (htB _ kw22) (fun _ h9 => h9) rfl dX2_bestSpring_78 ?_
        obtain ⟨r10, h10, h⟩ := ob h
        refine call_i (v := r10) (wc := (gE t (bk 2) eb v77.2.1)) (wc' := (gE t (bk 2) eb v77.2.1)) (ws' := (gBo bh bk bo ++ (gS t (bk 0) nb now ++ (gS t (bk 1) pb v77.1 ++ (gE t (bk 2) eb v77.2.1))))) (cutB (bs := [gBo bh bk bo, gS t (bk 0) nb now, gS t (bk 1) pb v77.1, gE t (bk 2) eb v77.2.1]) (cs := [gE t (bk 2) eb v77.2.1]) (cs' := [gE t (bk 2) eb v77.2.1]) (bs' := [gBo bh bk bo, gS t (bk 0) nb now, gS t (bk 1) pb v77.1, gE t (bk 2) eb v77.2.1]) [3] hP hD hS hA rfl rfl rfl rfl) hS (fun hPc hDc => va_runV (As := []) (rest := []) ⟨hx, hb, hml, hown, hts⟩ (mtX0_spread l D t (bk 2) eb v77.2.1 r10 h10 _) (cwV 0 hts (gBV kw282 kw279 kw280 kw21 kw281) rfl rfl rfl (by decide +kernel) ⟨Nat.le_of_ble_eq_true rfl, Nat.le_of_ble_eq_true rfl⟩) (sPc_V hPc hK hDc hE (va_recv hK hP (ci := 0) (q0 := 17) rfl rfl)) rfl rfl hl.1 rfl (lv_room (Nat.le_of_ble_eq_true rfl)) dX2_bestSpring_81 ⟨Nat.zero_le _, Nat.zero_le _⟩) (fun H locs hP hD hS => ?_)
        refine lv_istore (lv' := [(4, .int r10), (0, .ref bh), (1, .int v77.2.2.1), (2, .int v77.2.2.2.1), (5, .int v77.2.2.2.2)]) hx hb dX2_bestSpring_84 hl (by decide) rfl (fun ls hl => ?_)
        refine lv_iload hx hb dX2_bestSpring_86 (lv_at hl 4 rfl) ?_
        refine lv_istore_n (lv' := [(3, .int v77.2.2.2.2), (4, .int r10), (0, .ref bh), (1, .int v77.2.2.1), (2, .int v77.2.2.2.1), (5, .int v77.2.2.2.2)]) hx hb dX2_bestSpring_88 rfl hl (by decide) rfl (fun ls hl => ?_)
        refine lv_iinc (v := v77.2.2.2.2 + 1) (lv' := [(5, .int (v77.2.2.2.2 + 1)), (3, .int v77.2.2.2.2), (4, .int r10), (0, .ref bh), (1, .int v77.2.2.1), (2, .int v77.2.2.2.1)]) hx hb dX2_bestSpring_89 hl (k := 5) rfl rfl (by decide) rfl (fun ls hl => ?_)
        refine lv_goto (tgt := 27) hx hb dX2_bestSpring_92 (by decide) ?_
        exact ih27 (v77.1, v77.2.1, v77.2.2.1, v77.2.2.2.1, v77.2.2.2.2, r10, v77.2.2.2.2 + 1) h _ _ hP hD hS _ (lv_sub hl [3, 4, 5, 1, 2, 0] rfl)
      refine lv_iload hx hb dX2_bestSpring_27 (lv_at hl 5 rfl) ?_
      refine lv_bipush (v := 99) hx hb dX2_bestSpring_29 (by decide) ?_
      refine lv_icmp_gt (tgt := 95) hx hb dX2_bestSpring_31 (by decide) (fun c4 => ?_) (fun c4 => ?_)
      · have h := it_p c4 h
        refine lv_iload_n hx hb dX2_bestSpring_95 rfl (lv_at hl 3 rfl) ?_
        cases h
      · have h := it_n c4 h
        refine lv_aload_n hx hb dX2_bestSpring_34 rfl (lv_at hl 0 rfl) ?_
        refine va_get (D := D) (ci := 2) (v := .ref (bk 1)) (C := RX2) (T := TX2) (N := 8) hx hb htB inlX2 hown hK hP 0 rfl rfl 1 (by decide) (htB _ kw18) (fun _ h9 => h9) rfl dX2_bestSpring_35 ?_
        refine va_get (D := D) (ci := 1) (v := .ref (pb 0)) (C := RX1) (T := TX1) (N := 10) hx hb htB inlX1 hown hK hP 9 rfl rfl 0 (by decide) (htB _ kw72) (fun _ h9 => h9) rfl dX2_bestSpring_38 ?_
        refine lv_iload_n hx hb dX2_bestSpring_41 rfl (lv_at hl 1 rfl) ?_
        refine lv_iload hx hb dX2_bestSpring_42 (lv_at hl 5 rfl) ?_
        obtain ⟨r5, h5, h⟩ := ob h
        refine call_v (wc := (gA t (pb 0) 2 v27.1.1)) (wc' := (gA t (pb 0) 2 r5)) (ws' := (gBo bh bk bo ++ (gS t (bk 0) nb now ++ (gS t (bk 1) pb (r5, v27.1.2.1, v27.1.2.2.1, v27.1.2.2.2.1, v27.1.2.2.2.2.1, v27.1.2.2.2.2.2.1, v27.1.2.2.2.2.2.2.1, v27.1.2.2.2.2.2.2.2.1, v27.1.2.2.2.2.2.2.2.2.1, v27.1.2.2.2.2.2.2.2.2.2) ++ (gE t (bk 2) eb v27.2.1))))) (cutI (wc := (gA t (pb 0) 2 v27.1.1)) (wc' := (gA t (pb 0) 2 r5)) (ws' := (gBo bh bk bo ++ (gS t (bk 0) nb now ++ (gS t (bk 1) pb (r5, v27.1.2.1, v27.1.2.2.1, v27.1.2.2.2.1, v27.1.2.2.2.2.1, v27.1.2.2.2.2.2.1, v27.1.2.2.2.2.2.2.1, v27.1.2.2.2.2.2.2.2.1, v27.1.2.2.2.2.2.2.2.2.1, v27.1.2.2.2.2.2.2.2.2.2) ++ (gE t (bk 2) eb v27.2.1))))) [10] hP hD hS hA rfl rfl rfl rfl) hS (fun hPc hDc => va_runS (As := [.ref (pb 0), .int v27.2.2.1, .int v27.2.2.2.2.2.2]) (rest := []) ⟨hx, hb, hml, hown, hts⟩ (mtX2_put l D t (pb 0) 2 v27.1.1 v27.2.2.1 v27.2.2.2.2.2.2 r5 h5 (by decide) _) (va_cwS 3 hts (gBS kw107 kw108 kw2 kw109) rfl rfl rfl (by decide +kernel) ⟨Nat.le_of_ble_eq_true rfl, Nat.le_of_ble_eq_true rfl⟩) (sPc_S hPc hK hDc hE) rfl rfl hl.1 rfl (lv_room (Nat.le_of_ble_eq_true rfl)) dX2_bestSpring_44 ⟨Nat.zero_le _, Nat.zero_le _⟩) (fun H locs hP hD hS => ?_)
        refine lv_aload_n hx hb dX2_bestSpring_47 rfl (lv_at hl 0 rfl) ?_
        refine va_get (D := D) (ci := 2) (v := .ref (bk 2)) (C := RX2) (T := TX2) (N := 8) hx hb htB inlX2 hown hK hP 0 rfl rfl 2 (by decide) (htB _ kw22) (fun _ h9 => h9) rfl dX2_bestSpring_48 ?_
        refine lv_aload_n hx hb dX2_bestSpring_51 rfl (lv_at hl 0 rfl) ?_
        refine va_get (D := D) (ci := 2) (v := .ref (bk 1)) (C := RX2) (T := TX2) (N := 8) hx hb htB inlX2 hown hK hP 0 rfl rfl 1 (by decide) (htB _ kw18) (fun _ h9 => h9) rfl dX2_bestSpring_52 ?_
        refine lv_iload_n hx hb dX2_bestSpring_55 rfl (lv_at hl 2 rfl) ?_
        obtain ⟨r6, h6, h⟩ := ob h
        refine call_v (wc := (gE t (bk 2) eb v27.2.1 ++ (gS t (bk 1) pb (r5, v27.1.2.1, v27.1.2.2.1, v27.1.2.2.2.1, v27.1.2.2.2.2.1, v27.1.2.2.2.2.2.1, v27.1.2.2.2.2.2.2.1, v27.1.2.2.2.2.2.2.2.1, v27.1.2.2.2.2.2.2.2.2.1, v27.1.2.2.2.2.2.2.2.2.2)))) (wc' := (gE t (bk 2) eb r6 ++ (gS t (bk 1) pb (r5, v27.1.2.1, v27.1.2.2.1, v27.1.2.2.2.1, v27.1.2.2.2.2.1, v27.1.2.2.2.2.2.1, v27.1.2.2.2.2.2.2.1, v27.1.2.2.2.2.2.2.2.1, v27.1.2.2.2.2.2.2.2.2.1, v27.1.2.2.2.2.2.2.2.2.2)))) (ws' := (gBo bh bk bo ++ (gS t (bk 0) nb now ++ (gS t (bk 1) pb (r5, v27.1.2.1, v27.1.2.2.1, v27.1.2.2.2.1, v27.1.2.2.2.2.1, v27.1.2.2.2.2.2.1, v27.1.2.2.2.2.2.2.1, v27.1.2.2.2.2.2.2.2.1, v27.1.2.2.2.2.2.2.2.2.1, v27.1.2.2.2.2.2.2.2.2.2) ++ (gE t (bk 2) eb r6))))) (cutB (bs := [gBo bh bk bo, gS t (bk 0) nb now, gS t (bk 1) pb (r5, v27.1.2.1, v27.1.2.2.1, v27.1.2.2.2.1, v27.1.2.2.2.2.1, v27.1.2.2.2.2.2.1, v27.1.2.2.2.2.2.2.1, v27.1.2.2.2.2.2.2.2.1, v27.1.2.2.2.2.2.2.2.2.1, v27.1.2.2.2.2.2.2.2.2.2), gE t (bk 2) eb v27.2.1]) (cs := [gE t (bk 2) eb v27.2.1, gS t (bk 1) pb (r5, v27.1.2.1, v27.1.2.2.1, v27.1.2.2.2.1, v27.1.2.2.2.2.1, v27.1.2.2.2.2.2.1, v27.1.2.2.2.2.2.2.1, v27.1.2.2.2.2.2.2.2.1, v27.1.2.2.2.2.2.2.2.2.1, v27.1.2.2.2.2.2.2.2.2.2)]) (cs' := [gE t (bk 2) eb r6, gS t (bk 1) pb (r5, v27.1.2.1, v27.1.2.2.1, v27.1.2.2.2.1, v27.1.2.2.2.2.1, v27.1.2.2.2.2.2.1, v27.1.2.2.2.2.2.2.1, v27.1.2.2.2.2.2.2.2.1, v27.1.2.2.2.2.2.2.2.2.1, v27.1.2.2.2.2.2.2.2.2.2)]) (bs' := [gBo bh bk bo, gS t (bk 0) nb now, gS t (bk 1) pb (r5, v27.1.2.1, v27.1.2.2.1, v27.1.2.2.2.1, v27.1.2.2.2.2.1, v27.1.2.2.2.2.2.1, v27.1.2.2.2.2.2.2.1, v27.1.2.2.2.2.2.2.2.1, v27.1.2.2.2.2.2.2.2.2.1, v27.1.2.2.2.2.2.2.2.2.2), gE t (bk 2) eb r6]) [3, 2] hP hD hS hA rfl rfl rfl rfl) hS (fun hPc hDc => va_runV (As := [.ref (bk 1), .int v27.2.2.2.1]) (rest := []) ⟨hx, hb, hml, hown, hts⟩ (mtX0_expose l D t (bk 2) eb v27.2.1 (bk 1) pb (r5, v27.1.2.1, v27.1.2.2.1, v27.1.2.2.2.1, v27.1.2.2.2.2.1, v27.1.2.2.2.2.2.1, v27.1.2.2.2.2.2.2.1, v27.1.2.2.2.2.2.2.2.1, v27.1.2.2.2.2.2.2.2.2.1, v27.1.2.2.2.2.2.2.2.2.2) v27.2.2.2.1 r6 h6 _) (cwV 2 hts (gBV kw224 kw225 kw226 kw21 kw227) rfl rfl rfl (by decide +kernel) ⟨Nat.le_of_ble_eq_true rfl, Nat.le_of_ble_eq_true rfl⟩) (sPc_V hPc hK hDc hE (va_recv hK hP (ci := 0) (q0 := 17) rfl rfl)) rfl rfl hl.1 rfl (lv_room (Nat.le_of_ble_eq_true rfl)) dX2_bestSpring_56 ⟨Nat.zero_le _, Nat.zero_le _⟩) (fun H locs hP hD hS => ?_)
        refine lv_iload hx hb dX2_bestSpring_59 (lv_at hl 4 rfl) ?_
        refine lv_iconst (v := (-1)) hx hb dX2_bestSpring_61 (by decide) ?_
        refine lv_icmp_eq (tgt := 77) hx hb dX2_bestSpring_62 (by decide) (fun c7 => ?_) (fun c7 => ?_)
        · have h := it_p c7 h
          exact J77 ((r5, v27.1.2.1, v27.1.2.2.1, v27.1.2.2.2.1, v27.1.2.2.2.2.1, v27.1.2.2.2.2.2.1, v27.1.2.2.2.2.2.2.1, v27.1.2.2.2.2.2.2.2.1, v27.1.2.2.2.2.2.2.2.2.1, v27.1.2.2.2.2.2.2.2.2.2), r6, v27.2.2.1, v27.2.2.2.1, v27.2.2.2.2.2.2) h _ _ hP hD hS _ (lv_sub hl [0, 1, 2, 5] rfl)
        · have h := it_n c7 h
          refine lv_aload_n hx hb dX2_bestSpring_65 rfl (lv_at hl 0 rfl) ?_
          refine va_get (D := D) (ci := 2) (v := .ref (bk 2)) (C := RX2) (T := TX2) (N := 8) hx hb htB inlX2 hown hK hP 0 rfl rfl 2 (by decide) (htB _ kw22) (fun _ h9 => h9) rfl dX2_bestSpring_66 ?_
          obtain ⟨r8, h8, h⟩ := ob h
          refine call_i (v := r8) (wc := (gE t (bk 2) eb r6)) (wc' := (gE t (bk 2) eb r6)) (ws' := (gBo bh bk bo ++ (gS t (bk 0) nb now ++ (gS t (bk 1) pb (r5, v27.1.2.1, v27.1.2.2.1, v27.1.2.2.2.1, v27.1.2.2.2.2.1, v27.1.2.2.2.2.2.1, v27.1.2.2.2.2.2.2.1, v27.1.2.2.2.2.2.2.2.1, v27.1.2.2.2.2.2.2.2.2.1, v27.1.2.2.2.2.2.2.2.2.2) ++ (gE t (bk 2) eb r6))))) (cutB (bs := [gBo bh bk bo, gS t (bk 0) nb now, gS t (bk 1) pb (r5, v27.1.2.1, v27.1.2.2.1, v27.1.2.2.2.1, v27.1.2.2.2.2.1, v27.1.2.2.2.2.2.1, v27.1.2.2.2.2.2.2.1, v27.1.2.2.2.2.2.2.2.1, v27.1.2.2.2.2.2.2.2.2.1, v27.1.2.2.2.2.2.2.2.2.2), gE t (bk 2) eb r6]) (cs := [gE t (bk 2) eb r6]) (cs' := [gE t (bk 2) eb r6]) (bs' := [gBo bh bk bo, gS t (bk 0) nb now, gS t (bk 1) pb (r5, v27.1.2.1, v27.1.2.2.1, v27.1.2.2.2.1, v27.1.2.2.2.2.1, v27.1.2.2.2.2.2.1, v27.1.2.2.2.2.2.2.1, v27.1.2.2.2.2.2.2.2.1, v27.1.2.2.2.2.2.2.2.2.1, v27.1.2.2.2.2.2.2.2.2.2), gE t (bk 2) eb r6]) [3] hP hD hS hA rfl rfl rfl rfl) hS (fun hPc hDc => va_runV (As := []) (rest := []) ⟨hx, hb, hml, hown, hts⟩ (mtX0_spread l D t (bk 2) eb r6 r8 h8 _) (cwV 0 hts (gBV kw282 kw279 kw280 kw21 kw281) rfl rfl rfl (by decide +kernel) ⟨Nat.le_of_ble_eq_true rfl, Nat.le_of_ble_eq_true rfl⟩) (sPc_V hPc hK hDc hE (va_recv hK hP (ci := 0) (q0 := 17) rfl rfl)) rfl rfl hl.1 rfl (lv_room (Nat.le_of_ble_eq_true rfl)) dX2_bestSpring_69 ⟨Nat.zero_le _, Nat.zero_le _⟩) (fun H locs hP hD hS => ?_)
          refine lv_iload hx hb dX2_bestSpring_72 (lv_at hl 4 rfl) ?_
          refine lv_icmp_ge (tgt := 89) hx hb dX2_bestSpring_74 (by decide) (fun c9 => ?_) (fun c9 => ?_)
          · have h := it_p c9 h
            refine lv_iinc (v := v27.2.2.2.2.2.2 + 1) (lv' := [(5, .int (v27.2.2.2.2.2.2 + 1)), (0, .ref bh), (1, .int v27.2.2.1), (2, .int v27.2.2.2.1), (3, .int v27.2.2.2.2.1), (4, .int v27.2.2.2.2.2.1)]) hx hb dX2_bestSpring_89 hl (k := 5) rfl rfl (by decide) rfl (fun ls hl => ?_)
            refine lv_goto (tgt := 27) hx hb dX2_bestSpring_92 (by decide) ?_
            exact ih27 ((r5, v27.1.2.1, v27.1.2.2.1, v27.1.2.2.2.1, v27.1.2.2.2.2.1, v27.1.2.2.2.2.2.1, v27.1.2.2.2.2.2.2.1, v27.1.2.2.2.2.2.2.2.1, v27.1.2.2.2.2.2.2.2.2.1, v27.1.2.2.2.2.2.2.2.2.2), r6, v27.2.2.1, v27.2.2.2.1, v27.2.2.2.2.1, v27.2.2.2.2.2.1, v27.2.2.2.2.2.2 + 1) h _ _ hP hD hS _ (lv_sub hl [1, 2, 3, 4, 5, 0] rfl)
          · have h := it_n c9 h
            exact J77 ((r5, v27.1.2.1, v27.1.2.2.1, v27.1.2.2.2.1, v27.1.2.2.2.2.1, v27.1.2.2.2.2.2.1, v27.1.2.2.2.2.2.2.1, v27.1.2.2.2.2.2.2.2.1, v27.1.2.2.2.2.2.2.2.2.1, v27.1.2.2.2.2.2.2.2.2.2), r6, v27.2.2.1, v27.2.2.2.1, v27.2.2.2.2.2.2) h _ _ hP hD hS _ (lv_sub hl [0, 1, 2, 5] rfl)
  refine lv_iload_n hx hb dX2_bestSpring_0 rfl (lv_at hl 1 rfl) ?_
  rcases tb_l h with h1 | ⟨r1, h1, h⟩
  · exact call_x (E := E) (wc := ([] : va_W)) (ws := (gBo bh bk bo ++ (gS t (bk 0) nb now ++ (gS t (bk 1) pb pr ++ (gE t (bk 2) eb ex))))) (cutB (bs := [gBo bh bk bo, gS t (bk 0) nb now, gS t (bk 1) pb pr, gE t (bk 2) eb ex]) (cs := []) (cs' := []) (bs' := [gBo bh bk bo, gS t (bk 0) nb now, gS t (bk 1) pb pr, gE t (bk 2) eb ex]) [] hP hD hS hA rfl rfl rfl rfl) hS hK hT hlocks (Nat.le_of_ble_eq_true rfl) (Nat.le_of_ble_eq_true rfl) (fun hPc hDc hAB => vx_runS (As := [.int cu]) (rest := []) ⟨hx, hb, hml, hown, hts⟩ (xmX2_needCurtain l hfl D t cu E h1 _) (va_cwS 1 hts (gBS kw73 kw74 kw2 kw75) rfl rfl rfl (by decide +kernel) ⟨Nat.le_of_ble_eq_true rfl, Nat.le_of_ble_eq_true rfl⟩) (xPc_S hPc hK hDc hE hX hS hAB) rfl rfl hl.1 rfl (lv_room (Nat.le_of_ble_eq_true rfl)) dX2_bestSpring_1 ⟨Nat.le_of_ble_eq_true rfl, Nat.le_of_ble_eq_true rfl⟩)
  refine call_v (wc := ([] : va_W)) (wc' := ([] : va_W)) (ws' := (gBo bh bk bo ++ (gS t (bk 0) nb now ++ (gS t (bk 1) pb pr ++ (gE t (bk 2) eb ex))))) (cutB (bs := [gBo bh bk bo, gS t (bk 0) nb now, gS t (bk 1) pb pr, gE t (bk 2) eb ex]) (cs := []) (cs' := []) (bs' := [gBo bh bk bo, gS t (bk 0) nb now, gS t (bk 1) pb pr, gE t (bk 2) eb ex]) [] hP hD hS hA rfl rfl rfl rfl) hS (fun hPc hDc => va_runS (As := [.int cu]) (rest := []) ⟨hx, hb, hml, hown, hts⟩ (mtX2_needCurtain l D t cu r1 h1 _) (va_cwS 1 hts (gBS kw73 kw74 kw2 kw75) rfl rfl rfl (by decide +kernel) ⟨Nat.le_of_ble_eq_true rfl, Nat.le_of_ble_eq_true rfl⟩) (sPc_S hPc hK hDc hE) rfl rfl hl.1 rfl (lv_room (Nat.le_of_ble_eq_true rfl)) dX2_bestSpring_1 ⟨Nat.zero_le _, Nat.zero_le _⟩) (fun H locs hP hD hS => ?_)
  refine lv_iload_n hx hb dX2_bestSpring_4 rfl (lv_at hl 2 rfl) ?_
  rcases tb_l h with h2 | ⟨r2, h2, h⟩
  · exact call_x (E := E) (wc := ([] : va_W)) (ws := (gBo bh bk bo ++ (gS t (bk 0) nb now ++ (gS t (bk 1) pb pr ++ (gE t (bk 2) eb ex))))) (cutB (bs := [gBo bh bk bo, gS t (bk 0) nb now, gS t (bk 1) pb pr, gE t (bk 2) eb ex]) (cs := []) (cs' := []) (bs' := [gBo bh bk bo, gS t (bk 0) nb now, gS t (bk 1) pb pr, gE t (bk 2) eb ex]) [] hP hD hS hA rfl rfl rfl rfl) hS hK hT hlocks (Nat.le_of_ble_eq_true rfl) (Nat.le_of_ble_eq_true rfl) (fun hPc hDc hAB => vx_runS (As := [.int v]) (rest := []) ⟨hx, hb, hml, hown, hts⟩ (xmX2_needSpeed l hfl D t v E h2 _) (va_cwS 1 hts (gBS kw179 kw180 kw2 kw181) rfl rfl rfl (by decide +kernel) ⟨Nat.le_of_ble_eq_true rfl, Nat.le_of_ble_eq_true rfl⟩) (xPc_S hPc hK hDc hE hX hS hAB) rfl rfl hl.1 rfl (lv_room (Nat.le_of_ble_eq_true rfl)) dX2_bestSpring_5 ⟨Nat.le_of_ble_eq_true rfl, Nat.le_of_ble_eq_true rfl⟩)
  refine call_v (wc := ([] : va_W)) (wc' := ([] : va_W)) (ws' := (gBo bh bk bo ++ (gS t (bk 0) nb now ++ (gS t (bk 1) pb pr ++ (gE t (bk 2) eb ex))))) (cutB (bs := [gBo bh bk bo, gS t (bk 0) nb now, gS t (bk 1) pb pr, gE t (bk 2) eb ex]) (cs := []) (cs' := []) (bs' := [gBo bh bk bo, gS t (bk 0) nb now, gS t (bk 1) pb pr, gE t (bk 2) eb ex]) [] hP hD hS hA rfl rfl rfl rfl) hS (fun hPc hDc => va_runS (As := [.int v]) (rest := []) ⟨hx, hb, hml, hown, hts⟩ (mtX2_needSpeed l D t v r2 h2 _) (va_cwS 1 hts (gBS kw179 kw180 kw2 kw181) rfl rfl rfl (by decide +kernel) ⟨Nat.le_of_ble_eq_true rfl, Nat.le_of_ble_eq_true rfl⟩) (sPc_S hPc hK hDc hE) rfl rfl hl.1 rfl (lv_room (Nat.le_of_ble_eq_true rfl)) dX2_bestSpring_5 ⟨Nat.zero_le _, Nat.zero_le _⟩) (fun H locs hP hD hS => ?_)
  refine lv_aload_n hx hb dX2_bestSpring_8 rfl (lv_at hl 0 rfl) ?_
  refine va_get (D := D) (ci := 2) (v := .ref (bk 1)) (C := RX2) (T := TX2) (N := 8) hx hb htB inlX2 hown hK hP 0 rfl rfl 1 (by decide) (htB _ kw18) (fun _ h9 => h9) rfl dX2_bestSpring_9 ?_
  refine lv_aload_n hx hb dX2_bestSpring_12 rfl (lv_at hl 0 rfl) ?_
  refine va_get (D := D) (ci := 2) (v := .ref (bk 0)) (C := RX2) (T := TX2) (N := 8) hx hb htB inlX2 hown hK hP 0 rfl rfl 0 (by decide) (htB _ kw17) (fun _ h9 => h9) rfl dX2_bestSpring_13 ?_
  obtain ⟨r3, h3, h⟩ := ob h
  refine call_v (wc := (gS t (bk 1) pb pr ++ (gS t (bk 0) nb now))) (wc' := (gS t (bk 1) pb r3 ++ (gS t (bk 0) nb now))) (ws' := (gBo bh bk bo ++ (gS t (bk 0) nb now ++ (gS t (bk 1) pb r3 ++ (gE t (bk 2) eb ex))))) (cutB (bs := [gBo bh bk bo, gS t (bk 0) nb now, gS t (bk 1) pb pr, gE t (bk 2) eb ex]) (cs := [gS t (bk 1) pb pr, gS t (bk 0) nb now]) (cs' := [gS t (bk 1) pb r3, gS t (bk 0) nb now]) (bs' := [gBo bh bk bo, gS t (bk 0) nb now, gS t (bk 1) pb r3, gE t (bk 2) eb ex]) [2, 1] hP hD hS hA rfl rfl rfl rfl) hS (fun hPc hDc => va_runV (As := [.ref (bk 0)]) (rest := []) ⟨hx, hb, hml, hown, hts⟩ (mtX1_become l D t (bk 1) pb pr (bk 0) nb now r3 h3 _) (cwV 1 hts (gBV kw98 kw99 kw100 kw16 kw101) rfl rfl rfl (by decide +kernel) ⟨Nat.le_of_ble_eq_true rfl, Nat.le_of_ble_eq_true rfl⟩) (sPc_V hPc hK hDc hE (va_recv hK hP (ci := 1) (q0 := 9) rfl rfl)) rfl rfl hl.1 rfl (lv_room (Nat.le_of_ble_eq_true rfl)) dX2_bestSpring_16 ⟨Nat.zero_le _, Nat.zero_le _⟩) (fun H locs hP hD hS => ?_)
  refine lv_iconst (v := 1) hx hb dX2_bestSpring_19 (by decide) ?_
  refine lv_istore_n (lv' := [(3, .int 1), (0, .ref bh), (1, .int cu), (2, .int v)]) hx hb dX2_bestSpring_20 rfl hl (by decide) rfl (fun ls hl => ?_)
  refine lv_iconst (v := (-1)) hx hb dX2_bestSpring_21 (by decide) ?_
  refine lv_istore (lv' := [(4, .int (-1)), (3, .int 1), (0, .ref bh), (1, .int cu), (2, .int v)]) hx hb dX2_bestSpring_22 hl (by decide) rfl (fun ls hl => ?_)
  refine lv_iconst (v := 1) hx hb dX2_bestSpring_24 (by decide) ?_
  refine lv_istore (lv' := [(5, .int 1), (4, .int (-1)), (3, .int 1), (0, .ref bh), (1, .int cu), (2, .int v)]) hx hb dX2_bestSpring_25 hl (by decide) rfl (fun ls hl => ?_)
  exact J27 2000 (r3, ex, cu, v, 1, (-1), 1) h _ _ hP hD hS _ (lv_sub hl [3, 4, 5, 2, 1, 0] rfl)

set_option maxHeartbeats 4000000 in
set_option maxRecDepth 100000 in
theorem xmX2_ifShot (l : Launch) (hfl : l.stackTraces = false) (D : va_G) (t : Nat → ClassId) (bh : Nat) (bk : Nat → Nat) (bo : BoT) (nb : Nat → Nat) (now : ShT) (pb : Nat → Nat) (pr : ShT) (eb : Nat → Nat) (ex : ExT) (v : Int32) (n : Int32) (w : Int32) (E : Nat) (h : fX2_ifShot bo now pr ex v n w = some (.inl E)) (sz : Nat) : vx_Met l yX2_ifShot zX2_ifShot ({ frames := 8, cells := 1, slots := 6, locals := 123 }) (xPc D t (gBo bh bk bo ++ (gS t (bk 0) nb now ++ (gS t (bk 1) pb pr ++ (gE t (bk 2) eb ex)))) sz [.ref bh, .int v, .int n, .int w]) (qX (va_A (gBo bh bk bo ++ (gS t (bk 0) nb now ++ (gS t (bk 1) pb pr ++ (gE t (bk 2) eb ex)))) sz)) (xC D t (gBo bh bk bo ++ (gS t (bk 0) nb now ++ (gS t (bk 1) pb pr ++ (gE t (bk 2) eb ex)))) E (va_A (gBo bh bk bo ++ (gS t (bk 0) nb now ++ (gS t (bk 1) pb pr ++ (gE t (bk 2) eb ex)))) sz)) 1 6 (va_A (gBo bh bk bo ++ (gS t (bk 0) nb now ++ (gS t (bk 1) pb pr ++ (gE t (bk 2) eb ex)))) sz) := by
  refine met_ofX (cc := cX2_ifShot) (maxL := 4) (ret := some .int) (by decide) rfl (Nat.le_of_ble_eq_true rfl) ?_
  intro p e s m args below meth c A hx hb hr hml hts hown hlocks hA hP hK hD hE hS hX hT ls hl
  have htB : ∀ w ∈ BIG, w.before args s = true := fun w h => hts w (List.mem_cons_of_mem _ h)
  have hown : s.vm.findClass RX2 = some m.cls := hown
  have hl : lv_has ls 4 [(0, .ref bh), (1, .int v), (2, .int n), (3, .int w)] := hl
  unfold fX2_ifShot at h
  refine lv_iload_n hx hb dX2_ifShot_0 rfl (lv_at hl 1 rfl) ?_
  rcases tb_l h with h1 | ⟨r1, h1, h⟩
  · exact call_x (E := E) (wc := ([] : va_W)) (ws := (gBo bh bk bo ++ (gS t (bk 0) nb now ++ (gS t (bk 1) pb pr ++ (gE t (bk 2) eb ex))))) (cutB (bs := [gBo bh bk bo, gS t (bk 0) nb now, gS t (bk 1) pb pr, gE t (bk 2) eb ex]) (cs := []) (cs' := []) (bs' := [gBo bh bk bo, gS t (bk 0) nb now, gS t (bk 1) pb pr, gE t (bk 2) eb ex]) [] hP hD hS hA rfl rfl rfl rfl) hS hK hT hlocks (Nat.le_of_ble_eq_true rfl) (Nat.le_of_ble_eq_true rfl) (fun hPc hDc hAB => vx_runS (As := [.int v]) (rest := []) ⟨hx, hb, hml, hown, hts⟩ (xmX2_needSpeed l hfl D t v E h1 _) (va_cwS 1 hts (gBS kw179 kw180 kw2 kw181) rfl rfl rfl (by decide +kernel) ⟨Nat.le_of_ble_eq_true rfl, Nat.le_of_ble_eq_true rfl⟩) (xPc_S hPc hK hDc hE hX hS hAB) rfl rfl hl.1 rfl (lv_room (Nat.le_of_ble_eq_true rfl)) dX2_ifShot_1 ⟨Nat.le_of_ble_eq_true rfl, Nat.le_of_ble_eq_true rfl⟩)
  refine call_v (wc := ([] : va_W)) (wc' := ([] : va_W)) (ws' := (gBo bh bk bo ++ (gS t (bk 0) nb now ++ (gS t (bk 1) pb pr ++ (gE t (bk 2) eb ex))))) (cutB (bs := [gBo bh bk bo, gS t (bk 0) nb now, gS t (bk 1) pb pr, gE t (bk 2) eb ex]) (cs := []) (cs' := []) (bs' := [gBo bh bk bo, gS t (bk 0) nb now, gS t (bk 1) pb pr, gE t (bk 2) eb ex]) [] hP hD hS hA rfl rfl rfl rfl) hS (fun hPc hDc => va_runS (As := [.int v]) (rest := []) ⟨hx, hb, hml, hown, hts⟩ (mtX2_needSpeed l D t v r1 h1 _) (va_cwS 1 hts (gBS kw179 kw180 kw2 kw181) rfl rfl rfl (by decide +kernel) ⟨Nat.le_of_ble_eq_true rfl, Nat.le_of_ble_eq_true rfl⟩) (sPc_S hPc hK hDc hE) rfl rfl hl.1 rfl (lv_room (Nat.le_of_ble_eq_true rfl)) dX2_ifShot_1 ⟨Nat.zero_le _, Nat.zero_le _⟩) (fun H locs hP hD hS => ?_)
  refine lv_iload_n hx hb dX2_ifShot_4 rfl (lv_at hl 2 rfl) ?_
  refine lv_iconst (v := 1) hx hb dX2_ifShot_5 (by decide) ?_
  refine lv_bipush (v := 50) hx hb dX2_ifShot_6 (by decide) ?_
  rcases tb_l h with h2 | ⟨r2, h2, h⟩
  · exact call_x (E := E) (wc := ([] : va_W)) (ws := (gBo bh bk bo ++ (gS t (bk 0) nb now ++ (gS t (bk 1) pb pr ++ (gE t (bk 2) eb ex))))) (cutB (bs := [gBo bh bk bo, gS t (bk 0) nb now, gS t (bk 1) pb pr, gE t (bk 2) eb ex]) (cs := []) (cs' := []) (bs' := [gBo bh bk bo, gS t (bk 0) nb now, gS t (bk 1) pb pr, gE t (bk 2) eb ex]) [] hP hD hS hA rfl rfl rfl rfl) hS hK hT hlocks (Nat.le_of_ble_eq_true rfl) (Nat.le_of_ble_eq_true rfl) (fun hPc hDc hAB => vx_runS (As := [.int n, .int 1, .int 50]) (rest := []) ⟨hx, hb, hml, hown, hts⟩ (xmX2_needRange l hfl D t n 1 50 E h2 _) (va_cwS 3 hts (gBS kw81 kw82 kw2 kw83) rfl rfl rfl (by decide +kernel) ⟨Nat.le_of_ble_eq_true rfl, Nat.le_of_ble_eq_true rfl⟩) (xPc_S hPc hK hDc hE hX hS hAB) rfl rfl hl.1 rfl (lv_room (Nat.le_of_ble_eq_true rfl)) dX2_ifShot_8 ⟨Nat.le_of_ble_eq_true rfl, Nat.le_of_ble_eq_true rfl⟩)
  refine call_v (wc := ([] : va_W)) (wc' := ([] : va_W)) (ws' := (gBo bh bk bo ++ (gS t (bk 0) nb now ++ (gS t (bk 1) pb pr ++ (gE t (bk 2) eb ex))))) (cutB (bs := [gBo bh bk bo, gS t (bk 0) nb now, gS t (bk 1) pb pr, gE t (bk 2) eb ex]) (cs := []) (cs' := []) (bs' := [gBo bh bk bo, gS t (bk 0) nb now, gS t (bk 1) pb pr, gE t (bk 2) eb ex]) [] hP hD hS hA rfl rfl rfl rfl) hS (fun hPc hDc => va_runS (As := [.int n, .int 1, .int 50]) (rest := []) ⟨hx, hb, hml, hown, hts⟩ (mtX2_needRange l D t n 1 50 r2 h2 _) (va_cwS 3 hts (gBS kw81 kw82 kw2 kw83) rfl rfl rfl (by decide +kernel) ⟨Nat.le_of_ble_eq_true rfl, Nat.le_of_ble_eq_true rfl⟩) (sPc_S hPc hK hDc hE) rfl rfl hl.1 rfl (lv_room (Nat.le_of_ble_eq_true rfl)) dX2_ifShot_8 ⟨Nat.zero_le _, Nat.zero_le _⟩) (fun H locs hP hD hS => ?_)
  refine lv_iload_n hx hb dX2_ifShot_11 rfl (lv_at hl 3 rfl) ?_
  refine lv_iconst (v := 0) hx hb dX2_ifShot_12 (by decide) ?_
  refine lv_iconst (v := 2) hx hb dX2_ifShot_13 (by decide) ?_
  rcases tb_l h with h3 | ⟨r3, h3, h⟩
  · exact call_x (E := E) (wc := ([] : va_W)) (ws := (gBo bh bk bo ++ (gS t (bk 0) nb now ++ (gS t (bk 1) pb pr ++ (gE t (bk 2) eb ex))))) (cutB (bs := [gBo bh bk bo, gS t (bk 0) nb now, gS t (bk 1) pb pr, gE t (bk 2) eb ex]) (cs := []) (cs' := []) (bs' := [gBo bh bk bo, gS t (bk 0) nb now, gS t (bk 1) pb pr, gE t (bk 2) eb ex]) [] hP hD hS hA rfl rfl rfl rfl) hS hK hT hlocks (Nat.le_of_ble_eq_true rfl) (Nat.le_of_ble_eq_true rfl) (fun hPc hDc hAB => vx_runS (As := [.int w, .int 0, .int 2]) (rest := []) ⟨hx, hb, hml, hown, hts⟩ (xmX2_needRange l hfl D t w 0 2 E h3 _) (va_cwS 3 hts (gBS kw81 kw82 kw2 kw83) rfl rfl rfl (by decide +kernel) ⟨Nat.le_of_ble_eq_true rfl, Nat.le_of_ble_eq_true rfl⟩) (xPc_S hPc hK hDc hE hX hS hAB) rfl rfl hl.1 rfl (lv_room (Nat.le_of_ble_eq_true rfl)) dX2_ifShot_14 ⟨Nat.le_of_ble_eq_true rfl, Nat.le_of_ble_eq_true rfl⟩)
  refine call_v (wc := ([] : va_W)) (wc' := ([] : va_W)) (ws' := (gBo bh bk bo ++ (gS t (bk 0) nb now ++ (gS t (bk 1) pb pr ++ (gE t (bk 2) eb ex))))) (cutB (bs := [gBo bh bk bo, gS t (bk 0) nb now, gS t (bk 1) pb pr, gE t (bk 2) eb ex]) (cs := []) (cs' := []) (bs' := [gBo bh bk bo, gS t (bk 0) nb now, gS t (bk 1) pb pr, gE t (bk 2) eb ex]) [] hP hD hS hA rfl rfl rfl rfl) hS (fun hPc hDc => va_runS (As := [.int w, .int 0, .int 2]) (rest := []) ⟨hx, hb, hml, hown, hts⟩ (mtX2_needRange l D t w 0 2 r3 h3 _) (va_cwS 3 hts (gBS kw81 kw82 kw2 kw83) rfl rfl rfl (by decide +kernel) ⟨Nat.le_of_ble_eq_true rfl, Nat.le_of_ble_eq_true rfl⟩) (sPc_S hPc hK hDc hE) rfl rfl hl.1 rfl (lv_room (Nat.le_of_ble_eq_true rfl)) dX2_ifShot_14 ⟨Nat.zero_le _, Nat.zero_le _⟩) (fun H locs hP hD hS => ?_)
  refine lv_aload_n hx hb dX2_ifShot_17 rfl (lv_at hl 0 rfl) ?_
  refine va_get (D := D) (ci := 2) (v := .ref (bk 1)) (C := RX2) (T := TX2) (N := 8) hx hb htB inlX2 hown hK hP 0 rfl rfl 1 (by decide) (htB _ kw18) (fun _ h9 => h9) rfl dX2_ifShot_18 ?_
  refine lv_aload_n hx hb dX2_ifShot_21 rfl (lv_at hl 0 rfl) ?_
  refine va_get (D := D) (ci := 2) (v := .ref (bk 0)) (C := RX2) (T := TX2) (N := 8) hx hb htB inlX2 hown hK hP 0 rfl rfl 0 (by decide) (htB _ kw17) (fun _ h9 => h9) rfl dX2_ifShot_22 ?_
  obtain ⟨r4, h4, h⟩ := ob h
  refine call_v (wc := (gS t (bk 1) pb pr ++ (gS t (bk 0) nb now))) (wc' := (gS t (bk 1) pb r4 ++ (gS t (bk 0) nb now))) (ws' := (gBo bh bk bo ++ (gS t (bk 0) nb now ++ (gS t (bk 1) pb r4 ++ (gE t (bk 2) eb ex))))) (cutB (bs := [gBo bh bk bo, gS t (bk 0) nb now, gS t (bk 1) pb pr, gE t (bk 2) eb ex]) (cs := [gS t (bk 1) pb pr, gS t (bk 0) nb now]) (cs' := [gS t (bk 1) pb r4, gS t (bk 0) nb now]) (bs' := [gBo bh bk bo, gS t (bk 0) nb now, gS t (bk 1) pb r4, gE t (bk 2) eb ex]) [2, 1] hP hD hS hA rfl rfl rfl rfl) hS (fun hPc hDc => va_runV (As := [.ref (bk 0)]) (rest := []) ⟨hx, hb, hml, hown, hts⟩ (mtX1_become l D t (bk 1) pb pr (bk 0) nb now r4 h4 _) (cwV 1 hts (gBV kw98 kw99 kw100 kw16 kw101) rfl rfl rfl (by decide +kernel) ⟨Nat.le_of_ble_eq_true rfl, Nat.le_of_ble_eq_true rfl⟩) (sPc_V hPc hK hDc hE (va_recv hK hP (ci := 1) (q0 := 9) rfl rfl)) rfl rfl hl.1 rfl (lv_room (Nat.le_of_ble_eq_true rfl)) dX2_ifShot_25 ⟨Nat.zero_le _, Nat.zero_le _⟩) (fun H locs hP hD hS => ?_)
  refine lv_aload_n hx hb dX2_ifShot_28 rfl (lv_at hl 0 rfl) ?_
  refine lv_aload_n hx hb dX2_ifShot_29 rfl (lv_at hl 0 rfl) ?_
  refine va_get (D := D) (ci := 2) (v := .ref (bk 1)) (C := RX2) (T := TX2) (N := 8) hx hb htB inlX2 hown hK hP 0 rfl rfl 1 (by decide) (htB _ kw18) (fun _ h9 => h9) rfl dX2_ifShot_30 ?_
  refine lv_iload_n hx hb dX2_ifShot_33 rfl (lv_at hl 1 rfl) ?_
  refine lv_iload_n hx hb dX2_ifShot_34 rfl (lv_at hl 2 rfl) ?_
  obtain ⟨r5, h5, h⟩ := ob h
  refine call_v (wc := (gBo bh bk bo ++ (gE t (bk 2) eb ex ++ (gS t (bk 1) pb r4)))) (wc' := (gBo bh bk bo ++ (gE t (bk 2) eb r5.1 ++ (gS t (bk 1) pb r5.2)))) (ws' := (gBo bh bk bo ++ (gS t (bk 0) nb now ++ (gS t (bk 1) pb r5.2 ++ (gE t (bk 2) eb r5.1))))) (cutB (bs := [gBo bh bk bo, gS t (bk 0) nb now, gS t (bk 1) pb r4, gE t (bk 2) eb ex]) (cs := [gBo bh bk bo, gE t (bk 2) eb ex, gS t (bk 1) pb r4]) (cs' := [gBo bh bk bo, gE t (bk 2) eb r5.1, gS t (bk 1) pb r5.2]) (bs' := [gBo bh bk bo, gS t (bk 0) nb now, gS t (bk 1) pb r5.2, gE t (bk 2) eb r5.1]) [0, 3, 2] hP hD hS hA rfl rfl rfl rfl) hS (fun hPc hDc => va_runV (As := [.ref (bk 1), .int v, .int n]) (rest := []) ⟨hx, hb, hml, hown, hts⟩ (mtX2_fire l D t bh bk bo eb ex (bk 1) pb r4 v n r5 h5 _) (cwV 3 hts (gBV kw220 kw221 kw222 kw2 kw223) rfl rfl rfl (by decide +kernel) ⟨Nat.le_of_ble_eq_true rfl, Nat.le_of_ble_eq_true rfl⟩) (sPc_V hPc hK hDc hE (va_recv hK hP (ci := 2) (q0 := 0) rfl rfl)) rfl rfl hl.1 rfl (lv_room (Nat.le_of_ble_eq_true rfl)) dX2_ifShot_35 ⟨Nat.zero_le _, Nat.zero_le _⟩) (fun H locs hP hD hS => ?_)
  refine lv_iload_n hx hb dX2_ifShot_38 rfl (lv_at hl 3 rfl) ?_
  by_cases c6 : w = 0
  · have h := it_p c6 h
    refine lv_lookup (off := 25) (tgt := 64) hx hb dX2_ifShot_39 (by decide) (by rw [c6]; decide) (by decide) ?_
    refine lv_aload_n hx hb dX2_ifShot_64 rfl (lv_at hl 0 rfl) ?_
    refine va_get (D := D) (ci := 2) (v := .ref (bk 2)) (C := RX2) (T := TX2) (N := 8) hx hb htB inlX2 hown hK hP 0 rfl rfl 2 (by decide) (htB _ kw22) (fun _ h9 => h9) rfl dX2_ifShot_65 ?_
    obtain ⟨r7, h7, h⟩ := ob h
    refine call_i (v := r7) (wc := (gE t (bk 2) eb r5.1)) (wc' := (gE t (bk 2) eb r5.1)) (ws' := (gBo bh bk bo ++ (gS t (bk 0) nb now ++ (gS t (bk 1) pb r5.2 ++ (gE t (bk 2) eb r5.1))))) (cutB (bs := [gBo bh bk bo, gS t (bk 0) nb now, gS t (bk 1) pb r5.2, gE t (bk 2) eb r5.1]) (cs := [gE t (bk 2) eb r5.1]) (cs' := [gE t (bk 2) eb r5.1]) (bs' := [gBo bh bk bo, gS t (bk 0) nb now, gS t (bk 1) pb r5.2, gE t (bk 2) eb r5.1]) [3] hP hD hS hA rfl rfl rfl rfl) hS (fun hPc hDc => va_runV (As := []) (rest := []) ⟨hx, hb, hml, hown, hts⟩ (mtX0_spread l D t (bk 2) eb r5.1 r7 h7 _) (cwV 0 hts (gBV kw282 kw279 kw280 kw21 kw281) rfl rfl rfl (by decide +kernel) ⟨Nat.le_of_ble_eq_true rfl, Nat.le_of_ble_eq_true rfl⟩) (sPc_V hPc hK hDc hE (va_recv hK hP (ci := 0) (q0 := 17) rfl rfl)) rfl rfl hl.1 rfl (lv_room (Nat.le_of_ble_eq_true rfl)) dX2_ifShot_68 ⟨Nat.zero_le _, Nat.zero_le _⟩) (fun H locs hP hD hS => ?_)
    cases h
  · have h := it_n c6 h
    by_cases c8 : w = 1
    · have h := it_p c8 h
      refine lv_lookup (off := 33) (tgt := 72) hx hb dX2_ifShot_39 (by decide) (by rw [c8]; decide) (by decide) ?_
      refine lv_aload_n hx hb dX2_ifShot_72 rfl (lv_at hl 0 rfl) ?_
      refine va_get (D := D) (ci := 2) (v := .ref (bk 1)) (C := RX2) (T := TX2) (N := 8) hx hb htB inlX2 hown hK hP 0 rfl rfl 1 (by decide) (htB _ kw18) (fun _ h9 => h9) rfl dX2_ifShot_73 ?_
      refine va_get (D := D) (ci := 1) (v := .ref (pb 0)) (C := RX1) (T := TX1) (N := 10) hx hb htB inlX1 hown hK hP 9 rfl rfl 0 (by decide) (htB _ kw72) (fun _ h9 => h9) rfl dX2_ifShot_76 ?_
      refine lv_iconst (v := 0) hx hb dX2_ifShot_79 (by decide) ?_
      obtain ⟨r9, h9, h⟩ := ob h
      refine call_i (v := r9) (wc := (gA t (pb 0) 2 r5.2.1)) (wc' := (gA t (pb 0) 2 r5.2.1)) (ws' := (gBo bh bk bo ++ (gS t (bk 0) nb now ++ (gS t (bk 1) pb r5.2 ++ (gE t (bk 2) eb r5.1))))) (cutI (wc := (gA t (pb 0) 2 r5.2.1)) (wc' := (gA t (pb 0) 2 r5.2.1)) (ws' := (gBo bh bk bo ++ (gS t (bk 0) nb now ++ (gS t (bk 1) pb r5.2 ++ (gE t (bk 2) eb r5.1))))) [10] hP hD hS hA rfl rfl rfl rfl) hS (fun hPc hDc => va_runS (As := [.ref (pb 0), .int 0]) (rest := []) ⟨hx, hb, hml, hown, hts⟩ (mtX2_at l D t (pb 0) 2 r5.2.1 0 r9 h9 (by decide) _) (va_cwS 2 hts (gBS kw104 kw105 kw2 kw106) rfl rfl rfl (by decide +kernel) ⟨Nat.le_of_ble_eq_true rfl, Nat.le_of_ble_eq_true rfl⟩) (sPc_S hPc hK hDc hE) rfl rfl hl.1 rfl (lv_room (Nat.le_of_ble_eq_true rfl)) dX2_ifShot_80 ⟨Nat.zero_le _, Nat.zero_le _⟩) (fun H locs hP hD hS => ?_)
      cases h
    · have h := it_n c8 h
      refine lv_lookup (off := 45) (tgt := 84) hx hb dX2_ifShot_39 (by decide) (lk_out2 (lk_ne (by decide) c6) (lk_ne (by decide) c8)) (by decide) ?_
      refine lv_aload_n hx hb dX2_ifShot_84 rfl (lv_at hl 0 rfl) ?_
      refine va_get (D := D) (ci := 2) (v := .ref (bk 2)) (C := RX2) (T := TX2) (N := 8) hx hb htB inlX2 hown hK hP 0 rfl rfl 2 (by decide) (htB _ kw22) (fun _ h9 => h9) rfl dX2_ifShot_85 ?_
      refine va_get (D := D) (ci := 0) (v := .int r5.1.2.2.2.2.2.2.2.1) (C := RX0) (T := TX0) (N := 10) hx hb htB inlX0 hown hK hP 17 rfl rfl 7 (by decide) (htB _ kw479) (fun _ h9 => h9) rfl dX2_ifShot_88 ?_
      cases h

set_option maxHeartbeats 4000000 in
set_option maxRecDepth 100000 in
theorem xmX2_goodFor (l : Launch) (hfl : l.stackTraces = false) (D : va_G) (t : Nat → ClassId) (bh : Nat) (bk : Nat → Nat) (bo : BoT) (nb : Nat → Nat) (now : ShT) (pb : Nat → Nat) (pr : ShT) (eb : Nat → Nat) (ex : ExT) (v : Int32) (n : Int32) (E : Nat) (h : fX2_goodFor bo now pr ex v n = some (.inl E)) (sz : Nat) : vx_Met l yX2_goodFor zX2_goodFor ({ frames := 8, cells := 1, slots := 6, locals := 123 }) (xPc D t (gBo bh bk bo ++ (gS t (bk 0) nb now ++ (gS t (bk 1) pb pr ++ (gE t (bk 2) eb ex)))) sz [.ref bh, .int v, .int n]) (qX (va_A (gBo bh bk bo ++ (gS t (bk 0) nb now ++ (gS t (bk 1) pb pr ++ (gE t (bk 2) eb ex)))) sz)) (xC D t (gBo bh bk bo ++ (gS t (bk 0) nb now ++ (gS t (bk 1) pb pr ++ (gE t (bk 2) eb ex)))) E (va_A (gBo bh bk bo ++ (gS t (bk 0) nb now ++ (gS t (bk 1) pb pr ++ (gE t (bk 2) eb ex)))) sz)) 1 6 (va_A (gBo bh bk bo ++ (gS t (bk 0) nb now ++ (gS t (bk 1) pb pr ++ (gE t (bk 2) eb ex)))) sz) := by
  refine met_ofX (cc := cX2_goodFor) (maxL := 4) (ret := some .int) (by decide) rfl (Nat.le_of_ble_eq_true rfl) ?_
  intro p e s m args below meth c A hx hb hr hml hts hown hlocks hA hP hK hD hE hS hX hT ls hl
  have htB : ∀ w ∈ BIG, w.before args s = true := fun w h => hts w (List.mem_cons_of_mem _ h)
  have hown : s.vm.findClass RX2 = some m.cls := hown
  have hl : lv_has ls 4 [(0, .ref bh), (1, .int v), (2, .int n)] := hl
  unfold fX2_goodFor at h
  have J25 : ∀ (fu25 : Nat) (v25 : ShT × ExT × Int32 × Int32 × Int32), lp (fX2_goodFor_l25 bo now) fu25 v25 = some (.inl E) → ∀ (H : Heap) (locs : List Loc), va_P D vwCl (gBo bh bk bo ++ (gS t (bk 0) nb now ++ (gS t (bk 1) pb v25.1 ++ (gE t (bk 2) eb v25.2.1)))) H → va_D A (gBo bh bk bo ++ (gS t (bk 0) nb now ++ (gS t (bk 1) pb v25.1 ++ (gE t (bk 2) eb v25.2.1)))) → va_S A s.heap H locs → ∀ ls : Array Slot, lv_has ls 4 [(0, .ref bh), (1, .int v25.2.2.1), (2, .int v25.2.2.2.1), (3, .int v25.2.2.2.2)] → W p l e ({ frames := 8, cells := 1, slots := 6, locals := 123 }) s m args below meth c H locs 0 0 (vx_MQ below (qX A) (xC D t (gBo bh bk bo ++ (gS t (bk 0) nb now ++ (gS t (bk 1) pb pr ++ (gE t (bk 2) eb ex)))) E A) args s 1 6 A) (F0 m 25 ls []) := by
    intro fu25
    induction fu25 with
    | zero => intro v25 h; cases h
    | succ fu25 ih25 =>
      intro v25 h H locs hP hD hS ls hl
      have h : fX2_goodFor_l25 bo now (lp (fX2_goodFor_l25 bo now) fu25) v25 = some (.inl E) := h
      unfold fX2_goodFor_l25 at h
      refine lv_iload_n hx hb dX2_goodFor_25 rfl (lv_at hl 3 rfl) ?_
      refine lv_sipush (v := 200) hx hb dX2_goodFor_26 (by decide) ?_
      refine lv_icmp_ge (tgt := 75) hx hb dX2_goodFor_29 (by decide) (fun c4 => ?_) (fun c4 => ?_)
      · have h := it_p c4 h
        refine lv_sipush (v := 200) hx hb dX2_goodFor_75 (by decide) ?_
        cases h
      · have h := it_n c4 h
        refine lv_aload_n hx hb dX2_goodFor_32 rfl (lv_at hl 0 rfl) ?_
        refine va_get (D := D) (ci := 2) (v := .ref (bk 2)) (C := RX2) (T := TX2) (N := 8) hx hb htB inlX2 hown hK hP 0 rfl rfl 2 (by decide) (htB _ kw22) (fun _ h9 => h9) rfl dX2_goodFor_33 ?_
        refine lv_aload_n hx hb dX2_goodFor_36 rfl (lv_at hl 0 rfl) ?_
        refine va_get (D := D) (ci := 2) (v := .ref (bk 1)) (C := RX2) (T := TX2) (N := 8) hx hb htB inlX2 hown hK hP 0 rfl rfl 1 (by decide) (htB _ kw18) (fun _ h9 => h9) rfl dX2_goodFor_37 ?_
        refine lv_iload_n hx hb dX2_goodFor_40 rfl (lv_at hl 1 rfl) ?_
        obtain ⟨r5, h5, h⟩ := ob h
        refine call_v (wc := (gE t (bk 2) eb v25.2.1 ++ (gS t (bk 1) pb v25.1))) (wc' := (gE t (bk 2) eb r5 ++ (gS t (bk 1) pb v25.1))) (ws' := (gBo bh bk bo ++ (gS t (bk 0) nb now ++ (gS t (bk 1) pb v25.1 ++ (gE t (bk 2) eb r5))))) (cutB (bs := [gBo bh bk bo, gS t (bk 0) nb now, gS t (bk 1) pb v25.1, gE t (bk 2) eb v25.2.1]) (cs := [gE t (bk 2) eb v25.2.1, gS t (bk 1) pb v25.1]) (cs' := [gE t (bk 2) eb r5, gS t (bk 1) pb v25.1]) (bs' := [gBo bh bk bo, gS t (bk 0) nb now, gS t (bk 1) pb v25.1, gE t (bk 2) eb r5]) [3, 2] hP hD hS hA rfl rfl rfl rfl) hS (fun hPc hDc => va_runV (As := [.ref (bk 1), .int v25.2.2.1]) (rest := []) ⟨hx, hb, hml, hown, hts⟩ (mtX0_expose l D t (bk 2) eb v25.2.1 (bk 1) pb v25.1 v25.2.2.1 r5 h5 _) (cwV 2 hts (gBV kw224 kw225 kw226 kw21 kw227) rfl rfl rfl (by decide +kernel) ⟨Nat.le_of_ble_eq_true rfl, Nat.le_of_ble_eq_true rfl⟩) (sPc_V hPc hK hDc hE (va_recv hK hP (ci := 0) (q0 := 17) rfl rfl)) rfl rfl hl.1 rfl (lv_room (Nat.le_of_ble_eq_true rfl)) dX2_goodFor_41 ⟨Nat.zero_le _, Nat.zero_le _⟩) (fun H locs hP hD hS => ?_)
        refine lv_aload_n hx hb dX2_goodFor_44 rfl (lv_at hl 0 rfl) ?_
        refine va_get (D := D) (ci := 2) (v := .ref (bk 2)) (C := RX2) (T := TX2) (N := 8) hx hb htB inlX2 hown hK hP 0 rfl rfl 2 (by decide) (htB _ kw22) (fun _ h9 => h9) rfl dX2_goodFor_45 ?_
        refine va_get (D := D) (ci := 0) (v := .int r5.2.2.2.2.2.2.2.1) (C := RX0) (T := TX0) (N := 10) hx hb htB inlX0 hown hK hP 17 rfl rfl 7 (by decide) (htB _ kw479) (fun _ h9 => h9) rfl dX2_goodFor_48 ?_
        refine lv_iload_n hx hb dX2_goodFor_51 rfl (lv_at hl 2 rfl) ?_
        refine lv_icmp_le (tgt := 57) hx hb dX2_goodFor_52 (by decide) (fun c6 => ?_) (fun c6 => ?_)
        · have h := it_p c6 h
          refine lv_aload_n hx hb dX2_goodFor_57 rfl (lv_at hl 0 rfl) ?_
          refine va_get (D := D) (ci := 2) (v := .ref (bk 1)) (C := RX2) (T := TX2) (N := 8) hx hb htB inlX2 hown hK hP 0 rfl rfl 1 (by decide) (htB _ kw18) (fun _ h9 => h9) rfl dX2_goodFor_58 ?_
          refine lv_iload_n hx hb dX2_goodFor_61 rfl (lv_at hl 1 rfl) ?_
          refine lv_aload_n hx hb dX2_goodFor_62 rfl (lv_at hl 0 rfl) ?_
          refine va_get (D := D) (ci := 2) (v := .ref (bk 2)) (C := RX2) (T := TX2) (N := 8) hx hb htB inlX2 hown hK hP 0 rfl rfl 2 (by decide) (htB _ kw22) (fun _ h9 => h9) rfl dX2_goodFor_63 ?_
          obtain ⟨r7, h7, h⟩ := ob h
          refine call_v (wc := (gS t (bk 1) pb v25.1 ++ (gE t (bk 2) eb r5))) (wc' := (gS t (bk 1) pb r7 ++ (gE t (bk 2) eb r5))) (ws' := (gBo bh bk bo ++ (gS t (bk 0) nb now ++ (gS t (bk 1) pb r7 ++ (gE t (bk 2) eb r5))))) (cutB (bs := [gBo bh bk bo, gS t (bk 0) nb now, gS t (bk 1) pb v25.1, gE t (bk 2) eb r5]) (cs := [gS t (bk 1) pb v25.1, gE t (bk 2) eb r5]) (cs' := [gS t (bk 1) pb r7, gE t (bk 2) eb r5]) (bs' := [gBo bh bk bo, gS t (bk 0) nb now, gS t (bk 1) pb r7, gE t (bk 2) eb r5]) [2, 3] hP hD hS hA rfl rfl rfl rfl) hS (fun hPc hDc => va_runV (As := [.int v25.2.2.1, .ref (bk 2)]) (rest := []) ⟨hx, hb, hml, hown, hts⟩ (mtX1_tally l D t (bk 1) pb v25.1 (bk 2) eb r5 v25.2.2.1 r7 h7 _) (cwV 2 hts (gBV kw273 kw274 kw275 kw16 kw276) rfl rfl rfl (by decide +kernel) ⟨Nat.le_of_ble_eq_true rfl, Nat.le_of_ble_eq_true rfl⟩) (sPc_V hPc hK hDc hE (va_recv hK hP (ci := 1) (q0 := 9) rfl rfl)) rfl rfl hl.1 rfl (lv_room (Nat.le_of_ble_eq_true rfl)) dX2_goodFor_66 ⟨Nat.zero_le _, Nat.zero_le _⟩) (fun H locs hP hD hS => ?_)
          refine lv_iinc (v := v25.2.2.2.2 + 1) (lv' := [(3, .int (v25.2.2.2.2 + 1)), (0, .ref bh), (1, .int v25.2.2.1), (2, .int v25.2.2.2.1)]) hx hb dX2_goodFor_69 hl (k := 3) rfl rfl (by decide) rfl (fun ls hl => ?_)
          refine lv_goto (tgt := 25) hx hb dX2_goodFor_72 (by decide) ?_
          exact ih25 (r7, r5, v25.2.2.1, v25.2.2.2.1, v25.2.2.2.2 + 1) h _ _ hP hD hS _ (lv_sub hl [1, 2, 3, 0] rfl)
        · have h := it_n c6 h
          refine lv_iload_n hx hb dX2_goodFor_55 rfl (lv_at hl 3 rfl) ?_
          cases h
  refine lv_iload_n hx hb dX2_goodFor_0 rfl (lv_at hl 1 rfl) ?_
  rcases tb_l h with h1 | ⟨r1, h1, h⟩
  · exact call_x (E := E) (wc := ([] : va_W)) (ws := (gBo bh bk bo ++ (gS t (bk 0) nb now ++ (gS t (bk 1) pb pr ++ (gE t (bk 2) eb ex))))) (cutB (bs := [gBo bh bk bo, gS t (bk 0) nb now, gS t (bk 1) pb pr, gE t (bk 2) eb ex]) (cs := []) (cs' := []) (bs' := [gBo bh bk bo, gS t (bk 0) nb now, gS t (bk 1) pb pr, gE t (bk 2) eb ex]) [] hP hD hS hA rfl rfl rfl rfl) hS hK hT hlocks (Nat.le_of_ble_eq_true rfl) (Nat.le_of_ble_eq_true rfl) (fun hPc hDc hAB => vx_runS (As := [.int v]) (rest := []) ⟨hx, hb, hml, hown, hts⟩ (xmX2_needSpeed l hfl D t v E h1 _) (va_cwS 1 hts (gBS kw179 kw180 kw2 kw181) rfl rfl rfl (by decide +kernel) ⟨Nat.le_of_ble_eq_true rfl, Nat.le_of_ble_eq_true rfl⟩) (xPc_S hPc hK hDc hE hX hS hAB) rfl rfl hl.1 rfl (lv_room (Nat.le_of_ble_eq_true rfl)) dX2_goodFor_1 ⟨Nat.le_of_ble_eq_true rfl, Nat.le_of_ble_eq_true rfl⟩)
  refine call_v (wc := ([] : va_W)) (wc' := ([] : va_W)) (ws' := (gBo bh bk bo ++ (gS t (bk 0) nb now ++ (gS t (bk 1) pb pr ++ (gE t (bk 2) eb ex))))) (cutB (bs := [gBo bh bk bo, gS t (bk 0) nb now, gS t (bk 1) pb pr, gE t (bk 2) eb ex]) (cs := []) (cs' := []) (bs' := [gBo bh bk bo, gS t (bk 0) nb now, gS t (bk 1) pb pr, gE t (bk 2) eb ex]) [] hP hD hS hA rfl rfl rfl rfl) hS (fun hPc hDc => va_runS (As := [.int v]) (rest := []) ⟨hx, hb, hml, hown, hts⟩ (mtX2_needSpeed l D t v r1 h1 _) (va_cwS 1 hts (gBS kw179 kw180 kw2 kw181) rfl rfl rfl (by decide +kernel) ⟨Nat.le_of_ble_eq_true rfl, Nat.le_of_ble_eq_true rfl⟩) (sPc_S hPc hK hDc hE) rfl rfl hl.1 rfl (lv_room (Nat.le_of_ble_eq_true rfl)) dX2_goodFor_1 ⟨Nat.zero_le _, Nat.zero_le _⟩) (fun H locs hP hD hS => ?_)
  refine lv_iload_n hx hb dX2_goodFor_4 rfl (lv_at hl 2 rfl) ?_
  refine lv_iconst (v := 0) hx hb dX2_goodFor_5 (by decide) ?_
  refine lv_sipush (v := 999) hx hb dX2_goodFor_6 (by decide) ?_
  rcases tb_l h with h2 | ⟨r2, h2, h⟩
  · exact call_x (E := E) (wc := ([] : va_W)) (ws := (gBo bh bk bo ++ (gS t (bk 0) nb now ++ (gS t (bk 1) pb pr ++ (gE t (bk 2) eb ex))))) (cutB (bs := [gBo bh bk bo, gS t (bk 0) nb now, gS t (bk 1) pb pr, gE t (bk 2) eb ex]) (cs := []) (cs' := []) (bs' := [gBo bh bk bo, gS t (bk 0) nb now, gS t (bk 1) pb pr, gE t (bk 2) eb ex]) [] hP hD hS hA rfl rfl rfl rfl) hS hK hT hlocks (Nat.le_of_ble_eq_true rfl) (Nat.le_of_ble_eq_true rfl) (fun hPc hDc hAB => vx_runS (As := [.int n, .int 0, .int 999]) (rest := []) ⟨hx, hb, hml, hown, hts⟩ (xmX2_needRange l hfl D t n 0 999 E h2 _) (va_cwS 3 hts (gBS kw81 kw82 kw2 kw83) rfl rfl rfl (by decide +kernel) ⟨Nat.le_of_ble_eq_true rfl, Nat.le_of_ble_eq_true rfl⟩) (xPc_S hPc hK hDc hE hX hS hAB) rfl rfl hl.1 rfl (lv_room (Nat.le_of_ble_eq_true rfl)) dX2_goodFor_9 ⟨Nat.le_of_ble_eq_true rfl, Nat.le_of_ble_eq_true rfl⟩)
  refine call_v (wc := ([] : va_W)) (wc' := ([] : va_W)) (ws' := (gBo bh bk bo ++ (gS t (bk 0) nb now ++ (gS t (bk 1) pb pr ++ (gE t (bk 2) eb ex))))) (cutB (bs := [gBo bh bk bo, gS t (bk 0) nb now, gS t (bk 1) pb pr, gE t (bk 2) eb ex]) (cs := []) (cs' := []) (bs' := [gBo bh bk bo, gS t (bk 0) nb now, gS t (bk 1) pb pr, gE t (bk 2) eb ex]) [] hP hD hS hA rfl rfl rfl rfl) hS (fun hPc hDc => va_runS (As := [.int n, .int 0, .int 999]) (rest := []) ⟨hx, hb, hml, hown, hts⟩ (mtX2_needRange l D t n 0 999 r2 h2 _) (va_cwS 3 hts (gBS kw81 kw82 kw2 kw83) rfl rfl rfl (by decide +kernel) ⟨Nat.le_of_ble_eq_true rfl, Nat.le_of_ble_eq_true rfl⟩) (sPc_S hPc hK hDc hE) rfl rfl hl.1 rfl (lv_room (Nat.le_of_ble_eq_true rfl)) dX2_goodFor_9 ⟨Nat.zero_le _, Nat.zero_le _⟩) (fun H locs hP hD hS => ?_)
  refine lv_aload_n hx hb dX2_goodFor_12 rfl (lv_at hl 0 rfl) ?_
  refine va_get (D := D) (ci := 2) (v := .ref (bk 1)) (C := RX2) (T := TX2) (N := 8) hx hb htB inlX2 hown hK hP 0 rfl rfl 1 (by decide) (htB _ kw18) (fun _ h9 => h9) rfl dX2_goodFor_13 ?_
  refine lv_aload_n hx hb dX2_goodFor_16 rfl (lv_at hl 0 rfl) ?_
  refine va_get (D := D) (ci := 2) (v := .ref (bk 0)) (C := RX2) (T := TX2) (N := 8) hx hb htB inlX2 hown hK hP 0 rfl rfl 0 (by decide) (htB _ kw17) (fun _ h9 => h9) rfl dX2_goodFor_17 ?_
  obtain ⟨r3, h3, h⟩ := ob h
  refine call_v (wc := (gS t (bk 1) pb pr ++ (gS t (bk 0) nb now))) (wc' := (gS t (bk 1) pb r3 ++ (gS t (bk 0) nb now))) (ws' := (gBo bh bk bo ++ (gS t (bk 0) nb now ++ (gS t (bk 1) pb r3 ++ (gE t (bk 2) eb ex))))) (cutB (bs := [gBo bh bk bo, gS t (bk 0) nb now, gS t (bk 1) pb pr, gE t (bk 2) eb ex]) (cs := [gS t (bk 1) pb pr, gS t (bk 0) nb now]) (cs' := [gS t (bk 1) pb r3, gS t (bk 0) nb now]) (bs' := [gBo bh bk bo, gS t (bk 0) nb now, gS t (bk 1) pb r3, gE t (bk 2) eb ex]) [2, 1] hP hD hS hA rfl rfl rfl rfl) hS (fun hPc hDc => va_runV (As := [.ref (bk 0)]) (rest := []) ⟨hx, hb, hml, hown, hts⟩ (mtX1_become l D t (bk 1) pb pr (bk 0) nb now r3 h3 _) (cwV 1 hts (gBV kw98 kw99 kw100 kw16 kw101) rfl rfl rfl (by decide +kernel) ⟨Nat.le_of_ble_eq_true rfl, Nat.le_of_ble_eq_true rfl⟩) (sPc_V hPc hK hDc hE (va_recv hK hP (ci := 1) (q0 := 9) rfl rfl)) rfl rfl hl.1 rfl (lv_room (Nat.le_of_ble_eq_true rfl)) dX2_goodFor_20 ⟨Nat.zero_le _, Nat.zero_le _⟩) (fun H locs hP hD hS => ?_)
  refine lv_iconst (v := 0) hx hb dX2_goodFor_23 (by decide) ?_
  refine lv_istore_n (lv' := [(3, .int 0), (0, .ref bh), (1, .int v), (2, .int n)]) hx hb dX2_goodFor_24 rfl hl (by decide) rfl (fun ls hl => ?_)
  exact J25 2000 (r3, ex, v, n, 0) h _ _ hP hD hS _ (lv_sub hl [1, 2, 3, 0] rfl)

set_option maxHeartbeats 4000000 in
set_option maxRecDepth 100000 in
theorem xmX2_evenness (l : Launch) (hfl : l.stackTraces = false) (D : va_G) (t : Nat → ClassId) (bh : Nat) (bk : Nat → Nat) (bo : BoT) (nb : Nat → Nat) (now : ShT) (eb : Nat → Nat) (ex : ExT) (v : Int32) (E : Nat) (h : fX2_evenness bo now ex v = some (.inl E)) (sz : Nat) : vx_Met l yX2_evenness zX2_evenness ({ frames := 8, cells := 1, slots := 6, locals := 123 }) (xPc D t (gBo bh bk bo ++ (gS t (bk 0) nb now ++ (gE t (bk 2) eb ex))) sz [.ref bh, .int v]) (qX (va_A (gBo bh bk bo ++ (gS t (bk 0) nb now ++ (gE t (bk 2) eb ex))) sz)) (xC D t (gBo bh bk bo ++ (gS t (bk 0) nb now ++ (gE t (bk 2) eb ex))) E (va_A (gBo bh bk bo ++ (gS t (bk 0) nb now ++ (gE t (bk 2) eb ex))) sz)) 1 6 (va_A (gBo bh bk bo ++ (gS t (bk 0) nb now ++ (gE t (bk 2) eb ex))) sz) := by
  refine met_ofX (cc := cX2_evenness) (maxL := 2) (ret := some .double) (by decide) rfl (Nat.le_of_ble_eq_true rfl) ?_
  intro p e s m args below meth c A hx hb hr hml hts hown hlocks hA hP hK hD hE hS hX hT ls hl
  have htB : ∀ w ∈ BIG, w.before args s = true := fun w h => hts w (List.mem_cons_of_mem _ h)
  have hown : s.vm.findClass RX2 = some m.cls := hown
  have hl : lv_has ls 2 [(0, .ref bh), (1, .int v)] := hl
  unfold fX2_evenness at h
  refine lv_iload_n hx hb dX2_evenness_0 rfl (lv_at hl 1 rfl) ?_
  rcases tb_l h with h1 | ⟨r1, h1, h⟩
  · exact call_x (E := E) (wc := ([] : va_W)) (ws := (gBo bh bk bo ++ (gS t (bk 0) nb now ++ (gE t (bk 2) eb ex)))) (cutB (bs := [gBo bh bk bo, gS t (bk 0) nb now, gE t (bk 2) eb ex]) (cs := []) (cs' := []) (bs' := [gBo bh bk bo, gS t (bk 0) nb now, gE t (bk 2) eb ex]) [] hP hD hS hA rfl rfl rfl rfl) hS hK hT hlocks (Nat.le_of_ble_eq_true rfl) (Nat.le_of_ble_eq_true rfl) (fun hPc hDc hAB => vx_runS (As := [.int v]) (rest := []) ⟨hx, hb, hml, hown, hts⟩ (xmX2_needSpeed l hfl D t v E h1 _) (va_cwS 1 hts (gBS kw179 kw180 kw2 kw181) rfl rfl rfl (by decide +kernel) ⟨Nat.le_of_ble_eq_true rfl, Nat.le_of_ble_eq_true rfl⟩) (xPc_S hPc hK hDc hE hX hS hAB) rfl rfl hl.1 rfl (lv_room (Nat.le_of_ble_eq_true rfl)) dX2_evenness_1 ⟨Nat.le_of_ble_eq_true rfl, Nat.le_of_ble_eq_true rfl⟩)
  refine call_v (wc := ([] : va_W)) (wc' := ([] : va_W)) (ws' := (gBo bh bk bo ++ (gS t (bk 0) nb now ++ (gE t (bk 2) eb ex)))) (cutB (bs := [gBo bh bk bo, gS t (bk 0) nb now, gE t (bk 2) eb ex]) (cs := []) (cs' := []) (bs' := [gBo bh bk bo, gS t (bk 0) nb now, gE t (bk 2) eb ex]) [] hP hD hS hA rfl rfl rfl rfl) hS (fun hPc hDc => va_runS (As := [.int v]) (rest := []) ⟨hx, hb, hml, hown, hts⟩ (mtX2_needSpeed l D t v r1 h1 _) (va_cwS 1 hts (gBS kw179 kw180 kw2 kw181) rfl rfl rfl (by decide +kernel) ⟨Nat.le_of_ble_eq_true rfl, Nat.le_of_ble_eq_true rfl⟩) (sPc_S hPc hK hDc hE) rfl rfl hl.1 rfl (lv_room (Nat.le_of_ble_eq_true rfl)) dX2_evenness_1 ⟨Nat.zero_le _, Nat.zero_le _⟩) (fun H locs hP hD hS => ?_)
  refine lv_aload_n hx hb dX2_evenness_4 rfl (lv_at hl 0 rfl) ?_
  refine va_get (D := D) (ci := 2) (v := .ref (bk 2)) (C := RX2) (T := TX2) (N := 8) hx hb htB inlX2 hown hK hP 0 rfl rfl 2 (by decide) (htB _ kw22) (fun _ h9 => h9) rfl dX2_evenness_5 ?_
  refine lv_aload_n hx hb dX2_evenness_8 rfl (lv_at hl 0 rfl) ?_
  refine va_get (D := D) (ci := 2) (v := .ref (bk 0)) (C := RX2) (T := TX2) (N := 8) hx hb htB inlX2 hown hK hP 0 rfl rfl 0 (by decide) (htB _ kw17) (fun _ h9 => h9) rfl dX2_evenness_9 ?_
  refine lv_iload_n hx hb dX2_evenness_12 rfl (lv_at hl 1 rfl) ?_
  obtain ⟨r2, h2, h⟩ := ob h
  refine call_v (wc := (gE t (bk 2) eb ex ++ (gS t (bk 0) nb now))) (wc' := (gE t (bk 2) eb r2 ++ (gS t (bk 0) nb now))) (ws' := (gBo bh bk bo ++ (gS t (bk 0) nb now ++ (gE t (bk 2) eb r2)))) (cutB (bs := [gBo bh bk bo, gS t (bk 0) nb now, gE t (bk 2) eb ex]) (cs := [gE t (bk 2) eb ex, gS t (bk 0) nb now]) (cs' := [gE t (bk 2) eb r2, gS t (bk 0) nb now]) (bs' := [gBo bh bk bo, gS t (bk 0) nb now, gE t (bk 2) eb r2]) [2, 1] hP hD hS hA rfl rfl rfl rfl) hS (fun hPc hDc => va_runV (As := [.ref (bk 0), .int v]) (rest := []) ⟨hx, hb, hml, hown, hts⟩ (mtX0_expose l D t (bk 2) eb ex (bk 0) nb now v r2 h2 _) (cwV 2 hts (gBV kw224 kw225 kw226 kw21 kw227) rfl rfl rfl (by decide +kernel) ⟨Nat.le_of_ble_eq_true rfl, Nat.le_of_ble_eq_true rfl⟩) (sPc_V hPc hK hDc hE (va_recv hK hP (ci := 0) (q0 := 9) rfl rfl)) rfl rfl hl.1 rfl (lv_room (Nat.le_of_ble_eq_true rfl)) dX2_evenness_13 ⟨Nat.zero_le _, Nat.zero_le _⟩) (fun H locs hP hD hS => ?_)
  refine lv_aload_n hx hb dX2_evenness_16 rfl (lv_at hl 0 rfl) ?_
  refine va_get (D := D) (ci := 2) (v := .ref (bk 2)) (C := RX2) (T := TX2) (N := 8) hx hb htB inlX2 hown hK hP 0 rfl rfl 2 (by decide) (htB _ kw22) (fun _ h9 => h9) rfl dX2_evenness_17 ?_
  refine va_get (D := D) (ci := 0) (v := .int r2.2.2.2.2.2.1) (C := RX0) (T := TX0) (N := 10) hx hb htB inlX0 hown hK hP 9 rfl rfl 5 (by decide) (htB _ kw586) (fun _ h9 => h9) rfl dX2_evenness_20 ?_
  refine lv_if_gt (tgt := 28) hx hb dX2_evenness_23 (by decide) (fun c3 => ?_) (fun c3 => ?_)
  · have h := it_p c3 h
    refine lv_aload_n hx hb dX2_evenness_28 rfl (lv_at hl 0 rfl) ?_
    refine va_get (D := D) (ci := 2) (v := .ref (bk 2)) (C := RX2) (T := TX2) (N := 8) hx hb htB inlX2 hown hK hP 0 rfl rfl 2 (by decide) (htB _ kw22) (fun _ h9 => h9) rfl dX2_evenness_29 ?_
    refine va_get (D := D) (ci := 0) (v := .int r2.2.2.2.2.1) (C := RX0) (T := TX0) (N := 10) hx hb htB inlX0 hown hK hP 9 rfl rfl 4 (by decide) (htB _ kw587) (fun _ h9 => h9) rfl dX2_evenness_32 ?_
    refine lv_i2d hx hb dX2_evenness_35 ?_
    refine lv_aload_n hx hb dX2_evenness_36 rfl (lv_at hl 0 rfl) ?_
    refine va_get (D := D) (ci := 2) (v := .ref (bk 2)) (C := RX2) (T := TX2) (N := 8) hx hb htB inlX2 hown hK hP 0 rfl rfl 2 (by decide) (htB _ kw22) (fun _ h9 => h9) rfl dX2_evenness_37 ?_
    refine va_get (D := D) (ci := 0) (v := .int r2.2.2.2.2.2.1) (C := RX0) (T := TX0) (N := 10) hx hb htB inlX0 hown hK hP 9 rfl rfl 5 (by decide) (htB _ kw586) (fun _ h9 => h9) rfl dX2_evenness_40 ?_
    refine lv_i2d hx hb dX2_evenness_43 ?_
    obtain ⟨g4, h⟩ := og h
    refine lv_ddiv hx hb dX2_evenness_44 (nn_n64 g4) ?_
    cases h
  · have h := it_n c3 h
    refine lv_dconst1 hx hb dX2_evenness_26 ?_
    cases h
