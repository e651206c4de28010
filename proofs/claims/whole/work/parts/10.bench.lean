theorem dX2_curtain_0 : decode cX2_curtain 0 = .ok (.iload_n 1, 1) := by decide +kernel
theorem dX2_curtain_1 : decode cX2_curtain 1 = .ok (.invokestatic 44, 3) := by decide +kernel
theorem dX2_curtain_4 : decode cX2_curtain 4 = .ok (.iload_n 2, 1) := by decide +kernel
theorem dX2_curtain_5 : decode cX2_curtain 5 = .ok (.iconst 0, 1) := by decide +kernel
theorem dX2_curtain_6 : decode cX2_curtain 6 = .ok (.iconst 3, 1) := by decide +kernel
theorem dX2_curtain_7 : decode cX2_curtain 7 = .ok (.invokestatic 48, 3) := by decide +kernel
theorem dX2_curtain_10 : decode cX2_curtain 10 = .ok (.iload_n 2, 1) := by decide +kernel
theorem dX2_curtain_11 : decode cX2_curtain 11 = .ok (.tableswitch 58 0 2 #[25, 37, 49], 25) := by decide +kernel
theorem dX2_curtain_36 : decode cX2_curtain 36 = .ok (.aload_n 0, 1) := by decide +kernel
theorem dX2_curtain_37 : decode cX2_curtain 37 = .ok (.getfield 10, 3) := by decide +kernel
theorem dX2_curtain_40 : decode cX2_curtain 40 = .ok (.getfield 55, 3) := by decide +kernel
theorem dX2_curtain_43 : decode cX2_curtain 43 = .ok (.iload_n 1, 1) := by decide +kernel
theorem dX2_curtain_44 : decode cX2_curtain 44 = .ok (.invokestatic 58, 3) := by decide +kernel
theorem dX2_curtain_47 : decode cX2_curtain 47 = .ok (.ireturn, 1) := by decide +kernel
theorem dX2_curtain_48 : decode cX2_curtain 48 = .ok (.aload_n 0, 1) := by decide +kernel
theorem dX2_curtain_49 : decode cX2_curtain 49 = .ok (.getfield 10, 3) := by decide +kernel
theorem dX2_curtain_52 : decode cX2_curtain 52 = .ok (.getfield 70, 3) := by decide +kernel
theorem dX2_curtain_55 : decode cX2_curtain 55 = .ok (.iload_n 1, 1) := by decide +kernel
theorem dX2_curtain_56 : decode cX2_curtain 56 = .ok (.invokestatic 58, 3) := by decide +kernel
theorem dX2_curtain_59 : decode cX2_curtain 59 = .ok (.ireturn, 1) := by decide +kernel
theorem dX2_curtain_60 : decode cX2_curtain 60 = .ok (.aload_n 0, 1) := by decide +kernel
theorem dX2_curtain_61 : decode cX2_curtain 61 = .ok (.getfield 10, 3) := by decide +kernel
theorem dX2_curtain_64 : decode cX2_curtain 64 = .ok (.iload_n 1, 1) := by decide +kernel
theorem dX2_curtain_65 : decode cX2_curtain 65 = .ok (.invokevirtual 133, 3) := by decide +kernel
theorem dX2_curtain_68 : decode cX2_curtain 68 = .ok (.ireturn, 1) := by decide +kernel
theorem dX2_curtain_69 : decode cX2_curtain 69 = .ok (.aload_n 0, 1) := by decide +kernel
theorem dX2_curtain_70 : decode cX2_curtain 70 = .ok (.getfield 10, 3) := by decide +kernel
theorem dX2_curtain_73 : decode cX2_curtain 73 = .ok (.iload_n 1, 1) := by decide +kernel
theorem dX2_curtain_74 : decode cX2_curtain 74 = .ok (.invokevirtual 136, 3) := by decide +kernel
theorem dX2_curtain_77 : decode cX2_curtain 77 = .ok (.ireturn, 1) := by decide +kernel
abbrev zX2_curtain : List Cond := .code yX2_curtain cX2_curtain 3 (some .int) :: BIG
def fX2_curtain (bo : BoT) (now : ShT) (cu : Int32) (w : Int32) : Option (Nat ⊕ (Int32)) := tb (fX2_needCurtain cu) (fun r1 => tb (fX2_needRange w 0 3) (fun r2 => (if w = 0 then (fX2_at 2 now.1 cu).bind (fun r4 => some (.inr r4)) else (if w = 1 then (fX2_at 2 now.2.1 cu).bind (fun r6 => some (.inr r6)) else (if w = 2 then (fX1_ticksForAll now cu).bind (fun r8 => some (.inr r8)) else (fX1_slowestColumn now cu).bind (fun r9 => some (.inr r9)))))))
set_option maxHeartbeats 4000000 in
set_option maxRecDepth 100000 in
theorem mtX2_curtain (l : Launch) (D : va_G) (t : Nat → ClassId) (bh : Nat) (bk : Nat → Nat) (bo : BoT) (nb : Nat → Nat) (now : ShT) (cu : Int32) (w : Int32) (out : Int32) (h : fX2_curtain bo now cu w = some (.inr out))  (sz : Nat) : Met l yX2_curtain zX2_curtain ({ frames := 3, cells := 0, slots := 0, locals := 68 }) (sPc D t (gBo bh bk bo ++ (gS t (bk 0) nb now)) sz [.ref bh, .int cu, .int w]) (qI D t (gBo bh bk bo ++ (gS t (bk 0) nb now)) out (va_A (gBo bh bk bo ++ (gS t (bk 0) nb now)) sz)) 0 0 (va_A (gBo bh bk bo ++ (gS t (bk 0) nb now)) sz) := by
  refine met_of (Qf := fun A => qI D t (gBo bh bk bo ++ (gS t (bk 0) nb now)) out A) (cc := cX2_curtain) (maxL := 3) (ret := some .int) (by decide) rfl (Nat.le_of_ble_eq_true rfl) ?_
  intro p e s m args below meth c A hx hb hr hml hts hown hlocks hA hP hK hD hE hS ls hl
  have htB : ∀ w ∈ BIG, w.before args s = true := fun w h => hts w (List.mem_cons_of_mem _ h)
  have hown : s.vm.findClass RX2 = some m.cls := hown
  have hl : lv_has ls 3 [(0, .ref bh), (1, .int cu), (2, .int w)] := hl
  unfold fX2_curtain at h
  refine lv_iload_n hx hb dX2_curtain_0 rfl (lv_at hl 1 rfl) ?_
  obtain ⟨r1, h1, h⟩ := tb_r h
  refine call_v (wc := ([] : va_W)) (wc' := ([] : va_W)) (ws' := (gBo bh bk bo ++ (gS t (bk 0) nb now))) (cutB (bs := [gBo bh bk bo, gS t (bk 0) nb now]) (cs := []) (cs' := []) (bs' := [gBo bh bk bo, gS t (bk 0) nb now]) [] hP hD hS hA rfl rfl rfl rfl) hS (fun hPc hDc => va_runS (As := [.int cu]) (rest := []) ⟨hx, hb, hml, hown, hts⟩ (mtX2_needCurtain l D t cu r1 h1 _) (va_cwS 1 hts (gBS kw73 kw74 kw2 kw75) rfl rfl rfl (by decide +kernel) ⟨Nat.le_of_ble_eq_true rfl, Nat.le_of_ble_eq_true rfl⟩) (sPc_S hPc hK hDc hE) rfl rfl hl.1 rfl (lv_room (Nat.le_of_ble_eq_true rfl)) dX2_curtain_1 ⟨Nat.zero_le _, Nat.zero_le _⟩) (fun H locs hP hD hS => ?_)
  refine lv_iload_n hx hb dX2_curtain_4 rfl (lv_at hl 2 rfl) ?_
  refine lv_iconst (v := 0) hx hb dX2_curtain_5 (by decide) ?_
  refine lv_iconst (v := 3) hx hb dX2_curtain_6 (by decide) ?_
  obtain ⟨r2, h2, h⟩ := tb_r h
  refine call_v (wc := ([] : va_W)) (wc' := ([] : va_W)) (ws' := (gBo bh bk bo ++ (gS t (bk 0) nb now))) (cutB (bs := [gBo bh bk bo, gS t (bk 0) nb now]) (cs := []) (cs' := []) (bs' := [gBo bh bk bo, gS t (bk 0) nb now]) [] hP hD hS hA rfl rfl rfl rfl) hS (fun hPc hDc => va_runS (As := [.int w, .int 0, .int 3]) (rest := []) ⟨hx, hb, hml, hown, hts⟩ (mtX2_needRange l D t w 0 3 r2 h2 _) (va_cwS 3 hts (gBS kw81 kw82 kw2 kw83) rfl rfl rfl (by decide +kernel) ⟨Nat.le_of_ble_eq_true rfl, Nat.le_of_ble_eq_true rfl⟩) (sPc_S hPc hK hDc hE) rfl rfl hl.1 rfl (lv_room (Nat.le_of_ble_eq_true rfl)) dX2_curtain_7 ⟨Nat.zero_le _, Nat.zero_le _⟩) (fun H locs hP hD hS => ?_)
  refine lv_iload_n hx hb dX2_curtain_10 rfl (lv_at hl 2 rfl) ?_
  by_cases c3 : w = 0
  · have h := it_p c3 h
    refine lv_tableIn (off := 25) (tgt := 36) hx hb dX2_curtain_11 (by rw [c3]; decide) (by rw [c3]; decide) (by rw [c3]; rfl) (by decide) ?_
    refine lv_aload_n hx hb dX2_curtain_36 rfl (lv_at hl 0 rfl) ?_
    refine va_get (D := D) (ci := 2) (v := .ref (bk 0)) (C := RX2) (T := TX2) (N := 8) hx hb htB inlX2 hown hK hP 0 rfl rfl 0 (by decide) (htB _ kw17) (fun _ h9 => h9) rfl dX2_curtain_37 ?_
    refine va_get (D := D) (ci := 1) (v := .ref (nb 0)) (C := RX1) (T := TX1) (N := 10) hx hb htB inlX1 hown hK hP 1 rfl rfl 0 (by decide) (htB _ kw72) (fun _ h9 => h9) rfl dX2_curtain_40 ?_
    refine lv_iload_n hx hb dX2_curtain_43 rfl (lv_at hl 1 rfl) ?_
    obtain ⟨r4, h4, h⟩ := ob h
    refine call_i (v := r4) (wc := (gA t (nb 0) 2 now.1)) (wc' := (gA t (nb 0) 2 now.1)) (ws' := (gBo bh bk bo ++ (gS t (bk 0) nb now))) (cutI (wc := (gA t (nb 0) 2 now.1)) (wc' := (gA t (nb 0) 2 now.1)) (ws' := (gBo bh bk bo ++ (gS t (bk 0) nb now))) [2] hP hD hS hA rfl rfl rfl rfl) hS (fun hPc hDc => va_runS (As := [.ref (nb 0), .int cu]) (rest := []) ⟨hx, hb, hml, hown, hts⟩ (mtX2_at l D t (nb 0) 2 now.1 cu r4 h4 (by decide) _) (va_cwS 2 hts (gBS kw104 kw105 kw2 kw106) rfl rfl rfl (by decide +kernel) ⟨Nat.le_of_ble_eq_true rfl, Nat.le_of_ble_eq_true rfl⟩) (sPc_S hPc hK hDc hE) rfl rfl hl.1 rfl (lv_room (Nat.le_of_ble_eq_true rfl)) dX2_curtain_44 ⟨Nat.zero_le _, Nat.zero_le _⟩) (fun H locs hP hD hS => ?_)
    obtain rfl := oi h
    exact ret_i hx hb hr hlocks hP hK hD hS dX2_curtain_47
  · have h := it_n c3 h
    by_cases c5 : w = 1
    · have h := it_p c5 h
      refine lv_tableIn (off := 37) (tgt := 48) hx hb dX2_curtain_11 (by rw [c5]; decide) (by rw [c5]; decide) (by rw [c5]; rfl) (by decide) ?_
      refine lv_aload_n hx hb dX2_curtain_48 rfl (lv_at hl 0 rfl) ?_
      refine va_get (D := D) (ci := 2) (v := .ref (bk 0)) (C := RX2) (T := TX2) (N := 8) hx hb htB inlX2 hown hK hP 0 rfl rfl 0 (by decide) (htB _ kw17) (fun _ h9 => h9) rfl dX2_curtain_49 ?_
      refine va_get (D := D) (ci := 1) (v := .ref (nb 1)) (C := RX1) (T := TX1) (N := 10) hx hb htB inlX1 hown hK hP 1 rfl rfl 1 (by decide) (htB _ kw166) (fun _ h9 => h9) rfl dX2_curtain_52 ?_
      refine lv_iload_n hx hb dX2_curtain_55 rfl (lv_at hl 1 rfl) ?_
      obtain ⟨r6, h6, h⟩ := ob h
      refine call_i (v := r6) (wc := (gA t (nb 1) 2 now.2.1)) (wc' := (gA t (nb 1) 2 now.2.1)) (ws' := (gBo bh bk bo ++ (gS t (bk 0) nb now))) (cutI (wc := (gA t (nb 1) 2 now.2.1)) (wc' := (gA t (nb 1) 2 now.2.1)) (ws' := (gBo bh bk bo ++ (gS t (bk 0) nb now))) [3] hP hD hS hA rfl rfl rfl rfl) hS (fun hPc hDc => va_runS (As := [.ref (nb 1), .int cu]) (rest := []) ⟨hx, hb, hml, hown, hts⟩ (mtX2_at l D t (nb 1) 2 now.2.1 cu r6 h6 (by decide) _) (va_cwS 2 hts (gBS kw104 kw105 kw2 kw106) rfl rfl rfl (by decide +kernel) ⟨Nat.le_of_ble_eq_true rfl, Nat.le_of_ble_eq_true rfl⟩) (sPc_S hPc hK hDc hE) rfl rfl hl.1 rfl (lv_room (Nat.le_of_ble_eq_true rfl)) dX2_curtain_56 ⟨Nat.zero_le _, Nat.zero_le _⟩) (fun H locs hP hD hS => ?_)
      obtain rfl := oi h
      exact ret_i hx hb hr hlocks hP hK hD hS dX2_curtain_59
    · have h := it_n c5 h
      by_cases c7 : w = 2
      · have h := it_p c7 h
        refine lv_tableIn (off := 49) (tgt := 60) hx hb dX2_curtain_11 (by rw [c7]; decide) (by rw [c7]; decide) (by rw [c7]; rfl) (by decide) ?_
        refine lv_aload_n hx hb dX2_curtain_60 rfl (lv_at hl 0 rfl) ?_
        refine va_get (D := D) (ci := 2) (v := .ref (bk 0)) (C := RX2) (T := TX2) (N := 8) hx hb htB inlX2 hown hK hP 0 rfl rfl 0 (by decide) (htB _ kw17) (fun _ h9 => h9) rfl dX2_curtain_61 ?_
        refine lv_iload_n hx hb dX2_curtain_64 rfl (lv_at hl 1 rfl) ?_
        obtain ⟨r8, h8, h⟩ := ob h
        refine call_i (v := r8) (wc := (gS t (bk 0) nb now)) (wc' := (gS t (bk 0) nb now)) (ws' := (gBo bh bk bo ++ (gS t (bk 0) nb now))) (cutB (bs := [gBo bh bk bo, gS t (bk 0) nb now]) (cs := [gS t (bk 0) nb now]) (cs' := [gS t (bk 0) nb now]) (bs' := [gBo bh bk bo, gS t (bk 0) nb now]) [1] hP hD hS hA rfl rfl rfl rfl) hS (fun hPc hDc => va_runV (As := [.int cu]) (rest := []) ⟨hx, hb, hml, hown, hts⟩ (mtX1_ticksForAll l D t (bk 0) nb now cu r8 h8 _) (cwV 1 hts (gBV kw433 kw434 kw435 kw16 kw436) rfl rfl rfl (by decide +kernel) ⟨Nat.le_of_ble_eq_true rfl, Nat.le_of_ble_eq_true rfl⟩) (sPc_V hPc hK hDc hE (va_recv hK hP (ci := 1) (q0 := 1) rfl rfl)) rfl rfl hl.1 rfl (lv_room (Nat.le_of_ble_eq_true rfl)) dX2_curtain_65 ⟨Nat.zero_le _, Nat.zero_le _⟩) (fun H locs hP hD hS => ?_)
        obtain rfl := oi h
        exact ret_i hx hb hr hlocks hP hK hD hS dX2_curtain_68
      · have h := it_n c7 h
        refine lv_tableOut (tgt := 69) hx hb dX2_curtain_11 (tab_0_2 c3 c5 c7) (by decide) ?_
        refine lv_aload_n hx hb dX2_curtain_69 rfl (lv_at hl 0 rfl) ?_
        refine va_get (D := D) (ci := 2) (v := .ref (bk 0)) (C := RX2) (T := TX2) (N := 8) hx hb htB inlX2 hown hK hP 0 rfl rfl 0 (by decide) (htB _ kw17) (fun _ h9 => h9) rfl dX2_curtain_70 ?_
        refine lv_iload_n hx hb dX2_curtain_73 rfl (lv_at hl 1 rfl) ?_
        obtain ⟨r9, h9, h⟩ := ob h
        refine call_i (v := r9) (wc := (gS t (bk 0) nb now)) (wc' := (gS t (bk 0) nb now)) (ws' := (gBo bh bk bo ++ (gS t (bk 0) nb now))) (cutB (bs := [gBo bh bk bo, gS t (bk 0) nb now]) (cs := [gS t (bk 0) nb now]) (cs' := [gS t (bk 0) nb now]) (bs' := [gBo bh bk bo, gS t (bk 0) nb now]) [1] hP hD hS hA rfl rfl rfl rfl) hS (fun hPc hDc => va_runV (As := [.int cu]) (rest := []) ⟨hx, hb, hml, hown, hts⟩ (mtX1_slowestColumn l D t (bk 0) nb now cu r9 h9 _) (cwV 1 hts (gBV kw439 kw440 kw441 kw16 kw442) rfl rfl rfl (by decide +kernel) ⟨Nat.le_of_ble_eq_true rfl, Nat.le_of_ble_eq_true rfl⟩) (sPc_V hPc hK hDc hE (va_recv hK hP (ci := 1) (q0 := 1) rfl rfl)) rfl rfl hl.1 rfl (lv_room (Nat.le_of_ble_eq_true rfl)) dX2_curtain_74 ⟨Nat.zero_le _, Nat.zero_le _⟩) (fun H locs hP hD hS => ?_)
        obtain rfl := oi h
        exact ret_i hx hb hr hlocks hP hK hD hS dX2_curtain_77

theorem dX2_column_0 : decode cX2_column 0 = .ok (.iload_n 1, 1) := by decide +kernel
theorem dX2_column_1 : decode cX2_column 1 = .ok (.invokestatic 73, 3) := by decide +kernel
theorem dX2_column_4 : decode cX2_column 4 = .ok (.iload_n 2, 1) := by decide +kernel
theorem dX2_column_5 : decode cX2_column 5 = .ok (.bipush 24, 2) := by decide +kernel
theorem dX2_column_7 : decode cX2_column 7 = .ok (.invokestatic 139, 3) := by decide +kernel
theorem dX2_column_10 : decode cX2_column 10 = .ok (.iload_n 3, 1) := by decide +kernel
theorem dX2_column_11 : decode cX2_column 11 = .ok (.iconst 0, 1) := by decide +kernel
theorem dX2_column_12 : decode cX2_column 12 = .ok (.iconst 5, 1) := by decide +kernel
theorem dX2_column_13 : decode cX2_column 13 = .ok (.invokestatic 48, 3) := by decide +kernel
theorem dX2_column_16 : decode cX2_column 16 = .ok (.aload_n 0, 1) := by decide +kernel
theorem dX2_column_17 : decode cX2_column 17 = .ok (.getfield 22, 3) := by decide +kernel
theorem dX2_column_20 : decode cX2_column 20 = .ok (.aload_n 0, 1) := by decide +kernel
theorem dX2_column_21 : decode cX2_column 21 = .ok (.getfield 10, 3) := by decide +kernel
theorem dX2_column_24 : decode cX2_column 24 = .ok (.iload_n 1, 1) := by decide +kernel
theorem dX2_column_25 : decode cX2_column 25 = .ok (.invokevirtual 143, 3) := by decide +kernel
theorem dX2_column_28 : decode cX2_column 28 = .ok (.iload_n 3, 1) := by decide +kernel
theorem dX2_column_29 : decode cX2_column 29 = .ok (.tableswitch 104 0 4 #[35, 47, 59, 71, 91], 35) := by decide +kernel
theorem dX2_column_64 : decode cX2_column 64 = .ok (.aload_n 0, 1) := by decide +kernel
theorem dX2_column_65 : decode cX2_column 65 = .ok (.getfield 22, 3) := by decide +kernel
theorem dX2_column_68 : decode cX2_column 68 = .ok (.getfield 147, 3) := by decide +kernel
theorem dX2_column_71 : decode cX2_column 71 = .ok (.iload_n 2, 1) := by decide +kernel
theorem dX2_column_72 : decode cX2_column 72 = .ok (.invokestatic 58, 3) := by decide +kernel
theorem dX2_column_75 : decode cX2_column 75 = .ok (.ireturn, 1) := by decide +kernel
theorem dX2_column_76 : decode cX2_column 76 = .ok (.aload_n 0, 1) := by decide +kernel
theorem dX2_column_77 : decode cX2_column 77 = .ok (.getfield 22, 3) := by decide +kernel
theorem dX2_column_80 : decode cX2_column 80 = .ok (.getfield 150, 3) := by decide +kernel
theorem dX2_column_83 : decode cX2_column 83 = .ok (.iload_n 2, 1) := by decide +kernel
theorem dX2_column_84 : decode cX2_column 84 = .ok (.invokestatic 58, 3) := by decide +kernel
theorem dX2_column_87 : decode cX2_column 87 = .ok (.ireturn, 1) := by decide +kernel
theorem dX2_column_88 : decode cX2_column 88 = .ok (.aload_n 0, 1) := by decide +kernel
theorem dX2_column_89 : decode cX2_column 89 = .ok (.getfield 22, 3) := by decide +kernel
theorem dX2_column_92 : decode cX2_column 92 = .ok (.getfield 153, 3) := by decide +kernel
theorem dX2_column_95 : decode cX2_column 95 = .ok (.iload_n 2, 1) := by decide +kernel
theorem dX2_column_96 : decode cX2_column 96 = .ok (.invokestatic 58, 3) := by decide +kernel
theorem dX2_column_99 : decode cX2_column 99 = .ok (.ireturn, 1) := by decide +kernel
theorem dX2_column_100 : decode cX2_column 100 = .ok (.aload_n 0, 1) := by decide +kernel
theorem dX2_column_101 : decode cX2_column 101 = .ok (.getfield 22, 3) := by decide +kernel
theorem dX2_column_104 : decode cX2_column 104 = .ok (.getfield 153, 3) := by decide +kernel
theorem dX2_column_107 : decode cX2_column 107 = .ok (.iload_n 2, 1) := by decide +kernel
theorem dX2_column_108 : decode cX2_column 108 = .ok (.invokestatic 58, 3) := by decide +kernel
theorem dX2_column_111 : decode cX2_column 111 = .ok (.iload_n 1, 1) := by decide +kernel
theorem dX2_column_112 : decode cX2_column 112 = .ok (.invokestatic 156, 3) := by decide +kernel
theorem dX2_column_115 : decode cX2_column 115 = .ok (.isub, 1) := by decide +kernel
theorem dX2_column_116 : decode cX2_column 116 = .ok (.invokestatic 159, 3) := by decide +kernel
theorem dX2_column_119 : decode cX2_column 119 = .ok (.ireturn, 1) := by decide +kernel
theorem dX2_column_120 : decode cX2_column 120 = .ok (.aload_n 0, 1) := by decide +kernel
theorem dX2_column_121 : decode cX2_column 121 = .ok (.getfield 10, 3) := by decide +kernel
theorem dX2_column_124 : decode cX2_column 124 = .ok (.iconst 0, 1) := by decide +kernel
theorem dX2_column_125 : decode cX2_column 125 = .ok (.invokevirtual 66, 3) := by decide +kernel
theorem dX2_column_128 : decode cX2_column 128 = .ok (.iload_n 2, 1) := by decide +kernel
theorem dX2_column_129 : decode cX2_column 129 = .ok (.invokestatic 58, 3) := by decide +kernel
theorem dX2_column_132 : decode cX2_column 132 = .ok (.ireturn, 1) := by decide +kernel
theorem dX2_column_133 : decode cX2_column 133 = .ok (.aload_n 0, 1) := by decide +kernel
theorem dX2_column_134 : decode cX2_column 134 = .ok (.getfield 10, 3) := by decide +kernel
theorem dX2_column_137 : decode cX2_column 137 = .ok (.iconst 1, 1) := by decide +kernel
theorem dX2_column_138 : decode cX2_column 138 = .ok (.invokevirtual 66, 3) := by decide +kernel
theorem dX2_column_141 : decode cX2_column 141 = .ok (.iload_n 2, 1) := by decide +kernel
theorem dX2_column_142 : decode cX2_column 142 = .ok (.invokestatic 58, 3) := by decide +kernel
theorem dX2_column_145 : decode cX2_column 145 = .ok (.ireturn, 1) := by decide +kernel
abbrev zX2_column : List Cond := .code yX2_column cX2_column 4 (some .int) :: BIG
def fX2_column (bo : BoT) (now : ShT) (ex : ExT) (v : Int32) (k : Int32) (w : Int32) : Option (Nat ⊕ (Int32 × ExT)) := tb (fX2_needSpeed v) (fun r1 => tb (fX2_needIndex k 24) (fun r2 => tb (fX2_needRange w 0 5) (fun r3 => (fX0_expose ex now v).bind (fun r4 => (if w = 0 then (fX2_at 24 r4.1 k).bind (fun r6 => some (.inr (r6, r4))) else (if w = 1 then (fX2_at 24 r4.2.1 k).bind (fun r8 => some (.inr (r8, r4))) else (if w = 2 then (fX2_at 24 r4.2.2.1 k).bind (fun r10 => some (.inr (r10, r4))) else (if w = 3 then (fX2_at 24 r4.2.2.1 k).bind (fun r12 => (fX2_wantedLight v).bind (fun r13 => some (.inr (iabs (r12 - r13), r4)))) else (if w = 4 then (fX1_dragsOf now 0).bind (fun r15 => (fX2_at 24 now.2.2.1 k).bind (fun r16 => some (.inr (r16, r4)))) else (fX1_dragsOf now 1).bind (fun r17 => (fX2_at 24 now.2.2.2.1 k).bind (fun r18 => some (.inr (r18, r4)))))))))))))
set_option maxHeartbeats 4000000 in
set_option maxRecDepth 100000 in
theorem mtX2_column (l : Launch) (D : va_G) (t : Nat → ClassId) (bh : Nat) (bk : Nat → Nat) (bo : BoT) (nb : Nat → Nat) (now : ShT) (eb : Nat → Nat) (ex : ExT) (v : Int32) (k : Int32) (w : Int32) (out : Int32 × ExT) (h : fX2_column bo now ex v k w = some (.inr out))  (sz : Nat) : Met l yX2_column zX2_column ({ frames := 4, cells := 0, slots := 0, locals := 93 }) (sPc D t (gBo bh bk bo ++ (gS t (bk 0) nb now ++ (gE t (bk 2) eb ex))) sz [.ref bh, .int v, .int k, .int w]) (qI D t (gBo bh bk bo ++ (gS t (bk 0) nb now ++ (gE t (bk 2) eb out.2))) out.1 (va_A (gBo bh bk bo ++ (gS t (bk 0) nb now ++ (gE t (bk 2) eb ex))) sz)) 0 0 (va_A (gBo bh bk bo ++ (gS t (bk 0) nb now ++ (gE t (bk 2) eb ex))) sz) := by
  refine met_of (Qf := fun A => qI D t (gBo bh bk bo ++ (gS t (bk 0) nb now ++ (gE t (bk 2) eb out.2))) out.1 A) (cc := cX2_column) (maxL := 4) (ret := some .int) (by decide) rfl (Nat.le_of_ble_eq_true rfl) ?_
  intro p e s m args below meth c A hx hb hr hml hts hown hlocks hA hP hK hD hE hS ls hl
  have htB : ∀ w ∈ BIG, w.before args s = true := fun w h => hts w (List.mem_cons_of_mem _ h)
  have hown : s.vm.findClass RX2 = some m.cls := hown
  have hl : lv_has ls 4 [(0, .ref bh), (1, .int v), (2, .int k), (3, .int w)] := hl
  unfold fX2_column at h
  refine lv_iload_n hx hb dX2_column_0 rfl (lv_at hl 1 rfl) ?_
  obtain ⟨r1, h1, h⟩ := tb_r h
  refine call_v (wc := ([] : va_W)) (wc' := ([] : va_W)) (ws' := (gBo bh bk bo ++ (gS t (bk 0) nb now ++ (gE t (bk 2) eb ex)))) (cutB (bs := [gBo bh bk bo, gS t (bk 0) nb now, gE t (bk 2) eb ex]) (cs := []) (cs' := []) (bs' := [gBo bh bk bo, gS t (bk 0) nb now, gE t (bk 2) eb ex]) [] hP hD hS hA rfl rfl rfl rfl) hS (fun hPc hDc => va_runS (As := [.int v]) (rest := []) ⟨hx, hb, hml, hown, hts⟩ (mtX2_needSpeed l D t v r1 h1 _) (va_cwS 1 hts (gBS kw179 kw180 kw2 kw181) rfl rfl rfl (by decide +kernel) ⟨Nat.le_of_ble_eq_true rfl, Nat.le_of_ble_eq_true rfl⟩) (sPc_S hPc hK hDc hE) rfl rfl hl.1 rfl (lv_room (Nat.le_of_ble_eq_true rfl)) dX2_column_1 ⟨Nat.zero_le _, Nat.zero_le _⟩) (fun H locs hP hD hS => ?_)
  refine lv_iload_n hx hb dX2_column_4 rfl (lv_at hl 2 rfl) ?_
  refine lv_bipush (v := 24) hx hb dX2_column_5 (by decide) ?_
  obtain ⟨r2, h2, h⟩ := tb_r h
  refine call_v (wc := ([] : va_W)) (wc' := ([] : va_W)) (ws' := (gBo bh bk bo ++ (gS t (bk 0) nb now ++ (gE t (bk 2) eb ex)))) (cutB (bs := [gBo bh bk bo, gS t (bk 0) nb now, gE t (bk 2) eb ex]) (cs := []) (cs' := []) (bs' := [gBo bh bk bo, gS t (bk 0) nb now, gE t (bk 2) eb ex]) [] hP hD hS hA rfl rfl rfl rfl) hS (fun hPc hDc => va_runS (As := [.int k, .int 24]) (rest := []) ⟨hx, hb, hml, hown, hts⟩ (mtX2_needIndex l D t k 24 r2 h2 _) (va_cwS 2 hts (gBS kw76 kw77 kw2 kw78) rfl rfl rfl (by decide +kernel) ⟨Nat.le_of_ble_eq_true rfl, Nat.le_of_ble_eq_true rfl⟩) (sPc_S hPc hK hDc hE) rfl rfl hl.1 rfl (lv_room (Nat.le_of_ble_eq_true rfl)) dX2_column_7 ⟨Nat.zero_le _, Nat.zero_le _⟩) (fun H locs hP hD hS => ?_)
  refine lv_iload_n hx hb dX2_column_10 rfl (lv_at hl 3 rfl) ?_
  refine lv_iconst (v := 0) hx hb dX2_column_11 (by decide) ?_
  refine lv_iconst (v := 5) hx hb dX2_column_12 (by decide) ?_
  obtain ⟨r3, h3, h⟩ := tb_r h
  refine call_v (wc := ([] : va_W)) (wc' := ([] : va_W)) (ws' := (gBo bh bk bo ++ (gS t (bk 0) nb now ++ (gE t (bk 2) eb ex)))) (cutB (bs := [gBo bh bk bo, gS t (bk 0) nb now, gE t (bk 2) eb ex]) (cs := []) (cs' := []) (bs' := [gBo bh bk bo, gS t (bk 0) nb now, gE t (bk 2) eb ex]) [] hP hD hS hA rfl rfl rfl rfl) hS (fun hPc hDc => va_runS (As := [.int w, .int 0, .int 5]) (rest := []) ⟨hx, hb, hml, hown, hts⟩ (mtX2_needRange l D t w 0 5 r3 h3 _) (va_cwS 3 hts (gBS kw81 kw82 kw2 kw83) rfl rfl rfl (by decide +kernel) ⟨Nat.le_of_ble_eq_true rfl, Nat.le_of_ble_eq_true rfl⟩) (sPc_S hPc hK hDc hE) rfl rfl hl.1 rfl (lv_room (Nat.le_of_ble_eq_true rfl)) dX2_column_13 ⟨Nat.zero_le _, Nat.zero_le _⟩) (fun H locs hP hD hS => ?_)
  refine lv_aload_n hx hb dX2_column_16 rfl (lv_at hl 0 rfl) ?_
  refine va_get (D := D) (ci := 2) (v := .ref (bk 2)) (C := RX2) (T := TX2) (N := 8) hx hb htB inlX2 hown hK hP 0 rfl rfl 2 (by decide) (htB _ kw22) (fun _ h9 => h9) rfl dX2_column_17 ?_
  refine lv_aload_n hx hb dX2_column_20 rfl (lv_at hl 0 rfl) ?_
  refine va_get (D := D) (ci := 2) (v := .ref (bk 0)) (C := RX2) (T := TX2) (N := 8) hx hb htB inlX2 hown hK hP 0 rfl rfl 0 (by decide) (htB _ kw17) (fun _ h9 => h9) rfl dX2_column_21 ?_
  refine lv_iload_n hx hb dX2_column_24 rfl (lv_at hl 1 rfl) ?_
  obtain ⟨r4, h4, h⟩ := ob h
  refine call_v (wc := (gE t (bk 2) eb ex ++ (gS t (bk 0) nb now))) (wc' := (gE t (bk 2) eb r4 ++ (gS t (bk 0) nb now))) (ws' := (gBo bh bk bo ++ (gS t (bk 0) nb now ++ (gE t (bk 2) eb r4)))) (cutB (bs := [gBo bh bk bo, gS t (bk 0) nb now, gE t (bk 2) eb ex]) (cs := [gE t (bk 2) eb ex, gS t (bk 0) nb now]) (cs' := [gE t (bk 2) eb r4, gS t (bk 0) nb now]) (bs' := [gBo bh bk bo, gS t (bk 0) nb now, gE t (bk 2) eb r4]) [2, 1] hP hD hS hA rfl rfl rfl rfl) hS (fun hPc hDc => va_runV (As := [.ref (bk 0), .int v]) (rest := []) ⟨hx, hb, hml, hown, hts⟩ (mtX0_expose l D t (bk 2) eb ex (bk 0) nb now v r4 h4 _) (cwV 2 hts (gBV kw224 kw225 kw226 kw21 kw227) rfl rfl rfl (by decide +kernel) ⟨Nat.le_of_ble_eq_true rfl, Nat.le_of_ble_eq_true rfl⟩) (sPc_V hPc hK hDc hE (va_recv hK hP (ci := 0) (q0 := 9) rfl rfl)) rfl rfl hl.1 rfl (lv_room (Nat.le_of_ble_eq_true rfl)) dX2_column_25 ⟨Nat.zero_le _, Nat.zero_le _⟩) (fun H locs hP hD hS => ?_)
  refine lv_iload_n hx hb dX2_column_28 rfl (lv_at hl 3 rfl) ?_
  by_cases c5 : w = 0
  · have h := it_p c5 h
    refine lv_tableIn (off := 35) (tgt := 64) hx hb dX2_column_29 (by rw [c5]; decide) (by rw [c5]; decide) (by rw [c5]; rfl) (by decide) ?_
    refine lv_aload_n hx hb dX2_column_64 rfl (lv_at hl 0 rfl) ?_
    refine va_get (D := D) (ci := 2) (v := .ref (bk 2)) (C := RX2) (T := TX2) (N := 8) hx hb htB inlX2 hown hK hP 0 rfl rfl 2 (by decide) (htB _ kw22) (fun _ h9 => h9) rfl dX2_column_65 ?_
    refine va_get (D := D) (ci := 0) (v := .ref (eb 0)) (C := RX0) (T := TX0) (N := 10) hx hb htB inlX0 hown hK hP 9 rfl rfl 0 (by decide) (htB _ kw458) (fun _ h9 => h9) rfl dX2_column_68 ?_
    refine lv_iload_n hx hb dX2_column_71 rfl (lv_at hl 2 rfl) ?_
    obtain ⟨r6, h6, h⟩ := ob h
    refine call_i (v := r6) (wc := (gA t (eb 0) 24 r4.1)) (wc' := (gA t (eb 0) 24 r4.1)) (ws' := (gBo bh bk bo ++ (gS t (bk 0) nb now ++ (gE t (bk 2) eb r4)))) (cutI (wc := (gA t (eb 0) 24 r4.1)) (wc' := (gA t (eb 0) 24 r4.1)) (ws' := (gBo bh bk bo ++ (gS t (bk 0) nb now ++ (gE t (bk 2) eb r4)))) [10] hP hD hS hA rfl rfl rfl rfl) hS (fun hPc hDc => va_runS (As := [.ref (eb 0), .int k]) (rest := []) ⟨hx, hb, hml, hown, hts⟩ (mtX2_at l D t (eb 0) 24 r4.1 k r6 h6 (by decide) _) (va_cwS 2 hts (gBS kw104 kw105 kw2 kw106) rfl rfl rfl (by decide +kernel) ⟨Nat.le_of_ble_eq_true rfl, Nat.le_of_ble_eq_true rfl⟩) (sPc_S hPc hK hDc hE) rfl rfl hl.1 rfl (lv_room (Nat.le_of_ble_eq_true rfl)) dX2_column_72 ⟨Nat.zero_le _, Nat.zero_le _⟩) (fun H locs hP hD hS => ?_)
    obtain rfl := oi h
    exact ret_i hx hb hr hlocks hP hK hD hS dX2_column_75
  · have h := it_n c5 h
    by_cases c7 : w = 1
    · have h := it_p c7 h
      refine lv_tableIn (off := 47) (tgt := 76) hx hb dX2_column_29 (by rw [c7]; decide) (by rw [c7]; decide) (by rw [c7]; rfl) (by decide) ?_
      refine lv_aload_n hx hb dX2_column_76 rfl (lv_at hl 0 rfl) ?_
      refine va_get (D := D) (ci := 2) (v := .ref (bk 2)) (C := RX2) (T := TX2) (N := 8) hx hb htB inlX2 hown hK hP 0 rfl rfl 2 (by decide) (htB _ kw22) (fun _ h9 => h9) rfl dX2_column_77 ?_
      refine va_get (D := D) (ci := 0) (v := .ref (eb 1)) (C := RX0) (T := TX0) (N := 10) hx hb htB inlX0 hown hK hP 9 rfl rfl 1 (by decide) (htB _ kw459) (fun _ h9 => h9) rfl dX2_column_80 ?_
      refine lv_iload_n hx hb dX2_column_83 rfl (lv_at hl 2 rfl) ?_
      obtain ⟨r8, h8, h⟩ := ob h
      refine call_i (v := r8) (wc := (gA t (eb 1) 24 r4.2.1)) (wc' := (gA t (eb 1) 24 r4.2.1)) (ws' := (gBo bh bk bo ++ (gS t (bk 0) nb now ++ (gE t (bk 2) eb r4)))) (cutI (wc := (gA t (eb 1) 24 r4.2.1)) (wc' := (gA t (eb 1) 24 r4.2.1)) (ws' := (gBo bh bk bo ++ (gS t (bk 0) nb now ++ (gE t (bk 2) eb r4)))) [11] hP hD hS hA rfl rfl rfl rfl) hS (fun hPc hDc => va_runS (As := [.ref (eb 1), .int k]) (rest := []) ⟨hx, hb, hml, hown, hts⟩ (mtX2_at l D t (eb 1) 24 r4.2.1 k r8 h8 (by decide) _) (va_cwS 2 hts (gBS kw104 kw105 kw2 kw106) rfl rfl rfl (by decide +kernel) ⟨Nat.le_of_ble_eq_true rfl, Nat.le_of_ble_eq_true rfl⟩) (sPc_S hPc hK hDc hE) rfl rfl hl.1 rfl (lv_room (Nat.le_of_ble_eq_true rfl)) dX2_column_84 ⟨Nat.zero_le _, Nat.zero_le _⟩) (fun H locs hP hD hS => ?_)
      obtain rfl := oi h
      exact ret_i hx hb hr hlocks hP hK hD hS dX2_column_87
    · have h := it_n c7 h
      by_cases c9 : w = 2
      · have h := it_p c9 h
        refine lv_tableIn (off := 59) (tgt := 88) hx hb dX2_column_29 (by rw [c9]; decide) (by rw [c9]; decide) (by rw [c9]; rfl) (by decide) ?_
        refine lv_aload_n hx hb dX2_column_88 rfl (lv_at hl 0 rfl) ?_
        refine va_get (D := D) (ci := 2) (v := .ref (bk 2)) (C := RX2) (T := TX2) (N := 8) hx hb htB inlX2 hown hK hP 0 rfl rfl 2 (by decide) (htB _ kw22) (fun _ h9 => h9) rfl dX2_column_89 ?_
        refine va_get (D := D) (ci := 0) (v := .ref (eb 2)) (C := RX0) (T := TX0) (N := 10) hx hb htB inlX0 hown hK hP 9 rfl rfl 2 (by decide) (htB _ kw460) (fun _ h9 => h9) rfl dX2_column_92 ?_
        refine lv_iload_n hx hb dX2_column_95 rfl (lv_at hl 2 rfl) ?_
        obtain ⟨r10, h10, h⟩ := ob h
        refine call_i (v := r10) (wc := (gA t (eb 2) 24 r4.2.2.1)) (wc' := (gA t (eb 2) 24 r4.2.2.1)) (ws' := (gBo bh bk bo ++ (gS t (bk 0) nb now ++ (gE t (bk 2) eb r4)))) (cutI (wc := (gA t (eb 2) 24 r4.2.2.1)) (wc' := (gA t (eb 2) 24 r4.2.2.1)) (ws' := (gBo bh bk bo ++ (gS t (bk 0) nb now ++ (gE t (bk 2) eb r4)))) [12] hP hD hS hA rfl rfl rfl rfl) hS (fun hPc hDc => va_runS (As := [.ref (eb 2), .int k]) (rest := []) ⟨hx, hb, hml, hown, hts⟩ (mtX2_at l D t (eb 2) 24 r4.2.2.1 k r10 h10 (by decide) _) (va_cwS 2 hts (gBS kw104 kw105 kw2 kw106) rfl rfl rfl (by decide +kernel) ⟨Nat.le_of_ble_eq_true rfl, Nat.le_of_ble_eq_true rfl⟩) (sPc_S hPc hK hDc hE) rfl rfl hl.1 rfl (lv_room (Nat.le_of_ble_eq_true rfl)) dX2_column_96 ⟨Nat.zero_le _, Nat.zero_le _⟩) (fun H locs hP hD hS => ?_)
        obtain rfl := oi h
        exact ret_i hx hb hr hlocks hP hK hD hS dX2_column_99
      · have h := it_n c9 h
        by_cases c11 : w = 3
        · have h := it_p c11 h
          refine lv_tableIn (off := 71) (tgt := 100) hx hb dX2_column_29 (by rw [c11]; decide) (by rw [c11]; decide) (by rw [c11]; rfl) (by decide) ?_
          refine lv_aload_n hx hb dX2_column_100 rfl (lv_at hl 0 rfl) ?_
          refine va_get (D := D) (ci := 2) (v := .ref (bk 2)) (C := RX2) (T := TX2) (N := 8) hx hb htB inlX2 hown hK hP 0 rfl rfl 2 (by decide) (htB _ kw22) (fun _ h9 => h9) rfl dX2_column_101 ?_
          refine va_get (D := D) (ci := 0) (v := .ref (eb 2)) (C := RX0) (T := TX0) (N := 10) hx hb htB inlX0 hown hK hP 9 rfl rfl 2 (by decide) (htB _ kw460) (fun _ h9 => h9) rfl dX2_column_104 ?_
          refine lv_iload_n hx hb dX2_column_107 rfl (lv_at hl 2 rfl) ?_
          obtain ⟨r12, h12, h⟩ := ob h
          refine call_i (v := r12) (wc := (gA t (eb 2) 24 r4.2.2.1)) (wc' := (gA t (eb 2) 24 r4.2.2.1)) (ws' := (gBo bh bk bo ++ (gS t (bk 0) nb now ++ (gE t (bk 2) eb r4)))) (cutI (wc := (gA t (eb 2) 24 r4.2.2.1)) (wc' := (gA t (eb 2) 24 r4.2.2.1)) (ws' := (gBo bh bk bo ++ (gS t (bk 0) nb now ++ (gE t (bk 2) eb r4)))) [12] hP hD hS hA rfl rfl rfl rfl) hS (fun hPc hDc => va_runS (As := [.ref (eb 2), .int k]) (rest := []) ⟨hx, hb, hml, hown, hts⟩ (mtX2_at l D t (eb 2) 24 r4.2.2.1 k r12 h12 (by decide) _) (va_cwS 2 hts (gBS kw104 kw105 kw2 kw106) rfl rfl rfl (by decide +kernel) ⟨Nat.le_of_ble_eq_true rfl, Nat.le_of_ble_eq_true rfl⟩) (sPc_S hPc hK hDc hE) rfl rfl hl.1 rfl (lv_room (Nat.le_of_ble_eq_true rfl)) dX2_column_108 ⟨Nat.zero_le _, Nat.zero_le _⟩) (fun H locs hP hD hS => ?_)
          refine lv_iload_n hx hb dX2_column_111 rfl (lv_at hl 1 rfl) ?_
          obtain ⟨r13, h13, h⟩ := ob h
          refine call_i (v := r13) (wc := ([] : va_W)) (wc' := ([] : va_W)) (ws' := (gBo bh bk bo ++ (gS t (bk 0) nb now ++ (gE t (bk 2) eb r4)))) (cutB (bs := [gBo bh bk bo, gS t (bk 0) nb now, gE t (bk 2) eb r4]) (cs := []) (cs' := []) (bs' := [gBo bh bk bo, gS t (bk 0) nb now, gE t (bk 2) eb r4]) [] hP hD hS hA rfl rfl rfl rfl) hS (fun hPc hDc => va_runS (As := [.int v]) (rest := [.int r12]) ⟨hx, hb, hml, hown, hts⟩ (mtX2_wantedLight l D t v r13 h13 _) (va_cwS 1 hts (gBS kw462 kw246 kw2 kw247) rfl rfl rfl (by decide +kernel) ⟨Nat.le_of_ble_eq_true rfl, Nat.le_of_ble_eq_true rfl⟩) (sPc_S hPc hK hDc hE) rfl rfl hl.1 rfl (lv_room (Nat.le_of_ble_eq_true rfl)) dX2_column_112 ⟨Nat.zero_le _, Nat.zero_le _⟩) (fun H locs hP hD hS => ?_)
          refine lv_isub hx hb dX2_column_115 ?_
          refine va_mabs hx hb (by rw [hml]; exact hl.1.symm) hown (htB _ kw461) (htB _ kw271) (htB _ kw92) (htB _ kw272) (Nat.le_of_ble_eq_true rfl) (Nat.le_of_ble_eq_true rfl) (Nat.zero_le _) (Nat.zero_le _) dX2_column_116 ?_
          obtain rfl := oi h
          exact ret_i hx hb hr hlocks hP hK hD hS dX2_column_119
        · have h := it_n c11 h
          by_cases c14 : w = 4
          · have h := it_p c14 h
            refine lv_tableIn (off := 91) (tgt := 120) hx hb dX2_column_29 (by rw [c14]; decide) (by rw [c14]; decide) (by rw [c14]; rfl) (by decide) ?_
            refine lv_aload_n hx hb dX2_column_120 rfl (lv_at hl 0 rfl) ?_
            refine va_get (D := D) (ci := 2) (v := .ref (bk 0)) (C := RX2) (T := TX2) (N := 8) hx hb htB inlX2 hown hK hP 0 rfl rfl 0 (by decide) (htB _ kw17) (fun _ h9 => h9) rfl dX2_column_121 ?_
            refine lv_iconst (v := 0) hx hb dX2_column_124 (by decide) ?_
            obtain ⟨r15, h15, h⟩ := ob h
            refine call_r (v := if 0 = 0 then nb 2 else nb 3) (wc := (gS t (bk 0) nb now)) (wc' := (gS t (bk 0) nb now)) (ws' := (gBo bh bk bo ++ (gS t (bk 0) nb now ++ (gE t (bk 2) eb r4)))) (cutB (bs := [gBo bh bk bo, gS t (bk 0) nb now, gE t (bk 2) eb r4]) (cs := [gS t (bk 0) nb now]) (cs' := [gS t (bk 0) nb now]) (bs' := [gBo bh bk bo, gS t (bk 0) nb now, gE t (bk 2) eb r4]) [1] hP hD hS hA rfl rfl rfl rfl) hS (fun hPc hDc => va_runV (As := [.int 0]) (rest := []) ⟨hx, hb, hml, hown, hts⟩ (mtX1_dragsOf l D t (bk 0) nb now 0 r15 h15 _) (cwV 1 hts (gBV kw148 kw149 kw150 kw16 kw151) rfl rfl rfl (by decide +kernel) ⟨Nat.le_of_ble_eq_true rfl, Nat.le_of_ble_eq_true rfl⟩) (sPc_V hPc hK hDc hE (va_recv hK hP (ci := 1) (q0 := 1) rfl rfl)) rfl rfl hl.1 rfl (lv_room (Nat.le_of_ble_eq_true rfl)) dX2_column_125 ⟨Nat.zero_le _, Nat.zero_le _⟩) (fun H locs hP hD hS => ?_)
            rw [if_pos (by decide)]
            refine lv_iload_n hx hb dX2_column_128 rfl (lv_at hl 2 rfl) ?_
            obtain ⟨r16, h16, h⟩ := ob h
            refine call_i (v := r16) (wc := (gA t (nb 2) 24 now.2.2.1)) (wc' := (gA t (nb 2) 24 now.2.2.1)) (ws' := (gBo bh bk bo ++ (gS t (bk 0) nb now ++ (gE t (bk 2) eb r4)))) (cutI (wc := (gA t (nb 2) 24 now.2.2.1)) (wc' := (gA t (nb 2) 24 now.2.2.1)) (ws' := (gBo bh bk bo ++ (gS t (bk 0) nb now ++ (gE t (bk 2) eb r4)))) [4] hP hD hS hA rfl rfl rfl rfl) hS (fun hPc hDc => va_runS (As := [.ref (nb 2), .int k]) (rest := []) ⟨hx, hb, hml, hown, hts⟩ (mtX2_at l D t (nb 2) 24 now.2.2.1 k r16 h16 (by decide) _) (va_cwS 2 hts (gBS kw104 kw105 kw2 kw106) rfl rfl rfl (by decide +kernel) ⟨Nat.le_of_ble_eq_true rfl, Nat.le_of_ble_eq_true rfl⟩) (sPc_S hPc hK hDc hE) rfl rfl hl.1 rfl (lv_room (Nat.le_of_ble_eq_true rfl)) dX2_column_129 ⟨Nat.zero_le _, Nat.zero_le _⟩) (fun H locs hP hD hS => ?_)
            obtain rfl := oi h
            exact ret_i hx hb hr hlocks hP hK hD hS dX2_column_132
          · have h := it_n c14 h
            refine lv_tableOut (tgt := 133) hx hb dX2_column_29 (tab_0_4 c5 c7 c9 c11 c14) (by decide) ?_
            refine lv_aload_n hx hb dX2_column_133 rfl (lv_at hl 0 rfl) ?_
            refine va_get (D := D) (ci := 2) (v := .ref (bk 0)) (C := RX2) (T := TX2) (N := 8) hx hb htB inlX2 hown hK hP 0 rfl rfl 0 (by decide) (htB _ kw17) (fun _ h9 => h9) rfl dX2_column_134 ?_
            refine lv_iconst (v := 1) hx hb dX2_column_137 (by decide) ?_
            obtain ⟨r17, h17, h⟩ := ob h
            refine call_r (v := if 1 = 0 then nb 2 else nb 3) (wc := (gS t (bk 0) nb now)) (wc' := (gS t (bk 0) nb now)) (ws' := (gBo bh bk bo ++ (gS t (bk 0) nb now ++ (gE t (bk 2) eb r4)))) (cutB (bs := [gBo bh bk bo, gS t (bk 0) nb now, gE t (bk 2) eb r4]) (cs := [gS t (bk 0) nb now]) (cs' := [gS t (bk 0) nb now]) (bs' := [gBo bh bk bo, gS t (bk 0) nb now, gE t (bk 2) eb r4]) [1] hP hD hS hA rfl rfl rfl rfl) hS (fun hPc hDc => va_runV (As := [.int 1]) (rest := []) ⟨hx, hb, hml, hown, hts⟩ (mtX1_dragsOf l D t (bk 0) nb now 1 r17 h17 _) (cwV 1 hts (gBV kw148 kw149 kw150 kw16 kw151) rfl rfl rfl (by decide +kernel) ⟨Nat.le_of_ble_eq_true rfl, Nat.le_of_ble_eq_true rfl⟩) (sPc_V hPc hK hDc hE (va_recv hK hP (ci := 1) (q0 := 1) rfl rfl)) rfl rfl hl.1 rfl (lv_room (Nat.le_of_ble_eq_true rfl)) dX2_column_138 ⟨Nat.zero_le _, Nat.zero_le _⟩) (fun H locs hP hD hS => ?_)
            rw [if_neg (by decide)]
            refine lv_iload_n hx hb dX2_column_141 rfl (lv_at hl 2 rfl) ?_
            obtain ⟨r18, h18, h⟩ := ob h
            refine call_i (v := r18) (wc := (gA t (nb 3) 24 now.2.2.2.1)) (wc' := (gA t (nb 3) 24 now.2.2.2.1)) (ws' := (gBo bh bk bo ++ (gS t (bk 0) nb now ++ (gE t (bk 2) eb r4)))) (cutI (wc := (gA t (nb 3) 24 now.2.2.2.1)) (wc' := (gA t (nb 3) 24 now.2.2.2.1)) (ws' := (gBo bh bk bo ++ (gS t (bk 0) nb now ++ (gE t (bk 2) eb r4)))) [5] hP hD hS hA rfl rfl rfl rfl) hS (fun hPc hDc => va_runS (As := [.ref (nb 3), .int k]) (rest := []) ⟨hx, hb, hml, hown, hts⟩ (mtX2_at l D t (nb 3) 24 now.2.2.2.1 k r18 h18 (by decide) _) (va_cwS 2 hts (gBS kw104 kw105 kw2 kw106) rfl rfl rfl (by decide +kernel) ⟨Nat.le_of_ble_eq_true rfl, Nat.le_of_ble_eq_true rfl⟩) (sPc_S hPc hK hDc hE) rfl rfl hl.1 rfl (lv_room (Nat.le_of_ble_eq_true rfl)) dX2_column_142 ⟨Nat.zero_le _, Nat.zero_le _⟩) (fun H locs hP hD hS => ?_)
            obtain rfl := oi h
            exact ret_i hx hb hr hlocks hP hK hD hS dX2_column_145

theorem dX2_speed_0 : decode cX2_speed 0 = .ok (.iload_n 1, 1) := by decide +kernel
theorem dX2_speed_1 : decode cX2_speed 1 = .ok (.invokestatic 73, 3) := by decide +kernel
theorem dX2_speed_4 : decode cX2_speed 4 = .ok (.iload_n 2, 1) := by decide +kernel
theorem dX2_speed_5 : decode cX2_speed 5 = .ok (.iconst 0, 1) := by decide +kernel
theorem dX2_speed_6 : decode cX2_speed 6 = .ok (.bipush 8, 2) := by decide +kernel
theorem dX2_speed_8 : decode cX2_speed 8 = .ok (.invokestatic 48, 3) := by decide +kernel
theorem dX2_speed_11 : decode cX2_speed 11 = .ok (.aload_n 0, 1) := by decide +kernel
theorem dX2_speed_12 : decode cX2_speed 12 = .ok (.getfield 22, 3) := by decide +kernel
theorem dX2_speed_15 : decode cX2_speed 15 = .ok (.aload_n 0, 1) := by decide +kernel
theorem dX2_speed_16 : decode cX2_speed 16 = .ok (.getfield 10, 3) := by decide +kernel
theorem dX2_speed_19 : decode cX2_speed 19 = .ok (.iload_n 1, 1) := by decide +kernel
theorem dX2_speed_20 : decode cX2_speed 20 = .ok (.invokevirtual 143, 3) := by decide +kernel
theorem dX2_speed_23 : decode cX2_speed 23 = .ok (.iload_n 2, 1) := by decide +kernel
theorem dX2_speed_24 : decode cX2_speed 24 = .ok (.tableswitch 117 0 7 #[48, 53, 68, 77, 85, 93, 101, 109], 48) := by decide +kernel
theorem dX2_speed_72 : decode cX2_speed 72 = .ok (.iload_n 1, 1) := by decide +kernel
theorem dX2_speed_73 : decode cX2_speed 73 = .ok (.invokestatic 156, 3) := by decide +kernel
theorem dX2_speed_76 : decode cX2_speed 76 = .ok (.ireturn, 1) := by decide +kernel
theorem dX2_speed_77 : decode cX2_speed 77 = .ok (.aload_n 0, 1) := by decide +kernel
theorem dX2_speed_78 : decode cX2_speed 78 = .ok (.getfield 10, 3) := by decide +kernel
theorem dX2_speed_81 : decode cX2_speed 81 = .ok (.getfield 76, 3) := by decide +kernel
theorem dX2_speed_84 : decode cX2_speed 84 = .ok (.iload_n 1, 1) := by decide +kernel
theorem dX2_speed_85 : decode cX2_speed 85 = .ok (.invokestatic 58, 3) := by decide +kernel
theorem dX2_speed_88 : decode cX2_speed 88 = .ok (.bipush 100, 2) := by decide +kernel
theorem dX2_speed_90 : decode cX2_speed 90 = .ok (.iadd, 1) := by decide +kernel
theorem dX2_speed_91 : decode cX2_speed 91 = .ok (.ireturn, 1) := by decide +kernel
theorem dX2_speed_92 : decode cX2_speed 92 = .ok (.aload_n 0, 1) := by decide +kernel
theorem dX2_speed_93 : decode cX2_speed 93 = .ok (.getfield 10, 3) := by decide +kernel
theorem dX2_speed_96 : decode cX2_speed 96 = .ok (.iload_n 1, 1) := by decide +kernel
theorem dX2_speed_97 : decode cX2_speed 97 = .ok (.invokevirtual 164, 3) := by decide +kernel
theorem dX2_speed_100 : decode cX2_speed 100 = .ok (.ireturn, 1) := by decide +kernel
theorem dX2_speed_101 : decode cX2_speed 101 = .ok (.aload_n 0, 1) := by decide +kernel
theorem dX2_speed_102 : decode cX2_speed 102 = .ok (.getfield 22, 3) := by decide +kernel
theorem dX2_speed_105 : decode cX2_speed 105 = .ok (.getfield 167, 3) := by decide +kernel
theorem dX2_speed_108 : decode cX2_speed 108 = .ok (.ireturn, 1) := by decide +kernel
theorem dX2_speed_109 : decode cX2_speed 109 = .ok (.aload_n 0, 1) := by decide +kernel
theorem dX2_speed_110 : decode cX2_speed 110 = .ok (.getfield 22, 3) := by decide +kernel
theorem dX2_speed_113 : decode cX2_speed 113 = .ok (.invokevirtual 96, 3) := by decide +kernel
theorem dX2_speed_116 : decode cX2_speed 116 = .ok (.ireturn, 1) := by decide +kernel
theorem dX2_speed_117 : decode cX2_speed 117 = .ok (.aload_n 0, 1) := by decide +kernel
theorem dX2_speed_118 : decode cX2_speed 118 = .ok (.getfield 22, 3) := by decide +kernel
theorem dX2_speed_121 : decode cX2_speed 121 = .ok (.getfield 170, 3) := by decide +kernel
theorem dX2_speed_124 : decode cX2_speed 124 = .ok (.ireturn, 1) := by decide +kernel
theorem dX2_speed_125 : decode cX2_speed 125 = .ok (.aload_n 0, 1) := by decide +kernel
theorem dX2_speed_126 : decode cX2_speed 126 = .ok (.getfield 22, 3) := by decide +kernel
theorem dX2_speed_129 : decode cX2_speed 129 = .ok (.getfield 173, 3) := by decide +kernel
theorem dX2_speed_132 : decode cX2_speed 132 = .ok (.ireturn, 1) := by decide +kernel
theorem dX2_speed_133 : decode cX2_speed 133 = .ok (.aload_n 0, 1) := by decide +kernel
theorem dX2_speed_134 : decode cX2_speed 134 = .ok (.getfield 22, 3) := by decide +kernel
theorem dX2_speed_137 : decode cX2_speed 137 = .ok (.getfield 176, 3) := by decide +kernel
theorem dX2_speed_140 : decode cX2_speed 140 = .ok (.ireturn, 1) := by decide +kernel
theorem dX2_speed_141 : decode cX2_speed 141 = .ok (.aload_n 0, 1) := by decide +kernel
theorem dX2_speed_142 : decode cX2_speed 142 = .ok (.getfield 10, 3) := by decide +kernel
theorem dX2_speed_145 : decode cX2_speed 145 = .ok (.getfield 179, 3) := by decide +kernel
theorem dX2_speed_148 : decode cX2_speed 148 = .ok (.iload_n 1, 1) := by decide +kernel
theorem dX2_speed_149 : decode cX2_speed 149 = .ok (.invokestatic 58, 3) := by decide +kernel
theorem dX2_speed_152 : decode cX2_speed 152 = .ok (.ireturn, 1) := by decide +kernel
abbrev zX2_speed : List Cond := .code yX2_speed cX2_speed 3 (some .int) :: BIG
def fX2_speed (bo : BoT) (now : ShT) (ex : ExT) (v : Int32) (w : Int32) : Option (Nat ⊕ (Int32 × ExT)) := tb (fX2_needSpeed v) (fun r1 => tb (fX2_needRange w 0 8) (fun r2 => (fX0_expose ex now v).bind (fun r3 => (if w = 0 then (fX2_wantedLight v).bind (fun r5 => some (.inr (r5, r3))) else (if w = 1 then (fX2_at 6 now.2.2.2.2.1 v).bind (fun r7 => some (.inr (r7 + 100, r3))) else (if w = 2 then (fX1_startOfSecond now v).bind (fun r9 => some (.inr (r9, r3))) else (if w = 3 then some (.inr (r3.2.2.2.1, r3)) else (if w = 4 then (fX0_spread r3).bind (fun r12 => some (.inr (r12, r3))) else (if w = 5 then some (.inr (r3.2.2.2.2.2.2.2.1, r3)) else (if w = 6 then some (.inr (r3.2.2.2.2.2.2.2.2.1, r3)) else (if w = 7 then some (.inr (r3.2.2.2.2.2.2.2.2.2, r3)) else (fX2_at 6 now.2.2.2.2.2.2.1 v).bind (fun r16 => some (.inr (r16, r3))))))))))))))
set_option maxHeartbeats 4000000 in
set_option maxRecDepth 100000 in
theorem mtX2_speed (l : Launch) (D : va_G) (t : Nat → ClassId) (bh : Nat) (bk : Nat → Nat) (bo : BoT) (nb : Nat → Nat) (now : ShT) (eb : Nat → Nat) (ex : ExT) (v : Int32) (w : Int32) (out : Int32 × ExT) (h : fX2_speed bo now ex v w = some (.inr out))  (sz : Nat) : Met l yX2_speed zX2_speed ({ frames := 4, cells := 0, slots := 0, locals := 93 }) (sPc D t (gBo bh bk bo ++ (gS t (bk 0) nb now ++ (gE t (bk 2) eb ex))) sz [.ref bh, .int v, .int w]) (qI D t (gBo bh bk bo ++ (gS t (bk 0) nb now ++ (gE t (bk 2) eb out.2))) out.1 (va_A (gBo bh bk bo ++ (gS t (bk 0) nb now ++ (gE t (bk 2) eb ex))) sz)) 0 0 (va_A (gBo bh bk bo ++ (gS t (bk 0) nb now ++ (gE t (bk 2) eb ex))) sz) := by
  refine met_of (Qf := fun A => qI D t (gBo bh bk bo ++ (gS t (bk 0) nb now ++ (gE t (bk 2) eb out.2))) out.1 A) (cc := cX2_speed) (maxL := 3) (ret := some .int) (by decide) rfl (Nat.le_of_ble_eq_true rfl) ?_
  intro p e s m args below meth c A hx hb hr hml hts hown hlocks hA hP hK hD hE hS ls hl
  have htB : ∀ w ∈ BIG, w.before args s = true := fun w h => hts w (List.mem_cons_of_mem _ h)
  have hown : s.vm.findClass RX2 = some m.cls := hown
  have hl : lv_has ls 3 [(0, .ref bh), (1, .int v), (2, .int w)] := hl
  unfold fX2_speed at h
  refine lv_iload_n hx hb dX2_speed_0 rfl (lv_at hl 1 rfl) ?_
  obtain ⟨r1, h1, h⟩ := tb_r h
  refine call_v (wc := ([] : va_W)) (wc' := ([] : va_W)) (ws' := (gBo bh bk bo ++ (gS t (bk 0) nb now ++ (gE t (bk 2) eb ex)))) (cutB (bs := [gBo bh bk bo, gS t (bk 0) nb now, gE t (bk 2) eb ex]) (cs := []) (cs' := []) (bs' := [gBo bh bk bo, gS t (bk 0) nb now, gE t (bk 2) eb ex]) [] hP hD hS hA rfl rfl rfl rfl) hS (fun hPc hDc => va_runS (As := [.int v]) (rest := []) ⟨hx, hb, hml, hown, hts⟩ (mtX2_needSpeed l D t v r1 h1 _) (va_cwS 1 hts (gBS kw179 kw180 kw2 kw181) rfl rfl rfl (by decide +kernel) ⟨Nat.le_of_ble_eq_true rfl, Nat.le_of_ble_eq_true rfl⟩) (sPc_S hPc hK hDc hE) rfl rfl hl.1 rfl (lv_room (Nat.le_of_ble_eq_true rfl)) dX2_speed_1 ⟨Nat.zero_le _, Nat.zero_le _⟩) (fun H locs hP hD hS => ?_)
  refine lv_iload_n hx hb dX2_speed_4 rfl (lv_at hl 2 rfl) ?_
  refine lv_iconst (v := 0) hx hb dX2_speed_5 (by decide) ?_
  refine lv_bipush (v := 8) hx hb dX2_speed_6 (by decide) ?_
  obtain ⟨r2, h2, h⟩ := tb_r h
  refine call_v (wc := ([] : va_W)) (wc' := ([] : va_W)) (ws' := (gBo bh bk bo ++ (gS t (bk 0) nb now ++ (gE t (bk 2) eb ex)))) (cutB (bs := [gBo bh bk bo, gS t (bk 0) nb now, gE t (bk 2) eb ex]) (cs := []) (cs' := []) (bs' := [gBo bh bk bo, gS t (bk 0) nb now, gE t (bk 2) eb ex]) [] hP hD hS hA rfl rfl rfl rfl) hS (fun hPc hDc => va_runS (As := [.int w, .int 0, .int 8]) (rest := []) ⟨hx, hb, hml, hown, hts⟩ (mtX2_needRange l D t w 0 8 r2 h2 _) (va_cwS 3 hts (gBS kw81 kw82 kw2 kw83) rfl rfl rfl (by decide +kernel) ⟨Nat.le_of_ble_eq_true rfl, Nat.le_of_ble_eq_true rfl⟩) (sPc_S hPc hK hDc hE) rfl rfl hl.1 rfl (lv_room (Nat.le_of_ble_eq_true rfl)) dX2_speed_8 ⟨Nat.zero_le _, Nat.zero_le _⟩) (fun H locs hP hD hS => ?_)
  refine lv_aload_n hx hb dX2_speed_11 rfl (lv_at hl 0 rfl) ?_
  refine va_get (D := D) (ci := 2) (v := .ref (bk 2)) (C := RX2) (T := TX2) (N := 8) hx hb htB inlX2 hown hK hP 0 rfl rfl 2 (by decide) (htB _ kw22) (fun _ h9 => h9) rfl dX2_speed_12 ?_
  refine lv_aload_n hx hb dX2_speed_15 rfl (lv_at hl 0 rfl) ?_
  refine va_get (D := D) (ci := 2) (v := .ref (bk 0)) (C := RX2) (T := TX2) (N := 8) hx hb htB inlX2 hown hK hP 0 rfl rfl 0 (by decide) (htB _ kw17) (fun _ h9 => h9) rfl dX2_speed_16 ?_
  refine lv_iload_n hx hb dX2_speed_19 rfl (lv_at hl 1 rfl) ?_
  obtain ⟨r3, h3, h⟩ := ob h
  refine call_v (wc := (gE t (bk 2) eb ex ++ (gS t (bk 0) nb now))) (wc' := (gE t (bk 2) eb r3 ++ (gS t (bk 0) nb now))) (ws' := (gBo bh bk bo ++ (gS t (bk 0) nb now ++ (gE t (bk 2) eb r3)))) (cutB (bs := [gBo bh bk bo, gS t (bk 0) nb now, gE t (bk 2) eb ex]) (cs := [gE t (bk 2) eb ex, gS t (bk 0) nb now]) (cs' := [gE t (bk 2) eb r3, gS t (bk 0) nb now]) (bs' := [gBo bh bk bo, gS t (bk 0) nb now, gE t (bk 2) eb r3]) [2, 1] hP hD hS hA rfl rfl rfl rfl) hS (fun hPc hDc => va_runV (As := [.ref (bk 0), .int v]) (rest := []) ⟨hx, hb, hml, hown, hts⟩ (mtX0_expose l D t (bk 2) eb ex (bk 0) nb now v r3 h3 _) (cwV 2 hts (gBV kw224 kw225 kw226 kw21 kw227) rfl rfl rfl (by decide +kernel) ⟨Nat.le_of_ble_eq_true rfl, Nat.le_of_ble_eq_true rfl⟩) (sPc_V hPc hK hDc hE (va_recv hK hP (ci := 0) (q0 := 9) rfl rfl)) rfl rfl hl.1 rfl (lv_room (Nat.le_of_ble_eq_true rfl)) dX2_speed_20 ⟨Nat.zero_le _, Nat.zero_le _⟩) (fun H locs hP hD hS => ?_)
  refine lv_iload_n hx hb dX2_speed_23 rfl (lv_at hl 2 rfl) ?_
  by_cases c4 : w = 0
  · have h := it_p c4 h
    refine lv_tableIn (off := 48) (tgt := 72) hx hb dX2_speed_24 (by rw [c4]; decide) (by rw [c4]; decide) (by rw [c4]; rfl) (by decide) ?_
    refine lv_iload_n hx hb dX2_speed_72 rfl (lv_at hl 1 rfl) ?_
    obtain ⟨r5, h5, h⟩ := ob h
    refine call_i (v := r5) (wc := ([] : va_W)) (wc' := ([] : va_W)) (ws' := (gBo bh bk bo ++ (gS t (bk 0) nb now ++ (gE t (bk 2) eb r3)))) (cutB (bs := [gBo bh bk bo, gS t (bk 0) nb now, gE t (bk 2) eb r3]) (cs := []) (cs' := []) (bs' := [gBo bh bk bo, gS t (bk 0) nb now, gE t (bk 2) eb r3]) [] hP hD hS hA rfl rfl rfl rfl) hS (fun hPc hDc => va_runS (As := [.int v]) (rest := []) ⟨hx, hb, hml, hown, hts⟩ (mtX2_wantedLight l D t v r5 h5 _) (va_cwS 1 hts (gBS kw462 kw246 kw2 kw247) rfl rfl rfl (by decide +kernel) ⟨Nat.le_of_ble_eq_true rfl, Nat.le_of_ble_eq_true rfl⟩) (sPc_S hPc hK hDc hE) rfl rfl hl.1 rfl (lv_room (Nat.le_of_ble_eq_true rfl)) dX2_speed_73 ⟨Nat.zero_le _, Nat.zero_le _⟩) (fun H locs hP hD hS => ?_)
    obtain rfl := oi h
    exact ret_i hx hb hr hlocks hP hK hD hS dX2_speed_76
  · have h := it_n c4 h
    by_cases c6 : w = 1
    · have h := it_p c6 h
      refine lv_tableIn (off := 53) (tgt := 77) hx hb dX2_speed_24 (by rw [c6]; decide) (by rw [c6]; decide) (by rw [c6]; rfl) (by decide) ?_
      refine lv_aload_n hx hb dX2_speed_77 rfl (lv_at hl 0 rfl) ?_
      refine va_get (D := D) (ci := 2) (v := .ref (bk 0)) (C := RX2) (T := TX2) (N := 8) hx hb htB inlX2 hown hK hP 0 rfl rfl 0 (by decide) (htB _ kw17) (fun _ h9 => h9) rfl dX2_speed_78 ?_
      refine va_get (D := D) (ci := 1) (v := .ref (nb 4)) (C := RX1) (T := TX1) (N := 10) hx hb htB inlX1 hown hK hP 1 rfl rfl 4 (by decide) (htB _ kw178) (fun _ h9 => h9) rfl dX2_speed_81 ?_
      refine lv_iload_n hx hb dX2_speed_84 rfl (lv_at hl 1 rfl) ?_
      obtain ⟨r7, h7, h⟩ := ob h
      refine call_i (v := r7) (wc := (gA t (nb 4) 6 now.2.2.2.2.1)) (wc' := (gA t (nb 4) 6 now.2.2.2.2.1)) (ws' := (gBo bh bk bo ++ (gS t (bk 0) nb now ++ (gE t (bk 2) eb r3)))) (cutI (wc := (gA t (nb 4) 6 now.2.2.2.2.1)) (wc' := (gA t (nb 4) 6 now.2.2.2.2.1)) (ws' := (gBo bh bk bo ++ (gS t (bk 0) nb now ++ (gE t (bk 2) eb r3)))) [6] hP hD hS hA rfl rfl rfl rfl) hS (fun hPc hDc => va_runS (As := [.ref (nb 4), .int v]) (rest := []) ⟨hx, hb, hml, hown, hts⟩ (mtX2_at l D t (nb 4) 6 now.2.2.2.2.1 v r7 h7 (by decide) _) (va_cwS 2 hts (gBS kw104 kw105 kw2 kw106) rfl rfl rfl (by decide +kernel) ⟨Nat.le_of_ble_eq_true rfl, Nat.le_of_ble_eq_true rfl⟩) (sPc_S hPc hK hDc hE) rfl rfl hl.1 rfl (lv_room (Nat.le_of_ble_eq_true rfl)) dX2_speed_85 ⟨Nat.zero_le _, Nat.zero_le _⟩) (fun H locs hP hD hS => ?_)
      refine lv_bipush (v := 100) hx hb dX2_speed_88 (by decide) ?_
      refine lv_iadd hx hb dX2_speed_90 ?_
      obtain rfl := oi h
      exact ret_i hx hb hr hlocks hP hK hD hS dX2_speed_91
    · have h := it_n c6 h
      by_cases c8 : w = 2
      · have h := it_p c8 h
        refine lv_tableIn (off := 68) (tgt := 92) hx hb dX2_speed_24 (by rw [c8]; decide) (by rw [c8]; decide) (by rw [c8]; rfl) (by decide) ?_
        refine lv_aload_n hx hb dX2_speed_92 rfl (lv_at hl 0 rfl) ?_
        refine va_get (D := D) (ci := 2) (v := .ref (bk 0)) (C := RX2) (T := TX2) (N := 8) hx hb htB inlX2 hown hK hP 0 rfl rfl 0 (by decide) (htB _ kw17) (fun _ h9 => h9) rfl dX2_speed_93 ?_
        refine lv_iload_n hx hb dX2_speed_96 rfl (lv_at hl 1 rfl) ?_
        obtain ⟨r9, h9, h⟩ := ob h
        refine call_i (v := r9) (wc := (gS t (bk 0) nb now)) (wc' := (gS t (bk 0) nb now)) (ws' := (gBo bh bk bo ++ (gS t (bk 0) nb now ++ (gE t (bk 2) eb r3)))) (cutB (bs := [gBo bh bk bo, gS t (bk 0) nb now, gE t (bk 2) eb r3]) (cs := [gS t (bk 0) nb now]) (cs' := [gS t (bk 0) nb now]) (bs' := [gBo bh bk bo, gS t (bk 0) nb now, gE t (bk 2) eb r3]) [1] hP hD hS hA rfl rfl rfl rfl) hS (fun hPc hDc => va_runV (As := [.int v]) (rest := []) ⟨hx, hb, hml, hown, hts⟩ (mtX1_startOfSecond l D t (bk 0) nb now v r9 h9 _) (cwV 1 hts (gBV kw483 kw242 kw243 kw16 kw244) rfl rfl rfl (by decide +kernel) ⟨Nat.le_of_ble_eq_true rfl, Nat.le_of_ble_eq_true rfl⟩) (sPc_V hPc hK hDc hE (va_recv hK hP (ci := 1) (q0 := 1) rfl rfl)) rfl rfl hl.1 rfl (lv_room (Nat.le_of_ble_eq_true rfl)) dX2_speed_97 ⟨Nat.zero_le _, Nat.zero_le _⟩) (fun H locs hP hD hS => ?_)
        obtain rfl := oi h
        exact ret_i hx hb hr hlocks hP hK hD hS dX2_speed_100
      · have h := it_n c8 h
        by_cases c10 : w = 3
        · have h := it_p c10 h
          refine lv_tableIn (off := 77) (tgt := 101) hx hb dX2_speed_24 (by rw [c10]; decide) (by rw [c10]; decide) (by rw [c10]; rfl) (by decide) ?_
          refine lv_aload_n hx hb dX2_speed_101 rfl (lv_at hl 0 rfl) ?_
          refine va_get (D := D) (ci := 2) (v := .ref (bk 2)) (C := RX2) (T := TX2) (N := 8) hx hb htB inlX2 hown hK hP 0 rfl rfl 2 (by decide) (htB _ kw22) (fun _ h9 => h9) rfl dX2_speed_102 ?_
          refine va_get (D := D) (ci := 0) (v := .int r3.2.2.2.1) (C := RX0) (T := TX0) (N := 10) hx hb htB inlX0 hown hK hP 9 rfl rfl 3 (by decide) (htB _ kw478) (fun _ h9 => h9) rfl dX2_speed_105 ?_
          obtain rfl := oi h
          exact ret_i hx hb hr hlocks hP hK hD hS dX2_speed_108
        · have h := it_n c10 h
          by_cases c11 : w = 4
          · have h := it_p c11 h
            refine lv_tableIn (off := 85) (tgt := 109) hx hb dX2_speed_24 (by rw [c11]; decide) (by rw [c11]; decide) (by rw [c11]; rfl) (by decide) ?_
            refine lv_aload_n hx hb dX2_speed_109 rfl (lv_at hl 0 rfl) ?_
            refine va_get (D := D) (ci := 2) (v := .ref (bk 2)) (C := RX2) (T := TX2) (N := 8) hx hb htB inlX2 hown hK hP 0 rfl rfl 2 (by decide) (htB _ kw22) (fun _ h9 => h9) rfl dX2_speed_110 ?_
            obtain ⟨r12, h12, h⟩ := ob h
            refine call_i (v := r12) (wc := (gE t (bk 2) eb r3)) (wc' := (gE t (bk 2) eb r3)) (ws' := (gBo bh bk bo ++ (gS t (bk 0) nb now ++ (gE t (bk 2) eb r3)))) (cutB (bs := [gBo bh bk bo, gS t (bk 0) nb now, gE t (bk 2) eb r3]) (cs := [gE t (bk 2) eb r3]) (cs' := [gE t (bk 2) eb r3]) (bs' := [gBo bh bk bo, gS t (bk 0) nb now, gE t (bk 2) eb r3]) [2] hP hD hS hA rfl rfl rfl rfl) hS (fun hPc hDc => va_runV (As := []) (rest := []) ⟨hx, hb, hml, hown, hts⟩ (mtX0_spread l D t (bk 2) eb r3 r12 h12 _) (cwV 0 hts (gBV kw282 kw279 kw280 kw21 kw281) rfl rfl rfl (by decide +kernel) ⟨Nat.le_of_ble_eq_true rfl, Nat.le_of_ble_eq_true rfl⟩) (sPc_V hPc hK hDc hE (va_recv hK hP (ci := 0) (q0 := 9) rfl rfl)) rfl rfl hl.1 rfl (lv_room (Nat.le_of_ble_eq_true rfl)) dX2_speed_113 ⟨Nat.zero_le _, Nat.zero_le _⟩) (fun H locs hP hD hS => ?_)
            obtain rfl := oi h
            exact ret_i hx hb hr hlocks hP hK hD hS dX2_speed_116
          · have h := it_n c11 h
            by_cases c13 : w = 5
            · have h := it_p c13 h
              refine lv_tableIn (off := 93) (tgt := 117) hx hb dX2_speed_24 (by rw [c13]; decide) (by rw [c13]; decide) (by rw [c13]; rfl) (by decide) ?_
              refine lv_aload_n hx hb dX2_speed_117 rfl (lv_at hl 0 rfl) ?_
              refine va_get (D := D) (ci := 2) (v := .ref (bk 2)) (C := RX2) (T := TX2) (N := 8) hx hb htB inlX2 hown hK hP 0 rfl rfl 2 (by decide) (htB _ kw22) (fun _ h9 => h9) rfl dX2_speed_118 ?_
              refine va_get (D := D) (ci := 0) (v := .int r3.2.2.2.2.2.2.2.1) (C := RX0) (T := TX0) (N := 10) hx hb htB inlX0 hown hK hP 9 rfl rfl 7 (by decide) (htB _ kw479) (fun _ h9 => h9) rfl dX2_speed_121 ?_
              obtain rfl := oi h
              exact ret_i hx hb hr hlocks hP hK hD hS dX2_speed_124
            · have h := it_n c13 h
              by_cases c14 : w = 6
              · have h := it_p c14 h
                refine lv_tableIn (off := 101) (tgt := 125) hx hb dX2_speed_24 (by rw [c14]; decide) (by rw [c14]; decide) (by rw [c14]; rfl) (by decide) ?_
                refine lv_aload_n hx hb dX2_speed_125 rfl (lv_at hl 0 rfl) ?_
                refine va_get (D := D) (ci := 2) (v := .ref (bk 2)) (C := RX2) (T := TX2) (N := 8) hx hb htB inlX2 hown hK hP 0 rfl rfl 2 (by decide) (htB _ kw22) (fun _ h9 => h9) rfl dX2_speed_126 ?_
                refine va_get (D := D) (ci := 0) (v := .int r3.2.2.2.2.2.2.2.2.1) (C := RX0) (T := TX0) (N := 10) hx hb htB inlX0 hown hK hP 9 rfl rfl 8 (by decide) (htB _ kw480) (fun _ h9 => h9) rfl dX2_speed_129 ?_
                obtain rfl := oi h
                exact ret_i hx hb hr hlocks hP hK hD hS dX2_speed_132
              · have h := it_n c14 h
                by_cases c15 : w = 7
                · have h := it_p c15 h
                  refine lv_tableIn (off := 109) (tgt := 133) hx hb dX2_speed_24 (by rw [c15]; decide) (by rw [c15]; decide) (by rw [c15]; rfl) (by decide) ?_
                  refine lv_aload_n hx hb dX2_speed_133 rfl (lv_at hl 0 rfl) ?_
                  refine va_get (D := D) (ci := 2) (v := .ref (bk 2)) (C := RX2) (T := TX2) (N := 8) hx hb htB inlX2 hown hK hP 0 rfl rfl 2 (by decide) (htB _ kw22) (fun _ h9 => h9) rfl dX2_speed_134 ?_
                  refine va_get (D := D) (ci := 0) (v := .int r3.2.2.2.2.2.2.2.2.2) (C := RX0) (T := TX0) (N := 10) hx hb htB inlX0 hown hK hP 9 rfl rfl 9 (by decide) (htB _ kw481) (fun _ h9 => h9) rfl dX2_speed_137 ?_
                  obtain rfl := oi h
                  exact ret_i hx hb hr hlocks hP hK hD hS dX2_speed_140
                · have h := it_n c15 h
                  refine lv_tableOut (tgt := 141) hx hb dX2_speed_24 (tab_0_7 c4 c6 c8 c10 c11 c13 c14 c15) (by decide) ?_
                  refine lv_aload_n hx hb dX2_speed_141 rfl (lv_at hl 0 rfl) ?_
                  refine va_get (D := D) (ci := 2) (v := .ref (bk 0)) (C := RX2) (T := TX2) (N := 8) hx hb htB inlX2 hown hK hP 0 rfl rfl 0 (by decide) (htB _ kw17) (fun _ h9 => h9) rfl dX2_speed_142 ?_
                  refine va_get (D := D) (ci := 1) (v := .ref (nb 6)) (C := RX1) (T := TX1) (N := 10) hx hb htB inlX1 hown hK hP 1 rfl rfl 6 (by decide) (htB _ kw482) (fun _ h9 => h9) rfl dX2_speed_145 ?_
                  refine lv_iload_n hx hb dX2_speed_148 rfl (lv_at hl 1 rfl) ?_
                  obtain ⟨r16, h16, h⟩ := ob h
                  refine call_i (v := r16) (wc := (gA t (nb 6) 6 now.2.2.2.2.2.2.1)) (wc' := (gA t (nb 6) 6 now.2.2.2.2.2.2.1)) (ws' := (gBo bh bk bo ++ (gS t (bk 0) nb now ++ (gE t (bk 2) eb r3)))) (cutI (wc := (gA t (nb 6) 6 now.2.2.2.2.2.2.1)) (wc' := (gA t (nb 6) 6 now.2.2.2.2.2.2.1)) (ws' := (gBo bh bk bo ++ (gS t (bk 0) nb now ++ (gE t (bk 2) eb r3)))) [8] hP hD hS hA rfl rfl rfl rfl) hS (fun hPc hDc => va_runS (As := [.ref (nb 6), .int v]) (rest := []) ⟨hx, hb, hml, hown, hts⟩ (mtX2_at l D t (nb 6) 6 now.2.2.2.2.2.2.1 v r16 h16 (by decide) _) (va_cwS 2 hts (gBS kw104 kw105 kw2 kw106) rfl rfl rfl (by decide +kernel) ⟨Nat.le_of_ble_eq_true rfl, Nat.le_of_ble_eq_true rfl⟩) (sPc_S hPc hK hDc hE) rfl rfl hl.1 rfl (lv_room (Nat.le_of_ble_eq_true rfl)) dX2_speed_149 ⟨Nat.zero_le _, Nat.zero_le _⟩) (fun H locs hP hD hS => ?_)
                  obtain rfl := oi h
                  exact ret_i hx hb hr hlocks hP hK hD hS dX2_speed_152

theorem dX2_count_0 : decode cX2_count 0 = .ok (.iload_n 1, 1) := by decide +kernel
theorem dX2_count_1 : decode cX2_count 1 = .ok (.iconst 0, 1) := by decide +kernel
theorem dX2_count_2 : decode cX2_count 2 = .ok (.iconst 4, 1) := by decide +kernel
theorem dX2_count_3 : decode cX2_count 3 = .ok (.invokestatic 48, 3) := by decide +kernel
theorem dX2_count_6 : decode cX2_count 6 = .ok (.iload_n 1, 1) := by decide +kernel
theorem dX2_count_7 : decode cX2_count 7 = .ok (.tableswitch 61 0 3 #[29, 37, 45, 53], 29) := by decide +kernel
theorem dX2_count_36 : decode cX2_count 36 = .ok (.aload_n 0, 1) := by decide +kernel
theorem dX2_count_37 : decode cX2_count 37 = .ok (.getfield 10, 3) := by decide +kernel
theorem dX2_count_40 : decode cX2_count 40 = .ok (.getfield 182, 3) := by decide +kernel
theorem dX2_count_43 : decode cX2_count 43 = .ok (.ireturn, 1) := by decide +kernel
theorem dX2_count_44 : decode cX2_count 44 = .ok (.aload_n 0, 1) := by decide +kernel
theorem dX2_count_45 : decode cX2_count 45 = .ok (.getfield 10, 3) := by decide +kernel
theorem dX2_count_48 : decode cX2_count 48 = .ok (.getfield 185, 3) := by decide +kernel
theorem dX2_count_51 : decode cX2_count 51 = .ok (.ireturn, 1) := by decide +kernel
theorem dX2_count_52 : decode cX2_count 52 = .ok (.aload_n 0, 1) := by decide +kernel
theorem dX2_count_53 : decode cX2_count 53 = .ok (.getfield 10, 3) := by decide +kernel
theorem dX2_count_56 : decode cX2_count 56 = .ok (.invokevirtual 188, 3) := by decide +kernel
theorem dX2_count_59 : decode cX2_count 59 = .ok (.ireturn, 1) := by decide +kernel
theorem dX2_count_60 : decode cX2_count 60 = .ok (.aload_n 0, 1) := by decide +kernel
theorem dX2_count_61 : decode cX2_count 61 = .ok (.getfield 10, 3) := by decide +kernel
theorem dX2_count_64 : decode cX2_count 64 = .ok (.getfield 191, 3) := by decide +kernel
theorem dX2_count_67 : decode cX2_count 67 = .ok (.ireturn, 1) := by decide +kernel
theorem dX2_count_68 : decode cX2_count 68 = .ok (.aload_n 0, 1) := by decide +kernel
theorem dX2_count_69 : decode cX2_count 69 = .ok (.getfield 30, 3) := by decide +kernel
theorem dX2_count_72 : decode cX2_count 72 = .ok (.ireturn, 1) := by decide +kernel
abbrev zX2_count : List Cond := .code yX2_count cX2_count 2 (some .int) :: BIG
def fX2_count (bo : BoT) (now : ShT) (w : Int32) : Option (Nat ⊕ (Int32)) := tb (fX2_needRange w 0 4) (fun r1 => (if w = 0 then some (.inr now.2.2.2.2.2.2.2.1) else (if w = 1 then some (.inr now.2.2.2.2.2.2.2.2.1) else (if w = 2 then (fX1_bounceColumns now).bind (fun r5 => some (.inr r5)) else (if w = 3 then some (.inr now.2.2.2.2.2.2.2.2.2) else some (.inr bo.1))))))
set_option maxHeartbeats 4000000 in
set_option maxRecDepth 100000 in
theorem mtX2_count (l : Launch) (D : va_G) (t : Nat → ClassId) (bh : Nat) (bk : Nat → Nat) (bo : BoT) (nb : Nat → Nat) (now : ShT) (w : Int32) (out : Int32) (h : fX2_count bo now w = some (.inr out))  (sz : Nat) : Met l yX2_count zX2_count ({ frames := 2, cells := 0, slots := 0, locals := 42 }) (sPc D t (gBo bh bk bo ++ (gS t (bk 0) nb now)) sz [.ref bh, .int w]) (qI D t (gBo bh bk bo ++ (gS t (bk 0) nb now)) out (va_A (gBo bh bk bo ++ (gS t (bk 0) nb now)) sz)) 0 0 (va_A (gBo bh bk bo ++ (gS t (bk 0) nb now)) sz) := by
  refine met_of (Qf := fun A => qI D t (gBo bh bk bo ++ (gS t (bk 0) nb now)) out A) (cc := cX2_count) (maxL := 2) (ret := some .int) (by decide) rfl (Nat.le_of_ble_eq_true rfl) ?_
  intro p e s m args below meth c A hx hb hr hml hts hown hlocks hA hP hK hD hE hS ls hl
  have htB : ∀ w ∈ BIG, w.before args s = true := fun w h => hts w (List.mem_cons_of_mem _ h)
  have hown : s.vm.findClass RX2 = some m.cls := hown
  have hl : lv_has ls 2 [(0, .ref bh), (1, .int w)] := hl
  unfold fX2_count at h
  refine lv_iload_n hx hb dX2_count_0 rfl (lv_at hl 1 rfl) ?_
  refine lv_iconst (v := 0) hx hb dX2_count_1 (by decide) ?_
  refine lv_iconst (v := 4) hx hb dX2_count_2 (by decide) ?_
  obtain ⟨r1, h1, h⟩ := tb_r h
  refine call_v (wc := ([] : va_W)) (wc' := ([] : va_W)) (ws' := (gBo bh bk bo ++ (gS t (bk 0) nb now))) (cutB (bs := [gBo bh bk bo, gS t (bk 0) nb now]) (cs := []) (cs' := []) (bs' := [gBo bh bk bo, gS t (bk 0) nb now]) [] hP hD hS hA rfl rfl rfl rfl) hS (fun hPc hDc => va_runS (As := [.int w, .int 0, .int 4]) (rest := []) ⟨hx, hb, hml, hown, hts⟩ (mtX2_needRange l D t w 0 4 r1 h1 _) (va_cwS 3 hts (gBS kw81 kw82 kw2 kw83) rfl rfl rfl (by decide +kernel) ⟨Nat.le_of_ble_eq_true rfl, Nat.le_of_ble_eq_true rfl⟩) (sPc_S hPc hK hDc hE) rfl rfl hl.1 rfl (lv_room (Nat.le_of_ble_eq_true rfl)) dX2_count_3 ⟨Nat.zero_le _, Nat.zero_le _⟩) (fun H locs hP hD hS => ?_)
  refine lv_iload_n hx hb dX2_count_6 rfl (lv_at hl 1 rfl) ?_
  by_cases c2 : w = 0
  · have h := it_p c2 h
    refine lv_tableIn (off := 29) (tgt := 36) hx hb dX2_count_7 (by rw [c2]; decide) (by rw [c2]; decide) (by rw [c2]; rfl) (by decide) ?_
    refine lv_aload_n hx hb dX2_count_36 rfl (lv_at hl 0 rfl) ?_
    refine va_get (D := D) (ci := 2) (v := .ref (bk 0)) (C := RX2) (T := TX2) (N := 8) hx hb htB inlX2 hown hK hP 0 rfl rfl 0 (by decide) (htB _ kw17) (fun _ h9 => h9) rfl dX2_count_37 ?_
    refine va_get (D := D) (ci := 1) (v := .int now.2.2.2.2.2.2.2.1) (C := RX1) (T := TX1) (N := 10) hx hb htB inlX1 hown hK hP 1 rfl rfl 7 (by decide) (htB _ kw499) (fun _ h9 => h9) rfl dX2_count_40 ?_
    obtain rfl := oi h
    exact ret_i hx hb hr hlocks hP hK hD hS dX2_count_43
  · have h := it_n c2 h
    by_cases c3 : w = 1
    · have h := it_p c3 h
      refine lv_tableIn (off := 37) (tgt := 44) hx hb dX2_count_7 (by rw [c3]; decide) (by rw [c3]; decide) (by rw [c3]; rfl) (by decide) ?_
      refine lv_aload_n hx hb dX2_count_44 rfl (lv_at hl 0 rfl) ?_
      refine va_get (D := D) (ci := 2) (v := .ref (bk 0)) (C := RX2) (T := TX2) (N := 8) hx hb htB inlX2 hown hK hP 0 rfl rfl 0 (by decide) (htB _ kw17) (fun _ h9 => h9) rfl dX2_count_45 ?_
      refine va_get (D := D) (ci := 1) (v := .int now.2.2.2.2.2.2.2.2.1) (C := RX1) (T := TX1) (N := 10) hx hb htB inlX1 hown hK hP 1 rfl rfl 8 (by decide) (htB _ kw500) (fun _ h9 => h9) rfl dX2_count_48 ?_
      obtain rfl := oi h
      exact ret_i hx hb hr hlocks hP hK hD hS dX2_count_51
    · have h := it_n c3 h
      by_cases c4 : w = 2
      · have h := it_p c4 h
        refine lv_tableIn (off := 45) (tgt := 52) hx hb dX2_count_7 (by rw [c4]; decide) (by rw [c4]; decide) (by rw [c4]; rfl) (by decide) ?_
        refine lv_aload_n hx hb dX2_count_52 rfl (lv_at hl 0 rfl) ?_
        refine va_get (D := D) (ci := 2) (v := .ref (bk 0)) (C := RX2) (T := TX2) (N := 8) hx hb htB inlX2 hown hK hP 0 rfl rfl 0 (by decide) (htB _ kw17) (fun _ h9 => h9) rfl dX2_count_53 ?_
        obtain ⟨r5, h5, h⟩ := ob h
        refine call_i (v := r5) (wc := (gS t (bk 0) nb now)) (wc' := (gS t (bk 0) nb now)) (ws' := (gBo bh bk bo ++ (gS t (bk 0) nb now))) (cutB (bs := [gBo bh bk bo, gS t (bk 0) nb now]) (cs := [gS t (bk 0) nb now]) (cs' := [gS t (bk 0) nb now]) (bs' := [gBo bh bk bo, gS t (bk 0) nb now]) [1] hP hD hS hA rfl rfl rfl rfl) hS (fun hPc hDc => va_runV (As := []) (rest := []) ⟨hx, hb, hml, hown, hts⟩ (mtX1_bounceColumns l D t (bk 0) nb now r5 h5 _) (cwV 0 hts (gBV kw502 kw255 kw256 kw16 kw257) rfl rfl rfl (by decide +kernel) ⟨Nat.le_of_ble_eq_true rfl, Nat.le_of_ble_eq_true rfl⟩) (sPc_V hPc hK hDc hE (va_recv hK hP (ci := 1) (q0 := 1) rfl rfl)) rfl rfl hl.1 rfl (lv_room (Nat.le_of_ble_eq_true rfl)) dX2_count_56 ⟨Nat.zero_le _, Nat.zero_le _⟩) (fun H locs hP hD hS => ?_)
        obtain rfl := oi h
        exact ret_i hx hb hr hlocks hP hK hD hS dX2_count_59
      · have h := it_n c4 h
        by_cases c6 : w = 3
        · have h := it_p c6 h
          refine lv_tableIn (off := 53) (tgt := 60) hx hb dX2_count_7 (by rw [c6]; decide) (by rw [c6]; decide) (by rw [c6]; rfl) (by decide) ?_
          refine lv_aload_n hx hb dX2_count_60 rfl (lv_at hl 0 rfl) ?_
          refine va_get (D := D) (ci := 2) (v := .ref (bk 0)) (C := RX2) (T := TX2) (N := 8) hx hb htB inlX2 hown hK hP 0 rfl rfl 0 (by decide) (htB _ kw17) (fun _ h9 => h9) rfl dX2_count_61 ?_
          refine va_get (D := D) (ci := 1) (v := .int now.2.2.2.2.2.2.2.2.2) (C := RX1) (T := TX1) (N := 10) hx hb htB inlX1 hown hK hP 1 rfl rfl 9 (by decide) (htB _ kw501) (fun _ h9 => h9) rfl dX2_count_64 ?_
          obtain rfl := oi h
          exact ret_i hx hb hr hlocks hP hK hD hS dX2_count_67
        · have h := it_n c6 h
          refine lv_tableOut (tgt := 68) hx hb dX2_count_7 (tab_0_3 c2 c3 c4 c6) (by decide) ?_
          refine lv_aload_n hx hb dX2_count_68 rfl (lv_at hl 0 rfl) ?_
          refine va_get (D := D) (ci := 2) (v := .int bo.1) (C := RX2) (T := TX2) (N := 8) hx hb htB inlX2 hown hK hP 0 rfl rfl 4 (by decide) (htB _ kw24) (fun _ h9 => h9) rfl dX2_count_69 ?_
          obtain rfl := oi h
          exact ret_i hx hb hr hlocks hP hK hD hS dX2_count_72

theorem dX2_setting_0 : decode cX2_setting 0 = .ok (.iload_n 1, 1) := by decide +kernel
theorem dX2_setting_1 : decode cX2_setting 1 = .ok (.invokestatic 79, 3) := by decide +kernel
theorem dX2_setting_4 : decode cX2_setting 4 = .ok (.aload_n 0, 1) := by decide +kernel
theorem dX2_setting_5 : decode cX2_setting 5 = .ok (.getfield 10, 3) := by decide +kernel
theorem dX2_setting_8 : decode cX2_setting 8 = .ok (.getfield 89, 3) := by decide +kernel
theorem dX2_setting_11 : decode cX2_setting 11 = .ok (.iload_n 1, 1) := by decide +kernel
theorem dX2_setting_12 : decode cX2_setting 12 = .ok (.invokestatic 58, 3) := by decide +kernel
theorem dX2_setting_15 : decode cX2_setting 15 = .ok (.ireturn, 1) := by decide +kernel
abbrev zX2_setting : List Cond := .code yX2_setting cX2_setting 2 (some .int) :: BIG
def fX2_setting (bo : BoT) (now : ShT) (w : Int32) : Option (Nat ⊕ (Int32)) := tb (fX2_needSetting w) (fun r1 => (fX2_at 4 now.2.2.2.2.2.1 w).bind (fun r2 => some (.inr r2)))
set_option maxHeartbeats 4000000 in
set_option maxRecDepth 100000 in
theorem mtX2_setting (l : Launch) (D : va_G) (t : Nat → ClassId) (bh : Nat) (bk : Nat → Nat) (bo : BoT) (nb : Nat → Nat) (now : ShT) (w : Int32) (out : Int32) (h : fX2_setting bo now w = some (.inr out))  (sz : Nat) : Met l yX2_setting zX2_setting ({ frames := 2, cells := 0, slots := 0, locals := 41 }) (sPc D t (gBo bh bk bo ++ (gS t (bk 0) nb now)) sz [.ref bh, .int w]) (qI D t (gBo bh bk bo ++ (gS t (bk 0) nb now)) out (va_A (gBo bh bk bo ++ (gS t (bk 0) nb now)) sz)) 0 0 (va_A (gBo bh bk bo ++ (gS t (bk 0) nb now)) sz) := by
  refine met_of (Qf := fun A => qI D t (gBo bh bk bo ++ (gS t (bk 0) nb now)) out A) (cc := cX2_setting) (maxL := 2) (ret := some .int) (by decide) rfl (Nat.le_of_ble_eq_true rfl) ?_
  intro p e s m args below meth c A hx hb hr hml hts hown hlocks hA hP hK hD hE hS ls hl
  have htB : ∀ w ∈ BIG, w.before args s = true := fun w h => hts w (List.mem_cons_of_mem _ h)
  have hown : s.vm.findClass RX2 = some m.cls := hown
  have hl : lv_has ls 2 [(0, .ref bh), (1, .int w)] := hl
  unfold fX2_setting at h
  refine lv_iload_n hx hb dX2_setting_0 rfl (lv_at hl 1 rfl) ?_
  obtain ⟨r1, h1, h⟩ := tb_r h
  refine call_v (wc := ([] : va_W)) (wc' := ([] : va_W)) (ws' := (gBo bh bk bo ++ (gS t (bk 0) nb now))) (cutB (bs := [gBo bh bk bo, gS t (bk 0) nb now]) (cs := []) (cs' := []) (bs' := [gBo bh bk bo, gS t (bk 0) nb now]) [] hP hD hS hA rfl rfl rfl rfl) hS (fun hPc hDc => va_runS (As := [.int w]) (rest := []) ⟨hx, hb, hml, hown, hts⟩ (mtX2_needSetting l D t w r1 h1 _) (va_cwS 1 hts (gBS kw197 kw198 kw2 kw199) rfl rfl rfl (by decide +kernel) ⟨Nat.le_of_ble_eq_true rfl, Nat.le_of_ble_eq_true rfl⟩) (sPc_S hPc hK hDc hE) rfl rfl hl.1 rfl (lv_room (Nat.le_of_ble_eq_true rfl)) dX2_setting_1 ⟨Nat.zero_le _, Nat.zero_le _⟩) (fun H locs hP hD hS => ?_)
  refine lv_aload_n hx hb dX2_setting_4 rfl (lv_at hl 0 rfl) ?_
  refine va_get (D := D) (ci := 2) (v := .ref (bk 0)) (C := RX2) (T := TX2) (N := 8) hx hb htB inlX2 hown hK hP 0 rfl rfl 0 (by decide) (htB _ kw17) (fun _ h9 => h9) rfl dX2_setting_5 ?_
  refine va_get (D := D) (ci := 1) (v := .ref (nb 5)) (C := RX1) (T := TX1) (N := 10) hx hb htB inlX1 hown hK hP 1 rfl rfl 5 (by decide) (htB _ kw196) (fun _ h9 => h9) rfl dX2_setting_8 ?_
  refine lv_iload_n hx hb dX2_setting_11 rfl (lv_at hl 1 rfl) ?_
  obtain ⟨r2, h2, h⟩ := ob h
  refine call_i (v := r2) (wc := (gA t (nb 5) 4 now.2.2.2.2.2.1)) (wc' := (gA t (nb 5) 4 now.2.2.2.2.2.1)) (ws' := (gBo bh bk bo ++ (gS t (bk 0) nb now))) (cutI (wc := (gA t (nb 5) 4 now.2.2.2.2.2.1)) (wc' := (gA t (nb 5) 4 now.2.2.2.2.2.1)) (ws' := (gBo bh bk bo ++ (gS t (bk 0) nb now))) [7] hP hD hS hA rfl rfl rfl rfl) hS (fun hPc hDc => va_runS (As := [.ref (nb 5), .int w]) (rest := []) ⟨hx, hb, hml, hown, hts⟩ (mtX2_at l D t (nb 5) 4 now.2.2.2.2.2.1 w r2 h2 (by decide) _) (va_cwS 2 hts (gBS kw104 kw105 kw2 kw106) rfl rfl rfl (by decide +kernel) ⟨Nat.le_of_ble_eq_true rfl, Nat.le_of_ble_eq_true rfl⟩) (sPc_S hPc hK hDc hE) rfl rfl hl.1 rfl (lv_room (Nat.le_of_ble_eq_true rfl)) dX2_setting_12 ⟨Nat.zero_le _, Nat.zero_le _⟩) (fun H locs hP hD hS => ?_)
  obtain rfl := oi h
  exact ret_i hx hb hr hlocks hP hK hD hS dX2_setting_15

theorem dX2_bestCorrection_0 : decode cX2_bestCorrection 0 = .ok (.iload_n 1, 1) := by decide +kernel
theorem dX2_bestCorrection_1 : decode cX2_bestCorrection 1 = .ok (.invokestatic 73, 3) := by decide +kernel
theorem dX2_bestCorrection_4 : decode cX2_bestCorrection 4 = .ok (.aload_n 0, 1) := by decide +kernel
theorem dX2_bestCorrection_5 : decode cX2_bestCorrection 5 = .ok (.getfield 16, 3) := by decide +kernel
theorem dX2_bestCorrection_8 : decode cX2_bestCorrection 8 = .ok (.aload_n 0, 1) := by decide +kernel
theorem dX2_bestCorrection_9 : decode cX2_bestCorrection 9 = .ok (.getfield 10, 3) := by decide +kernel
theorem dX2_bestCorrection_12 : decode cX2_bestCorrection 12 = .ok (.invokevirtual 129, 3) := by decide +kernel
theorem dX2_bestCorrection_15 : decode cX2_bestCorrection 15 = .ok (.bipush (-50), 2) := by decide +kernel
theorem dX2_bestCorrection_17 : decode cX2_bestCorrection 17 = .ok (.istore_n 2, 1) := by decide +kernel
theorem dX2_bestCorrection_18 : decode cX2_bestCorrection 18 = .ok (.iconst (-1), 1) := by decide +kernel
theorem dX2_bestCorrection_19 : decode cX2_bestCorrection 19 = .ok (.istore_n 3, 1) := by decide +kernel
theorem dX2_bestCorrection_20 : decode cX2_bestCorrection 20 = .ok (.bipush (-50), 2) := by decide +kernel
theorem dX2_bestCorrection_22 : decode cX2_bestCorrection 22 = .ok (.istore 4, 2) := by decide +kernel
theorem dX2_bestCorrection_24 : decode cX2_bestCorrection 24 = .ok (.iload 4, 2) := by decide +kernel
theorem dX2_bestCorrection_26 : decode cX2_bestCorrection 26 = .ok (.bipush 50, 2) := by decide +kernel
theorem dX2_bestCorrection_28 : decode cX2_bestCorrection 28 = .ok (.if_icmp .gt 61, 3) := by decide +kernel
theorem dX2_bestCorrection_31 : decode cX2_bestCorrection 31 = .ok (.aload_n 0, 1) := by decide +kernel
theorem dX2_bestCorrection_32 : decode cX2_bestCorrection 32 = .ok (.getfield 16, 3) := by decide +kernel
theorem dX2_bestCorrection_35 : decode cX2_bestCorrection 35 = .ok (.getfield 76, 3) := by decide +kernel
theorem dX2_bestCorrection_38 : decode cX2_bestCorrection 38 = .ok (.iload_n 1, 1) := by decide +kernel
theorem dX2_bestCorrection_39 : decode cX2_bestCorrection 39 = .ok (.iload 4, 2) := by decide +kernel
theorem dX2_bestCorrection_41 : decode cX2_bestCorrection 41 = .ok (.invokestatic 62, 3) := by decide +kernel
theorem dX2_bestCorrection_44 : decode cX2_bestCorrection 44 = .ok (.aload_n 0, 1) := by decide +kernel
theorem dX2_bestCorrection_45 : decode cX2_bestCorrection 45 = .ok (.getfield 22, 3) := by decide +kernel
theorem dX2_bestCorrection_48 : decode cX2_bestCorrection 48 = .ok (.aload_n 0, 1) := by decide +kernel
theorem dX2_bestCorrection_49 : decode cX2_bestCorrection 49 = .ok (.getfield 16, 3) := by decide +kernel
theorem dX2_bestCorrection_52 : decode cX2_bestCorrection 52 = .ok (.iload_n 1, 1) := by decide +kernel
theorem dX2_bestCorrection_53 : decode cX2_bestCorrection 53 = .ok (.invokevirtual 143, 3) := by decide +kernel
theorem dX2_bestCorrection_56 : decode cX2_bestCorrection 56 = .ok (.iload_n 3, 1) := by decide +kernel
theorem dX2_bestCorrection_57 : decode cX2_bestCorrection 57 = .ok (.iconst (-1), 1) := by decide +kernel
theorem dX2_bestCorrection_58 : decode cX2_bestCorrection 58 = .ok (.if_icmp .eq 14, 3) := by decide +kernel
theorem dX2_bestCorrection_61 : decode cX2_bestCorrection 61 = .ok (.aload_n 0, 1) := by decide +kernel
theorem dX2_bestCorrection_62 : decode cX2_bestCorrection 62 = .ok (.getfield 22, 3) := by decide +kernel
theorem dX2_bestCorrection_65 : decode cX2_bestCorrection 65 = .ok (.getfield 194, 3) := by decide +kernel
theorem dX2_bestCorrection_68 : decode cX2_bestCorrection 68 = .ok (.iload_n 3, 1) := by decide +kernel
theorem dX2_bestCorrection_69 : decode cX2_bestCorrection 69 = .ok (.if_icmp .ge 14, 3) := by decide +kernel
theorem dX2_bestCorrection_72 : decode cX2_bestCorrection 72 = .ok (.aload_n 0, 1) := by decide +kernel
theorem dX2_bestCorrection_73 : decode cX2_bestCorrection 73 = .ok (.getfield 22, 3) := by decide +kernel
theorem dX2_bestCorrection_76 : decode cX2_bestCorrection 76 = .ok (.getfield 194, 3) := by decide +kernel
theorem dX2_bestCorrection_79 : decode cX2_bestCorrection 79 = .ok (.istore_n 3, 1) := by decide +kernel
theorem dX2_bestCorrection_80 : decode cX2_bestCorrection 80 = .ok (.iload 4, 2) := by decide +kernel
theorem dX2_bestCorrection_82 : decode cX2_bestCorrection 82 = .ok (.istore_n 2, 1) := by decide +kernel
theorem dX2_bestCorrection_83 : decode cX2_bestCorrection 83 = .ok (.iinc 4 1, 3) := by decide +kernel
theorem dX2_bestCorrection_86 : decode cX2_bestCorrection 86 = .ok (.goto (-62), 3) := by decide +kernel
theorem dX2_bestCorrection_89 : decode cX2_bestCorrection 89 = .ok (.iload_n 2, 1) := by decide +kernel
theorem dX2_bestCorrection_90 : decode cX2_bestCorrection 90 = .ok (.bipush 100, 2) := by decide +kernel
theorem dX2_bestCorrection_92 : decode cX2_bestCorrection 92 = .ok (.iadd, 1) := by decide +kernel
theorem dX2_bestCorrection_93 : decode cX2_bestCorrection 93 = .ok (.ireturn, 1) := by decide +kernel
abbrev zX2_bestCorrection : List Cond := .code yX2_bestCorrection cX2_bestCorrection 5 (some .int) :: BIG
def fX2_bestCorrection_l24 (bo : BoT) (now : ShT)  (K24 : (ShT × ExT × Int32 × Int32 × Int32 × Int32) → Option (Nat ⊕ (Int32 × ShT × ExT))) (v24 : ShT × ExT × Int32 × Int32 × Int32 × Int32) : Option (Nat ⊕ (Int32 × ShT × ExT)) := (if 50 < v24.2.2.2.2.2 then some (.inr (v24.2.2.2.1 + 100, v24.1, v24.2.1)) else (fX2_put 6 v24.1.2.2.2.2.1 v24.2.2.1 v24.2.2.2.2.2).bind (fun r4 => (fX0_expose v24.2.1 (v24.1.1, v24.1.2.1, v24.1.2.2.1, v24.1.2.2.2.1, r4, v24.1.2.2.2.2.2.1, v24.1.2.2.2.2.2.2.1, v24.1.2.2.2.2.2.2.2.1, v24.1.2.2.2.2.2.2.2.2.1, v24.1.2.2.2.2.2.2.2.2.2) v24.2.2.1).bind (fun r5 => (if v24.2.2.2.2.1 = (-1) then K24 ((v24.1.1, v24.1.2.1, v24.1.2.2.1, v24.1.2.2.2.1, r4, v24.1.2.2.2.2.2.1, v24.1.2.2.2.2.2.2.1, v24.1.2.2.2.2.2.2.2.1, v24.1.2.2.2.2.2.2.2.2.1, v24.1.2.2.2.2.2.2.2.2.2), r5, v24.2.2.1, v24.2.2.2.2.2, r5.2.2.2.2.2.2.1, v24.2.2.2.2.2 + 1) else (if v24.2.2.2.2.1 ≤ r5.2.2.2.2.2.2.1 then K24 ((v24.1.1, v24.1.2.1, v24.1.2.2.1, v24.1.2.2.2.1, r4, v24.1.2.2.2.2.2.1, v24.1.2.2.2.2.2.2.1, v24.1.2.2.2.2.2.2.2.1, v24.1.2.2.2.2.2.2.2.2.1, v24.1.2.2.2.2.2.2.2.2.2), r5, v24.2.2.1, v24.2.2.2.1, v24.2.2.2.2.1, v24.2.2.2.2.2 + 1) else K24 ((v24.1.1, v24.1.2.1, v24.1.2.2.1, v24.1.2.2.2.1, r4, v24.1.2.2.2.2.2.1, v24.1.2.2.2.2.2.2.1, v24.1.2.2.2.2.2.2.2.1, v24.1.2.2.2.2.2.2.2.2.1, v24.1.2.2.2.2.2.2.2.2.2), r5, v24.2.2.1, v24.2.2.2.2.2, r5.2.2.2.2.2.2.1, v24.2.2.2.2.2 + 1))))))
def fX2_bestCorrection (bo : BoT) (now : ShT) (pr : ShT) (ex : ExT) (v : Int32) : Option (Nat ⊕ (Int32 × ShT × ExT)) := tb (fX2_needSpeed v) (fun r1 => (fX1_become pr now).bind (fun r2 => lp (fX2_bestCorrection_l24 bo now) 2000 (r2, ex, v, (-50), (-1), (-50))))
set_option maxHeartbeats 4000000 in
set_option maxRecDepth 100000 in
theorem mtX2_bestCorrection (l : Launch) (D : va_G) (t : Nat → ClassId) (bh : Nat) (bk : Nat → Nat) (bo : BoT) (nb : Nat → Nat) (now : ShT) (pb : Nat → Nat) (pr : ShT) (eb : Nat → Nat) (ex : ExT) (v : Int32) (out : Int32 × ShT × ExT) (h : fX2_bestCorrection bo now pr ex v = some (.inr out))  (sz : Nat) : Met l yX2_bestCorrection zX2_bestCorrection ({ frames := 4, cells := 0, slots := 0, locals := 93 }) (sPc D t (gBo bh bk bo ++ (gS t (bk 0) nb now ++ (gS t (bk 1) pb pr ++ (gE t (bk 2) eb ex)))) sz [.ref bh, .int v]) (qI D t (gBo bh bk bo ++ (gS t (bk 0) nb now ++ (gS t (bk 1) pb out.2.1 ++ (gE t (bk 2) eb out.2.2)))) out.1 (va_A (gBo bh bk bo ++ (gS t (bk 0) nb now ++ (gS t (bk 1) pb pr ++ (gE t (bk 2) eb ex)))) sz)) 0 0 (va_A (gBo bh bk bo ++ (gS t (bk 0) nb now ++ (gS t (bk 1) pb pr ++ (gE t (bk 2) eb ex)))) sz) := by
  refine met_of (Qf := fun A => qI D t (gBo bh bk bo ++ (gS t (bk 0) nb now ++ (gS t (bk 1) pb out.2.1 ++ (gE t (bk 2) eb out.2.2)))) out.1 A) (cc := cX2_bestCorrection) (maxL := 5) (ret := some .int) (by decide) rfl (Nat.le_of_ble_eq_true rfl) ?_
  intro p e s m args below meth c A hx hb hr hml hts hown hlocks hA hP hK hD hE hS ls hl
  have htB : ∀ w ∈ BIG, w.before args s = true := fun w h => hts w (List.mem_cons_of_mem _ h)
  have hown : s.vm.findClass RX2 = some m.cls := hown
  have hl : lv_has ls 5 [(0, .ref bh), (1, .int v)] := hl
  unfold fX2_bestCorrection at h
  have J24 : ∀ (fu24 : Nat) (v24 : ShT × ExT × Int32 × Int32 × Int32 × Int32), lp (fX2_bestCorrection_l24 bo now) fu24 v24 = some (.inr out) → ∀ (H : Heap) (locs : List Loc), va_P D vwCl (gBo bh bk bo ++ (gS t (bk 0) nb now ++ (gS t (bk 1) pb v24.1 ++ (gE t (bk 2) eb v24.2.1)))) H → va_D A (gBo bh bk bo ++ (gS t (bk 0) nb now ++ (gS t (bk 1) pb v24.1 ++ (gE t (bk 2) eb v24.2.1)))) → va_S A s.heap H locs → ∀ ls : Array Slot, lv_has ls 5 [(0, .ref bh), (1, .int v24.2.2.1), (2, .int v24.2.2.2.1), (3, .int v24.2.2.2.2.1), (4, .int v24.2.2.2.2.2)] → W p l e ({ frames := 4, cells := 0, slots := 0, locals := 93 }) s m args below meth c H locs 0 0 (MQ below (qI D t (gBo bh bk bo ++ (gS t (bk 0) nb now ++ (gS t (bk 1) pb out.2.1 ++ (gE t (bk 2) eb out.2.2)))) out.1 A) args s 0 0 A) (F0 m 24 ls []) := by
    intro fu24
    induction fu24 with
    | zero => intro v24 h; cases h
    | succ fu24 ih24 =>
      intro v24 h H locs hP hD hS ls hl
      have h : fX2_bestCorrection_l24 bo now (lp (fX2_bestCorrection_l24 bo now) fu24) v24 = some (.inr out) := h
      unfold fX2_bestCorrection_l24 at h
      refine lv_iload hx hb dX2_bestCorrection_24 (lv_at hl 4 rfl) ?_
      refine lv_bipush (v := 50) hx hb dX2_bestCorrection_26 (by decide) ?_
      refine lv_icmp_gt (tgt := 89) hx hb dX2_bestCorrection_28 (by decide) (fun c3 => ?_) (fun c3 => ?_)
      · have h := it_p c3 h
        refine lv_iload_n hx hb dX2_bestCorrection_89 rfl (lv_at hl 2 rfl) ?_
        refine lv_bipush (v := 100) hx hb dX2_bestCorrection_90 (by decide) ?_
        refine lv_iadd hx hb dX2_bestCorrection_92 ?_
        obtain rfl := oi h
        exact ret_i hx hb hr hlocks hP hK hD hS dX2_bestCorrection_93
      · have h := it_n c3 h
        refine lv_aload_n hx hb dX2_bestCorrection_31 rfl (lv_at hl 0 rfl) ?_
        refine va_get (D := D) (ci := 2) (v := .ref (bk 1)) (C := RX2) (T := TX2) (N := 8) hx hb htB inlX2 hown hK hP 0 rfl rfl 1 (by decide) (htB _ kw18) (fun _ h9 => h9) rfl dX2_bestCorrection_32 ?_
        refine va_get (D := D) (ci := 1) (v := .ref (pb 4)) (C := RX1) (T := TX1) (N := 10) hx hb htB inlX1 hown hK hP 9 rfl rfl 4 (by decide) (htB _ kw178) (fun _ h9 => h9) rfl dX2_bestCorrection_35 ?_
        refine lv_iload_n hx hb dX2_bestCorrection_38 rfl (lv_at hl 1 rfl) ?_
        refine lv_iload hx hb dX2_bestCorrection_39 (lv_at hl 4 rfl) ?_
        obtain ⟨r4, h4, h⟩ := ob h
        refine call_v (wc := (gA t (pb 4) 6 v24.1.2.2.2.2.1)) (wc' := (gA t (pb 4) 6 r4)) (ws' := (gBo bh bk bo ++ (gS t (bk 0) nb now ++ (gS t (bk 1) pb (v24.1.1, v24.1.2.1, v24.1.2.2.1, v24.1.2.2.2.1, r4, v24.1.2.2.2.2.2.1, v24.1.2.2.2.2.2.2.1, v24.1.2.2.2.2.2.2.2.1, v24.1.2.2.2.2.2.2.2.2.1, v24.1.2.2.2.2.2.2.2.2.2) ++ (gE t (bk 2) eb v24.2.1))))) (cutI (wc := (gA t (pb 4) 6 v24.1.2.2.2.2.1)) (wc' := (gA t (pb 4) 6 r4)) (ws' := (gBo bh bk bo ++ (gS t (bk 0) nb now ++ (gS t (bk 1) pb (v24.1.1, v24.1.2.1, v24.1.2.2.1, v24.1.2.2.2.1, r4, v24.1.2.2.2.2.2.1, v24.1.2.2.2.2.2.2.1, v24.1.2.2.2.2.2.2.2.1, v24.1.2.2.2.2.2.2.2.2.1, v24.1.2.2.2.2.2.2.2.2.2) ++ (gE t (bk 2) eb v24.2.1))))) [14] hP hD hS hA rfl rfl rfl rfl) hS (fun hPc hDc => va_runS (As := [.ref (pb 4), .int v24.2.2.1, .int v24.2.2.2.2.2]) (rest := []) ⟨hx, hb, hml, hown, hts⟩ (mtX2_put l D t (pb 4) 6 v24.1.2.2.2.2.1 v24.2.2.1 v24.2.2.2.2.2 r4 h4 (by decide) _) (va_cwS 3 hts (gBS kw107 kw108 kw2 kw109) rfl rfl rfl (by decide +kernel) ⟨Nat.le_of_ble_eq_true rfl, Nat.le_of_ble_eq_true rfl⟩) (sPc_S hPc hK hDc hE) rfl rfl hl.1 rfl (lv_room (Nat.le_of_ble_eq_true rfl)) dX2_bestCorrection_41 ⟨Nat.zero_le _, Nat.zero_le _⟩) (fun H locs hP hD hS => ?_)
        refine lv_aload_n hx hb dX2_bestCorrection_44 rfl (lv_at hl 0 rfl) ?_
        refine va_get (D := D) (ci := 2) (v := .ref (bk 2)) (C := RX2) (T := TX2) (N := 8) hx hb htB inlX2 hown hK hP 0 rfl rfl 2 (by decide) (htB _ kw22) (fun _ h9 => h9) rfl dX2_bestCorrection_45 ?_
        refine lv_aload_n hx hb dX2_bestCorrection_48 rfl (lv_at hl 0 rfl) ?_
        refine va_get (D := D) (ci := 2) (v := .ref (bk 1)) (C := RX2) (T := TX2) (N := 8) hx hb htB inlX2 hown hK hP 0 rfl rfl 1 (by decide) (htB _ kw18) (fun _ h9 => h9) rfl dX2_bestCorrection_49 ?_
        refine lv_iload_n hx hb dX2_bestCorrection_52 rfl (lv_at hl 1 rfl) ?_
        obtain ⟨r5, h5, h⟩ := ob h
        refine call_v (wc := (gE t (bk 2) eb v24.2.1 ++ (gS t (bk 1) pb (v24.1.1, v24.1.2.1, v24.1.2.2.1, v24.1.2.2.2.1, r4, v24.1.2.2.2.2.2.1, v24.1.2.2.2.2.2.2.1, v24.1.2.2.2.2.2.2.2.1, v24.1.2.2.2.2.2.2.2.2.1, v24.1.2.2.2.2.2.2.2.2.2)))) (wc' := (gE t (bk 2) eb r5 ++ (gS t (bk 1) pb (v24.1.1, v24.1.2.1, v24.1.2.2.1, v24.1.2.2.2.1, r4, v24.1.2.2.2.2.2.1, v24.1.2.2.2.2.2.2.1, v24.1.2.2.2.2.2.2.2.1, v24.1.2.2.2.2.2.2.2.2.1, v24.1.2.2.2.2.2.2.2.2.2)))) (ws' := (gBo bh bk bo ++ (gS t (bk 0) nb now ++ (gS t (bk 1) pb (v24.1.1, v24.1.2.1, v24.1.2.2.1, v24.1.2.2.2.1, r4, v24.1.2.2.2.2.2.1, v24.1.2.2.2.2.2.2.1, v24.1.2.2.2.2.2.2.2.1, v24.1.2.2.2.2.2.2.2.2.1, v24.1.2.2.2.2.2.2.2.2.2) ++ (gE t (bk 2) eb r5))))) (cutB (bs := [gBo bh bk bo, gS t (bk 0) nb now, gS t (bk 1) pb (v24.1.1, v24.1.2.1, v24.1.2.2.1, v24.1.2.2.2.1, r4, v24.1.2.2.2.2.2.1, v24.1.2.2.2.2.2.2.1, v24.1.2.2.2.2.2.2.2.1, v24.1.2.2.2.2.2.2.2.2.1, v24.1.2.2.2.2.2.2.2.2.2), gE t (bk 2) eb v24.2.1]) (cs := [gE t (bk 2) eb v24.2.1, gS t (bk 1) pb (v24.1.1, v24.1.2.1, v24.1.2.2.1, v24.1.2.2.2.1, r4, v24.1.2.2.2.2.2.1, v24.1.2.2.2.2.2.2.1, v24.1.2.2.2.2.2.2.2.1, v24.1.2.2.2.2.2.2.2.2.1, v24.1.2.2.2.2.2.2.2.2.2)]) (cs' := [gE t (bk 2) eb r5, gS t (bk 1) pb (v24.1.1, v24.1.2.1, v24.1.2.2.1, v24.1.2.2.2.1, r4, v24.1.2.2.2.2.2.1, v24.1.2.2.2.2.2.2.1, v24.1.2.2.2.2.2.2.2.1, v24.1.2.2.2.2.2.2.2.2.1, v24.1.2.2.2.2.2.2.2.2.2)]) (bs' := [gBo bh bk bo, gS t (bk 0) nb now, gS t (bk 1) pb (v24.1.1, v24.1.2.1, v24.1.2.2.1, v24.1.2.2.2.1, r4, v24.1.2.2.2.2.2.1, v24.1.2.2.2.2.2.2.1, v24.1.2.2.2.2.2.2.2.1, v24.1.2.2.2.2.2.2.2.2.1, v24.1.2.2.2.2.2.2.2.2.2), gE t (bk 2) eb r5]) [3, 2] hP hD hS hA rfl rfl rfl rfl) hS (fun hPc hDc => va_runV (As := [.ref (bk 1), .int v24.2.2.1]) (rest := []) ⟨hx, hb, hml, hown, hts⟩ (mtX0_expose l D t (bk 2) eb v24.2.1 (bk 1) pb (v24.1.1, v24.1.2.1, v24.1.2.2.1, v24.1.2.2.2.1, r4, v24.1.2.2.2.2.2.1, v24.1.2.2.2.2.2.2.1, v24.1.2.2.2.2.2.2.2.1, v24.1.2.2.2.2.2.2.2.2.1, v24.1.2.2.2.2.2.2.2.2.2) v24.2.2.1 r5 h5 _) (cwV 2 hts (gBV kw224 kw225 kw226 kw21 kw227) rfl rfl rfl (by decide +kernel) ⟨Nat.le_of_ble_eq_true rfl, Nat.le_of_ble_eq_true rfl⟩) (sPc_V hPc hK hDc hE (va_recv hK hP (ci := 0) (q0 := 17) rfl rfl)) rfl rfl hl.1 rfl (lv_room (Nat.le_of_ble_eq_true rfl)) dX2_bestCorrection_53 ⟨Nat.zero_le _, Nat.zero_le _⟩) (fun H locs hP hD hS => ?_)
        refine lv_iload_n hx hb dX2_bestCorrection_56 rfl (lv_at hl 3 rfl) ?_
        refine lv_iconst (v := (-1)) hx hb dX2_bestCorrection_57 (by decide) ?_
        refine lv_icmp_eq (tgt := 72) hx hb dX2_bestCorrection_58 (by decide) (fun c6 => ?_) (fun c6 => ?_)
        · have h := it_p c6 h
          refine lv_aload_n hx hb dX2_bestCorrection_72 rfl (lv_at hl 0 rfl) ?_
          refine va_get (D := D) (ci := 2) (v := .ref (bk 2)) (C := RX2) (T := TX2) (N := 8) hx hb htB inlX2 hown hK hP 0 rfl rfl 2 (by decide) (htB _ kw22) (fun _ h9 => h9) rfl dX2_bestCorrection_73 ?_
          refine va_get (D := D) (ci := 0) (v := .int r5.2.2.2.2.2.2.1) (C := RX0) (T := TX0) (N := 10) hx hb htB inlX0 hown hK hP 17 rfl rfl 6 (by decide) (htB _ kw529) (fun _ h9 => h9) rfl dX2_bestCorrection_76 ?_
          refine lv_istore_n (lv' := [(3, .int r5.2.2.2.2.2.2.1), (0, .ref bh), (1, .int v24.2.2.1), (2, .int v24.2.2.2.1), (4, .int v24.2.2.2.2.2)]) hx hb dX2_bestCorrection_79 rfl hl (by decide) rfl (fun ls hl => ?_)
          refine lv_iload hx hb dX2_bestCorrection_80 (lv_at hl 4 rfl) ?_
          refine lv_istore_n (lv' := [(2, .int v24.2.2.2.2.2), (3, .int r5.2.2.2.2.2.2.1), (0, .ref bh), (1, .int v24.2.2.1), (4, .int v24.2.2.2.2.2)]) hx hb dX2_bestCorrection_82 rfl hl (by decide) rfl (fun ls hl => ?_)
          refine lv_iinc (v := v24.2.2.2.2.2 + 1) (lv' := [(4, .int (v24.2.2.2.2.2 + 1)), (2, .int v24.2.2.2.2.2), (3, .int r5.2.2.2.2.2.2.1), (0, .ref bh), (1, .int v24.2.2.1)]) hx hb dX2_bestCorrection_83 hl (k := 4) rfl rfl (by decide) rfl (fun ls hl => ?_)
          refine lv_goto (tgt := 24) hx hb dX2_bestCorrection_86 (by decide) ?_
          exact ih24 ((v24.1.1, v24.1.2.1, v24.1.2.2.1, v24.1.2.2.2.1, r4, v24.1.2.2.2.2.2.1, v24.1.2.2.2.2.2.2.1, v24.1.2.2.2.2.2.2.2.1, v24.1.2.2.2.2.2.2.2.2.1, v24.1.2.2.2.2.2.2.2.2.2), r5, v24.2.2.1, v24.2.2.2.2.2, r5.2.2.2.2.2.2.1, v24.2.2.2.2.2 + 1) h _ _ hP hD hS _ (lv_sub hl [3, 4, 1, 2, 0] rfl)
        · have h := it_n c6 h
          refine lv_aload_n hx hb dX2_bestCorrection_61 rfl (lv_at hl 0 rfl) ?_
          refine va_get (D := D) (ci := 2) (v := .ref (bk 2)) (C := RX2) (T := TX2) (N := 8) hx hb htB inlX2 hown hK hP 0 rfl rfl 2 (by decide) (htB _ kw22) (fun _ h9 => h9) rfl dX2_bestCorrection_62 ?_
          refine va_get (D := D) (ci := 0) (v := .int r5.2.2.2.2.2.2.1) (C := RX0) (T := TX0) (N := 10) hx hb htB inlX0 hown hK hP 17 rfl rfl 6 (by decide) (htB _ kw529) (fun _ h9 => h9) rfl dX2_bestCorrection_65 ?_
          refine lv_iload_n hx hb dX2_bestCorrection_68 rfl (lv_at hl 3 rfl) ?_
          refine lv_icmp_ge (tgt := 83) hx hb dX2_bestCorrection_69 (by decide) (fun c7 => ?_) (fun c7 => ?_)
          · have h := it_p c7 h
            refine lv_iinc (v := v24.2.2.2.2.2 + 1) (lv' := [(4, .int (v24.2.2.2.2.2 + 1)), (0, .ref bh), (1, .int v24.2.2.1), (2, .int v24.2.2.2.1), (3, .int v24.2.2.2.2.1)]) hx hb dX2_bestCorrection_83 hl (k := 4) rfl rfl (by decide) rfl (fun ls hl => ?_)
            refine lv_goto (tgt := 24) hx hb dX2_bestCorrection_86 (by decide) ?_
            exact ih24 ((v24.1.1, v24.1.2.1, v24.1.2.2.1, v24.1.2.2.2.1, r4, v24.1.2.2.2.2.2.1, v24.1.2.2.2.2.2.2.1, v24.1.2.2.2.2.2.2.2.1, v24.1.2.2.2.2.2.2.2.2.1, v24.1.2.2.2.2.2.2.2.2.2), r5, v24.2.2.1, v24.2.2.2.1, v24.2.2.2.2.1, v24.2.2.2.2.2 + 1) h _ _ hP hD hS _ (lv_sub hl [1, 2, 3, 4, 0] rfl)
          · have h := it_n c7 h
            refine lv_aload_n hx hb dX2_bestCorrection_72 rfl (lv_at hl 0 rfl) ?_
            refine va_get (D := D) (ci := 2) (v := .ref (bk 2)) (C := RX2) (T := TX2) (N := 8) hx hb htB inlX2 hown hK hP 0 rfl rfl 2 (by decide) (htB _ kw22) (fun _ h9 => h9) rfl dX2_bestCorrection_73 ?_
            refine va_get (D := D) (ci := 0) (v := .int r5.2.2.2.2.2.2.1) (C := RX0) (T := TX0) (N := 10) hx hb htB inlX0 hown hK hP 17 rfl rfl 6 (by decide) (htB _ kw529) (fun _ h9 => h9) rfl dX2_bestCorrection_76 ?_
            refine lv_istore_n (lv' := [(3, .int r5.2.2.2.2.2.2.1), (0, .ref bh), (1, .int v24.2.2.1), (2, .int v24.2.2.2.1), (4, .int v24.2.2.2.2.2)]) hx hb dX2_bestCorrection_79 rfl hl (by decide) rfl (fun ls hl => ?_)
            refine lv_iload hx hb dX2_bestCorrection_80 (lv_at hl 4 rfl) ?_
            refine lv_istore_n (lv' := [(2, .int v24.2.2.2.2.2), (3, .int r5.2.2.2.2.2.2.1), (0, .ref bh), (1, .int v24.2.2.1), (4, .int v24.2.2.2.2.2)]) hx hb dX2_bestCorrection_82 rfl hl (by decide) rfl (fun ls hl => ?_)
            refine lv_iinc (v := v24.2.2.2.2.2 + 1) (lv' := [(4, .int (v24.2.2.2.2.2 + 1)), (2, .int v24.2.2.2.2.2), (3, .int r5.2.2.2.2.2.2.1), (0, .ref bh), (1, .int v24.2.2.1)]) hx hb dX2_bestCorrection_83 hl (k := 4) rfl rfl (by decide) rfl (fun ls hl => ?_)
            refine lv_goto (tgt := 24) hx hb dX2_bestCorrection_86 (by decide) ?_
            exact ih24 ((v24.1.1, v24.1.2.1, v24.1.2.2.1, v24.1.2.2.2.1, r4, v24.1.2.2.2.2.2.1, v24.1.2.2.2.2.2.2.1, v24.1.2.2.2.2.2.2.2.1, v24.1.2.2.2.2.2.2.2.2.1, v24.1.2.2.2.2.2.2.2.2.2), r5, v24.2.2.1, v24.2.2.2.2.2, r5.2.2.2.2.2.2.1, v24.2.2.2.2.2 + 1) h _ _ hP hD hS _ (lv_sub hl [3, 4, 1, 2, 0] rfl)
  refine lv_iload_n hx hb dX2_bestCorrection_0 rfl (lv_at hl 1 rfl) ?_
  obtain ⟨r1, h1, h⟩ := tb_r h
  refine call_v (wc := ([] : va_W)) (wc' := ([] : va_W)) (ws' := (gBo bh bk bo ++ (gS t (bk 0) nb now ++ (gS t (bk 1) pb pr ++ (gE t (bk 2) eb ex))))) (cutB (bs := [gBo bh bk bo, gS t (bk 0) nb now, gS t (bk 1) pb pr, gE t (bk 2) eb ex]) (cs := []) (cs' := []) (bs' := [gBo bh bk bo, gS t (bk 0) nb now, gS t (bk 1) pb pr, gE t (bk 2) eb ex]) [] hP hD hS hA rfl rfl rfl rfl) hS (fun hPc hDc => va_runS (As := [.int v]) (rest := []) ⟨hx, hb, hml, hown, hts⟩ (mtX2_needSpeed l D t v r1 h1 _) (va_cwS 1 hts (gBS kw179 kw180 kw2 kw181) rfl rfl rfl (by decide +kernel) ⟨Nat.le_of_ble_eq_true rfl, Nat.le_of_ble_eq_true rfl⟩) (sPc_S hPc hK hDc hE) rfl rfl hl.1 rfl (lv_room (Nat.le_of_ble_eq_true rfl)) dX2_bestCorrection_1 ⟨Nat.zero_le _, Nat.zero_le _⟩) (fun H locs hP hD hS => ?_)
  refine lv_aload_n hx hb dX2_bestCorrection_4 rfl (lv_at hl 0 rfl) ?_
  refine va_get (D := D) (ci := 2) (v := .ref (bk 1)) (C := RX2) (T := TX2) (N := 8) hx hb htB inlX2 hown hK hP 0 rfl rfl 1 (by decide) (htB _ kw18) (fun _ h9 => h9) rfl dX2_bestCorrection_5 ?_
  refine lv_aload_n hx hb dX2_bestCorrection_8 rfl (lv_at hl 0 rfl) ?_
  refine va_get (D := D) (ci := 2) (v := .ref (bk 0)) (C := RX2) (T := TX2) (N := 8) hx hb htB inlX2 hown hK hP 0 rfl rfl 0 (by decide) (htB _ kw17) (fun _ h9 => h9) rfl dX2_bestCorrection_9 ?_
  obtain ⟨r2, h2, h⟩ := ob h
  refine call_v (wc := (gS t (bk 1) pb pr ++ (gS t (bk 0) nb now))) (wc' := (gS t (bk 1) pb r2 ++ (gS t (bk 0) nb now))) (ws' := (gBo bh bk bo ++ (gS t (bk 0) nb now ++ (gS t (bk 1) pb r2 ++ (gE t (bk 2) eb ex))))) (cutB (bs := [gBo bh bk bo, gS t (bk 0) nb now, gS t (bk 1) pb pr, gE t (bk 2) eb ex]) (cs := [gS t (bk 1) pb pr, gS t (bk 0) nb now]) (cs' := [gS t (bk 1) pb r2, gS t (bk 0) nb now]) (bs' := [gBo bh bk bo, gS t (bk 0) nb now, gS t (bk 1) pb r2, gE t (bk 2) eb ex]) [2, 1] hP hD hS hA rfl rfl rfl rfl) hS (fun hPc hDc => va_runV (As := [.ref (bk 0)]) (rest := []) ⟨hx, hb, hml, hown, hts⟩ (mtX1_become l D t (bk 1) pb pr (bk 0) nb now r2 h2 _) (cwV 1 hts (gBV kw98 kw99 kw100 kw16 kw101) rfl rfl rfl (by decide +kernel) ⟨Nat.le_of_ble_eq_true rfl, Nat.le_of_ble_eq_true rfl⟩) (sPc_V hPc hK hDc hE (va_recv hK hP (ci := 1) (q0 := 9) rfl rfl)) rfl rfl hl.1 rfl (lv_room (Nat.le_of_ble_eq_true rfl)) dX2_bestCorrection_12 ⟨Nat.zero_le _, Nat.zero_le _⟩) (fun H locs hP hD hS => ?_)
  refine lv_bipush (v := (-50)) hx hb dX2_bestCorrection_15 (by decide) ?_
  refine lv_istore_n (lv' := [(2, .int (-50)), (0, .ref bh), (1, .int v)]) hx hb dX2_bestCorrection_17 rfl hl (by decide) rfl (fun ls hl => ?_)
  refine lv_iconst (v := (-1)) hx hb dX2_bestCorrection_18 (by decide) ?_
  refine lv_istore_n (lv' := [(3, .int (-1)), (2, .int (-50)), (0, .ref bh), (1, .int v)]) hx hb dX2_bestCorrection_19 rfl hl (by decide) rfl (fun ls hl => ?_)
  refine lv_bipush (v := (-50)) hx hb dX2_bestCorrection_20 (by decide) ?_
  refine lv_istore (lv' := [(4, .int (-50)), (3, .int (-1)), (2, .int (-50)), (0, .ref bh), (1, .int v)]) hx hb dX2_bestCorrection_22 hl (by decide) rfl (fun ls hl => ?_)
  exact J24 2000 (r2, ex, v, (-50), (-1), (-50)) h _ _ hP hD hS _ (lv_sub hl [3, 4, 2, 1, 0] rfl)

theorem dX2_bestSpring_0 : decode cX2_bestSpring 0 = .ok (.iload_n 1, 1) := by decide +kernel
theorem dX2_bestSpring_1 : decode cX2_bestSpring 1 = .ok (.invokestatic 44, 3) := by decide +kernel
theorem dX2_bestSpring_4 : decode cX2_bestSpring 4 = .ok (.iload_n 2, 1) := by decide +kernel
theorem dX2_bestSpring_5 : decode cX2_bestSpring 5 = .ok (.invokestatic 73, 3) := by decide +kernel
theorem dX2_bestSpring_8 : decode cX2_bestSpring 8 = .ok (.aload_n 0, 1) := by decide +kernel
theorem dX2_bestSpring_9 : decode cX2_bestSpring 9 = .ok (.getfield 16, 3) := by decide +kernel
theorem dX2_bestSpring_12 : decode cX2_bestSpring 12 = .ok (.aload_n 0, 1) := by decide +kernel
theorem dX2_bestSpring_13 : decode cX2_bestSpring 13 = .ok (.getfield 10, 3) := by decide +kernel
theorem dX2_bestSpring_16 : decode cX2_bestSpring 16 = .ok (.invokevirtual 129, 3) := by decide +kernel
theorem dX2_bestSpring_19 : decode cX2_bestSpring 19 = .ok (.iconst 1, 1) := by decide +kernel
theorem dX2_bestSpring_20 : decode cX2_bestSpring 20 = .ok (.istore_n 3, 1) := by decide +kernel
theorem dX2_bestSpring_21 : decode cX2_bestSpring 21 = .ok (.iconst (-1), 1) := by decide +kernel
theorem dX2_bestSpring_22 : decode cX2_bestSpring 22 = .ok (.istore 4, 2) := by decide +kernel
theorem dX2_bestSpring_24 : decode cX2_bestSpring 24 = .ok (.iconst 1, 1) := by decide +kernel
theorem dX2_bestSpring_25 : decode cX2_bestSpring 25 = .ok (.istore 5, 2) := by decide +kernel
theorem dX2_bestSpring_27 : decode cX2_bestSpring 27 = .ok (.iload 5, 2) := by decide +kernel
theorem dX2_bestSpring_29 : decode cX2_bestSpring 29 = .ok (.bipush 99, 2) := by decide +kernel
theorem dX2_bestSpring_31 : decode cX2_bestSpring 31 = .ok (.if_icmp .gt 64, 3) := by decide +kernel
theorem dX2_bestSpring_34 : decode cX2_bestSpring 34 = .ok (.aload_n 0, 1) := by decide +kernel
theorem dX2_bestSpring_35 : decode cX2_bestSpring 35 = .ok (.getfield 16, 3) := by decide +kernel
theorem dX2_bestSpring_38 : decode cX2_bestSpring 38 = .ok (.getfield 55, 3) := by decide +kernel
theorem dX2_bestSpring_41 : decode cX2_bestSpring 41 = .ok (.iload_n 1, 1) := by decide +kernel
theorem dX2_bestSpring_42 : decode cX2_bestSpring 42 = .ok (.iload 5, 2) := by decide +kernel
theorem dX2_bestSpring_44 : decode cX2_bestSpring 44 = .ok (.invokestatic 62, 3) := by decide +kernel
theorem dX2_bestSpring_47 : decode cX2_bestSpring 47 = .ok (.aload_n 0, 1) := by decide +kernel
theorem dX2_bestSpring_48 : decode cX2_bestSpring 48 = .ok (.getfield 22, 3) := by decide +kernel
theorem dX2_bestSpring_51 : decode cX2_bestSpring 51 = .ok (.aload_n 0, 1) := by decide +kernel
theorem dX2_bestSpring_52 : decode cX2_bestSpring 52 = .ok (.getfield 16, 3) := by decide +kernel
theorem dX2_bestSpring_55 : decode cX2_bestSpring 55 = .ok (.iload_n 2, 1) := by decide +kernel
theorem dX2_bestSpring_56 : decode cX2_bestSpring 56 = .ok (.invokevirtual 143, 3) := by decide +kernel
theorem dX2_bestSpring_59 : decode cX2_bestSpring 59 = .ok (.iload 4, 2) := by decide +kernel
theorem dX2_bestSpring_61 : decode cX2_bestSpring 61 = .ok (.iconst (-1), 1) := by decide +kernel
theorem dX2_bestSpring_62 : decode cX2_bestSpring 62 = .ok (.if_icmp .eq 15, 3) := by decide +kernel
theorem dX2_bestSpring_65 : decode cX2_bestSpring 65 = .ok (.aload_n 0, 1) := by decide +kernel
theorem dX2_bestSpring_66 : decode cX2_bestSpring 66 = .ok (.getfield 22, 3) := by decide +kernel
theorem dX2_bestSpring_69 : decode cX2_bestSpring 69 = .ok (.invokevirtual 96, 3) := by decide +kernel
theorem dX2_bestSpring_72 : decode cX2_bestSpring 72 = .ok (.iload 4, 2) := by decide +kernel
theorem dX2_bestSpring_74 : decode cX2_bestSpring 74 = .ok (.if_icmp .ge 15, 3) := by decide +kernel
theorem dX2_bestSpring_77 : decode cX2_bestSpring 77 = .ok (.aload_n 0, 1) := by decide +kernel
theorem dX2_bestSpring_78 : decode cX2_bestSpring 78 = .ok (.getfield 22, 3) := by decide +kernel
theorem dX2_bestSpring_81 : decode cX2_bestSpring 81 = .ok (.invokevirtual 96, 3) := by decide +kernel
theorem dX2_bestSpring_84 : decode cX2_bestSpring 84 = .ok (.istore 4, 2) := by decide +kernel
theorem dX2_bestSpring_86 : decode cX2_bestSpring 86 = .ok (.iload 5, 2) := by decide +kernel
theorem dX2_bestSpring_88 : decode cX2_bestSpring 88 = .ok (.istore_n 3, 1) := by decide +kernel
theorem dX2_bestSpring_89 : decode cX2_bestSpring 89 = .ok (.iinc 5 1, 3) := by decide +kernel
theorem dX2_bestSpring_92 : decode cX2_bestSpring 92 = .ok (.goto (-65), 3) := by decide +kernel
theorem dX2_bestSpring_95 : decode cX2_bestSpring 95 = .ok (.iload_n 3, 1) := by decide +kernel
theorem dX2_bestSpring_96 : decode cX2_bestSpring 96 = .ok (.ireturn, 1) := by decide +kernel
abbrev zX2_bestSpring : List Cond := .code yX2_bestSpring cX2_bestSpring 6 (some .int) :: BIG
def fX2_bestSpring_j77 (bo : BoT) (now : ShT) (K27 : (ShT × ExT × Int32 × Int32 × Int32 × Int32 × Int32) → Option (Nat ⊕ (Int32 × ShT × ExT))) (v77 : ShT × ExT × Int32 × Int32 × Int32) : Option (Nat ⊕ (Int32 × ShT × ExT)) := (fX0_spread v77.2.1).bind (fun r10 => K27 (v77.1, v77.2.1, v77.2.2.1, v77.2.2.2.1, v77.2.2.2.2, r10, v77.2.2.2.2 + 1))
def fX2_bestSpring_l27 (bo : BoT) (now : ShT)  (K27 : (ShT × ExT × Int32 × Int32 × Int32 × Int32 × Int32) → Option (Nat ⊕ (Int32 × ShT × ExT))) (v27 : ShT × ExT × Int32 × Int32 × Int32 × Int32 × Int32) : Option (Nat ⊕ (Int32 × ShT × ExT)) := (if 99 < v27.2.2.2.2.2.2 then some (.inr (v27.2.2.2.2.1, v27.1, v27.2.1)) else (fX2_put 2 v27.1.1 v27.2.2.1 v27.2.2.2.2.2.2).bind (fun r5 => (fX0_expose v27.2.1 (r5, v27.1.2.1, v27.1.2.2.1, v27.1.2.2.2.1, v27.1.2.2.2.2.1, v27.1.2.2.2.2.2.1, v27.1.2.2.2.2.2.2.1, v27.1.2.2.2.2.2.2.2.1, v27.1.2.2.2.2.2.2.2.2.1, v27.1.2.2.2.2.2.2.2.2.2) v27.2.2.2.1).bind (fun r6 => (if v27.2.2.2.2.2.1 = (-1) then fX2_bestSpring_j77 bo now K27 ((r5, v27.1.2.1, v27.1.2.2.1, v27.1.2.2.2.1, v27.1.2.2.2.2.1, v27.1.2.2.2.2.2.1, v27.1.2.2.2.2.2.2.1, v27.1.2.2.2.2.2.2.2.1, v27.1.2.2.2.2.2.2.2.2.1, v27.1.2.2.2.2.2.2.2.2.2), r6, v27.2.2.1, v27.2.2.2.1, v27.2.2.2.2.2.2) else (fX0_spread r6).bind (fun r8 => (if v27.2.2.2.2.2.1 ≤ r8 then K27 ((r5, v27.1.2.1, v27.1.2.2.1, v27.1.2.2.2.1, v27.1.2.2.2.2.1, v27.1.2.2.2.2.2.1, v27.1.2.2.2.2.2.2.1, v27.1.2.2.2.2.2.2.2.1, v27.1.2.2.2.2.2.2.2.2.1, v27.1.2.2.2.2.2.2.2.2.2), r6, v27.2.2.1, v27.2.2.2.1, v27.2.2.2.2.1, v27.2.2.2.2.2.1, v27.2.2.2.2.2.2 + 1) else fX2_bestSpring_j77 bo now K27 ((r5, v27.1.2.1, v27.1.2.2.1, v27.1.2.2.2.1, v27.1.2.2.2.2.1, v27.1.2.2.2.2.2.1, v27.1.2.2.2.2.2.2.1, v27.1.2.2.2.2.2.2.2.1, v27.1.2.2.2.2.2.2.2.2.1, v27.1.2.2.2.2.2.2.2.2.2), r6, v27.2.2.1, v27.2.2.2.1, v27.2.2.2.2.2.2)))))))
def fX2_bestSpring (bo : BoT) (now : ShT) (pr : ShT) (ex : ExT) (cu : Int32) (v : Int32) : Option (Nat ⊕ (Int32 × ShT × ExT)) := tb (fX2_needCurtain cu) (fun r1 => tb (fX2_needSpeed v) (fun r2 => (fX1_become pr now).bind (fun r3 => lp (fX2_bestSpring_l27 bo now) 2000 (r3, ex, cu, v, 1, (-1), 1))))
set_option maxHeartbeats 4000000 in
set_option maxRecDepth 100000 in
theorem mtX2_bestSpring (l : Launch) (D : va_G) (t : Nat → ClassId) (bh : Nat) (bk : Nat → Nat) (bo : BoT) (nb : Nat → Nat) (now : ShT) (pb : Nat → Nat) (pr : ShT) (eb : Nat → Nat) (ex : ExT) (cu : Int32) (v : Int32) (out : Int32 × ShT × ExT) (h : fX2_bestSpring bo now pr ex cu v = some (.inr out))  (sz : Nat) : Met l yX2_bestSpring zX2_bestSpring ({ frames := 4, cells := 0, slots := 0, locals := 93 }) (sPc D t (gBo bh bk bo ++ (gS t (bk 0) nb now ++ (gS t (bk 1) pb pr ++ (gE t (bk 2) eb ex)))) sz [.ref bh, .int cu, .int v]) (qI D t (gBo bh bk bo ++ (gS t (bk 0) nb now ++ (gS t (bk 1) pb out.2.1 ++ (gE t (bk 2) eb out.2.2)))) out.1 (va_A (gBo bh bk bo ++ (gS t (bk 0) nb now ++ (gS t (bk 1) pb pr ++ (gE t (bk 2) eb ex)))) sz)) 0 0 (va_A (gBo bh bk bo ++ (gS t (bk 0) nb now ++ (gS t (bk 1) pb pr ++ (gE t (bk 2) eb ex)))) sz) := by
  refine met_of (Qf := fun A => qI D t (gBo bh bk bo ++ (gS t (bk 0) nb now ++ (gS t (bk 1) pb out.2.1 ++ (gE t (bk 2) eb out.2.2)))) out.1 A) (cc := cX2_bestSpring) (maxL := 6) (ret := some .int) (by decide) rfl (Nat.le_of_ble_eq_true rfl) ?_
  intro p e s m args below meth c A hx hb hr hml hts hown hlocks hA hP hK hD hE hS ls hl
  have htB : ∀ w ∈ BIG, w.before args s = true := fun w h => hts w (List.mem_cons_of_mem _ h)
  have hown : s.vm.findClass RX2 = some m.cls := hown
  have hl : lv_has ls 6 [(0, .ref bh), (1, .int cu), (2, .int v)] := hl
  unfold fX2_bestSpring at h
  have J27 : ∀ (fu27 : Nat) (v27 : ShT × ExT × Int32 × Int32 × Int32 × Int32 × Int32), lp (fX2_bestSpring_l27 bo now) fu27 v27 = some (.inr out) → ∀ (H : Heap) (locs : List Loc), va_P D vwCl (gBo bh bk bo ++ (gS t (bk 0) nb now ++ (gS t (bk 1) pb v27.1 ++ (gE t (bk 2) eb v27.2.1)))) H → va_D A (gBo bh bk bo ++ (gS t (bk 0) nb now ++ (gS t (bk 1) pb v27.1 ++ (gE t (bk 2) eb v27.2.1)))) → va_S A s.heap H locs → ∀ ls : Array Slot, lv_has ls 6 [(0, .ref bh), (1, .int v27.2.2.1), (2, .int v27.2.2.2.1), (3, .int v27.2.2.2.2.1), (4, .int v27.2.2.2.2.2.1), (5, .int v27.2.2.2.2.2.2)] → W p l e ({ frames := 4, cells := 0, slots := 0, locals := 93 }) s m args below meth c H locs 0 0 (MQ below (qI D t (gBo bh bk bo ++ (gS t (bk 0) nb now ++ (gS t (bk 1) pb out.2.1 ++ (gE t (bk 2) eb out.2.2)))) out.1 A) args s 0 0 A) (F0 m 27 ls []) := by
    intro fu27
    induction fu27 with
    | zero => intro v27 h; cases h
    | succ fu27 ih27 =>
      intro v27 h H locs hP hD hS ls hl
      have h : fX2_bestSpring_l27 bo now (lp (fX2_bestSpring_l27 bo now) fu27) v27 = some (.inr out) := h
      unfold fX2_bestSpring_l27 at h
      have J77 : ∀ v77 : ShT × ExT × Int32 × Int32 × Int32, fX2_bestSpring_j77 bo now (lp (fX2_bestSpring_l27 bo now) fu27) v77 = some (.inr out) → ∀ (H : Heap) (locs : List Loc), va_P D vwCl (gBo bh bk bo ++ (gS t (bk 0) nb now ++ (gS t (bk 1) pb v77.1 ++ (gE t (bk 2) eb v77.2.1)))) H → va_D A (gBo bh bk bo ++ (gS t (bk 0) nb now ++ (gS t (bk 1) pb v77.1 ++ (gE t (bk 2) eb v77.2.1)))) → va_S A s.heap H locs → ∀ ls : Array Slot, lv_has ls 6 [(0, .ref bh), (1, .int v77.2.2.1), (2, .int v77.2.2.2.1), (5, .int v77.2.2.2.2)] → W p l e ({ frames := 4, cells := 0, slots := 0, locals := 93 }) s m args below meth c H locs 0 0 (MQ below (qI D t (gBo bh bk bo ++ (gS t (bk 0) nb now ++ (gS t (bk 1) pb out.2.1 ++ (gE t (bk 2) eb out.2.2)))) out.1 A) args s 0 0 A) (F0 m 77 ls []) := by
        intro v77 h H locs hP hD hS ls hl
        unfold fX2_bestSpring_j77 at h
        refine lv_aload_n hx hb dX2_bestSpring_77 rfl (lv_at hl 0 rfl) ?_
        refine va_get (D := D) (ci := 2) (v := .ref (bk 2)) (C := RX2) (T := TX2) (N := 8) hx hb htB inlX2 hown hK hP 0 rfl rfl 2 (by decide) (htB _ kw22) (fun _ h9 => h9) rfl dX2_bestSpring_78 ?_
        obtain ⟨r10, h10, h⟩ := ob h
        refine call_i (v := r10) (wc := (gE t (bk 2) eb v77.2.1)) (wc' := (gE t (bk 2) eb v77.2.1)) (ws' := (gBo bh bk bo ++ (gS t (bk 0) nb now ++ (gS t (bk 1) pb v77.1 ++ (gE t (bk 2) eb v77.2.1))))) (cutB (bs := [gBo bh bk bo, gS t (bk 0) nb now, gS t (bk 1) pb v77.1, gE t (bk 2) eb v77.2.1]) (cs := [gE t (bk 2) eb v77.2.1]) (cs' := [gE t (bk 2) eb v77.2.1]) (bs' := [gBo bh bk bo, gS t (bk 0) nb now, gS t (bk 1) pb v77.1, gE t (bk 2) eb v77.2.1]) [3] hP hD hS hA rfl rfl rfl rfl) hS (fun hPc hDc => va_runV (As := []) (rest := []) ⟨hx, hb, hml, hown, hts⟩ (mtX0_spread l D t (bk 2) eb v77.2.1 r10 h10 _) (cwV 0 hts (gBV kw282 kw279 kw280 kw21 kw281) rfl rfl rfl (by decide +kernel) ⟨Nat.le_of_ble_eq_true rfl, Nat.le_of_ble_eq_true rfl⟩) (sPc_V hPc hK hDc hE (va_recv hK hP (ci := 0) (q0 := 17) rfl rfl)) rfl rfl hl.1 rfl (lv_room (Nat.le_of_ble_eq_true rfl)) dX2_bestSpring_81 ⟨Nat.zero_le _, Nat.zero_le _⟩) (fun H locs hP hD hS => ?_)
        refine lv_istore (lv' := [(4, .int r10), (0, .ref bh), (1, .int v77.2.2.1), (2, .int v77.2.2.2.1), (5, .int v77.2.2.2.2)]) hx hb dX2_bestSpring_84 hl (by decide) rfl (fun ls hl => ?_)
        refine lv_iload hx hb dX2_bestSpring_86 (lv_at hl 4 rfl) ?_
        refine lv_istore_n (lv' := [(3, .int v77.2.2.2.2), (4, .int r10), (0, .ref bh), (1, .int v77.2.2.1), (2, .int v77.2.2.2.1), (5, .int v77.2.2.2.2)]) hx hb dX2_bestSpring_88 rfl hl (by decide) rfl (fun ls hl => ?_)
        refine lv_iinc (v := v77.2.2.2.2 + 1) (lv' := [(5, .int (v77.2.2.2.2 + 1)), (3, .int v77.2.2.2.2), (4, .int r10), (0, .ref bh), (1, .int v77.2.2.1), (2, .int v77.2.2.2.1)]) hx hb dX2_bestSpring_89 hl (k := 5) rfl rfl (by decide) rfl (fun ls hl => ?_)
        refine lv_goto (tgt := 27) hx hb dX2_bestSpring_92 (by decide) ?_
        exact ih27 (v77.1, v77.2.1, v77.2.2.1, v77.2.2.2.1, v77.2.2.2.2, r10, v77.2.2.2.2 + 1) h _ _ hP hD hS _ (lv_sub hl [3, 4, 5, 1, 2, 0] rfl)
      refine lv_iload hx hb dX2_bestSpring_27 (lv_at hl 5 rfl) ?_
      refine lv_bipush (v := 99) hx hb dX2_bestSpring_29 (by decide) ?_
      refine lv_icmp_gt (tgt := 95) hx hb dX2_bestSpring_31 (by decide) (fun c4 => ?_) (fun c4 => ?_)
      · have h := it_p c4 h
        refine lv_iload_n hx hb dX2_bestSpring_95 rfl (lv_at hl 3 rfl) ?_
        obtain rfl := oi h
        exact ret_i hx hb hr hlocks hP hK hD hS dX2_bestSpring_96
      · have h := it_n c4 h
        refine lv_aload_n hx hb dX2_bestSpring_34 rfl (lv_at hl 0 rfl) ?_
        refine va_get (D := D) (ci := 2) (v := .ref (bk 1)) (C := RX2) (T := TX2) (N := 8) hx hb htB inlX2 hown hK hP 0 rfl rfl 1 (by decide) (htB _ kw18) (fun _ h9 => h9) rfl dX2_bestSpring_35 ?_
        refine va_get (D := D) (ci := 1) (v := .ref (pb 0)) (C := RX1) (T := TX1) (N := 10) hx hb htB inlX1 hown hK hP 9 rfl rfl 0 (by decide) (htB _ kw72) (fun _ h9 => h9) rfl dX2_bestSpring_38 ?_
        refine lv_iload_n hx hb dX2_bestSpring_41 rfl (lv_at hl 1 rfl) ?_
        refine lv_iload hx hb dX2_bestSpring_42 (lv_at hl 5 rfl) ?_
        obtain ⟨r5, h5, h⟩ := ob h
        refine call_v (wc := (gA t (pb 0) 2 v27.1.1)) (wc' := (gA t (pb 0) 2 r5)) (ws' := (gBo bh bk bo ++ (gS t (bk 0) nb now ++ (gS t (bk 1) pb (r5, v27.1.2.1, v27.1.2.2.1, v27.1.2.2.2.1, v27.1.2.2.2.2.1, v27.1.2.2.2.2.2.1, v27.1.2.2.2.2.2.2.1, v27.1.2.2.2.2.2.2.2.1, v27.1.2.2.2.2.2.2.2.2.1, v27.1.2.2.2.2.2.2.2.2.2) ++ (gE t (bk 2) eb v27.2.1))))) (cutI (wc := (gA t (pb 0) 2 v27.1.1)) (wc' := (gA t (pb 0) 2 r5)) (ws' := (gBo bh bk bo ++ (gS t (bk 0) nb now ++ (gS t (bk 1) pb (r5, v27.1.2.1, v27.1.2.2.1, v27.1.2.2.2.1, v27.1.2.2.2.2.1, v27.1.2.2.2.2.2.1, v27.1.2.2.2.2.2.2.1, v27.1.2.2.2.2.2.2.2.1, v27.1.2.2.2.2.2.2.2.2.1, v27.1.2.2.2.2.2.2.2.2.2) ++ (gE t (bk 2) eb v27.2.1))))) [10] hP hD hS hA rfl rfl rfl rfl) hS (fun hPc hDc => va_runS (As := [.ref (pb 0), .int v27.2.2.1, .int v27.2.2.2.2.2.2]) (rest := []) ⟨hx, hb, hml, hown, hts⟩ (mtX2_put l D t (pb 0) 2 v27.1.1 v27.2.2.1 v27.2.2.2.2.2.2 r5 h5 (by decide) _) (va_cwS 3 hts (gBS kw107 kw108 kw2 kw109) rfl rfl rfl (by decide +kernel) ⟨Nat.le_of_ble_eq_true rfl, Nat.le_of_ble_eq_true rfl⟩) (sPc_S hPc hK hDc hE) rfl rfl hl.1 rfl (lv_room (Nat.le_of_ble_eq_true rfl)) dX2_bestSpring_44 ⟨Nat.zero_le _, Nat.zero_le _⟩) (fun H locs hP hD hS => ?_)
        refine lv_aload_n hx hb dX2_bestSpring_47 rfl (lv_at hl 0 rfl) ?_
        refine va_get (D := D) (ci := 2) (v := .ref (bk 2)) (C := RX2) (T := TX2) (N := 8) hx hb htB inlX2 hown hK hP 0 rfl rfl 2 (by decide) (htB _ kw22) (fun _ h9 => h9) rfl dX2_bestSpring_48 ?_
        refine lv_aload_n hx hb dX2_bestSpring_51 rfl (lv_at hl 0 rfl) ?_
        refine va_get (D := D) (ci := 2) (v := .ref (bk 1)) (C := RX2) (T := TX2) (N := 8) hx hb htB inlX2 hown hK hP 0 rfl rfl 1 (by decide) (htB _ kw18) (fun _ h9 => h9) rfl dX2_bestSpring_52 ?_
        refine lv_iload_n hx hb dX2_bestSpring_55 rfl (lv_at hl 2 rfl) ?_
        obtain ⟨r6, h6, h⟩ := ob h
        refine call_v (wc := (gE t (bk 2) eb v27.2.1 ++ (gS t (bk 1) pb (r5, v27.1.2.1, v27.1.2.2.1, v27.1.2.2.2.1, v27.1.2.2.2.2.1, v27.1.2.2.2.2.2.1, v27.1.2.2.2.2.2.2.1, v27.1.2.2.2.2.2.2.2.1, v27.1.2.2.2.2.2.2.2.2.1, v27.1.2.2.2.2.2.2.2.2.2)))) (wc' := (gE t (bk 2) eb r6 ++ (gS t (bk 1) pb (r5, v27.1.2.1, v27.1.2.2.1, v27.1.2.2.2.1, v27.1.2.2.2.2.1, v27.1.2.2.2.2.2.1, v27.1.2.2.2.2.2.2.1, v27.1.2.2.2.2.2.2.2.1, v27.1.2.2.2.2.2.2.2.2.1, v27.1.2.2.2.2.2.2.2.2.2)))) (ws' := (gBo bh bk bo ++ (gS t (bk 0) nb now ++ (gS t (bk 1) pb (r5, v27.1.2.1, v27.1.2.2.1, v27.1.2.2.2.1, v27.1.2.2.2.2.1, v27.1.2.2.2.2.2.1, v27.1.2.2.2.2.2.2.1, v27.1.2.2.2.2.2.2.2.1, v27.1.2.2.2.2.2.2.2.2.1, v27.1.2.2.2.2.2.2.2.2.2) ++ (gE t (bk 2) eb r6))))) (cutB (bs := [gBo bh bk bo, gS t (bk 0) nb now, gS t (bk 1) pb (r5, v27.1.2.1, v27.1.2.2.1, v27.1.2.2.2.1, v27.1.2.2.2.2.1, v27.1.2.2.2.2.2.1, v27.1.2.2.2.2.2.2.1, v27.1.2.2.2.2.2.2.2.1, v27.1.2.2.2.2.2.2.2.2.1, v27.1.2.2.2.2.2.2.2.2.2), gE t (bk 2) eb v27.2.1]) (cs := [gE t (bk 2) eb v27.2.1, gS t (bk 1) pb (r5, v27.1.2.1, v27.1.2.2.1, v27.1.2.2.2.1, v27.1.2.2.2.2.1, v27.1.2.2.2.2.2.1, v27.1.2.2.2.2.2.2.1, v27.1.2.2.2.2.2.2.2.1, v27.1.2.2.2.2.2.2.2.2.1, v27.1.2.2.2.2.2.2.2.2.2)]) (cs' := [gE t (bk 2) eb r6, gS t (bk 1) pb (r5, v27.1.2.1, v27.1.2.2.1, v27.1.2.2.2.1, v27.1.2.2.2.2.1, v27.1.2.2.2.2.2.1, v27.1.2.2.2.2.2.2.1, v27.1.2.2.2.2.2.2.2.1, v27.1.2.2.2.2.2.2.2.2.1, v27.1.2.2.2.2.2.2.2.2.2)]) (bs' := [gBo bh bk bo, gS t (bk 0) nb now, gS t (bk 1) pb (r5, v27.1.2.1, v27.1.2.2.1, v27.1.2.2.2.1, v27.1.2.2.2.2.1, v27.1.2.2.2.2.2.1, v27.1.2.2.2.2.2.2.1, v27.1.2.2.2.2.2.2.2.1, v27.1.2.2.2.2.2.2.2.2.1, v27.1.2.2.2.2.2.2.2.2.2), gE t (bk 2) eb r6]) [3, 2] hP hD hS hA rfl rfl rfl rfl) hS (fun hPc hDc => va_runV (As := [.ref (bk 1), .int v27.2.2.2.1]) (rest := []) ⟨hx, hb, hml, hown, hts⟩ (mtX0_expose l D t (bk 2) eb v27.2.1 (bk 1) pb (r5, v27.1.2.1, v27.1.2.2.1, v27.1.2.2.2.1, v27.1.2.2.2.2.1, v27.1.2.2.2.2.2.1, v27.1.2.2.2.2.2.2.1, v27.1.2.2.2.2.2.2.2.1, v27.1.2.2.2.2.2.2.2.2.1, v27.1.2.2.2.2.2.2.2.2.2) v27.2.2.2.1 r6 h6 _) (cwV 2 hts (gBV kw224 kw225 kw226 kw21 kw227) rfl rfl rfl (by decide +kernel) ⟨Nat.le_of_ble_eq_true rfl, Nat.le_of_ble_eq_true rfl⟩) (sPc_V hPc hK hDc hE (va_recv hK hP (ci := 0) (q0 := 17) rfl rfl)) rfl rfl hl.1 rfl (lv_room (Nat.le_of_ble_eq_true rfl)) dX2_bestSpring_56 ⟨Nat.zero_le _, Nat.zero_le _⟩) (fun H locs hP hD hS => ?_)
        refine lv_iload hx hb dX2_bestSpring_59 (lv_at hl 4 rfl) ?_
        refine lv_iconst (v := (-1)) hx hb dX2_bestSpring_61 (by decide) ?_
        refine lv_icmp_eq (tgt := 77) hx hb dX2_bestSpring_62 (by decide) (fun c7 => ?_) (fun c7 => ?_)
        · have h := it_p c7 h
          exact J77 ((r5, v27.1.2.1, v27.1.2.2.1, v27.1.2.2.2.1, v27.1.2.2.2.2.1, v27.1.2.2.2.2.2.1, v27.1.2.2.2.2.2.2.1, v27.1.2.2.2.2.2.2.2.1, v27.1.2.2.2.2.2.2.2.2.1, v27.1.2.2.2.2.2.2.2.2.2), r6, v27.2.2.1, v27.2.2.2.1, v27.2.2.2.2.2.2) h _ _ hP hD hS _ (lv_sub hl [0, 1, 2, 5] rfl)
        · have h := it_n c7 h
          refine lv_aload_n hx hb dX2_bestSpring_65 rfl (lv_at hl 0 rfl) ?_
          refine va_get (D := D) (ci := 2) (v := .ref (bk 2)) (C := RX2) (T := TX2) (N := 8) hx hb htB inlX2 hown hK hP 0 rfl rfl 2 (by decide) (htB _ kw22) (fun _ h9 => h9) rfl dX2_bestSpring_66 ?_
          obtain ⟨r8, h8, h⟩ := ob h
          refine call_i (v := r8) (wc := (gE t (bk 2) eb r6)) (wc' := (gE t (bk 2) eb r6)) (ws' := (gBo bh bk bo ++ (gS t (bk 0) nb now ++ (gS t (bk 1) pb (r5, v27.1.2.1, v27.1.2.2.1, v27.1.2.2.2.1, v27.1.2.2.2.2.1, v27.1.2.2.2.2.2.1, v27.1.2.2.2.2.2.2.1, v27.1.2.2.2.2.2.2.2.1, v27.1.2.2.2.2.2.2.2.2.1, v27.1.2.2.2.2.2.2.2.2.2) ++ (gE t (bk 2) eb r6))))) (cutB (bs := [gBo bh bk bo, gS t (bk 0) nb now, gS t (bk 1) pb (r5, v27.1.2.1, v27.1.2.2.1, v27.1.2.2.2.1, v27.1.2.2.2.2.1, v27.1.2.2.2.2.2.1, v27.1.2.2.2.2.2.2.1, v27.1.2.2.2.2.2.2.2.1, v27.1.2.2.2.2.2.2.2.2.1, v27.1.2.2.2.2.2.2.2.2.2), gE t (bk 2) eb r6]) (cs := [gE t (bk 2) eb r6]) (cs' := [gE t (bk 2) eb r6]) (bs' := [gBo bh bk bo, gS t (bk 0) nb now, gS t (bk 1) pb (r5, v27.1.2.1, v27.1.2.2.1, v27.1.2.2.2.1, v27.1.2.2.2.2.1, v27.1.2.2.2.2.2.1, v27.1.2.2.2.2.2.2.1, v27.1.2.2.2.2.2.2.2.1, v27.1.2.2.2.2.2.2.2.2.1, v27.1.2.2.2.2.2.2.2.2.2), gE t (bk 2) eb r6]) [3] hP hD hS hA rfl rfl rfl rfl) hS (fun hPc hDc => va_runV (As := []) (rest := []) ⟨hx, hb, hml, hown, hts⟩ (mtX0_spread l D t (bk 2) eb r6 r8 h8 _) (cwV 0 hts (gBV kw282 kw279 kw280 kw21 kw281) rfl rfl rfl (by decide +kernel) ⟨Nat.le_of_ble_eq_true rfl, Nat.le_of_ble_eq_true rfl⟩) (sPc_V hPc hK hDc hE (va_recv hK hP (ci := 0) (q0 := 17) rfl rfl)) rfl rfl hl.1 rfl (lv_room (Nat.le_of_ble_eq_true rfl)) dX2_bestSpring_69 ⟨Nat.zero_le _, Nat.zero_le _⟩) (fun H locs hP hD hS => ?_)
          refine lv_iload hx hb dX2_bestSpring_72 (lv_at hl 4 rfl) ?_
          refine lv_icmp_ge (tgt := 89) hx hb dX2_bestSpring_74 (by decide) (fun c9 => ?_) (fun c9 => ?_)
          · have h := it_p c9 h
            refine lv_iinc (v := v27.2.2.2.2.2.2 + 1) (lv' := [(5, .int (v27.2.2.2.2.2.2 + 1)), (0, .ref bh), (1, .int v27.2.2.1), (2, .int v27.2.2.2.1), (3, .int v27.2.2.2.2.1), (4, .int v27.2.2.2.2.2.1)]) hx hb dX2_bestSpring_89 hl (k := 5) rfl rfl (by decide) rfl (fun ls hl => ?_)
            refine lv_goto (tgt := 27) hx hb dX2_bestSpring_92 (by decide) ?_
            exact ih27 ((r5, v27.1.2.1, v27.1.2.2.1, v27.1.2.2.2.1, v27.1.2.2.2.2.1, v27.1.2.2.2.2.2.1, v27.1.2.2.2.2.2.2.1, v27.1.2.2.2.2.2.2.2.1, v27.1.2.2.2.2.2.2.2.2.1, v27.1.2.2.2.2.2.2.2.2.2), r6, v27.2.2.1, v27.2.2.2.1, v27.2.2.2.2.1, v27.2.2.2.2.2.1, v27.2.2.2.2.2.2 + 1) h _ _ hP hD hS _ (lv_sub hl [1, 2, 3, 4, 5, 0] rfl)
          · have h := it_n c9 h
            exact J77 ((r5, v27.1.2.1, v27.1.2.2.1, v27.1.2.2.2.1, v27.1.2.2.2.2.1, v27.1.2.2.2.2.2.1, v27.1.2.2.2.2.2.2.1, v27.1.2.2.2.2.2.2.2.1, v27.1.2.2.2.2.2.2.2.2.1, v27.1.2.2.2.2.2.2.2.2.2), r6, v27.2.2.1, v27.2.2.2.1, v27.2.2.2.2.2.2) h _ _ hP hD hS _ (lv_sub hl [0, 1, 2, 5] rfl)
  refine lv_iload_n hx hb dX2_bestSpring_0 rfl (lv_at hl 1 rfl) ?_
  obtain ⟨r1, h1, h⟩ := tb_r h
  refine call_v (wc := ([] : va_W)) (wc' := ([] : va_W)) (ws' := (gBo bh bk bo ++ (gS t (bk 0) nb now ++ (gS t (bk 1) pb pr ++ (gE t (bk 2) eb ex))))) (cutB (bs := [gBo bh bk bo, gS t (bk 0) nb now, gS t (bk 1) pb pr, gE t (bk 2) eb ex]) (cs := []) (cs' := []) (bs' := [gBo bh bk bo, gS t (bk 0) nb now, gS t (bk 1) pb pr, gE t (bk 2) eb ex]) [] hP hD hS hA rfl rfl rfl rfl) hS (fun hPc hDc => va_runS (As := [.int cu]) (rest := []) ⟨hx, hb, hml, hown, hts⟩ (mtX2_needCurtain l D t cu r1 h1 _) (va_cwS 1 hts (gBS kw73 kw74 kw2 kw75) rfl rfl rfl (by decide +kernel) ⟨Nat.le_of_ble_eq_true rfl, Nat.le_of_ble_eq_true rfl⟩) (sPc_S hPc hK hDc hE) rfl rfl hl.1 rfl (lv_room (Nat.le_of_ble_eq_true rfl)) dX2_bestSpring_1 ⟨Nat.zero_le _, Nat.zero_le _⟩) (fun H locs hP hD hS => ?_)
  refine lv_iload_n hx hb dX2_bestSpring_4 rfl (lv_at hl 2 rfl) ?_
  obtain ⟨r2, h2, h⟩ := tb_r h
  refine call_v (wc := ([] : va_W)) (wc' := ([] : va_W)) (ws' := (gBo bh bk bo ++ (gS t (bk 0) nb now ++ (gS t (bk 1) pb pr ++ (gE t (bk 2) eb ex))))) (cutB (bs := [gBo bh bk bo, gS t (bk 0) nb now, gS t (bk 1) pb pr, gE t (bk 2) eb ex]) (cs := []) (cs' := []) (bs' := [gBo bh bk bo, gS t (bk 0) nb now, gS t (bk 1) pb pr, gE t (bk 2) eb ex]) [] hP hD hS hA rfl rfl rfl rfl) hS (fun hPc hDc => va_runS (As := [.int v]) (rest := []) ⟨hx, hb, hml, hown, hts⟩ (mtX2_needSpeed l D t v r2 h2 _) (va_cwS 1 hts (gBS kw179 kw180 kw2 kw181) rfl rfl rfl (by decide +kernel) ⟨Nat.le_of_ble_eq_true rfl, Nat.le_of_ble_eq_true rfl⟩) (sPc_S hPc hK hDc hE) rfl rfl hl.1 rfl (lv_room (Nat.le_of_ble_eq_true rfl)) dX2_bestSpring_5 ⟨Nat.zero_le _, Nat.zero_le _⟩) (fun H locs hP hD hS => ?_)
  refine lv_aload_n hx hb dX2_bestSpring_8 rfl (lv_at hl 0 rfl) ?_
  refine va_get (D := D) (ci := 2) (v := .ref (bk 1)) (C := RX2) (T := TX2) (N := 8) hx hb htB inlX2 hown hK hP 0 rfl rfl 1 (by decide) (htB _ kw18) (fun _ h9 => h9) rfl dX2_bestSpring_9 ?_
  refine lv_aload_n hx hb dX2_bestSpring_12 rfl (lv_at hl 0 rfl) ?_
  refine va_get (D := D) (ci := 2) (v := .ref (bk 0)) (C := RX2) (T := TX2) (N := 8) hx hb htB inlX2 hown hK hP 0 rfl rfl 0 (by decide) (htB _ kw17) (fun _ h9 => h9) rfl dX2_bestSpring_13 ?_
  obtain ⟨r3, h3, h⟩ := ob h
  refine call_v (wc := (gS t (bk 1) pb pr ++ (gS t (bk 0) nb now))) (wc' := (gS t (bk 1) pb r3 ++ (gS t (bk 0) nb now))) (ws' := (gBo bh bk bo ++ (gS t (bk 0) nb now ++ (gS t (bk 1) pb r3 ++ (gE t (bk 2) eb ex))))) (cutB (bs := [gBo bh bk bo, gS t (bk 0) nb now, gS t (bk 1) pb pr, gE t (bk 2) eb ex]) (cs := [gS t (bk 1) pb pr, gS t (bk 0) nb now]) (cs' := [gS t (bk 1) pb r3, gS t (bk 0) nb now]) (bs' := [gBo bh bk bo, gS t (bk 0) nb now, gS t (bk 1) pb r3, gE t (bk 2) eb ex]) [2, 1] hP hD hS hA rfl rfl rfl rfl) hS (fun hPc hDc => va_runV (As := [.ref (bk 0)]) (rest := []) ⟨hx, hb, hml, hown, hts⟩ (mtX1_become l D t (bk 1) pb pr (bk 0) nb now r3 h3 _) (cwV 1 hts (gBV kw98 kw99 kw100 kw16 kw101) rfl rfl rfl (by decide +kernel) ⟨Nat.le_of_ble_eq_true rfl, Nat.le_of_ble_eq_true rfl⟩) (sPc_V hPc hK hDc hE (va_recv hK hP (ci := 1) (q0 := 9) rfl rfl)) rfl rfl hl.1 rfl (lv_room (Nat.le_of_ble_eq_true rfl)) dX2_bestSpring_16 ⟨Nat.zero_le _, Nat.zero_le _⟩) (fun H locs hP hD hS => ?_)
  refine lv_iconst (v := 1) hx hb dX2_bestSpring_19 (by decide) ?_
  refine lv_istore_n (lv' := [(3, .int 1), (0, .ref bh), (1, .int cu), (2, .int v)]) hx hb dX2_bestSpring_20 rfl hl (by decide) rfl (fun ls hl => ?_)
  refine lv_iconst (v := (-1)) hx hb dX2_bestSpring_21 (by decide) ?_
  refine lv_istore (lv' := [(4, .int (-1)), (3, .int 1), (0, .ref bh), (1, .int cu), (2, .int v)]) hx hb dX2_bestSpring_22 hl (by decide) rfl (fun ls hl => ?_)
  refine lv_iconst (v := 1) hx hb dX2_bestSpring_24 (by decide) ?_
  refine lv_istore (lv' := [(5, .int 1), (4, .int (-1)), (3, .int 1), (0, .ref bh), (1, .int cu), (2, .int v)]) hx hb dX2_bestSpring_25 hl (by decide) rfl (fun ls hl => ?_)
  exact J27 2000 (r3, ex, cu, v, 1, (-1), 1) h _ _ hP hD hS _ (lv_sub hl [3, 4, 5, 2, 1, 0] rfl)

theorem dX2_ifShot_0 : decode cX2_ifShot 0 = .ok (.iload_n 1, 1) := by decide +kernel
theorem dX2_ifShot_1 : decode cX2_ifShot 1 = .ok (.invokestatic 73, 3) := by decide +kernel
theorem dX2_ifShot_4 : decode cX2_ifShot 4 = .ok (.iload_n 2, 1) := by decide +kernel
theorem dX2_ifShot_5 : decode cX2_ifShot 5 = .ok (.iconst 1, 1) := by decide +kernel
theorem dX2_ifShot_6 : decode cX2_ifShot 6 = .ok (.bipush 50, 2) := by decide +kernel
theorem dX2_ifShot_8 : decode cX2_ifShot 8 = .ok (.invokestatic 48, 3) := by decide +kernel
theorem dX2_ifShot_11 : decode cX2_ifShot 11 = .ok (.iload_n 3, 1) := by decide +kernel
theorem dX2_ifShot_12 : decode cX2_ifShot 12 = .ok (.iconst 0, 1) := by decide +kernel
theorem dX2_ifShot_13 : decode cX2_ifShot 13 = .ok (.iconst 2, 1) := by decide +kernel
theorem dX2_ifShot_14 : decode cX2_ifShot 14 = .ok (.invokestatic 48, 3) := by decide +kernel
theorem dX2_ifShot_17 : decode cX2_ifShot 17 = .ok (.aload_n 0, 1) := by decide +kernel
theorem dX2_ifShot_18 : decode cX2_ifShot 18 = .ok (.getfield 16, 3) := by decide +kernel
theorem dX2_ifShot_21 : decode cX2_ifShot 21 = .ok (.aload_n 0, 1) := by decide +kernel
theorem dX2_ifShot_22 : decode cX2_ifShot 22 = .ok (.getfield 10, 3) := by decide +kernel
theorem dX2_ifShot_25 : decode cX2_ifShot 25 = .ok (.invokevirtual 129, 3) := by decide +kernel
theorem dX2_ifShot_28 : decode cX2_ifShot 28 = .ok (.aload_n 0, 1) := by decide +kernel
theorem dX2_ifShot_29 : decode cX2_ifShot 29 = .ok (.aload_n 0, 1) := by decide +kernel
theorem dX2_ifShot_30 : decode cX2_ifShot 30 = .ok (.getfield 16, 3) := by decide +kernel
theorem dX2_ifShot_33 : decode cX2_ifShot 33 = .ok (.iload_n 1, 1) := by decide +kernel
theorem dX2_ifShot_34 : decode cX2_ifShot 34 = .ok (.iload_n 2, 1) := by decide +kernel
theorem dX2_ifShot_35 : decode cX2_ifShot 35 = .ok (.invokevirtual 92, 3) := by decide +kernel
theorem dX2_ifShot_38 : decode cX2_ifShot 38 = .ok (.iload_n 3, 1) := by decide +kernel
theorem dX2_ifShot_39 : decode cX2_ifShot 39 = .ok (.lookupswitch 45 #[(0, 25), (1, 33)], 25) := by decide +kernel
theorem dX2_ifShot_64 : decode cX2_ifShot 64 = .ok (.aload_n 0, 1) := by decide +kernel
theorem dX2_ifShot_65 : decode cX2_ifShot 65 = .ok (.getfield 22, 3) := by decide +kernel
theorem dX2_ifShot_68 : decode cX2_ifShot 68 = .ok (.invokevirtual 96, 3) := by decide +kernel
theorem dX2_ifShot_71 : decode cX2_ifShot 71 = .ok (.ireturn, 1) := by decide +kernel
theorem dX2_ifShot_72 : decode cX2_ifShot 72 = .ok (.aload_n 0, 1) := by decide +kernel
theorem dX2_ifShot_73 : decode cX2_ifShot 73 = .ok (.getfield 16, 3) := by decide +kernel
theorem dX2_ifShot_76 : decode cX2_ifShot 76 = .ok (.getfield 55, 3) := by decide +kernel
theorem dX2_ifShot_79 : decode cX2_ifShot 79 = .ok (.iconst 0, 1) := by decide +kernel
theorem dX2_ifShot_80 : decode cX2_ifShot 80 = .ok (.invokestatic 58, 3) := by decide +kernel
theorem dX2_ifShot_83 : decode cX2_ifShot 83 = .ok (.ireturn, 1) := by decide +kernel
theorem dX2_ifShot_84 : decode cX2_ifShot 84 = .ok (.aload_n 0, 1) := by decide +kernel
theorem dX2_ifShot_85 : decode cX2_ifShot 85 = .ok (.getfield 22, 3) := by decide +kernel
theorem dX2_ifShot_88 : decode cX2_ifShot 88 = .ok (.getfield 170, 3) := by decide +kernel
theorem dX2_ifShot_91 : decode cX2_ifShot 91 = .ok (.ireturn, 1) := by decide +kernel
abbrev zX2_ifShot : List Cond := .code yX2_ifShot cX2_ifShot 4 (some .int) :: BIG
def fX2_ifShot (bo : BoT) (now : ShT) (pr : ShT) (ex : ExT) (v : Int32) (n : Int32) (w : Int32) : Option (Nat ⊕ (Int32 × ShT × ExT)) := tb (fX2_needSpeed v) (fun r1 => tb (fX2_needRange n 1 50) (fun r2 => tb (fX2_needRange w 0 2) (fun r3 => (fX1_become pr now).bind (fun r4 => (fX2_fire bo ex r4 v n).bind (fun r5 => (if w = 0 then (fX0_spread r5.1).bind (fun r7 => some (.inr (r7, r5.2, r5.1))) else (if w = 1 then (fX2_at 2 r5.2.1 0).bind (fun r9 => some (.inr (r9, r5.2, r5.1))) else some (.inr (r5.1.2.2.2.2.2.2.2.1, r5.2, r5.1)))))))))
set_option maxHeartbeats 4000000 in
set_option maxRecDepth 100000 in
theorem mtX2_ifShot (l : Launch) (D : va_G) (t : Nat → ClassId) (bh : Nat) (bk : Nat → Nat) (bo : BoT) (nb : Nat → Nat) (now : ShT) (pb : Nat → Nat) (pr : ShT) (eb : Nat → Nat) (ex : ExT) (v : Int32) (n : Int32) (w : Int32) (out : Int32 × ShT × ExT) (h : fX2_ifShot bo now pr ex v n w = some (.inr out))  (sz : Nat) : Met l yX2_ifShot zX2_ifShot ({ frames := 5, cells := 0, slots := 0, locals := 117 }) (sPc D t (gBo bh bk bo ++ (gS t (bk 0) nb now ++ (gS t (bk 1) pb pr ++ (gE t (bk 2) eb ex)))) sz [.ref bh, .int v, .int n, .int w]) (qI D t (gBo bh bk bo ++ (gS t (bk 0) nb now ++ (gS t (bk 1) pb out.2.1 ++ (gE t (bk 2) eb out.2.2)))) out.1 (va_A (gBo bh bk bo ++ (gS t (bk 0) nb now ++ (gS t (bk 1) pb pr ++ (gE t (bk 2) eb ex)))) sz)) 0 0 (va_A (gBo bh bk bo ++ (gS t (bk 0) nb now ++ (gS t (bk 1) pb pr ++ (gE t (bk 2) eb ex)))) sz) := by
  refine met_of (Qf := fun A => qI D t (gBo bh bk bo ++ (gS t (bk 0) nb now ++ (gS t (bk 1) pb out.2.1 ++ (gE t (bk 2) eb out.2.2)))) out.1 A) (cc := cX2_ifShot) (maxL := 4) (ret := some .int) (by decide) rfl (Nat.le_of_ble_eq_true rfl) ?_
  intro p e s m args below meth c A hx hb hr hml hts hown hlocks hA hP hK hD hE hS ls hl
  have htB : ∀ w ∈ BIG, w.before args s = true := fun w h => hts w (List.mem_cons_of_mem _ h)
  have hown : s.vm.findClass RX2 = some m.cls := hown
  have hl : lv_has ls 4 [(0, .ref bh), (1, .int v), (2, .int n), (3, .int w)] := hl
  unfold fX2_ifShot at h
  refine lv_iload_n hx hb dX2_ifShot_0 rfl (lv_at hl 1 rfl) ?_
  obtain ⟨r1, h1, h⟩ := tb_r h
  refine call_v (wc := ([] : va_W)) (wc' := ([] : va_W)) (ws' := (gBo bh bk bo ++ (gS t (bk 0) nb now ++ (gS t (bk 1) pb pr ++ (gE t (bk 2) eb ex))))) (cutB (bs := [gBo bh bk bo, gS t (bk 0) nb now, gS t (bk 1) pb pr, gE t (bk 2) eb ex]) (cs := []) (cs' := []) (bs' := [gBo bh bk bo, gS t (bk 0) nb now, gS t (bk 1) pb pr, gE t (bk 2) eb ex]) [] hP hD hS hA rfl rfl rfl rfl) hS (fun hPc hDc => va_runS (As := [.int v]) (rest := []) ⟨hx, hb, hml, hown, hts⟩ (mtX2_needSpeed l D t v r1 h1 _) (va_cwS 1 hts (gBS kw179 kw180 kw2 kw181) rfl rfl rfl (by decide +kernel) ⟨Nat.le_of_ble_eq_true rfl, Nat.le_of_ble_eq_true rfl⟩) (sPc_S hPc hK hDc hE) rfl rfl hl.1 rfl (lv_room (Nat.le_of_ble_eq_true rfl)) dX2_ifShot_1 ⟨Nat.zero_le _, Nat.zero_le _⟩) (fun H locs hP hD hS => ?_)
  refine lv_iload_n hx hb dX2_ifShot_4 rfl (lv_at hl 2 rfl) ?_
  refine lv_iconst (v := 1) hx hb dX2_ifShot_5 (by decide) ?_
  refine lv_bipush (v := 50) hx hb dX2_ifShot_6 (by decide) ?_
  obtain ⟨r2, h2, h⟩ := tb_r h
  refine call_v (wc := ([] : va_W)) (wc' := ([] : va_W)) (ws' := (gBo bh bk bo ++ (gS t (bk 0) nb now ++ (gS t (bk 1) pb pr ++ (gE t (bk 2) eb ex))))) (cutB (bs := [gBo bh bk bo, gS t (bk 0) nb now, gS t (bk 1) pb pr, gE t (bk 2) eb ex]) (cs := []) (cs' := []) (bs' := [gBo bh bk bo, gS t (bk 0) nb now, gS t (bk 1) pb pr, gE t (bk 2) eb ex]) [] hP hD hS hA rfl rfl rfl rfl) hS (fun hPc hDc => va_runS (As := [.int n, .int 1, .int 50]) (rest := []) ⟨hx, hb, hml, hown, hts⟩ (mtX2_needRange l D t n 1 50 r2 h2 _) (va_cwS 3 hts (gBS kw81 kw82 kw2 kw83) rfl rfl rfl (by decide +kernel) ⟨Nat.le_of_ble_eq_true rfl, Nat.le_of_ble_eq_true rfl⟩) (sPc_S hPc hK hDc hE) rfl rfl hl.1 rfl (lv_room (Nat.le_of_ble_eq_true rfl)) dX2_ifShot_8 ⟨Nat.zero_le _, Nat.zero_le _⟩) (fun H locs hP hD hS => ?_)
  refine lv_iload_n hx hb dX2_ifShot_11 rfl (lv_at hl 3 rfl) ?_
  refine lv_iconst (v := 0) hx hb dX2_ifShot_12 (by decide) ?_
  refine lv_iconst (v := 2) hx hb dX2_ifShot_13 (by decide) ?_
  obtain ⟨r3, h3, h⟩ := tb_r h
  refine call_v (wc := ([] : va_W)) (wc' := ([] : va_W)) (ws' := (gBo bh bk bo ++ (gS t (bk 0) nb now ++ (gS t (bk 1) pb pr ++ (gE t (bk 2) eb ex))))) (cutB (bs := [gBo bh bk bo, gS t (bk 0) nb now, gS t (bk 1) pb pr, gE t (bk 2) eb ex]) (cs := []) (cs' := []) (bs' := [gBo bh bk bo, gS t (bk 0) nb now, gS t (bk 1) pb pr, gE t (bk 2) eb ex]) [] hP hD hS hA rfl rfl rfl rfl) hS (fun hPc hDc => va_runS (As := [.int w, .int 0, .int 2]) (rest := []) ⟨hx, hb, hml, hown, hts⟩ (mtX2_needRange l D t w 0 2 r3 h3 _) (va_cwS 3 hts (gBS kw81 kw82 kw2 kw83) rfl rfl rfl (by decide +kernel) ⟨Nat.le_of_ble_eq_true rfl, Nat.le_of_ble_eq_true rfl⟩) (sPc_S hPc hK hDc hE) rfl rfl hl.1 rfl (lv_room (Nat.le_of_ble_eq_true rfl)) dX2_ifShot_14 ⟨Nat.zero_le _, Nat.zero_le _⟩) (fun H locs hP hD hS => ?_)
  refine lv_aload_n hx hb dX2_ifShot_17 rfl (lv_at hl 0 rfl) ?_
  refine va_get (D := D) (ci := 2) (v := .ref (bk 1)) (C := RX2) (T := TX2) (N := 8) hx hb htB inlX2 hown hK hP 0 rfl rfl 1 (by decide) (htB _ kw18) (fun _ h9 => h9) rfl dX2_ifShot_18 ?_
  refine lv_aload_n hx hb dX2_ifShot_21 rfl (lv_at hl 0 rfl) ?_
  refine va_get (D := D) (ci := 2) (v := .ref (bk 0)) (C := RX2) (T := TX2) (N := 8) hx hb htB inlX2 hown hK hP 0 rfl rfl 0 (by decide) (htB _ kw17) (fun _ h9 => h9) rfl dX2_ifShot_22 ?_
  obtain ⟨r4, h4, h⟩ := ob h
  refine call_v (wc := (gS t (bk 1) pb pr ++ (gS t (bk 0) nb now))) (wc' := (gS t (bk 1) pb r4 ++ (gS t (bk 0) nb now))) (ws' := (gBo bh bk bo ++ (gS t (bk 0) nb now ++ (gS t (bk 1) pb r4 ++ (gE t (bk 2) eb ex))))) (cutB (bs := [gBo bh bk bo, gS t (bk 0) nb now, gS t (bk 1) pb pr, gE t (bk 2) eb ex]) (cs := [gS t (bk 1) pb pr, gS t (bk 0) nb now]) (cs' := [gS t (bk 1) pb r4, gS t (bk 0) nb now]) (bs' := [gBo bh bk bo, gS t (bk 0) nb now, gS t (bk 1) pb r4, gE t (bk 2) eb ex]) [2, 1] hP hD hS hA rfl rfl rfl rfl) hS (fun hPc hDc => va_runV (As := [.ref (bk 0)]) (rest := []) ⟨hx, hb, hml, hown, hts⟩ (mtX1_become l D t (bk 1) pb pr (bk 0) nb now r4 h4 _) (cwV 1 hts (gBV kw98 kw99 kw100 kw16 kw101) rfl rfl rfl (by decide +kernel) ⟨Nat.le_of_ble_eq_true rfl, Nat.le_of_ble_eq_true rfl⟩) (sPc_V hPc hK hDc hE (va_recv hK hP (ci := 1) (q0 := 9) rfl rfl)) rfl rfl hl.1 rfl (lv_room (Nat.le_of_ble_eq_true rfl)) dX2_ifShot_25 ⟨Nat.zero_le _, Nat.zero_le _⟩) (fun H locs hP hD hS => ?_)
  refine lv_aload_n hx hb dX2_ifShot_28 rfl (lv_at hl 0 rfl) ?_
  refine lv_aload_n hx hb dX2_ifShot_29 rfl (lv_at hl 0 rfl) ?_
  refine va_get (D := D) (ci := 2) (v := .ref (bk 1)) (C := RX2) (T := TX2) (N := 8) hx hb htB inlX2 hown hK hP 0 rfl rfl 1 (by decide) (htB _ kw18) (fun _ h9 => h9) rfl dX2_ifShot_30 ?_
  refine lv_iload_n hx hb dX2_ifShot_33 rfl (lv_at hl 1 rfl) ?_
  refine lv_iload_n hx hb dX2_ifShot_34 rfl (lv_at hl 2 rfl) ?_
  obtain ⟨r5, h5, h⟩ := ob h
  refine call_v (wc := (gBo bh bk bo ++ (gE t (bk 2) eb ex ++ (gS t (bk 1) pb r4)))) (wc' := (gBo bh bk bo ++ (gE t (bk 2) eb r5.1 ++ (gS t (bk 1) pb r5.2)))) (ws' := (gBo bh bk bo ++ (gS t (bk 0) nb now ++ (gS t (bk 1) pb r5.2 ++ (gE t (bk 2) eb r5.1))))) (cutB (bs := [gBo bh bk bo, gS t (bk 0) nb now, gS t (bk 1) pb r4, gE t (bk 2) eb ex]) (cs := [gBo bh bk bo, gE t (bk 2) eb ex, gS t (bk 1) pb r4]) (cs' := [gBo bh bk bo, gE t (bk 2) eb r5.1, gS t (bk 1) pb r5.2]) (bs' := [gBo bh bk bo, gS t (bk 0) nb now, gS t (bk 1) pb r5.2, gE t (bk 2) eb r5.1]) [0, 3, 2] hP hD hS hA rfl rfl rfl rfl) hS (fun hPc hDc => va_runV (As := [.ref (bk 1), .int v, .int n]) (rest := []) ⟨hx, hb, hml, hown, hts⟩ (mtX2_fire l D t bh bk bo eb ex (bk 1) pb r4 v n r5 h5 _) (cwV 3 hts (gBV kw220 kw221 kw222 kw2 kw223) rfl rfl rfl (by decide +kernel) ⟨Nat.le_of_ble_eq_true rfl, Nat.le_of_ble_eq_true rfl⟩) (sPc_V hPc hK hDc hE (va_recv hK hP (ci := 2) (q0 := 0) rfl rfl)) rfl rfl hl.1 rfl (lv_room (Nat.le_of_ble_eq_true rfl)) dX2_ifShot_35 ⟨Nat.zero_le _, Nat.zero_le _⟩) (fun H locs hP hD hS => ?_)
  refine lv_iload_n hx hb dX2_ifShot_38 rfl (lv_at hl 3 rfl) ?_
  by_cases c6 : w = 0
  · have h := it_p c6 h
    refine lv_lookup (off := 25) (tgt := 64) hx hb dX2_ifShot_39 (by decide) (by rw [c6]; decide) (by decide) ?_
    refine lv_aload_n hx hb dX2_ifShot_64 rfl (lv_at hl 0 rfl) ?_
    refine va_get (D := D) (ci := 2) (v := .ref (bk 2)) (C := RX2) (T := TX2) (N := 8) hx hb htB inlX2 hown hK hP 0 rfl rfl 2 (by decide) (htB _ kw22) (fun _ h9 => h9) rfl dX2_ifShot_65 ?_
    obtain ⟨r7, h7, h⟩ := ob h
    refine call_i (v := r7) (wc := (gE t (bk 2) eb r5.1)) (wc' := (gE t (bk 2) eb r5.1)) (ws' := (gBo bh bk bo ++ (gS t (bk 0) nb now ++ (gS t (bk 1) pb r5.2 ++ (gE t (bk 2) eb r5.1))))) (cutB (bs := [gBo bh bk bo, gS t (bk 0) nb now, gS t (bk 1) pb r5.2, gE t (bk 2) eb r5.1]) (cs := [gE t (bk 2) eb r5.1]) (cs' := [gE t (bk 2) eb r5.1]) (bs' := [gBo bh bk bo, gS t (bk 0) nb now, gS t (bk 1) pb r5.2, gE t (bk 2) eb r5.1]) [3] hP hD hS hA rfl rfl rfl rfl) hS (fun hPc hDc => va_runV (As := []) (rest := []) ⟨hx, hb, hml, hown, hts⟩ (mtX0_spread l D t (bk 2) eb r5.1 r7 h7 _) (cwV 0 hts (gBV kw282 kw279 kw280 kw21 kw281) rfl rfl rfl (by decide +kernel) ⟨Nat.le_of_ble_eq_true rfl, Nat.le_of_ble_eq_true rfl⟩) (sPc_V hPc hK hDc hE (va_recv hK hP (ci := 0) (q0 := 17) rfl rfl)) rfl rfl hl.1 rfl (lv_room (Nat.le_of_ble_eq_true rfl)) dX2_ifShot_68 ⟨Nat.zero_le _, Nat.zero_le _⟩) (fun H locs hP hD hS => ?_)
    obtain rfl := oi h
    exact ret_i hx hb hr hlocks hP hK hD hS dX2_ifShot_71
  · have h := it_n c6 h
    by_cases c8 : w = 1
    · have h := it_p c8 h
      refine lv_lookup (off := 33) (tgt := 72) hx hb dX2_ifShot_39 (by decide) (by rw [c8]; decide) (by decide) ?_
      refine lv_aload_n hx hb dX2_ifShot_72 rfl (lv_at hl 0 rfl) ?_
      refine va_get (D := D) (ci := 2) (v := .ref (bk 1)) (C := RX2) (T := TX2) (N := 8) hx hb htB inlX2 hown hK hP 0 rfl rfl 1 (by decide) (htB _ kw18) (fun _ h9 => h9) rfl dX2_ifShot_73 ?_
      refine va_get (D := D) (ci := 1) (v := .ref (pb 0)) (C := RX1) (T := TX1) (N := 10) hx hb htB inlX1 hown hK hP 9 rfl rfl 0 (by decide) (htB _ kw72) (fun _ h9 => h9) rfl dX2_ifShot_76 ?_
      refine lv_iconst (v := 0) hx hb dX2_ifShot_79 (by decide) ?_
      obtain ⟨r9, h9, h⟩ := ob h
      refine call_i (v := r9) (wc := (gA t (pb 0) 2 r5.2.1)) (wc' := (gA t (pb 0) 2 r5.2.1)) (ws' := (gBo bh bk bo ++ (gS t (bk 0) nb now ++ (gS t (bk 1) pb r5.2 ++ (gE t (bk 2) eb r5.1))))) (cutI (wc := (gA t (pb 0) 2 r5.2.1)) (wc' := (gA t (pb 0) 2 r5.2.1)) (ws' := (gBo bh bk bo ++ (gS t (bk 0) nb now ++ (gS t (bk 1) pb r5.2 ++ (gE t (bk 2) eb r5.1))))) [10] hP hD hS hA rfl rfl rfl rfl) hS (fun hPc hDc => va_runS (As := [.ref (pb 0), .int 0]) (rest := []) ⟨hx, hb, hml, hown, hts⟩ (mtX2_at l D t (pb 0) 2 r5.2.1 0 r9 h9 (by decide) _) (va_cwS 2 hts (gBS kw104 kw105 kw2 kw106) rfl rfl rfl (by decide +kernel) ⟨Nat.le_of_ble_eq_true rfl, Nat.le_of_ble_eq_true rfl⟩) (sPc_S hPc hK hDc hE) rfl rfl hl.1 rfl (lv_room (Nat.le_of_ble_eq_true rfl)) dX2_ifShot_80 ⟨Nat.zero_le _, Nat.zero_le _⟩) (fun H locs hP hD hS => ?_)
      obtain rfl := oi h
      exact ret_i hx hb hr hlocks hP hK hD hS dX2_ifShot_83
    · have h := it_n c8 h
      refine lv_lookup (off := 45) (tgt := 84) hx hb dX2_ifShot_39 (by decide) (lk_out2 (lk_ne (by decide) c6) (lk_ne (by decide) c8)) (by decide) ?_
      refine lv_aload_n hx hb dX2_ifShot_84 rfl (lv_at hl 0 rfl) ?_
      refine va_get (D := D) (ci := 2) (v := .ref (bk 2)) (C := RX2) (T := TX2) (N := 8) hx hb htB inlX2 hown hK hP 0 rfl rfl 2 (by decide) (htB _ kw22) (fun _ h9 => h9) rfl dX2_ifShot_85 ?_
      refine va_get (D := D) (ci := 0) (v := .int r5.1.2.2.2.2.2.2.2.1) (C := RX0) (T := TX0) (N := 10) hx hb htB inlX0 hown hK hP 17 rfl rfl 7 (by decide) (htB _ kw479) (fun _ h9 => h9) rfl dX2_ifShot_88 ?_
      obtain rfl := oi h
      exact ret_i hx hb hr hlocks hP hK hD hS dX2_ifShot_91

theorem dX2_goodFor_0 : decode cX2_goodFor 0 = .ok (.iload_n 1, 1) := by decide +kernel
theorem dX2_goodFor_1 : decode cX2_goodFor 1 = .ok (.invokestatic 73, 3) := by decide +kernel
theorem dX2_goodFor_4 : decode cX2_goodFor 4 = .ok (.iload_n 2, 1) := by decide +kernel
theorem dX2_goodFor_5 : decode cX2_goodFor 5 = .ok (.iconst 0, 1) := by decide +kernel
theorem dX2_goodFor_6 : decode cX2_goodFor 6 = .ok (.sipush 999, 3) := by decide +kernel
theorem dX2_goodFor_9 : decode cX2_goodFor 9 = .ok (.invokestatic 48, 3) := by decide +kernel
theorem dX2_goodFor_12 : decode cX2_goodFor 12 = .ok (.aload_n 0, 1) := by decide +kernel
theorem dX2_goodFor_13 : decode cX2_goodFor 13 = .ok (.getfield 16, 3) := by decide +kernel
theorem dX2_goodFor_16 : decode cX2_goodFor 16 = .ok (.aload_n 0, 1) := by decide +kernel
theorem dX2_goodFor_17 : decode cX2_goodFor 17 = .ok (.getfield 10, 3) := by decide +kernel
theorem dX2_goodFor_20 : decode cX2_goodFor 20 = .ok (.invokevirtual 129, 3) := by decide +kernel
theorem dX2_goodFor_23 : decode cX2_goodFor 23 = .ok (.iconst 0, 1) := by decide +kernel
theorem dX2_goodFor_24 : decode cX2_goodFor 24 = .ok (.istore_n 3, 1) := by decide +kernel
theorem dX2_goodFor_25 : decode cX2_goodFor 25 = .ok (.iload_n 3, 1) := by decide +kernel
theorem dX2_goodFor_26 : decode cX2_goodFor 26 = .ok (.sipush 200, 3) := by decide +kernel
theorem dX2_goodFor_29 : decode cX2_goodFor 29 = .ok (.if_icmp .ge 46, 3) := by decide +kernel
theorem dX2_goodFor_32 : decode cX2_goodFor 32 = .ok (.aload_n 0, 1) := by decide +kernel
theorem dX2_goodFor_33 : decode cX2_goodFor 33 = .ok (.getfield 22, 3) := by decide +kernel
theorem dX2_goodFor_36 : decode cX2_goodFor 36 = .ok (.aload_n 0, 1) := by decide +kernel
theorem dX2_goodFor_37 : decode cX2_goodFor 37 = .ok (.getfield 16, 3) := by decide +kernel
theorem dX2_goodFor_40 : decode cX2_goodFor 40 = .ok (.iload_n 1, 1) := by decide +kernel
theorem dX2_goodFor_41 : decode cX2_goodFor 41 = .ok (.invokevirtual 143, 3) := by decide +kernel
theorem dX2_goodFor_44 : decode cX2_goodFor 44 = .ok (.aload_n 0, 1) := by decide +kernel
theorem dX2_goodFor_45 : decode cX2_goodFor 45 = .ok (.getfield 22, 3) := by decide +kernel
theorem dX2_goodFor_48 : decode cX2_goodFor 48 = .ok (.getfield 170, 3) := by decide +kernel
theorem dX2_goodFor_51 : decode cX2_goodFor 51 = .ok (.iload_n 2, 1) := by decide +kernel
theorem dX2_goodFor_52 : decode cX2_goodFor 52 = .ok (.if_icmp .le 5, 3) := by decide +kernel
theorem dX2_goodFor_55 : decode cX2_goodFor 55 = .ok (.iload_n 3, 1) := by decide +kernel
theorem dX2_goodFor_56 : decode cX2_goodFor 56 = .ok (.ireturn, 1) := by decide +kernel
theorem dX2_goodFor_57 : decode cX2_goodFor 57 = .ok (.aload_n 0, 1) := by decide +kernel
theorem dX2_goodFor_58 : decode cX2_goodFor 58 = .ok (.getfield 16, 3) := by decide +kernel
theorem dX2_goodFor_61 : decode cX2_goodFor 61 = .ok (.iload_n 1, 1) := by decide +kernel
theorem dX2_goodFor_62 : decode cX2_goodFor 62 = .ok (.aload_n 0, 1) := by decide +kernel
theorem dX2_goodFor_63 : decode cX2_goodFor 63 = .ok (.getfield 22, 3) := by decide +kernel
theorem dX2_goodFor_66 : decode cX2_goodFor 66 = .ok (.invokevirtual 197, 3) := by decide +kernel
theorem dX2_goodFor_69 : decode cX2_goodFor 69 = .ok (.iinc 3 1, 3) := by decide +kernel
theorem dX2_goodFor_72 : decode cX2_goodFor 72 = .ok (.goto (-47), 3) := by decide +kernel
theorem dX2_goodFor_75 : decode cX2_goodFor 75 = .ok (.sipush 200, 3) := by decide +kernel
theorem dX2_goodFor_78 : decode cX2_goodFor 78 = .ok (.ireturn, 1) := by decide +kernel
abbrev zX2_goodFor : List Cond := .code yX2_goodFor cX2_goodFor 4 (some .int) :: BIG
def fX2_goodFor_l25 (bo : BoT) (now : ShT)  (K25 : (ShT × ExT × Int32 × Int32 × Int32) → Option (Nat ⊕ (Int32 × ShT × ExT))) (v25 : ShT × ExT × Int32 × Int32 × Int32) : Option (Nat ⊕ (Int32 × ShT × ExT)) := (if 200 ≤ v25.2.2.2.2 then some (.inr (200, v25.1, v25.2.1)) else (fX0_expose v25.2.1 v25.1 v25.2.2.1).bind (fun r5 => (if r5.2.2.2.2.2.2.2.1 ≤ v25.2.2.2.1 then (fX1_tally v25.1 r5 v25.2.2.1).bind (fun r7 => K25 (r7, r5, v25.2.2.1, v25.2.2.2.1, v25.2.2.2.2 + 1)) else some (.inr (v25.2.2.2.2, v25.1, r5)))))
def fX2_goodFor (bo : BoT) (now : ShT) (pr : ShT) (ex : ExT) (v : Int32) (n : Int32) : Option (Nat ⊕ (Int32 × ShT × ExT)) := tb (fX2_needSpeed v) (fun r1 => tb (fX2_needRange n 0 999) (fun r2 => (fX1_become pr now).bind (fun r3 => lp (fX2_goodFor_l25 bo now) 2000 (r3, ex, v, n, 0))))
set_option maxHeartbeats 4000000 in
set_option maxRecDepth 100000 in
theorem mtX2_goodFor (l : Launch) (D : va_G) (t : Nat → ClassId) (bh : Nat) (bk : Nat → Nat) (bo : BoT) (nb : Nat → Nat) (now : ShT) (pb : Nat → Nat) (pr : ShT) (eb : Nat → Nat) (ex : ExT) (v : Int32) (n : Int32) (out : Int32 × ShT × ExT) (h : fX2_goodFor bo now pr ex v n = some (.inr out))  (sz : Nat) : Met l yX2_goodFor zX2_goodFor ({ frames := 4, cells := 0, slots := 0, locals := 93 }) (sPc D t (gBo bh bk bo ++ (gS t (bk 0) nb now ++ (gS t (bk 1) pb pr ++ (gE t (bk 2) eb ex)))) sz [.ref bh, .int v, .int n]) (qI D t (gBo bh bk bo ++ (gS t (bk 0) nb now ++ (gS t (bk 1) pb out.2.1 ++ (gE t (bk 2) eb out.2.2)))) out.1 (va_A (gBo bh bk bo ++ (gS t (bk 0) nb now ++ (gS t (bk 1) pb pr ++ (gE t (bk 2) eb ex)))) sz)) 0 0 (va_A (gBo bh bk bo ++ (gS t (bk 0) nb now ++ (gS t (bk 1) pb pr ++ (gE t (bk 2) eb ex)))) sz) := by
  refine met_of (Qf := fun A => qI D t (gBo bh bk bo ++ (gS t (bk 0) nb now ++ (gS t (bk 1) pb out.2.1 ++ (gE t (bk 2) eb out.2.2)))) out.1 A) (cc := cX2_goodFor) (maxL := 4) (ret := some .int) (by decide) rfl (Nat.le_of_ble_eq_true rfl) ?_
  intro p e s m args below meth c A hx hb hr hml hts hown hlocks hA hP hK hD hE hS ls hl
  have htB : ∀ w ∈ BIG, w.before args s = true := fun w h => hts w (List.mem_cons_of_mem _ h)
  have hown : s.vm.findClass RX2 = some m.cls := hown
  have hl : lv_has ls 4 [(0, .ref bh), (1, .int v), (2, .int n)] := hl
  unfold fX2_goodFor at h
  have J25 : ∀ (fu25 : Nat) (v25 : ShT × ExT × Int32 × Int32 × Int32), lp (fX2_goodFor_l25 bo now) fu25 v25 = some (.inr out) → ∀ (H : Heap) (locs : List Loc), va_P D vwCl (gBo bh bk bo ++ (gS t (bk 0) nb now ++ (gS t (bk 1) pb v25.1 ++ (gE t (bk 2) eb v25.2.1)))) H → va_D A (gBo bh bk bo ++ (gS t (bk 0) nb now ++ (gS t (bk 1) pb v25.1 ++ (gE t (bk 2) eb v25.2.1)))) → va_S A s.heap H locs → ∀ ls : Array Slot, lv_has ls 4 [(0, .ref bh), (1, .int v25.2.2.1), (2, .int v25.2.2.2.1), (3, .int v25.2.2.2.2)] → W p l e ({ frames := 4, cells := 0, slots := 0, locals := 93 }) s m args below meth c H locs 0 0 (MQ below (qI D t (gBo bh bk bo ++ (gS t (bk 0) nb now ++ (gS t (bk 1) pb out.2.1 ++ (gE t (bk 2) eb out.2.2)))) out.1 A) args s 0 0 A) (F0 m 25 ls []) := by
    intro fu25
    induction fu25 with
    | zero => intro v25 h; cases h
    | succ fu25 ih25 =>
      intro v25 h H locs hP hD hS ls hl
      have h : fX2_goodFor_l25 bo now (lp (fX2_goodFor_l25 bo now) fu25) v25 = some (.inr out) := h
      unfold fX2_goodFor_l25 at h
      refine lv_iload_n hx hb dX2_goodFor_25 rfl (lv_at hl 3 rfl) ?_
      refine lv_sipush (v := 200) hx hb dX2_goodFor_26 (by decide) ?_
      refine lv_icmp_ge (tgt := 75) hx hb dX2_goodFor_29 (by decide) (fun c4 => ?_) (fun c4 => ?_)
      · have h := it_p c4 h
        refine lv_sipush (v := 200) hx hb dX2_goodFor_75 (by decide) ?_
        obtain rfl := oi h
        exact ret_i hx hb hr hlocks hP hK hD hS dX2_goodFor_78
      · have h := it_n c4 h
        refine lv_aload_n hx hb dX2_goodFor_32 rfl (lv_at hl 0 rfl) ?_
        refine va_get (D := D) (ci := 2) (v := .ref (bk 2)) (C := RX2) (T := TX2) (N := 8) hx hb htB inlX2 hown hK hP 0 rfl rfl 2 (by decide) (htB _ kw22) (fun _ h9 => h9) rfl dX2_goodFor_33 ?_
        refine lv_aload_n hx hb dX2_goodFor_36 rfl (lv_at hl 0 rfl) ?_
        refine va_get (D := D) (ci := 2) (v := .ref (bk 1)) (C := RX2) (T := TX2) (N := 8) hx hb htB inlX2 hown hK hP 0 rfl rfl 1 (by decide) (htB _ kw18) (fun _ h9 => h9) rfl dX2_goodFor_37 ?_
        refine lv_iload_n hx hb dX2_goodFor_40 rfl (lv_at hl 1 rfl) ?_
        obtain ⟨r5, h5, h⟩ := ob h
        refine call_v (wc := (gE t (bk 2) eb v25.2.1 ++ (gS t (bk 1) pb v25.1))) (wc' := (gE t (bk 2) eb r5 ++ (gS t (bk 1) pb v25.1))) (ws' := (gBo bh bk bo ++ (gS t (bk 0) nb now ++ (gS t (bk 1) pb v25.1 ++ (gE t (bk 2) eb r5))))) (cutB (bs := [gBo bh bk bo, gS t (bk 0) nb now, gS t (bk 1) pb v25.1, gE t (bk 2) eb v25.2.1]) (cs := [gE t (bk 2) eb v25.2.1, gS t (bk 1) pb v25.1]) (cs' := [gE t (bk 2) eb r5, gS t (bk 1) pb v25.1]) (bs' := [gBo bh bk bo, gS t (bk 0) nb now, gS t (bk 1) pb v25.1, gE t (bk 2) eb r5]) [3, 2] hP hD hS hA rfl rfl rfl rfl) hS (fun hPc hDc => va_runV (As := [.ref (bk 1), .int v25.2.2.1]) (rest := []) ⟨hx, hb, hml, hown, hts⟩ (mtX0_expose l D t (bk 2) eb v25.2.1 (bk 1) pb v25.1 v25.2.2.1 r5 h5 _) (cwV 2 hts (gBV kw224 kw225 kw226 kw21 kw227) rfl rfl rfl (by decide +kernel) ⟨Nat.le_of_ble_eq_true rfl, Nat.le_of_ble_eq_true rfl⟩) (sPc_V hPc hK hDc hE (va_recv hK hP (ci := 0) (q0 := 17) rfl rfl)) rfl rfl hl.1 rfl (lv_room (Nat.le_of_ble_eq_true rfl)) dX2_goodFor_41 ⟨Nat.zero_le _, Nat.zero_le _⟩) (fun H locs hP hD hS => ?_)
        refine lv_aload_n hx hb dX2_goodFor_44 rfl (lv_at hl 0 rfl) ?_
        refine va_get (D := D) (ci := 2) (v := .ref (bk 2)) (C := RX2) (T := TX2) (N := 8) hx hb htB inlX2 hown hK hP 0 rfl rfl 2 (by decide) (htB _ kw22) (fun _ h9 => h9) rfl dX2_goodFor_45 ?_
        refine va_get (D := D) (ci := 0) (v := .int r5.2.2.2.2.2.2.2.1) (C := RX0) (T := TX0) (N := 10) hx hb htB inlX0 hown hK hP 17 rfl rfl 7 (by decide) (htB _ kw479) (fun _ h9 => h9) rfl dX2_goodFor_48 ?_
        refine lv_iload_n hx hb dX2_goodFor_51 rfl (lv_at hl 2 rfl) ?_
        refine lv_icmp_le (tgt := 57) hx hb dX2_goodFor_52 (by decide) (fun c6 => ?_) (fun c6 => ?_)
        · have h := it_p c6 h
          refine lv_aload_n hx hb dX2_goodFor_57 rfl (lv_at hl 0 rfl) ?_
          refine va_get (D := D) (ci := 2) (v := .ref (bk 1)) (C := RX2) (T := TX2) (N := 8) hx hb htB inlX2 hown hK hP 0 rfl rfl 1 (by decide) (htB _ kw18) (fun _ h9 => h9) rfl dX2_goodFor_58 ?_
          refine lv_iload_n hx hb dX2_goodFor_61 rfl (lv_at hl 1 rfl) ?_
          refine lv_aload_n hx hb dX2_goodFor_62 rfl (lv_at hl 0 rfl) ?_
          refine va_get (D := D) (ci := 2) (v := .ref (bk 2)) (C := RX2) (T := TX2) (N := 8) hx hb htB inlX2 hown hK hP 0 rfl rfl 2 (by decide) (htB _ kw22) (fun _ h9 => h9) rfl dX2_goodFor_63 ?_
          obtain ⟨r7, h7, h⟩ := ob h
          refine call_v (wc := (gS t (bk 1) pb v25.1 ++ (gE t (bk 2) eb r5))) (wc' := (gS t (bk 1) pb r7 ++ (gE t (bk 2) eb r5))) (ws' := (gBo bh bk bo ++ (gS t (bk 0) nb now ++ (gS t (bk 1) pb r7 ++ (gE t (bk 2) eb r5))))) (cutB (bs := [gBo bh bk bo, gS t (bk 0) nb now, gS t (bk 1) pb v25.1, gE t (bk 2) eb r5]) (cs := [gS t (bk 1) pb v25.1, gE t (bk 2) eb r5]) (cs' := [gS t (bk 1) pb r7, gE t (bk 2) eb r5]) (bs' := [gBo bh bk bo, gS t (bk 0) nb now, gS t (bk 1) pb r7, gE t (bk 2) eb r5]) [2, 3] hP hD hS hA rfl rfl rfl rfl) hS (fun hPc hDc => va_runV (As := [.int v25.2.2.1, .ref (bk 2)]) (rest := []) ⟨hx, hb, hml, hown, hts⟩ (mtX1_tally l D t (bk 1) pb v25.1 (bk 2) eb r5 v25.2.2.1 r7 h7 _) (cwV 2 hts (gBV kw273 kw274 kw275 kw16 kw276) rfl rfl rfl (by decide +kernel) ⟨Nat.le_of_ble_eq_true rfl, Nat.le_of_ble_eq_true rfl⟩) (sPc_V hPc hK hDc hE (va_recv hK hP (ci := 1) (q0 := 9) rfl rfl)) rfl rfl hl.1 rfl (lv_room (Nat.le_of_ble_eq_true rfl)) dX2_goodFor_66 ⟨Nat.zero_le _, Nat.zero_le _⟩) (fun H locs hP hD hS => ?_)
          refine lv_iinc (v := v25.2.2.2.2 + 1) (lv' := [(3, .int (v25.2.2.2.2 + 1)), (0, .ref bh), (1, .int v25.2.2.1), (2, .int v25.2.2.2.1)]) hx hb dX2_goodFor_69 hl (k := 3) rfl rfl (by decide) rfl (fun ls hl => ?_)
          refine lv_goto (tgt := 25) hx hb dX2_goodFor_72 (by decide) ?_
          exact ih25 (r7, r5, v25.2.2.1, v25.2.2.2.1, v25.2.2.2.2 + 1) h _ _ hP hD hS _ (lv_sub hl [1, 2, 3, 0] rfl)
        · have h := it_n c6 h
          refine lv_iload_n hx hb dX2_goodFor_55 rfl (lv_at hl 3 rfl) ?_
          obtain rfl := oi h
          exact ret_i hx hb hr hlocks hP hK hD hS dX2_goodFor_56
  refine lv_iload_n hx hb dX2_goodFor_0 rfl (lv_at hl 1 rfl) ?_
  obtain ⟨r1, h1, h⟩ := tb_r h
  refine call_v (wc := ([] : va_W)) (wc' := ([] : va_W)) (ws' := (gBo bh bk bo ++ (gS t (bk 0) nb now ++ (gS t (bk 1) pb pr ++ (gE t (bk 2) eb ex))))) (cutB (bs := [gBo bh bk bo, gS t (bk 0) nb now, gS t (bk 1) pb pr, gE t (bk 2) eb ex]) (cs := []) (cs' := []) (bs' := [gBo bh bk bo, gS t (bk 0) nb now, gS t (bk 1) pb pr, gE t (bk 2) eb ex]) [] hP hD hS hA rfl rfl rfl rfl) hS (fun hPc hDc => va_runS (As := [.int v]) (rest := []) ⟨hx, hb, hml, hown, hts⟩ (mtX2_needSpeed l D t v r1 h1 _) (va_cwS 1 hts (gBS kw179 kw180 kw2 kw181) rfl rfl rfl (by decide +kernel) ⟨Nat.le_of_ble_eq_true rfl, Nat.le_of_ble_eq_true rfl⟩) (sPc_S hPc hK hDc hE) rfl rfl hl.1 rfl (lv_room (Nat.le_of_ble_eq_true rfl)) dX2_goodFor_1 ⟨Nat.zero_le _, Nat.zero_le _⟩) (fun H locs hP hD hS => ?_)
  refine lv_iload_n hx hb dX2_goodFor_4 rfl (lv_at hl 2 rfl) ?_
  refine lv_iconst (v := 0) hx hb dX2_goodFor_5 (by decide) ?_
  refine lv_sipush (v := 999) hx hb dX2_goodFor_6 (by decide) ?_
  obtain ⟨r2, h2, h⟩ := tb_r h
  refine call_v (wc := ([] : va_W)) (wc' := ([] : va_W)) (ws' := (gBo bh bk bo ++ (gS t (bk 0) nb now ++ (gS t (bk 1) pb pr ++ (gE t (bk 2) eb ex))))) (cutB (bs := [gBo bh bk bo, gS t (bk 0) nb now, gS t (bk 1) pb pr, gE t (bk 2) eb ex]) (cs := []) (cs' := []) (bs' := [gBo bh bk bo, gS t (bk 0) nb now, gS t (bk 1) pb pr, gE t (bk 2) eb ex]) [] hP hD hS hA rfl rfl rfl rfl) hS (fun hPc hDc => va_runS (As := [.int n, .int 0, .int 999]) (rest := []) ⟨hx, hb, hml, hown, hts⟩ (mtX2_needRange l D t n 0 999 r2 h2 _) (va_cwS 3 hts (gBS kw81 kw82 kw2 kw83) rfl rfl rfl (by decide +kernel) ⟨Nat.le_of_ble_eq_true rfl, Nat.le_of_ble_eq_true rfl⟩) (sPc_S hPc hK hDc hE) rfl rfl hl.1 rfl (lv_room (Nat.le_of_ble_eq_true rfl)) dX2_goodFor_9 ⟨Nat.zero_le _, Nat.zero_le _⟩) (fun H locs hP hD hS => ?_)
  refine lv_aload_n hx hb dX2_goodFor_12 rfl (lv_at hl 0 rfl) ?_
  refine va_get (D := D) (ci := 2) (v := .ref (bk 1)) (C := RX2) (T := TX2) (N := 8) hx hb htB inlX2 hown hK hP 0 rfl rfl 1 (by decide) (htB _ kw18) (fun _ h9 => h9) rfl dX2_goodFor_13 ?_
  refine lv_aload_n hx hb dX2_goodFor_16 rfl (lv_at hl 0 rfl) ?_
  refine va_get (D := D) (ci := 2) (v := .ref (bk 0)) (C := RX2) (T := TX2) (N := 8) hx hb htB inlX2 hown hK hP 0 rfl rfl 0 (by decide) (htB _ kw17) (fun _ h9 => h9) rfl dX2_goodFor_17 ?_
  obtain ⟨r3, h3, h⟩ := ob h
  refine call_v (wc := (gS t (bk 1) pb pr ++ (gS t (bk 0) nb now))) (wc' := (gS t (bk 1) pb r3 ++ (gS t (bk 0) nb now))) (ws' := (gBo bh bk bo ++ (gS t (bk 0) nb now ++ (gS t (bk 1) pb r3 ++ (gE t (bk 2) eb ex))))) (cutB (bs := [gBo bh bk bo, gS t (bk 0) nb now, gS t (bk 1) pb pr, gE t (bk 2) eb ex]) (cs := [gS t (bk 1) pb pr, gS t (bk 0) nb now]) (cs' := [gS t (bk 1) pb r3, gS t (bk 0) nb now]) (bs' := [gBo bh bk bo, gS t (bk 0) nb now, gS t (bk 1) pb r3, gE t (bk 2) eb ex]) [2, 1] hP hD hS hA rfl rfl rfl rfl) hS (fun hPc hDc => va_runV (As := [.ref (bk 0)]) (rest := []) ⟨hx, hb, hml, hown, hts⟩ (mtX1_become l D t (bk 1) pb pr (bk 0) nb now r3 h3 _) (cwV 1 hts (gBV kw98 kw99 kw100 kw16 kw101) rfl rfl rfl (by decide +kernel) ⟨Nat.le_of_ble_eq_true rfl, Nat.le_of_ble_eq_true rfl⟩) (sPc_V hPc hK hDc hE (va_recv hK hP (ci := 1) (q0 := 9) rfl rfl)) rfl rfl hl.1 rfl (lv_room (Nat.le_of_ble_eq_true rfl)) dX2_goodFor_20 ⟨Nat.zero_le _, Nat.zero_le _⟩) (fun H locs hP hD hS => ?_)
  refine lv_iconst (v := 0) hx hb dX2_goodFor_23 (by decide) ?_
  refine lv_istore_n (lv' := [(3, .int 0), (0, .ref bh), (1, .int v), (2, .int n)]) hx hb dX2_goodFor_24 rfl hl (by decide) rfl (fun ls hl => ?_)
  exact J25 2000 (r3, ex, v, n, 0) h _ _ hP hD hS _ (lv_sub hl [1, 2, 3, 0] rfl)

theorem dX2_evenness_0 : decode cX2_evenness 0 = .ok (.iload_n 1, 1) := by decide +kernel
theorem dX2_evenness_1 : decode cX2_evenness 1 = .ok (.invokestatic 73, 3) := by decide +kernel
theorem dX2_evenness_4 : decode cX2_evenness 4 = .ok (.aload_n 0, 1) := by decide +kernel
theorem dX2_evenness_5 : decode cX2_evenness 5 = .ok (.getfield 22, 3) := by decide +kernel
theorem dX2_evenness_8 : decode cX2_evenness 8 = .ok (.aload_n 0, 1) := by decide +kernel
theorem dX2_evenness_9 : decode cX2_evenness 9 = .ok (.getfield 10, 3) := by decide +kernel
theorem dX2_evenness_12 : decode cX2_evenness 12 = .ok (.iload_n 1, 1) := by decide +kernel
theorem dX2_evenness_13 : decode cX2_evenness 13 = .ok (.invokevirtual 143, 3) := by decide +kernel
theorem dX2_evenness_16 : decode cX2_evenness 16 = .ok (.aload_n 0, 1) := by decide +kernel
theorem dX2_evenness_17 : decode cX2_evenness 17 = .ok (.getfield 22, 3) := by decide +kernel
theorem dX2_evenness_20 : decode cX2_evenness 20 = .ok (.getfield 201, 3) := by decide +kernel
theorem dX2_evenness_23 : decode cX2_evenness 23 = .ok (.ifCond .gt 5, 3) := by decide +kernel
theorem dX2_evenness_26 : decode cX2_evenness 26 = .ok (.dconst 1, 1) := by decide +kernel
theorem dX2_evenness_27 : decode cX2_evenness 27 = .ok (.dreturn, 1) := by decide +kernel
theorem dX2_evenness_28 : decode cX2_evenness 28 = .ok (.aload_n 0, 1) := by decide +kernel
theorem dX2_evenness_29 : decode cX2_evenness 29 = .ok (.getfield 22, 3) := by decide +kernel
theorem dX2_evenness_32 : decode cX2_evenness 32 = .ok (.getfield 204, 3) := by decide +kernel
theorem dX2_evenness_35 : decode cX2_evenness 35 = .ok (.i2d, 1) := by decide +kernel
theorem dX2_evenness_36 : decode cX2_evenness 36 = .ok (.aload_n 0, 1) := by decide +kernel
theorem dX2_evenness_37 : decode cX2_evenness 37 = .ok (.getfield 22, 3) := by decide +kernel
theorem dX2_evenness_40 : decode cX2_evenness 40 = .ok (.getfield 201, 3) := by decide +kernel
theorem dX2_evenness_43 : decode cX2_evenness 43 = .ok (.i2d, 1) := by decide +kernel
theorem dX2_evenness_44 : decode cX2_evenness 44 = .ok (.ddiv, 1) := by decide +kernel
theorem dX2_evenness_45 : decode cX2_evenness 45 = .ok (.dreturn, 1) := by decide +kernel
abbrev zX2_evenness : List Cond := .code yX2_evenness cX2_evenness 2 (some .double) :: BIG
def fX2_evenness (bo : BoT) (now : ShT) (ex : ExT) (v : Int32) : Option (Nat ⊕ (UInt64 × ExT)) := tb (fX2_needSpeed v) (fun r1 => (fX0_expose ex now v).bind (fun r2 => (if 0 < r2.2.2.2.2.2.1 then gd (nn64 (FP.ddiv (FP.i2d r2.2.2.2.2.1) (FP.i2d r2.2.2.2.2.2.1))) (some (.inr (FP.ddiv (FP.i2d r2.2.2.2.2.1) (FP.i2d r2.2.2.2.2.2.1), r2))) else some (.inr (FP.dconst1, r2)))))
set_option maxHeartbeats 4000000 in
set_option maxRecDepth 100000 in
theorem mtX2_evenness (l : Launch) (D : va_G) (t : Nat → ClassId) (bh : Nat) (bk : Nat → Nat) (bo : BoT) (nb : Nat → Nat) (now : ShT) (eb : Nat → Nat) (ex : ExT) (v : Int32) (out : UInt64 × ExT) (h : fX2_evenness bo now ex v = some (.inr out))  (sz : Nat) : Met l yX2_evenness zX2_evenness ({ frames := 4, cells := 0, slots := 0, locals := 93 }) (sPc D t (gBo bh bk bo ++ (gS t (bk 0) nb now ++ (gE t (bk 2) eb ex))) sz [.ref bh, .int v]) (qD D t (gBo bh bk bo ++ (gS t (bk 0) nb now ++ (gE t (bk 2) eb out.2))) out.1 (va_A (gBo bh bk bo ++ (gS t (bk 0) nb now ++ (gE t (bk 2) eb ex))) sz)) 0 0 (va_A (gBo bh bk bo ++ (gS t (bk 0) nb now ++ (gE t (bk 2) eb ex))) sz) := by
  refine met_of (Qf := fun A => qD D t (gBo bh bk bo ++ (gS t (bk 0) nb now ++ (gE t (bk 2) eb out.2))) out.1 A) (cc := cX2_evenness) (maxL := 2) (ret := some .double) (by decide) rfl (Nat.le_of_ble_eq_true rfl) ?_
  intro p e s m args below meth c A hx hb hr hml hts hown hlocks hA hP hK hD hE hS ls hl
  have htB : ∀ w ∈ BIG, w.before args s = true := fun w h => hts w (List.mem_cons_of_mem _ h)
  have hown : s.vm.findClass RX2 = some m.cls := hown
  have hl : lv_has ls 2 [(0, .ref bh), (1, .int v)] := hl
  unfold fX2_evenness at h
  refine lv_iload_n hx hb dX2_evenness_0 rfl (lv_at hl 1 rfl) ?_
  obtain ⟨r1, h1, h⟩ := tb_r h
  refine call_v (wc := ([] : va_W)) (wc' := ([] : va_W)) (ws' := (gBo bh bk bo ++ (gS t (bk 0) nb now ++ (gE t (bk 2) eb ex)))) (cutB (bs := [gBo bh bk bo, gS t (bk 0) nb now, gE t (bk 2) eb ex]) (cs := []) (cs' := []) (bs' := [gBo bh bk bo, gS t (bk 0) nb now, gE t (bk 2) eb ex]) [] hP hD hS hA rfl rfl rfl rfl) hS (fun hPc hDc => va_runS (As := [.int v]) (rest := []) ⟨hx, hb, hml, hown, hts⟩ (mtX2_needSpeed l D t v r1 h1 _) (va_cwS 1 hts (gBS kw179 kw180 kw2 kw181) rfl rfl rfl (by decide +kernel) ⟨Nat.le_of_ble_eq_true rfl, Nat.le_of_ble_eq_true rfl⟩) (sPc_S hPc hK hDc hE) rfl rfl hl.1 rfl (lv_room (Nat.le_of_ble_eq_true rfl)) dX2_evenness_1 ⟨Nat.zero_le _, Nat.zero_le _⟩) (fun H locs hP hD hS => ?_)
  refine lv_aload_n hx hb dX2_evenness_4 rfl (lv_at hl 0 rfl) ?_
  refine va_get (D := D) (ci := 2) (v := .ref (bk 2)) (C := RX2) (T := TX2) (N := 8) hx hb htB inlX2 hown hK hP 0 rfl rfl 2 (by decide) (htB _ kw22) (fun _ h9 => h9) rfl dX2_evenness_5 ?_
  refine lv_aload_n hx hb dX2_evenness_8 rfl (lv_at hl 0 rfl) ?_
  refine va_get (D := D) (ci := 2) (v := .ref (bk 0)) (C := RX2) (T := TX2) (N := 8) hx hb htB inlX2 hown hK hP 0 rfl rfl 0 (by decide) (htB _ kw17) (fun _ h9 => h9) rfl dX2_evenness_9 ?_
  refine lv_iload_n hx hb dX2_evenness_12 rfl (lv_at hl 1 rfl) ?_
  obtain ⟨r2, h2, h⟩ := ob h
  refine call_v (wc := (gE t (bk 2) eb ex ++ (gS t (bk 0) nb now))) (wc' := (gE t (bk 2) eb r2 ++ (gS t (bk 0) nb now))) (ws' := (gBo bh bk bo ++ (gS t (bk 0) nb now ++ (gE t (bk 2) eb r2)))) (cutB (bs := [gBo bh bk bo, gS t (bk 0) nb now, gE t (bk 2) eb ex]) (cs := [gE t (bk 2) eb ex, gS t (bk 0) nb now]) (cs' := [gE t (bk 2) eb r2, gS t (bk 0) nb now]) (bs' := [gBo bh bk bo, gS t (bk 0) nb now, gE t (bk 2) eb r2]) [2, 1] hP hD hS hA rfl rfl rfl rfl) hS (fun hPc hDc => va_runV (As := [.ref (bk 0), .int v]) (rest := []) ⟨hx, hb, hml, hown, hts⟩ (mtX0_expose l D t (bk 2) eb ex (bk 0) nb now v r2 h2 _) (cwV 2 hts (gBV kw224 kw225 kw226 kw21 kw227) rfl rfl rfl (by decide +kernel) ⟨Nat.le_of_ble_eq_true rfl, Nat.le_of_ble_eq_true rfl⟩) (sPc_V hPc hK hDc hE (va_recv hK hP (ci := 0) (q0 := 9) rfl rfl)) rfl rfl hl.1 rfl (lv_room (Nat.le_of_ble_eq_true rfl)) dX2_evenness_13 ⟨Nat.zero_le _, Nat.zero_le _⟩) (fun H locs hP hD hS => ?_)
  refine lv_aload_n hx hb dX2_evenness_16 rfl (lv_at hl 0 rfl) ?_
  refine va_get (D := D) (ci := 2) (v := .ref (bk 2)) (C := RX2) (T := TX2) (N := 8) hx hb htB inlX2 hown hK hP 0 rfl rfl 2 (by decide) (htB _ kw22) (fun _ h9 => h9) rfl dX2_evenness_17 ?_
  refine va_get (D := D) (ci := 0) (v := .int r2.2.2.2.2.2.1) (C := RX0) (T := TX0) (N := 10) hx hb htB inlX0 hown hK hP 9 rfl rfl 5 (by decide) (htB _ kw586) (fun _ h9 => h9) rfl dX2_evenness_20 ?_
  refine lv_if_gt (tgt := 28) hx hb dX2_evenness_23 (by decide) (fun c3 => ?_) (fun c3 => ?_)
  · have h := it_p c3 h
    refine lv_aload_n hx hb dX2_evenness_28 rfl (lv_at hl 0 rfl) ?_
    refine va_get (D := D) (ci := 2) (v := .ref (bk 2)) (C := RX2) (T := TX2) (N := 8) hx hb htB inlX2 hown hK hP 0 rfl rfl 2 (by decide) (htB _ kw22) (fun _ h9 => h9) rfl dX2_evenness_29 ?_
    refine va_get (D := D) (ci := 0) (v := .int r2.2.2.2.2.1) (C := RX0) (T := TX0) (N := 10) hx hb htB inlX0 hown hK hP 9 rfl rfl 4 (by decide) (htB _ kw587) (fun _ h9 => h9) rfl dX2_evenness_32 ?_
    refine lv_i2d hx hb dX2_evenness_35 ?_
    refine lv_aload_n hx hb dX2_evenness_36 rfl (lv_at hl 0 rfl) ?_
    refine va_get (D := D) (ci := 2) (v := .ref (bk 2)) (C := RX2) (T := TX2) (N := 8) hx hb htB inlX2 hown hK hP 0 rfl rfl 2 (by decide) (htB _ kw22) (fun _ h9 => h9) rfl dX2_evenness_37 ?_
    refine va_get (D := D) (ci := 0) (v := .int r2.2.2.2.2.2.1) (C := RX0) (T := TX0) (N := 10) hx hb htB inlX0 hown hK hP 9 rfl rfl 5 (by decide) (htB _ kw586) (fun _ h9 => h9) rfl dX2_evenness_40 ?_
    refine lv_i2d hx hb dX2_evenness_43 ?_
    obtain ⟨g4, h⟩ := og h
    refine lv_ddiv hx hb dX2_evenness_44 (nn_n64 g4) ?_
    obtain rfl := oi h
    exact ret_d hx hb hr hlocks hP hK hD hS dX2_evenness_45
  · have h := it_n c3 h
    refine lv_dconst1 hx hb dX2_evenness_26 ?_
    obtain rfl := oi h
    exact ret_d hx hb hr hlocks hP hK hD hS dX2_evenness_27

theorem dX2_mixCurtains_0 : decode cX2_mixCurtains 0 = .ok (.lload_n 1, 1) := by decide +kernel
theorem dX2_mixCurtains_1 : decode cX2_mixCurtains 1 = .ok (.lstore_n 3, 1) := by decide +kernel
theorem dX2_mixCurtains_2 : decode cX2_mixCurtains 2 = .ok (.iconst 0, 1) := by decide +kernel
theorem dX2_mixCurtains_3 : decode cX2_mixCurtains 3 = .ok (.istore 5, 2) := by decide +kernel
theorem dX2_mixCurtains_5 : decode cX2_mixCurtains 5 = .ok (.iload 5, 2) := by decide +kernel
theorem dX2_mixCurtains_7 : decode cX2_mixCurtains 7 = .ok (.iconst 2, 1) := by decide +kernel
theorem dX2_mixCurtains_8 : decode cX2_mixCurtains 8 = .ok (.if_icmp .ge 74, 3) := by decide +kernel
theorem dX2_mixCurtains_11 : decode cX2_mixCurtains 11 = .ok (.iconst 0, 1) := by decide +kernel
theorem dX2_mixCurtains_12 : decode cX2_mixCurtains 12 = .ok (.istore 6, 2) := by decide +kernel
theorem dX2_mixCurtains_14 : decode cX2_mixCurtains 14 = .ok (.iload 6, 2) := by decide +kernel
theorem dX2_mixCurtains_16 : decode cX2_mixCurtains 16 = .ok (.iconst 3, 1) := by decide +kernel
theorem dX2_mixCurtains_17 : decode cX2_mixCurtains 17 = .ok (.if_icmp .gt 23, 3) := by decide +kernel
theorem dX2_mixCurtains_20 : decode cX2_mixCurtains 20 = .ok (.lload_n 3, 1) := by decide +kernel
theorem dX2_mixCurtains_21 : decode cX2_mixCurtains 21 = .ok (.aload_n 0, 1) := by decide +kernel
theorem dX2_mixCurtains_22 : decode cX2_mixCurtains 22 = .ok (.iload 5, 2) := by decide +kernel
theorem dX2_mixCurtains_24 : decode cX2_mixCurtains 24 = .ok (.iload 6, 2) := by decide +kernel
theorem dX2_mixCurtains_26 : decode cX2_mixCurtains 26 = .ok (.invokevirtual 251, 3) := by decide +kernel
theorem dX2_mixCurtains_29 : decode cX2_mixCurtains 29 = .ok (.i2l, 1) := by decide +kernel
theorem dX2_mixCurtains_30 : decode cX2_mixCurtains 30 = .ok (.invokestatic 212, 3) := by decide +kernel
theorem dX2_mixCurtains_33 : decode cX2_mixCurtains 33 = .ok (.lstore_n 3, 1) := by decide +kernel
theorem dX2_mixCurtains_34 : decode cX2_mixCurtains 34 = .ok (.iinc 6 1, 3) := by decide +kernel
theorem dX2_mixCurtains_37 : decode cX2_mixCurtains 37 = .ok (.goto (-23), 3) := by decide +kernel
theorem dX2_mixCurtains_40 : decode cX2_mixCurtains 40 = .ok (.iconst 0, 1) := by decide +kernel
theorem dX2_mixCurtains_41 : decode cX2_mixCurtains 41 = .ok (.istore 6, 2) := by decide +kernel
theorem dX2_mixCurtains_43 : decode cX2_mixCurtains 43 = .ok (.iload 6, 2) := by decide +kernel
theorem dX2_mixCurtains_45 : decode cX2_mixCurtains 45 = .ok (.bipush 24, 2) := by decide +kernel
theorem dX2_mixCurtains_47 : decode cX2_mixCurtains 47 = .ok (.if_icmp .ge 29, 3) := by decide +kernel
theorem dX2_mixCurtains_50 : decode cX2_mixCurtains 50 = .ok (.lload_n 3, 1) := by decide +kernel
theorem dX2_mixCurtains_51 : decode cX2_mixCurtains 51 = .ok (.aload_n 0, 1) := by decide +kernel
theorem dX2_mixCurtains_52 : decode cX2_mixCurtains 52 = .ok (.getfield 10, 3) := by decide +kernel
theorem dX2_mixCurtains_55 : decode cX2_mixCurtains 55 = .ok (.iload 5, 2) := by decide +kernel
theorem dX2_mixCurtains_57 : decode cX2_mixCurtains 57 = .ok (.invokevirtual 66, 3) := by decide +kernel
theorem dX2_mixCurtains_60 : decode cX2_mixCurtains 60 = .ok (.iload 6, 2) := by decide +kernel
theorem dX2_mixCurtains_62 : decode cX2_mixCurtains 62 = .ok (.invokestatic 58, 3) := by decide +kernel
theorem dX2_mixCurtains_65 : decode cX2_mixCurtains 65 = .ok (.i2l, 1) := by decide +kernel
theorem dX2_mixCurtains_66 : decode cX2_mixCurtains 66 = .ok (.invokestatic 212, 3) := by decide +kernel
theorem dX2_mixCurtains_69 : decode cX2_mixCurtains 69 = .ok (.lstore_n 3, 1) := by decide +kernel
theorem dX2_mixCurtains_70 : decode cX2_mixCurtains 70 = .ok (.iinc 6 1, 3) := by decide +kernel
theorem dX2_mixCurtains_73 : decode cX2_mixCurtains 73 = .ok (.goto (-30), 3) := by decide +kernel
theorem dX2_mixCurtains_76 : decode cX2_mixCurtains 76 = .ok (.iinc 5 1, 3) := by decide +kernel
theorem dX2_mixCurtains_79 : decode cX2_mixCurtains 79 = .ok (.goto (-74), 3) := by decide +kernel
theorem dX2_mixCurtains_82 : decode cX2_mixCurtains 82 = .ok (.lload_n 3, 1) := by decide +kernel
theorem dX2_mixCurtains_83 : decode cX2_mixCurtains 83 = .ok (.lreturn, 1) := by decide +kernel
abbrev zX2_mixCurtains : List Cond := .code yX2_mixCurtains cX2_mixCurtains 7 (some .long) :: BIG
def fX2_mixCurtains_l43 (bo : BoT) (now : ShT) (K5 : (Int64 × Int32) → Option (Int64)) (K43 : (Int64 × Int32 × Int32) → Option (Int64)) (v43 : Int64 × Int32 × Int32) : Option (Int64) := (if 24 ≤ v43.2.2 then K5 (v43.1, v43.2.1 + 1) else (fX1_dragsOf now v43.2.1).bind (fun r6 => (if v43.2.1 = 0 then (fX2_at 24 now.2.2.1 v43.2.2).bind (fun r8 => (fX2_mix v43.1 (Int32.toInt64 r8)).bind (fun r9 => K43 (r9, v43.2.1, v43.2.2 + 1))) else (fX2_at 24 now.2.2.2.1 v43.2.2).bind (fun r10 => (fX2_mix v43.1 (Int32.toInt64 r10)).bind (fun r11 => K43 (r11, v43.2.1, v43.2.2 + 1))))))
def fX2_mixCurtains_l14 (bo : BoT) (now : ShT) (K5 : (Int64 × Int32) → Option (Int64)) (K14 : (Int64 × Int32 × Int32) → Option (Int64)) (v14 : Int64 × Int32 × Int32) : Option (Int64) := (if 3 < v14.2.2 then lp (fX2_mixCurtains_l43 bo now K5) 2000 (v14.1, v14.2.1, 0) else tq (fX2_curtain bo now v14.2.1 v14.2.2) (fun r3 => (fX2_mix v14.1 (Int32.toInt64 r3)).bind (fun r4 => K14 (r4, v14.2.1, v14.2.2 + 1))))
def fX2_mixCurtains_l5 (bo : BoT) (now : ShT)  (K5 : (Int64 × Int32) → Option (Int64)) (v5 : Int64 × Int32) : Option (Int64) := (if 2 ≤ v5.2 then some v5.1 else lp (fX2_mixCurtains_l14 bo now K5) 2000 (v5.1, v5.2, 0))
def fX2_mixCurtains (bo : BoT) (now : ShT) (hh : Int64) : Option (Int64) := lp (fX2_mixCurtains_l5 bo now) 2000 (hh, 0)
set_option maxHeartbeats 4000000 in
set_option maxRecDepth 100000 in
theorem mtX2_mixCurtains (l : Launch) (D : va_G) (t : Nat → ClassId) (bh : Nat) (bk : Nat → Nat) (bo : BoT) (nb : Nat → Nat) (now : ShT) (hh : Int64) (out : Int64) (h : fX2_mixCurtains bo now hh = some out)  (sz : Nat) : Met l yX2_mixCurtains zX2_mixCurtains ({ frames := 4, cells := 0, slots := 0, locals := 90 }) (sPc D t (gBo bh bk bo ++ (gS t (bk 0) nb now)) sz [.ref bh, .long hh]) (qJ D t (gBo bh bk bo ++ (gS t (bk 0) nb now)) out (va_A (gBo bh bk bo ++ (gS t (bk 0) nb now)) sz)) 0 0 (va_A (gBo bh bk bo ++ (gS t (bk 0) nb now)) sz) := by
  refine met_of (Qf := fun A => qJ D t (gBo bh bk bo ++ (gS t (bk 0) nb now)) out A) (cc := cX2_mixCurtains) (maxL := 7) (ret := some .long) (by decide) rfl (Nat.le_of_ble_eq_true rfl) ?_
  intro p e s m args below meth c A hx hb hr hml hts hown hlocks hA hP hK hD hE hS ls hl
  have htB : ∀ w ∈ BIG, w.before args s = true := fun w h => hts w (List.mem_cons_of_mem _ h)
  have hown : s.vm.findClass RX2 = some m.cls := hown
  have hl : lv_has ls 7 [(0, .ref bh), (1, .long hh)] := hl
  unfold fX2_mixCurtains at h
  have J5 : ∀ (fu5 : Nat) (v5 : Int64 × Int32), lp (fX2_mixCurtains_l5 bo now) fu5 v5 = some out → ∀ (H : Heap) (locs : List Loc), va_P D vwCl (gBo bh bk bo ++ (gS t (bk 0) nb now)) H → va_D A (gBo bh bk bo ++ (gS t (bk 0) nb now)) → va_S A s.heap H locs → ∀ ls : Array Slot, lv_has ls 7 [(0, .ref bh), (3, .long v5.1), (5, .int v5.2)] → W p l e ({ frames := 4, cells := 0, slots := 0, locals := 90 }) s m args below meth c H locs 0 0 (MQ below (qJ D t (gBo bh bk bo ++ (gS t (bk 0) nb now)) out A) args s 0 0 A) (F0 m 5 ls []) := by
    intro fu5
    induction fu5 with
    | zero => intro v5 h; cases h
    | succ fu5 ih5 =>
      intro v5 h H locs hP hD hS ls hl
      have h : fX2_mixCurtains_l5 bo now (lp (fX2_mixCurtains_l5 bo now) fu5) v5 = some out := h
      unfold fX2_mixCurtains_l5 at h
      have J43 : ∀ (fu43 : Nat) (v43 : Int64 × Int32 × Int32), lp (fX2_mixCurtains_l43 bo now (lp (fX2_mixCurtains_l5 bo now) fu5)) fu43 v43 = some out → ∀ (H : Heap) (locs : List Loc), va_P D vwCl (gBo bh bk bo ++ (gS t (bk 0) nb now)) H → va_D A (gBo bh bk bo ++ (gS t (bk 0) nb now)) → va_S A s.heap H locs → ∀ ls : Array Slot, lv_has ls 7 [(0, .ref bh), (3, .long v43.1), (5, .int v43.2.1), (6, .int v43.2.2)] → W p l e ({ frames := 4, cells := 0, slots := 0, locals := 90 }) s m args below meth c H locs 0 0 (MQ below (qJ D t (gBo bh bk bo ++ (gS t (bk 0) nb now)) out A) args s 0 0 A) (F0 m 43 ls []) := by
        intro fu43
        induction fu43 with
        | zero => intro v43 h; cases h
        | succ fu43 ih43 =>
          intro v43 h H locs hP hD hS ls hl
          have h : fX2_mixCurtains_l43 bo now (lp (fX2_mixCurtains_l5 bo now) fu5) (lp (fX2_mixCurtains_l43 bo now (lp (fX2_mixCurtains_l5 bo now) fu5)) fu43) v43 = some out := h
          unfold fX2_mixCurtains_l43 at h
          refine lv_iload hx hb dX2_mixCurtains_43 (lv_at hl 3 rfl) ?_
          refine lv_bipush (v := 24) hx hb dX2_mixCurtains_45 (by decide) ?_
          refine lv_icmp_ge (tgt := 76) hx hb dX2_mixCurtains_47 (by decide) (fun c5 => ?_) (fun c5 => ?_)
          · have h := it_p c5 h
            refine lv_iinc (v := v43.2.1 + 1) (lv' := [(5, .int (v43.2.1 + 1)), (0, .ref bh), (3, .long v43.1), (6, .int v43.2.2)]) hx hb dX2_mixCurtains_76 hl (k := 2) rfl rfl (by decide) rfl (fun ls hl => ?_)
            refine lv_goto (tgt := 5) hx hb dX2_mixCurtains_79 (by decide) ?_
            exact ih5 (v43.1, v43.2.1 + 1) h _ _ hP hD hS _ (lv_sub hl [1, 2, 0] rfl)
          · have h := it_n c5 h
            refine lv_lload_n hx hb dX2_mixCurtains_50 rfl (lv_at hl 1 rfl) ?_
            refine lv_aload_n hx hb dX2_mixCurtains_51 rfl (lv_at hl 0 rfl) ?_
            refine va_get (D := D) (ci := 2) (v := .ref (bk 0)) (C := RX2) (T := TX2) (N := 8) hx hb htB inlX2 hown hK hP 0 rfl rfl 0 (by decide) (htB _ kw17) (fun _ h9 => h9) rfl dX2_mixCurtains_52 ?_
            refine lv_iload hx hb dX2_mixCurtains_55 (lv_at hl 2 rfl) ?_
            obtain ⟨r6, h6, h⟩ := ob h
            refine call_r (v := if v43.2.1 = 0 then nb 2 else nb 3) (wc := (gS t (bk 0) nb now)) (wc' := (gS t (bk 0) nb now)) (ws' := (gBo bh bk bo ++ (gS t (bk 0) nb now))) (cutB (bs := [gBo bh bk bo, gS t (bk 0) nb now]) (cs := [gS t (bk 0) nb now]) (cs' := [gS t (bk 0) nb now]) (bs' := [gBo bh bk bo, gS t (bk 0) nb now]) [1] hP hD hS hA rfl rfl rfl rfl) hS (fun hPc hDc => va_runV (As := [.int v43.2.1]) (rest := [.long v43.1]) ⟨hx, hb, hml, hown, hts⟩ (mtX1_dragsOf l D t (bk 0) nb now v43.2.1 r6 h6 _) (cwV 1 hts (gBV kw148 kw149 kw150 kw16 kw151) rfl rfl rfl (by decide +kernel) ⟨Nat.le_of_ble_eq_true rfl, Nat.le_of_ble_eq_true rfl⟩) (sPc_V hPc hK hDc hE (va_recv hK hP (ci := 1) (q0 := 1) rfl rfl)) rfl rfl hl.1 rfl (lv_room (Nat.le_of_ble_eq_true rfl)) dX2_mixCurtains_57 ⟨Nat.zero_le _, Nat.zero_le _⟩) (fun H locs hP hD hS => ?_)
            by_cases c7 : v43.2.1 = 0
            · have h := it_p c7 h
              rw [if_pos c7]
              refine lv_iload hx hb dX2_mixCurtains_60 (lv_at hl 3 rfl) ?_
              obtain ⟨r8, h8, h⟩ := ob h
              refine call_i (v := r8) (wc := (gA t (nb 2) 24 now.2.2.1)) (wc' := (gA t (nb 2) 24 now.2.2.1)) (ws' := (gBo bh bk bo ++ (gS t (bk 0) nb now))) (cutI (wc := (gA t (nb 2) 24 now.2.2.1)) (wc' := (gA t (nb 2) 24 now.2.2.1)) (ws' := (gBo bh bk bo ++ (gS t (bk 0) nb now))) [4] hP hD hS hA rfl rfl rfl rfl) hS (fun hPc hDc => va_runS (As := [.ref (nb 2), .int v43.2.2]) (rest := [.long v43.1]) ⟨hx, hb, hml, hown, hts⟩ (mtX2_at l D t (nb 2) 24 now.2.2.1 v43.2.2 r8 h8 (by decide) _) (va_cwS 2 hts (gBS kw104 kw105 kw2 kw106) rfl rfl rfl (by decide +kernel) ⟨Nat.le_of_ble_eq_true rfl, Nat.le_of_ble_eq_true rfl⟩) (sPc_S hPc hK hDc hE) rfl rfl hl.1 rfl (lv_room (Nat.le_of_ble_eq_true rfl)) dX2_mixCurtains_62 ⟨Nat.zero_le _, Nat.zero_le _⟩) (fun H locs hP hD hS => ?_)
              refine lv_i2l (v := Int32.toInt64 r8) hx hb dX2_mixCurtains_65 rfl ?_
              obtain ⟨r9, h9, h⟩ := ob h
              refine call_j (v := r9) (wc := ([] : va_W)) (wc' := ([] : va_W)) (ws' := (gBo bh bk bo ++ (gS t (bk 0) nb now))) (cutB (bs := [gBo bh bk bo, gS t (bk 0) nb now]) (cs := []) (cs' := []) (bs' := [gBo bh bk bo, gS t (bk 0) nb now]) [] hP hD hS hA rfl rfl rfl rfl) hS (fun hPc hDc => va_runS (As := [.long v43.1, .long (Int32.toInt64 r8)]) (rest := []) ⟨hx, hb, hml, hown, hts⟩ (mtX2_mix l D t v43.1 (Int32.toInt64 r8) r9 h9 _) (va_cwS 2 hts (gBS kw602 kw603 kw2 kw604) rfl rfl rfl (by decide +kernel) ⟨Nat.le_of_ble_eq_true rfl, Nat.le_of_ble_eq_true rfl⟩) (sPc_S hPc hK hDc hE) rfl rfl hl.1 rfl (lv_room (Nat.le_of_ble_eq_true rfl)) dX2_mixCurtains_66 ⟨Nat.zero_le _, Nat.zero_le _⟩) (fun H locs hP hD hS => ?_)
              refine lv_lstore_n (lv' := [(3, .long r9), (0, .ref bh), (5, .int v43.2.1), (6, .int v43.2.2)]) hx hb dX2_mixCurtains_69 rfl hl (by decide) rfl (fun ls hl => ?_)
              refine lv_iinc (v := v43.2.2 + 1) (lv' := [(6, .int (v43.2.2 + 1)), (3, .long r9), (0, .ref bh), (5, .int v43.2.1)]) hx hb dX2_mixCurtains_70 hl (k := 3) rfl rfl (by decide) rfl (fun ls hl => ?_)
              refine lv_goto (tgt := 43) hx hb dX2_mixCurtains_73 (by decide) ?_
              exact ih43 (r9, v43.2.1, v43.2.2 + 1) h _ _ hP hD hS _ (lv_sub hl [2, 1, 3, 0] rfl)
            · have h := it_n c7 h
              rw [if_neg c7]
              refine lv_iload hx hb dX2_mixCurtains_60 (lv_at hl 3 rfl) ?_
              obtain ⟨r10, h10, h⟩ := ob h
              refine call_i (v := r10) (wc := (gA t (nb 3) 24 now.2.2.2.1)) (wc' := (gA t (nb 3) 24 now.2.2.2.1)) (ws' := (gBo bh bk bo ++ (gS t (bk 0) nb now))) (cutI (wc := (gA t (nb 3) 24 now.2.2.2.1)) (wc' := (gA t (nb 3) 24 now.2.2.2.1)) (ws' := (gBo bh bk bo ++ (gS t (bk 0) nb now))) [5] hP hD hS hA rfl rfl rfl rfl) hS (fun hPc hDc => va_runS (As := [.ref (nb 3), .int v43.2.2]) (rest := [.long v43.1]) ⟨hx, hb, hml, hown, hts⟩ (mtX2_at l D t (nb 3) 24 now.2.2.2.1 v43.2.2 r10 h10 (by decide) _) (va_cwS 2 hts (gBS kw104 kw105 kw2 kw106) rfl rfl rfl (by decide +kernel) ⟨Nat.le_of_ble_eq_true rfl, Nat.le_of_ble_eq_true rfl⟩) (sPc_S hPc hK hDc hE) rfl rfl hl.1 rfl (lv_room (Nat.le_of_ble_eq_true rfl)) dX2_mixCurtains_62 ⟨Nat.zero_le _, Nat.zero_le _⟩) (fun H locs hP hD hS => ?_)
              refine lv_i2l (v := Int32.toInt64 r10) hx hb dX2_mixCurtains_65 rfl ?_
              obtain ⟨r11, h11, h⟩ := ob h
              refine call_j (v := r11) (wc := ([] : va_W)) (wc' := ([] : va_W)) (ws' := (gBo bh bk bo ++ (gS t (bk 0) nb now))) (cutB (bs := [gBo bh bk bo, gS t (bk 0) nb now]) (cs := []) (cs' := []) (bs' := [gBo bh bk bo, gS t (bk 0) nb now]) [] hP hD hS hA rfl rfl rfl rfl) hS (fun hPc hDc => va_runS (As := [.long v43.1, .long (Int32.toInt64 r10)]) (rest := []) ⟨hx, hb, hml, hown, hts⟩ (mtX2_mix l D t v43.1 (Int32.toInt64 r10) r11 h11 _) (va_cwS 2 hts (gBS kw602 kw603 kw2 kw604) rfl rfl rfl (by decide +kernel) ⟨Nat.le_of_ble_eq_true rfl, Nat.le_of_ble_eq_true rfl⟩) (sPc_S hPc hK hDc hE) rfl rfl hl.1 rfl (lv_room (Nat.le_of_ble_eq_true rfl)) dX2_mixCurtains_66 ⟨Nat.zero_le _, Nat.zero_le _⟩) (fun H locs hP hD hS => ?_)
              refine lv_lstore_n (lv' := [(3, .long r11), (0, .ref bh), (5, .int v43.2.1), (6, .int v43.2.2)]) hx hb dX2_mixCurtains_69 rfl hl (by decide) rfl (fun ls hl => ?_)
              refine lv_iinc (v := v43.2.2 + 1) (lv' := [(6, .int (v43.2.2 + 1)), (3, .long r11), (0, .ref bh), (5, .int v43.2.1)]) hx hb dX2_mixCurtains_70 hl (k := 3) rfl rfl (by decide) rfl (fun ls hl => ?_)
              refine lv_goto (tgt := 43) hx hb dX2_mixCurtains_73 (by decide) ?_
              exact ih43 (r11, v43.2.1, v43.2.2 + 1) h _ _ hP hD hS _ (lv_sub hl [2, 1, 3, 0] rfl)
      have J14 : ∀ (fu14 : Nat) (v14 : Int64 × Int32 × Int32), lp (fX2_mixCurtains_l14 bo now (lp (fX2_mixCurtains_l5 bo now) fu5)) fu14 v14 = some out → ∀ (H : Heap) (locs : List Loc), va_P D vwCl (gBo bh bk bo ++ (gS t (bk 0) nb now)) H → va_D A (gBo bh bk bo ++ (gS t (bk 0) nb now)) → va_S A s.heap H locs → ∀ ls : Array Slot, lv_has ls 7 [(0, .ref bh), (3, .long v14.1), (5, .int v14.2.1), (6, .int v14.2.2)] → W p l e ({ frames := 4, cells := 0, slots := 0, locals := 90 }) s m args below meth c H locs 0 0 (MQ below (qJ D t (gBo bh bk bo ++ (gS t (bk 0) nb now)) out A) args s 0 0 A) (F0 m 14 ls []) := by
        intro fu14
        induction fu14 with
        | zero => intro v14 h; cases h
        | succ fu14 ih14 =>
          intro v14 h H locs hP hD hS ls hl
          have h : fX2_mixCurtains_l14 bo now (lp (fX2_mixCurtains_l5 bo now) fu5) (lp (fX2_mixCurtains_l14 bo now (lp (fX2_mixCurtains_l5 bo now) fu5)) fu14) v14 = some out := h
          unfold fX2_mixCurtains_l14 at h
          refine lv_iload hx hb dX2_mixCurtains_14 (lv_at hl 3 rfl) ?_
          refine lv_iconst (v := 3) hx hb dX2_mixCurtains_16 (by decide) ?_
          refine lv_icmp_gt (tgt := 40) hx hb dX2_mixCurtains_17 (by decide) (fun c2 => ?_) (fun c2 => ?_)
          · have h := it_p c2 h
            refine lv_iconst (v := 0) hx hb dX2_mixCurtains_40 (by decide) ?_
            refine lv_istore (lv' := [(6, .int 0), (0, .ref bh), (3, .long v14.1), (5, .int v14.2.1)]) hx hb dX2_mixCurtains_41 hl (by decide) rfl (fun ls hl => ?_)
            exact J43 2000 (v14.1, v14.2.1, 0) h _ _ hP hD hS _ (lv_sub hl [1, 2, 3, 0] rfl)
          · have h := it_n c2 h
            refine lv_lload_n hx hb dX2_mixCurtains_20 rfl (lv_at hl 1 rfl) ?_
            refine lv_aload_n hx hb dX2_mixCurtains_21 rfl (lv_at hl 0 rfl) ?_
            refine lv_iload hx hb dX2_mixCurtains_22 (lv_at hl 2 rfl) ?_
            refine lv_iload hx hb dX2_mixCurtains_24 (lv_at hl 3 rfl) ?_
            obtain ⟨r3, h3, h⟩ := tq_r h
            refine call_i (v := r3) (wc := (gBo bh bk bo ++ (gS t (bk 0) nb now))) (wc' := (gBo bh bk bo ++ (gS t (bk 0) nb now))) (ws' := (gBo bh bk bo ++ (gS t (bk 0) nb now))) (cutB (bs := [gBo bh bk bo, gS t (bk 0) nb now]) (cs := [gBo bh bk bo, gS t (bk 0) nb now]) (cs' := [gBo bh bk bo, gS t (bk 0) nb now]) (bs' := [gBo bh bk bo, gS t (bk 0) nb now]) [0, 1] hP hD hS hA rfl rfl rfl rfl) hS (fun hPc hDc => va_runV (As := [.int v14.2.1, .int v14.2.2]) (rest := [.long v14.1]) ⟨hx, hb, hml, hown, hts⟩ (mtX2_curtain l D t bh bk bo nb now v14.2.1 v14.2.2 r3 h3 _) (cwV 2 hts (gBV kw611 kw430 kw431 kw2 kw432) rfl rfl rfl (by decide +kernel) ⟨Nat.le_of_ble_eq_true rfl, Nat.le_of_ble_eq_true rfl⟩) (sPc_V hPc hK hDc hE (va_recv hK hP (ci := 2) (q0 := 0) rfl rfl)) rfl rfl hl.1 rfl (lv_room (Nat.le_of_ble_eq_true rfl)) dX2_mixCurtains_26 ⟨Nat.zero_le _, Nat.zero_le _⟩) (fun H locs hP hD hS => ?_)
            refine lv_i2l (v := Int32.toInt64 r3) hx hb dX2_mixCurtains_29 rfl ?_
            obtain ⟨r4, h4, h⟩ := ob h
            refine call_j (v := r4) (wc := ([] : va_W)) (wc' := ([] : va_W)) (ws' := (gBo bh bk bo ++ (gS t (bk 0) nb now))) (cutB (bs := [gBo bh bk bo, gS t (bk 0) nb now]) (cs := []) (cs' := []) (bs' := [gBo bh bk bo, gS t (bk 0) nb now]) [] hP hD hS hA rfl rfl rfl rfl) hS (fun hPc hDc => va_runS (As := [.long v14.1, .long (Int32.toInt64 r3)]) (rest := []) ⟨hx, hb, hml, hown, hts⟩ (mtX2_mix l D t v14.1 (Int32.toInt64 r3) r4 h4 _) (va_cwS 2 hts (gBS kw602 kw603 kw2 kw604) rfl rfl rfl (by decide +kernel) ⟨Nat.le_of_ble_eq_true rfl, Nat.le_of_ble_eq_true rfl⟩) (sPc_S hPc hK hDc hE) rfl rfl hl.1 rfl (lv_room (Nat.le_of_ble_eq_true rfl)) dX2_mixCurtains_30 ⟨Nat.zero_le _, Nat.zero_le _⟩) (fun H locs hP hD hS => ?_)
            refine lv_lstore_n (lv' := [(3, .long r4), (0, .ref bh), (5, .int v14.2.1), (6, .int v14.2.2)]) hx hb dX2_mixCurtains_33 rfl hl (by decide) rfl (fun ls hl => ?_)
            refine lv_iinc (v := v14.2.2 + 1) (lv' := [(6, .int (v14.2.2 + 1)), (3, .long r4), (0, .ref bh), (5, .int v14.2.1)]) hx hb dX2_mixCurtains_34 hl (k := 3) rfl rfl (by decide) rfl (fun ls hl => ?_)
            refine lv_goto (tgt := 14) hx hb dX2_mixCurtains_37 (by decide) ?_
            exact ih14 (r4, v14.2.1, v14.2.2 + 1) h _ _ hP hD hS _ (lv_sub hl [2, 1, 3, 0] rfl)
      refine lv_iload hx hb dX2_mixCurtains_5 (lv_at hl 2 rfl) ?_
      refine lv_iconst (v := 2) hx hb dX2_mixCurtains_7 (by decide) ?_
      refine lv_icmp_ge (tgt := 82) hx hb dX2_mixCurtains_8 (by decide) (fun c1 => ?_) (fun c1 => ?_)
      · have h := it_p c1 h
        refine lv_lload_n hx hb dX2_mixCurtains_82 rfl (lv_at hl 1 rfl) ?_
        obtain rfl := os h
        exact ret_j hx hb hr hlocks hP hK hD hS dX2_mixCurtains_83
      · have h := it_n c1 h
        refine lv_iconst (v := 0) hx hb dX2_mixCurtains_11 (by decide) ?_
        refine lv_istore (lv' := [(6, .int 0), (0, .ref bh), (3, .long v5.1), (5, .int v5.2)]) hx hb dX2_mixCurtains_12 hl (by decide) rfl (fun ls hl => ?_)
        exact J14 2000 (v5.1, v5.2, 0) h _ _ hP hD hS _ (lv_sub hl [1, 2, 3, 0] rfl)
  refine lv_lload_n hx hb dX2_mixCurtains_0 rfl (lv_at hl 1 rfl) ?_
  refine lv_lstore_n (lv' := [(3, .long hh), (0, .ref bh), (1, .long hh)]) hx hb dX2_mixCurtains_1 rfl hl (by decide) rfl (fun ls hl => ?_)
  refine lv_iconst (v := 0) hx hb dX2_mixCurtains_2 (by decide) ?_
  refine lv_istore (lv' := [(5, .int 0), (3, .long hh), (0, .ref bh), (1, .long hh)]) hx hb dX2_mixCurtains_3 hl (by decide) rfl (fun ls hl => ?_)
  exact J5 2000 (hh, 0) h _ _ hP hD hS _ (lv_sub hl [2, 1, 0] rfl)

theorem dX2_mixSpeeds_0 : decode cX2_mixSpeeds 0 = .ok (.lload_n 1, 1) := by decide +kernel
theorem dX2_mixSpeeds_1 : decode cX2_mixSpeeds 1 = .ok (.lstore_n 3, 1) := by decide +kernel
theorem dX2_mixSpeeds_2 : decode cX2_mixSpeeds 2 = .ok (.iconst 0, 1) := by decide +kernel
theorem dX2_mixSpeeds_3 : decode cX2_mixSpeeds 3 = .ok (.istore 5, 2) := by decide +kernel
theorem dX2_mixSpeeds_5 : decode cX2_mixSpeeds 5 = .ok (.iload 5, 2) := by decide +kernel
theorem dX2_mixSpeeds_7 : decode cX2_mixSpeeds 7 = .ok (.bipush 6, 2) := by decide +kernel
theorem dX2_mixSpeeds_9 : decode cX2_mixSpeeds 9 = .ok (.if_icmp .ge 39, 3) := by decide +kernel
theorem dX2_mixSpeeds_12 : decode cX2_mixSpeeds 12 = .ok (.iconst 0, 1) := by decide +kernel
theorem dX2_mixSpeeds_13 : decode cX2_mixSpeeds 13 = .ok (.istore 6, 2) := by decide +kernel
theorem dX2_mixSpeeds_15 : decode cX2_mixSpeeds 15 = .ok (.iload 6, 2) := by decide +kernel
theorem dX2_mixSpeeds_17 : decode cX2_mixSpeeds 17 = .ok (.bipush 8, 2) := by decide +kernel
theorem dX2_mixSpeeds_19 : decode cX2_mixSpeeds 19 = .ok (.if_icmp .gt 23, 3) := by decide +kernel
theorem dX2_mixSpeeds_22 : decode cX2_mixSpeeds 22 = .ok (.lload_n 3, 1) := by decide +kernel
theorem dX2_mixSpeeds_23 : decode cX2_mixSpeeds 23 = .ok (.aload_n 0, 1) := by decide +kernel
theorem dX2_mixSpeeds_24 : decode cX2_mixSpeeds 24 = .ok (.iload 5, 2) := by decide +kernel
theorem dX2_mixSpeeds_26 : decode cX2_mixSpeeds 26 = .ok (.iload 6, 2) := by decide +kernel
theorem dX2_mixSpeeds_28 : decode cX2_mixSpeeds 28 = .ok (.invokevirtual 254, 3) := by decide +kernel
theorem dX2_mixSpeeds_31 : decode cX2_mixSpeeds 31 = .ok (.i2l, 1) := by decide +kernel
theorem dX2_mixSpeeds_32 : decode cX2_mixSpeeds 32 = .ok (.invokestatic 212, 3) := by decide +kernel
theorem dX2_mixSpeeds_35 : decode cX2_mixSpeeds 35 = .ok (.lstore_n 3, 1) := by decide +kernel
theorem dX2_mixSpeeds_36 : decode cX2_mixSpeeds 36 = .ok (.iinc 6 1, 3) := by decide +kernel
theorem dX2_mixSpeeds_39 : decode cX2_mixSpeeds 39 = .ok (.goto (-24), 3) := by decide +kernel
theorem dX2_mixSpeeds_42 : decode cX2_mixSpeeds 42 = .ok (.iinc 5 1, 3) := by decide +kernel
theorem dX2_mixSpeeds_45 : decode cX2_mixSpeeds 45 = .ok (.goto (-40), 3) := by decide +kernel
theorem dX2_mixSpeeds_48 : decode cX2_mixSpeeds 48 = .ok (.lload_n 3, 1) := by decide +kernel
theorem dX2_mixSpeeds_49 : decode cX2_mixSpeeds 49 = .ok (.lreturn, 1) := by decide +kernel
abbrev zX2_mixSpeeds : List Cond := .code yX2_mixSpeeds cX2_mixSpeeds 7 (some .long) :: BIG
def fX2_mixSpeeds_l15 (bo : BoT) (now : ShT) (K5 : (ExT × Int64 × Int32) → Option (Int64 × ExT)) (K15 : (ExT × Int64 × Int32 × Int32) → Option (Int64 × ExT)) (v15 : ExT × Int64 × Int32 × Int32) : Option (Int64 × ExT) := (if 8 < v15.2.2.2 then K5 (v15.1, v15.2.1, v15.2.2.1 + 1) else tq (fX2_speed bo now v15.1 v15.2.2.1 v15.2.2.2) (fun r3 => (fX2_mix v15.2.1 (Int32.toInt64 r3.1)).bind (fun r4 => K15 (r3.2, r4, v15.2.2.1, v15.2.2.2 + 1))))
def fX2_mixSpeeds_l5 (bo : BoT) (now : ShT)  (K5 : (ExT × Int64 × Int32) → Option (Int64 × ExT)) (v5 : ExT × Int64 × Int32) : Option (Int64 × ExT) := (if 6 ≤ v5.2.2 then some (v5.2.1, v5.1) else lp (fX2_mixSpeeds_l15 bo now K5) 2000 (v5.1, v5.2.1, v5.2.2, 0))
def fX2_mixSpeeds (bo : BoT) (now : ShT) (ex : ExT) (hh : Int64) : Option (Int64 × ExT) := lp (fX2_mixSpeeds_l5 bo now) 2000 (ex, hh, 0)
set_option maxHeartbeats 4000000 in
set_option maxRecDepth 100000 in
theorem mtX2_mixSpeeds (l : Launch) (D : va_G) (t : Nat → ClassId) (bh : Nat) (bk : Nat → Nat) (bo : BoT) (nb : Nat → Nat) (now : ShT) (eb : Nat → Nat) (ex : ExT) (hh : Int64) (out : Int64 × ExT) (h : fX2_mixSpeeds bo now ex hh = some out)  (sz : Nat) : Met l yX2_mixSpeeds zX2_mixSpeeds ({ frames := 5, cells := 0, slots := 0, locals := 115 }) (sPc D t (gBo bh bk bo ++ (gS t (bk 0) nb now ++ (gE t (bk 2) eb ex))) sz [.ref bh, .long hh]) (qJ D t (gBo bh bk bo ++ (gS t (bk 0) nb now ++ (gE t (bk 2) eb out.2))) out.1 (va_A (gBo bh bk bo ++ (gS t (bk 0) nb now ++ (gE t (bk 2) eb ex))) sz)) 0 0 (va_A (gBo bh bk bo ++ (gS t (bk 0) nb now ++ (gE t (bk 2) eb ex))) sz) := by
  refine met_of (Qf := fun A => qJ D t (gBo bh bk bo ++ (gS t (bk 0) nb now ++ (gE t (bk 2) eb out.2))) out.1 A) (cc := cX2_mixSpeeds) (maxL := 7) (ret := some .long) (by decide) rfl (Nat.le_of_ble_eq_true rfl) ?_
  intro p e s m args below meth c A hx hb hr hml hts hown hlocks hA hP hK hD hE hS ls hl
  have htB : ∀ w ∈ BIG, w.before args s = true := fun w h => hts w (List.mem_cons_of_mem _ h)
  have hown : s.vm.findClass RX2 = some m.cls := hown
  have hl : lv_has ls 7 [(0, .ref bh), (1, .long hh)] := hl
  unfold fX2_mixSpeeds at h
  have J5 : ∀ (fu5 : Nat) (v5 : ExT × Int64 × Int32), lp (fX2_mixSpeeds_l5 bo now) fu5 v5 = some out → ∀ (H : Heap) (locs : List Loc), va_P D vwCl (gBo bh bk bo ++ (gS t (bk 0) nb now ++ (gE t (bk 2) eb v5.1))) H → va_D A (gBo bh bk bo ++ (gS t (bk 0) nb now ++ (gE t (bk 2) eb v5.1))) → va_S A s.heap H locs → ∀ ls : Array Slot, lv_has ls 7 [(0, .ref bh), (3, .long v5.2.1), (5, .int v5.2.2)] → W p l e ({ frames := 5, cells := 0, slots := 0, locals := 115 }) s m args below meth c H locs 0 0 (MQ below (qJ D t (gBo bh bk bo ++ (gS t (bk 0) nb now ++ (gE t (bk 2) eb out.2))) out.1 A) args s 0 0 A) (F0 m 5 ls []) := by
    intro fu5
    induction fu5 with
    | zero => intro v5 h; cases h
    | succ fu5 ih5 =>
      intro v5 h H locs hP hD hS ls hl
      have h : fX2_mixSpeeds_l5 bo now (lp (fX2_mixSpeeds_l5 bo now) fu5) v5 = some out := h
      unfold fX2_mixSpeeds_l5 at h
      have J15 : ∀ (fu15 : Nat) (v15 : ExT × Int64 × Int32 × Int32), lp (fX2_mixSpeeds_l15 bo now (lp (fX2_mixSpeeds_l5 bo now) fu5)) fu15 v15 = some out → ∀ (H : Heap) (locs : List Loc), va_P D vwCl (gBo bh bk bo ++ (gS t (bk 0) nb now ++ (gE t (bk 2) eb v15.1))) H → va_D A (gBo bh bk bo ++ (gS t (bk 0) nb now ++ (gE t (bk 2) eb v15.1))) → va_S A s.heap H locs → ∀ ls : Array Slot, lv_has ls 7 [(0, .ref bh), (3, .long v15.2.1), (5, .int v15.2.2.1), (6, .int v15.2.2.2)] → W p l e ({ frames := 5, cells := 0, slots := 0, locals := 115 }) s m args below meth c H locs 0 0 (MQ below (qJ D t (gBo bh bk bo ++ (gS t (bk 0) nb now ++ (gE t (bk 2) eb out.2))) out.1 A) args s 0 0 A) (F0 m 15 ls []) := by
        intro fu15
        induction fu15 with
        | zero => intro v15 h; cases h
        | succ fu15 ih15 =>
          intro v15 h H locs hP hD hS ls hl
          have h : fX2_mixSpeeds_l15 bo now (lp (fX2_mixSpeeds_l5 bo now) fu5) (lp (fX2_mixSpeeds_l15 bo now (lp (fX2_mixSpeeds_l5 bo now) fu5)) fu15) v15 = some out := h
          unfold fX2_mixSpeeds_l15 at h
          refine lv_iload hx hb dX2_mixSpeeds_15 (lv_at hl 3 rfl) ?_
          refine lv_bipush (v := 8) hx hb dX2_mixSpeeds_17 (by decide) ?_
          refine lv_icmp_gt (tgt := 42) hx hb dX2_mixSpeeds_19 (by decide) (fun c2 => ?_) (fun c2 => ?_)
          · have h := it_p c2 h
            refine lv_iinc (v := v15.2.2.1 + 1) (lv' := [(5, .int (v15.2.2.1 + 1)), (0, .ref bh), (3, .long v15.2.1), (6, .int v15.2.2.2)]) hx hb dX2_mixSpeeds_42 hl (k := 2) rfl rfl (by decide) rfl (fun ls hl => ?_)
            refine lv_goto (tgt := 5) hx hb dX2_mixSpeeds_45 (by decide) ?_
            exact ih5 (v15.1, v15.2.1, v15.2.2.1 + 1) h _ _ hP hD hS _ (lv_sub hl [1, 2, 0] rfl)
          · have h := it_n c2 h
            refine lv_lload_n hx hb dX2_mixSpeeds_22 rfl (lv_at hl 1 rfl) ?_
            refine lv_aload_n hx hb dX2_mixSpeeds_23 rfl (lv_at hl 0 rfl) ?_
            refine lv_iload hx hb dX2_mixSpeeds_24 (lv_at hl 2 rfl) ?_
            refine lv_iload hx hb dX2_mixSpeeds_26 (lv_at hl 3 rfl) ?_
            obtain ⟨r3, h3, h⟩ := tq_r h
            refine call_i (v := r3.1) (wc := (gBo bh bk bo ++ (gS t (bk 0) nb now ++ (gE t (bk 2) eb v15.1)))) (wc' := (gBo bh bk bo ++ (gS t (bk 0) nb now ++ (gE t (bk 2) eb r3.2)))) (ws' := (gBo bh bk bo ++ (gS t (bk 0) nb now ++ (gE t (bk 2) eb r3.2)))) (cutB (bs := [gBo bh bk bo, gS t (bk 0) nb now, gE t (bk 2) eb v15.1]) (cs := [gBo bh bk bo, gS t (bk 0) nb now, gE t (bk 2) eb v15.1]) (cs' := [gBo bh bk bo, gS t (bk 0) nb now, gE t (bk 2) eb r3.2]) (bs' := [gBo bh bk bo, gS t (bk 0) nb now, gE t (bk 2) eb r3.2]) [0, 1, 2] hP hD hS hA rfl rfl rfl rfl) hS (fun hPc hDc => va_runV (As := [.int v15.2.2.1, .int v15.2.2.2]) (rest := [.long v15.2.1]) ⟨hx, hb, hml, hown, hts⟩ (mtX2_speed l D t bh bk bo nb now eb v15.1 v15.2.2.1 v15.2.2.2 r3 h3 _) (cwV 2 hts (gBV kw616 kw475 kw476 kw2 kw477) rfl rfl rfl (by decide +kernel) ⟨Nat.le_of_ble_eq_true rfl, Nat.le_of_ble_eq_true rfl⟩) (sPc_V hPc hK hDc hE (va_recv hK hP (ci := 2) (q0 := 0) rfl rfl)) rfl rfl hl.1 rfl (lv_room (Nat.le_of_ble_eq_true rfl)) dX2_mixSpeeds_28 ⟨Nat.zero_le _, Nat.zero_le _⟩) (fun H locs hP hD hS => ?_)
            refine lv_i2l (v := Int32.toInt64 r3.1) hx hb dX2_mixSpeeds_31 rfl ?_
            obtain ⟨r4, h4, h⟩ := ob h
            refine call_j (v := r4) (wc := ([] : va_W)) (wc' := ([] : va_W)) (ws' := (gBo bh bk bo ++ (gS t (bk 0) nb now ++ (gE t (bk 2) eb r3.2)))) (cutB (bs := [gBo bh bk bo, gS t (bk 0) nb now, gE t (bk 2) eb r3.2]) (cs := []) (cs' := []) (bs' := [gBo bh bk bo, gS t (bk 0) nb now, gE t (bk 2) eb r3.2]) [] hP hD hS hA rfl rfl rfl rfl) hS (fun hPc hDc => va_runS (As := [.long v15.2.1, .long (Int32.toInt64 r3.1)]) (rest := []) ⟨hx, hb, hml, hown, hts⟩ (mtX2_mix l D t v15.2.1 (Int32.toInt64 r3.1) r4 h4 _) (va_cwS 2 hts (gBS kw602 kw603 kw2 kw604) rfl rfl rfl (by decide +kernel) ⟨Nat.le_of_ble_eq_true rfl, Nat.le_of_ble_eq_true rfl⟩) (sPc_S hPc hK hDc hE) rfl rfl hl.1 rfl (lv_room (Nat.le_of_ble_eq_true rfl)) dX2_mixSpeeds_32 ⟨Nat.zero_le _, Nat.zero_le _⟩) (fun H locs hP hD hS => ?_)
            refine lv_lstore_n (lv' := [(3, .long r4), (0, .ref bh), (5, .int v15.2.2.1), (6, .int v15.2.2.2)]) hx hb dX2_mixSpeeds_35 rfl hl (by decide) rfl (fun ls hl => ?_)
            refine lv_iinc (v := v15.2.2.2 + 1) (lv' := [(6, .int (v15.2.2.2 + 1)), (3, .long r4), (0, .ref bh), (5, .int v15.2.2.1)]) hx hb dX2_mixSpeeds_36 hl (k := 3) rfl rfl (by decide) rfl (fun ls hl => ?_)
            refine lv_goto (tgt := 15) hx hb dX2_mixSpeeds_39 (by decide) ?_
            exact ih15 (r3.2, r4, v15.2.2.1, v15.2.2.2 + 1) h _ _ hP hD hS _ (lv_sub hl [2, 1, 3, 0] rfl)
      refine lv_iload hx hb dX2_mixSpeeds_5 (lv_at hl 2 rfl) ?_
      refine lv_bipush (v := 6) hx hb dX2_mixSpeeds_7 (by decide) ?_
      refine lv_icmp_ge (tgt := 48) hx hb dX2_mixSpeeds_9 (by decide) (fun c1 => ?_) (fun c1 => ?_)
      · have h := it_p c1 h
        refine lv_lload_n hx hb dX2_mixSpeeds_48 rfl (lv_at hl 1 rfl) ?_
        obtain rfl := os h
        exact ret_j hx hb hr hlocks hP hK hD hS dX2_mixSpeeds_49
      · have h := it_n c1 h
        refine lv_iconst (v := 0) hx hb dX2_mixSpeeds_12 (by decide) ?_
        refine lv_istore (lv' := [(6, .int 0), (0, .ref bh), (3, .long v5.2.1), (5, .int v5.2.2)]) hx hb dX2_mixSpeeds_13 hl (by decide) rfl (fun ls hl => ?_)
        exact J15 2000 (v5.1, v5.2.1, v5.2.2, 0) h _ _ hP hD hS _ (lv_sub hl [1, 2, 3, 0] rfl)
  refine lv_lload_n hx hb dX2_mixSpeeds_0 rfl (lv_at hl 1 rfl) ?_
  refine lv_lstore_n (lv' := [(3, .long hh), (0, .ref bh), (1, .long hh)]) hx hb dX2_mixSpeeds_1 rfl hl (by decide) rfl (fun ls hl => ?_)
  refine lv_iconst (v := 0) hx hb dX2_mixSpeeds_2 (by decide) ?_
  refine lv_istore (lv' := [(5, .int 0), (3, .long hh), (0, .ref bh), (1, .long hh)]) hx hb dX2_mixSpeeds_3 hl (by decide) rfl (fun ls hl => ?_)
  exact J5 2000 (ex, hh, 0) h _ _ hP hD hS _ (lv_sub hl [2, 1, 0] rfl)

theorem dX2_mixColumn_0 : decode cX2_mixColumn 0 = .ok (.lload_n 1, 1) := by decide +kernel
theorem dX2_mixColumn_1 : decode cX2_mixColumn 1 = .ok (.lstore 4, 2) := by decide +kernel
theorem dX2_mixColumn_3 : decode cX2_mixColumn 3 = .ok (.iconst 0, 1) := by decide +kernel
theorem dX2_mixColumn_4 : decode cX2_mixColumn 4 = .ok (.istore 6, 2) := by decide +kernel
theorem dX2_mixColumn_6 : decode cX2_mixColumn 6 = .ok (.iload 6, 2) := by decide +kernel
theorem dX2_mixColumn_8 : decode cX2_mixColumn 8 = .ok (.iconst 3, 1) := by decide +kernel
theorem dX2_mixColumn_9 : decode cX2_mixColumn 9 = .ok (.if_icmp .gt 25, 3) := by decide +kernel
theorem dX2_mixColumn_12 : decode cX2_mixColumn 12 = .ok (.lload 4, 2) := by decide +kernel
theorem dX2_mixColumn_14 : decode cX2_mixColumn 14 = .ok (.aload_n 0, 1) := by decide +kernel
theorem dX2_mixColumn_15 : decode cX2_mixColumn 15 = .ok (.iconst 2, 1) := by decide +kernel
theorem dX2_mixColumn_16 : decode cX2_mixColumn 16 = .ok (.iload_n 3, 1) := by decide +kernel
theorem dX2_mixColumn_17 : decode cX2_mixColumn 17 = .ok (.iload 6, 2) := by decide +kernel
theorem dX2_mixColumn_19 : decode cX2_mixColumn 19 = .ok (.invokevirtual 257, 3) := by decide +kernel
theorem dX2_mixColumn_22 : decode cX2_mixColumn 22 = .ok (.i2l, 1) := by decide +kernel
theorem dX2_mixColumn_23 : decode cX2_mixColumn 23 = .ok (.invokestatic 212, 3) := by decide +kernel
theorem dX2_mixColumn_26 : decode cX2_mixColumn 26 = .ok (.lstore 4, 2) := by decide +kernel
theorem dX2_mixColumn_28 : decode cX2_mixColumn 28 = .ok (.iinc 6 1, 3) := by decide +kernel
theorem dX2_mixColumn_31 : decode cX2_mixColumn 31 = .ok (.goto (-25), 3) := by decide +kernel
theorem dX2_mixColumn_34 : decode cX2_mixColumn 34 = .ok (.lload 4, 2) := by decide +kernel
theorem dX2_mixColumn_36 : decode cX2_mixColumn 36 = .ok (.lreturn, 1) := by decide +kernel
abbrev zX2_mixColumn : List Cond := .code yX2_mixColumn cX2_mixColumn 7 (some .long) :: BIG
def fX2_mixColumn_l6 (bo : BoT) (now : ShT)  (K6 : (ExT × Int32 × Int64 × Int32) → Option (Int64 × ExT)) (v6 : ExT × Int32 × Int64 × Int32) : Option (Int64 × ExT) := (if 3 < v6.2.2.2 then some (v6.2.2.1, v6.1) else tq (fX2_column bo now v6.1 2 v6.2.1 v6.2.2.2) (fun r2 => (fX2_mix v6.2.2.1 (Int32.toInt64 r2.1)).bind (fun r3 => K6 (r2.2, v6.2.1, r3, v6.2.2.2 + 1))))
def fX2_mixColumn (bo : BoT) (now : ShT) (ex : ExT) (hh : Int64) (k : Int32) : Option (Int64 × ExT) := lp (fX2_mixColumn_l6 bo now) 2000 (ex, k, hh, 0)
set_option maxHeartbeats 4000000 in
set_option maxRecDepth 100000 in
theorem mtX2_mixColumn (l : Launch) (D : va_G) (t : Nat → ClassId) (bh : Nat) (bk : Nat → Nat) (bo : BoT) (nb : Nat → Nat) (now : ShT) (eb : Nat → Nat) (ex : ExT) (hh : Int64) (k : Int32) (out : Int64 × ExT) (h : fX2_mixColumn bo now ex hh k = some out)  (sz : Nat) : Met l yX2_mixColumn zX2_mixColumn ({ frames := 5, cells := 0, slots := 0, locals := 116 }) (sPc D t (gBo bh bk bo ++ (gS t (bk 0) nb now ++ (gE t (bk 2) eb ex))) sz [.ref bh, .long hh, .int k]) (qJ D t (gBo bh bk bo ++ (gS t (bk 0) nb now ++ (gE t (bk 2) eb out.2))) out.1 (va_A (gBo bh bk bo ++ (gS t (bk 0) nb now ++ (gE t (bk 2) eb ex))) sz)) 0 0 (va_A (gBo bh bk bo ++ (gS t (bk 0) nb now ++ (gE t (bk 2) eb ex))) sz) := by
  refine met_of (Qf := fun A => qJ D t (gBo bh bk bo ++ (gS t (bk 0) nb now ++ (gE t (bk 2) eb out.2))) out.1 A) (cc := cX2_mixColumn) (maxL := 7) (ret := some .long) (by decide) rfl (Nat.le_of_ble_eq_true rfl) ?_
  intro p e s m args below meth c A hx hb hr hml hts hown hlocks hA hP hK hD hE hS ls hl
  have htB : ∀ w ∈ BIG, w.before args s = true := fun w h => hts w (List.mem_cons_of_mem _ h)
  have hown : s.vm.findClass RX2 = some m.cls := hown
  have hl : lv_has ls 7 [(0, .ref bh), (1, .long hh), (3, .int k)] := hl
  unfold fX2_mixColumn at h
  have J6 : ∀ (fu6 : Nat) (v6 : ExT × Int32 × Int64 × Int32), lp (fX2_mixColumn_l6 bo now) fu6 v6 = some out → ∀ (H : Heap) (locs : List Loc), va_P D vwCl (gBo bh bk bo ++ (gS t (bk 0) nb now ++ (gE t (bk 2) eb v6.1))) H → va_D A (gBo bh bk bo ++ (gS t (bk 0) nb now ++ (gE t (bk 2) eb v6.1))) → va_S A s.heap H locs → ∀ ls : Array Slot, lv_has ls 7 [(0, .ref bh), (3, .int v6.2.1), (4, .long v6.2.2.1), (6, .int v6.2.2.2)] → W p l e ({ frames := 5, cells := 0, slots := 0, locals := 116 }) s m args below meth c H locs 0 0 (MQ below (qJ D t (gBo bh bk bo ++ (gS t (bk 0) nb now ++ (gE t (bk 2) eb out.2))) out.1 A) args s 0 0 A) (F0 m 6 ls []) := by
    intro fu6
    induction fu6 with
    | zero => intro v6 h; cases h
    | succ fu6 ih6 =>
      intro v6 h H locs hP hD hS ls hl
      have h : fX2_mixColumn_l6 bo now (lp (fX2_mixColumn_l6 bo now) fu6) v6 = some out := h
      unfold fX2_mixColumn_l6 at h
      refine lv_iload hx hb dX2_mixColumn_6 (lv_at hl 3 rfl) ?_
      refine lv_iconst (v := 3) hx hb dX2_mixColumn_8 (by decide) ?_
      refine lv_icmp_gt (tgt := 34) hx hb dX2_mixColumn_9 (by decide) (fun c1 => ?_) (fun c1 => ?_)
      · have h := it_p c1 h
        refine lv_lload hx hb dX2_mixColumn_34 (lv_at hl 2 rfl) ?_
        obtain rfl := os h
        exact ret_j hx hb hr hlocks hP hK hD hS dX2_mixColumn_36
      · have h := it_n c1 h
        refine lv_lload hx hb dX2_mixColumn_12 (lv_at hl 2 rfl) ?_
        refine lv_aload_n hx hb dX2_mixColumn_14 rfl (lv_at hl 0 rfl) ?_
        refine lv_iconst (v := 2) hx hb dX2_mixColumn_15 (by decide) ?_
        refine lv_iload_n hx hb dX2_mixColumn_16 rfl (lv_at hl 1 rfl) ?_
        refine lv_iload hx hb dX2_mixColumn_17 (lv_at hl 3 rfl) ?_
        obtain ⟨r2, h2, h⟩ := tq_r h
        refine call_i (v := r2.1) (wc := (gBo bh bk bo ++ (gS t (bk 0) nb now ++ (gE t (bk 2) eb v6.1)))) (wc' := (gBo bh bk bo ++ (gS t (bk 0) nb now ++ (gE t (bk 2) eb r2.2)))) (ws' := (gBo bh bk bo ++ (gS t (bk 0) nb now ++ (gE t (bk 2) eb r2.2)))) (cutB (bs := [gBo bh bk bo, gS t (bk 0) nb now, gE t (bk 2) eb v6.1]) (cs := [gBo bh bk bo, gS t (bk 0) nb now, gE t (bk 2) eb v6.1]) (cs' := [gBo bh bk bo, gS t (bk 0) nb now, gE t (bk 2) eb r2.2]) (bs' := [gBo bh bk bo, gS t (bk 0) nb now, gE t (bk 2) eb r2.2]) [0, 1, 2] hP hD hS hA rfl rfl rfl rfl) hS (fun hPc hDc => va_runV (As := [.int 2, .int v6.2.1, .int v6.2.2.2]) (rest := [.long v6.2.2.1]) ⟨hx, hb, hml, hown, hts⟩ (mtX2_column l D t bh bk bo nb now eb v6.1 2 v6.2.1 v6.2.2.2 r2 h2 _) (cwV 3 hts (gBV kw621 kw455 kw456 kw2 kw457) rfl rfl rfl (by decide +kernel) ⟨Nat.le_of_ble_eq_true rfl, Nat.le_of_ble_eq_true rfl⟩) (sPc_V hPc hK hDc hE (va_recv hK hP (ci := 2) (q0 := 0) rfl rfl)) rfl rfl hl.1 rfl (lv_room (Nat.le_of_ble_eq_true rfl)) dX2_mixColumn_19 ⟨Nat.zero_le _, Nat.zero_le _⟩) (fun H locs hP hD hS => ?_)
        refine lv_i2l (v := Int32.toInt64 r2.1) hx hb dX2_mixColumn_22 rfl ?_
        obtain ⟨r3, h3, h⟩ := ob h
        refine call_j (v := r3) (wc := ([] : va_W)) (wc' := ([] : va_W)) (ws' := (gBo bh bk bo ++ (gS t (bk 0) nb now ++ (gE t (bk 2) eb r2.2)))) (cutB (bs := [gBo bh bk bo, gS t (bk 0) nb now, gE t (bk 2) eb r2.2]) (cs := []) (cs' := []) (bs' := [gBo bh bk bo, gS t (bk 0) nb now, gE t (bk 2) eb r2.2]) [] hP hD hS hA rfl rfl rfl rfl) hS (fun hPc hDc => va_runS (As := [.long v6.2.2.1, .long (Int32.toInt64 r2.1)]) (rest := []) ⟨hx, hb, hml, hown, hts⟩ (mtX2_mix l D t v6.2.2.1 (Int32.toInt64 r2.1) r3 h3 _) (va_cwS 2 hts (gBS kw602 kw603 kw2 kw604) rfl rfl rfl (by decide +kernel) ⟨Nat.le_of_ble_eq_true rfl, Nat.le_of_ble_eq_true rfl⟩) (sPc_S hPc hK hDc hE) rfl rfl hl.1 rfl (lv_room (Nat.le_of_ble_eq_true rfl)) dX2_mixColumn_23 ⟨Nat.zero_le _, Nat.zero_le _⟩) (fun H locs hP hD hS => ?_)
        refine lv_lstore (lv' := [(4, .long r3), (0, .ref bh), (3, .int v6.2.1), (6, .int v6.2.2.2)]) hx hb dX2_mixColumn_26 hl (by decide) rfl (fun ls hl => ?_)
        refine lv_iinc (v := v6.2.2.2 + 1) (lv' := [(6, .int (v6.2.2.2 + 1)), (4, .long r3), (0, .ref bh), (3, .int v6.2.1)]) hx hb dX2_mixColumn_28 hl (k := 3) rfl rfl (by decide) rfl (fun ls hl => ?_)
        refine lv_goto (tgt := 6) hx hb dX2_mixColumn_31 (by decide) ?_
        exact ih6 (r2.2, v6.2.1, r3, v6.2.2.2 + 1) h _ _ hP hD hS _ (lv_sub hl [2, 3, 1, 0] rfl)
  refine lv_lload_n hx hb dX2_mixColumn_0 rfl (lv_at hl 1 rfl) ?_
  refine lv_lstore (lv' := [(4, .long hh), (0, .ref bh), (1, .long hh), (3, .int k)]) hx hb dX2_mixColumn_1 hl (by decide) rfl (fun ls hl => ?_)
  refine lv_iconst (v := 0) hx hb dX2_mixColumn_3 (by decide) ?_
  refine lv_istore (lv' := [(6, .int 0), (4, .long hh), (0, .ref bh), (1, .long hh), (3, .int k)]) hx hb dX2_mixColumn_4 hl (by decide) rfl (fun ls hl => ?_)
  exact J6 2000 (ex, k, hh, 0) h _ _ hP hD hS _ (lv_sub hl [2, 4, 1, 0] rfl)

theorem dX2_digest_0 : decode cX2_digest 0 = .ok (.ldc2_w 207, 3) := by decide +kernel
theorem dX2_digest_3 : decode cX2_digest 3 = .ok (.lstore_n 1, 1) := by decide +kernel
theorem dX2_digest_4 : decode cX2_digest 4 = .ok (.iconst 0, 1) := by decide +kernel
theorem dX2_digest_5 : decode cX2_digest 5 = .ok (.istore_n 3, 1) := by decide +kernel
theorem dX2_digest_6 : decode cX2_digest 6 = .ok (.iload_n 3, 1) := by decide +kernel
theorem dX2_digest_7 : decode cX2_digest 7 = .ok (.iconst 4, 1) := by decide +kernel
theorem dX2_digest_8 : decode cX2_digest 8 = .ok (.if_icmp .gt 20, 3) := by decide +kernel
theorem dX2_digest_11 : decode cX2_digest 11 = .ok (.lload_n 1, 1) := by decide +kernel
theorem dX2_digest_12 : decode cX2_digest 12 = .ok (.aload_n 0, 1) := by decide +kernel
theorem dX2_digest_13 : decode cX2_digest 13 = .ok (.iload_n 3, 1) := by decide +kernel
theorem dX2_digest_14 : decode cX2_digest 14 = .ok (.invokevirtual 209, 3) := by decide +kernel
theorem dX2_digest_17 : decode cX2_digest 17 = .ok (.i2l, 1) := by decide +kernel
theorem dX2_digest_18 : decode cX2_digest 18 = .ok (.invokestatic 212, 3) := by decide +kernel
theorem dX2_digest_21 : decode cX2_digest 21 = .ok (.lstore_n 1, 1) := by decide +kernel
theorem dX2_digest_22 : decode cX2_digest 22 = .ok (.iinc 3 1, 3) := by decide +kernel
theorem dX2_digest_25 : decode cX2_digest 25 = .ok (.goto (-19), 3) := by decide +kernel
theorem dX2_digest_28 : decode cX2_digest 28 = .ok (.iconst 0, 1) := by decide +kernel
theorem dX2_digest_29 : decode cX2_digest 29 = .ok (.istore_n 3, 1) := by decide +kernel
theorem dX2_digest_30 : decode cX2_digest 30 = .ok (.iload_n 3, 1) := by decide +kernel
theorem dX2_digest_31 : decode cX2_digest 31 = .ok (.iconst 4, 1) := by decide +kernel
theorem dX2_digest_32 : decode cX2_digest 32 = .ok (.if_icmp .ge 20, 3) := by decide +kernel
theorem dX2_digest_35 : decode cX2_digest 35 = .ok (.lload_n 1, 1) := by decide +kernel
theorem dX2_digest_36 : decode cX2_digest 36 = .ok (.aload_n 0, 1) := by decide +kernel
theorem dX2_digest_37 : decode cX2_digest 37 = .ok (.iload_n 3, 1) := by decide +kernel
theorem dX2_digest_38 : decode cX2_digest 38 = .ok (.invokevirtual 216, 3) := by decide +kernel
theorem dX2_digest_41 : decode cX2_digest 41 = .ok (.i2l, 1) := by decide +kernel
theorem dX2_digest_42 : decode cX2_digest 42 = .ok (.invokestatic 212, 3) := by decide +kernel
theorem dX2_digest_45 : decode cX2_digest 45 = .ok (.lstore_n 1, 1) := by decide +kernel
theorem dX2_digest_46 : decode cX2_digest 46 = .ok (.iinc 3 1, 3) := by decide +kernel
theorem dX2_digest_49 : decode cX2_digest 49 = .ok (.goto (-19), 3) := by decide +kernel
theorem dX2_digest_52 : decode cX2_digest 52 = .ok (.aload_n 0, 1) := by decide +kernel
theorem dX2_digest_53 : decode cX2_digest 53 = .ok (.lload_n 1, 1) := by decide +kernel
theorem dX2_digest_54 : decode cX2_digest 54 = .ok (.invokevirtual 219, 3) := by decide +kernel
theorem dX2_digest_57 : decode cX2_digest 57 = .ok (.lstore_n 1, 1) := by decide +kernel
theorem dX2_digest_58 : decode cX2_digest 58 = .ok (.aload_n 0, 1) := by decide +kernel
theorem dX2_digest_59 : decode cX2_digest 59 = .ok (.lload_n 1, 1) := by decide +kernel
theorem dX2_digest_60 : decode cX2_digest 60 = .ok (.invokevirtual 223, 3) := by decide +kernel
theorem dX2_digest_63 : decode cX2_digest 63 = .ok (.lstore_n 1, 1) := by decide +kernel
theorem dX2_digest_64 : decode cX2_digest 64 = .ok (.aload_n 0, 1) := by decide +kernel
theorem dX2_digest_65 : decode cX2_digest 65 = .ok (.lload_n 1, 1) := by decide +kernel
theorem dX2_digest_66 : decode cX2_digest 66 = .ok (.iconst 0, 1) := by decide +kernel
theorem dX2_digest_67 : decode cX2_digest 67 = .ok (.invokevirtual 226, 3) := by decide +kernel
theorem dX2_digest_70 : decode cX2_digest 70 = .ok (.lstore_n 1, 1) := by decide +kernel
theorem dX2_digest_71 : decode cX2_digest 71 = .ok (.aload_n 0, 1) := by decide +kernel
theorem dX2_digest_72 : decode cX2_digest 72 = .ok (.lload_n 1, 1) := by decide +kernel
theorem dX2_digest_73 : decode cX2_digest 73 = .ok (.bipush 11, 2) := by decide +kernel
theorem dX2_digest_75 : decode cX2_digest 75 = .ok (.invokevirtual 226, 3) := by decide +kernel
theorem dX2_digest_78 : decode cX2_digest 78 = .ok (.lstore_n 1, 1) := by decide +kernel
theorem dX2_digest_79 : decode cX2_digest 79 = .ok (.aload_n 0, 1) := by decide +kernel
theorem dX2_digest_80 : decode cX2_digest 80 = .ok (.lload_n 1, 1) := by decide +kernel
theorem dX2_digest_81 : decode cX2_digest 81 = .ok (.bipush 23, 2) := by decide +kernel
theorem dX2_digest_83 : decode cX2_digest 83 = .ok (.invokevirtual 226, 3) := by decide +kernel
theorem dX2_digest_86 : decode cX2_digest 86 = .ok (.lstore_n 1, 1) := by decide +kernel
theorem dX2_digest_87 : decode cX2_digest 87 = .ok (.lload_n 1, 1) := by decide +kernel
theorem dX2_digest_88 : decode cX2_digest 88 = .ok (.aload_n 0, 1) := by decide +kernel
theorem dX2_digest_89 : decode cX2_digest 89 = .ok (.iconst 1, 1) := by decide +kernel
theorem dX2_digest_90 : decode cX2_digest 90 = .ok (.invokevirtual 230, 3) := by decide +kernel
theorem dX2_digest_93 : decode cX2_digest 93 = .ok (.i2l, 1) := by decide +kernel
theorem dX2_digest_94 : decode cX2_digest 94 = .ok (.invokestatic 212, 3) := by decide +kernel
theorem dX2_digest_97 : decode cX2_digest 97 = .ok (.lstore_n 1, 1) := by decide +kernel
theorem dX2_digest_98 : decode cX2_digest 98 = .ok (.lload_n 1, 1) := by decide +kernel
theorem dX2_digest_99 : decode cX2_digest 99 = .ok (.aload_n 0, 1) := by decide +kernel
theorem dX2_digest_100 : decode cX2_digest 100 = .ok (.iconst 1, 1) := by decide +kernel
theorem dX2_digest_101 : decode cX2_digest 101 = .ok (.iconst 2, 1) := by decide +kernel
theorem dX2_digest_102 : decode cX2_digest 102 = .ok (.invokevirtual 233, 3) := by decide +kernel
theorem dX2_digest_105 : decode cX2_digest 105 = .ok (.i2l, 1) := by decide +kernel
theorem dX2_digest_106 : decode cX2_digest 106 = .ok (.invokestatic 212, 3) := by decide +kernel
theorem dX2_digest_109 : decode cX2_digest 109 = .ok (.lstore_n 1, 1) := by decide +kernel
theorem dX2_digest_110 : decode cX2_digest 110 = .ok (.iconst 0, 1) := by decide +kernel
theorem dX2_digest_111 : decode cX2_digest 111 = .ok (.istore_n 3, 1) := by decide +kernel
theorem dX2_digest_112 : decode cX2_digest 112 = .ok (.iload_n 3, 1) := by decide +kernel
theorem dX2_digest_113 : decode cX2_digest 113 = .ok (.iconst 2, 1) := by decide +kernel
theorem dX2_digest_114 : decode cX2_digest 114 = .ok (.if_icmp .gt 23, 3) := by decide +kernel
theorem dX2_digest_117 : decode cX2_digest 117 = .ok (.lload_n 1, 1) := by decide +kernel
theorem dX2_digest_118 : decode cX2_digest 118 = .ok (.aload_n 0, 1) := by decide +kernel
theorem dX2_digest_119 : decode cX2_digest 119 = .ok (.iconst 0, 1) := by decide +kernel
theorem dX2_digest_120 : decode cX2_digest 120 = .ok (.bipush 9, 2) := by decide +kernel
theorem dX2_digest_122 : decode cX2_digest 122 = .ok (.iload_n 3, 1) := by decide +kernel
theorem dX2_digest_123 : decode cX2_digest 123 = .ok (.invokevirtual 236, 3) := by decide +kernel
theorem dX2_digest_126 : decode cX2_digest 126 = .ok (.i2l, 1) := by decide +kernel
theorem dX2_digest_127 : decode cX2_digest 127 = .ok (.invokestatic 212, 3) := by decide +kernel
theorem dX2_digest_130 : decode cX2_digest 130 = .ok (.lstore_n 1, 1) := by decide +kernel
theorem dX2_digest_131 : decode cX2_digest 131 = .ok (.iinc 3 1, 3) := by decide +kernel
theorem dX2_digest_134 : decode cX2_digest 134 = .ok (.goto (-22), 3) := by decide +kernel
theorem dX2_digest_137 : decode cX2_digest 137 = .ok (.lload_n 1, 1) := by decide +kernel
theorem dX2_digest_138 : decode cX2_digest 138 = .ok (.aload_n 0, 1) := by decide +kernel
theorem dX2_digest_139 : decode cX2_digest 139 = .ok (.iconst 3, 1) := by decide +kernel
theorem dX2_digest_140 : decode cX2_digest 140 = .ok (.bipush 60, 2) := by decide +kernel
theorem dX2_digest_142 : decode cX2_digest 142 = .ok (.invokevirtual 240, 3) := by decide +kernel
theorem dX2_digest_145 : decode cX2_digest 145 = .ok (.i2l, 1) := by decide +kernel
theorem dX2_digest_146 : decode cX2_digest 146 = .ok (.invokestatic 212, 3) := by decide +kernel
theorem dX2_digest_149 : decode cX2_digest 149 = .ok (.lstore_n 1, 1) := by decide +kernel
theorem dX2_digest_150 : decode cX2_digest 150 = .ok (.lload_n 1, 1) := by decide +kernel
theorem dX2_digest_151 : decode cX2_digest 151 = .ok (.aload_n 0, 1) := by decide +kernel
theorem dX2_digest_152 : decode cX2_digest 152 = .ok (.iconst 2, 1) := by decide +kernel
theorem dX2_digest_153 : decode cX2_digest 153 = .ok (.invokevirtual 243, 3) := by decide +kernel
theorem dX2_digest_156 : decode cX2_digest 156 = .ok (.invokestatic 247, 3) := by decide +kernel
theorem dX2_digest_159 : decode cX2_digest 159 = .ok (.invokestatic 212, 3) := by decide +kernel
theorem dX2_digest_162 : decode cX2_digest 162 = .ok (.lstore_n 1, 1) := by decide +kernel
theorem dX2_digest_163 : decode cX2_digest 163 = .ok (.lload_n 1, 1) := by decide +kernel
theorem dX2_digest_164 : decode cX2_digest 164 = .ok (.aload_n 0, 1) := by decide +kernel
theorem dX2_digest_165 : decode cX2_digest 165 = .ok (.getfield 41, 3) := by decide +kernel
theorem dX2_digest_168 : decode cX2_digest 168 = .ok (.i2l, 1) := by decide +kernel
theorem dX2_digest_169 : decode cX2_digest 169 = .ok (.invokestatic 212, 3) := by decide +kernel
theorem dX2_digest_172 : decode cX2_digest 172 = .ok (.lstore_n 1, 1) := by decide +kernel
theorem dX2_digest_173 : decode cX2_digest 173 = .ok (.iconst 0, 1) := by decide +kernel
theorem dX2_digest_174 : decode cX2_digest 174 = .ok (.istore_n 3, 1) := by decide +kernel
theorem dX2_digest_175 : decode cX2_digest 175 = .ok (.iload_n 3, 1) := by decide +kernel
theorem dX2_digest_176 : decode cX2_digest 176 = .ok (.aload_n 0, 1) := by decide +kernel
theorem dX2_digest_177 : decode cX2_digest 177 = .ok (.getfield 41, 3) := by decide +kernel
theorem dX2_digest_180 : decode cX2_digest 180 = .ok (.if_icmp .ge 23, 3) := by decide +kernel
theorem dX2_digest_183 : decode cX2_digest 183 = .ok (.lload_n 1, 1) := by decide +kernel
theorem dX2_digest_184 : decode cX2_digest 184 = .ok (.aload_n 0, 1) := by decide +kernel
theorem dX2_digest_185 : decode cX2_digest 185 = .ok (.getfield 37, 3) := by decide +kernel
theorem dX2_digest_188 : decode cX2_digest 188 = .ok (.iload_n 3, 1) := by decide +kernel
theorem dX2_digest_189 : decode cX2_digest 189 = .ok (.invokestatic 58, 3) := by decide +kernel
theorem dX2_digest_192 : decode cX2_digest 192 = .ok (.i2l, 1) := by decide +kernel
theorem dX2_digest_193 : decode cX2_digest 193 = .ok (.invokestatic 212, 3) := by decide +kernel
theorem dX2_digest_196 : decode cX2_digest 196 = .ok (.lstore_n 1, 1) := by decide +kernel
theorem dX2_digest_197 : decode cX2_digest 197 = .ok (.iinc 3 1, 3) := by decide +kernel
theorem dX2_digest_200 : decode cX2_digest 200 = .ok (.goto (-25), 3) := by decide +kernel
theorem dX2_digest_203 : decode cX2_digest 203 = .ok (.lload_n 1, 1) := by decide +kernel
theorem dX2_digest_204 : decode cX2_digest 204 = .ok (.lreturn, 1) := by decide +kernel
abbrev zX2_digest : List Cond := .code yX2_digest cX2_digest 4 (some .long) :: BIG
def fX2_digest_l175 (bo : BoT) (now : ShT) (buf : (Nat → Int32))  (K175 : (ShT × ExT × Int64 × Int32) → Option (Int64 × ShT × ExT)) (v175 : ShT × ExT × Int64 × Int32) : Option (Int64 × ShT × ExT) := (if bo.2.2 ≤ v175.2.2.2 then some (v175.2.2.1, v175.1, v175.2.1) else (fX2_at 60 buf v175.2.2.2).bind (fun r26 => (fX2_mix v175.2.2.1 (Int32.toInt64 r26)).bind (fun r27 => K175 (v175.1, v175.2.1, r27, v175.2.2.2 + 1))))
def fX2_digest_l112 (bo : BoT) (now : ShT) (buf : (Nat → Int32))  (K112 : (ShT × ExT × Int64 × Int32) → Option (Int64 × ShT × ExT)) (v112 : ShT × ExT × Int64 × Int32) : Option (Int64 × ShT × ExT) := (if 2 < v112.2.2.2 then tq (fX2_goodFor bo now v112.1 v112.2.1 3 60) (fun r17 => (fX2_mix v112.2.2.1 (Int32.toInt64 r17.1)).bind (fun r18 => tq (fX2_evenness bo now r17.2.2 2) (fun r19 => (fX2_bitsOfShare r19.1).bind (fun r20 => (fX2_mix r18 r20).bind (fun r21 => (fX2_mix r21 (Int32.toInt64 bo.2.2)).bind (fun r22 => lp (fX2_digest_l175 bo now buf) 2000 (r17.2.1, r19.2, r22, 0))))))) else tq (fX2_ifShot bo now v112.1 v112.2.1 0 9 v112.2.2.2) (fun r23 => (fX2_mix v112.2.2.1 (Int32.toInt64 r23.1)).bind (fun r24 => K112 (r23.2.1, r23.2.2, r24, v112.2.2.2 + 1))))
def fX2_digest_l30 (bo : BoT) (now : ShT) (buf : (Nat → Int32))  (K30 : (ShT × ExT × Int64 × Int32) → Option (Int64 × ShT × ExT)) (v30 : ShT × ExT × Int64 × Int32) : Option (Int64 × ShT × ExT) := (if 4 ≤ v30.2.2.2 then (fX2_mixCurtains bo now v30.2.2.1).bind (fun r5 => (fX2_mixSpeeds bo now v30.2.1 r5).bind (fun r6 => (fX2_mixColumn bo now r6.2 r6.1 0).bind (fun r7 => (fX2_mixColumn bo now r7.2 r7.1 11).bind (fun r8 => (fX2_mixColumn bo now r8.2 r8.1 23).bind (fun r9 => tq (fX2_bestCorrection bo now v30.1 r9.2 1) (fun r10 => (fX2_mix r9.1 (Int32.toInt64 r10.1)).bind (fun r11 => tq (fX2_bestSpring bo now r10.2.1 r10.2.2 1 2) (fun r12 => (fX2_mix r11 (Int32.toInt64 r12.1)).bind (fun r13 => lp (fX2_digest_l112 bo now buf) 2000 (r12.2.1, r12.2.2, r13, 0)))))))))) else tq (fX2_setting bo now v30.2.2.2) (fun r14 => (fX2_mix v30.2.2.1 (Int32.toInt64 r14)).bind (fun r15 => K30 (v30.1, v30.2.1, r15, v30.2.2.2 + 1))))
def fX2_digest_l6 (bo : BoT) (now : ShT) (buf : (Nat → Int32))  (K6 : (ShT × ExT × Int64 × Int32) → Option (Int64 × ShT × ExT)) (v6 : ShT × ExT × Int64 × Int32) : Option (Int64 × ShT × ExT) := (if 4 < v6.2.2.2 then lp (fX2_digest_l30 bo now buf) 2000 (v6.1, v6.2.1, v6.2.2.1, 0) else tq (fX2_count bo now v6.2.2.2) (fun r2 => (fX2_mix v6.2.2.1 (Int32.toInt64 r2)).bind (fun r3 => K6 (v6.1, v6.2.1, r3, v6.2.2.2 + 1))))
def fX2_digest (bo : BoT) (now : ShT) (pr : ShT) (ex : ExT) (buf : (Nat → Int32)) : Option (Int64 × ShT × ExT) := lp (fX2_digest_l6 bo now buf) 2000 (pr, ex, 3191, 0)
set_option maxHeartbeats 4000000 in
set_option maxRecDepth 100000 in
theorem mtX2_digest (l : Launch) (D : va_G) (t : Nat → ClassId) (bh : Nat) (bk : Nat → Nat) (bo : BoT) (nb : Nat → Nat) (now : ShT) (pb : Nat → Nat) (pr : ShT) (eb : Nat → Nat) (ex : ExT) (buf : (Nat → Int32)) (out : Int64 × ShT × ExT) (h : fX2_digest bo now pr ex buf = some out)  (sz : Nat) : Met l yX2_digest zX2_digest ({ frames := 6, cells := 0, slots := 0, locals := 142 }) (sPc D t (gBo bh bk bo ++ (gS t (bk 0) nb now ++ (gS t (bk 1) pb pr ++ (gE t (bk 2) eb ex ++ (gA t (bk 4) 60 buf))))) sz [.ref bh]) (qJ D t (gBo bh bk bo ++ (gS t (bk 0) nb now ++ (gS t (bk 1) pb out.2.1 ++ (gE t (bk 2) eb out.2.2 ++ (gA t (bk 4) 60 buf))))) out.1 (va_A (gBo bh bk bo ++ (gS t (bk 0) nb now ++ (gS t (bk 1) pb pr ++ (gE t (bk 2) eb ex ++ (gA t (bk 4) 60 buf))))) sz)) 0 0 (va_A (gBo bh bk bo ++ (gS t (bk 0) nb now ++ (gS t (bk 1) pb pr ++ (gE t (bk 2) eb ex ++ (gA t (bk 4) 60 buf))))) sz) := by
  refine met_of (Qf := fun A => qJ D t (gBo bh bk bo ++ (gS t (bk 0) nb now ++ (gS t (bk 1) pb out.2.1 ++ (gE t (bk 2) eb out.2.2 ++ (gA t (bk 4) 60 buf))))) out.1 A) (cc := cX2_digest) (maxL := 4) (ret := some .long) (by decide) rfl (Nat.le_of_ble_eq_true rfl) ?_
  intro p e s m args below meth c A hx hb hr hml hts hown hlocks hA hP hK hD hE hS ls hl
  have htB : ∀ w ∈ BIG, w.before args s = true := fun w h => hts w (List.mem_cons_of_mem _ h)
  have hown : s.vm.findClass RX2 = some m.cls := hown
  have hl : lv_has ls 4 [(0, .ref bh)] := hl
  unfold fX2_digest at h
  have J175 : ∀ (fu175 : Nat) (v175 : ShT × ExT × Int64 × Int32), lp (fX2_digest_l175 bo now buf) fu175 v175 = some out → ∀ (H : Heap) (locs : List Loc), va_P D vwCl (gBo bh bk bo ++ (gS t (bk 0) nb now ++ (gS t (bk 1) pb v175.1 ++ (gE t (bk 2) eb v175.2.1 ++ (gA t (bk 4) 60 buf))))) H → va_D A (gBo bh bk bo ++ (gS t (bk 0) nb now ++ (gS t (bk 1) pb v175.1 ++ (gE t (bk 2) eb v175.2.1 ++ (gA t (bk 4) 60 buf))))) → va_S A s.heap H locs → ∀ ls : Array Slot, lv_has ls 4 [(0, .ref bh), (1, .long v175.2.2.1), (3, .int v175.2.2.2)] → W p l e ({ frames := 6, cells := 0, slots := 0, locals := 142 }) s m args below meth c H locs 0 0 (MQ below (qJ D t (gBo bh bk bo ++ (gS t (bk 0) nb now ++ (gS t (bk 1) pb out.2.1 ++ (gE t (bk 2) eb out.2.2 ++ (gA t (bk 4) 60 buf))))) out.1 A) args s 0 0 A) (F0 m 175 ls []) := by
    intro fu175
    induction fu175 with
    | zero => intro v175 h; cases h
    | succ fu175 ih175 =>
      intro v175 h H locs hP hD hS ls hl
      have h : fX2_digest_l175 bo now buf (lp (fX2_digest_l175 bo now buf) fu175) v175 = some out := h
      unfold fX2_digest_l175 at h
      refine lv_iload_n hx hb dX2_digest_175 rfl (lv_at hl 2 rfl) ?_
      refine lv_aload_n hx hb dX2_digest_176 rfl (lv_at hl 0 rfl) ?_
      refine va_get (D := D) (ci := 2) (v := .int bo.2.2) (C := RX2) (T := TX2) (N := 8) hx hb htB inlX2 hown hK hP 0 rfl rfl 7 (by decide) (htB _ kw28) (fun _ h9 => h9) rfl dX2_digest_177 ?_
      refine lv_icmp_ge (tgt := 203) hx hb dX2_digest_180 (by decide) (fun c25 => ?_) (fun c25 => ?_)
      · have h := it_p c25 h
        refine lv_lload_n hx hb dX2_digest_203 rfl (lv_at hl 1 rfl) ?_
        obtain rfl := os h
        exact ret_j hx hb hr hlocks hP hK hD hS dX2_digest_204
      · have h := it_n c25 h
        refine lv_lload_n hx hb dX2_digest_183 rfl (lv_at hl 1 rfl) ?_
        refine lv_aload_n hx hb dX2_digest_184 rfl (lv_at hl 0 rfl) ?_
        refine va_get (D := D) (ci := 2) (v := .ref (bk 4)) (C := RX2) (T := TX2) (N := 8) hx hb htB inlX2 hown hK hP 0 rfl rfl 6 (by decide) (htB _ kw27) (fun _ h9 => h9) rfl dX2_digest_185 ?_
        refine lv_iload_n hx hb dX2_digest_188 rfl (lv_at hl 2 rfl) ?_
        obtain ⟨r26, h26, h⟩ := ob h
        refine call_i (v := r26) (wc := (gA t (bk 4) 60 buf)) (wc' := (gA t (bk 4) 60 buf)) (ws' := (gBo bh bk bo ++ (gS t (bk 0) nb now ++ (gS t (bk 1) pb v175.1 ++ (gE t (bk 2) eb v175.2.1 ++ (gA t (bk 4) 60 buf)))))) (cutB (bs := [gBo bh bk bo, gS t (bk 0) nb now, gS t (bk 1) pb v175.1, gE t (bk 2) eb v175.2.1, gA t (bk 4) 60 buf]) (cs := [gA t (bk 4) 60 buf]) (cs' := [gA t (bk 4) 60 buf]) (bs' := [gBo bh bk bo, gS t (bk 0) nb now, gS t (bk 1) pb v175.1, gE t (bk 2) eb v175.2.1, gA t (bk 4) 60 buf]) [4] hP hD hS hA rfl rfl rfl rfl) hS (fun hPc hDc => va_runS (As := [.ref (bk 4), .int v175.2.2.2]) (rest := [.long v175.2.2.1]) ⟨hx, hb, hml, hown, hts⟩ (mtX2_at l D t (bk 4) 60 buf v175.2.2.2 r26 h26 (by decide) _) (va_cwS 2 hts (gBS kw104 kw105 kw2 kw106) rfl rfl rfl (by decide +kernel) ⟨Nat.le_of_ble_eq_true rfl, Nat.le_of_ble_eq_true rfl⟩) (sPc_S hPc hK hDc hE) rfl rfl hl.1 rfl (lv_room (Nat.le_of_ble_eq_true rfl)) dX2_digest_189 ⟨Nat.zero_le _, Nat.zero_le _⟩) (fun H locs hP hD hS => ?_)
        refine lv_i2l (v := Int32.toInt64 r26) hx hb dX2_digest_192 rfl ?_
        obtain ⟨r27, h27, h⟩ := ob h
        refine call_j (v := r27) (wc := ([] : va_W)) (wc' := ([] : va_W)) (ws' := (gBo bh bk bo ++ (gS t (bk 0) nb now ++ (gS t (bk 1) pb v175.1 ++ (gE t (bk 2) eb v175.2.1 ++ (gA t (bk 4) 60 buf)))))) (cutB (bs := [gBo bh bk bo, gS t (bk 0) nb now, gS t (bk 1) pb v175.1, gE t (bk 2) eb v175.2.1, gA t (bk 4) 60 buf]) (cs := []) (cs' := []) (bs' := [gBo bh bk bo, gS t (bk 0) nb now, gS t (bk 1) pb v175.1, gE t (bk 2) eb v175.2.1, gA t (bk 4) 60 buf]) [] hP hD hS hA rfl rfl rfl rfl) hS (fun hPc hDc => va_runS (As := [.long v175.2.2.1, .long (Int32.toInt64 r26)]) (rest := []) ⟨hx, hb, hml, hown, hts⟩ (mtX2_mix l D t v175.2.2.1 (Int32.toInt64 r26) r27 h27 _) (va_cwS 2 hts (gBS kw602 kw603 kw2 kw604) rfl rfl rfl (by decide +kernel) ⟨Nat.le_of_ble_eq_true rfl, Nat.le_of_ble_eq_true rfl⟩) (sPc_S hPc hK hDc hE) rfl rfl hl.1 rfl (lv_room (Nat.le_of_ble_eq_true rfl)) dX2_digest_193 ⟨Nat.zero_le _, Nat.zero_le _⟩) (fun H locs hP hD hS => ?_)
        refine lv_lstore_n (lv' := [(1, .long r27), (0, .ref bh), (3, .int v175.2.2.2)]) hx hb dX2_digest_196 rfl hl (by decide) rfl (fun ls hl => ?_)
        refine lv_iinc (v := v175.2.2.2 + 1) (lv' := [(3, .int (v175.2.2.2 + 1)), (1, .long r27), (0, .ref bh)]) hx hb dX2_digest_197 hl (k := 2) rfl rfl (by decide) rfl (fun ls hl => ?_)
        refine lv_goto (tgt := 175) hx hb dX2_digest_200 (by decide) ?_
        exact ih175 (v175.1, v175.2.1, r27, v175.2.2.2 + 1) h _ _ hP hD hS _ (lv_sub hl [2, 1, 0] rfl)
  have J112 : ∀ (fu112 : Nat) (v112 : ShT × ExT × Int64 × Int32), lp (fX2_digest_l112 bo now buf) fu112 v112 = some out → ∀ (H : Heap) (locs : List Loc), va_P D vwCl (gBo bh bk bo ++ (gS t (bk 0) nb now ++ (gS t (bk 1) pb v112.1 ++ (gE t (bk 2) eb v112.2.1 ++ (gA t (bk 4) 60 buf))))) H → va_D A (gBo bh bk bo ++ (gS t (bk 0) nb now ++ (gS t (bk 1) pb v112.1 ++ (gE t (bk 2) eb v112.2.1 ++ (gA t (bk 4) 60 buf))))) → va_S A s.heap H locs → ∀ ls : Array Slot, lv_has ls 4 [(0, .ref bh), (1, .long v112.2.2.1), (3, .int v112.2.2.2)] → W p l e ({ frames := 6, cells := 0, slots := 0, locals := 142 }) s m args below meth c H locs 0 0 (MQ below (qJ D t (gBo bh bk bo ++ (gS t (bk 0) nb now ++ (gS t (bk 1) pb out.2.1 ++ (gE t (bk 2) eb out.2.2 ++ (gA t (bk 4) 60 buf))))) out.1 A) args s 0 0 A) (F0 m 112 ls []) := by
    intro fu112
    induction fu112 with
    | zero => intro v112 h; cases h
    | succ fu112 ih112 =>
      intro v112 h H locs hP hD hS ls hl
      have h : fX2_digest_l112 bo now buf (lp (fX2_digest_l112 bo now buf) fu112) v112 = some out := h
      unfold fX2_digest_l112 at h
      refine lv_iload_n hx hb dX2_digest_112 rfl (lv_at hl 2 rfl) ?_
      refine lv_iconst (v := 2) hx hb dX2_digest_113 (by decide) ?_
      refine lv_icmp_gt (tgt := 137) hx hb dX2_digest_114 (by decide) (fun c16 => ?_) (fun c16 => ?_)
      · have h := it_p c16 h
        refine lv_lload_n hx hb dX2_digest_137 rfl (lv_at hl 1 rfl) ?_
        refine lv_aload_n hx hb dX2_digest_138 rfl (lv_at hl 0 rfl) ?_
        refine lv_iconst (v := 3) hx hb dX2_digest_139 (by decide) ?_
        refine lv_bipush (v := 60) hx hb dX2_digest_140 (by decide) ?_
        obtain ⟨r17, h17, h⟩ := tq_r h
        refine call_i (v := r17.1) (wc := (gBo bh bk bo ++ (gS t (bk 0) nb now ++ (gS t (bk 1) pb v112.1 ++ (gE t (bk 2) eb v112.2.1))))) (wc' := (gBo bh bk bo ++ (gS t (bk 0) nb now ++ (gS t (bk 1) pb r17.2.1 ++ (gE t (bk 2) eb r17.2.2))))) (ws' := (gBo bh bk bo ++ (gS t (bk 0) nb now ++ (gS t (bk 1) pb r17.2.1 ++ (gE t (bk 2) eb r17.2.2 ++ (gA t (bk 4) 60 buf)))))) (cutB (bs := [gBo bh bk bo, gS t (bk 0) nb now, gS t (bk 1) pb v112.1, gE t (bk 2) eb v112.2.1, gA t (bk 4) 60 buf]) (cs := [gBo bh bk bo, gS t (bk 0) nb now, gS t (bk 1) pb v112.1, gE t (bk 2) eb v112.2.1]) (cs' := [gBo bh bk bo, gS t (bk 0) nb now, gS t (bk 1) pb r17.2.1, gE t (bk 2) eb r17.2.2]) (bs' := [gBo bh bk bo, gS t (bk 0) nb now, gS t (bk 1) pb r17.2.1, gE t (bk 2) eb r17.2.2, gA t (bk 4) 60 buf]) [0, 1, 2, 3] hP hD hS hA rfl rfl rfl rfl) hS (fun hPc hDc => va_runV (As := [.int 3, .int 60]) (rest := [.long v112.2.2.1]) ⟨hx, hb, hml, hown, hts⟩ (mtX2_goodFor l D t bh bk bo nb now pb v112.1 eb v112.2.1 3 60 r17 h17 _) (cwV 2 hts (gBV kw625 kw568 kw569 kw2 kw570) rfl rfl rfl (by decide +kernel) ⟨Nat.le_of_ble_eq_true rfl, Nat.le_of_ble_eq_true rfl⟩) (sPc_V hPc hK hDc hE (va_recv hK hP (ci := 2) (q0 := 0) rfl rfl)) rfl rfl hl.1 rfl (lv_room (Nat.le_of_ble_eq_true rfl)) dX2_digest_142 ⟨Nat.zero_le _, Nat.zero_le _⟩) (fun H locs hP hD hS => ?_)
        refine lv_i2l (v := Int32.toInt64 r17.1) hx hb dX2_digest_145 rfl ?_
        obtain ⟨r18, h18, h⟩ := ob h
        refine call_j (v := r18) (wc := ([] : va_W)) (wc' := ([] : va_W)) (ws' := (gBo bh bk bo ++ (gS t (bk 0) nb now ++ (gS t (bk 1) pb r17.2.1 ++ (gE t (bk 2) eb r17.2.2 ++ (gA t (bk 4) 60 buf)))))) (cutB (bs := [gBo bh bk bo, gS t (bk 0) nb now, gS t (bk 1) pb r17.2.1, gE t (bk 2) eb r17.2.2, gA t (bk 4) 60 buf]) (cs := []) (cs' := []) (bs' := [gBo bh bk bo, gS t (bk 0) nb now, gS t (bk 1) pb r17.2.1, gE t (bk 2) eb r17.2.2, gA t (bk 4) 60 buf]) [] hP hD hS hA rfl rfl rfl rfl) hS (fun hPc hDc => va_runS (As := [.long v112.2.2.1, .long (Int32.toInt64 r17.1)]) (rest := []) ⟨hx, hb, hml, hown, hts⟩ (mtX2_mix l D t v112.2.2.1 (Int32.toInt64 r17.1) r18 h18 _) (va_cwS 2 hts (gBS kw602 kw603 kw2 kw604) rfl rfl rfl (by decide +kernel) ⟨Nat.le_of_ble_eq_true rfl, Nat.le_of_ble_eq_true rfl⟩) (sPc_S hPc hK hDc hE) rfl rfl hl.1 rfl (lv_room (Nat.le_of_ble_eq_true rfl)) dX2_digest_146 ⟨Nat.zero_le _, Nat.zero_le _⟩) (fun H locs hP hD hS => ?_)
        refine lv_lstore_n (lv' := [(1, .long r18), (0, .ref bh), (3, .int v112.2.2.2)]) hx hb dX2_digest_149 rfl hl (by decide) rfl (fun ls hl => ?_)
        refine lv_lload_n hx hb dX2_digest_150 rfl (lv_at hl 0 rfl) ?_
        refine lv_aload_n hx hb dX2_digest_151 rfl (lv_at hl 1 rfl) ?_
        refine lv_iconst (v := 2) hx hb dX2_digest_152 (by decide) ?_
        obtain ⟨r19, h19, h⟩ := tq_r h
        refine call_d (v := r19.1) (wc := (gBo bh bk bo ++ (gS t (bk 0) nb now ++ (gE t (bk 2) eb r17.2.2)))) (wc' := (gBo bh bk bo ++ (gS t (bk 0) nb now ++ (gE t (bk 2) eb r19.2)))) (ws' := (gBo bh bk bo ++ (gS t (bk 0) nb now ++ (gS t (bk 1) pb r17.2.1 ++ (gE t (bk 2) eb r19.2 ++ (gA t (bk 4) 60 buf)))))) (cutB (bs := [gBo bh bk bo, gS t (bk 0) nb now, gS t (bk 1) pb r17.2.1, gE t (bk 2) eb r17.2.2, gA t (bk 4) 60 buf]) (cs := [gBo bh bk bo, gS t (bk 0) nb now, gE t (bk 2) eb r17.2.2]) (cs' := [gBo bh bk bo, gS t (bk 0) nb now, gE t (bk 2) eb r19.2]) (bs' := [gBo bh bk bo, gS t (bk 0) nb now, gS t (bk 1) pb r17.2.1, gE t (bk 2) eb r19.2, gA t (bk 4) 60 buf]) [0, 1, 3] hP hD hS hA rfl rfl rfl rfl) hS (fun hPc hDc => va_runV (As := [.int 2]) (rest := [.long r18]) ⟨hx, hb, hml, hown, hts⟩ (mtX2_evenness l D t bh bk bo nb now eb r17.2.2 2 r19 h19 _) (cwV 1 hts (gBV kw626 kw583 kw584 kw2 kw585) rfl rfl rfl (by decide +kernel) ⟨Nat.le_of_ble_eq_true rfl, Nat.le_of_ble_eq_true rfl⟩) (sPc_V hPc hK hDc hE (va_recv hK hP (ci := 2) (q0 := 0) rfl rfl)) rfl rfl hl.1 rfl (lv_room (Nat.le_of_ble_eq_true rfl)) dX2_digest_153 ⟨Nat.zero_le _, Nat.zero_le _⟩) (fun H locs hP hD hS => ?_)
        obtain ⟨r20, h20, h⟩ := ob h
        refine call_j (v := r20) (wc := ([] : va_W)) (wc' := ([] : va_W)) (ws' := (gBo bh bk bo ++ (gS t (bk 0) nb now ++ (gS t (bk 1) pb r17.2.1 ++ (gE t (bk 2) eb r19.2 ++ (gA t (bk 4) 60 buf)))))) (cutB (bs := [gBo bh bk bo, gS t (bk 0) nb now, gS t (bk 1) pb r17.2.1, gE t (bk 2) eb r19.2, gA t (bk 4) 60 buf]) (cs := []) (cs' := []) (bs' := [gBo bh bk bo, gS t (bk 0) nb now, gS t (bk 1) pb r17.2.1, gE t (bk 2) eb r19.2, gA t (bk 4) 60 buf]) [] hP hD hS hA rfl rfl rfl rfl) hS (fun hPc hDc => va_runS (As := [.double r19.1]) (rest := [.long r18]) ⟨hx, hb, hml, hown, hts⟩ (mtX2_bitsOfShare l D t r19.1 r20 h20 _) (va_cwS 1 hts (gBS kw627 kw628 kw2 kw629) rfl rfl rfl (by decide +kernel) ⟨Nat.le_of_ble_eq_true rfl, Nat.le_of_ble_eq_true rfl⟩) (sPc_S hPc hK hDc hE) rfl rfl hl.1 rfl (lv_room (Nat.le_of_ble_eq_true rfl)) dX2_digest_156 ⟨Nat.zero_le _, Nat.zero_le _⟩) (fun H locs hP hD hS => ?_)
        obtain ⟨r21, h21, h⟩ := ob h
        refine call_j (v := r21) (wc := ([] : va_W)) (wc' := ([] : va_W)) (ws' := (gBo bh bk bo ++ (gS t (bk 0) nb now ++ (gS t (bk 1) pb r17.2.1 ++ (gE t (bk 2) eb r19.2 ++ (gA t (bk 4) 60 buf)))))) (cutB (bs := [gBo bh bk bo, gS t (bk 0) nb now, gS t (bk 1) pb r17.2.1, gE t (bk 2) eb r19.2, gA t (bk 4) 60 buf]) (cs := []) (cs' := []) (bs' := [gBo bh bk bo, gS t (bk 0) nb now, gS t (bk 1) pb r17.2.1, gE t (bk 2) eb r19.2, gA t (bk 4) 60 buf]) [] hP hD hS hA rfl rfl rfl rfl) hS (fun hPc hDc => va_runS (As := [.long r18, .long r20]) (rest := []) ⟨hx, hb, hml, hown, hts⟩ (mtX2_mix l D t r18 r20 r21 h21 _) (va_cwS 2 hts (gBS kw602 kw603 kw2 kw604) rfl rfl rfl (by decide +kernel) ⟨Nat.le_of_ble_eq_true rfl, Nat.le_of_ble_eq_true rfl⟩) (sPc_S hPc hK hDc hE) rfl rfl hl.1 rfl (lv_room (Nat.le_of_ble_eq_true rfl)) dX2_digest_159 ⟨Nat.zero_le _, Nat.zero_le _⟩) (fun H locs hP hD hS => ?_)
        refine lv_lstore_n (lv' := [(1, .long r21), (0, .ref bh), (3, .int v112.2.2.2)]) hx hb dX2_digest_162 rfl hl (by decide) rfl (fun ls hl => ?_)
        refine lv_lload_n hx hb dX2_digest_163 rfl (lv_at hl 0 rfl) ?_
        refine lv_aload_n hx hb dX2_digest_164 rfl (lv_at hl 1 rfl) ?_
        refine va_get (D := D) (ci := 2) (v := .int bo.2.2) (C := RX2) (T := TX2) (N := 8) hx hb htB inlX2 hown hK hP 0 rfl rfl 7 (by decide) (htB _ kw28) (fun _ h9 => h9) rfl dX2_digest_165 ?_
        refine lv_i2l (v := Int32.toInt64 bo.2.2) hx hb dX2_digest_168 rfl ?_
        obtain ⟨r22, h22, h⟩ := ob h
        refine call_j (v := r22) (wc := ([] : va_W)) (wc' := ([] : va_W)) (ws' := (gBo bh bk bo ++ (gS t (bk 0) nb now ++ (gS t (bk 1) pb r17.2.1 ++ (gE t (bk 2) eb r19.2 ++ (gA t (bk 4) 60 buf)))))) (cutB (bs := [gBo bh bk bo, gS t (bk 0) nb now, gS t (bk 1) pb r17.2.1, gE t (bk 2) eb r19.2, gA t (bk 4) 60 buf]) (cs := []) (cs' := []) (bs' := [gBo bh bk bo, gS t (bk 0) nb now, gS t (bk 1) pb r17.2.1, gE t (bk 2) eb r19.2, gA t (bk 4) 60 buf]) [] hP hD hS hA rfl rfl rfl rfl) hS (fun hPc hDc => va_runS (As := [.long r21, .long (Int32.toInt64 bo.2.2)]) (rest := []) ⟨hx, hb, hml, hown, hts⟩ (mtX2_mix l D t r21 (Int32.toInt64 bo.2.2) r22 h22 _) (va_cwS 2 hts (gBS kw602 kw603 kw2 kw604) rfl rfl rfl (by decide +kernel) ⟨Nat.le_of_ble_eq_true rfl, Nat.le_of_ble_eq_true rfl⟩) (sPc_S hPc hK hDc hE) rfl rfl hl.1 rfl (lv_room (Nat.le_of_ble_eq_true rfl)) dX2_digest_169 ⟨Nat.zero_le _, Nat.zero_le _⟩) (fun H locs hP hD hS => ?_)
        refine lv_lstore_n (lv' := [(1, .long r22), (0, .ref bh), (3, .int v112.2.2.2)]) hx hb dX2_digest_172 rfl hl (by decide) rfl (fun ls hl => ?_)
        refine lv_iconst (v := 0) hx hb dX2_digest_173 (by decide) ?_
        refine lv_istore_n (lv' := [(3, .int 0), (1, .long r22), (0, .ref bh)]) hx hb dX2_digest_174 rfl hl (by decide) rfl (fun ls hl => ?_)
        exact J175 2000 (r17.2.1, r19.2, r22, 0) h _ _ hP hD hS _ (lv_sub hl [2, 1, 0] rfl)
      · have h := it_n c16 h
        refine lv_lload_n hx hb dX2_digest_117 rfl (lv_at hl 1 rfl) ?_
        refine lv_aload_n hx hb dX2_digest_118 rfl (lv_at hl 0 rfl) ?_
        refine lv_iconst (v := 0) hx hb dX2_digest_119 (by decide) ?_
        refine lv_bipush (v := 9) hx hb dX2_digest_120 (by decide) ?_
        refine lv_iload_n hx hb dX2_digest_122 rfl (lv_at hl 2 rfl) ?_
        obtain ⟨r23, h23, h⟩ := tq_r h
        refine call_i (v := r23.1) (wc := (gBo bh bk bo ++ (gS t (bk 0) nb now ++ (gS t (bk 1) pb v112.1 ++ (gE t (bk 2) eb v112.2.1))))) (wc' := (gBo bh bk bo ++ (gS t (bk 0) nb now ++ (gS t (bk 1) pb r23.2.1 ++ (gE t (bk 2) eb r23.2.2))))) (ws' := (gBo bh bk bo ++ (gS t (bk 0) nb now ++ (gS t (bk 1) pb r23.2.1 ++ (gE t (bk 2) eb r23.2.2 ++ (gA t (bk 4) 60 buf)))))) (cutB (bs := [gBo bh bk bo, gS t (bk 0) nb now, gS t (bk 1) pb v112.1, gE t (bk 2) eb v112.2.1, gA t (bk 4) 60 buf]) (cs := [gBo bh bk bo, gS t (bk 0) nb now, gS t (bk 1) pb v112.1, gE t (bk 2) eb v112.2.1]) (cs' := [gBo bh bk bo, gS t (bk 0) nb now, gS t (bk 1) pb r23.2.1, gE t (bk 2) eb r23.2.2]) (bs' := [gBo bh bk bo, gS t (bk 0) nb now, gS t (bk 1) pb r23.2.1, gE t (bk 2) eb r23.2.2, gA t (bk 4) 60 buf]) [0, 1, 2, 3] hP hD hS hA rfl rfl rfl rfl) hS (fun hPc hDc => va_runV (As := [.int 0, .int 9, .int v112.2.2.2]) (rest := [.long v112.2.2.1]) ⟨hx, hb, hml, hown, hts⟩ (mtX2_ifShot l D t bh bk bo nb now pb v112.1 eb v112.2.1 0 9 v112.2.2.2 r23 h23 _) (cwV 3 hts (gBV kw624 kw553 kw554 kw2 kw555) rfl rfl rfl (by decide +kernel) ⟨Nat.le_of_ble_eq_true rfl, Nat.le_of_ble_eq_true rfl⟩) (sPc_V hPc hK hDc hE (va_recv hK hP (ci := 2) (q0 := 0) rfl rfl)) rfl rfl hl.1 rfl (lv_room (Nat.le_of_ble_eq_true rfl)) dX2_digest_123 ⟨Nat.zero_le _, Nat.zero_le _⟩) (fun H locs hP hD hS => ?_)
        refine lv_i2l (v := Int32.toInt64 r23.1) hx hb dX2_digest_126 rfl ?_
        obtain ⟨r24, h24, h⟩ := ob h
        refine call_j (v := r24) (wc := ([] : va_W)) (wc' := ([] : va_W)) (ws' := (gBo bh bk bo ++ (gS t (bk 0) nb now ++ (gS t (bk 1) pb r23.2.1 ++ (gE t (bk 2) eb r23.2.2 ++ (gA t (bk 4) 60 buf)))))) (cutB (bs := [gBo bh bk bo, gS t (bk 0) nb now, gS t (bk 1) pb r23.2.1, gE t (bk 2) eb r23.2.2, gA t (bk 4) 60 buf]) (cs := []) (cs' := []) (bs' := [gBo bh bk bo, gS t (bk 0) nb now, gS t (bk 1) pb r23.2.1, gE t (bk 2) eb r23.2.2, gA t (bk 4) 60 buf]) [] hP hD hS hA rfl rfl rfl rfl) hS (fun hPc hDc => va_runS (As := [.long v112.2.2.1, .long (Int32.toInt64 r23.1)]) (rest := []) ⟨hx, hb, hml, hown, hts⟩ (mtX2_mix l D t v112.2.2.1 (Int32.toInt64 r23.1) r24 h24 _) (va_cwS 2 hts (gBS kw602 kw603 kw2 kw604) rfl rfl rfl (by decide +kernel) ⟨Nat.le_of_ble_eq_true rfl, Nat.le_of_ble_eq_true rfl⟩) (sPc_S hPc hK hDc hE) rfl rfl hl.1 rfl (lv_room (Nat.le_of_ble_eq_true rfl)) dX2_digest_127 ⟨Nat.zero_le _, Nat.zero_le _⟩) (fun H locs hP hD hS => ?_)
        refine lv_lstore_n (lv' := [(1, .long r24), (0, .ref bh), (3, .int v112.2.2.2)]) hx hb dX2_digest_130 rfl hl (by decide) rfl (fun ls hl => ?_)
        refine lv_iinc (v := v112.2.2.2 + 1) (lv' := [(3, .int (v112.2.2.2 + 1)), (1, .long r24), (0, .ref bh)]) hx hb dX2_digest_131 hl (k := 2) rfl rfl (by decide) rfl (fun ls hl => ?_)
        refine lv_goto (tgt := 112) hx hb dX2_digest_134 (by decide) ?_
        exact ih112 (r23.2.1, r23.2.2, r24, v112.2.2.2 + 1) h _ _ hP hD hS _ (lv_sub hl [2, 1, 0] rfl)
  have J30 : ∀ (fu30 : Nat) (v30 : ShT × ExT × Int64 × Int32), lp (fX2_digest_l30 bo now buf) fu30 v30 = some out → ∀ (H : Heap) (locs : List Loc), va_P D vwCl (gBo bh bk bo ++ (gS t (bk 0) nb now ++ (gS t (bk 1) pb v30.1 ++ (gE t (bk 2) eb v30.2.1 ++ (gA t (bk 4) 60 buf))))) H → va_D A (gBo bh bk bo ++ (gS t (bk 0) nb now ++ (gS t (bk 1) pb v30.1 ++ (gE t (bk 2) eb v30.2.1 ++ (gA t (bk 4) 60 buf))))) → va_S A s.heap H locs → ∀ ls : Array Slot, lv_has ls 4 [(0, .ref bh), (1, .long v30.2.2.1), (3, .int v30.2.2.2)] → W p l e ({ frames := 6, cells := 0, slots := 0, locals := 142 }) s m args below meth c H locs 0 0 (MQ below (qJ D t (gBo bh bk bo ++ (gS t (bk 0) nb now ++ (gS t (bk 1) pb out.2.1 ++ (gE t (bk 2) eb out.2.2 ++ (gA t (bk 4) 60 buf))))) out.1 A) args s 0 0 A) (F0 m 30 ls []) := by
    intro fu30
    induction fu30 with
    | zero => intro v30 h; cases h
    | succ fu30 ih30 =>
      intro v30 h H locs hP hD hS ls hl
      have h : fX2_digest_l30 bo now buf (lp (fX2_digest_l30 bo now buf) fu30) v30 = some out := h
      unfold fX2_digest_l30 at h
      refine lv_iload_n hx hb dX2_digest_30 rfl (lv_at hl 2 rfl) ?_
      refine lv_iconst (v := 4) hx hb dX2_digest_31 (by decide) ?_
      refine lv_icmp_ge (tgt := 52) hx hb dX2_digest_32 (by decide) (fun c4 => ?_) (fun c4 => ?_)
      · have h := it_p c4 h
        refine lv_aload_n hx hb dX2_digest_52 rfl (lv_at hl 0 rfl) ?_
        refine lv_lload_n hx hb dX2_digest_53 rfl (lv_at hl 1 rfl) ?_
        obtain ⟨r5, h5, h⟩ := ob h
        refine call_j (v := r5) (wc := (gBo bh bk bo ++ (gS t (bk 0) nb now))) (wc' := (gBo bh bk bo ++ (gS t (bk 0) nb now))) (ws' := (gBo bh bk bo ++ (gS t (bk 0) nb now ++ (gS t (bk 1) pb v30.1 ++ (gE t (bk 2) eb v30.2.1 ++ (gA t (bk 4) 60 buf)))))) (cutB (bs := [gBo bh bk bo, gS t (bk 0) nb now, gS t (bk 1) pb v30.1, gE t (bk 2) eb v30.2.1, gA t (bk 4) 60 buf]) (cs := [gBo bh bk bo, gS t (bk 0) nb now]) (cs' := [gBo bh bk bo, gS t (bk 0) nb now]) (bs' := [gBo bh bk bo, gS t (bk 0) nb now, gS t (bk 1) pb v30.1, gE t (bk 2) eb v30.2.1, gA t (bk 4) 60 buf]) [0, 1] hP hD hS hA rfl rfl rfl rfl) hS (fun hPc hDc => va_runV (As := [.long v30.2.2.1]) (rest := []) ⟨hx, hb, hml, hown, hts⟩ (mtX2_mixCurtains l D t bh bk bo nb now v30.2.2.1 r5 h5 _) (cwV 1 hts (gBV kw607 kw608 kw609 kw2 kw610) rfl rfl rfl (by decide +kernel) ⟨Nat.le_of_ble_eq_true rfl, Nat.le_of_ble_eq_true rfl⟩) (sPc_V hPc hK hDc hE (va_recv hK hP (ci := 2) (q0 := 0) rfl rfl)) rfl rfl hl.1 rfl (lv_room (Nat.le_of_ble_eq_true rfl)) dX2_digest_54 ⟨Nat.zero_le _, Nat.zero_le _⟩) (fun H locs hP hD hS => ?_)
        refine lv_lstore_n (lv' := [(1, .long r5), (0, .ref bh), (3, .int v30.2.2.2)]) hx hb dX2_digest_57 rfl hl (by decide) rfl (fun ls hl => ?_)
        refine lv_aload_n hx hb dX2_digest_58 rfl (lv_at hl 1 rfl) ?_
        refine lv_lload_n hx hb dX2_digest_59 rfl (lv_at hl 0 rfl) ?_
        obtain ⟨r6, h6, h⟩ := ob h
        refine call_j (v := r6.1) (wc := (gBo bh bk bo ++ (gS t (bk 0) nb now ++ (gE t (bk 2) eb v30.2.1)))) (wc' := (gBo bh bk bo ++ (gS t (bk 0) nb now ++ (gE t (bk 2) eb r6.2)))) (ws' := (gBo bh bk bo ++ (gS t (bk 0) nb now ++ (gS t (bk 1) pb v30.1 ++ (gE t (bk 2) eb r6.2 ++ (gA t (bk 4) 60 buf)))))) (cutB (bs := [gBo bh bk bo, gS t (bk 0) nb now, gS t (bk 1) pb v30.1, gE t (bk 2) eb v30.2.1, gA t (bk 4) 60 buf]) (cs := [gBo bh bk bo, gS t (bk 0) nb now, gE t (bk 2) eb v30.2.1]) (cs' := [gBo bh bk bo, gS t (bk 0) nb now, gE t (bk 2) eb r6.2]) (bs' := [gBo bh bk bo, gS t (bk 0) nb now, gS t (bk 1) pb v30.1, gE t (bk 2) eb r6.2, gA t (bk 4) 60 buf]) [0, 1, 3] hP hD hS hA rfl rfl rfl rfl) hS (fun hPc hDc => va_runV (As := [.long r5]) (rest := []) ⟨hx, hb, hml, hown, hts⟩ (mtX2_mixSpeeds l D t bh bk bo nb now eb v30.2.1 r5 r6 h6 _) (cwV 1 hts (gBV kw612 kw613 kw614 kw2 kw615) rfl rfl rfl (by decide +kernel) ⟨Nat.le_of_ble_eq_true rfl, Nat.le_of_ble_eq_true rfl⟩) (sPc_V hPc hK hDc hE (va_recv hK hP (ci := 2) (q0 := 0) rfl rfl)) rfl rfl hl.1 rfl (lv_room (Nat.le_of_ble_eq_true rfl)) dX2_digest_60 ⟨Nat.zero_le _, Nat.zero_le _⟩) (fun H locs hP hD hS => ?_)
        refine lv_lstore_n (lv' := [(1, .long r6.1), (0, .ref bh), (3, .int v30.2.2.2)]) hx hb dX2_digest_63 rfl hl (by decide) rfl (fun ls hl => ?_)
        refine lv_aload_n hx hb dX2_digest_64 rfl (lv_at hl 1 rfl) ?_
        refine lv_lload_n hx hb dX2_digest_65 rfl (lv_at hl 0 rfl) ?_
        refine lv_iconst (v := 0) hx hb dX2_digest_66 (by decide) ?_
        obtain ⟨r7, h7, h⟩ := ob h
        refine call_j (v := r7.1) (wc := (gBo bh bk bo ++ (gS t (bk 0) nb now ++ (gE t (bk 2) eb r6.2)))) (wc' := (gBo bh bk bo ++ (gS t (bk 0) nb now ++ (gE t (bk 2) eb r7.2)))) (ws' := (gBo bh bk bo ++ (gS t (bk 0) nb now ++ (gS t (bk 1) pb v30.1 ++ (gE t (bk 2) eb r7.2 ++ (gA t (bk 4) 60 buf)))))) (cutB (bs := [gBo bh bk bo, gS t (bk 0) nb now, gS t (bk 1) pb v30.1, gE t (bk 2) eb r6.2, gA t (bk 4) 60 buf]) (cs := [gBo bh bk bo, gS t (bk 0) nb now, gE t (bk 2) eb r6.2]) (cs' := [gBo bh bk bo, gS t (bk 0) nb now, gE t (bk 2) eb r7.2]) (bs' := [gBo bh bk bo, gS t (bk 0) nb now, gS t (bk 1) pb v30.1, gE t (bk 2) eb r7.2, gA t (bk 4) 60 buf]) [0, 1, 3] hP hD hS hA rfl rfl rfl rfl) hS (fun hPc hDc => va_runV (As := [.long r6.1, .int 0]) (rest := []) ⟨hx, hb, hml, hown, hts⟩ (mtX2_mixColumn l D t bh bk bo nb now eb r6.2 r6.1 0 r7 h7 _) (cwV 2 hts (gBV kw617 kw618 kw619 kw2 kw620) rfl rfl rfl (by decide +kernel) ⟨Nat.le_of_ble_eq_true rfl, Nat.le_of_ble_eq_true rfl⟩) (sPc_V hPc hK hDc hE (va_recv hK hP (ci := 2) (q0 := 0) rfl rfl)) rfl rfl hl.1 rfl (lv_room (Nat.le_of_ble_eq_true rfl)) dX2_digest_67 ⟨Nat.zero_le _, Nat.zero_le _⟩) (fun H locs hP hD hS => ?_)
        refine lv_lstore_n (lv' := [(1, .long r7.1), (0, .ref bh), (3, .int v30.2.2.2)]) hx hb dX2_digest_70 rfl hl (by decide) rfl (fun ls hl => ?_)
        refine lv_aload_n hx hb dX2_digest_71 rfl (lv_at hl 1 rfl) ?_
        refine lv_lload_n hx hb dX2_digest_72 rfl (lv_at hl 0 rfl) ?_
        refine lv_bipush (v := 11) hx hb dX2_digest_73 (by decide) ?_
        obtain ⟨r8, h8, h⟩ := ob h
        refine call_j (v := r8.1) (wc := (gBo bh bk bo ++ (gS t (bk 0) nb now ++ (gE t (bk 2) eb r7.2)))) (wc' := (gBo bh bk bo ++ (gS t (bk 0) nb now ++ (gE t (bk 2) eb r8.2)))) (ws' := (gBo bh bk bo ++ (gS t (bk 0) nb now ++ (gS t (bk 1) pb v30.1 ++ (gE t (bk 2) eb r8.2 ++ (gA t (bk 4) 60 buf)))))) (cutB (bs := [gBo bh bk bo, gS t (bk 0) nb now, gS t (bk 1) pb v30.1, gE t (bk 2) eb r7.2, gA t (bk 4) 60 buf]) (cs := [gBo bh bk bo, gS t (bk 0) nb now, gE t (bk 2) eb r7.2]) (cs' := [gBo bh bk bo, gS t (bk 0) nb now, gE t (bk 2) eb r8.2]) (bs' := [gBo bh bk bo, gS t (bk 0) nb now, gS t (bk 1) pb v30.1, gE t (bk 2) eb r8.2, gA t (bk 4) 60 buf]) [0, 1, 3] hP hD hS hA rfl rfl rfl rfl) hS (fun hPc hDc => va_runV (As := [.long r7.1, .int 11]) (rest := []) ⟨hx, hb, hml, hown, hts⟩ (mtX2_mixColumn l D t bh bk bo nb now eb r7.2 r7.1 11 r8 h8 _) (cwV 2 hts (gBV kw617 kw618 kw619 kw2 kw620) rfl rfl rfl (by decide +kernel) ⟨Nat.le_of_ble_eq_true rfl, Nat.le_of_ble_eq_true rfl⟩) (sPc_V hPc hK hDc hE (va_recv hK hP (ci := 2) (q0 := 0) rfl rfl)) rfl rfl hl.1 rfl (lv_room (Nat.le_of_ble_eq_true rfl)) dX2_digest_75 ⟨Nat.zero_le _, Nat.zero_le _⟩) (fun H locs hP hD hS => ?_)
        refine lv_lstore_n (lv' := [(1, .long r8.1), (0, .ref bh), (3, .int v30.2.2.2)]) hx hb dX2_digest_78 rfl hl (by decide) rfl (fun ls hl => ?_)
        refine lv_aload_n hx hb dX2_digest_79 rfl (lv_at hl 1 rfl) ?_
        refine lv_lload_n hx hb dX2_digest_80 rfl (lv_at hl 0 rfl) ?_
        refine lv_bipush (v := 23) hx hb dX2_digest_81 (by decide) ?_
        obtain ⟨r9, h9, h⟩ := ob h
        refine call_j (v := r9.1) (wc := (gBo bh bk bo ++ (gS t (bk 0) nb now ++ (gE t (bk 2) eb r8.2)))) (wc' := (gBo bh bk bo ++ (gS t (bk 0) nb now ++ (gE t (bk 2) eb r9.2)))) (ws' := (gBo bh bk bo ++ (gS t (bk 0) nb now ++ (gS t (bk 1) pb v30.1 ++ (gE t (bk 2) eb r9.2 ++ (gA t (bk 4) 60 buf)))))) (cutB (bs := [gBo bh bk bo, gS t (bk 0) nb now, gS t (bk 1) pb v30.1, gE t (bk 2) eb r8.2, gA t (bk 4) 60 buf]) (cs := [gBo bh bk bo, gS t (bk 0) nb now, gE t (bk 2) eb r8.2]) (cs' := [gBo bh bk bo, gS t (bk 0) nb now, gE t (bk 2) eb r9.2]) (bs' := [gBo bh bk bo, gS t (bk 0) nb now, gS t (bk 1) pb v30.1, gE t (bk 2) eb r9.2, gA t (bk 4) 60 buf]) [0, 1, 3] hP hD hS hA rfl rfl rfl rfl) hS (fun hPc hDc => va_runV (As := [.long r8.1, .int 23]) (rest := []) ⟨hx, hb, hml, hown, hts⟩ (mtX2_mixColumn l D t bh bk bo nb now eb r8.2 r8.1 23 r9 h9 _) (cwV 2 hts (gBV kw617 kw618 kw619 kw2 kw620) rfl rfl rfl (by decide +kernel) ⟨Nat.le_of_ble_eq_true rfl, Nat.le_of_ble_eq_true rfl⟩) (sPc_V hPc hK hDc hE (va_recv hK hP (ci := 2) (q0 := 0) rfl rfl)) rfl rfl hl.1 rfl (lv_room (Nat.le_of_ble_eq_true rfl)) dX2_digest_83 ⟨Nat.zero_le _, Nat.zero_le _⟩) (fun H locs hP hD hS => ?_)
        refine lv_lstore_n (lv' := [(1, .long r9.1), (0, .ref bh), (3, .int v30.2.2.2)]) hx hb dX2_digest_86 rfl hl (by decide) rfl (fun ls hl => ?_)
        refine lv_lload_n hx hb dX2_digest_87 rfl (lv_at hl 0 rfl) ?_
        refine lv_aload_n hx hb dX2_digest_88 rfl (lv_at hl 1 rfl) ?_
        refine lv_iconst (v := 1) hx hb dX2_digest_89 (by decide) ?_
        obtain ⟨r10, h10, h⟩ := tq_r h
        refine call_i (v := r10.1) (wc := (gBo bh bk bo ++ (gS t (bk 0) nb now ++ (gS t (bk 1) pb v30.1 ++ (gE t (bk 2) eb r9.2))))) (wc' := (gBo bh bk bo ++ (gS t (bk 0) nb now ++ (gS t (bk 1) pb r10.2.1 ++ (gE t (bk 2) eb r10.2.2))))) (ws' := (gBo bh bk bo ++ (gS t (bk 0) nb now ++ (gS t (bk 1) pb r10.2.1 ++ (gE t (bk 2) eb r10.2.2 ++ (gA t (bk 4) 60 buf)))))) (cutB (bs := [gBo bh bk bo, gS t (bk 0) nb now, gS t (bk 1) pb v30.1, gE t (bk 2) eb r9.2, gA t (bk 4) 60 buf]) (cs := [gBo bh bk bo, gS t (bk 0) nb now, gS t (bk 1) pb v30.1, gE t (bk 2) eb r9.2]) (cs' := [gBo bh bk bo, gS t (bk 0) nb now, gS t (bk 1) pb r10.2.1, gE t (bk 2) eb r10.2.2]) (bs' := [gBo bh bk bo, gS t (bk 0) nb now, gS t (bk 1) pb r10.2.1, gE t (bk 2) eb r10.2.2, gA t (bk 4) 60 buf]) [0, 1, 2, 3] hP hD hS hA rfl rfl rfl rfl) hS (fun hPc hDc => va_runV (As := [.int 1]) (rest := [.long r9.1]) ⟨hx, hb, hml, hown, hts⟩ (mtX2_bestCorrection l D t bh bk bo nb now pb v30.1 eb r9.2 1 r10 h10 _) (cwV 1 hts (gBV kw622 kw526 kw527 kw2 kw528) rfl rfl rfl (by decide +kernel) ⟨Nat.le_of_ble_eq_true rfl, Nat.le_of_ble_eq_true rfl⟩) (sPc_V hPc hK hDc hE (va_recv hK hP (ci := 2) (q0 := 0) rfl rfl)) rfl rfl hl.1 rfl (lv_room (Nat.le_of_ble_eq_true rfl)) dX2_digest_90 ⟨Nat.zero_le _, Nat.zero_le _⟩) (fun H locs hP hD hS => ?_)
        refine lv_i2l (v := Int32.toInt64 r10.1) hx hb dX2_digest_93 rfl ?_
        obtain ⟨r11, h11, h⟩ := ob h
        refine call_j (v := r11) (wc := ([] : va_W)) (wc' := ([] : va_W)) (ws' := (gBo bh bk bo ++ (gS t (bk 0) nb now ++ (gS t (bk 1) pb r10.2.1 ++ (gE t (bk 2) eb r10.2.2 ++ (gA t (bk 4) 60 buf)))))) (cutB (bs := [gBo bh bk bo, gS t (bk 0) nb now, gS t (bk 1) pb r10.2.1, gE t (bk 2) eb r10.2.2, gA t (bk 4) 60 buf]) (cs := []) (cs' := []) (bs' := [gBo bh bk bo, gS t (bk 0) nb now, gS t (bk 1) pb r10.2.1, gE t (bk 2) eb r10.2.2, gA t (bk 4) 60 buf]) [] hP hD hS hA rfl rfl rfl rfl) hS (fun hPc hDc => va_runS (As := [.long r9.1, .long (Int32.toInt64 r10.1)]) (rest := []) ⟨hx, hb, hml, hown, hts⟩ (mtX2_mix l D t r9.1 (Int32.toInt64 r10.1) r11 h11 _) (va_cwS 2 hts (gBS kw602 kw603 kw2 kw604) rfl rfl rfl (by decide +kernel) ⟨Nat.le_of_ble_eq_true rfl, Nat.le_of_ble_eq_true rfl⟩) (sPc_S hPc hK hDc hE) rfl rfl hl.1 rfl (lv_room (Nat.le_of_ble_eq_true rfl)) dX2_digest_94 ⟨Nat.zero_le _, Nat.zero_le _⟩) (fun H locs hP hD hS => ?_)
        refine lv_lstore_n (lv' := [(1, .long r11), (0, .ref bh), (3, .int v30.2.2.2)]) hx hb dX2_digest_97 rfl hl (by decide) rfl (fun ls hl => ?_)
        refine lv_lload_n hx hb dX2_digest_98 rfl (lv_at hl 0 rfl) ?_
        refine lv_aload_n hx hb dX2_digest_99 rfl (lv_at hl 1 rfl) ?_
        refine lv_iconst (v := 1) hx hb dX2_digest_100 (by decide) ?_
        refine lv_iconst (v := 2) hx hb dX2_digest_101 (by decide) ?_
        obtain ⟨r12, h12, h⟩ := tq_r h
        refine call_i (v := r12.1) (wc := (gBo bh bk bo ++ (gS t (bk 0) nb now ++ (gS t (bk 1) pb r10.2.1 ++ (gE t (bk 2) eb r10.2.2))))) (wc' := (gBo bh bk bo ++ (gS t (bk 0) nb now ++ (gS t (bk 1) pb r12.2.1 ++ (gE t (bk 2) eb r12.2.2))))) (ws' := (gBo bh bk bo ++ (gS t (bk 0) nb now ++ (gS t (bk 1) pb r12.2.1 ++ (gE t (bk 2) eb r12.2.2 ++ (gA t (bk 4) 60 buf)))))) (cutB (bs := [gBo bh bk bo, gS t (bk 0) nb now, gS t (bk 1) pb r10.2.1, gE t (bk 2) eb r10.2.2, gA t (bk 4) 60 buf]) (cs := [gBo bh bk bo, gS t (bk 0) nb now, gS t (bk 1) pb r10.2.1, gE t (bk 2) eb r10.2.2]) (cs' := [gBo bh bk bo, gS t (bk 0) nb now, gS t (bk 1) pb r12.2.1, gE t (bk 2) eb r12.2.2]) (bs' := [gBo bh bk bo, gS t (bk 0) nb now, gS t (bk 1) pb r12.2.1, gE t (bk 2) eb r12.2.2, gA t (bk 4) 60 buf]) [0, 1, 2, 3] hP hD hS hA rfl rfl rfl rfl) hS (fun hPc hDc => va_runV (As := [.int 1, .int 2]) (rest := [.long r11]) ⟨hx, hb, hml, hown, hts⟩ (mtX2_bestSpring l D t bh bk bo nb now pb r10.2.1 eb r10.2.2 1 2 r12 h12 _) (cwV 2 hts (gBV kw623 kw542 kw543 kw2 kw544) rfl rfl rfl (by decide +kernel) ⟨Nat.le_of_ble_eq_true rfl, Nat.le_of_ble_eq_true rfl⟩) (sPc_V hPc hK hDc hE (va_recv hK hP (ci := 2) (q0 := 0) rfl rfl)) rfl rfl hl.1 rfl (lv_room (Nat.le_of_ble_eq_true rfl)) dX2_digest_102 ⟨Nat.zero_le _, Nat.zero_le _⟩) (fun H locs hP hD hS => ?_)
        refine lv_i2l (v := Int32.toInt64 r12.1) hx hb dX2_digest_105 rfl ?_
        obtain ⟨r13, h13, h⟩ := ob h
        refine call_j (v := r13) (wc := ([] : va_W)) (wc' := ([] : va_W)) (ws' := (gBo bh bk bo ++ (gS t (bk 0) nb now ++ (gS t (bk 1) pb r12.2.1 ++ (gE t (bk 2) eb r12.2.2 ++ (gA t (bk 4) 60 buf)))))) (cutB (bs := [gBo bh bk bo, gS t (bk 0) nb now, gS t (bk 1) pb r12.2.1, gE t (bk 2) eb r12.2.2, gA t (bk 4) 60 buf]) (cs := []) (cs' := []) (bs' := [gBo bh bk bo, gS t (bk 0) nb now, gS t (bk 1) pb r12.2.1, gE t (bk 2) eb r12.2.2, gA t (bk 4) 60 buf]) [] hP hD hS hA rfl rfl rfl rfl) hS (fun hPc hDc => va_runS (As := [.long r11, .long (Int32.toInt64 r12.1)]) (rest := []) ⟨hx, hb, hml, hown, hts⟩ (mtX2_mix l D t r11 (Int32.toInt64 r12.1) r13 h13 _) (va_cwS 2 hts (gBS kw602 kw603 kw2 kw604) rfl rfl rfl (by decide +kernel) ⟨Nat.le_of_ble_eq_true rfl, Nat.le_of_ble_eq_true rfl⟩) (sPc_S hPc hK hDc hE) rfl rfl hl.1 rfl (lv_room (Nat.le_of_ble_eq_true rfl)) dX2_digest_106 ⟨Nat.zero_le _, Nat.zero_le _⟩) (fun H locs hP hD hS => ?_)
        refine lv_lstore_n (lv' := [(1, .long r13), (0, .ref bh), (3, .int v30.2.2.2)]) hx hb dX2_digest_109 rfl hl (by decide) rfl (fun ls hl => ?_)
        refine lv_iconst (v := 0) hx hb dX2_digest_110 (by decide) ?_
        refine lv_istore_n (lv' := [(3, .int 0), (1, .long r13), (0, .ref bh)]) hx hb dX2_digest_111 rfl hl (by decide) rfl (fun ls hl => ?_)
        exact J112 2000 (r12.2.1, r12.2.2, r13, 0) h _ _ hP hD hS _ (lv_sub hl [2, 1, 0] rfl)
      · have h := it_n c4 h
        refine lv_lload_n hx hb dX2_digest_35 rfl (lv_at hl 1 rfl) ?_
        refine lv_aload_n hx hb dX2_digest_36 rfl (lv_at hl 0 rfl) ?_
        refine lv_iload_n hx hb dX2_digest_37 rfl (lv_at hl 2 rfl) ?_
        obtain ⟨r14, h14, h⟩ := tq_r h
        refine call_i (v := r14) (wc := (gBo bh bk bo ++ (gS t (bk 0) nb now))) (wc' := (gBo bh bk bo ++ (gS t (bk 0) nb now))) (ws' := (gBo bh bk bo ++ (gS t (bk 0) nb now ++ (gS t (bk 1) pb v30.1 ++ (gE t (bk 2) eb v30.2.1 ++ (gA t (bk 4) 60 buf)))))) (cutB (bs := [gBo bh bk bo, gS t (bk 0) nb now, gS t (bk 1) pb v30.1, gE t (bk 2) eb v30.2.1, gA t (bk 4) 60 buf]) (cs := [gBo bh bk bo, gS t (bk 0) nb now]) (cs' := [gBo bh bk bo, gS t (bk 0) nb now]) (bs' := [gBo bh bk bo, gS t (bk 0) nb now, gS t (bk 1) pb v30.1, gE t (bk 2) eb v30.2.1, gA t (bk 4) 60 buf]) [0, 1] hP hD hS hA rfl rfl rfl rfl) hS (fun hPc hDc => va_runV (As := [.int v30.2.2.2]) (rest := [.long v30.2.2.1]) ⟨hx, hb, hml, hown, hts⟩ (mtX2_setting l D t bh bk bo nb now v30.2.2.2 r14 h14 _) (cwV 1 hts (gBV kw606 kw515 kw516 kw2 kw517) rfl rfl rfl (by decide +kernel) ⟨Nat.le_of_ble_eq_true rfl, Nat.le_of_ble_eq_true rfl⟩) (sPc_V hPc hK hDc hE (va_recv hK hP (ci := 2) (q0 := 0) rfl rfl)) rfl rfl hl.1 rfl (lv_room (Nat.le_of_ble_eq_true rfl)) dX2_digest_38 ⟨Nat.zero_le _, Nat.zero_le _⟩) (fun H locs hP hD hS => ?_)
        refine lv_i2l (v := Int32.toInt64 r14) hx hb dX2_digest_41 rfl ?_
        obtain ⟨r15, h15, h⟩ := ob h
        refine call_j (v := r15) (wc := ([] : va_W)) (wc' := ([] : va_W)) (ws' := (gBo bh bk bo ++ (gS t (bk 0) nb now ++ (gS t (bk 1) pb v30.1 ++ (gE t (bk 2) eb v30.2.1 ++ (gA t (bk 4) 60 buf)))))) (cutB (bs := [gBo bh bk bo, gS t (bk 0) nb now, gS t (bk 1) pb v30.1, gE t (bk 2) eb v30.2.1, gA t (bk 4) 60 buf]) (cs := []) (cs' := []) (bs' := [gBo bh bk bo, gS t (bk 0) nb now, gS t (bk 1) pb v30.1, gE t (bk 2) eb v30.2.1, gA t (bk 4) 60 buf]) [] hP hD hS hA rfl rfl rfl rfl) hS (fun hPc hDc => va_runS (As := [.long v30.2.2.1, .long (Int32.toInt64 r14)]) (rest := []) ⟨hx, hb, hml, hown, hts⟩ (mtX2_mix l D t v30.2.2.1 (Int32.toInt64 r14) r15 h15 _) (va_cwS 2 hts (gBS kw602 kw603 kw2 kw604) rfl rfl rfl (by decide +kernel) ⟨Nat.le_of_ble_eq_true rfl, Nat.le_of_ble_eq_true rfl⟩) (sPc_S hPc hK hDc hE) rfl rfl hl.1 rfl (lv_room (Nat.le_of_ble_eq_true rfl)) dX2_digest_42 ⟨Nat.zero_le _, Nat.zero_le _⟩) (fun H locs hP hD hS => ?_)
        refine lv_lstore_n (lv' := [(1, .long r15), (0, .ref bh), (3, .int v30.2.2.2)]) hx hb dX2_digest_45 rfl hl (by decide) rfl (fun ls hl => ?_)
        refine lv_iinc (v := v30.2.2.2 + 1) (lv' := [(3, .int (v30.2.2.2 + 1)), (1, .long r15), (0, .ref bh)]) hx hb dX2_digest_46 hl (k := 2) rfl rfl (by decide) rfl (fun ls hl => ?_)
        refine lv_goto (tgt := 30) hx hb dX2_digest_49 (by decide) ?_
        exact ih30 (v30.1, v30.2.1, r15, v30.2.2.2 + 1) h _ _ hP hD hS _ (lv_sub hl [2, 1, 0] rfl)
  have J6 : ∀ (fu6 : Nat) (v6 : ShT × ExT × Int64 × Int32), lp (fX2_digest_l6 bo now buf) fu6 v6 = some out → ∀ (H : Heap) (locs : List Loc), va_P D vwCl (gBo bh bk bo ++ (gS t (bk 0) nb now ++ (gS t (bk 1) pb v6.1 ++ (gE t (bk 2) eb v6.2.1 ++ (gA t (bk 4) 60 buf))))) H → va_D A (gBo bh bk bo ++ (gS t (bk 0) nb now ++ (gS t (bk 1) pb v6.1 ++ (gE t (bk 2) eb v6.2.1 ++ (gA t (bk 4) 60 buf))))) → va_S A s.heap H locs → ∀ ls : Array Slot, lv_has ls 4 [(0, .ref bh), (1, .long v6.2.2.1), (3, .int v6.2.2.2)] → W p l e ({ frames := 6, cells := 0, slots := 0, locals := 142 }) s m args below meth c H locs 0 0 (MQ below (qJ D t (gBo bh bk bo ++ (gS t (bk 0) nb now ++ (gS t (bk 1) pb out.2.1 ++ (gE t (bk 2) eb out.2.2 ++ (gA t (bk 4) 60 buf))))) out.1 A) args s 0 0 A) (F0 m 6 ls []) := by
    intro fu6
    induction fu6 with
    | zero => intro v6 h; cases h
    | succ fu6 ih6 =>
      intro v6 h H locs hP hD hS ls hl
      have h : fX2_digest_l6 bo now buf (lp (fX2_digest_l6 bo now buf) fu6) v6 = some out := h
      unfold fX2_digest_l6 at h
      refine lv_iload_n hx hb dX2_digest_6 rfl (lv_at hl 2 rfl) ?_
      refine lv_iconst (v := 4) hx hb dX2_digest_7 (by decide) ?_
      refine lv_icmp_gt (tgt := 28) hx hb dX2_digest_8 (by decide) (fun c1 => ?_) (fun c1 => ?_)
      · have h := it_p c1 h
        refine lv_iconst (v := 0) hx hb dX2_digest_28 (by decide) ?_
        refine lv_istore_n (lv' := [(3, .int 0), (0, .ref bh), (1, .long v6.2.2.1)]) hx hb dX2_digest_29 rfl hl (by decide) rfl (fun ls hl => ?_)
        exact J30 2000 (v6.1, v6.2.1, v6.2.2.1, 0) h _ _ hP hD hS _ (lv_sub hl [1, 2, 0] rfl)
      · have h := it_n c1 h
        refine lv_lload_n hx hb dX2_digest_11 rfl (lv_at hl 1 rfl) ?_
        refine lv_aload_n hx hb dX2_digest_12 rfl (lv_at hl 0 rfl) ?_
        refine lv_iload_n hx hb dX2_digest_13 rfl (lv_at hl 2 rfl) ?_
        obtain ⟨r2, h2, h⟩ := tq_r h
        refine call_i (v := r2) (wc := (gBo bh bk bo ++ (gS t (bk 0) nb now))) (wc' := (gBo bh bk bo ++ (gS t (bk 0) nb now))) (ws' := (gBo bh bk bo ++ (gS t (bk 0) nb now ++ (gS t (bk 1) pb v6.1 ++ (gE t (bk 2) eb v6.2.1 ++ (gA t (bk 4) 60 buf)))))) (cutB (bs := [gBo bh bk bo, gS t (bk 0) nb now, gS t (bk 1) pb v6.1, gE t (bk 2) eb v6.2.1, gA t (bk 4) 60 buf]) (cs := [gBo bh bk bo, gS t (bk 0) nb now]) (cs' := [gBo bh bk bo, gS t (bk 0) nb now]) (bs' := [gBo bh bk bo, gS t (bk 0) nb now, gS t (bk 1) pb v6.1, gE t (bk 2) eb v6.2.1, gA t (bk 4) 60 buf]) [0, 1] hP hD hS hA rfl rfl rfl rfl) hS (fun hPc hDc => va_runV (As := [.int v6.2.2.2]) (rest := [.long v6.2.2.1]) ⟨hx, hb, hml, hown, hts⟩ (mtX2_count l D t bh bk bo nb now v6.2.2.2 r2 h2 _) (cwV 1 hts (gBV kw601 kw496 kw497 kw2 kw498) rfl rfl rfl (by decide +kernel) ⟨Nat.le_of_ble_eq_true rfl, Nat.le_of_ble_eq_true rfl⟩) (sPc_V hPc hK hDc hE (va_recv hK hP (ci := 2) (q0 := 0) rfl rfl)) rfl rfl hl.1 rfl (lv_room (Nat.le_of_ble_eq_true rfl)) dX2_digest_14 ⟨Nat.zero_le _, Nat.zero_le _⟩) (fun H locs hP hD hS => ?_)
        refine lv_i2l (v := Int32.toInt64 r2) hx hb dX2_digest_17 rfl ?_
        obtain ⟨r3, h3, h⟩ := ob h
        refine call_j (v := r3) (wc := ([] : va_W)) (wc' := ([] : va_W)) (ws' := (gBo bh bk bo ++ (gS t (bk 0) nb now ++ (gS t (bk 1) pb v6.1 ++ (gE t (bk 2) eb v6.2.1 ++ (gA t (bk 4) 60 buf)))))) (cutB (bs := [gBo bh bk bo, gS t (bk 0) nb now, gS t (bk 1) pb v6.1, gE t (bk 2) eb v6.2.1, gA t (bk 4) 60 buf]) (cs := []) (cs' := []) (bs' := [gBo bh bk bo, gS t (bk 0) nb now, gS t (bk 1) pb v6.1, gE t (bk 2) eb v6.2.1, gA t (bk 4) 60 buf]) [] hP hD hS hA rfl rfl rfl rfl) hS (fun hPc hDc => va_runS (As := [.long v6.2.2.1, .long (Int32.toInt64 r2)]) (rest := []) ⟨hx, hb, hml, hown, hts⟩ (mtX2_mix l D t v6.2.2.1 (Int32.toInt64 r2) r3 h3 _) (va_cwS 2 hts (gBS kw602 kw603 kw2 kw604) rfl rfl rfl (by decide +kernel) ⟨Nat.le_of_ble_eq_true rfl, Nat.le_of_ble_eq_true rfl⟩) (sPc_S hPc hK hDc hE) rfl rfl hl.1 rfl (lv_room (Nat.le_of_ble_eq_true rfl)) dX2_digest_18 ⟨Nat.zero_le _, Nat.zero_le _⟩) (fun H locs hP hD hS => ?_)
        refine lv_lstore_n (lv' := [(1, .long r3), (0, .ref bh), (3, .int v6.2.2.2)]) hx hb dX2_digest_21 rfl hl (by decide) rfl (fun ls hl => ?_)
        refine lv_iinc (v := v6.2.2.2 + 1) (lv' := [(3, .int (v6.2.2.2 + 1)), (1, .long r3), (0, .ref bh)]) hx hb dX2_digest_22 hl (k := 2) rfl rfl (by decide) rfl (fun ls hl => ?_)
        refine lv_goto (tgt := 6) hx hb dX2_digest_25 (by decide) ?_
        exact ih6 (v6.1, v6.2.1, r3, v6.2.2.2 + 1) h _ _ hP hD hS _ (lv_sub hl [2, 1, 0] rfl)
  refine lv_ldc2 (v := 3191) hx hb hown (htB _ kw600) dX2_digest_0 ?_
  refine lv_lstore_n (lv' := [(1, .long 3191), (0, .ref bh)]) hx hb dX2_digest_3 rfl hl (by decide) rfl (fun ls hl => ?_)
  refine lv_iconst (v := 0) hx hb dX2_digest_4 (by decide) ?_
  refine lv_istore_n (lv' := [(3, .int 0), (1, .long 3191), (0, .ref bh)]) hx hb dX2_digest_5 rfl hl (by decide) rfl (fun ls hl => ?_)
  exact J6 2000 (pr, ex, 3191, 0) h _ _ hP hD hS _ (lv_sub hl [2, 1, 0] rfl)
