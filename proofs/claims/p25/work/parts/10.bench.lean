theorem dX2_curtain_0 : decode cX2_curtain 0 = .ok (.iload_n 1, 1) := by decide +kernel
theorem dX2_curtain_1 : decode cX2_curtain 1 = .ok (.invokestatic 44, 3) := by decide +kernel
theorem dX2_curtain_4 : decode cX2_curtain 4 = .ok (.iload_n 2, 1) := by decide +kernel
theorem dX2_curtain_5 : decode cX2_curtain 5 = .ok (.iconst 0, 1) := by decide +kernel
theorem dX2_curtain_6 : decode cX2_curtain 6 = .ok (.iconst 3, 1) := by decide +kernel
theorem dX2_curtain_7 : decode cX2_curtain 7 = .ok (.invokestatic 48, 3) := by decide +kernel
theorem dX2_curtain_10 : decode cX2_curtain 10 = .ok (.iload_n 2, 1) := by decide +kernel
theorem dX2_curtain_11 : decode cX2_curtain 11 = .ok (.tableswitch 58 0 2 #[25, 37, 49], 25) := by decide +kernel
theorem dX2_curtain_36 : decode cX2_curtain 36 = .ok (.aload_n 0, 1) := by decide +kernel
theorem dX2_curtain_37 : decode cX2_curtain 37 = .ok (.getfield 10, 3) := by decide +kernel
theorem dX2_curtain_40 : decode cX2_curtain 40 = .ok (.getfield 55, 3) := by decide +kernel
theorem dX2_curtain_43 : decode cX2_curtain 43 = .ok (.iload_n 1, 1) := by decide +kernel
theorem dX2_curtain_44 : decode cX2_curtain 44 = .ok (.invokestatic 58, 3) := by decide +kernel
theorem dX2_curtain_47 : decode cX2_curtain 47 = .ok (.ireturn, 1) := by decide +kernel
theorem dX2_curtain_48 : decode cX2_curtain 48 = .ok (.aload_n 0, 1) := by decide +kernel
theorem dX2_curtain_49 : decode cX2_curtain 49 = .ok (.getfield 10, 3) := by decide +kernel
theorem dX2_curtain_52 : decode cX2_curtain 52 = .ok (.getfield 70, 3) := by decide +kernel
theorem dX2_curtain_55 : decode cX2_curtain 55 = .ok (.iload_n 1, 1) := by decide +kernel
theorem dX2_curtain_56 : decode cX2_curtain 56 = .ok (.invokestatic 58, 3) := by decide +kernel
theorem dX2_curtain_59 : decode cX2_curtain 59 = .ok (.ireturn, 1) := by decide +kernel
theorem dX2_curtain_60 : decode cX2_curtain 60 = .ok (.aload_n 0, 1) := by decide +kernel
theorem dX2_curtain_61 : decode cX2_curtain 61 = .ok (.getfield 10, 3) := by decide +kernel
theorem dX2_curtain_64 : decode cX2_curtain 64 = .ok (.iload_n 1, 1) := by decide +kernel
theorem dX2_curtain_65 : decode cX2_curtain 65 = .ok (.invokevirtual 133, 3) := by decide +kernel
theorem dX2_curtain_68 : decode cX2_curtain 68 = .ok (.ireturn, 1) := by decide +kernel
theorem dX2_curtain_69 : decode cX2_curtain 69 = .ok (.aload_n 0, 1) := by decide +kernel
theorem dX2_curtain_70 : decode cX2_curtain 70 = .ok (.getfield 10, 3) := by decide +kernel
theorem dX2_curtain_73 : decode cX2_curtain 73 = .ok (.iload_n 1, 1) := by decide +kernel
theorem dX2_curtain_74 : decode cX2_curtain 74 = .ok (.invokevirtual 136, 3) := by decide +kernel
theorem dX2_curtain_77 : decode cX2_curtain 77 = .ok (.ireturn, 1) := by decide +kernel
abbrev zX2_curtain : List Cond := .code yX2_curtain cX2_curtain 3 (some .int) :: BIG
def fX2_curtain (bo : BoT) (now : ShT) (cu : Int32) (w : Int32) : Option (Nat ⊕ (Int32)) := tb (fX2_needCurtain cu) (fun r1 => tb (fX2_needRange w 0 3) (fun r2 => (if w = 0 then (fX2_at 2 now.1 cu).bind (fun r4 => some (.inr r4)) else (if w = 1 then (fX2_at 2 now.2.1 cu).bind (fun r6 => some (.inr r6)) else (if w = 2 then (fX1_ticksForAll now cu).bind (fun r8 => some (.inr r8)) else (fX1_slowestColumn now cu).bind (fun r9 => some (.inr r9)))))))
set_option maxHeartbeats 4000000 in
set_option maxRecDepth 100000 in
theorem mtX2_curtain (l : Launch) (D : va_G) (t : Nat → ClassId) (bh : Nat) (bk : Nat → Nat) (bo : BoT) (nb : Nat → Nat) (now : ShT) (cu : Int32) (w : Int32) (out : Int32) (h : fX2_curtain bo now cu w = some (.inr out))  (sz : Nat) : Met l yX2_curtain zX2_curtain ({ frames := 3, cells := 0, slots := 0, locals := 68 }) (sPc D t (gBo bh bk bo ++ (gS t (bk 0) nb now)) sz [.ref bh, .int cu, .int w]) (qI D t (gBo bh bk bo ++ (gS t (bk 0) nb now)) out (va_A (gBo bh bk bo ++ (gS t (bk 0) nb now)) sz)) 0 0 (va_A (gBo bh bk bo ++ (gS t (bk 0) nb now)) sz) := by
  refine met_of (Qf := fun A => qI D t (gBo bh bk bo ++ (gS t (bk 0) nb now)) out A) (cc := cX2_curtain) (maxL := 3) (ret := some .int) (by decide) rfl (Nat.le_of_ble_eq_true rfl) ?_
  intro p e s m args below meth c A hx hb hr hml hts hown hlocks hA hP hK hD hE hS ls hl
  have htB : ∀ w ∈ BIG, w.before args s = true := fun w h => hts w (List.mem_cons_of_mem _ h)
  have hown : s.vm.findClass RX2 = some m.cls := hown
  have hl : lv_has ls 3 [(0, .ref bh), (1, .int cu), (2, .int w)] := hl
  unfold fX2_curtain at h
  refine lv_iload_n hx hb dX2_curtain_0 rfl (lv_at hl 1 rfl) ?_
  obtain ⟨r1, h1, h⟩ := tb_r h
  refine call_v (wc := ([] : va_W)) (wc' := ([] : va_W)) (ws' := (gBo bh bk bo ++ (gS t (bk 0) nb now))) (cutB (bs := [gBo bh bk bo, gS t (bk 0) nb now]) (cs := []) (cs' := []) (bs' := [gBo bh bk bo, gS t (bk 0) nb now]) [] hP hD hS hA rfl rfl rfl rfl) hS (fun hPc hDc => va_runS (As := [.int cu]) (rest := []) ⟨hx, hb, hml, hown, hts⟩ (mtX2_needCurtain l D t cu r1 h1 _) (va_cwS 1 hts (gBS kw163 kw164 kw2 kw165) rfl rfl rfl (by decide +kernel) ⟨Nat.le_of_ble_eq_true rfl, Nat.le_of_ble_eq_true rfl⟩) (sPc_S hPc hK hDc hE) rfl rfl hl.1 rfl (lv_room (Nat.le_of_ble_eq_true rfl)) dX2_curtain_1 ⟨Nat.zero_le _, Nat.zero_le _⟩) (fun H locs hP hD hS => ?_)
  refine lv_iload_n hx hb dX2_curtain_4 rfl (lv_at hl 2 rfl) ?_
  refine lv_iconst (v := 0) hx hb dX2_curtain_5 (by decide) ?_
  refine lv_iconst (v := 3) hx hb dX2_curtain_6 (by decide) ?_
  obtain ⟨r2, h2, h⟩ := tb_r h
  refine call_v (wc := ([] : va_W)) (wc' := ([] : va_W)) (ws' := (gBo bh bk bo ++ (gS t (bk 0) nb now))) (cutB (bs := [gBo bh bk bo, gS t (bk 0) nb now]) (cs := []) (cs' := []) (bs' := [gBo bh bk bo, gS t (bk 0) nb now]) [] hP hD hS hA rfl rfl rfl rfl) hS (fun hPc hDc => va_runS (As := [.int w, .int 0, .int 3]) (rest := []) ⟨hx, hb, hml, hown, hts⟩ (mtX2_needRange l D t w 0 3 r2 h2 _) (va_cwS 3 hts (gBS kw52 kw53 kw2 kw54) rfl rfl rfl (by decide +kernel) ⟨Nat.le_of_ble_eq_true rfl, Nat.le_of_ble_eq_true rfl⟩) (sPc_S hPc hK hDc hE) rfl rfl hl.1 rfl (lv_room (Nat.le_of_ble_eq_true rfl)) dX2_curtain_7 ⟨Nat.zero_le _, Nat.zero_le _⟩) (fun H locs hP hD hS => ?_)
  refine lv_iload_n hx hb dX2_curtain_10 rfl (lv_at hl 2 rfl) ?_
  by_cases c3 : w = 0
  · have h := it_p c3 h
    refine lv_tableIn (off := 25) (tgt := 36) hx hb dX2_curtain_11 (by rw [c3]; decide) (by rw [c3]; decide) (by rw [c3]; rfl) (by decide) ?_
    refine lv_aload_n hx hb dX2_curtain_36 rfl (lv_at hl 0 rfl) ?_
    refine va_get (D := D) (ci := 2) (v := .ref (bk 0)) (C := RX2) (T := TX2) (N := 8) hx hb htB inlX2 hown hK hP 0 rfl rfl 0 (by decide) (htB _ kw12) (fun _ h9 => h9) rfl dX2_curtain_37 ?_
    refine va_get (D := D) (ci := 1) (v := .ref (nb 0)) (C := RX1) (T := TX1) (N := 10) hx hb htB inlX1 hown hK hP 1 rfl rfl 0 (by decide) (htB _ kw80) (fun _ h9 => h9) rfl dX2_curtain_40 ?_
    refine lv_iload_n hx hb dX2_curtain_43 rfl (lv_at hl 1 rfl) ?_
    obtain ⟨r4, h4, h⟩ := ob h
    refine call_i (v := r4) (wc := (gA t (nb 0) 2 now.1)) (wc' := (gA t (nb 0) 2 now.1)) (ws' := (gBo bh bk bo ++ (gS t (bk 0) nb now))) (cutI (wc := (gA t (nb 0) 2 now.1)) (wc' := (gA t (nb 0) 2 now.1)) (ws' := (gBo bh bk bo ++ (gS t (bk 0) nb now))) [2] hP hD hS hA rfl rfl rfl rfl) hS (fun hPc hDc => va_runS (As := [.ref (nb 0), .int cu]) (rest := []) ⟨hx, hb, hml, hown, hts⟩ (mtX2_at l D t (nb 0) 2 now.1 cu r4 h4 (by decide) _) (va_cwS 2 hts (gBS kw157 kw65 kw2 kw66) rfl rfl rfl (by decide +kernel) ⟨Nat.le_of_ble_eq_true rfl, Nat.le_of_ble_eq_true rfl⟩) (sPc_S hPc hK hDc hE) rfl rfl hl.1 rfl (lv_room (Nat.le_of_ble_eq_true rfl)) dX2_curtain_44 ⟨Nat.zero_le _, Nat.zero_le _⟩) (fun H locs hP hD hS => ?_)
    obtain rfl := oi h
    exact ret_i hx hb hr hlocks hP hK hD hS dX2_curtain_47
  · have h := it_n c3 h
    by_cases c5 : w = 1
    · have h := it_p c5 h
      refine lv_tableIn (off := 37) (tgt := 48) hx hb dX2_curtain_11 (by rw [c5]; decide) (by rw [c5]; decide) (by rw [c5]; rfl) (by decide) ?_
      refine lv_aload_n hx hb dX2_curtain_48 rfl (lv_at hl 0 rfl) ?_
      refine va_get (D := D) (ci := 2) (v := .ref (bk 0)) (C := RX2) (T := TX2) (N := 8) hx hb htB inlX2 hown hK hP 0 rfl rfl 0 (by decide) (htB _ kw12) (fun _ h9 => h9) rfl dX2_curtain_49 ?_
      refine va_get (D := D) (ci := 1) (v := .ref (nb 1)) (C := RX1) (T := TX1) (N := 10) hx hb htB inlX1 hown hK hP 1 rfl rfl 1 (by decide) (htB _ kw162) (fun _ h9 => h9) rfl dX2_curtain_52 ?_
      refine lv_iload_n hx hb dX2_curtain_55 rfl (lv_at hl 1 rfl) ?_
      obtain ⟨r6, h6, h⟩ := ob h
      refine call_i (v := r6) (wc := (gA t (nb 1) 2 now.2.1)) (wc' := (gA t (nb 1) 2 now.2.1)) (ws' := (gBo bh bk bo ++ (gS t (bk 0) nb now))) (cutI (wc := (gA t (nb 1) 2 now.2.1)) (wc' := (gA t (nb 1) 2 now.2.1)) (ws' := (gBo bh bk bo ++ (gS t (bk 0) nb now))) [3] hP hD hS hA rfl rfl rfl rfl) hS (fun hPc hDc => va_runS (As := [.ref (nb 1), .int cu]) (rest := []) ⟨hx, hb, hml, hown, hts⟩ (mtX2_at l D t (nb 1) 2 now.2.1 cu r6 h6 (by decide) _) (va_cwS 2 hts (gBS kw157 kw65 kw2 kw66) rfl rfl rfl (by decide +kernel) ⟨Nat.le_of_ble_eq_true rfl, Nat.le_of_ble_eq_true rfl⟩) (sPc_S hPc hK hDc hE) rfl rfl hl.1 rfl (lv_room (Nat.le_of_ble_eq_true rfl)) dX2_curtain_56 ⟨Nat.zero_le _, Nat.zero_le _⟩) (fun H locs hP hD hS => ?_)
      obtain rfl := oi h
      exact ret_i hx hb hr hlocks hP hK hD hS dX2_curtain_59
    · have h := it_n c5 h
      by_cases c7 : w = 2
      · have h := it_p c7 h
        refine lv_tableIn (off := 49) (tgt := 60) hx hb dX2_curtain_11 (by rw [c7]; decide) (by rw [c7]; decide) (by rw [c7]; rfl) (by decide) ?_
        refine lv_aload_n hx hb dX2_curtain_60 rfl (lv_at hl 0 rfl) ?_
        refine va_get (D := D) (ci := 2) (v := .ref (bk 0)) (C := RX2) (T := TX2) (N := 8) hx hb htB inlX2 hown hK hP 0 rfl rfl 0 (by decide) (htB _ kw12) (fun _ h9 => h9) rfl dX2_curtain_61 ?_
        refine lv_iload_n hx hb dX2_curtain_64 rfl (lv_at hl 1 rfl) ?_
        obtain ⟨r8, h8, h⟩ := ob h
        refine call_i (v := r8) (wc := (gS t (bk 0) nb now)) (wc' := (gS t (bk 0) nb now)) (ws' := (gBo bh bk bo ++ (gS t (bk 0) nb now))) (cutB (bs := [gBo bh bk bo, gS t (bk 0) nb now]) (cs := [gS t (bk 0) nb now]) (cs' := [gS t (bk 0) nb now]) (bs' := [gBo bh bk bo, gS t (bk 0) nb now]) [1] hP hD hS hA rfl rfl rfl rfl) hS (fun hPc hDc => va_runV (As := [.int cu]) (rest := []) ⟨hx, hb, hml, hown, hts⟩ (mtX1_ticksForAll l D t (bk 0) nb now cu r8 h8 _) (cwV 1 hts (gBV kw166 kw167 kw168 kw11 kw169) rfl rfl rfl (by decide +kernel) ⟨Nat.le_of_ble_eq_true rfl, Nat.le_of_ble_eq_true rfl⟩) (sPc_V hPc hK hDc hE (va_recv hK hP (ci := 1) (q0 := 1) rfl rfl)) rfl rfl hl.1 rfl (lv_room (Nat.le_of_ble_eq_true rfl)) dX2_curtain_65 ⟨Nat.zero_le _, Nat.zero_le _⟩) (fun H locs hP hD hS => ?_)
        obtain rfl := oi h
        exact ret_i hx hb hr hlocks hP hK hD hS dX2_curtain_68
      · have h := it_n c7 h
        refine lv_tableOut (tgt := 69) hx hb dX2_curtain_11 (tab_0_2 c3 c5 c7) (by decide) ?_
        refine lv_aload_n hx hb dX2_curtain_69 rfl (lv_at hl 0 rfl) ?_
        refine va_get (D := D) (ci := 2) (v := .ref (bk 0)) (C := RX2) (T := TX2) (N := 8) hx hb htB inlX2 hown hK hP 0 rfl rfl 0 (by decide) (htB _ kw12) (fun _ h9 => h9) rfl dX2_curtain_70 ?_
        refine lv_iload_n hx hb dX2_curtain_73 rfl (lv_at hl 1 rfl) ?_
        obtain ⟨r9, h9, h⟩ := ob h
        refine call_i (v := r9) (wc := (gS t (bk 0) nb now)) (wc' := (gS t (bk 0) nb now)) (ws' := (gBo bh bk bo ++ (gS t (bk 0) nb now))) (cutB (bs := [gBo bh bk bo, gS t (bk 0) nb now]) (cs := [gS t (bk 0) nb now]) (cs' := [gS t (bk 0) nb now]) (bs' := [gBo bh bk bo, gS t (bk 0) nb now]) [1] hP hD hS hA rfl rfl rfl rfl) hS (fun hPc hDc => va_runV (As := [.int cu]) (rest := []) ⟨hx, hb, hml, hown, hts⟩ (mtX1_slowestColumn l D t (bk 0) nb now cu r9 h9 _) (cwV 1 hts (gBV kw175 kw176 kw177 kw11 kw178) rfl rfl rfl (by decide +kernel) ⟨Nat.le_of_ble_eq_true rfl, Nat.le_of_ble_eq_true rfl⟩) (sPc_V hPc hK hDc hE (va_recv hK hP (ci := 1) (q0 := 1) rfl rfl)) rfl rfl hl.1 rfl (lv_room (Nat.le_of_ble_eq_true rfl)) dX2_curtain_74 ⟨Nat.zero_le _, Nat.zero_le _⟩) (fun H locs hP hD hS => ?_)
        obtain rfl := oi h
        exact ret_i hx hb hr hlocks hP hK hD hS dX2_curtain_77

theorem dX2_column_0 : decode cX2_column 0 = .ok (.iload_n 1, 1) := by decide +kernel
theorem dX2_column_1 : decode cX2_column 1 = .ok (.invokestatic 73, 3) := by decide +kernel
theorem dX2_column_4 : decode cX2_column 4 = .ok (.iload_n 2, 1) := by decide +kernel
theorem dX2_column_5 : decode cX2_column 5 = .ok (.bipush 24, 2) := by decide +kernel
theorem dX2_column_7 : decode cX2_column 7 = .ok (.invokestatic 139, 3) := by decide +kernel
theorem dX2_column_10 : decode cX2_column 10 = .ok (.iload_n 3, 1) := by decide +kernel
theorem dX2_column_11 : decode cX2_column 11 = .ok (.iconst 0, 1) := by decide +kernel
theorem dX2_column_12 : decode cX2_column 12 = .ok (.iconst 5, 1) := by decide +kernel
theorem dX2_column_13 : decode cX2_column 13 = .ok (.invokestatic 48, 3) := by decide +kernel
theorem dX2_column_16 : decode cX2_column 16 = .ok (.aload_n 0, 1) := by decide +kernel
theorem dX2_column_17 : decode cX2_column 17 = .ok (.getfield 22, 3) := by decide +kernel
theorem dX2_column_20 : decode cX2_column 20 = .ok (.aload_n 0, 1) := by decide +kernel
theorem dX2_column_21 : decode cX2_column 21 = .ok (.getfield 10, 3) := by decide +kernel
theorem dX2_column_24 : decode cX2_column 24 = .ok (.iload_n 1, 1) := by decide +kernel
theorem dX2_column_25 : decode cX2_column 25 = .ok (.invokevirtual 143, 3) := by decide +kernel
theorem dX2_column_28 : decode cX2_column 28 = .ok (.iload_n 3, 1) := by decide +kernel
theorem dX2_column_29 : decode cX2_column 29 = .ok (.tableswitch 104 0 4 #[35, 47, 59, 71, 91], 35) := by decide +kernel
theorem dX2_column_64 : decode cX2_column 64 = .ok (.aload_n 0, 1) := by decide +kernel
theorem dX2_column_65 : decode cX2_column 65 = .ok (.getfield 22, 3) := by decide +kernel
theorem dX2_column_68 : decode cX2_column 68 = .ok (.getfield 147, 3) := by decide +kernel
theorem dX2_column_71 : decode cX2_column 71 = .ok (.iload_n 2, 1) := by decide +kernel
theorem dX2_column_72 : decode cX2_column 72 = .ok (.invokestatic 58, 3) := by decide +kernel
theorem dX2_column_75 : decode cX2_column 75 = .ok (.ireturn, 1) := by decide +kernel
theorem dX2_column_76 : decode cX2_column 76 = .ok (.aload_n 0, 1) := by decide +kernel
theorem dX2_column_77 : decode cX2_column 77 = .ok (.getfield 22, 3) := by decide +kernel
theorem dX2_column_80 : decode cX2_column 80 = .ok (.getfield 150, 3) := by decide +kernel
theorem dX2_column_83 : decode cX2_column 83 = .ok (.iload_n 2, 1) := by decide +kernel
theorem dX2_column_84 : decode cX2_column 84 = .ok (.invokestatic 58, 3) := by decide +kernel
theorem dX2_column_87 : decode cX2_column 87 = .ok (.ireturn, 1) := by decide +kernel
theorem dX2_column_88 : decode cX2_column 88 = .ok (.aload_n 0, 1) := by decide +kernel
theorem dX2_column_89 : decode cX2_column 89 = .ok (.getfield 22, 3) := by decide +kernel
theorem dX2_column_92 : decode cX2_column 92 = .ok (.getfield 153, 3) := by decide +kernel
theorem dX2_column_95 : decode cX2_column 95 = .ok (.iload_n 2, 1) := by decide +kernel
theorem dX2_column_96 : decode cX2_column 96 = .ok (.invokestatic 58, 3) := by decide +kernel
theorem dX2_column_99 : decode cX2_column 99 = .ok (.ireturn, 1) := by decide +kernel
theorem dX2_column_100 : decode cX2_column 100 = .ok (.aload_n 0, 1) := by decide +kernel
theorem dX2_column_101 : decode cX2_column 101 = .ok (.getfield 22, 3) := by decide +kernel
theorem dX2_column_104 : decode cX2_column 104 = .ok (.getfield 153, 3) := by decide +kernel
theorem dX2_column_107 : decode cX2_column 107 = .ok (.iload_n 2, 1) := by decide +kernel
theorem dX2_column_108 : decode cX2_column 108 = .ok (.invokestatic 58, 3) := by decide +kernel
theorem dX2_column_111 : decode cX2_column 111 = .ok (.iload_n 1, 1) := by decide +kernel
theorem dX2_column_112 : decode cX2_column 112 = .ok (.invokestatic 156, 3) := by decide +kernel
theorem dX2_column_115 : decode cX2_column 115 = .ok (.isub, 1) := by decide +kernel
theorem dX2_column_116 : decode cX2_column 116 = .ok (.invokestatic 159, 3) := by decide +kernel
theorem dX2_column_119 : decode cX2_column 119 = .ok (.ireturn, 1) := by decide +kernel
theorem dX2_column_120 : decode cX2_column 120 = .ok (.aload_n 0, 1) := by decide +kernel
theorem dX2_column_121 : decode cX2_column 121 = .ok (.getfield 10, 3) := by decide +kernel
theorem dX2_column_124 : decode cX2_column 124 = .ok (.iconst 0, 1) := by decide +kernel
theorem dX2_column_125 : decode cX2_column 125 = .ok (.invokevirtual 66, 3) := by decide +kernel
theorem dX2_column_128 : decode cX2_column 128 = .ok (.iload_n 2, 1) := by decide +kernel
theorem dX2_column_129 : decode cX2_column 129 = .ok (.invokestatic 58, 3) := by decide +kernel
theorem dX2_column_132 : decode cX2_column 132 = .ok (.ireturn, 1) := by decide +kernel
theorem dX2_column_133 : decode cX2_column 133 = .ok (.aload_n 0, 1) := by decide +kernel
theorem dX2_column_134 : decode cX2_column 134 = .ok (.getfield 10, 3) := by decide +kernel
theorem dX2_column_137 : decode cX2_column 137 = .ok (.iconst 1, 1) := by decide +kernel
theorem dX2_column_138 : decode cX2_column 138 = .ok (.invokevirtual 66, 3) := by decide +kernel
theorem dX2_column_141 : decode cX2_column 141 = .ok (.iload_n 2, 1) := by decide +kernel
theorem dX2_column_142 : decode cX2_column 142 = .ok (.invokestatic 58, 3) := by decide +kernel
theorem dX2_column_145 : decode cX2_column 145 = .ok (.ireturn, 1) := by decide +kernel
abbrev zX2_column : List Cond := .code yX2_column cX2_column 4 (some .int) :: BIG
def fX2_column (bo : BoT) (now : ShT) (ex : ExT) (v : Int32) (k : Int32) (w : Int32) : Option (Nat ⊕ (Int32 × ExT)) := tb (fX2_needSpeed v) (fun r1 => tb (fX2_needIndex k 24) (fun r2 => tb (fX2_needRange w 0 5) (fun r3 => (fX0_expose ex now v).bind (fun r4 => (if w = 0 then (fX2_at 24 r4.1 k).bind (fun r6 => some (.inr (r6, r4))) else (if w = 1 then (fX2_at 24 r4.2.1 k).bind (fun r8 => some (.inr (r8, r4))) else (if w = 2 then (fX2_at 24 r4.2.2.1 k).bind (fun r10 => some (.inr (r10, r4))) else (if w = 3 then (fX2_at 24 r4.2.2.1 k).bind (fun r12 => (fX2_wantedLight v).bind (fun r13 => some (.inr (iabs (r12 - r13), r4)))) else (if w = 4 then (fX1_dragsOf now 0).bind (fun r15 => (fX2_at 24 now.2.2.1 k).bind (fun r16 => some (.inr (r16, r4)))) else (fX1_dragsOf now 1).bind (fun r17 => (fX2_at 24 now.2.2.2.1 k).bind (fun r18 => some (.inr (r18, r4)))))))))))))
set_option maxHeartbeats 4000000 in
set_option maxRecDepth 100000 in
theorem mtX2_column (l : Launch) (D : va_G) (t : Nat → ClassId) (bh : Nat) (bk : Nat → Nat) (bo : BoT) (nb : Nat → Nat) (now : ShT) (eb : Nat → Nat) (ex : ExT) (v : Int32) (k : Int32) (w : Int32) (out : Int32 × ExT) (h : fX2_column bo now ex v k w = some (.inr out))  (sz : Nat) : Met l yX2_column zX2_column ({ frames := 4, cells := 0, slots := 0, locals := 93 }) (sPc D t (gBo bh bk bo ++ (gS t (bk 0) nb now ++ (gE t (bk 2) eb ex))) sz [.ref bh, .int v, .int k, .int w]) (qI D t (gBo bh bk bo ++ (gS t (bk 0) nb now ++ (gE t (bk 2) eb out.2))) out.1 (va_A (gBo bh bk bo ++ (gS t (bk 0) nb now ++ (gE t (bk 2) eb ex))) sz)) 0 0 (va_A (gBo bh bk bo ++ (gS t (bk 0) nb now ++ (gE t (bk 2) eb ex))) sz) := by
  refine met_of (Qf := fun A => qI D t (gBo bh bk bo ++ (gS t (bk 0) nb now ++ (gE t (bk 2) eb out.2))) out.1 A) (cc := cX2_column) (maxL := 4) (ret := some .int) (by decide) rfl (Nat.le_of_ble_eq_true rfl) ?_
  intro p e s m args below meth c A hx hb hr hml hts hown hlocks hA hP hK hD hE hS ls hl
  have htB : ∀ w ∈ BIG, w.before args s = true := fun w h => hts w (List.mem_cons_of_mem _ h)
  have hown : s.vm.findClass RX2 = some m.cls := hown
  have hl : lv_has ls 4 [(0, .ref bh), (1, .int v), (2, .int k), (3, .int w)] := hl
  unfold fX2_column at h
  refine lv_iload_n hx hb dX2_column_0 rfl (lv_at hl 1 rfl) ?_
  obtain ⟨r1, h1, h⟩ := tb_r h
  refine call_v (wc := ([] : va_W)) (wc' := ([] : va_W)) (ws' := (gBo bh bk bo ++ (gS t (bk 0) nb now ++ (gE t (bk 2) eb ex)))) (cutB (bs := [gBo bh bk bo, gS t (bk 0) nb now, gE t (bk 2) eb ex]) (cs := []) (cs' := []) (bs' := [gBo bh bk bo, gS t (bk 0) nb now, gE t (bk 2) eb ex]) [] hP hD hS hA rfl rfl rfl rfl) hS (fun hPc hDc => va_runS (As := [.int v]) (rest := []) ⟨hx, hb, hml, hown, hts⟩ (mtX2_needSpeed l D t v r1 h1 _) (va_cwS 1 hts (gBS kw82 kw83 kw2 kw84) rfl rfl rfl (by decide +kernel) ⟨Nat.le_of_ble_eq_true rfl, Nat.le_of_ble_eq_true rfl⟩) (sPc_S hPc hK hDc hE) rfl rfl hl.1 rfl (lv_room (Nat.le_of_ble_eq_true rfl)) dX2_column_1 ⟨Nat.zero_le _, Nat.zero_le _⟩) (fun H locs hP hD hS => ?_)
  refine lv_iload_n hx hb dX2_column_4 rfl (lv_at hl 2 rfl) ?_
  refine lv_bipush (v := 24) hx hb dX2_column_5 (by decide) ?_
  obtain ⟨r2, h2, h⟩ := tb_r h
  refine call_v (wc := ([] : va_W)) (wc' := ([] : va_W)) (ws' := (gBo bh bk bo ++ (gS t (bk 0) nb now ++ (gE t (bk 2) eb ex)))) (cutB (bs := [gBo bh bk bo, gS t (bk 0) nb now, gE t (bk 2) eb ex]) (cs := []) (cs' := []) (bs' := [gBo bh bk bo, gS t (bk 0) nb now, gE t (bk 2) eb ex]) [] hP hD hS hA rfl rfl rfl rfl) hS (fun hPc hDc => va_runS (As := [.int k, .int 24]) (rest := []) ⟨hx, hb, hml, hown, hts⟩ (mtX2_needIndex l D t k 24 r2 h2 _) (va_cwS 2 hts (gBS kw85 kw86 kw2 kw87) rfl rfl rfl (by decide +kernel) ⟨Nat.le_of_ble_eq_true rfl, Nat.le_of_ble_eq_true rfl⟩) (sPc_S hPc hK hDc hE) rfl rfl hl.1 rfl (lv_room (Nat.le_of_ble_eq_true rfl)) dX2_column_7 ⟨Nat.zero_le _, Nat.zero_le _⟩) (fun H locs hP hD hS => ?_)
  refine lv_iload_n hx hb dX2_column_10 rfl (lv_at hl 3 rfl) ?_
  refine lv_iconst (v := 0) hx hb dX2_column_11 (by decide) ?_
  refine lv_iconst (v := 5) hx hb dX2_column_12 (by decide) ?_
  obtain ⟨r3, h3, h⟩ := tb_r h
  refine call_v (wc := ([] : va_W)) (wc' := ([] : va_W)) (ws' := (gBo bh bk bo ++ (gS t (bk 0) nb now ++ (gE t (bk 2) eb ex)))) (cutB (bs := [gBo bh bk bo, gS t (bk 0) nb now, gE t (bk 2) eb ex]) (cs := []) (cs' := []) (bs' := [gBo bh bk bo, gS t (bk 0) nb now, gE t (bk 2) eb ex]) [] hP hD hS hA rfl rfl rfl rfl) hS (fun hPc hDc => va_runS (As := [.int w, .int 0, .int 5]) (rest := []) ⟨hx, hb, hml, hown, hts⟩ (mtX2_needRange l D t w 0 5 r3 h3 _) (va_cwS 3 hts (gBS kw52 kw53 kw2 kw54) rfl rfl rfl (by decide +kernel) ⟨Nat.le_of_ble_eq_true rfl, Nat.le_of_ble_eq_true rfl⟩) (sPc_S hPc hK hDc hE) rfl rfl hl.1 rfl (lv_room (Nat.le_of_ble_eq_true rfl)) dX2_column_13 ⟨Nat.zero_le _, Nat.zero_le _⟩) (fun H locs hP hD hS => ?_)
  refine lv_aload_n hx hb dX2_column_16 rfl (lv_at hl 0 rfl) ?_
  refine va_get (D := D) (ci := 2) (v := .ref (bk 2)) (C := RX2) (T := TX2) (N := 8) hx hb htB inlX2 hown hK hP 0 rfl rfl 2 (by decide) (htB _ kw17) (fun _ h9 => h9) rfl dX2_column_17 ?_
  refine lv_aload_n hx hb dX2_column_20 rfl (lv_at hl 0 rfl) ?_
  refine va_get (D := D) (ci := 2) (v := .ref (bk 0)) (C := RX2) (T := TX2) (N := 8) hx hb htB inlX2 hown hK hP 0 rfl rfl 0 (by decide) (htB _ kw12) (fun _ h9 => h9) rfl dX2_column_21 ?_
  refine lv_iload_n hx hb dX2_column_24 rfl (lv_at hl 1 rfl) ?_
  obtain ⟨r4, h4, h⟩ := ob h
  refine call_v (wc := (gE t (bk 2) eb ex ++ (gS t (bk 0) nb now))) (wc' := (gE t (bk 2) eb r4 ++ (gS t (bk 0) nb now))) (ws' := (gBo bh bk bo ++ (gS t (bk 0) nb now ++ (gE t (bk 2) eb r4)))) (cutB (bs := [gBo bh bk bo, gS t (bk 0) nb now, gE t (bk 2) eb ex]) (cs := [gE t (bk 2) eb ex, gS t (bk 0) nb now]) (cs' := [gE t (bk 2) eb r4, gS t (bk 0) nb now]) (bs' := [gBo bh bk bo, gS t (bk 0) nb now, gE t (bk 2) eb r4]) [2, 1] hP hD hS hA rfl rfl rfl rfl) hS (fun hPc hDc => va_runV (As := [.ref (bk 0), .int v]) (rest := []) ⟨hx, hb, hml, hown, hts⟩ (mtX0_expose l D t (bk 2) eb ex (bk 0) nb now v r4 h4 _) (cwV 2 hts (gBV kw100 kw101 kw102 kw16 kw103) rfl rfl rfl (by decide +kernel) ⟨Nat.le_of_ble_eq_true rfl, Nat.le_of_ble_eq_true rfl⟩) (sPc_V hPc hK hDc hE (va_recv hK hP (ci := 0) (q0 := 9) rfl rfl)) rfl rfl hl.1 rfl (lv_room (Nat.le_of_ble_eq_true rfl)) dX2_column_25 ⟨Nat.zero_le _, Nat.zero_le _⟩) (fun H locs hP hD hS => ?_)
  refine lv_iload_n hx hb dX2_column_28 rfl (lv_at hl 3 rfl) ?_
  by_cases c5 : w = 0
  · have h := it_p c5 h
    refine lv_tableIn (off := 35) (tgt := 64) hx hb dX2_column_29 (by rw [c5]; decide) (by rw [c5]; decide) (by rw [c5]; rfl) (by decide) ?_
    refine lv_aload_n hx hb dX2_column_64 rfl (lv_at hl 0 rfl) ?_
    refine va_get (D := D) (ci := 2) (v := .ref (bk 2)) (C := RX2) (T := TX2) (N := 8) hx hb htB inlX2 hown hK hP 0 rfl rfl 2 (by decide) (htB _ kw17) (fun _ h9 => h9) rfl dX2_column_65 ?_
    refine va_get (D := D) (ci := 0) (v := .ref (eb 0)) (C := RX0) (T := TX0) (N := 10) hx hb htB inlX0 hown hK hP 9 rfl rfl 0 (by decide) (htB _ kw264) (fun _ h9 => h9) rfl dX2_column_68 ?_
    refine lv_iload_n hx hb dX2_column_71 rfl (lv_at hl 2 rfl) ?_
    obtain ⟨r6, h6, h⟩ := ob h
    refine call_i (v := r6) (wc := (gA t (eb 0) 24 r4.1)) (wc' := (gA t (eb 0) 24 r4.1)) (ws' := (gBo bh bk bo ++ (gS t (bk 0) nb now ++ (gE t (bk 2) eb r4)))) (cutI (wc := (gA t (eb 0) 24 r4.1)) (wc' := (gA t (eb 0) 24 r4.1)) (ws' := (gBo bh bk bo ++ (gS t (bk 0) nb now ++ (gE t (bk 2) eb r4)))) [10] hP hD hS hA rfl rfl rfl rfl) hS (fun hPc hDc => va_runS (As := [.ref (eb 0), .int k]) (rest := []) ⟨hx, hb, hml, hown, hts⟩ (mtX2_at l D t (eb 0) 24 r4.1 k r6 h6 (by decide) _) (va_cwS 2 hts (gBS kw157 kw65 kw2 kw66) rfl rfl rfl (by decide +kernel) ⟨Nat.le_of_ble_eq_true rfl, Nat.le_of_ble_eq_true rfl⟩) (sPc_S hPc hK hDc hE) rfl rfl hl.1 rfl (lv_room (Nat.le_of_ble_eq_true rfl)) dX2_column_72 ⟨Nat.zero_le _, Nat.zero_le _⟩) (fun H locs hP hD hS => ?_)
    obtain rfl := oi h
    exact ret_i hx hb hr hlocks hP hK hD hS dX2_column_75
  · have h := it_n c5 h
    by_cases c7 : w = 1
    · have h := it_p c7 h
      refine lv_tableIn (off := 47) (tgt := 76) hx hb dX2_column_29 (by rw [c7]; decide) (by rw [c7]; decide) (by rw [c7]; rfl) (by decide) ?_
      refine lv_aload_n hx hb dX2_column_76 rfl (lv_at hl 0 rfl) ?_
      refine va_get (D := D) (ci := 2) (v := .ref (bk 2)) (C := RX2) (T := TX2) (N := 8) hx hb htB inlX2 hown hK hP 0 rfl rfl 2 (by decide) (htB _ kw17) (fun _ h9 => h9) rfl dX2_column_77 ?_
      refine va_get (D := D) (ci := 0) (v := .ref (eb 1)) (C := RX0) (T := TX0) (N := 10) hx hb htB inlX0 hown hK hP 9 rfl rfl 1 (by decide) (htB _ kw265) (fun _ h9 => h9) rfl dX2_column_80 ?_
      refine lv_iload_n hx hb dX2_column_83 rfl (lv_at hl 2 rfl) ?_
      obtain ⟨r8, h8, h⟩ := ob h
      refine call_i (v := r8) (wc := (gA t (eb 1) 24 r4.2.1)) (wc' := (gA t (eb 1) 24 r4.2.1)) (ws' := (gBo bh bk bo ++ (gS t (bk 0) nb now ++ (gE t (bk 2) eb r4)))) (cutI (wc := (gA t (eb 1) 24 r4.2.1)) (wc' := (gA t (eb 1) 24 r4.2.1)) (ws' := (gBo bh bk bo ++ (gS t (bk 0) nb now ++ (gE t (bk 2) eb r4)))) [11] hP hD hS hA rfl rfl rfl rfl) hS (fun hPc hDc => va_runS (As := [.ref (eb 1), .int k]) (rest := []) ⟨hx, hb, hml, hown, hts⟩ (mtX2_at l D t (eb 1) 24 r4.2.1 k r8 h8 (by decide) _) (va_cwS 2 hts (gBS kw157 kw65 kw2 kw66) rfl rfl rfl (by decide +kernel) ⟨Nat.le_of_ble_eq_true rfl, Nat.le_of_ble_eq_true rfl⟩) (sPc_S hPc hK hDc hE) rfl rfl hl.1 rfl (lv_room (Nat.le_of_ble_eq_true rfl)) dX2_column_84 ⟨Nat.zero_le _, Nat.zero_le _⟩) (fun H locs hP hD hS => ?_)
      obtain rfl := oi h
      exact ret_i hx hb hr hlocks hP hK hD hS dX2_column_87
    · have h := it_n c7 h
      by_cases c9 : w = 2
      · have h := it_p c9 h
        refine lv_tableIn (off := 59) (tgt := 88) hx hb dX2_column_29 (by rw [c9]; decide) (by rw [c9]; decide) (by rw [c9]; rfl) (by decide) ?_
        refine lv_aload_n hx hb dX2_column_88 rfl (lv_at hl 0 rfl) ?_
        refine va_get (D := D) (ci := 2) (v := .ref (bk 2)) (C := RX2) (T := TX2) (N := 8) hx hb htB inlX2 hown hK hP 0 rfl rfl 2 (by decide) (htB _ kw17) (fun _ h9 => h9) rfl dX2_column_89 ?_
        refine va_get (D := D) (ci := 0) (v := .ref (eb 2)) (C := RX0) (T := TX0) (N := 10) hx hb htB inlX0 hown hK hP 9 rfl rfl 2 (by decide) (htB _ kw266) (fun _ h9 => h9) rfl dX2_column_92 ?_
        refine lv_iload_n hx hb dX2_column_95 rfl (lv_at hl 2 rfl) ?_
        obtain ⟨r10, h10, h⟩ := ob h
        refine call_i (v := r10) (wc := (gA t (eb 2) 24 r4.2.2.1)) (wc' := (gA t (eb 2) 24 r4.2.2.1)) (ws' := (gBo bh bk bo ++ (gS t (bk 0) nb now ++ (gE t (bk 2) eb r4)))) (cutI (wc := (gA t (eb 2) 24 r4.2.2.1)) (wc' := (gA t (eb 2) 24 r4.2.2.1)) (ws' := (gBo bh bk bo ++ (gS t (bk 0) nb now ++ (gE t (bk 2) eb r4)))) [12] hP hD hS hA rfl rfl rfl rfl) hS (fun hPc hDc => va_runS (As := [.ref (eb 2), .int k]) (rest := []) ⟨hx, hb, hml, hown, hts⟩ (mtX2_at l D t (eb 2) 24 r4.2.2.1 k r10 h10 (by decide) _) (va_cwS 2 hts (gBS kw157 kw65 kw2 kw66) rfl rfl rfl (by decide +kernel) ⟨Nat.le_of_ble_eq_true rfl, Nat.le_of_ble_eq_true rfl⟩) (sPc_S hPc hK hDc hE) rfl rfl hl.1 rfl (lv_room (Nat.le_of_ble_eq_true rfl)) dX2_column_96 ⟨Nat.zero_le _, Nat.zero_le _⟩) (fun H locs hP hD hS => ?_)
        obtain rfl := oi h
        exact ret_i hx hb hr hlocks hP hK hD hS dX2_column_99
      · have h := it_n c9 h
        by_cases c11 : w = 3
        · have h := it_p c11 h
          refine lv_tableIn (off := 71) (tgt := 100) hx hb dX2_column_29 (by rw [c11]; decide) (by rw [c11]; decide) (by rw [c11]; rfl) (by decide) ?_
          refine lv_aload_n hx hb dX2_column_100 rfl (lv_at hl 0 rfl) ?_
          refine va_get (D := D) (ci := 2) (v := .ref (bk 2)) (C := RX2) (T := TX2) (N := 8) hx hb htB inlX2 hown hK hP 0 rfl rfl 2 (by decide) (htB _ kw17) (fun _ h9 => h9) rfl dX2_column_101 ?_
          refine va_get (D := D) (ci := 0) (v := .ref (eb 2)) (C := RX0) (T := TX0) (N := 10) hx hb htB inlX0 hown hK hP 9 rfl rfl 2 (by decide) (htB _ kw266) (fun _ h9 => h9) rfl dX2_column_104 ?_
          refine lv_iload_n hx hb dX2_column_107 rfl (lv_at hl 2 rfl) ?_
          obtain ⟨r12, h12, h⟩ := ob h
          refine call_i (v := r12) (wc := (gA t (eb 2) 24 r4.2.2.1)) (wc' := (gA t (eb 2) 24 r4.2.2.1)) (ws' := (gBo bh bk bo ++ (gS t (bk 0) nb now ++ (gE t (bk 2) eb r4)))) (cutI (wc := (gA t (eb 2) 24 r4.2.2.1)) (wc' := (gA t (eb 2) 24 r4.2.2.1)) (ws' := (gBo bh bk bo ++ (gS t (bk 0) nb now ++ (gE t (bk 2) eb r4)))) [12] hP hD hS hA rfl rfl rfl rfl) hS (fun hPc hDc => va_runS (As := [.ref (eb 2), .int k]) (rest := []) ⟨hx, hb, hml, hown, hts⟩ (mtX2_at l D t (eb 2) 24 r4.2.2.1 k r12 h12 (by decide) _) (va_cwS 2 hts (gBS kw157 kw65 kw2 kw66) rfl rfl rfl (by decide +kernel) ⟨Nat.le_of_ble_eq_true rfl, Nat.le_of_ble_eq_true rfl⟩) (sPc_S hPc hK hDc hE) rfl rfl hl.1 rfl (lv_room (Nat.le_of_ble_eq_true rfl)) dX2_column_108 ⟨Nat.zero_le _, Nat.zero_le _⟩) (fun H locs hP hD hS => ?_)
          refine lv_iload_n hx hb dX2_column_111 rfl (lv_at hl 1 rfl) ?_
          obtain ⟨r13, h13, h⟩ := ob h
          refine call_i (v := r13) (wc := ([] : va_W)) (wc' := ([] : va_W)) (ws' := (gBo bh bk bo ++ (gS t (bk 0) nb now ++ (gE t (bk 2) eb r4)))) (cutB (bs := [gBo bh bk bo, gS t (bk 0) nb now, gE t (bk 2) eb r4]) (cs := []) (cs' := []) (bs' := [gBo bh bk bo, gS t (bk 0) nb now, gE t (bk 2) eb r4]) [] hP hD hS hA rfl rfl rfl rfl) hS (fun hPc hDc => va_runS (As := [.int v]) (rest := [.int r12]) ⟨hx, hb, hml, hown, hts⟩ (mtX2_wantedLight l D t v r13 h13 _) (va_cwS 1 hts (gBS kw192 kw122 kw2 kw123) rfl rfl rfl (by decide +kernel) ⟨Nat.le_of_ble_eq_true rfl, Nat.le_of_ble_eq_true rfl⟩) (sPc_S hPc hK hDc hE) rfl rfl hl.1 rfl (lv_room (Nat.le_of_ble_eq_true rfl)) dX2_column_112 ⟨Nat.zero_le _, Nat.zero_le _⟩) (fun H locs hP hD hS => ?_)
          refine lv_isub hx hb dX2_column_115 ?_
          refine va_mabs hx hb (by rw [hml]; exact hl.1.symm) hown (htB _ kw267) (htB _ kw143) (htB _ kw63) (htB _ kw144) (Nat.le_of_ble_eq_true rfl) (Nat.le_of_ble_eq_true rfl) (Nat.zero_le _) (Nat.zero_le _) dX2_column_116 ?_
          obtain rfl := oi h
          exact ret_i hx hb hr hlocks hP hK hD hS dX2_column_119
        · have h := it_n c11 h
          by_cases c14 : w = 4
          · have h := it_p c14 h
            refine lv_tableIn (off := 91) (tgt := 120) hx hb dX2_column_29 (by rw [c14]; decide) (by rw [c14]; decide) (by rw [c14]; rfl) (by decide) ?_
            refine lv_aload_n hx hb dX2_column_120 rfl (lv_at hl 0 rfl) ?_
            refine va_get (D := D) (ci := 2) (v := .ref (bk 0)) (C := RX2) (T := TX2) (N := 8) hx hb htB inlX2 hown hK hP 0 rfl rfl 0 (by decide) (htB _ kw12) (fun _ h9 => h9) rfl dX2_column_121 ?_
            refine lv_iconst (v := 0) hx hb dX2_column_124 (by decide) ?_
            obtain ⟨r15, h15, h⟩ := ob h
            refine call_r (v := if 0 = 0 then nb 2 else nb 3) (wc := (gS t (bk 0) nb now)) (wc' := (gS t (bk 0) nb now)) (ws' := (gBo bh bk bo ++ (gS t (bk 0) nb now ++ (gE t (bk 2) eb r4)))) (cutB (bs := [gBo bh bk bo, gS t (bk 0) nb now, gE t (bk 2) eb r4]) (cs := [gS t (bk 0) nb now]) (cs' := [gS t (bk 0) nb now]) (bs' := [gBo bh bk bo, gS t (bk 0) nb now, gE t (bk 2) eb r4]) [1] hP hD hS hA rfl rfl rfl rfl) hS (fun hPc hDc => va_runV (As := [.int 0]) (rest := []) ⟨hx, hb, hml, hown, hts⟩ (mtX1_dragsOf l D t (bk 0) nb now 0 r15 h15 _) (cwV 1 hts (gBV kw215 kw171 kw172 kw11 kw173) rfl rfl rfl (by decide +kernel) ⟨Nat.le_of_ble_eq_true rfl, Nat.le_of_ble_eq_true rfl⟩) (sPc_V hPc hK hDc hE (va_recv hK hP (ci := 1) (q0 := 1) rfl rfl)) rfl rfl hl.1 rfl (lv_room (Nat.le_of_ble_eq_true rfl)) dX2_column_125 ⟨Nat.zero_le _, Nat.zero_le _⟩) (fun H locs hP hD hS => ?_)
            rw [if_pos (by decide)]
            refine lv_iload_n hx hb dX2_column_128 rfl (lv_at hl 2 rfl) ?_
            obtain ⟨r16, h16, h⟩ := ob h
            refine call_i (v := r16) (wc := (gA t (nb 2) 24 now.2.2.1)) (wc' := (gA t (nb 2) 24 now.2.2.1)) (ws' := (gBo bh bk bo ++ (gS t (bk 0) nb now ++ (gE t (bk 2) eb r4)))) (cutI (wc := (gA t (nb 2) 24 now.2.2.1)) (wc' := (gA t (nb 2) 24 now.2.2.1)) (ws' := (gBo bh bk bo ++ (gS t (bk 0) nb now ++ (gE t (bk 2) eb r4)))) [4] hP hD hS hA rfl rfl rfl rfl) hS (fun hPc hDc => va_runS (As := [.ref (nb 2), .int k]) (rest := []) ⟨hx, hb, hml, hown, hts⟩ (mtX2_at l D t (nb 2) 24 now.2.2.1 k r16 h16 (by decide) _) (va_cwS 2 hts (gBS kw157 kw65 kw2 kw66) rfl rfl rfl (by decide +kernel) ⟨Nat.le_of_ble_eq_true rfl, Nat.le_of_ble_eq_true rfl⟩) (sPc_S hPc hK hDc hE) rfl rfl hl.1 rfl (lv_room (Nat.le_of_ble_eq_true rfl)) dX2_column_129 ⟨Nat.zero_le _, Nat.zero_le _⟩) (fun H locs hP hD hS => ?_)
            obtain rfl := oi h
            exact ret_i hx hb hr hlocks hP hK hD hS dX2_column_132
          · have h := it_n c14 h
            refine lv_tableOut (tgt := 133) hx hb dX2_column_29 (tab_0_4 c5 c7 c9 c11 c14) (by decide) ?_
            refine lv_aload_n hx hb dX2_column_133 rfl (lv_at hl 0 rfl) ?_
            refine va_get (D := D) (ci := 2) (v := .ref (bk 0)) (C := RX2) (T := TX2) (N := 8) hx hb htB inlX2 hown hK hP 0 rfl rfl 0 (by decide) (htB _ kw12) (fun _ h9 => h9) rfl dX2_column_134 ?_
            refine lv_iconst (v := 1) hx hb dX2_column_137 (by decide) ?_
            obtain ⟨r17, h17, h⟩ := ob h
            refine call_r (v := if 1 = 0 then nb 2 else nb 3) (wc := (gS t (bk 0) nb now)) (wc' := (gS t (bk 0) nb now)) (ws' := (gBo bh bk bo ++ (gS t (bk 0) nb now ++ (gE t (bk 2) eb r4)))) (cutB (bs := [gBo bh bk bo, gS t (bk 0) nb now, gE t (bk 2) eb r4]) (cs := [gS t (bk 0) nb now]) (cs' := [gS t (bk 0) nb now]) (bs' := [gBo bh bk bo, gS t (bk 0) nb now, gE t (bk 2) eb r4]) [1] hP hD hS hA rfl rfl rfl rfl) hS (fun hPc hDc => va_runV (As := [.int 1]) (rest := []) ⟨hx, hb, hml, hown, hts⟩ (mtX1_dragsOf l D t (bk 0) nb now 1 r17 h17 _) (cwV 1 hts (gBV kw215 kw171 kw172 kw11 kw173) rfl rfl rfl (by decide +kernel) ⟨Nat.le_of_ble_eq_true rfl, Nat.le_of_ble_eq_true rfl⟩) (sPc_V hPc hK hDc hE (va_recv hK hP (ci := 1) (q0 := 1) rfl rfl)) rfl rfl hl.1 rfl (lv_room (Nat.le_of_ble_eq_true rfl)) dX2_column_138 ⟨Nat.zero_le _, Nat.zero_le _⟩) (fun H locs hP hD hS => ?_)
            rw [if_neg (by decide)]
            refine lv_iload_n hx hb dX2_column_141 rfl (lv_at hl 2 rfl) ?_
            obtain ⟨r18, h18, h⟩ := ob h
            refine call_i (v := r18) (wc := (gA t (nb 3) 24 now.2.2.2.1)) (wc' := (gA t (nb 3) 24 now.2.2.2.1)) (ws' := (gBo bh bk bo ++ (gS t (bk 0) nb now ++ (gE t (bk 2) eb r4)))) (cutI (wc := (gA t (nb 3) 24 now.2.2.2.1)) (wc' := (gA t (nb 3) 24 now.2.2.2.1)) (ws' := (gBo bh bk bo ++ (gS t (bk 0) nb now ++ (gE t (bk 2) eb r4)))) [5] hP hD hS hA rfl rfl rfl rfl) hS (fun hPc hDc => va_runS (As := [.ref (nb 3), .int k]) (rest := []) ⟨hx, hb, hml, hown, hts⟩ (mtX2_at l D t (nb 3) 24 now.2.2.2.1 k r18 h18 (by decide) _) (va_cwS 2 hts (gBS kw157 kw65 kw2 kw66) rfl rfl rfl (by decide +kernel) ⟨Nat.le_of_ble_eq_true rfl, Nat.le_of_ble_eq_true rfl⟩) (sPc_S hPc hK hDc hE) rfl rfl hl.1 rfl (lv_room (Nat.le_of_ble_eq_true rfl)) dX2_column_142 ⟨Nat.zero_le _, Nat.zero_le _⟩) (fun H locs hP hD hS => ?_)
            obtain rfl := oi h
            exact ret_i hx hb hr hlocks hP hK hD hS dX2_column_145

theorem dX2_speed_0 : decode cX2_speed 0 = .ok (.iload_n 1, 1) := by decide +kernel
theorem dX2_speed_1 : decode cX2_speed 1 = .ok (.invokestatic 73, 3) := by decide +kernel
theorem dX2_speed_4 : decode cX2_speed 4 = .ok (.iload_n 2, 1) := by decide +kernel
theorem dX2_speed_5 : decode cX2_speed 5 = .ok (.iconst 0, 1) := by decide +kernel
theorem dX2_speed_6 : decode cX2_speed 6 = .ok (.bipush 8, 2) := by decide +kernel
theorem dX2_speed_8 : decode cX2_speed 8 = .ok (.invokestatic 48, 3) := by decide +kernel
theorem dX2_speed_11 : decode cX2_speed 11 = .ok (.aload_n 0, 1) := by decide +kernel
theorem dX2_speed_12 : decode cX2_speed 12 = .ok (.getfield 22, 3) := by decide +kernel
theorem dX2_speed_15 : decode cX2_speed 15 = .ok (.aload_n 0, 1) := by decide +kernel
theorem dX2_speed_16 : decode cX2_speed 16 = .ok (.getfield 10, 3) := by decide +kernel
theorem dX2_speed_19 : decode cX2_speed 19 = .ok (.iload_n 1, 1) := by decide +kernel
theorem dX2_speed_20 : decode cX2_speed 20 = .ok (.invokevirtual 143, 3) := by decide +kernel
theorem dX2_speed_23 : decode cX2_speed 23 = .ok (.iload_n 2, 1) := by decide +kernel
theorem dX2_speed_24 : decode cX2_speed 24 = .ok (.tableswitch 117 0 7 #[48, 53, 68, 77, 85, 93, 101, 109], 48) := by decide +kernel
theorem dX2_speed_72 : decode cX2_speed 72 = .ok (.iload_n 1, 1) := by decide +kernel
theorem dX2_speed_73 : decode cX2_speed 73 = .ok (.invokestatic 156, 3) := by decide +kernel
theorem dX2_speed_76 : decode cX2_speed 76 = .ok (.ireturn, 1) := by decide +kernel
theorem dX2_speed_77 : decode cX2_speed 77 = .ok (.aload_n 0, 1) := by decide +kernel
theorem dX2_speed_78 : decode cX2_speed 78 = .ok (.getfield 10, 3) := by decide +kernel
theorem dX2_speed_81 : decode cX2_speed 81 = .ok (.getfield 76, 3) := by decide +kernel
theorem dX2_speed_84 : decode cX2_speed 84 = .ok (.iload_n 1, 1) := by decide +kernel
theorem dX2_speed_85 : decode cX2_speed 85 = .ok (.invokestatic 58, 3) := by decide +kernel
theorem dX2_speed_88 : decode cX2_speed 88 = .ok (.bipush 100, 2) := by decide +kernel
theorem dX2_speed_90 : decode cX2_speed 90 = .ok (.iadd, 1) := by decide +kernel
theorem dX2_speed_91 : decode cX2_speed 91 = .ok (.ireturn, 1) := by decide +kernel
theorem dX2_speed_92 : decode cX2_speed 92 = .ok (.aload_n 0, 1) := by decide +kernel
theorem dX2_speed_93 : decode cX2_speed 93 = .ok (.getfield 10, 3) := by decide +kernel
theorem dX2_speed_96 : decode cX2_speed 96 = .ok (.iload_n 1, 1) := by decide +kernel
theorem dX2_speed_97 : decode cX2_speed 97 = .ok (.invokevirtual 164, 3) := by decide +kernel
theorem dX2_speed_100 : decode cX2_speed 100 = .ok (.ireturn, 1) := by decide +kernel
theorem dX2_speed_101 : decode cX2_speed 101 = .ok (.aload_n 0, 1) := by decide +kernel
theorem dX2_speed_102 : decode cX2_speed 102 = .ok (.getfield 22, 3) := by decide +kernel
theorem dX2_speed_105 : decode cX2_speed 105 = .ok (.getfield 167, 3) := by decide +kernel
theorem dX2_speed_108 : decode cX2_speed 108 = .ok (.ireturn, 1) := by decide +kernel
theorem dX2_speed_109 : decode cX2_speed 109 = .ok (.aload_n 0, 1) := by decide +kernel
theorem dX2_speed_110 : decode cX2_speed 110 = .ok (.getfield 22, 3) := by decide +kernel
theorem dX2_speed_113 : decode cX2_speed 113 = .ok (.invokevirtual 96, 3) := by decide +kernel
theorem dX2_speed_116 : decode cX2_speed 116 = .ok (.ireturn, 1) := by decide +kernel
theorem dX2_speed_117 : decode cX2_speed 117 = .ok (.aload_n 0, 1) := by decide +kernel
theorem dX2_speed_118 : decode cX2_speed 118 = .ok (.getfield 22, 3) := by decide +kernel
theorem dX2_speed_121 : decode cX2_speed 121 = .ok (.getfield 170, 3) := by decide +kernel
theorem dX2_speed_124 : decode cX2_speed 124 = .ok (.ireturn, 1) := by decide +kernel
theorem dX2_speed_125 : decode cX2_speed 125 = .ok (.aload_n 0, 1) := by decide +kernel
theorem dX2_speed_126 : decode cX2_speed 126 = .ok (.getfield 22, 3) := by decide +kernel
theorem dX2_speed_129 : decode cX2_speed 129 = .ok (.getfield 173, 3) := by decide +kernel
theorem dX2_speed_132 : decode cX2_speed 132 = .ok (.ireturn, 1) := by decide +kernel
theorem dX2_speed_133 : decode cX2_speed 133 = .ok (.aload_n 0, 1) := by decide +kernel
theorem dX2_speed_134 : decode cX2_speed 134 = .ok (.getfield 22, 3) := by decide +kernel
theorem dX2_speed_137 : decode cX2_speed 137 = .ok (.getfield 176, 3) := by decide +kernel
theorem dX2_speed_140 : decode cX2_speed 140 = .ok (.ireturn, 1) := by decide +kernel
theorem dX2_speed_141 : decode cX2_speed 141 = .ok (.aload_n 0, 1) := by decide +kernel
theorem dX2_speed_142 : decode cX2_speed 142 = .ok (.getfield 10, 3) := by decide +kernel
theorem dX2_speed_145 : decode cX2_speed 145 = .ok (.getfield 179, 3) := by decide +kernel
theorem dX2_speed_148 : decode cX2_speed 148 = .ok (.iload_n 1, 1) := by decide +kernel
theorem dX2_speed_149 : decode cX2_speed 149 = .ok (.invokestatic 58, 3) := by decide +kernel
theorem dX2_speed_152 : decode cX2_speed 152 = .ok (.ireturn, 1) := by decide +kernel
abbrev zX2_speed : List Cond := .code yX2_speed cX2_speed 3 (some .int) :: BIG
def fX2_speed (bo : BoT) (now : ShT) (ex : ExT) (v : Int32) (w : Int32) : Option (Nat ⊕ (Int32 × ExT)) := tb (fX2_needSpeed v) (fun r1 => tb (fX2_needRange w 0 8) (fun r2 => (fX0_expose ex now v).bind (fun r3 => (if w = 0 then (fX2_wantedLight v).bind (fun r5 => some (.inr (r5, r3))) else (if w = 1 then (fX2_at 6 now.2.2.2.2.1 v).bind (fun r7 => some (.inr (r7 + 100, r3))) else (if w = 2 then (fX1_startOfSecond now v).bind (fun r9 => some (.inr (r9, r3))) else (if w = 3 then some (.inr (r3.2.2.2.1, r3)) else (if w = 4 then (fX0_spread r3).bind (fun r12 => some (.inr (r12, r3))) else (if w = 5 then some (.inr (r3.2.2.2.2.2.2.2.1, r3)) else (if w = 6 then some (.inr (r3.2.2.2.2.2.2.2.2.1, r3)) else (if w = 7 then some (.inr (r3.2.2.2.2.2.2.2.2.2, r3)) else (fX2_at 6 now.2.2.2.2.2.2.1 v).bind (fun r16 => some (.inr (r16, r3))))))))))))))
set_option maxHeartbeats 4000000 in
set_option maxRecDepth 100000 in
theorem mtX2_speed (l : Launch) (D : va_G) (t : Nat → ClassId) (bh : Nat) (bk : Nat → Nat) (bo : BoT) (nb : Nat → Nat) (now : ShT) (eb : Nat → Nat) (ex : ExT) (v : Int32) (w : Int32) (out : Int32 × ExT) (h : fX2_speed bo now ex v w = some (.inr out))  (sz : Nat) : Met l yX2_speed zX2_speed ({ frames := 4, cells := 0, slots := 0, locals := 93 }) (sPc D t (gBo bh bk bo ++ (gS t (bk 0) nb now ++ (gE t (bk 2) eb ex))) sz [.ref bh, .int v, .int w]) (qI D t (gBo bh bk bo ++ (gS t (bk 0) nb now ++ (gE t (bk 2) eb out.2))) out.1 (va_A (gBo bh bk bo ++ (gS t (bk 0) nb now ++ (gE t (bk 2) eb ex))) sz)) 0 0 (va_A (gBo bh bk bo ++ (gS t (bk 0) nb now ++ (gE t (bk 2) eb ex))) sz) := by
  refine met_of (Qf := fun A => qI D t (gBo bh bk bo ++ (gS t (bk 0) nb now ++ (gE t (bk 2) eb out.2))) out.1 A) (cc := cX2_speed) (maxL := 3) (ret := some .int) (by decide) rfl (Nat.le_of_ble_eq_true rfl) ?_
  intro p e s m args below meth c A hx hb hr hml hts hown hlocks hA hP hK hD hE hS ls hl
  have htB : ∀ w ∈ BIG, w.before args s = true := fun w h => hts w (List.mem_cons_of_mem _ h)
  have hown : s.vm.findClass RX2 = some m.cls := hown
  have hl : lv_has ls 3 [(0, .ref bh), (1, .int v), (2, .int w)] := hl
  unfold fX2_speed at h
  refine lv_iload_n hx hb dX2_speed_0 rfl (lv_at hl 1 rfl) ?_
  obtain ⟨r1, h1, h⟩ := tb_r h
  refine call_v (wc := ([] : va_W)) (wc' := ([] : va_W)) (ws' := (gBo bh bk bo ++ (gS t (bk 0) nb now ++ (gE t (bk 2) eb ex)))) (cutB (bs := [gBo bh bk bo, gS t (bk 0) nb now, gE t (bk 2) eb ex]) (cs := []) (cs' := []) (bs' := [gBo bh bk bo, gS t (bk 0) nb now, gE t (bk 2) eb ex]) [] hP hD hS hA rfl rfl rfl rfl) hS (fun hPc hDc => va_runS (As := [.int v]) (rest := []) ⟨hx, hb, hml, hown, hts⟩ (mtX2_needSpeed l D t v r1 h1 _) (va_cwS 1 hts (gBS kw82 kw83 kw2 kw84) rfl rfl rfl (by decide +kernel) ⟨Nat.le_of_ble_eq_true rfl, Nat.le_of_ble_eq_true rfl⟩) (sPc_S hPc hK hDc hE) rfl rfl hl.1 rfl (lv_room (Nat.le_of_ble_eq_true rfl)) dX2_speed_1 ⟨Nat.zero_le _, Nat.zero_le _⟩) (fun H locs hP hD hS => ?_)
  refine lv_iload_n hx hb dX2_speed_4 rfl (lv_at hl 2 rfl) ?_
  refine lv_iconst (v := 0) hx hb dX2_speed_5 (by decide) ?_
  refine lv_bipush (v := 8) hx hb dX2_speed_6 (by decide) ?_
  obtain ⟨r2, h2, h⟩ := tb_r h
  refine call_v (wc := ([] : va_W)) (wc' := ([] : va_W)) (ws' := (gBo bh bk bo ++ (gS t (bk 0) nb now ++ (gE t (bk 2) eb ex)))) (cutB (bs := [gBo bh bk bo, gS t (bk 0) nb now, gE t (bk 2) eb ex]) (cs := []) (cs' := []) (bs' := [gBo bh bk bo, gS t (bk 0) nb now, gE t (bk 2) eb ex]) [] hP hD hS hA rfl rfl rfl rfl) hS (fun hPc hDc => va_runS (As := [.int w, .int 0, .int 8]) (rest := []) ⟨hx, hb, hml, hown, hts⟩ (mtX2_needRange l D t w 0 8 r2 h2 _) (va_cwS 3 hts (gBS kw52 kw53 kw2 kw54) rfl rfl rfl (by decide +kernel) ⟨Nat.le_of_ble_eq_true rfl, Nat.le_of_ble_eq_true rfl⟩) (sPc_S hPc hK hDc hE) rfl rfl hl.1 rfl (lv_room (Nat.le_of_ble_eq_true rfl)) dX2_speed_8 ⟨Nat.zero_le _, Nat.zero_le _⟩) (fun H locs hP hD hS => ?_)
  refine lv_aload_n hx hb dX2_speed_11 rfl (lv_at hl 0 rfl) ?_
  refine va_get (D := D) (ci := 2) (v := .ref (bk 2)) (C := RX2) (T := TX2) (N := 8) hx hb htB inlX2 hown hK hP 0 rfl rfl 2 (by decide) (htB _ kw17) (fun _ h9 => h9) rfl dX2_speed_12 ?_
  refine lv_aload_n hx hb dX2_speed_15 rfl (lv_at hl 0 rfl) ?_
  refine va_get (D := D) (ci := 2) (v := .ref (bk 0)) (C := RX2) (T := TX2) (N := 8) hx hb htB inlX2 hown hK hP 0 rfl rfl 0 (by decide) (htB _ kw12) (fun _ h9 => h9) rfl dX2_speed_16 ?_
  refine lv_iload_n hx hb dX2_speed_19 rfl (lv_at hl 1 rfl) ?_
  obtain ⟨r3, h3, h⟩ := ob h
  refine call_v (wc := (gE t (bk 2) eb ex ++ (gS t (bk 0) nb now))) (wc' := (gE t (bk 2) eb r3 ++ (gS t (bk 0) nb now))) (ws' := (gBo bh bk bo ++ (gS t (bk 0) nb now ++ (gE t (bk 2) eb r3)))) (cutB (bs := [gBo bh bk bo, gS t (bk 0) nb now, gE t (bk 2) eb ex]) (cs := [gE t (bk 2) eb ex, gS t (bk 0) nb now]) (cs' := [gE t (bk 2) eb r3, gS t (bk 0) nb now]) (bs' := [gBo bh bk bo, gS t (bk 0) nb now, gE t (bk 2) eb r3]) [2, 1] hP hD hS hA rfl rfl rfl rfl) hS (fun hPc hDc => va_runV (As := [.ref (bk 0), .int v]) (rest := []) ⟨hx, hb, hml, hown, hts⟩ (mtX0_expose l D t (bk 2) eb ex (bk 0) nb now v r3 h3 _) (cwV 2 hts (gBV kw100 kw101 kw102 kw16 kw103) rfl rfl rfl (by decide +kernel) ⟨Nat.le_of_ble_eq_true rfl, Nat.le_of_ble_eq_true rfl⟩) (sPc_V hPc hK hDc hE (va_recv hK hP (ci := 0) (q0 := 9) rfl rfl)) rfl rfl hl.1 rfl (lv_room (Nat.le_of_ble_eq_true rfl)) dX2_speed_20 ⟨Nat.zero_le _, Nat.zero_le _⟩) (fun H locs hP hD hS => ?_)
  refine lv_iload_n hx hb dX2_speed_23 rfl (lv_at hl 2 rfl) ?_
  by_cases c4 : w = 0
  · have h := it_p c4 h
    refine lv_tableIn (off := 48) (tgt := 72) hx hb dX2_speed_24 (by rw [c4]; decide) (by rw [c4]; decide) (by rw [c4]; rfl) (by decide) ?_
    refine lv_iload_n hx hb dX2_speed_72 rfl (lv_at hl 1 rfl) ?_
    obtain ⟨r5, h5, h⟩ := ob h
    refine call_i (v := r5) (wc := ([] : va_W)) (wc' := ([] : va_W)) (ws' := (gBo bh bk bo ++ (gS t (bk 0) nb now ++ (gE t (bk 2) eb r3)))) (cutB (bs := [gBo bh bk bo, gS t (bk 0) nb now, gE t (bk 2) eb r3]) (cs := []) (cs' := []) (bs' := [gBo bh bk bo, gS t (bk 0) nb now, gE t (bk 2) eb r3]) [] hP hD hS hA rfl rfl rfl rfl) hS (fun hPc hDc => va_runS (As := [.int v]) (rest := []) ⟨hx, hb, hml, hown, hts⟩ (mtX2_wantedLight l D t v r5 h5 _) (va_cwS 1 hts (gBS kw192 kw122 kw2 kw123) rfl rfl rfl (by decide +kernel) ⟨Nat.le_of_ble_eq_true rfl, Nat.le_of_ble_eq_true rfl⟩) (sPc_S hPc hK hDc hE) rfl rfl hl.1 rfl (lv_room (Nat.le_of_ble_eq_true rfl)) dX2_speed_73 ⟨Nat.zero_le _, Nat.zero_le _⟩) (fun H locs hP hD hS => ?_)
    obtain rfl := oi h
    exact ret_i hx hb hr hlocks hP hK hD hS dX2_speed_76
  · have h := it_n c4 h
    by_cases c6 : w = 1
    · have h := it_p c6 h
      refine lv_tableIn (off := 53) (tgt := 77) hx hb dX2_speed_24 (by rw [c6]; decide) (by rw [c6]; decide) (by rw [c6]; rfl) (by decide) ?_
      refine lv_aload_n hx hb dX2_speed_77 rfl (lv_at hl 0 rfl) ?_
      refine va_get (D := D) (ci := 2) (v := .ref (bk 0)) (C := RX2) (T := TX2) (N := 8) hx hb htB inlX2 hown hK hP 0 rfl rfl 0 (by decide) (htB _ kw12) (fun _ h9 => h9) rfl dX2_speed_78 ?_
      refine va_get (D := D) (ci := 1) (v := .ref (nb 4)) (C := RX1) (T := TX1) (N := 10) hx hb htB inlX1 hown hK hP 1 rfl rfl 4 (by decide) (htB _ kw187) (fun _ h9 => h9) rfl dX2_speed_81 ?_
      refine lv_iload_n hx hb dX2_speed_84 rfl (lv_at hl 1 rfl) ?_
      obtain ⟨r7, h7, h⟩ := ob h
      refine call_i (v := r7) (wc := (gA t (nb 4) 6 now.2.2.2.2.1)) (wc' := (gA t (nb 4) 6 now.2.2.2.2.1)) (ws' := (gBo bh bk bo ++ (gS t (bk 0) nb now ++ (gE t (bk 2) eb r3)))) (cutI (wc := (gA t (nb 4) 6 now.2.2.2.2.1)) (wc' := (gA t (nb 4) 6 now.2.2.2.2.1)) (ws' := (gBo bh bk bo ++ (gS t (bk 0) nb now ++ (gE t (bk 2) eb r3)))) [6] hP hD hS hA rfl rfl rfl rfl) hS (fun hPc hDc => va_runS (As := [.ref (nb 4), .int v]) (rest := []) ⟨hx, hb, hml, hown, hts⟩ (mtX2_at l D t (nb 4) 6 now.2.2.2.2.1 v r7 h7 (by decide) _) (va_cwS 2 hts (gBS kw157 kw65 kw2 kw66) rfl rfl rfl (by decide +kernel) ⟨Nat.le_of_ble_eq_true rfl, Nat.le_of_ble_eq_true rfl⟩) (sPc_S hPc hK hDc hE) rfl rfl hl.1 rfl (lv_room (Nat.le_of_ble_eq_true rfl)) dX2_speed_85 ⟨Nat.zero_le _, Nat.zero_le _⟩) (fun H locs hP hD hS => ?_)
      refine lv_bipush (v := 100) hx hb dX2_speed_88 (by decide) ?_
      refine lv_iadd hx hb dX2_speed_90 ?_
      obtain rfl := oi h
      exact ret_i hx hb hr hlocks hP hK hD hS dX2_speed_91
    · have h := it_n c6 h
      by_cases c8 : w = 2
      · have h := it_p c8 h
        refine lv_tableIn (off := 68) (tgt := 92) hx hb dX2_speed_24 (by rw [c8]; decide) (by rw [c8]; decide) (by rw [c8]; rfl) (by decide) ?_
        refine lv_aload_n hx hb dX2_speed_92 rfl (lv_at hl 0 rfl) ?_
        refine va_get (D := D) (ci := 2) (v := .ref (bk 0)) (C := RX2) (T := TX2) (N := 8) hx hb htB inlX2 hown hK hP 0 rfl rfl 0 (by decide) (htB _ kw12) (fun _ h9 => h9) rfl dX2_speed_93 ?_
        refine lv_iload_n hx hb dX2_speed_96 rfl (lv_at hl 1 rfl) ?_
        obtain ⟨r9, h9, h⟩ := ob h
        refine call_i (v := r9) (wc := (gS t (bk 0) nb now)) (wc' := (gS t (bk 0) nb now)) (ws' := (gBo bh bk bo ++ (gS t (bk 0) nb now ++ (gE t (bk 2) eb r3)))) (cutB (bs := [gBo bh bk bo, gS t (bk 0) nb now, gE t (bk 2) eb r3]) (cs := [gS t (bk 0) nb now]) (cs' := [gS t (bk 0) nb now]) (bs' := [gBo bh bk bo, gS t (bk 0) nb now, gE t (bk 2) eb r3]) [1] hP hD hS hA rfl rfl rfl rfl) hS (fun hPc hDc => va_runV (As := [.int v]) (rest := []) ⟨hx, hb, hml, hown, hts⟩ (mtX1_startOfSecond l D t (bk 0) nb now v r9 h9 _) (cwV 1 hts (gBV kw193 kw118 kw119 kw11 kw120) rfl rfl rfl (by decide +kernel) ⟨Nat.le_of_ble_eq_true rfl, Nat.le_of_ble_eq_true rfl⟩) (sPc_V hPc hK hDc hE (va_recv hK hP (ci := 1) (q0 := 1) rfl rfl)) rfl rfl hl.1 rfl (lv_room (Nat.le_of_ble_eq_true rfl)) dX2_speed_97 ⟨Nat.zero_le _, Nat.zero_le _⟩) (fun H locs hP hD hS => ?_)
        obtain rfl := oi h
        exact ret_i hx hb hr hlocks hP hK hD hS dX2_speed_100
      · have h := it_n c8 h
        by_cases c10 : w = 3
        · have h := it_p c10 h
          refine lv_tableIn (off := 77) (tgt := 101) hx hb dX2_speed_24 (by rw [c10]; decide) (by rw [c10]; decide) (by rw [c10]; rfl) (by decide) ?_
          refine lv_aload_n hx hb dX2_speed_101 rfl (lv_at hl 0 rfl) ?_
          refine va_get (D := D) (ci := 2) (v := .ref (bk 2)) (C := RX2) (T := TX2) (N := 8) hx hb htB inlX2 hown hK hP 0 rfl rfl 2 (by decide) (htB _ kw17) (fun _ h9 => h9) rfl dX2_speed_102 ?_
          refine va_get (D := D) (ci := 0) (v := .int r3.2.2.2.1) (C := RX0) (T := TX0) (N := 10) hx hb htB inlX0 hown hK hP 9 rfl rfl 3 (by decide) (htB _ kw188) (fun _ h9 => h9) rfl dX2_speed_105 ?_
          obtain rfl := oi h
          exact ret_i hx hb hr hlocks hP hK hD hS dX2_speed_108
        · have h := it_n c10 h
          by_cases c11 : w = 4
          · have h := it_p c11 h
            refine lv_tableIn (off := 85) (tgt := 109) hx hb dX2_speed_24 (by rw [c11]; decide) (by rw [c11]; decide) (by rw [c11]; rfl) (by decide) ?_
            refine lv_aload_n hx hb dX2_speed_109 rfl (lv_at hl 0 rfl) ?_
            refine va_get (D := D) (ci := 2) (v := .ref (bk 2)) (C := RX2) (T := TX2) (N := 8) hx hb htB inlX2 hown hK hP 0 rfl rfl 2 (by decide) (htB _ kw17) (fun _ h9 => h9) rfl dX2_speed_110 ?_
            obtain ⟨r12, h12, h⟩ := ob h
            refine call_i (v := r12) (wc := (gE t (bk 2) eb r3)) (wc' := (gE t (bk 2) eb r3)) (ws' := (gBo bh bk bo ++ (gS t (bk 0) nb now ++ (gE t (bk 2) eb r3)))) (cutB (bs := [gBo bh bk bo, gS t (bk 0) nb now, gE t (bk 2) eb r3]) (cs := [gE t (bk 2) eb r3]) (cs' := [gE t (bk 2) eb r3]) (bs' := [gBo bh bk bo, gS t (bk 0) nb now, gE t (bk 2) eb r3]) [2] hP hD hS hA rfl rfl rfl rfl) hS (fun hPc hDc => va_runV (As := []) (rest := []) ⟨hx, hb, hml, hown, hts⟩ (mtX0_spread l D t (bk 2) eb r3 r12 h12 _) (cwV 0 hts (gBV kw156 kw153 kw154 kw16 kw155) rfl rfl rfl (by decide +kernel) ⟨Nat.le_of_ble_eq_true rfl, Nat.le_of_ble_eq_true rfl⟩) (sPc_V hPc hK hDc hE (va_recv hK hP (ci := 0) (q0 := 9) rfl rfl)) rfl rfl hl.1 rfl (lv_room (Nat.le_of_ble_eq_true rfl)) dX2_speed_113 ⟨Nat.zero_le _, Nat.zero_le _⟩) (fun H locs hP hD hS => ?_)
            obtain rfl := oi h
            exact ret_i hx hb hr hlocks hP hK hD hS dX2_speed_116
          · have h := it_n c11 h
            by_cases c13 : w = 5
            · have h := it_p c13 h
              refine lv_tableIn (off := 93) (tgt := 117) hx hb dX2_speed_24 (by rw [c13]; decide) (by rw [c13]; decide) (by rw [c13]; rfl) (by decide) ?_
              refine lv_aload_n hx hb dX2_speed_117 rfl (lv_at hl 0 rfl) ?_
              refine va_get (D := D) (ci := 2) (v := .ref (bk 2)) (C := RX2) (T := TX2) (N := 8) hx hb htB inlX2 hown hK hP 0 rfl rfl 2 (by decide) (htB _ kw17) (fun _ h9 => h9) rfl dX2_speed_118 ?_
              refine va_get (D := D) (ci := 0) (v := .int r3.2.2.2.2.2.2.2.1) (C := RX0) (T := TX0) (N := 10) hx hb htB inlX0 hown hK hP 9 rfl rfl 7 (by decide) (htB _ kw81) (fun _ h9 => h9) rfl dX2_speed_121 ?_
              obtain rfl := oi h
              exact ret_i hx hb hr hlocks hP hK hD hS dX2_speed_124
            · have h := it_n c13 h
              by_cases c14 : w = 6
              · have h := it_p c14 h
                refine lv_tableIn (off := 101) (tgt := 125) hx hb dX2_speed_24 (by rw [c14]; decide) (by rw [c14]; decide) (by rw [c14]; rfl) (by decide) ?_
                refine lv_aload_n hx hb dX2_speed_125 rfl (lv_at hl 0 rfl) ?_
                refine va_get (D := D) (ci := 2) (v := .ref (bk 2)) (C := RX2) (T := TX2) (N := 8) hx hb htB inlX2 hown hK hP 0 rfl rfl 2 (by decide) (htB _ kw17) (fun _ h9 => h9) rfl dX2_speed_126 ?_
                refine va_get (D := D) (ci := 0) (v := .int r3.2.2.2.2.2.2.2.2.1) (C := RX0) (T := TX0) (N := 10) hx hb htB inlX0 hown hK hP 9 rfl rfl 8 (by decide) (htB _ kw189) (fun _ h9 => h9) rfl dX2_speed_129 ?_
                obtain rfl := oi h
                exact ret_i hx hb hr hlocks hP hK hD hS dX2_speed_132
              · have h := it_n c14 h
                by_cases c15 : w = 7
                · have h := it_p c15 h
                  refine lv_tableIn (off := 109) (tgt := 133) hx hb dX2_speed_24 (by rw [c15]; decide) (by rw [c15]; decide) (by rw [c15]; rfl) (by decide) ?_
                  refine lv_aload_n hx hb dX2_speed_133 rfl (lv_at hl 0 rfl) ?_
                  refine va_get (D := D) (ci := 2) (v := .ref (bk 2)) (C := RX2) (T := TX2) (N := 8) hx hb htB inlX2 hown hK hP 0 rfl rfl 2 (by decide) (htB _ kw17) (fun _ h9 => h9) rfl dX2_speed_134 ?_
                  refine va_get (D := D) (ci := 0) (v := .int r3.2.2.2.2.2.2.2.2.2) (C := RX0) (T := TX0) (N := 10) hx hb htB inlX0 hown hK hP 9 rfl rfl 9 (by decide) (htB _ kw190) (fun _ h9 => h9) rfl dX2_speed_137 ?_
                  obtain rfl := oi h
                  exact ret_i hx hb hr hlocks hP hK hD hS dX2_speed_140
                · have h := it_n c15 h
                  refine lv_tableOut (tgt := 141) hx hb dX2_speed_24 (tab_0_7 c4 c6 c8 c10 c11 c13 c14 c15) (by decide) ?_
                  refine lv_aload_n hx hb dX2_speed_141 rfl (lv_at hl 0 rfl) ?_
                  refine va_get (D := D) (ci := 2) (v := .ref (bk 0)) (C := RX2) (T := TX2) (N := 8) hx hb htB inlX2 hown hK hP 0 rfl rfl 0 (by decide) (htB _ kw12) (fun _ h9 => h9) rfl dX2_speed_142 ?_
                  refine va_get (D := D) (ci := 1) (v := .ref (nb 6)) (C := RX1) (T := TX1) (N := 10) hx hb htB inlX1 hown hK hP 1 rfl rfl 6 (by decide) (htB _ kw191) (fun _ h9 => h9) rfl dX2_speed_145 ?_
                  refine lv_iload_n hx hb dX2_speed_148 rfl (lv_at hl 1 rfl) ?_
                  obtain ⟨r16, h16, h⟩ := ob h
                  refine call_i (v := r16) (wc := (gA t (nb 6) 6 now.2.2.2.2.2.2.1)) (wc' := (gA t (nb 6) 6 now.2.2.2.2.2.2.1)) (ws' := (gBo bh bk bo ++ (gS t (bk 0) nb now ++ (gE t (bk 2) eb r3)))) (cutI (wc := (gA t (nb 6) 6 now.2.2.2.2.2.2.1)) (wc' := (gA t (nb 6) 6 now.2.2.2.2.2.2.1)) (ws' := (gBo bh bk bo ++ (gS t (bk 0) nb now ++ (gE t (bk 2) eb r3)))) [8] hP hD hS hA rfl rfl rfl rfl) hS (fun hPc hDc => va_runS (As := [.ref (nb 6), .int v]) (rest := []) ⟨hx, hb, hml, hown, hts⟩ (mtX2_at l D t (nb 6) 6 now.2.2.2.2.2.2.1 v r16 h16 (by decide) _) (va_cwS 2 hts (gBS kw157 kw65 kw2 kw66) rfl rfl rfl (by decide +kernel) ⟨Nat.le_of_ble_eq_true rfl, Nat.le_of_ble_eq_true rfl⟩) (sPc_S hPc hK hDc hE) rfl rfl hl.1 rfl (lv_room (Nat.le_of_ble_eq_true rfl)) dX2_speed_149 ⟨Nat.zero_le _, Nat.zero_le _⟩) (fun H locs hP hD hS => ?_)
                  obtain rfl := oi h
                  exact ret_i hx hb hr hlocks hP hK hD hS dX2_speed_152

theorem dX2_count_0 : decode cX2_count 0 = .ok (.iload_n 1, 1) := by decide +kernel
theorem dX2_count_1 : decode cX2_count 1 = .ok (.iconst 0, 1) := by decide +kernel
theorem dX2_count_2 : decode cX2_count 2 = .ok (.iconst 4, 1) := by decide +kernel
theorem dX2_count_3 : decode cX2_count 3 = .ok (.invokestatic 48, 3) := by decide +kernel
theorem dX2_count_6 : decode cX2_count 6 = .ok (.iload_n 1, 1) := by decide +kernel
theorem dX2_count_7 : decode cX2_count 7 = .ok (.tableswitch 61 0 3 #[29, 37, 45, 53], 29) := by decide +kernel
theorem dX2_count_36 : decode cX2_count 36 = .ok (.aload_n 0, 1) := by decide +kernel
theorem dX2_count_37 : decode cX2_count 37 = .ok (.getfield 10, 3) := by decide +kernel
theorem dX2_count_40 : decode cX2_count 40 = .ok (.getfield 182, 3) := by decide +kernel
theorem dX2_count_43 : decode cX2_count 43 = .ok (.ireturn, 1) := by decide +kernel
theorem dX2_count_44 : decode cX2_count 44 = .ok (.aload_n 0, 1) := by decide +kernel
theorem dX2_count_45 : decode cX2_count 45 = .ok (.getfield 10, 3) := by decide +kernel
theorem dX2_count_48 : decode cX2_count 48 = .ok (.getfield 185, 3) := by decide +kernel
theorem dX2_count_51 : decode cX2_count 51 = .ok (.ireturn, 1) := by decide +kernel
theorem dX2_count_52 : decode cX2_count 52 = .ok (.aload_n 0, 1) := by decide +kernel
theorem dX2_count_53 : decode cX2_count 53 = .ok (.getfield 10, 3) := by decide +kernel
theorem dX2_count_56 : decode cX2_count 56 = .ok (.invokevirtual 188, 3) := by decide +kernel
theorem dX2_count_59 : decode cX2_count 59 = .ok (.ireturn, 1) := by decide +kernel
theorem dX2_count_60 : decode cX2_count 60 = .ok (.aload_n 0, 1) := by decide +kernel
theorem dX2_count_61 : decode cX2_count 61 = .ok (.getfield 10, 3) := by decide +kernel
theorem dX2_count_64 : decode cX2_count 64 = .ok (.getfield 191, 3) := by decide +kernel
theorem dX2_count_67 : decode cX2_count 67 = .ok (.ireturn, 1) := by decide +kernel
theorem dX2_count_68 : decode cX2_count 68 = .ok (.aload_n 0, 1) := by decide +kernel
theorem dX2_count_69 : decode cX2_count 69 = .ok (.getfield 30, 3) := by decide +kernel
theorem dX2_count_72 : decode cX2_count 72 = .ok (.ireturn, 1) := by decide +kernel
abbrev zX2_count : List Cond := .code yX2_count cX2_count 2 (some .int) :: BIG
def fX2_count (bo : BoT) (now : ShT) (w : Int32) : Option (Nat ⊕ (Int32)) := tb (fX2_needRange w 0 4) (fun r1 => (if w = 0 then some (.inr now.2.2.2.2.2.2.2.1) else (if w = 1 then some (.inr now.2.2.2.2.2.2.2.2.1) else (if w = 2 then (fX1_bounceColumns now).bind (fun r5 => some (.inr r5)) else (if w = 3 then some (.inr now.2.2.2.2.2.2.2.2.2) else some (.inr bo.1))))))
set_option maxHeartbeats 4000000 in
set_option maxRecDepth 100000 in
theorem mtX2_count (l : Launch) (D : va_G) (t : Nat → ClassId) (bh : Nat) (bk : Nat → Nat) (bo : BoT) (nb : Nat → Nat) (now : ShT) (w : Int32) (out : Int32) (h : fX2_count bo now w = some (.inr out))  (sz : Nat) : Met l yX2_count zX2_count ({ frames := 2, cells := 0, slots := 0, locals := 42 }) (sPc D t (gBo bh bk bo ++ (gS t (bk 0) nb now)) sz [.ref bh, .int w]) (qI D t (gBo bh bk bo ++ (gS t (bk 0) nb now)) out (va_A (gBo bh bk bo ++ (gS t (bk 0) nb now)) sz)) 0 0 (va_A (gBo bh bk bo ++ (gS t (bk 0) nb now)) sz) := by
  refine met_of (Qf := fun A => qI D t (gBo bh bk bo ++ (gS t (bk 0) nb now)) out A) (cc := cX2_count) (maxL := 2) (ret := some .int) (by decide) rfl (Nat.le_of_ble_eq_true rfl) ?_
  intro p e s m args below meth c A hx hb hr hml hts hown hlocks hA hP hK hD hE hS ls hl
  have htB : ∀ w ∈ BIG, w.before args s = true := fun w h => hts w (List.mem_cons_of_mem _ h)
  have hown : s.vm.findClass RX2 = some m.cls := hown
  have hl : lv_has ls 2 [(0, .ref bh), (1, .int w)] := hl
  unfold fX2_count at h
  refine lv_iload_n hx hb dX2_count_0 rfl (lv_at hl 1 rfl) ?_
  refine lv_iconst (v := 0) hx hb dX2_count_1 (by decide) ?_
  refine lv_iconst (v := 4) hx hb dX2_count_2 (by decide) ?_
  obtain ⟨r1, h1, h⟩ := tb_r h
  refine call_v (wc := ([] : va_W)) (wc' := ([] : va_W)) (ws' := (gBo bh bk bo ++ (gS t (bk 0) nb now))) (cutB (bs := [gBo bh bk bo, gS t (bk 0) nb now]) (cs := []) (cs' := []) (bs' := [gBo bh bk bo, gS t (bk 0) nb now]) [] hP hD hS hA rfl rfl rfl rfl) hS (fun hPc hDc => va_runS (As := [.int w, .int 0, .int 4]) (rest := []) ⟨hx, hb, hml, hown, hts⟩ (mtX2_needRange l D t w 0 4 r1 h1 _) (va_cwS 3 hts (gBS kw52 kw53 kw2 kw54) rfl rfl rfl (by decide +kernel) ⟨Nat.le_of_ble_eq_true rfl, Nat.le_of_ble_eq_true rfl⟩) (sPc_S hPc hK hDc hE) rfl rfl hl.1 rfl (lv_room (Nat.le_of_ble_eq_true rfl)) dX2_count_3 ⟨Nat.zero_le _, Nat.zero_le _⟩) (fun H locs hP hD hS => ?_)
  refine lv_iload_n hx hb dX2_count_6 rfl (lv_at hl 1 rfl) ?_
  by_cases c2 : w = 0
  · have h := it_p c2 h
    refine lv_tableIn (off := 29) (tgt := 36) hx hb dX2_count_7 (by rw [c2]; decide) (by rw [c2]; decide) (by rw [c2]; rfl) (by decide) ?_
    refine lv_aload_n hx hb dX2_count_36 rfl (lv_at hl 0 rfl) ?_
    refine va_get (D := D) (ci := 2) (v := .ref (bk 0)) (C := RX2) (T := TX2) (N := 8) hx hb htB inlX2 hown hK hP 0 rfl rfl 0 (by decide) (htB _ kw12) (fun _ h9 => h9) rfl dX2_count_37 ?_
    refine va_get (D := D) (ci := 1) (v := .int now.2.2.2.2.2.2.2.1) (C := RX1) (T := TX1) (N := 10) hx hb htB inlX1 hown hK hP 1 rfl rfl 7 (by decide) (htB _ kw49) (fun _ h9 => h9) rfl dX2_count_40 ?_
    obtain rfl := oi h
    exact ret_i hx hb hr hlocks hP hK hD hS dX2_count_43
  · have h := it_n c2 h
    by_cases c3 : w = 1
    · have h := it_p c3 h
      refine lv_tableIn (off := 37) (tgt := 44) hx hb dX2_count_7 (by rw [c3]; decide) (by rw [c3]; decide) (by rw [c3]; rfl) (by decide) ?_
      refine lv_aload_n hx hb dX2_count_44 rfl (lv_at hl 0 rfl) ?_
      refine va_get (D := D) (ci := 2) (v := .ref (bk 0)) (C := RX2) (T := TX2) (N := 8) hx hb htB inlX2 hown hK hP 0 rfl rfl 0 (by decide) (htB _ kw12) (fun _ h9 => h9) rfl dX2_count_45 ?_
      refine va_get (D := D) (ci := 1) (v := .int now.2.2.2.2.2.2.2.2.1) (C := RX1) (T := TX1) (N := 10) hx hb htB inlX1 hown hK hP 1 rfl rfl 8 (by decide) (htB _ kw50) (fun _ h9 => h9) rfl dX2_count_48 ?_
      obtain rfl := oi h
      exact ret_i hx hb hr hlocks hP hK hD hS dX2_count_51
    · have h := it_n c3 h
      by_cases c4 : w = 2
      · have h := it_p c4 h
        refine lv_tableIn (off := 45) (tgt := 52) hx hb dX2_count_7 (by rw [c4]; decide) (by rw [c4]; decide) (by rw [c4]; rfl) (by decide) ?_
        refine lv_aload_n hx hb dX2_count_52 rfl (lv_at hl 0 rfl) ?_
        refine va_get (D := D) (ci := 2) (v := .ref (bk 0)) (C := RX2) (T := TX2) (N := 8) hx hb htB inlX2 hown hK hP 0 rfl rfl 0 (by decide) (htB _ kw12) (fun _ h9 => h9) rfl dX2_count_53 ?_
        obtain ⟨r5, h5, h⟩ := ob h
        refine call_i (v := r5) (wc := (gS t (bk 0) nb now)) (wc' := (gS t (bk 0) nb now)) (ws' := (gBo bh bk bo ++ (gS t (bk 0) nb now))) (cutB (bs := [gBo bh bk bo, gS t (bk 0) nb now]) (cs := [gS t (bk 0) nb now]) (cs' := [gS t (bk 0) nb now]) (bs' := [gBo bh bk bo, gS t (bk 0) nb now]) [1] hP hD hS hA rfl rfl rfl rfl) hS (fun hPc hDc => va_runV (As := []) (rest := []) ⟨hx, hb, hml, hown, hts⟩ (mtX1_bounceColumns l D t (bk 0) nb now r5 h5 _) (cwV 0 hts (gBV kw57 kw58 kw59 kw11 kw60) rfl rfl rfl (by decide +kernel) ⟨Nat.le_of_ble_eq_true rfl, Nat.le_of_ble_eq_true rfl⟩) (sPc_V hPc hK hDc hE (va_recv hK hP (ci := 1) (q0 := 1) rfl rfl)) rfl rfl hl.1 rfl (lv_room (Nat.le_of_ble_eq_true rfl)) dX2_count_56 ⟨Nat.zero_le _, Nat.zero_le _⟩) (fun H locs hP hD hS => ?_)
        obtain rfl := oi h
        exact ret_i hx hb hr hlocks hP hK hD hS dX2_count_59
      · have h := it_n c4 h
        by_cases c6 : w = 3
        · have h := it_p c6 h
          refine lv_tableIn (off := 53) (tgt := 60) hx hb dX2_count_7 (by rw [c6]; decide) (by rw [c6]; decide) (by rw [c6]; rfl) (by decide) ?_
          refine lv_aload_n hx hb dX2_count_60 rfl (lv_at hl 0 rfl) ?_
          refine va_get (D := D) (ci := 2) (v := .ref (bk 0)) (C := RX2) (T := TX2) (N := 8) hx hb htB inlX2 hown hK hP 0 rfl rfl 0 (by decide) (htB _ kw12) (fun _ h9 => h9) rfl dX2_count_61 ?_
          refine va_get (D := D) (ci := 1) (v := .int now.2.2.2.2.2.2.2.2.2) (C := RX1) (T := TX1) (N := 10) hx hb htB inlX1 hown hK hP 1 rfl rfl 9 (by decide) (htB _ kw51) (fun _ h9 => h9) rfl dX2_count_64 ?_
          obtain rfl := oi h
          exact ret_i hx hb hr hlocks hP hK hD hS dX2_count_67
        · have h := it_n c6 h
          refine lv_tableOut (tgt := 68) hx hb dX2_count_7 (tab_0_3 c2 c3 c4 c6) (by decide) ?_
          refine lv_aload_n hx hb dX2_count_68 rfl (lv_at hl 0 rfl) ?_
          refine va_get (D := D) (ci := 2) (v := .int bo.1) (C := RX2) (T := TX2) (N := 8) hx hb htB inlX2 hown hK hP 0 rfl rfl 4 (by decide) (htB _ kw19) (fun _ h9 => h9) rfl dX2_count_69 ?_
          obtain rfl := oi h
          exact ret_i hx hb hr hlocks hP hK hD hS dX2_count_72

theorem dX2_setting_0 : decode cX2_setting 0 = .ok (.iload_n 1, 1) := by decide +kernel
theorem dX2_setting_1 : decode cX2_setting 1 = .ok (.invokestatic 79, 3) := by decide +kernel
theorem dX2_setting_4 : decode cX2_setting 4 = .ok (.aload_n 0, 1) := by decide +kernel
theorem dX2_setting_5 : decode cX2_setting 5 = .ok (.getfield 10, 3) := by decide +kernel
theorem dX2_setting_8 : decode cX2_setting 8 = .ok (.getfield 89, 3) := by decide +kernel
theorem dX2_setting_11 : decode cX2_setting 11 = .ok (.iload_n 1, 1) := by decide +kernel
theorem dX2_setting_12 : decode cX2_setting 12 = .ok (.invokestatic 58, 3) := by decide +kernel
theorem dX2_setting_15 : decode cX2_setting 15 = .ok (.ireturn, 1) := by decide +kernel
abbrev zX2_setting : List Cond := .code yX2_setting cX2_setting 2 (some .int) :: BIG
def fX2_setting (bo : BoT) (now : ShT) (w : Int32) : Option (Nat ⊕ (Int32)) := tb (fX2_needSetting w) (fun r1 => (fX2_at 4 now.2.2.2.2.2.1 w).bind (fun r2 => some (.inr r2)))
set_option maxHeartbeats 4000000 in
set_option maxRecDepth 100000 in
theorem mtX2_setting (l : Launch) (D : va_G) (t : Nat → ClassId) (bh : Nat) (bk : Nat → Nat) (bo : BoT) (nb : Nat → Nat) (now : ShT) (w : Int32) (out : Int32) (h : fX2_setting bo now w = some (.inr out))  (sz : Nat) : Met l yX2_setting zX2_setting ({ frames := 2, cells := 0, slots := 0, locals := 41 }) (sPc D t (gBo bh bk bo ++ (gS t (bk 0) nb now)) sz [.ref bh, .int w]) (qI D t (gBo bh bk bo ++ (gS t (bk 0) nb now)) out (va_A (gBo bh bk bo ++ (gS t (bk 0) nb now)) sz)) 0 0 (va_A (gBo bh bk bo ++ (gS t (bk 0) nb now)) sz) := by
  refine met_of (Qf := fun A => qI D t (gBo bh bk bo ++ (gS t (bk 0) nb now)) out A) (cc := cX2_setting) (maxL := 2) (ret := some .int) (by decide) rfl (Nat.le_of_ble_eq_true rfl) ?_
  intro p e s m args below meth c A hx hb hr hml hts hown hlocks hA hP hK hD hE hS ls hl
  have htB : ∀ w ∈ BIG, w.before args s = true := fun w h => hts w (List.mem_cons_of_mem _ h)
  have hown : s.vm.findClass RX2 = some m.cls := hown
  have hl : lv_has ls 2 [(0, .ref bh), (1, .int w)] := hl
  unfold fX2_setting at h
  refine lv_iload_n hx hb dX2_setting_0 rfl (lv_at hl 1 rfl) ?_
  obtain ⟨r1, h1, h⟩ := tb_r h
  refine call_v (wc := ([] : va_W)) (wc' := ([] : va_W)) (ws' := (gBo bh bk bo ++ (gS t (bk 0) nb now))) (cutB (bs := [gBo bh bk bo, gS t (bk 0) nb now]) (cs := []) (cs' := []) (bs' := [gBo bh bk bo, gS t (bk 0) nb now]) [] hP hD hS hA rfl rfl rfl rfl) hS (fun hPc hDc => va_runS (As := [.int w]) (rest := []) ⟨hx, hb, hml, hown, hts⟩ (mtX2_needSetting l D t w r1 h1 _) (va_cwS 1 hts (gBS kw229 kw230 kw2 kw231) rfl rfl rfl (by decide +kernel) ⟨Nat.le_of_ble_eq_true rfl, Nat.le_of_ble_eq_true rfl⟩) (sPc_S hPc hK hDc hE) rfl rfl hl.1 rfl (lv_room (Nat.le_of_ble_eq_true rfl)) dX2_setting_1 ⟨Nat.zero_le _, Nat.zero_le _⟩) (fun H locs hP hD hS => ?_)
  refine lv_aload_n hx hb dX2_setting_4 rfl (lv_at hl 0 rfl) ?_
  refine va_get (D := D) (ci := 2) (v := .ref (bk 0)) (C := RX2) (T := TX2) (N := 8) hx hb htB inlX2 hown hK hP 0 rfl rfl 0 (by decide) (htB _ kw12) (fun _ h9 => h9) rfl dX2_setting_5 ?_
  refine va_get (D := D) (ci := 1) (v := .ref (nb 5)) (C := RX1) (T := TX1) (N := 10) hx hb htB inlX1 hown hK hP 1 rfl rfl 5 (by decide) (htB _ kw228) (fun _ h9 => h9) rfl dX2_setting_8 ?_
  refine lv_iload_n hx hb dX2_setting_11 rfl (lv_at hl 1 rfl) ?_
  obtain ⟨r2, h2, h⟩ := ob h
  refine call_i (v := r2) (wc := (gA t (nb 5) 4 now.2.2.2.2.2.1)) (wc' := (gA t (nb 5) 4 now.2.2.2.2.2.1)) (ws' := (gBo bh bk bo ++ (gS t (bk 0) nb now))) (cutI (wc := (gA t (nb 5) 4 now.2.2.2.2.2.1)) (wc' := (gA t (nb 5) 4 now.2.2.2.2.2.1)) (ws' := (gBo bh bk bo ++ (gS t (bk 0) nb now))) [7] hP hD hS hA rfl rfl rfl rfl) hS (fun hPc hDc => va_runS (As := [.ref (nb 5), .int w]) (rest := []) ⟨hx, hb, hml, hown, hts⟩ (mtX2_at l D t (nb 5) 4 now.2.2.2.2.2.1 w r2 h2 (by decide) _) (va_cwS 2 hts (gBS kw157 kw65 kw2 kw66) rfl rfl rfl (by decide +kernel) ⟨Nat.le_of_ble_eq_true rfl, Nat.le_of_ble_eq_true rfl⟩) (sPc_S hPc hK hDc hE) rfl rfl hl.1 rfl (lv_room (Nat.le_of_ble_eq_true rfl)) dX2_setting_12 ⟨Nat.zero_le _, Nat.zero_le _⟩) (fun H locs hP hD hS => ?_)
  obtain rfl := oi h
  exact ret_i hx hb hr hlocks hP hK hD hS dX2_setting_15

theorem dX2_ifShot_0 : decode cX2_ifShot 0 = .ok (.iload_n 1, 1) := by decide +kernel
theorem dX2_ifShot_1 : decode cX2_ifShot 1 = .ok (.invokestatic 73, 3) := by decide +kernel
theorem dX2_ifShot_4 : decode cX2_ifShot 4 = .ok (.iload_n 2, 1) := by decide +kernel
theorem dX2_ifShot_5 : decode cX2_ifShot 5 = .ok (.iconst 1, 1) := by decide +kernel
theorem dX2_ifShot_6 : decode cX2_ifShot 6 = .ok (.bipush 50, 2) := by decide +kernel
theorem dX2_ifShot_8 : decode cX2_ifShot 8 = .ok (.invokestatic 48, 3) := by decide +kernel
theorem dX2_ifShot_11 : decode cX2_ifShot 11 = .ok (.iload_n 3, 1) := by decide +kernel
theorem dX2_ifShot_12 : decode cX2_ifShot 12 = .ok (.iconst 0, 1) := by decide +kernel
theorem dX2_ifShot_13 : decode cX2_ifShot 13 = .ok (.iconst 2, 1) := by decide +kernel
theorem dX2_ifShot_14 : decode cX2_ifShot 14 = .ok (.invokestatic 48, 3) := by decide +kernel
theorem dX2_ifShot_17 : decode cX2_ifShot 17 = .ok (.aload_n 0, 1) := by decide +kernel
theorem dX2_ifShot_18 : decode cX2_ifShot 18 = .ok (.getfield 16, 3) := by decide +kernel
theorem dX2_ifShot_21 : decode cX2_ifShot 21 = .ok (.aload_n 0, 1) := by decide +kernel
theorem dX2_ifShot_22 : decode cX2_ifShot 22 = .ok (.getfield 10, 3) := by decide +kernel
theorem dX2_ifShot_25 : decode cX2_ifShot 25 = .ok (.invokevirtual 129, 3) := by decide +kernel
theorem dX2_ifShot_28 : decode cX2_ifShot 28 = .ok (.aload_n 0, 1) := by decide +kernel
theorem dX2_ifShot_29 : decode cX2_ifShot 29 = .ok (.aload_n 0, 1) := by decide +kernel
theorem dX2_ifShot_30 : decode cX2_ifShot 30 = .ok (.getfield 16, 3) := by decide +kernel
theorem dX2_ifShot_33 : decode cX2_ifShot 33 = .ok (.iload_n 1, 1) := by decide +kernel
theorem dX2_ifShot_34 : decode cX2_ifShot 34 = .ok (.iload_n 2, 1) := by decide +kernel
theorem dX2_ifShot_35 : decode cX2_ifShot 35 = .ok (.invokevirtual 92, 3) := by decide +kernel
theorem dX2_ifShot_38 : decode cX2_ifShot 38 = .ok (.iload_n 3, 1) := by decide +kernel
theorem dX2_ifShot_39 : decode cX2_ifShot 39 = .ok (.lookupswitch 45 #[(0, 25), (1, 33)], 25) := by decide +kernel
theorem dX2_ifShot_64 : decode cX2_ifShot 64 = .ok (.aload_n 0, 1) := by decide +kernel
theorem dX2_ifShot_65 : decode cX2_ifShot 65 = .ok (.getfield 22, 3) := by decide +kernel
theorem dX2_ifShot_68 : decode cX2_ifShot 68 = .ok (.invokevirtual 96, 3) := by decide +kernel
theorem dX2_ifShot_71 : decode cX2_ifShot 71 = .ok (.ireturn, 1) := by decide +kernel
theorem dX2_ifShot_72 : decode cX2_ifShot 72 = .ok (.aload_n 0, 1) := by decide +kernel
theorem dX2_ifShot_73 : decode cX2_ifShot 73 = .ok (.getfield 16, 3) := by decide +kernel
theorem dX2_ifShot_76 : decode cX2_ifShot 76 = .ok (.getfield 55, 3) := by decide +kernel
theorem dX2_ifShot_79 : decode cX2_ifShot 79 = .ok (.iconst 0, 1) := by decide +kernel
theorem dX2_ifShot_80 : decode cX2_ifShot 80 = .ok (.invokestatic 58, 3) := by decide +kernel
theorem dX2_ifShot_83 : decode cX2_ifShot 83 = .ok (.ireturn, 1) := by decide +kernel
theorem dX2_ifShot_84 : decode cX2_ifShot 84 = .ok (.aload_n 0, 1) := by decide +kernel
theorem dX2_ifShot_85 : decode cX2_ifShot 85 = .ok (.getfield 22, 3) := by decide +kernel
theorem dX2_ifShot_88 : decode cX2_ifShot 88 = .ok (.getfield 170, 3) := by decide +kernel
theorem dX2_ifShot_91 : decode cX2_ifShot 91 = .ok (.ireturn, 1) := by decide +kernel
abbrev zX2_ifShot : List Cond := .code yX2_ifShot cX2_ifShot 4 (some .int) :: BIG
def fX2_ifShot (bo : BoT) (now : ShT) (pr : ShT) (ex : ExT) (v : Int32) (n : Int32) (w : Int32) : Option (Nat ⊕ (Int32 × ShT × ExT)) := tb (fX2_needSpeed v) (fun r1 => tb (fX2_needRange n 1 50) (fun r2 => tb (fX2_needRange w 0 2) (fun r3 => (fX1_become pr now).bind (fun r4 => (fX2_fire bo ex r4 v n).bind (fun r5 => (if w = 0 then (fX0_spread r5.1).bind (fun r7 => some (.inr (r7, r5.2, r5.1))) else (if w = 1 then (fX2_at 2 r5.2.1 0).bind (fun r9 => some (.inr (r9, r5.2, r5.1))) else some (.inr (r5.1.2.2.2.2.2.2.2.1, r5.2, r5.1)))))))))
set_option maxHeartbeats 4000000 in
set_option maxRecDepth 100000 in
theorem mtX2_ifShot (l : Launch) (D : va_G) (t : Nat → ClassId) (bh : Nat) (bk : Nat → Nat) (bo : BoT) (nb : Nat → Nat) (now : ShT) (pb : Nat → Nat) (pr : ShT) (eb : Nat → Nat) (ex : ExT) (v : Int32) (n : Int32) (w : Int32) (out : Int32 × ShT × ExT) (h : fX2_ifShot bo now pr ex v n w = some (.inr out))  (sz : Nat) : Met l yX2_ifShot zX2_ifShot ({ frames := 5, cells := 0, slots := 0, locals := 117 }) (sPc D t (gBo bh bk bo ++ (gS t (bk 0) nb now ++ (gS t (bk 1) pb pr ++ (gE t (bk 2) eb ex)))) sz [.ref bh, .int v, .int n, .int w]) (qI D t (gBo bh bk bo ++ (gS t (bk 0) nb now ++ (gS t (bk 1) pb out.2.1 ++ (gE t (bk 2) eb out.2.2)))) out.1 (va_A (gBo bh bk bo ++ (gS t (bk 0) nb now ++ (gS t (bk 1) pb pr ++ (gE t (bk 2) eb ex)))) sz)) 0 0 (va_A (gBo bh bk bo ++ (gS t (bk 0) nb now ++ (gS t (bk 1) pb pr ++ (gE t (bk 2) eb ex)))) sz) := by
  refine met_of (Qf := fun A => qI D t (gBo bh bk bo ++ (gS t (bk 0) nb now ++ (gS t (bk 1) pb out.2.1 ++ (gE t (bk 2) eb out.2.2)))) out.1 A) (cc := cX2_ifShot) (maxL := 4) (ret := some .int) (by decide) rfl (Nat.le_of_ble_eq_true rfl) ?_
  intro p e s m args below meth c A hx hb hr hml hts hown hlocks hA hP hK hD hE hS ls hl
  have htB : ∀ w ∈ BIG, w.before args s = true := fun w h => hts w (List.mem_cons_of_mem _ h)
  have hown : s.vm.findClass RX2 = some m.cls := hown
  have hl : lv_has ls 4 [(0, .ref bh), (1, .int v), (2, .int n), (3, .int w)] := hl
  unfold fX2_ifShot at h
  refine lv_iload_n hx hb dX2_ifShot_0 rfl (lv_at hl 1 rfl) ?_
  obtain ⟨r1, h1, h⟩ := tb_r h
  refine call_v (wc := ([] : va_W)) (wc' := ([] : va_W)) (ws' := (gBo bh bk bo ++ (gS t (bk 0) nb now ++ (gS t (bk 1) pb pr ++ (gE t (bk 2) eb ex))))) (cutB (bs := [gBo bh bk bo, gS t (bk 0) nb now, gS t (bk 1) pb pr, gE t (bk 2) eb ex]) (cs := []) (cs' := []) (bs' := [gBo bh bk bo, gS t (bk 0) nb now, gS t (bk 1) pb pr, gE t (bk 2) eb ex]) [] hP hD hS hA rfl rfl rfl rfl) hS (fun hPc hDc => va_runS (As := [.int v]) (rest := []) ⟨hx, hb, hml, hown, hts⟩ (mtX2_needSpeed l D t v r1 h1 _) (va_cwS 1 hts (gBS kw82 kw83 kw2 kw84) rfl rfl rfl (by decide +kernel) ⟨Nat.le_of_ble_eq_true rfl, Nat.le_of_ble_eq_true rfl⟩) (sPc_S hPc hK hDc hE) rfl rfl hl.1 rfl (lv_room (Nat.le_of_ble_eq_true rfl)) dX2_ifShot_1 ⟨Nat.zero_le _, Nat.zero_le _⟩) (fun H locs hP hD hS => ?_)
  refine lv_iload_n hx hb dX2_ifShot_4 rfl (lv_at hl 2 rfl) ?_
  refine lv_iconst (v := 1) hx hb dX2_ifShot_5 (by decide) ?_
  refine lv_bipush (v := 50) hx hb dX2_ifShot_6 (by decide) ?_
  obtain ⟨r2, h2, h⟩ := tb_r h
  refine call_v (wc := ([] : va_W)) (wc' := ([] : va_W)) (ws' := (gBo bh bk bo ++ (gS t (bk 0) nb now ++ (gS t (bk 1) pb pr ++ (gE t (bk 2) eb ex))))) (cutB (bs := [gBo bh bk bo, gS t (bk 0) nb now, gS t (bk 1) pb pr, gE t (bk 2) eb ex]) (cs := []) (cs' := []) (bs' := [gBo bh bk bo, gS t (bk 0) nb now, gS t (bk 1) pb pr, gE t (bk 2) eb ex]) [] hP hD hS hA rfl rfl rfl rfl) hS (fun hPc hDc => va_runS (As := [.int n, .int 1, .int 50]) (rest := []) ⟨hx, hb, hml, hown, hts⟩ (mtX2_needRange l D t n 1 50 r2 h2 _) (va_cwS 3 hts (gBS kw52 kw53 kw2 kw54) rfl rfl rfl (by decide +kernel) ⟨Nat.le_of_ble_eq_true rfl, Nat.le_of_ble_eq_true rfl⟩) (sPc_S hPc hK hDc hE) rfl rfl hl.1 rfl (lv_room (Nat.le_of_ble_eq_true rfl)) dX2_ifShot_8 ⟨Nat.zero_le _, Nat.zero_le _⟩) (fun H locs hP hD hS => ?_)
  refine lv_iload_n hx hb dX2_ifShot_11 rfl (lv_at hl 3 rfl) ?_
  refine lv_iconst (v := 0) hx hb dX2_ifShot_12 (by decide) ?_
  refine lv_iconst (v := 2) hx hb dX2_ifShot_13 (by decide) ?_
  obtain ⟨r3, h3, h⟩ := tb_r h
  refine call_v (wc := ([] : va_W)) (wc' := ([] : va_W)) (ws' := (gBo bh bk bo ++ (gS t (bk 0) nb now ++ (gS t (bk 1) pb pr ++ (gE t (bk 2) eb ex))))) (cutB (bs := [gBo bh bk bo, gS t (bk 0) nb now, gS t (bk 1) pb pr, gE t (bk 2) eb ex]) (cs := []) (cs' := []) (bs' := [gBo bh bk bo, gS t (bk 0) nb now, gS t (bk 1) pb pr, gE t (bk 2) eb ex]) [] hP hD hS hA rfl rfl rfl rfl) hS (fun hPc hDc => va_runS (As := [.int w, .int 0, .int 2]) (rest := []) ⟨hx, hb, hml, hown, hts⟩ (mtX2_needRange l D t w 0 2 r3 h3 _) (va_cwS 3 hts (gBS kw52 kw53 kw2 kw54) rfl rfl rfl (by decide +kernel) ⟨Nat.le_of_ble_eq_true rfl, Nat.le_of_ble_eq_true rfl⟩) (sPc_S hPc hK hDc hE) rfl rfl hl.1 rfl (lv_room (Nat.le_of_ble_eq_true rfl)) dX2_ifShot_14 ⟨Nat.zero_le _, Nat.zero_le _⟩) (fun H locs hP hD hS => ?_)
  refine lv_aload_n hx hb dX2_ifShot_17 rfl (lv_at hl 0 rfl) ?_
  refine va_get (D := D) (ci := 2) (v := .ref (bk 1)) (C := RX2) (T := TX2) (N := 8) hx hb htB inlX2 hown hK hP 0 rfl rfl 1 (by decide) (htB _ kw13) (fun _ h9 => h9) rfl dX2_ifShot_18 ?_
  refine lv_aload_n hx hb dX2_ifShot_21 rfl (lv_at hl 0 rfl) ?_
  refine va_get (D := D) (ci := 2) (v := .ref (bk 0)) (C := RX2) (T := TX2) (N := 8) hx hb htB inlX2 hown hK hP 0 rfl rfl 0 (by decide) (htB _ kw12) (fun _ h9 => h9) rfl dX2_ifShot_22 ?_
  obtain ⟨r4, h4, h⟩ := ob h
  refine call_v (wc := (gS t (bk 1) pb pr ++ (gS t (bk 0) nb now))) (wc' := (gS t (bk 1) pb r4 ++ (gS t (bk 0) nb now))) (ws' := (gBo bh bk bo ++ (gS t (bk 0) nb now ++ (gS t (bk 1) pb r4 ++ (gE t (bk 2) eb ex))))) (cutB (bs := [gBo bh bk bo, gS t (bk 0) nb now, gS t (bk 1) pb pr, gE t (bk 2) eb ex]) (cs := [gS t (bk 1) pb pr, gS t (bk 0) nb now]) (cs' := [gS t (bk 1) pb r4, gS t (bk 0) nb now]) (bs' := [gBo bh bk bo, gS t (bk 0) nb now, gS t (bk 1) pb r4, gE t (bk 2) eb ex]) [2, 1] hP hD hS hA rfl rfl rfl rfl) hS (fun hPc hDc => va_runV (As := [.ref (bk 0)]) (rest := []) ⟨hx, hb, hml, hown, hts⟩ (mtX1_become l D t (bk 1) pb pr (bk 0) nb now r4 h4 _) (cwV 1 hts (gBV kw90 kw91 kw92 kw11 kw93) rfl rfl rfl (by decide +kernel) ⟨Nat.le_of_ble_eq_true rfl, Nat.le_of_ble_eq_true rfl⟩) (sPc_V hPc hK hDc hE (va_recv hK hP (ci := 1) (q0 := 9) rfl rfl)) rfl rfl hl.1 rfl (lv_room (Nat.le_of_ble_eq_true rfl)) dX2_ifShot_25 ⟨Nat.zero_le _, Nat.zero_le _⟩) (fun H locs hP hD hS => ?_)
  refine lv_aload_n hx hb dX2_ifShot_28 rfl (lv_at hl 0 rfl) ?_
  refine lv_aload_n hx hb dX2_ifShot_29 rfl (lv_at hl 0 rfl) ?_
  refine va_get (D := D) (ci := 2) (v := .ref (bk 1)) (C := RX2) (T := TX2) (N := 8) hx hb htB inlX2 hown hK hP 0 rfl rfl 1 (by decide) (htB _ kw13) (fun _ h9 => h9) rfl dX2_ifShot_30 ?_
  refine lv_iload_n hx hb dX2_ifShot_33 rfl (lv_at hl 1 rfl) ?_
  refine lv_iload_n hx hb dX2_ifShot_34 rfl (lv_at hl 2 rfl) ?_
  obtain ⟨r5, h5, h⟩ := ob h
  refine call_v (wc := (gBo bh bk bo ++ (gE t (bk 2) eb ex ++ (gS t (bk 1) pb r4)))) (wc' := (gBo bh bk bo ++ (gE t (bk 2) eb r5.1 ++ (gS t (bk 1) pb r5.2)))) (ws' := (gBo bh bk bo ++ (gS t (bk 0) nb now ++ (gS t (bk 1) pb r5.2 ++ (gE t (bk 2) eb r5.1))))) (cutB (bs := [gBo bh bk bo, gS t (bk 0) nb now, gS t (bk 1) pb r4, gE t (bk 2) eb ex]) (cs := [gBo bh bk bo, gE t (bk 2) eb ex, gS t (bk 1) pb r4]) (cs' := [gBo bh bk bo, gE t (bk 2) eb r5.1, gS t (bk 1) pb r5.2]) (bs' := [gBo bh bk bo, gS t (bk 0) nb now, gS t (bk 1) pb r5.2, gE t (bk 2) eb r5.1]) [0, 3, 2] hP hD hS hA rfl rfl rfl rfl) hS (fun hPc hDc => va_runV (As := [.ref (bk 1), .int v, .int n]) (rest := []) ⟨hx, hb, hml, hown, hts⟩ (mtX2_fire l D t bh bk bo eb ex (bk 1) pb r4 v n r5 h5 _) (cwV 3 hts (gBV kw96 kw97 kw98 kw2 kw99) rfl rfl rfl (by decide +kernel) ⟨Nat.le_of_ble_eq_true rfl, Nat.le_of_ble_eq_true rfl⟩) (sPc_V hPc hK hDc hE (va_recv hK hP (ci := 2) (q0 := 0) rfl rfl)) rfl rfl hl.1 rfl (lv_room (Nat.le_of_ble_eq_true rfl)) dX2_ifShot_35 ⟨Nat.zero_le _, Nat.zero_le _⟩) (fun H locs hP hD hS => ?_)
  refine lv_iload_n hx hb dX2_ifShot_38 rfl (lv_at hl 3 rfl) ?_
  by_cases c6 : w = 0
  · have h := it_p c6 h
    refine lv_lookup (off := 25) (tgt := 64) hx hb dX2_ifShot_39 (by decide) (by rw [c6]; decide) (by decide) ?_
    refine lv_aload_n hx hb dX2_ifShot_64 rfl (lv_at hl 0 rfl) ?_
    refine va_get (D := D) (ci := 2) (v := .ref (bk 2)) (C := RX2) (T := TX2) (N := 8) hx hb htB inlX2 hown hK hP 0 rfl rfl 2 (by decide) (htB _ kw17) (fun _ h9 => h9) rfl dX2_ifShot_65 ?_
    obtain ⟨r7, h7, h⟩ := ob h
    refine call_i (v := r7) (wc := (gE t (bk 2) eb r5.1)) (wc' := (gE t (bk 2) eb r5.1)) (ws' := (gBo bh bk bo ++ (gS t (bk 0) nb now ++ (gS t (bk 1) pb r5.2 ++ (gE t (bk 2) eb r5.1))))) (cutB (bs := [gBo bh bk bo, gS t (bk 0) nb now, gS t (bk 1) pb r5.2, gE t (bk 2) eb r5.1]) (cs := [gE t (bk 2) eb r5.1]) (cs' := [gE t (bk 2) eb r5.1]) (bs' := [gBo bh bk bo, gS t (bk 0) nb now, gS t (bk 1) pb r5.2, gE t (bk 2) eb r5.1]) [3] hP hD hS hA rfl rfl rfl rfl) hS (fun hPc hDc => va_runV (As := []) (rest := []) ⟨hx, hb, hml, hown, hts⟩ (mtX0_spread l D t (bk 2) eb r5.1 r7 h7 _) (cwV 0 hts (gBV kw156 kw153 kw154 kw16 kw155) rfl rfl rfl (by decide +kernel) ⟨Nat.le_of_ble_eq_true rfl, Nat.le_of_ble_eq_true rfl⟩) (sPc_V hPc hK hDc hE (va_recv hK hP (ci := 0) (q0 := 17) rfl rfl)) rfl rfl hl.1 rfl (lv_room (Nat.le_of_ble_eq_true rfl)) dX2_ifShot_68 ⟨Nat.zero_le _, Nat.zero_le _⟩) (fun H locs hP hD hS => ?_)
    obtain rfl := oi h
    exact ret_i hx hb hr hlocks hP hK hD hS dX2_ifShot_71
  · have h := it_n c6 h
    by_cases c8 : w = 1
    · have h := it_p c8 h
      refine lv_lookup (off := 33) (tgt := 72) hx hb dX2_ifShot_39 (by decide) (by rw [c8]; decide) (by decide) ?_
      refine lv_aload_n hx hb dX2_ifShot_72 rfl (lv_at hl 0 rfl) ?_
      refine va_get (D := D) (ci := 2) (v := .ref (bk 1)) (C := RX2) (T := TX2) (N := 8) hx hb htB inlX2 hown hK hP 0 rfl rfl 1 (by decide) (htB _ kw13) (fun _ h9 => h9) rfl dX2_ifShot_73 ?_
      refine va_get (D := D) (ci := 1) (v := .ref (pb 0)) (C := RX1) (T := TX1) (N := 10) hx hb htB inlX1 hown hK hP 9 rfl rfl 0 (by decide) (htB _ kw80) (fun _ h9 => h9) rfl dX2_ifShot_76 ?_
      refine lv_iconst (v := 0) hx hb dX2_ifShot_79 (by decide) ?_
      obtain ⟨r9, h9, h⟩ := ob h
      refine call_i (v := r9) (wc := (gA t (pb 0) 2 r5.2.1)) (wc' := (gA t (pb 0) 2 r5.2.1)) (ws' := (gBo bh bk bo ++ (gS t (bk 0) nb now ++ (gS t (bk 1) pb r5.2 ++ (gE t (bk 2) eb r5.1))))) (cutI (wc := (gA t (pb 0) 2 r5.2.1)) (wc' := (gA t (pb 0) 2 r5.2.1)) (ws' := (gBo bh bk bo ++ (gS t (bk 0) nb now ++ (gS t (bk 1) pb r5.2 ++ (gE t (bk 2) eb r5.1))))) [10] hP hD hS hA rfl rfl rfl rfl) hS (fun hPc hDc => va_runS (As := [.ref (pb 0), .int 0]) (rest := []) ⟨hx, hb, hml, hown, hts⟩ (mtX2_at l D t (pb 0) 2 r5.2.1 0 r9 h9 (by decide) _) (va_cwS 2 hts (gBS kw157 kw65 kw2 kw66) rfl rfl rfl (by decide +kernel) ⟨Nat.le_of_ble_eq_true rfl, Nat.le_of_ble_eq_true rfl⟩) (sPc_S hPc hK hDc hE) rfl rfl hl.1 rfl (lv_room (Nat.le_of_ble_eq_true rfl)) dX2_ifShot_80 ⟨Nat.zero_le _, Nat.zero_le _⟩) (fun H locs hP hD hS => ?_)
      obtain rfl := oi h
      exact ret_i hx hb hr hlocks hP hK hD hS dX2_ifShot_83
    · have h := it_n c8 h
      refine lv_lookup (off := 45) (tgt := 84) hx hb dX2_ifShot_39 (by decide) (lk_out2 (lk_ne (by decide) c6) (lk_ne (by decide) c8)) (by decide) ?_
      refine lv_aload_n hx hb dX2_ifShot_84 rfl (lv_at hl 0 rfl) ?_
      refine va_get (D := D) (ci := 2) (v := .ref (bk 2)) (C := RX2) (T := TX2) (N := 8) hx hb htB inlX2 hown hK hP 0 rfl rfl 2 (by decide) (htB _ kw17) (fun _ h9 => h9) rfl dX2_ifShot_85 ?_
      refine va_get (D := D) (ci := 0) (v := .int r5.1.2.2.2.2.2.2.2.1) (C := RX0) (T := TX0) (N := 10) hx hb htB inlX0 hown hK hP 17 rfl rfl 7 (by decide) (htB _ kw81) (fun _ h9 => h9) rfl dX2_ifShot_88 ?_
      obtain rfl := oi h
      exact ret_i hx hb hr hlocks hP hK hD hS dX2_ifShot_91

theorem dX2_goodFor_0 : decode cX2_goodFor 0 = .ok (.iload_n 1, 1) := by decide +kernel
theorem dX2_goodFor_1 : decode cX2_goodFor 1 = .ok (.invokestatic 73, 3) := by decide +kernel
theorem dX2_goodFor_4 : decode cX2_goodFor 4 = .ok (.iload_n 2, 1) := by decide +kernel
theorem dX2_goodFor_5 : decode cX2_goodFor 5 = .ok (.iconst 0, 1) := by decide +kernel
theorem dX2_goodFor_6 : decode cX2_goodFor 6 = .ok (.sipush 999, 3) := by decide +kernel
theorem dX2_goodFor_9 : decode cX2_goodFor 9 = .ok (.invokestatic 48, 3) := by decide +kernel
theorem dX2_goodFor_12 : decode cX2_goodFor 12 = .ok (.aload_n 0, 1) := by decide +kernel
theorem dX2_goodFor_13 : decode cX2_goodFor 13 = .ok (.getfield 16, 3) := by decide +kernel
theorem dX2_goodFor_16 : decode cX2_goodFor 16 = .ok (.aload_n 0, 1) := by decide +kernel
theorem dX2_goodFor_17 : decode cX2_goodFor 17 = .ok (.getfield 10, 3) := by decide +kernel
theorem dX2_goodFor_20 : decode cX2_goodFor 20 = .ok (.invokevirtual 129, 3) := by decide +kernel
theorem dX2_goodFor_23 : decode cX2_goodFor 23 = .ok (.iconst 0, 1) := by decide +kernel
theorem dX2_goodFor_24 : decode cX2_goodFor 24 = .ok (.istore_n 3, 1) := by decide +kernel
theorem dX2_goodFor_25 : decode cX2_goodFor 25 = .ok (.iload_n 3, 1) := by decide +kernel
theorem dX2_goodFor_26 : decode cX2_goodFor 26 = .ok (.sipush 200, 3) := by decide +kernel
theorem dX2_goodFor_29 : decode cX2_goodFor 29 = .ok (.if_icmp .ge 46, 3) := by decide +kernel
theorem dX2_goodFor_32 : decode cX2_goodFor 32 = .ok (.aload_n 0, 1) := by decide +kernel
theorem dX2_goodFor_33 : decode cX2_goodFor 33 = .ok (.getfield 22, 3) := by decide +kernel
theorem dX2_goodFor_36 : decode cX2_goodFor 36 = .ok (.aload_n 0, 1) := by decide +kernel
theorem dX2_goodFor_37 : decode cX2_goodFor 37 = .ok (.getfield 16, 3) := by decide +kernel
theorem dX2_goodFor_40 : decode cX2_goodFor 40 = .ok (.iload_n 1, 1) := by decide +kernel
theorem dX2_goodFor_41 : decode cX2_goodFor 41 = .ok (.invokevirtual 143, 3) := by decide +kernel
theorem dX2_goodFor_44 : decode cX2_goodFor 44 = .ok (.aload_n 0, 1) := by decide +kernel
theorem dX2_goodFor_45 : decode cX2_goodFor 45 = .ok (.getfield 22, 3) := by decide +kernel
theorem dX2_goodFor_48 : decode cX2_goodFor 48 = .ok (.getfield 170, 3) := by decide +kernel
theorem dX2_goodFor_51 : decode cX2_goodFor 51 = .ok (.iload_n 2, 1) := by decide +kernel
theorem dX2_goodFor_52 : decode cX2_goodFor 52 = .ok (.if_icmp .le 5, 3) := by decide +kernel
theorem dX2_goodFor_55 : decode cX2_goodFor 55 = .ok (.iload_n 3, 1) := by decide +kernel
theorem dX2_goodFor_56 : decode cX2_goodFor 56 = .ok (.ireturn, 1) := by decide +kernel
theorem dX2_goodFor_57 : decode cX2_goodFor 57 = .ok (.aload_n 0, 1) := by decide +kernel
theorem dX2_goodFor_58 : decode cX2_goodFor 58 = .ok (.getfield 16, 3) := by decide +kernel
theorem dX2_goodFor_61 : decode cX2_goodFor 61 = .ok (.iload_n 1, 1) := by decide +kernel
theorem dX2_goodFor_62 : decode cX2_goodFor 62 = .ok (.aload_n 0, 1) := by decide +kernel
theorem dX2_goodFor_63 : decode cX2_goodFor 63 = .ok (.getfield 22, 3) := by decide +kernel
theorem dX2_goodFor_66 : decode cX2_goodFor 66 = .ok (.invokevirtual 197, 3) := by decide +kernel
theorem dX2_goodFor_69 : decode cX2_goodFor 69 = .ok (.iinc 3 1, 3) := by decide +kernel
theorem dX2_goodFor_72 : decode cX2_goodFor 72 = .ok (.goto (-47), 3) := by decide +kernel
theorem dX2_goodFor_75 : decode cX2_goodFor 75 = .ok (.sipush 200, 3) := by decide +kernel
theorem dX2_goodFor_78 : decode cX2_goodFor 78 = .ok (.ireturn, 1) := by decide +kernel
abbrev zX2_goodFor : List Cond := .code yX2_goodFor cX2_goodFor 4 (some .int) :: BIG
def fX2_goodFor_l25 (bo : BoT) (now : ShT)  (K25 : (ShT × ExT × Int32 × Int32 × Int32) → Option (Nat ⊕ (Int32 × ShT × ExT))) (v25 : ShT × ExT × Int32 × Int32 × Int32) : Option (Nat ⊕ (Int32 × ShT × ExT)) := (if 200 ≤ v25.2.2.2.2 then some (.inr (200, v25.1, v25.2.1)) else (fX0_expose v25.2.1 v25.1 v25.2.2.1).bind (fun r5 => (if r5.2.2.2.2.2.2.2.1 ≤ v25.2.2.2.1 then (fX1_tally v25.1 r5 v25.2.2.1).bind (fun r7 => K25 (r7, r5, v25.2.2.1, v25.2.2.2.1, v25.2.2.2.2 + 1)) else some (.inr (v25.2.2.2.2, v25.1, r5)))))
def fX2_goodFor (bo : BoT) (now : ShT) (pr : ShT) (ex : ExT) (v : Int32) (n : Int32) : Option (Nat ⊕ (Int32 × ShT × ExT)) := tb (fX2_needSpeed v) (fun r1 => tb (fX2_needRange n 0 999) (fun r2 => (fX1_become pr now).bind (fun r3 => lp (fX2_goodFor_l25 bo now) 2000 (r3, ex, v, n, 0))))
set_option maxHeartbeats 4000000 in
set_option maxRecDepth 100000 in
theorem mtX2_goodFor (l : Launch) (D : va_G) (t : Nat → ClassId) (bh : Nat) (bk : Nat → Nat) (bo : BoT) (nb : Nat → Nat) (now : ShT) (pb : Nat → Nat) (pr : ShT) (eb : Nat → Nat) (ex : ExT) (v : Int32) (n : Int32) (out : Int32 × ShT × ExT) (h : fX2_goodFor bo now pr ex v n = some (.inr out))  (sz : Nat) : Met l yX2_goodFor zX2_goodFor ({ frames := 4, cells := 0, slots := 0, locals := 93 }) (sPc D t (gBo bh bk bo ++ (gS t (bk 0) nb now ++ (gS t (bk 1) pb pr ++ (gE t (bk 2) eb ex)))) sz [.ref bh, .int v, .int n]) (qI D t (gBo bh bk bo ++ (gS t (bk 0) nb now ++ (gS t (bk 1) pb out.2.1 ++ (gE t (bk 2) eb out.2.2)))) out.1 (va_A (gBo bh bk bo ++ (gS t (bk 0) nb now ++ (gS t (bk 1) pb pr ++ (gE t (bk 2) eb ex)))) sz)) 0 0 (va_A (gBo bh bk bo ++ (gS t (bk 0) nb now ++ (gS t (bk 1) pb pr ++ (gE t (bk 2) eb ex)))) sz) := by
  refine met_of (Qf := fun A => qI D t (gBo bh bk bo ++ (gS t (bk 0) nb now ++ (gS t (bk 1) pb out.2.1 ++ (gE t (bk 2) eb out.2.2)))) out.1 A) (cc := cX2_goodFor) (maxL := 4) (ret := some .int) (by decide) rfl (Nat.le_of_ble_eq_true rfl) ?_
  intro p e s m args below meth c A hx hb hr hml hts hown hlocks hA hP hK hD hE hS ls hl
  have htB : ∀ w ∈ BIG, w.before args s = true := fun w h => hts w (List.mem_cons_of_mem _ h)
  have hown : s.vm.findClass RX2 = some m.cls := hown
  have hl : lv_has ls 4 [(0, .ref bh), (1, .int v), (2, .int n)] := hl
  unfold fX2_goodFor at h
  have J25 : ∀ (fu25 : Nat) (v25 : ShT × ExT × Int32 × Int32 × Int32), lp (fX2_goodFor_l25 bo now) fu25 v25 = some (.inr out) → ∀ (H : Heap) (locs : List Loc), va_P D vwCl (gBo bh bk bo ++ (gS t (bk 0) nb now ++ (gS t (bk 1) pb v25.1 ++ (gE t (bk 2) eb v25.2.1)))) H → va_D A (gBo bh bk bo ++ (gS t (bk 0) nb now ++ (gS t (bk 1) pb v25.1 ++ (gE t (bk 2) eb v25.2.1)))) → va_S A s.heap H locs → ∀ ls : Array Slot, lv_has ls 4 [(0, .ref bh), (1, .int v25.2.2.1), (2, .int v25.2.2.2.1), (3, .int v25.2.2.2.2)] → W p l e ({ frames := 4, cells := 0, slots := 0, locals := 93 }) s m args below meth c H locs 0 0 (MQ below (qI D t (gBo bh bk bo ++ (gS t (bk 0) nb now ++ (gS t (bk 1) pb out.2.1 ++ (gE t (bk 2) eb out.2.2)))) out.1 A) args s 0 0 A) (F0 m 25 ls []) := by
    intro fu25
    induction fu25 with
    | zero => intro v25 h; cases h
    | succ fu25 ih25 =>
      intro v25 h H locs hP hD hS ls hl
      have h : fX2_goodFor_l25 bo now (lp (fX2_goodFor_l25 bo now) fu25) v25 = some (.inr out) := h
      unfold fX2_goodFor_l25 at h
      refine lv_iload_n hx hb dX2_goodFor_25 rfl (lv_at hl 3 rfl) ?_
      refine lv_sipush (v := 200) hx hb dX2_goodFor_26 (by decide) ?_
      refine lv_icmp_ge (tgt := 75) hx hb dX2_goodFor_29 (by decide) (fun c4 => ?_) (fun c4 => ?_)
      · have h := it_p c4 h
        refine lv_sipush (v := 200) hx hb dX2_goodFor_75 (by decide) ?_
        obtain rfl := oi h
        exact ret_i hx hb hr hlocks hP hK hD hS dX2_goodFor_78
      · have h := it_n c4 h
        refine lv_aload_n hx hb dX2_goodFor_32 rfl (lv_at hl 0 rfl) ?_
        refine va_get (D := D) (ci := 2) (v := .ref (bk 2)) (C := RX2) (T := TX2) (N := 8) hx hb htB inlX2 hown hK hP 0 rfl rfl 2 (by decide) (htB _ kw17) (fun _ h9 => h9) rfl dX2_goodFor_33 ?_
        refine lv_aload_n hx hb dX2_goodFor_36 rfl (lv_at hl 0 rfl) ?_
        refine va_get (D := D) (ci := 2) (v := .ref (bk 1)) (C := RX2) (T := TX2) (N := 8) hx hb htB inlX2 hown hK hP 0 rfl rfl 1 (by decide) (htB _ kw13) (fun _ h9 => h9) rfl dX2_goodFor_37 ?_
        refine lv_iload_n hx hb dX2_goodFor_40 rfl (lv_at hl 1 rfl) ?_
        obtain ⟨r5, h5, h⟩ := ob h
        refine call_v (wc := (gE t (bk 2) eb v25.2.1 ++ (gS t (bk 1) pb v25.1))) (wc' := (gE t (bk 2) eb r5 ++ (gS t (bk 1) pb v25.1))) (ws' := (gBo bh bk bo ++ (gS t (bk 0) nb now ++ (gS t (bk 1) pb v25.1 ++ (gE t (bk 2) eb r5))))) (cutB (bs := [gBo bh bk bo, gS t (bk 0) nb now, gS t (bk 1) pb v25.1, gE t (bk 2) eb v25.2.1]) (cs := [gE t (bk 2) eb v25.2.1, gS t (bk 1) pb v25.1]) (cs' := [gE t (bk 2) eb r5, gS t (bk 1) pb v25.1]) (bs' := [gBo bh bk bo, gS t (bk 0) nb now, gS t (bk 1) pb v25.1, gE t (bk 2) eb r5]) [3, 2] hP hD hS hA rfl rfl rfl rfl) hS (fun hPc hDc => va_runV (As := [.ref (bk 1), .int v25.2.2.1]) (rest := []) ⟨hx, hb, hml, hown, hts⟩ (mtX0_expose l D t (bk 2) eb v25.2.1 (bk 1) pb v25.1 v25.2.2.1 r5 h5 _) (cwV 2 hts (gBV kw100 kw101 kw102 kw16 kw103) rfl rfl rfl (by decide +kernel) ⟨Nat.le_of_ble_eq_true rfl, Nat.le_of_ble_eq_true rfl⟩) (sPc_V hPc hK hDc hE (va_recv hK hP (ci := 0) (q0 := 17) rfl rfl)) rfl rfl hl.1 rfl (lv_room (Nat.le_of_ble_eq_true rfl)) dX2_goodFor_41 ⟨Nat.zero_le _, Nat.zero_le _⟩) (fun H locs hP hD hS => ?_)
        refine lv_aload_n hx hb dX2_goodFor_44 rfl (lv_at hl 0 rfl) ?_
        refine va_get (D := D) (ci := 2) (v := .ref (bk 2)) (C := RX2) (T := TX2) (N := 8) hx hb htB inlX2 hown hK hP 0 rfl rfl 2 (by decide) (htB _ kw17) (fun _ h9 => h9) rfl dX2_goodFor_45 ?_
        refine va_get (D := D) (ci := 0) (v := .int r5.2.2.2.2.2.2.2.1) (C := RX0) (T := TX0) (N := 10) hx hb htB inlX0 hown hK hP 17 rfl rfl 7 (by decide) (htB _ kw81) (fun _ h9 => h9) rfl dX2_goodFor_48 ?_
        refine lv_iload_n hx hb dX2_goodFor_51 rfl (lv_at hl 2 rfl) ?_
        refine lv_icmp_le (tgt := 57) hx hb dX2_goodFor_52 (by decide) (fun c6 => ?_) (fun c6 => ?_)
        · have h := it_p c6 h
          refine lv_aload_n hx hb dX2_goodFor_57 rfl (lv_at hl 0 rfl) ?_
          refine va_get (D := D) (ci := 2) (v := .ref (bk 1)) (C := RX2) (T := TX2) (N := 8) hx hb htB inlX2 hown hK hP 0 rfl rfl 1 (by decide) (htB _ kw13) (fun _ h9 => h9) rfl dX2_goodFor_58 ?_
          refine lv_iload_n hx hb dX2_goodFor_61 rfl (lv_at hl 1 rfl) ?_
          refine lv_aload_n hx hb dX2_goodFor_62 rfl (lv_at hl 0 rfl) ?_
          refine va_get (D := D) (ci := 2) (v := .ref (bk 2)) (C := RX2) (T := TX2) (N := 8) hx hb htB inlX2 hown hK hP 0 rfl rfl 2 (by decide) (htB _ kw17) (fun _ h9 => h9) rfl dX2_goodFor_63 ?_
          obtain ⟨r7, h7, h⟩ := ob h
          refine call_v (wc := (gS t (bk 1) pb v25.1 ++ (gE t (bk 2) eb r5))) (wc' := (gS t (bk 1) pb r7 ++ (gE t (bk 2) eb r5))) (ws' := (gBo bh bk bo ++ (gS t (bk 0) nb now ++ (gS t (bk 1) pb r7 ++ (gE t (bk 2) eb r5))))) (cutB (bs := [gBo bh bk bo, gS t (bk 0) nb now, gS t (bk 1) pb v25.1, gE t (bk 2) eb r5]) (cs := [gS t (bk 1) pb v25.1, gE t (bk 2) eb r5]) (cs' := [gS t (bk 1) pb r7, gE t (bk 2) eb r5]) (bs' := [gBo bh bk bo, gS t (bk 0) nb now, gS t (bk 1) pb r7, gE t (bk 2) eb r5]) [2, 3] hP hD hS hA rfl rfl rfl rfl) hS (fun hPc hDc => va_runV (As := [.int v25.2.2.1, .ref (bk 2)]) (rest := []) ⟨hx, hb, hml, hown, hts⟩ (mtX1_tally l D t (bk 1) pb v25.1 (bk 2) eb r5 v25.2.2.1 r7 h7 _) (cwV 2 hts (gBV kw145 kw146 kw147 kw11 kw148) rfl rfl rfl (by decide +kernel) ⟨Nat.le_of_ble_eq_true rfl, Nat.le_of_ble_eq_true rfl⟩) (sPc_V hPc hK hDc hE (va_recv hK hP (ci := 1) (q0 := 9) rfl rfl)) rfl rfl hl.1 rfl (lv_room (Nat.le_of_ble_eq_true rfl)) dX2_goodFor_66 ⟨Nat.zero_le _, Nat.zero_le _⟩) (fun H locs hP hD hS => ?_)
          refine lv_iinc (v := v25.2.2.2.2 + 1) (lv' := [(3, .int (v25.2.2.2.2 + 1)), (0, .ref bh), (1, .int v25.2.2.1), (2, .int v25.2.2.2.1)]) hx hb dX2_goodFor_69 hl (k := 3) rfl rfl (by decide) rfl (fun ls hl => ?_)
          refine lv_goto (tgt := 25) hx hb dX2_goodFor_72 (by decide) ?_
          exact ih25 (r7, r5, v25.2.2.1, v25.2.2.2.1, v25.2.2.2.2 + 1) h _ _ hP hD hS _ (lv_sub hl [1, 2, 3, 0] rfl)
        · have h := it_n c6 h
          refine lv_iload_n hx hb dX2_goodFor_55 rfl (lv_at hl 3 rfl) ?_
          obtain rfl := oi h
          exact ret_i hx hb hr hlocks hP hK hD hS dX2_goodFor_56
  refine lv_iload_n hx hb dX2_goodFor_0 rfl (lv_at hl 1 rfl) ?_
  obtain ⟨r1, h1, h⟩ := tb_r h
  refine call_v (wc := ([] : va_W)) (wc' := ([] : va_W)) (ws' := (gBo bh bk bo ++ (gS t (bk 0) nb now ++ (gS t (bk 1) pb pr ++ (gE t (bk 2) eb ex))))) (cutB (bs := [gBo bh bk bo, gS t (bk 0) nb now, gS t (bk 1) pb pr, gE t (bk 2) eb ex]) (cs := []) (cs' := []) (bs' := [gBo bh bk bo, gS t (bk 0) nb now, gS t (bk 1) pb pr, gE t (bk 2) eb ex]) [] hP hD hS hA rfl rfl rfl rfl) hS (fun hPc hDc => va_runS (As := [.int v]) (rest := []) ⟨hx, hb, hml, hown, hts⟩ (mtX2_needSpeed l D t v r1 h1 _) (va_cwS 1 hts (gBS kw82 kw83 kw2 kw84) rfl rfl rfl (by decide +kernel) ⟨Nat.le_of_ble_eq_true rfl, Nat.le_of_ble_eq_true rfl⟩) (sPc_S hPc hK hDc hE) rfl rfl hl.1 rfl (lv_room (Nat.le_of_ble_eq_true rfl)) dX2_goodFor_1 ⟨Nat.zero_le _, Nat.zero_le _⟩) (fun H locs hP hD hS => ?_)
  refine lv_iload_n hx hb dX2_goodFor_4 rfl (lv_at hl 2 rfl) ?_
  refine lv_iconst (v := 0) hx hb dX2_goodFor_5 (by decide) ?_
  refine lv_sipush (v := 999) hx hb dX2_goodFor_6 (by decide) ?_
  obtain ⟨r2, h2, h⟩ := tb_r h
  refine call_v (wc := ([] : va_W)) (wc' := ([] : va_W)) (ws' := (gBo bh bk bo ++ (gS t (bk 0) nb now ++ (gS t (bk 1) pb pr ++ (gE t (bk 2) eb ex))))) (cutB (bs := [gBo bh bk bo, gS t (bk 0) nb now, gS t (bk 1) pb pr, gE t (bk 2) eb ex]) (cs := []) (cs' := []) (bs' := [gBo bh bk bo, gS t (bk 0) nb now, gS t (bk 1) pb pr, gE t (bk 2) eb ex]) [] hP hD hS hA rfl rfl rfl rfl) hS (fun hPc hDc => va_runS (As := [.int n, .int 0, .int 999]) (rest := []) ⟨hx, hb, hml, hown, hts⟩ (mtX2_needRange l D t n 0 999 r2 h2 _) (va_cwS 3 hts (gBS kw52 kw53 kw2 kw54) rfl rfl rfl (by decide +kernel) ⟨Nat.le_of_ble_eq_true rfl, Nat.le_of_ble_eq_true rfl⟩) (sPc_S hPc hK hDc hE) rfl rfl hl.1 rfl (lv_room (Nat.le_of_ble_eq_true rfl)) dX2_goodFor_9 ⟨Nat.zero_le _, Nat.zero_le _⟩) (fun H locs hP hD hS => ?_)
  refine lv_aload_n hx hb dX2_goodFor_12 rfl (lv_at hl 0 rfl) ?_
  refine va_get (D := D) (ci := 2) (v := .ref (bk 1)) (C := RX2) (T := TX2) (N := 8) hx hb htB inlX2 hown hK hP 0 rfl rfl 1 (by decide) (htB _ kw13) (fun _ h9 => h9) rfl dX2_goodFor_13 ?_
  refine lv_aload_n hx hb dX2_goodFor_16 rfl (lv_at hl 0 rfl) ?_
  refine va_get (D := D) (ci := 2) (v := .ref (bk 0)) (C := RX2) (T := TX2) (N := 8) hx hb htB inlX2 hown hK hP 0 rfl rfl 0 (by decide) (htB _ kw12) (fun _ h9 => h9) rfl dX2_goodFor_17 ?_
  obtain ⟨r3, h3, h⟩ := ob h
  refine call_v (wc := (gS t (bk 1) pb pr ++ (gS t (bk 0) nb now))) (wc' := (gS t (bk 1) pb r3 ++ (gS t (bk 0) nb now))) (ws' := (gBo bh bk bo ++ (gS t (bk 0) nb now ++ (gS t (bk 1) pb r3 ++ (gE t (bk 2) eb ex))))) (cutB (bs := [gBo bh bk bo, gS t (bk 0) nb now, gS t (bk 1) pb pr, gE t (bk 2) eb ex]) (cs := [gS t (bk 1) pb pr, gS t (bk 0) nb now]) (cs' := [gS t (bk 1) pb r3, gS t (bk 0) nb now]) (bs' := [gBo bh bk bo, gS t (bk 0) nb now, gS t (bk 1) pb r3, gE t (bk 2) eb ex]) [2, 1] hP hD hS hA rfl rfl rfl rfl) hS (fun hPc hDc => va_runV (As := [.ref (bk 0)]) (rest := []) ⟨hx, hb, hml, hown, hts⟩ (mtX1_become l D t (bk 1) pb pr (bk 0) nb now r3 h3 _) (cwV 1 hts (gBV kw90 kw91 kw92 kw11 kw93) rfl rfl rfl (by decide +kernel) ⟨Nat.le_of_ble_eq_true rfl, Nat.le_of_ble_eq_true rfl⟩) (sPc_V hPc hK hDc hE (va_recv hK hP (ci := 1) (q0 := 9) rfl rfl)) rfl rfl hl.1 rfl (lv_room (Nat.le_of_ble_eq_true rfl)) dX2_goodFor_20 ⟨Nat.zero_le _, Nat.zero_le _⟩) (fun H locs hP hD hS => ?_)
  refine lv_iconst (v := 0) hx hb dX2_goodFor_23 (by decide) ?_
  refine lv_istore_n (lv' := [(3, .int 0), (0, .ref bh), (1, .int v), (2, .int n)]) hx hb dX2_goodFor_24 rfl hl (by decide) rfl (fun ls hl => ?_)
  exact J25 2000 (r3, ex, v, n, 0) h _ _ hP hD hS _ (lv_sub hl [1, 2, 3, 0] rfl)

theorem dX2_evenness_0 : decode cX2_evenness 0 = .ok (.iload_n 1, 1) := by decide +kernel
theorem dX2_evenness_1 : decode cX2_evenness 1 = .ok (.invokestatic 73, 3) := by decide +kernel
theorem dX2_evenness_4 : decode cX2_evenness 4 = .ok (.aload_n 0, 1) := by decide +kernel
theorem dX2_evenness_5 : decode cX2_evenness 5 = .ok (.getfield 22, 3) := by decide +kernel
theorem dX2_evenness_8 : decode cX2_evenness 8 = .ok (.aload_n 0, 1) := by decide +kernel
theorem dX2_evenness_9 : decode cX2_evenness 9 = .ok (.getfield 10, 3) := by decide +kernel
theorem dX2_evenness_12 : decode cX2_evenness 12 = .ok (.iload_n 1, 1) := by decide +kernel
theorem dX2_evenness_13 : decode cX2_evenness 13 = .ok (.invokevirtual 143, 3) := by decide +kernel
theorem dX2_evenness_16 : decode cX2_evenness 16 = .ok (.aload_n 0, 1) := by decide +kernel
theorem dX2_evenness_17 : decode cX2_evenness 17 = .ok (.getfield 22, 3) := by decide +kernel
theorem dX2_evenness_20 : decode cX2_evenness 20 = .ok (.getfield 201, 3) := by decide +kernel
theorem dX2_evenness_23 : decode cX2_evenness 23 = .ok (.ifCond .gt 5, 3) := by decide +kernel
theorem dX2_evenness_26 : decode cX2_evenness 26 = .ok (.dconst 1, 1) := by decide +kernel
theorem dX2_evenness_27 : decode cX2_evenness 27 = .ok (.dreturn, 1) := by decide +kernel
theorem dX2_evenness_28 : decode cX2_evenness 28 = .ok (.aload_n 0, 1) := by decide +kernel
theorem dX2_evenness_29 : decode cX2_evenness 29 = .ok (.getfield 22, 3) := by decide +kernel
theorem dX2_evenness_32 : decode cX2_evenness 32 = .ok (.getfield 204, 3) := by decide +kernel
theorem dX2_evenness_35 : decode cX2_evenness 35 = .ok (.i2d, 1) := by decide +kernel
theorem dX2_evenness_36 : decode cX2_evenness 36 = .ok (.aload_n 0, 1) := by decide +kernel
theorem dX2_evenness_37 : decode cX2_evenness 37 = .ok (.getfield 22, 3) := by decide +kernel
theorem dX2_evenness_40 : decode cX2_evenness 40 = .ok (.getfield 201, 3) := by decide +kernel
theorem dX2_evenness_43 : decode cX2_evenness 43 = .ok (.i2d, 1) := by decide +kernel
theorem dX2_evenness_44 : decode cX2_evenness 44 = .ok (.ddiv, 1) := by decide +kernel
theorem dX2_evenness_45 : decode cX2_evenness 45 = .ok (.dreturn, 1) := by decide +kernel
abbrev zX2_evenness : List Cond := .code yX2_evenness cX2_evenness 2 (some .double) :: BIG
def fX2_evenness (bo : BoT) (now : ShT) (ex : ExT) (v : Int32) : Option (Nat ⊕ (UInt64 × ExT)) := tb (fX2_needSpeed v) (fun r1 => (fX0_expose ex now v).bind (fun r2 => (if 0 < r2.2.2.2.2.2.1 then gd (nn64 (FP.ddiv (FP.i2d r2.2.2.2.2.1) (FP.i2d r2.2.2.2.2.2.1))) (some (.inr (FP.ddiv (FP.i2d r2.2.2.2.2.1) (FP.i2d r2.2.2.2.2.2.1), r2))) else some (.inr (FP.dconst1, r2)))))
set_option maxHeartbeats 4000000 in
set_option maxRecDepth 100000 in
theorem mtX2_evenness (l : Launch) (D : va_G) (t : Nat → ClassId) (bh : Nat) (bk : Nat → Nat) (bo : BoT) (nb : Nat → Nat) (now : ShT) (eb : Nat → Nat) (ex : ExT) (v : Int32) (out : UInt64 × ExT) (h : fX2_evenness bo now ex v = some (.inr out))  (sz : Nat) : Met l yX2_evenness zX2_evenness ({ frames := 4, cells := 0, slots := 0, locals := 93 }) (sPc D t (gBo bh bk bo ++ (gS t (bk 0) nb now ++ (gE t (bk 2) eb ex))) sz [.ref bh, .int v]) (qD D t (gBo bh bk bo ++ (gS t (bk 0) nb now ++ (gE t (bk 2) eb out.2))) out.1 (va_A (gBo bh bk bo ++ (gS t (bk 0) nb now ++ (gE t (bk 2) eb ex))) sz)) 0 0 (va_A (gBo bh bk bo ++ (gS t (bk 0) nb now ++ (gE t (bk 2) eb ex))) sz) := by
  refine met_of (Qf := fun A => qD D t (gBo bh bk bo ++ (gS t (bk 0) nb now ++ (gE t (bk 2) eb out.2))) out.1 A) (cc := cX2_evenness) (maxL := 2) (ret := some .double) (by decide) rfl (Nat.le_of_ble_eq_true rfl) ?_
  intro p e s m args below meth c A hx hb hr hml hts hown hlocks hA hP hK hD hE hS ls hl
  have htB : ∀ w ∈ BIG, w.before args s = true := fun w h => hts w (List.mem_cons_of_mem _ h)
  have hown : s.vm.findClass RX2 = some m.cls := hown
  have hl : lv_has ls 2 [(0, .ref bh), (1, .int v)] := hl
  unfold fX2_evenness at h
  refine lv_iload_n hx hb dX2_evenness_0 rfl (lv_at hl 1 rfl) ?_
  obtain ⟨r1, h1, h⟩ := tb_r h
  refine call_v (wc := ([] : va_W)) (wc' := ([] : va_W)) (ws' := (gBo bh bk bo ++ (gS t (bk 0) nb now ++ (gE t (bk 2) eb ex)))) (cutB (bs := [gBo bh bk bo, gS t (bk 0) nb now, gE t (bk 2) eb ex]) (cs := []) (cs' := []) (bs' := [gBo bh bk bo, gS t (bk 0) nb now, gE t (bk 2) eb ex]) [] hP hD hS hA rfl rfl rfl rfl) hS (fun hPc hDc => va_runS (As := [.int v]) (rest := []) ⟨hx, hb, hml, hown, hts⟩ (mtX2_needSpeed l D t v r1 h1 _) (va_cwS 1 hts (gBS kw82 kw83 kw2 kw84) rfl rfl rfl (by decide +kernel) ⟨Nat.le_of_ble_eq_true rfl, Nat.le_of_ble_eq_true rfl⟩) (sPc_S hPc hK hDc hE) rfl rfl hl.1 rfl (lv_room (Nat.le_of_ble_eq_true rfl)) dX2_evenness_1 ⟨Nat.zero_le _, Nat.zero_le _⟩) (fun H locs hP hD hS => ?_)
  refine lv_aload_n hx hb dX2_evenness_4 rfl (lv_at hl 0 rfl) ?_
  refine va_get (D := D) (ci := 2) (v := .ref (bk 2)) (C := RX2) (T := TX2) (N := 8) hx hb htB inlX2 hown hK hP 0 rfl rfl 2 (by decide) (htB _ kw17) (fun _ h9 => h9) rfl dX2_evenness_5 ?_
  refine lv_aload_n hx hb dX2_evenness_8 rfl (lv_at hl 0 rfl) ?_
  refine va_get (D := D) (ci := 2) (v := .ref (bk 0)) (C := RX2) (T := TX2) (N := 8) hx hb htB inlX2 hown hK hP 0 rfl rfl 0 (by decide) (htB _ kw12) (fun _ h9 => h9) rfl dX2_evenness_9 ?_
  refine lv_iload_n hx hb dX2_evenness_12 rfl (lv_at hl 1 rfl) ?_
  obtain ⟨r2, h2, h⟩ := ob h
  refine call_v (wc := (gE t (bk 2) eb ex ++ (gS t (bk 0) nb now))) (wc' := (gE t (bk 2) eb r2 ++ (gS t (bk 0) nb now))) (ws' := (gBo bh bk bo ++ (gS t (bk 0) nb now ++ (gE t (bk 2) eb r2)))) (cutB (bs := [gBo bh bk bo, gS t (bk 0) nb now, gE t (bk 2) eb ex]) (cs := [gE t (bk 2) eb ex, gS t (bk 0) nb now]) (cs' := [gE t (bk 2) eb r2, gS t (bk 0) nb now]) (bs' := [gBo bh bk bo, gS t (bk 0) nb now, gE t (bk 2) eb r2]) [2, 1] hP hD hS hA rfl rfl rfl rfl) hS (fun hPc hDc => va_runV (As := [.ref (bk 0), .int v]) (rest := []) ⟨hx, hb, hml, hown, hts⟩ (mtX0_expose l D t (bk 2) eb ex (bk 0) nb now v r2 h2 _) (cwV 2 hts (gBV kw100 kw101 kw102 kw16 kw103) rfl rfl rfl (by decide +kernel) ⟨Nat.le_of_ble_eq_true rfl, Nat.le_of_ble_eq_true rfl⟩) (sPc_V hPc hK hDc hE (va_recv hK hP (ci := 0) (q0 := 9) rfl rfl)) rfl rfl hl.1 rfl (lv_room (Nat.le_of_ble_eq_true rfl)) dX2_evenness_13 ⟨Nat.zero_le _, Nat.zero_le _⟩) (fun H locs hP hD hS => ?_)
  refine lv_aload_n hx hb dX2_evenness_16 rfl (lv_at hl 0 rfl) ?_
  refine va_get (D := D) (ci := 2) (v := .ref (bk 2)) (C := RX2) (T := TX2) (N := 8) hx hb htB inlX2 hown hK hP 0 rfl rfl 2 (by decide) (htB _ kw17) (fun _ h9 => h9) rfl dX2_evenness_17 ?_
  refine va_get (D := D) (ci := 0) (v := .int r2.2.2.2.2.2.1) (C := RX0) (T := TX0) (N := 10) hx hb htB inlX0 hown hK hP 9 rfl rfl 5 (by decide) (htB _ kw275) (fun _ h9 => h9) rfl dX2_evenness_20 ?_
  refine lv_if_gt (tgt := 28) hx hb dX2_evenness_23 (by decide) (fun c3 => ?_) (fun c3 => ?_)
  · have h := it_p c3 h
    refine lv_aload_n hx hb dX2_evenness_28 rfl (lv_at hl 0 rfl) ?_
    refine va_get (D := D) (ci := 2) (v := .ref (bk 2)) (C := RX2) (T := TX2) (N := 8) hx hb htB inlX2 hown hK hP 0 rfl rfl 2 (by decide) (htB _ kw17) (fun _ h9 => h9) rfl dX2_evenness_29 ?_
    refine va_get (D := D) (ci := 0) (v := .int r2.2.2.2.2.1) (C := RX0) (T := TX0) (N := 10) hx hb htB inlX0 hown hK hP 9 rfl rfl 4 (by decide) (htB _ kw276) (fun _ h9 => h9) rfl dX2_evenness_32 ?_
    refine lv_i2d hx hb dX2_evenness_35 ?_
    refine lv_aload_n hx hb dX2_evenness_36 rfl (lv_at hl 0 rfl) ?_
    refine va_get (D := D) (ci := 2) (v := .ref (bk 2)) (C := RX2) (T := TX2) (N := 8) hx hb htB inlX2 hown hK hP 0 rfl rfl 2 (by decide) (htB _ kw17) (fun _ h9 => h9) rfl dX2_evenness_37 ?_
    refine va_get (D := D) (ci := 0) (v := .int r2.2.2.2.2.2.1) (C := RX0) (T := TX0) (N := 10) hx hb htB inlX0 hown hK hP 9 rfl rfl 5 (by decide) (htB _ kw275) (fun _ h9 => h9) rfl dX2_evenness_40 ?_
    refine lv_i2d hx hb dX2_evenness_43 ?_
    obtain ⟨g4, h⟩ := og h
    refine lv_ddiv hx hb dX2_evenness_44 (nn_n64 g4) ?_
    obtain rfl := oi h
    exact ret_d hx hb hr hlocks hP hK hD hS dX2_evenness_45
  · have h := it_n c3 h
    refine lv_dconst1 hx hb dX2_evenness_26 ?_
    obtain rfl := oi h
    exact ret_d hx hb hr hlocks hP hK hD hS dX2_evenness_27
