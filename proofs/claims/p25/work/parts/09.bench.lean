theorem dX2_wind_0 : decode cX2_wind 0 = .ok (.iload_n 1, 1) := by decide +kernel
theorem dX2_wind_1 : decode cX2_wind 1 = .ok (.invokestatic 44, 3) := by decide +kernel
theorem dX2_wind_4 : decode cX2_wind 4 = .ok (.iload_n 2, 1) := by decide +kernel
theorem dX2_wind_5 : decode cX2_wind 5 = .ok (.iconst 1, 1) := by decide +kernel
theorem dX2_wind_6 : decode cX2_wind 6 = .ok (.bipush 99, 2) := by decide +kernel
theorem dX2_wind_8 : decode cX2_wind 8 = .ok (.invokestatic 48, 3) := by decide +kernel
theorem dX2_wind_11 : decode cX2_wind 11 = .ok (.aload_n 0, 1) := by decide +kernel
theorem dX2_wind_12 : decode cX2_wind 12 = .ok (.invokevirtual 52, 3) := by decide +kernel
theorem dX2_wind_15 : decode cX2_wind 15 = .ok (.aload_n 0, 1) := by decide +kernel
theorem dX2_wind_16 : decode cX2_wind 16 = .ok (.getfield 10, 3) := by decide +kernel
theorem dX2_wind_19 : decode cX2_wind 19 = .ok (.getfield 55, 3) := by decide +kernel
theorem dX2_wind_22 : decode cX2_wind 22 = .ok (.iload_n 1, 1) := by decide +kernel
theorem dX2_wind_23 : decode cX2_wind 23 = .ok (.invokestatic 58, 3) := by decide +kernel
theorem dX2_wind_26 : decode cX2_wind 26 = .ok (.istore_n 3, 1) := by decide +kernel
theorem dX2_wind_27 : decode cX2_wind 27 = .ok (.aload_n 0, 1) := by decide +kernel
theorem dX2_wind_28 : decode cX2_wind 28 = .ok (.getfield 10, 3) := by decide +kernel
theorem dX2_wind_31 : decode cX2_wind 31 = .ok (.getfield 55, 3) := by decide +kernel
theorem dX2_wind_34 : decode cX2_wind 34 = .ok (.iload_n 1, 1) := by decide +kernel
theorem dX2_wind_35 : decode cX2_wind 35 = .ok (.iload_n 2, 1) := by decide +kernel
theorem dX2_wind_36 : decode cX2_wind 36 = .ok (.invokestatic 62, 3) := by decide +kernel
theorem dX2_wind_39 : decode cX2_wind 39 = .ok (.iload_n 3, 1) := by decide +kernel
theorem dX2_wind_40 : decode cX2_wind 40 = .ok (.ireturn, 1) := by decide +kernel
abbrev zX2_wind : List Cond := .code yX2_wind cX2_wind 4 (some .int) :: BIG
def fX2_wind (bo : BoT) (now : ShT) (sv : (Nat → ShT)) (cu : Int32) (sp : Int32) : Option (Nat ⊕ (Int32 × BoT × ShT × (Nat → ShT))) := tb (fX2_needCurtain cu) (fun r1 => tb (fX2_needRange sp 1 99) (fun r2 => (fX2_saveState bo now sv).bind (fun r3 => (fX2_at 2 now.1 cu).bind (fun r4 => (fX2_put 2 now.1 cu sp).bind (fun r5 => some (.inr (r4, r3.1, (r5, now.2.1, now.2.2.1, now.2.2.2.1, now.2.2.2.2.1, now.2.2.2.2.2.1, now.2.2.2.2.2.2.1, now.2.2.2.2.2.2.2.1, now.2.2.2.2.2.2.2.2.1, now.2.2.2.2.2.2.2.2.2), r3.2)))))))
set_option maxHeartbeats 4000000 in
set_option maxRecDepth 100000 in
theorem mtX2_wind (l : Launch) (D : va_G) (t : Nat → ClassId) (bh : Nat) (bk : Nat → Nat) (bo : BoT) (nb : Nat → Nat) (now : ShT) (sa : Nat → Nat) (sb : Nat → Nat → Nat) (sv : (Nat → ShT)) (cu : Int32) (sp : Int32) (out : Int32 × BoT × ShT × (Nat → ShT)) (h : fX2_wind bo now sv cu sp = some (.inr out))  (sz : Nat) : Met l yX2_wind zX2_wind ({ frames := 3, cells := 0, slots := 0, locals := 64 }) (sPc D t (gBo bh bk bo ++ (gS t (bk 0) nb now ++ (gQ t (bk 3) sa ++ (g6 t sa sb sv)))) sz [.ref bh, .int cu, .int sp]) (qI D t (gBo bh bk out.2.1 ++ (gS t (bk 0) nb out.2.2.1 ++ (gQ t (bk 3) sa ++ (g6 t sa sb out.2.2.2)))) out.1 (va_A (gBo bh bk bo ++ (gS t (bk 0) nb now ++ (gQ t (bk 3) sa ++ (g6 t sa sb sv)))) sz)) 0 0 (va_A (gBo bh bk bo ++ (gS t (bk 0) nb now ++ (gQ t (bk 3) sa ++ (g6 t sa sb sv)))) sz) := by
  refine met_of (Qf := fun A => qI D t (gBo bh bk out.2.1 ++ (gS t (bk 0) nb out.2.2.1 ++ (gQ t (bk 3) sa ++ (g6 t sa sb out.2.2.2)))) out.1 A) (cc := cX2_wind) (maxL := 4) (ret := some .int) (by decide) rfl (Nat.le_of_ble_eq_true rfl) ?_
  intro p e s m args below meth c A hx hb hr hml hts hown hlocks hA hP hK hD hE hS ls hl
  have htB : ∀ w ∈ BIG, w.before args s = true := fun w h => hts w (List.mem_cons_of_mem _ h)
  have hown : s.vm.findClass RX2 = some m.cls := hown
  have hl : lv_has ls 4 [(0, .ref bh), (1, .int cu), (2, .int sp)] := hl
  unfold fX2_wind at h
  refine lv_iload_n hx hb dX2_wind_0 rfl (lv_at hl 1 rfl) ?_
  obtain ⟨r1, h1, h⟩ := tb_r h
  refine call_v (wc := ([] : va_W)) (wc' := ([] : va_W)) (ws' := (gBo bh bk bo ++ (gS t (bk 0) nb now ++ (gQ t (bk 3) sa ++ (g6 t sa sb sv))))) (cutB (bs := [gBo bh bk bo, gS t (bk 0) nb now, gQ t (bk 3) sa, g6 t sa sb sv]) (cs := []) (cs' := []) (bs' := [gBo bh bk bo, gS t (bk 0) nb now, gQ t (bk 3) sa, g6 t sa sb sv]) [] hP hD hS hA rfl rfl rfl rfl) hS (fun hPc hDc => va_runS (As := [.int cu]) (rest := []) ⟨hx, hb, hml, hown, hts⟩ (mtX2_needCurtain l D t cu r1 h1 _) (va_cwS 1 hts (gBS kw163 kw164 kw2 kw165) rfl rfl rfl (by decide +kernel) ⟨Nat.le_of_ble_eq_true rfl, Nat.le_of_ble_eq_true rfl⟩) (sPc_S hPc hK hDc hE) rfl rfl hl.1 rfl (lv_room (Nat.le_of_ble_eq_true rfl)) dX2_wind_1 ⟨Nat.zero_le _, Nat.zero_le _⟩) (fun H locs hP hD hS => ?_)
  refine lv_iload_n hx hb dX2_wind_4 rfl (lv_at hl 2 rfl) ?_
  refine lv_iconst (v := 1) hx hb dX2_wind_5 (by decide) ?_
  refine lv_bipush (v := 99) hx hb dX2_wind_6 (by decide) ?_
  obtain ⟨r2, h2, h⟩ := tb_r h
  refine call_v (wc := ([] : va_W)) (wc' := ([] : va_W)) (ws' := (gBo bh bk bo ++ (gS t (bk 0) nb now ++ (gQ t (bk 3) sa ++ (g6 t sa sb sv))))) (cutB (bs := [gBo bh bk bo, gS t (bk 0) nb now, gQ t (bk 3) sa, g6 t sa sb sv]) (cs := []) (cs' := []) (bs' := [gBo bh bk bo, gS t (bk 0) nb now, gQ t (bk 3) sa, g6 t sa sb sv]) [] hP hD hS hA rfl rfl rfl rfl) hS (fun hPc hDc => va_runS (As := [.int sp, .int 1, .int 99]) (rest := []) ⟨hx, hb, hml, hown, hts⟩ (mtX2_needRange l D t sp 1 99 r2 h2 _) (va_cwS 3 hts (gBS kw52 kw53 kw2 kw54) rfl rfl rfl (by decide +kernel) ⟨Nat.le_of_ble_eq_true rfl, Nat.le_of_ble_eq_true rfl⟩) (sPc_S hPc hK hDc hE) rfl rfl hl.1 rfl (lv_room (Nat.le_of_ble_eq_true rfl)) dX2_wind_8 ⟨Nat.zero_le _, Nat.zero_le _⟩) (fun H locs hP hD hS => ?_)
  refine lv_aload_n hx hb dX2_wind_11 rfl (lv_at hl 0 rfl) ?_
  obtain ⟨r3, h3, h⟩ := ob h
  refine call_v (wc := (gBo bh bk bo ++ (gS t (bk 0) nb now ++ (gQ t (bk 3) sa ++ (g6 t sa sb sv))))) (wc' := (gBo bh bk r3.1 ++ (gS t (bk 0) nb now ++ (gQ t (bk 3) sa ++ (g6 t sa sb r3.2))))) (ws' := (gBo bh bk r3.1 ++ (gS t (bk 0) nb now ++ (gQ t (bk 3) sa ++ (g6 t sa sb r3.2))))) (cutB (bs := [gBo bh bk bo, gS t (bk 0) nb now, gQ t (bk 3) sa, g6 t sa sb sv]) (cs := [gBo bh bk bo, gS t (bk 0) nb now, gQ t (bk 3) sa, g6 t sa sb sv]) (cs' := [gBo bh bk r3.1, gS t (bk 0) nb now, gQ t (bk 3) sa, g6 t sa sb r3.2]) (bs' := [gBo bh bk r3.1, gS t (bk 0) nb now, gQ t (bk 3) sa, g6 t sa sb r3.2]) [0, 1, 2, 3] hP hD hS hA rfl rfl rfl rfl) hS (fun hPc hDc => va_runV (As := []) (rest := []) ⟨hx, hb, hml, hown, hts⟩ (mtX2_saveState l D t bh bk bo nb now sa sb sv r3 h3 _) (cwV 0 hts (gBV kw201 kw202 kw203 kw2 kw204) rfl rfl rfl (by decide +kernel) ⟨Nat.le_of_ble_eq_true rfl, Nat.le_of_ble_eq_true rfl⟩) (sPc_V hPc hK hDc hE (va_recv hK hP (ci := 2) (q0 := 0) rfl rfl)) rfl rfl hl.1 rfl (lv_room (Nat.le_of_ble_eq_true rfl)) dX2_wind_12 ⟨Nat.zero_le _, Nat.zero_le _⟩) (fun H locs hP hD hS => ?_)
  refine lv_aload_n hx hb dX2_wind_15 rfl (lv_at hl 0 rfl) ?_
  refine va_get (D := D) (ci := 2) (v := .ref (bk 0)) (C := RX2) (T := TX2) (N := 8) hx hb htB inlX2 hown hK hP 0 rfl rfl 0 (by decide) (htB _ kw12) (fun _ h9 => h9) rfl dX2_wind_16 ?_
  refine va_get (D := D) (ci := 1) (v := .ref (nb 0)) (C := RX1) (T := TX1) (N := 10) hx hb htB inlX1 hown hK hP 1 rfl rfl 0 (by decide) (htB _ kw80) (fun _ h9 => h9) rfl dX2_wind_19 ?_
  refine lv_iload_n hx hb dX2_wind_22 rfl (lv_at hl 1 rfl) ?_
  obtain ⟨r4, h4, h⟩ := ob h
  refine call_i (v := r4) (wc := (gA t (nb 0) 2 now.1)) (wc' := (gA t (nb 0) 2 now.1)) (ws' := (gBo bh bk r3.1 ++ (gS t (bk 0) nb now ++ (gQ t (bk 3) sa ++ (g6 t sa sb r3.2))))) (cutI (wc := (gA t (nb 0) 2 now.1)) (wc' := (gA t (nb 0) 2 now.1)) (ws' := (gBo bh bk r3.1 ++ (gS t (bk 0) nb now ++ (gQ t (bk 3) sa ++ (g6 t sa sb r3.2))))) [2] hP hD hS hA rfl rfl rfl rfl) hS (fun hPc hDc => va_runS (As := [.ref (nb 0), .int cu]) (rest := []) ⟨hx, hb, hml, hown, hts⟩ (mtX2_at l D t (nb 0) 2 now.1 cu r4 h4 (by decide) _) (va_cwS 2 hts (gBS kw157 kw65 kw2 kw66) rfl rfl rfl (by decide +kernel) ⟨Nat.le_of_ble_eq_true rfl, Nat.le_of_ble_eq_true rfl⟩) (sPc_S hPc hK hDc hE) rfl rfl hl.1 rfl (lv_room (Nat.le_of_ble_eq_true rfl)) dX2_wind_23 ⟨Nat.zero_le _, Nat.zero_le _⟩) (fun H locs hP hD hS => ?_)
  refine lv_istore_n (lv' := [(3, .int r4), (0, .ref bh), (1, .int cu), (2, .int sp)]) hx hb dX2_wind_26 rfl hl (by decide) rfl (fun ls hl => ?_)
  refine lv_aload_n hx hb dX2_wind_27 rfl (lv_at hl 1 rfl) ?_
  refine va_get (D := D) (ci := 2) (v := .ref (bk 0)) (C := RX2) (T := TX2) (N := 8) hx hb htB inlX2 hown hK hP 0 rfl rfl 0 (by decide) (htB _ kw12) (fun _ h9 => h9) rfl dX2_wind_28 ?_
  refine va_get (D := D) (ci := 1) (v := .ref (nb 0)) (C := RX1) (T := TX1) (N := 10) hx hb htB inlX1 hown hK hP 1 rfl rfl 0 (by decide) (htB _ kw80) (fun _ h9 => h9) rfl dX2_wind_31 ?_
  refine lv_iload_n hx hb dX2_wind_34 rfl (lv_at hl 2 rfl) ?_
  refine lv_iload_n hx hb dX2_wind_35 rfl (lv_at hl 3 rfl) ?_
  obtain ⟨r5, h5, h⟩ := ob h
  refine call_v (wc := (gA t (nb 0) 2 now.1)) (wc' := (gA t (nb 0) 2 r5)) (ws' := (gBo bh bk r3.1 ++ (gS t (bk 0) nb (r5, now.2.1, now.2.2.1, now.2.2.2.1, now.2.2.2.2.1, now.2.2.2.2.2.1, now.2.2.2.2.2.2.1, now.2.2.2.2.2.2.2.1, now.2.2.2.2.2.2.2.2.1, now.2.2.2.2.2.2.2.2.2) ++ (gQ t (bk 3) sa ++ (g6 t sa sb r3.2))))) (cutI (wc := (gA t (nb 0) 2 now.1)) (wc' := (gA t (nb 0) 2 r5)) (ws' := (gBo bh bk r3.1 ++ (gS t (bk 0) nb (r5, now.2.1, now.2.2.1, now.2.2.2.1, now.2.2.2.2.1, now.2.2.2.2.2.1, now.2.2.2.2.2.2.1, now.2.2.2.2.2.2.2.1, now.2.2.2.2.2.2.2.2.1, now.2.2.2.2.2.2.2.2.2) ++ (gQ t (bk 3) sa ++ (g6 t sa sb r3.2))))) [2] hP hD hS hA rfl rfl rfl rfl) hS (fun hPc hDc => va_runS (As := [.ref (nb 0), .int cu, .int sp]) (rest := []) ⟨hx, hb, hml, hown, hts⟩ (mtX2_put l D t (nb 0) 2 now.1 cu sp r5 h5 (by decide) _) (va_cwS 3 hts (gBS kw210 kw150 kw2 kw151) rfl rfl rfl (by decide +kernel) ⟨Nat.le_of_ble_eq_true rfl, Nat.le_of_ble_eq_true rfl⟩) (sPc_S hPc hK hDc hE) rfl rfl hl.1 rfl (lv_room (Nat.le_of_ble_eq_true rfl)) dX2_wind_36 ⟨Nat.zero_le _, Nat.zero_le _⟩) (fun H locs hP hD hS => ?_)
  refine lv_iload_n hx hb dX2_wind_39 rfl (lv_at hl 0 rfl) ?_
  obtain rfl := oi h
  exact ret_i hx hb hr hlocks hP hK hD hS dX2_wind_40

theorem dX2_drag_0 : decode cX2_drag 0 = .ok (.iload_n 1, 1) := by decide +kernel
theorem dX2_drag_1 : decode cX2_drag 1 = .ok (.invokestatic 44, 3) := by decide +kernel
theorem dX2_drag_4 : decode cX2_drag 4 = .ok (.iload_n 2, 1) := by decide +kernel
theorem dX2_drag_5 : decode cX2_drag 5 = .ok (.iconst 0, 1) := by decide +kernel
theorem dX2_drag_6 : decode cX2_drag 6 = .ok (.bipush 23, 2) := by decide +kernel
theorem dX2_drag_8 : decode cX2_drag 8 = .ok (.invokestatic 48, 3) := by decide +kernel
theorem dX2_drag_11 : decode cX2_drag 11 = .ok (.iload_n 3, 1) := by decide +kernel
theorem dX2_drag_12 : decode cX2_drag 12 = .ok (.iload_n 2, 1) := by decide +kernel
theorem dX2_drag_13 : decode cX2_drag 13 = .ok (.bipush 23, 2) := by decide +kernel
theorem dX2_drag_15 : decode cX2_drag 15 = .ok (.invokestatic 48, 3) := by decide +kernel
theorem dX2_drag_18 : decode cX2_drag 18 = .ok (.iload 4, 2) := by decide +kernel
theorem dX2_drag_20 : decode cX2_drag 20 = .ok (.iconst 0, 1) := by decide +kernel
theorem dX2_drag_21 : decode cX2_drag 21 = .ok (.bipush 50, 2) := by decide +kernel
theorem dX2_drag_23 : decode cX2_drag 23 = .ok (.invokestatic 48, 3) := by decide +kernel
theorem dX2_drag_26 : decode cX2_drag 26 = .ok (.aload_n 0, 1) := by decide +kernel
theorem dX2_drag_27 : decode cX2_drag 27 = .ok (.invokevirtual 52, 3) := by decide +kernel
theorem dX2_drag_30 : decode cX2_drag 30 = .ok (.aload_n 0, 1) := by decide +kernel
theorem dX2_drag_31 : decode cX2_drag 31 = .ok (.getfield 10, 3) := by decide +kernel
theorem dX2_drag_34 : decode cX2_drag 34 = .ok (.iload_n 1, 1) := by decide +kernel
theorem dX2_drag_35 : decode cX2_drag 35 = .ok (.invokevirtual 66, 3) := by decide +kernel
theorem dX2_drag_38 : decode cX2_drag 38 = .ok (.astore 5, 2) := by decide +kernel
theorem dX2_drag_40 : decode cX2_drag 40 = .ok (.iconst 0, 1) := by decide +kernel
theorem dX2_drag_41 : decode cX2_drag 41 = .ok (.istore 6, 2) := by decide +kernel
theorem dX2_drag_43 : decode cX2_drag 43 = .ok (.iload_n 2, 1) := by decide +kernel
theorem dX2_drag_44 : decode cX2_drag 44 = .ok (.istore 7, 2) := by decide +kernel
theorem dX2_drag_46 : decode cX2_drag 46 = .ok (.iload 7, 2) := by decide +kernel
theorem dX2_drag_48 : decode cX2_drag 48 = .ok (.iload_n 3, 1) := by decide +kernel
theorem dX2_drag_49 : decode cX2_drag 49 = .ok (.if_icmp .gt 40, 3) := by decide +kernel
theorem dX2_drag_52 : decode cX2_drag 52 = .ok (.iload 7, 2) := by decide +kernel
theorem dX2_drag_54 : decode cX2_drag 54 = .ok (.bipush 24, 2) := by decide +kernel
theorem dX2_drag_56 : decode cX2_drag 56 = .ok (.if_icmp .ge 33, 3) := by decide +kernel
theorem dX2_drag_59 : decode cX2_drag 59 = .ok (.aload 5, 2) := by decide +kernel
theorem dX2_drag_61 : decode cX2_drag 61 = .ok (.iload 7, 2) := by decide +kernel
theorem dX2_drag_63 : decode cX2_drag 63 = .ok (.invokestatic 58, 3) := by decide +kernel
theorem dX2_drag_66 : decode cX2_drag 66 = .ok (.iload 4, 2) := by decide +kernel
theorem dX2_drag_68 : decode cX2_drag 68 = .ok (.if_icmp .eq 15, 3) := by decide +kernel
theorem dX2_drag_71 : decode cX2_drag 71 = .ok (.aload 5, 2) := by decide +kernel
theorem dX2_drag_73 : decode cX2_drag 73 = .ok (.iload 7, 2) := by decide +kernel
theorem dX2_drag_75 : decode cX2_drag 75 = .ok (.iload 4, 2) := by decide +kernel
theorem dX2_drag_77 : decode cX2_drag 77 = .ok (.invokestatic 62, 3) := by decide +kernel
theorem dX2_drag_80 : decode cX2_drag 80 = .ok (.iinc 6 1, 3) := by decide +kernel
theorem dX2_drag_83 : decode cX2_drag 83 = .ok (.iinc 7 1, 3) := by decide +kernel
theorem dX2_drag_86 : decode cX2_drag 86 = .ok (.goto (-40), 3) := by decide +kernel
theorem dX2_drag_89 : decode cX2_drag 89 = .ok (.iload 6, 2) := by decide +kernel
theorem dX2_drag_91 : decode cX2_drag 91 = .ok (.ireturn, 1) := by decide +kernel
abbrev zX2_drag : List Cond := .code yX2_drag cX2_drag 8 (some .int) :: BIG
def fX2_drag_l46   (K46 : (BoT × ShT × (Nat → ShT) × Int32 × Int32 × Int32 × Int32) → Option (Nat ⊕ (Int32 × BoT × ShT × (Nat → ShT)))) (v46 : BoT × ShT × (Nat → ShT) × Int32 × Int32 × Int32 × Int32) : Option (Nat ⊕ (Int32 × BoT × ShT × (Nat → ShT))) := (if v46.2.2.2.1 < v46.2.2.2.2.2.2 then some (.inr (v46.2.2.2.2.2.1, v46.1, v46.2.1, v46.2.2.1)) else (if 24 ≤ v46.2.2.2.2.2.2 then some (.inr (v46.2.2.2.2.2.1, v46.1, v46.2.1, v46.2.2.1)) else (fX2_at 24 v46.2.1.2.2.1 v46.2.2.2.2.2.2).bind (fun r10 => (if r10 = v46.2.2.2.2.1 then K46 (v46.1, v46.2.1, v46.2.2.1, v46.2.2.2.1, v46.2.2.2.2.1, v46.2.2.2.2.2.1, v46.2.2.2.2.2.2 + 1) else (fX2_put 24 v46.2.1.2.2.1 v46.2.2.2.2.2.2 v46.2.2.2.2.1).bind (fun r12 => K46 (v46.1, (v46.2.1.1, v46.2.1.2.1, r12, v46.2.1.2.2.2.1, v46.2.1.2.2.2.2.1, v46.2.1.2.2.2.2.2.1, v46.2.1.2.2.2.2.2.2.1, v46.2.1.2.2.2.2.2.2.2.1, v46.2.1.2.2.2.2.2.2.2.2.1, v46.2.1.2.2.2.2.2.2.2.2.2), v46.2.2.1, v46.2.2.2.1, v46.2.2.2.2.1, v46.2.2.2.2.2.1 + 1, v46.2.2.2.2.2.2 + 1))))))
def fX2_drag_l46_1   (K46_1 : (BoT × ShT × (Nat → ShT) × Int32 × Int32 × Int32 × Int32) → Option (Nat ⊕ (Int32 × BoT × ShT × (Nat → ShT)))) (v46_1 : BoT × ShT × (Nat → ShT) × Int32 × Int32 × Int32 × Int32) : Option (Nat ⊕ (Int32 × BoT × ShT × (Nat → ShT))) := (if v46_1.2.2.2.1 < v46_1.2.2.2.2.2.2 then some (.inr (v46_1.2.2.2.2.2.1, v46_1.1, v46_1.2.1, v46_1.2.2.1)) else (if 24 ≤ v46_1.2.2.2.2.2.2 then some (.inr (v46_1.2.2.2.2.2.1, v46_1.1, v46_1.2.1, v46_1.2.2.1)) else (fX2_at 24 v46_1.2.1.2.2.2.1 v46_1.2.2.2.2.2.2).bind (fun r15 => (if r15 = v46_1.2.2.2.2.1 then K46_1 (v46_1.1, v46_1.2.1, v46_1.2.2.1, v46_1.2.2.2.1, v46_1.2.2.2.2.1, v46_1.2.2.2.2.2.1, v46_1.2.2.2.2.2.2 + 1) else (fX2_put 24 v46_1.2.1.2.2.2.1 v46_1.2.2.2.2.2.2 v46_1.2.2.2.2.1).bind (fun r17 => K46_1 (v46_1.1, (v46_1.2.1.1, v46_1.2.1.2.1, v46_1.2.1.2.2.1, r17, v46_1.2.1.2.2.2.2.1, v46_1.2.1.2.2.2.2.2.1, v46_1.2.1.2.2.2.2.2.2.1, v46_1.2.1.2.2.2.2.2.2.2.1, v46_1.2.1.2.2.2.2.2.2.2.2.1, v46_1.2.1.2.2.2.2.2.2.2.2.2), v46_1.2.2.1, v46_1.2.2.2.1, v46_1.2.2.2.2.1, v46_1.2.2.2.2.2.1 + 1, v46_1.2.2.2.2.2.2 + 1))))))
def fX2_drag (bo : BoT) (now : ShT) (sv : (Nat → ShT)) (cu : Int32) (k1 : Int32) (k2 : Int32) (dr : Int32) : Option (Nat ⊕ (Int32 × BoT × ShT × (Nat → ShT))) := tb (fX2_needCurtain cu) (fun r1 => tb (fX2_needRange k1 0 23) (fun r2 => tb (fX2_needRange k2 k1 23) (fun r3 => tb (fX2_needRange dr 0 50) (fun r4 => (fX2_saveState bo now sv).bind (fun r5 => (fX1_dragsOf now cu).bind (fun r6 => (if cu = 0 then lp (fX2_drag_l46) 2000 (r5.1, now, r5.2, k2, dr, 0, k1) else lp (fX2_drag_l46_1) 2000 (r5.1, now, r5.2, k2, dr, 0, k1))))))))
set_option maxHeartbeats 4000000 in
set_option maxRecDepth 100000 in
theorem mtX2_drag (l : Launch) (D : va_G) (t : Nat → ClassId) (bh : Nat) (bk : Nat → Nat) (bo : BoT) (nb : Nat → Nat) (now : ShT) (sa : Nat → Nat) (sb : Nat → Nat → Nat) (sv : (Nat → ShT)) (cu : Int32) (k1 : Int32) (k2 : Int32) (dr : Int32) (out : Int32 × BoT × ShT × (Nat → ShT)) (h : fX2_drag bo now sv cu k1 k2 dr = some (.inr out))  (sz : Nat) : Met l yX2_drag zX2_drag ({ frames := 3, cells := 0, slots := 0, locals := 64 }) (sPc D t (gBo bh bk bo ++ (gS t (bk 0) nb now ++ (gQ t (bk 3) sa ++ (g6 t sa sb sv)))) sz [.ref bh, .int cu, .int k1, .int k2, .int dr]) (qI D t (gBo bh bk out.2.1 ++ (gS t (bk 0) nb out.2.2.1 ++ (gQ t (bk 3) sa ++ (g6 t sa sb out.2.2.2)))) out.1 (va_A (gBo bh bk bo ++ (gS t (bk 0) nb now ++ (gQ t (bk 3) sa ++ (g6 t sa sb sv)))) sz)) 0 0 (va_A (gBo bh bk bo ++ (gS t (bk 0) nb now ++ (gQ t (bk 3) sa ++ (g6 t sa sb sv)))) sz) := by
  refine met_of (Qf := fun A => qI D t (gBo bh bk out.2.1 ++ (gS t (bk 0) nb out.2.2.1 ++ (gQ t (bk 3) sa ++ (g6 t sa sb out.2.2.2)))) out.1 A) (cc := cX2_drag) (maxL := 8) (ret := some .int) (by decide) rfl (Nat.le_of_ble_eq_true rfl) ?_
  intro p e s m args below meth c A hx hb hr hml hts hown hlocks hA hP hK hD hE hS ls hl
  have htB : ∀ w ∈ BIG, w.before args s = true := fun w h => hts w (List.mem_cons_of_mem _ h)
  have hown : s.vm.findClass RX2 = some m.cls := hown
  have hl : lv_has ls 8 [(0, .ref bh), (1, .int cu), (2, .int k1), (3, .int k2), (4, .int dr)] := hl
  unfold fX2_drag at h
  have J46_1 : ∀ (fu46_1 : Nat) (v46_1 : BoT × ShT × (Nat → ShT) × Int32 × Int32 × Int32 × Int32), lp (fX2_drag_l46_1) fu46_1 v46_1 = some (.inr out) → ∀ (H : Heap) (locs : List Loc), va_P D vwCl (gBo bh bk v46_1.1 ++ (gS t (bk 0) nb v46_1.2.1 ++ (gQ t (bk 3) sa ++ (g6 t sa sb v46_1.2.2.1)))) H → va_D A (gBo bh bk v46_1.1 ++ (gS t (bk 0) nb v46_1.2.1 ++ (gQ t (bk 3) sa ++ (g6 t sa sb v46_1.2.2.1)))) → va_S A s.heap H locs → ∀ ls : Array Slot, lv_has ls 8 [(3, .int v46_1.2.2.2.1), (4, .int v46_1.2.2.2.2.1), (5, .ref (nb 3)), (6, .int v46_1.2.2.2.2.2.1), (7, .int v46_1.2.2.2.2.2.2)] → W p l e ({ frames := 3, cells := 0, slots := 0, locals := 64 }) s m args below meth c H locs 0 0 (MQ below (qI D t (gBo bh bk out.2.1 ++ (gS t (bk 0) nb out.2.2.1 ++ (gQ t (bk 3) sa ++ (g6 t sa sb out.2.2.2)))) out.1 A) args s 0 0 A) (F0 m 46 ls []) := by
    intro fu46_1
    induction fu46_1 with
    | zero => intro v46_1 h; cases h
    | succ fu46_1 ih46_1 =>
      intro v46_1 h H locs hP hD hS ls hl
      have h : fX2_drag_l46_1 (lp (fX2_drag_l46_1) fu46_1) v46_1 = some (.inr out) := h
      unfold fX2_drag_l46_1 at h
      refine lv_iload hx hb dX2_drag_46 (lv_at hl 4 rfl) ?_
      refine lv_iload_n hx hb dX2_drag_48 rfl (lv_at hl 0 rfl) ?_
      refine lv_icmp_gt (tgt := 89) hx hb dX2_drag_49 (by decide) (fun c13 => ?_) (fun c13 => ?_)
      · have h := it_p c13 h
        refine lv_iload hx hb dX2_drag_89 (lv_at hl 3 rfl) ?_
        obtain rfl := oi h
        exact ret_i hx hb hr hlocks hP hK hD hS dX2_drag_91
      · have h := it_n c13 h
        refine lv_iload hx hb dX2_drag_52 (lv_at hl 4 rfl) ?_
        refine lv_bipush (v := 24) hx hb dX2_drag_54 (by decide) ?_
        refine lv_icmp_ge (tgt := 89) hx hb dX2_drag_56 (by decide) (fun c14 => ?_) (fun c14 => ?_)
        · have h := it_p c14 h
          refine lv_iload hx hb dX2_drag_89 (lv_at hl 3 rfl) ?_
          obtain rfl := oi h
          exact ret_i hx hb hr hlocks hP hK hD hS dX2_drag_91
        · have h := it_n c14 h
          refine lv_aload hx hb dX2_drag_59 (lv_at hl 2 rfl) ?_
          refine lv_iload hx hb dX2_drag_61 (lv_at hl 4 rfl) ?_
          obtain ⟨r15, h15, h⟩ := ob h
          refine call_i (v := r15) (wc := (gA t (nb 3) 24 v46_1.2.1.2.2.2.1)) (wc' := (gA t (nb 3) 24 v46_1.2.1.2.2.2.1)) (ws' := (gBo bh bk v46_1.1 ++ (gS t (bk 0) nb v46_1.2.1 ++ (gQ t (bk 3) sa ++ (g6 t sa sb v46_1.2.2.1))))) (cutI (wc := (gA t (nb 3) 24 v46_1.2.1.2.2.2.1)) (wc' := (gA t (nb 3) 24 v46_1.2.1.2.2.2.1)) (ws' := (gBo bh bk v46_1.1 ++ (gS t (bk 0) nb v46_1.2.1 ++ (gQ t (bk 3) sa ++ (g6 t sa sb v46_1.2.2.1))))) [5] hP hD hS hA rfl rfl rfl rfl) hS (fun hPc hDc => va_runS (As := [.ref (nb 3), .int v46_1.2.2.2.2.2.2]) (rest := []) ⟨hx, hb, hml, hown, hts⟩ (mtX2_at l D t (nb 3) 24 v46_1.2.1.2.2.2.1 v46_1.2.2.2.2.2.2 r15 h15 (by decide) _) (va_cwS 2 hts (gBS kw157 kw65 kw2 kw66) rfl rfl rfl (by decide +kernel) ⟨Nat.le_of_ble_eq_true rfl, Nat.le_of_ble_eq_true rfl⟩) (sPc_S hPc hK hDc hE) rfl rfl hl.1 rfl (lv_room (Nat.le_of_ble_eq_true rfl)) dX2_drag_63 ⟨Nat.zero_le _, Nat.zero_le _⟩) (fun H locs hP hD hS => ?_)
          refine lv_iload hx hb dX2_drag_66 (lv_at hl 1 rfl) ?_
          refine lv_icmp_eq (tgt := 83) hx hb dX2_drag_68 (by decide) (fun c16 => ?_) (fun c16 => ?_)
          · have h := it_p c16 h
            refine lv_iinc (v := v46_1.2.2.2.2.2.2 + 1) (lv' := [(7, .int (v46_1.2.2.2.2.2.2 + 1)), (3, .int v46_1.2.2.2.1), (4, .int v46_1.2.2.2.2.1), (5, .ref (nb 3)), (6, .int v46_1.2.2.2.2.2.1)]) hx hb dX2_drag_83 hl (k := 4) rfl rfl (by decide) rfl (fun ls hl => ?_)
            refine lv_goto (tgt := 46) hx hb dX2_drag_86 (by decide) ?_
            exact ih46_1 (v46_1.1, v46_1.2.1, v46_1.2.2.1, v46_1.2.2.2.1, v46_1.2.2.2.2.1, v46_1.2.2.2.2.2.1, v46_1.2.2.2.2.2.2 + 1) h _ _ hP hD hS _ (lv_sub hl [1, 2, 3, 4, 0] rfl)
          · have h := it_n c16 h
            refine lv_aload hx hb dX2_drag_71 (lv_at hl 2 rfl) ?_
            refine lv_iload hx hb dX2_drag_73 (lv_at hl 4 rfl) ?_
            refine lv_iload hx hb dX2_drag_75 (lv_at hl 1 rfl) ?_
            obtain ⟨r17, h17, h⟩ := ob h
            refine call_v (wc := (gA t (nb 3) 24 v46_1.2.1.2.2.2.1)) (wc' := (gA t (nb 3) 24 r17)) (ws' := (gBo bh bk v46_1.1 ++ (gS t (bk 0) nb (v46_1.2.1.1, v46_1.2.1.2.1, v46_1.2.1.2.2.1, r17, v46_1.2.1.2.2.2.2.1, v46_1.2.1.2.2.2.2.2.1, v46_1.2.1.2.2.2.2.2.2.1, v46_1.2.1.2.2.2.2.2.2.2.1, v46_1.2.1.2.2.2.2.2.2.2.2.1, v46_1.2.1.2.2.2.2.2.2.2.2.2) ++ (gQ t (bk 3) sa ++ (g6 t sa sb v46_1.2.2.1))))) (cutI (wc := (gA t (nb 3) 24 v46_1.2.1.2.2.2.1)) (wc' := (gA t (nb 3) 24 r17)) (ws' := (gBo bh bk v46_1.1 ++ (gS t (bk 0) nb (v46_1.2.1.1, v46_1.2.1.2.1, v46_1.2.1.2.2.1, r17, v46_1.2.1.2.2.2.2.1, v46_1.2.1.2.2.2.2.2.1, v46_1.2.1.2.2.2.2.2.2.1, v46_1.2.1.2.2.2.2.2.2.2.1, v46_1.2.1.2.2.2.2.2.2.2.2.1, v46_1.2.1.2.2.2.2.2.2.2.2.2) ++ (gQ t (bk 3) sa ++ (g6 t sa sb v46_1.2.2.1))))) [5] hP hD hS hA rfl rfl rfl rfl) hS (fun hPc hDc => va_runS (As := [.ref (nb 3), .int v46_1.2.2.2.2.2.2, .int v46_1.2.2.2.2.1]) (rest := []) ⟨hx, hb, hml, hown, hts⟩ (mtX2_put l D t (nb 3) 24 v46_1.2.1.2.2.2.1 v46_1.2.2.2.2.2.2 v46_1.2.2.2.2.1 r17 h17 (by decide) _) (va_cwS 3 hts (gBS kw210 kw150 kw2 kw151) rfl rfl rfl (by decide +kernel) ⟨Nat.le_of_ble_eq_true rfl, Nat.le_of_ble_eq_true rfl⟩) (sPc_S hPc hK hDc hE) rfl rfl hl.1 rfl (lv_room (Nat.le_of_ble_eq_true rfl)) dX2_drag_77 ⟨Nat.zero_le _, Nat.zero_le _⟩) (fun H locs hP hD hS => ?_)
            refine lv_iinc (v := v46_1.2.2.2.2.2.1 + 1) (lv' := [(6, .int (v46_1.2.2.2.2.2.1 + 1)), (3, .int v46_1.2.2.2.1), (4, .int v46_1.2.2.2.2.1), (5, .ref (nb 3)), (7, .int v46_1.2.2.2.2.2.2)]) hx hb dX2_drag_80 hl (k := 3) rfl rfl (by decide) rfl (fun ls hl => ?_)
            refine lv_iinc (v := v46_1.2.2.2.2.2.2 + 1) (lv' := [(7, .int (v46_1.2.2.2.2.2.2 + 1)), (6, .int (v46_1.2.2.2.2.2.1 + 1)), (3, .int v46_1.2.2.2.1), (4, .int v46_1.2.2.2.2.1), (5, .ref (nb 3))]) hx hb dX2_drag_83 hl (k := 4) rfl rfl (by decide) rfl (fun ls hl => ?_)
            refine lv_goto (tgt := 46) hx hb dX2_drag_86 (by decide) ?_
            exact ih46_1 (v46_1.1, (v46_1.2.1.1, v46_1.2.1.2.1, v46_1.2.1.2.2.1, r17, v46_1.2.1.2.2.2.2.1, v46_1.2.1.2.2.2.2.2.1, v46_1.2.1.2.2.2.2.2.2.1, v46_1.2.1.2.2.2.2.2.2.2.1, v46_1.2.1.2.2.2.2.2.2.2.2.1, v46_1.2.1.2.2.2.2.2.2.2.2.2), v46_1.2.2.1, v46_1.2.2.2.1, v46_1.2.2.2.2.1, v46_1.2.2.2.2.2.1 + 1, v46_1.2.2.2.2.2.2 + 1) h _ _ hP hD hS _ (lv_sub hl [2, 3, 4, 1, 0] rfl)
  have J46 : ∀ (fu46 : Nat) (v46 : BoT × ShT × (Nat → ShT) × Int32 × Int32 × Int32 × Int32), lp (fX2_drag_l46) fu46 v46 = some (.inr out) → ∀ (H : Heap) (locs : List Loc), va_P D vwCl (gBo bh bk v46.1 ++ (gS t (bk 0) nb v46.2.1 ++ (gQ t (bk 3) sa ++ (g6 t sa sb v46.2.2.1)))) H → va_D A (gBo bh bk v46.1 ++ (gS t (bk 0) nb v46.2.1 ++ (gQ t (bk 3) sa ++ (g6 t sa sb v46.2.2.1)))) → va_S A s.heap H locs → ∀ ls : Array Slot, lv_has ls 8 [(3, .int v46.2.2.2.1), (4, .int v46.2.2.2.2.1), (5, .ref (nb 2)), (6, .int v46.2.2.2.2.2.1), (7, .int v46.2.2.2.2.2.2)] → W p l e ({ frames := 3, cells := 0, slots := 0, locals := 64 }) s m args below meth c H locs 0 0 (MQ below (qI D t (gBo bh bk out.2.1 ++ (gS t (bk 0) nb out.2.2.1 ++ (gQ t (bk 3) sa ++ (g6 t sa sb out.2.2.2)))) out.1 A) args s 0 0 A) (F0 m 46 ls []) := by
    intro fu46
    induction fu46 with
    | zero => intro v46 h; cases h
    | succ fu46 ih46 =>
      intro v46 h H locs hP hD hS ls hl
      have h : fX2_drag_l46 (lp (fX2_drag_l46) fu46) v46 = some (.inr out) := h
      unfold fX2_drag_l46 at h
      refine lv_iload hx hb dX2_drag_46 (lv_at hl 4 rfl) ?_
      refine lv_iload_n hx hb dX2_drag_48 rfl (lv_at hl 0 rfl) ?_
      refine lv_icmp_gt (tgt := 89) hx hb dX2_drag_49 (by decide) (fun c8 => ?_) (fun c8 => ?_)
      · have h := it_p c8 h
        refine lv_iload hx hb dX2_drag_89 (lv_at hl 3 rfl) ?_
        obtain rfl := oi h
        exact ret_i hx hb hr hlocks hP hK hD hS dX2_drag_91
      · have h := it_n c8 h
        refine lv_iload hx hb dX2_drag_52 (lv_at hl 4 rfl) ?_
        refine lv_bipush (v := 24) hx hb dX2_drag_54 (by decide) ?_
        refine lv_icmp_ge (tgt := 89) hx hb dX2_drag_56 (by decide) (fun c9 => ?_) (fun c9 => ?_)
        · have h := it_p c9 h
          refine lv_iload hx hb dX2_drag_89 (lv_at hl 3 rfl) ?_
          obtain rfl := oi h
          exact ret_i hx hb hr hlocks hP hK hD hS dX2_drag_91
        · have h := it_n c9 h
          refine lv_aload hx hb dX2_drag_59 (lv_at hl 2 rfl) ?_
          refine lv_iload hx hb dX2_drag_61 (lv_at hl 4 rfl) ?_
          obtain ⟨r10, h10, h⟩ := ob h
          refine call_i (v := r10) (wc := (gA t (nb 2) 24 v46.2.1.2.2.1)) (wc' := (gA t (nb 2) 24 v46.2.1.2.2.1)) (ws' := (gBo bh bk v46.1 ++ (gS t (bk 0) nb v46.2.1 ++ (gQ t (bk 3) sa ++ (g6 t sa sb v46.2.2.1))))) (cutI (wc := (gA t (nb 2) 24 v46.2.1.2.2.1)) (wc' := (gA t (nb 2) 24 v46.2.1.2.2.1)) (ws' := (gBo bh bk v46.1 ++ (gS t (bk 0) nb v46.2.1 ++ (gQ t (bk 3) sa ++ (g6 t sa sb v46.2.2.1))))) [4] hP hD hS hA rfl rfl rfl rfl) hS (fun hPc hDc => va_runS (As := [.ref (nb 2), .int v46.2.2.2.2.2.2]) (rest := []) ⟨hx, hb, hml, hown, hts⟩ (mtX2_at l D t (nb 2) 24 v46.2.1.2.2.1 v46.2.2.2.2.2.2 r10 h10 (by decide) _) (va_cwS 2 hts (gBS kw157 kw65 kw2 kw66) rfl rfl rfl (by decide +kernel) ⟨Nat.le_of_ble_eq_true rfl, Nat.le_of_ble_eq_true rfl⟩) (sPc_S hPc hK hDc hE) rfl rfl hl.1 rfl (lv_room (Nat.le_of_ble_eq_true rfl)) dX2_drag_63 ⟨Nat.zero_le _, Nat.zero_le _⟩) (fun H locs hP hD hS => ?_)
          refine lv_iload hx hb dX2_drag_66 (lv_at hl 1 rfl) ?_
          refine lv_icmp_eq (tgt := 83) hx hb dX2_drag_68 (by decide) (fun c11 => ?_) (fun c11 => ?_)
          · have h := it_p c11 h
            refine lv_iinc (v := v46.2.2.2.2.2.2 + 1) (lv' := [(7, .int (v46.2.2.2.2.2.2 + 1)), (3, .int v46.2.2.2.1), (4, .int v46.2.2.2.2.1), (5, .ref (nb 2)), (6, .int v46.2.2.2.2.2.1)]) hx hb dX2_drag_83 hl (k := 4) rfl rfl (by decide) rfl (fun ls hl => ?_)
            refine lv_goto (tgt := 46) hx hb dX2_drag_86 (by decide) ?_
            exact ih46 (v46.1, v46.2.1, v46.2.2.1, v46.2.2.2.1, v46.2.2.2.2.1, v46.2.2.2.2.2.1, v46.2.2.2.2.2.2 + 1) h _ _ hP hD hS _ (lv_sub hl [1, 2, 3, 4, 0] rfl)
          · have h := it_n c11 h
            refine lv_aload hx hb dX2_drag_71 (lv_at hl 2 rfl) ?_
            refine lv_iload hx hb dX2_drag_73 (lv_at hl 4 rfl) ?_
            refine lv_iload hx hb dX2_drag_75 (lv_at hl 1 rfl) ?_
            obtain ⟨r12, h12, h⟩ := ob h
            refine call_v (wc := (gA t (nb 2) 24 v46.2.1.2.2.1)) (wc' := (gA t (nb 2) 24 r12)) (ws' := (gBo bh bk v46.1 ++ (gS t (bk 0) nb (v46.2.1.1, v46.2.1.2.1, r12, v46.2.1.2.2.2.1, v46.2.1.2.2.2.2.1, v46.2.1.2.2.2.2.2.1, v46.2.1.2.2.2.2.2.2.1, v46.2.1.2.2.2.2.2.2.2.1, v46.2.1.2.2.2.2.2.2.2.2.1, v46.2.1.2.2.2.2.2.2.2.2.2) ++ (gQ t (bk 3) sa ++ (g6 t sa sb v46.2.2.1))))) (cutI (wc := (gA t (nb 2) 24 v46.2.1.2.2.1)) (wc' := (gA t (nb 2) 24 r12)) (ws' := (gBo bh bk v46.1 ++ (gS t (bk 0) nb (v46.2.1.1, v46.2.1.2.1, r12, v46.2.1.2.2.2.1, v46.2.1.2.2.2.2.1, v46.2.1.2.2.2.2.2.1, v46.2.1.2.2.2.2.2.2.1, v46.2.1.2.2.2.2.2.2.2.1, v46.2.1.2.2.2.2.2.2.2.2.1, v46.2.1.2.2.2.2.2.2.2.2.2) ++ (gQ t (bk 3) sa ++ (g6 t sa sb v46.2.2.1))))) [4] hP hD hS hA rfl rfl rfl rfl) hS (fun hPc hDc => va_runS (As := [.ref (nb 2), .int v46.2.2.2.2.2.2, .int v46.2.2.2.2.1]) (rest := []) ⟨hx, hb, hml, hown, hts⟩ (mtX2_put l D t (nb 2) 24 v46.2.1.2.2.1 v46.2.2.2.2.2.2 v46.2.2.2.2.1 r12 h12 (by decide) _) (va_cwS 3 hts (gBS kw210 kw150 kw2 kw151) rfl rfl rfl (by decide +kernel) ⟨Nat.le_of_ble_eq_true rfl, Nat.le_of_ble_eq_true rfl⟩) (sPc_S hPc hK hDc hE) rfl rfl hl.1 rfl (lv_room (Nat.le_of_ble_eq_true rfl)) dX2_drag_77 ⟨Nat.zero_le _, Nat.zero_le _⟩) (fun H locs hP hD hS => ?_)
            refine lv_iinc (v := v46.2.2.2.2.2.1 + 1) (lv' := [(6, .int (v46.2.2.2.2.2.1 + 1)), (3, .int v46.2.2.2.1), (4, .int v46.2.2.2.2.1), (5, .ref (nb 2)), (7, .int v46.2.2.2.2.2.2)]) hx hb dX2_drag_80 hl (k := 3) rfl rfl (by decide) rfl (fun ls hl => ?_)
            refine lv_iinc (v := v46.2.2.2.2.2.2 + 1) (lv' := [(7, .int (v46.2.2.2.2.2.2 + 1)), (6, .int (v46.2.2.2.2.2.1 + 1)), (3, .int v46.2.2.2.1), (4, .int v46.2.2.2.2.1), (5, .ref (nb 2))]) hx hb dX2_drag_83 hl (k := 4) rfl rfl (by decide) rfl (fun ls hl => ?_)
            refine lv_goto (tgt := 46) hx hb dX2_drag_86 (by decide) ?_
            exact ih46 (v46.1, (v46.2.1.1, v46.2.1.2.1, r12, v46.2.1.2.2.2.1, v46.2.1.2.2.2.2.1, v46.2.1.2.2.2.2.2.1, v46.2.1.2.2.2.2.2.2.1, v46.2.1.2.2.2.2.2.2.2.1, v46.2.1.2.2.2.2.2.2.2.2.1, v46.2.1.2.2.2.2.2.2.2.2.2), v46.2.2.1, v46.2.2.2.1, v46.2.2.2.2.1, v46.2.2.2.2.2.1 + 1, v46.2.2.2.2.2.2 + 1) h _ _ hP hD hS _ (lv_sub hl [2, 3, 4, 1, 0] rfl)
  refine lv_iload_n hx hb dX2_drag_0 rfl (lv_at hl 1 rfl) ?_
  obtain ⟨r1, h1, h⟩ := tb_r h
  refine call_v (wc := ([] : va_W)) (wc' := ([] : va_W)) (ws' := (gBo bh bk bo ++ (gS t (bk 0) nb now ++ (gQ t (bk 3) sa ++ (g6 t sa sb sv))))) (cutB (bs := [gBo bh bk bo, gS t (bk 0) nb now, gQ t (bk 3) sa, g6 t sa sb sv]) (cs := []) (cs' := []) (bs' := [gBo bh bk bo, gS t (bk 0) nb now, gQ t (bk 3) sa, g6 t sa sb sv]) [] hP hD hS hA rfl rfl rfl rfl) hS (fun hPc hDc => va_runS (As := [.int cu]) (rest := []) ⟨hx, hb, hml, hown, hts⟩ (mtX2_needCurtain l D t cu r1 h1 _) (va_cwS 1 hts (gBS kw163 kw164 kw2 kw165) rfl rfl rfl (by decide +kernel) ⟨Nat.le_of_ble_eq_true rfl, Nat.le_of_ble_eq_true rfl⟩) (sPc_S hPc hK hDc hE) rfl rfl hl.1 rfl (lv_room (Nat.le_of_ble_eq_true rfl)) dX2_drag_1 ⟨Nat.zero_le _, Nat.zero_le _⟩) (fun H locs hP hD hS => ?_)
  refine lv_iload_n hx hb dX2_drag_4 rfl (lv_at hl 2 rfl) ?_
  refine lv_iconst (v := 0) hx hb dX2_drag_5 (by decide) ?_
  refine lv_bipush (v := 23) hx hb dX2_drag_6 (by decide) ?_
  obtain ⟨r2, h2, h⟩ := tb_r h
  refine call_v (wc := ([] : va_W)) (wc' := ([] : va_W)) (ws' := (gBo bh bk bo ++ (gS t (bk 0) nb now ++ (gQ t (bk 3) sa ++ (g6 t sa sb sv))))) (cutB (bs := [gBo bh bk bo, gS t (bk 0) nb now, gQ t (bk 3) sa, g6 t sa sb sv]) (cs := []) (cs' := []) (bs' := [gBo bh bk bo, gS t (bk 0) nb now, gQ t (bk 3) sa, g6 t sa sb sv]) [] hP hD hS hA rfl rfl rfl rfl) hS (fun hPc hDc => va_runS (As := [.int k1, .int 0, .int 23]) (rest := []) ⟨hx, hb, hml, hown, hts⟩ (mtX2_needRange l D t k1 0 23 r2 h2 _) (va_cwS 3 hts (gBS kw52 kw53 kw2 kw54) rfl rfl rfl (by decide +kernel) ⟨Nat.le_of_ble_eq_true rfl, Nat.le_of_ble_eq_true rfl⟩) (sPc_S hPc hK hDc hE) rfl rfl hl.1 rfl (lv_room (Nat.le_of_ble_eq_true rfl)) dX2_drag_8 ⟨Nat.zero_le _, Nat.zero_le _⟩) (fun H locs hP hD hS => ?_)
  refine lv_iload_n hx hb dX2_drag_11 rfl (lv_at hl 3 rfl) ?_
  refine lv_iload_n hx hb dX2_drag_12 rfl (lv_at hl 2 rfl) ?_
  refine lv_bipush (v := 23) hx hb dX2_drag_13 (by decide) ?_
  obtain ⟨r3, h3, h⟩ := tb_r h
  refine call_v (wc := ([] : va_W)) (wc' := ([] : va_W)) (ws' := (gBo bh bk bo ++ (gS t (bk 0) nb now ++ (gQ t (bk 3) sa ++ (g6 t sa sb sv))))) (cutB (bs := [gBo bh bk bo, gS t (bk 0) nb now, gQ t (bk 3) sa, g6 t sa sb sv]) (cs := []) (cs' := []) (bs' := [gBo bh bk bo, gS t (bk 0) nb now, gQ t (bk 3) sa, g6 t sa sb sv]) [] hP hD hS hA rfl rfl rfl rfl) hS (fun hPc hDc => va_runS (As := [.int k2, .int k1, .int 23]) (rest := []) ⟨hx, hb, hml, hown, hts⟩ (mtX2_needRange l D t k2 k1 23 r3 h3 _) (va_cwS 3 hts (gBS kw52 kw53 kw2 kw54) rfl rfl rfl (by decide +kernel) ⟨Nat.le_of_ble_eq_true rfl, Nat.le_of_ble_eq_true rfl⟩) (sPc_S hPc hK hDc hE) rfl rfl hl.1 rfl (lv_room (Nat.le_of_ble_eq_true rfl)) dX2_drag_15 ⟨Nat.zero_le _, Nat.zero_le _⟩) (fun H locs hP hD hS => ?_)
  refine lv_iload hx hb dX2_drag_18 (lv_at hl 4 rfl) ?_
  refine lv_iconst (v := 0) hx hb dX2_drag_20 (by decide) ?_
  refine lv_bipush (v := 50) hx hb dX2_drag_21 (by decide) ?_
  obtain ⟨r4, h4, h⟩ := tb_r h
  refine call_v (wc := ([] : va_W)) (wc' := ([] : va_W)) (ws' := (gBo bh bk bo ++ (gS t (bk 0) nb now ++ (gQ t (bk 3) sa ++ (g6 t sa sb sv))))) (cutB (bs := [gBo bh bk bo, gS t (bk 0) nb now, gQ t (bk 3) sa, g6 t sa sb sv]) (cs := []) (cs' := []) (bs' := [gBo bh bk bo, gS t (bk 0) nb now, gQ t (bk 3) sa, g6 t sa sb sv]) [] hP hD hS hA rfl rfl rfl rfl) hS (fun hPc hDc => va_runS (As := [.int dr, .int 0, .int 50]) (rest := []) ⟨hx, hb, hml, hown, hts⟩ (mtX2_needRange l D t dr 0 50 r4 h4 _) (va_cwS 3 hts (gBS kw52 kw53 kw2 kw54) rfl rfl rfl (by decide +kernel) ⟨Nat.le_of_ble_eq_true rfl, Nat.le_of_ble_eq_true rfl⟩) (sPc_S hPc hK hDc hE) rfl rfl hl.1 rfl (lv_room (Nat.le_of_ble_eq_true rfl)) dX2_drag_23 ⟨Nat.zero_le _, Nat.zero_le _⟩) (fun H locs hP hD hS => ?_)
  refine lv_aload_n hx hb dX2_drag_26 rfl (lv_at hl 0 rfl) ?_
  obtain ⟨r5, h5, h⟩ := ob h
  refine call_v (wc := (gBo bh bk bo ++ (gS t (bk 0) nb now ++ (gQ t (bk 3) sa ++ (g6 t sa sb sv))))) (wc' := (gBo bh bk r5.1 ++ (gS t (bk 0) nb now ++ (gQ t (bk 3) sa ++ (g6 t sa sb r5.2))))) (ws' := (gBo bh bk r5.1 ++ (gS t (bk 0) nb now ++ (gQ t (bk 3) sa ++ (g6 t sa sb r5.2))))) (cutB (bs := [gBo bh bk bo, gS t (bk 0) nb now, gQ t (bk 3) sa, g6 t sa sb sv]) (cs := [gBo bh bk bo, gS t (bk 0) nb now, gQ t (bk 3) sa, g6 t sa sb sv]) (cs' := [gBo bh bk r5.1, gS t (bk 0) nb now, gQ t (bk 3) sa, g6 t sa sb r5.2]) (bs' := [gBo bh bk r5.1, gS t (bk 0) nb now, gQ t (bk 3) sa, g6 t sa sb r5.2]) [0, 1, 2, 3] hP hD hS hA rfl rfl rfl rfl) hS (fun hPc hDc => va_runV (As := []) (rest := []) ⟨hx, hb, hml, hown, hts⟩ (mtX2_saveState l D t bh bk bo nb now sa sb sv r5 h5 _) (cwV 0 hts (gBV kw201 kw202 kw203 kw2 kw204) rfl rfl rfl (by decide +kernel) ⟨Nat.le_of_ble_eq_true rfl, Nat.le_of_ble_eq_true rfl⟩) (sPc_V hPc hK hDc hE (va_recv hK hP (ci := 2) (q0 := 0) rfl rfl)) rfl rfl hl.1 rfl (lv_room (Nat.le_of_ble_eq_true rfl)) dX2_drag_27 ⟨Nat.zero_le _, Nat.zero_le _⟩) (fun H locs hP hD hS => ?_)
  refine lv_aload_n hx hb dX2_drag_30 rfl (lv_at hl 0 rfl) ?_
  refine va_get (D := D) (ci := 2) (v := .ref (bk 0)) (C := RX2) (T := TX2) (N := 8) hx hb htB inlX2 hown hK hP 0 rfl rfl 0 (by decide) (htB _ kw12) (fun _ h9 => h9) rfl dX2_drag_31 ?_
  refine lv_iload_n hx hb dX2_drag_34 rfl (lv_at hl 1 rfl) ?_
  obtain ⟨r6, h6, h⟩ := ob h
  refine call_r (v := if cu = 0 then nb 2 else nb 3) (wc := (gS t (bk 0) nb now)) (wc' := (gS t (bk 0) nb now)) (ws' := (gBo bh bk r5.1 ++ (gS t (bk 0) nb now ++ (gQ t (bk 3) sa ++ (g6 t sa sb r5.2))))) (cutB (bs := [gBo bh bk r5.1, gS t (bk 0) nb now, gQ t (bk 3) sa, g6 t sa sb r5.2]) (cs := [gS t (bk 0) nb now]) (cs' := [gS t (bk 0) nb now]) (bs' := [gBo bh bk r5.1, gS t (bk 0) nb now, gQ t (bk 3) sa, g6 t sa sb r5.2]) [1] hP hD hS hA rfl rfl rfl rfl) hS (fun hPc hDc => va_runV (As := [.int cu]) (rest := []) ⟨hx, hb, hml, hown, hts⟩ (mtX1_dragsOf l D t (bk 0) nb now cu r6 h6 _) (cwV 1 hts (gBV kw215 kw171 kw172 kw11 kw173) rfl rfl rfl (by decide +kernel) ⟨Nat.le_of_ble_eq_true rfl, Nat.le_of_ble_eq_true rfl⟩) (sPc_V hPc hK hDc hE (va_recv hK hP (ci := 1) (q0 := 1) rfl rfl)) rfl rfl hl.1 rfl (lv_room (Nat.le_of_ble_eq_true rfl)) dX2_drag_35 ⟨Nat.zero_le _, Nat.zero_le _⟩) (fun H locs hP hD hS => ?_)
  by_cases c7 : cu = 0
  · have h := it_p c7 h
    rw [if_pos c7]
    refine lv_astore (lv' := [(5, .ref (nb 2)), (0, .ref bh), (1, .int cu), (2, .int k1), (3, .int k2), (4, .int dr)]) hx hb dX2_drag_38 hl (by decide) rfl (fun ls hl => ?_)
    refine lv_iconst (v := 0) hx hb dX2_drag_40 (by decide) ?_
    refine lv_istore (lv' := [(6, .int 0), (5, .ref (nb 2)), (0, .ref bh), (1, .int cu), (2, .int k1), (3, .int k2), (4, .int dr)]) hx hb dX2_drag_41 hl (by decide) rfl (fun ls hl => ?_)
    refine lv_iload_n hx hb dX2_drag_43 rfl (lv_at hl 4 rfl) ?_
    refine lv_istore (lv' := [(7, .int k1), (6, .int 0), (5, .ref (nb 2)), (0, .ref bh), (1, .int cu), (2, .int k1), (3, .int k2), (4, .int dr)]) hx hb dX2_drag_44 hl (by decide) rfl (fun ls hl => ?_)
    exact J46 2000 (r5.1, now, r5.2, k2, dr, 0, k1) h _ _ hP hD hS _ (lv_sub hl [6, 7, 2, 1, 0] rfl)
  · have h := it_n c7 h
    rw [if_neg c7]
    refine lv_astore (lv' := [(5, .ref (nb 3)), (0, .ref bh), (1, .int cu), (2, .int k1), (3, .int k2), (4, .int dr)]) hx hb dX2_drag_38 hl (by decide) rfl (fun ls hl => ?_)
    refine lv_iconst (v := 0) hx hb dX2_drag_40 (by decide) ?_
    refine lv_istore (lv' := [(6, .int 0), (5, .ref (nb 3)), (0, .ref bh), (1, .int cu), (2, .int k1), (3, .int k2), (4, .int dr)]) hx hb dX2_drag_41 hl (by decide) rfl (fun ls hl => ?_)
    refine lv_iload_n hx hb dX2_drag_43 rfl (lv_at hl 4 rfl) ?_
    refine lv_istore (lv' := [(7, .int k1), (6, .int 0), (5, .ref (nb 3)), (0, .ref bh), (1, .int cu), (2, .int k1), (3, .int k2), (4, .int dr)]) hx hb dX2_drag_44 hl (by decide) rfl (fun ls hl => ?_)
    exact J46_1 2000 (r5.1, now, r5.2, k2, dr, 0, k1) h _ _ hP hD hS _ (lv_sub hl [6, 7, 2, 1, 0] rfl)

theorem dX2_clean_0 : decode cX2_clean 0 = .ok (.iload_n 1, 1) := by decide +kernel
theorem dX2_clean_1 : decode cX2_clean 1 = .ok (.invokestatic 44, 3) := by decide +kernel
theorem dX2_clean_4 : decode cX2_clean 4 = .ok (.aload_n 0, 1) := by decide +kernel
theorem dX2_clean_5 : decode cX2_clean 5 = .ok (.invokevirtual 52, 3) := by decide +kernel
theorem dX2_clean_8 : decode cX2_clean 8 = .ok (.aload_n 0, 1) := by decide +kernel
theorem dX2_clean_9 : decode cX2_clean 9 = .ok (.getfield 10, 3) := by decide +kernel
theorem dX2_clean_12 : decode cX2_clean 12 = .ok (.getfield 70, 3) := by decide +kernel
theorem dX2_clean_15 : decode cX2_clean 15 = .ok (.iload_n 1, 1) := by decide +kernel
theorem dX2_clean_16 : decode cX2_clean 16 = .ok (.invokestatic 58, 3) := by decide +kernel
theorem dX2_clean_19 : decode cX2_clean 19 = .ok (.istore_n 2, 1) := by decide +kernel
theorem dX2_clean_20 : decode cX2_clean 20 = .ok (.aload_n 0, 1) := by decide +kernel
theorem dX2_clean_21 : decode cX2_clean 21 = .ok (.getfield 10, 3) := by decide +kernel
theorem dX2_clean_24 : decode cX2_clean 24 = .ok (.getfield 70, 3) := by decide +kernel
theorem dX2_clean_27 : decode cX2_clean 27 = .ok (.iload_n 1, 1) := by decide +kernel
theorem dX2_clean_28 : decode cX2_clean 28 = .ok (.iconst 0, 1) := by decide +kernel
theorem dX2_clean_29 : decode cX2_clean 29 = .ok (.invokestatic 62, 3) := by decide +kernel
theorem dX2_clean_32 : decode cX2_clean 32 = .ok (.iload_n 2, 1) := by decide +kernel
theorem dX2_clean_33 : decode cX2_clean 33 = .ok (.ireturn, 1) := by decide +kernel
abbrev zX2_clean : List Cond := .code yX2_clean cX2_clean 3 (some .int) :: BIG
def fX2_clean (bo : BoT) (now : ShT) (sv : (Nat → ShT)) (cu : Int32) : Option (Nat ⊕ (Int32 × BoT × ShT × (Nat → ShT))) := tb (fX2_needCurtain cu) (fun r1 => (fX2_saveState bo now sv).bind (fun r2 => (fX2_at 2 now.2.1 cu).bind (fun r3 => (fX2_put 2 now.2.1 cu 0).bind (fun r4 => some (.inr (r3, r2.1, (now.1, r4, now.2.2.1, now.2.2.2.1, now.2.2.2.2.1, now.2.2.2.2.2.1, now.2.2.2.2.2.2.1, now.2.2.2.2.2.2.2.1, now.2.2.2.2.2.2.2.2.1, now.2.2.2.2.2.2.2.2.2), r2.2))))))
set_option maxHeartbeats 4000000 in
set_option maxRecDepth 100000 in
theorem mtX2_clean (l : Launch) (D : va_G) (t : Nat → ClassId) (bh : Nat) (bk : Nat → Nat) (bo : BoT) (nb : Nat → Nat) (now : ShT) (sa : Nat → Nat) (sb : Nat → Nat → Nat) (sv : (Nat → ShT)) (cu : Int32) (out : Int32 × BoT × ShT × (Nat → ShT)) (h : fX2_clean bo now sv cu = some (.inr out))  (sz : Nat) : Met l yX2_clean zX2_clean ({ frames := 3, cells := 0, slots := 0, locals := 64 }) (sPc D t (gBo bh bk bo ++ (gS t (bk 0) nb now ++ (gQ t (bk 3) sa ++ (g6 t sa sb sv)))) sz [.ref bh, .int cu]) (qI D t (gBo bh bk out.2.1 ++ (gS t (bk 0) nb out.2.2.1 ++ (gQ t (bk 3) sa ++ (g6 t sa sb out.2.2.2)))) out.1 (va_A (gBo bh bk bo ++ (gS t (bk 0) nb now ++ (gQ t (bk 3) sa ++ (g6 t sa sb sv)))) sz)) 0 0 (va_A (gBo bh bk bo ++ (gS t (bk 0) nb now ++ (gQ t (bk 3) sa ++ (g6 t sa sb sv)))) sz) := by
  refine met_of (Qf := fun A => qI D t (gBo bh bk out.2.1 ++ (gS t (bk 0) nb out.2.2.1 ++ (gQ t (bk 3) sa ++ (g6 t sa sb out.2.2.2)))) out.1 A) (cc := cX2_clean) (maxL := 3) (ret := some .int) (by decide) rfl (Nat.le_of_ble_eq_true rfl) ?_
  intro p e s m args below meth c A hx hb hr hml hts hown hlocks hA hP hK hD hE hS ls hl
  have htB : ∀ w ∈ BIG, w.before args s = true := fun w h => hts w (List.mem_cons_of_mem _ h)
  have hown : s.vm.findClass RX2 = some m.cls := hown
  have hl : lv_has ls 3 [(0, .ref bh), (1, .int cu)] := hl
  unfold fX2_clean at h
  refine lv_iload_n hx hb dX2_clean_0 rfl (lv_at hl 1 rfl) ?_
  obtain ⟨r1, h1, h⟩ := tb_r h
  refine call_v (wc := ([] : va_W)) (wc' := ([] : va_W)) (ws' := (gBo bh bk bo ++ (gS t (bk 0) nb now ++ (gQ t (bk 3) sa ++ (g6 t sa sb sv))))) (cutB (bs := [gBo bh bk bo, gS t (bk 0) nb now, gQ t (bk 3) sa, g6 t sa sb sv]) (cs := []) (cs' := []) (bs' := [gBo bh bk bo, gS t (bk 0) nb now, gQ t (bk 3) sa, g6 t sa sb sv]) [] hP hD hS hA rfl rfl rfl rfl) hS (fun hPc hDc => va_runS (As := [.int cu]) (rest := []) ⟨hx, hb, hml, hown, hts⟩ (mtX2_needCurtain l D t cu r1 h1 _) (va_cwS 1 hts (gBS kw163 kw164 kw2 kw165) rfl rfl rfl (by decide +kernel) ⟨Nat.le_of_ble_eq_true rfl, Nat.le_of_ble_eq_true rfl⟩) (sPc_S hPc hK hDc hE) rfl rfl hl.1 rfl (lv_room (Nat.le_of_ble_eq_true rfl)) dX2_clean_1 ⟨Nat.zero_le _, Nat.zero_le _⟩) (fun H locs hP hD hS => ?_)
  refine lv_aload_n hx hb dX2_clean_4 rfl (lv_at hl 0 rfl) ?_
  obtain ⟨r2, h2, h⟩ := ob h
  refine call_v (wc := (gBo bh bk bo ++ (gS t (bk 0) nb now ++ (gQ t (bk 3) sa ++ (g6 t sa sb sv))))) (wc' := (gBo bh bk r2.1 ++ (gS t (bk 0) nb now ++ (gQ t (bk 3) sa ++ (g6 t sa sb r2.2))))) (ws' := (gBo bh bk r2.1 ++ (gS t (bk 0) nb now ++ (gQ t (bk 3) sa ++ (g6 t sa sb r2.2))))) (cutB (bs := [gBo bh bk bo, gS t (bk 0) nb now, gQ t (bk 3) sa, g6 t sa sb sv]) (cs := [gBo bh bk bo, gS t (bk 0) nb now, gQ t (bk 3) sa, g6 t sa sb sv]) (cs' := [gBo bh bk r2.1, gS t (bk 0) nb now, gQ t (bk 3) sa, g6 t sa sb r2.2]) (bs' := [gBo bh bk r2.1, gS t (bk 0) nb now, gQ t (bk 3) sa, g6 t sa sb r2.2]) [0, 1, 2, 3] hP hD hS hA rfl rfl rfl rfl) hS (fun hPc hDc => va_runV (As := []) (rest := []) ⟨hx, hb, hml, hown, hts⟩ (mtX2_saveState l D t bh bk bo nb now sa sb sv r2 h2 _) (cwV 0 hts (gBV kw201 kw202 kw203 kw2 kw204) rfl rfl rfl (by decide +kernel) ⟨Nat.le_of_ble_eq_true rfl, Nat.le_of_ble_eq_true rfl⟩) (sPc_V hPc hK hDc hE (va_recv hK hP (ci := 2) (q0 := 0) rfl rfl)) rfl rfl hl.1 rfl (lv_room (Nat.le_of_ble_eq_true rfl)) dX2_clean_5 ⟨Nat.zero_le _, Nat.zero_le _⟩) (fun H locs hP hD hS => ?_)
  refine lv_aload_n hx hb dX2_clean_8 rfl (lv_at hl 0 rfl) ?_
  refine va_get (D := D) (ci := 2) (v := .ref (bk 0)) (C := RX2) (T := TX2) (N := 8) hx hb htB inlX2 hown hK hP 0 rfl rfl 0 (by decide) (htB _ kw12) (fun _ h9 => h9) rfl dX2_clean_9 ?_
  refine va_get (D := D) (ci := 1) (v := .ref (nb 1)) (C := RX1) (T := TX1) (N := 10) hx hb htB inlX1 hown hK hP 1 rfl rfl 1 (by decide) (htB _ kw162) (fun _ h9 => h9) rfl dX2_clean_12 ?_
  refine lv_iload_n hx hb dX2_clean_15 rfl (lv_at hl 1 rfl) ?_
  obtain ⟨r3, h3, h⟩ := ob h
  refine call_i (v := r3) (wc := (gA t (nb 1) 2 now.2.1)) (wc' := (gA t (nb 1) 2 now.2.1)) (ws' := (gBo bh bk r2.1 ++ (gS t (bk 0) nb now ++ (gQ t (bk 3) sa ++ (g6 t sa sb r2.2))))) (cutI (wc := (gA t (nb 1) 2 now.2.1)) (wc' := (gA t (nb 1) 2 now.2.1)) (ws' := (gBo bh bk r2.1 ++ (gS t (bk 0) nb now ++ (gQ t (bk 3) sa ++ (g6 t sa sb r2.2))))) [3] hP hD hS hA rfl rfl rfl rfl) hS (fun hPc hDc => va_runS (As := [.ref (nb 1), .int cu]) (rest := []) ⟨hx, hb, hml, hown, hts⟩ (mtX2_at l D t (nb 1) 2 now.2.1 cu r3 h3 (by decide) _) (va_cwS 2 hts (gBS kw157 kw65 kw2 kw66) rfl rfl rfl (by decide +kernel) ⟨Nat.le_of_ble_eq_true rfl, Nat.le_of_ble_eq_true rfl⟩) (sPc_S hPc hK hDc hE) rfl rfl hl.1 rfl (lv_room (Nat.le_of_ble_eq_true rfl)) dX2_clean_16 ⟨Nat.zero_le _, Nat.zero_le _⟩) (fun H locs hP hD hS => ?_)
  refine lv_istore_n (lv' := [(2, .int r3), (0, .ref bh), (1, .int cu)]) hx hb dX2_clean_19 rfl hl (by decide) rfl (fun ls hl => ?_)
  refine lv_aload_n hx hb dX2_clean_20 rfl (lv_at hl 1 rfl) ?_
  refine va_get (D := D) (ci := 2) (v := .ref (bk 0)) (C := RX2) (T := TX2) (N := 8) hx hb htB inlX2 hown hK hP 0 rfl rfl 0 (by decide) (htB _ kw12) (fun _ h9 => h9) rfl dX2_clean_21 ?_
  refine va_get (D := D) (ci := 1) (v := .ref (nb 1)) (C := RX1) (T := TX1) (N := 10) hx hb htB inlX1 hown hK hP 1 rfl rfl 1 (by decide) (htB _ kw162) (fun _ h9 => h9) rfl dX2_clean_24 ?_
  refine lv_iload_n hx hb dX2_clean_27 rfl (lv_at hl 2 rfl) ?_
  refine lv_iconst (v := 0) hx hb dX2_clean_28 (by decide) ?_
  obtain ⟨r4, h4, h⟩ := ob h
  refine call_v (wc := (gA t (nb 1) 2 now.2.1)) (wc' := (gA t (nb 1) 2 r4)) (ws' := (gBo bh bk r2.1 ++ (gS t (bk 0) nb (now.1, r4, now.2.2.1, now.2.2.2.1, now.2.2.2.2.1, now.2.2.2.2.2.1, now.2.2.2.2.2.2.1, now.2.2.2.2.2.2.2.1, now.2.2.2.2.2.2.2.2.1, now.2.2.2.2.2.2.2.2.2) ++ (gQ t (bk 3) sa ++ (g6 t sa sb r2.2))))) (cutI (wc := (gA t (nb 1) 2 now.2.1)) (wc' := (gA t (nb 1) 2 r4)) (ws' := (gBo bh bk r2.1 ++ (gS t (bk 0) nb (now.1, r4, now.2.2.1, now.2.2.2.1, now.2.2.2.2.1, now.2.2.2.2.2.1, now.2.2.2.2.2.2.1, now.2.2.2.2.2.2.2.1, now.2.2.2.2.2.2.2.2.1, now.2.2.2.2.2.2.2.2.2) ++ (gQ t (bk 3) sa ++ (g6 t sa sb r2.2))))) [3] hP hD hS hA rfl rfl rfl rfl) hS (fun hPc hDc => va_runS (As := [.ref (nb 1), .int cu, .int 0]) (rest := []) ⟨hx, hb, hml, hown, hts⟩ (mtX2_put l D t (nb 1) 2 now.2.1 cu 0 r4 h4 (by decide) _) (va_cwS 3 hts (gBS kw210 kw150 kw2 kw151) rfl rfl rfl (by decide +kernel) ⟨Nat.le_of_ble_eq_true rfl, Nat.le_of_ble_eq_true rfl⟩) (sPc_S hPc hK hDc hE) rfl rfl hl.1 rfl (lv_room (Nat.le_of_ble_eq_true rfl)) dX2_clean_29 ⟨Nat.zero_le _, Nat.zero_le _⟩) (fun H locs hP hD hS => ?_)
  refine lv_iload_n hx hb dX2_clean_32 rfl (lv_at hl 0 rfl) ?_
  obtain rfl := oi h
  exact ret_i hx hb hr hlocks hP hK hD hS dX2_clean_33

theorem dX2_correct_0 : decode cX2_correct 0 = .ok (.iload_n 1, 1) := by decide +kernel
theorem dX2_correct_1 : decode cX2_correct 1 = .ok (.invokestatic 73, 3) := by decide +kernel
theorem dX2_correct_4 : decode cX2_correct 4 = .ok (.iload_n 2, 1) := by decide +kernel
theorem dX2_correct_5 : decode cX2_correct 5 = .ok (.bipush (-50), 2) := by decide +kernel
theorem dX2_correct_7 : decode cX2_correct 7 = .ok (.bipush 50, 2) := by decide +kernel
theorem dX2_correct_9 : decode cX2_correct 9 = .ok (.invokestatic 48, 3) := by decide +kernel
theorem dX2_correct_12 : decode cX2_correct 12 = .ok (.aload_n 0, 1) := by decide +kernel
theorem dX2_correct_13 : decode cX2_correct 13 = .ok (.invokevirtual 52, 3) := by decide +kernel
theorem dX2_correct_16 : decode cX2_correct 16 = .ok (.aload_n 0, 1) := by decide +kernel
theorem dX2_correct_17 : decode cX2_correct 17 = .ok (.getfield 10, 3) := by decide +kernel
theorem dX2_correct_20 : decode cX2_correct 20 = .ok (.getfield 76, 3) := by decide +kernel
theorem dX2_correct_23 : decode cX2_correct 23 = .ok (.iload_n 1, 1) := by decide +kernel
theorem dX2_correct_24 : decode cX2_correct 24 = .ok (.invokestatic 58, 3) := by decide +kernel
theorem dX2_correct_27 : decode cX2_correct 27 = .ok (.istore_n 3, 1) := by decide +kernel
theorem dX2_correct_28 : decode cX2_correct 28 = .ok (.aload_n 0, 1) := by decide +kernel
theorem dX2_correct_29 : decode cX2_correct 29 = .ok (.getfield 10, 3) := by decide +kernel
theorem dX2_correct_32 : decode cX2_correct 32 = .ok (.getfield 76, 3) := by decide +kernel
theorem dX2_correct_35 : decode cX2_correct 35 = .ok (.iload_n 1, 1) := by decide +kernel
theorem dX2_correct_36 : decode cX2_correct 36 = .ok (.iload_n 2, 1) := by decide +kernel
theorem dX2_correct_37 : decode cX2_correct 37 = .ok (.invokestatic 62, 3) := by decide +kernel
theorem dX2_correct_40 : decode cX2_correct 40 = .ok (.iload_n 3, 1) := by decide +kernel
theorem dX2_correct_41 : decode cX2_correct 41 = .ok (.bipush 100, 2) := by decide +kernel
theorem dX2_correct_43 : decode cX2_correct 43 = .ok (.iadd, 1) := by decide +kernel
theorem dX2_correct_44 : decode cX2_correct 44 = .ok (.ireturn, 1) := by decide +kernel
abbrev zX2_correct : List Cond := .code yX2_correct cX2_correct 4 (some .int) :: BIG
def fX2_correct (bo : BoT) (now : ShT) (sv : (Nat → ShT)) (v : Int32) (w : Int32) : Option (Nat ⊕ (Int32 × BoT × ShT × (Nat → ShT))) := tb (fX2_needSpeed v) (fun r1 => tb (fX2_needRange w (-50) 50) (fun r2 => (fX2_saveState bo now sv).bind (fun r3 => (fX2_at 6 now.2.2.2.2.1 v).bind (fun r4 => (fX2_put 6 now.2.2.2.2.1 v w).bind (fun r5 => some (.inr (r4 + 100, r3.1, (now.1, now.2.1, now.2.2.1, now.2.2.2.1, r5, now.2.2.2.2.2.1, now.2.2.2.2.2.2.1, now.2.2.2.2.2.2.2.1, now.2.2.2.2.2.2.2.2.1, now.2.2.2.2.2.2.2.2.2), r3.2)))))))
set_option maxHeartbeats 4000000 in
set_option maxRecDepth 100000 in
theorem mtX2_correct (l : Launch) (D : va_G) (t : Nat → ClassId) (bh : Nat) (bk : Nat → Nat) (bo : BoT) (nb : Nat → Nat) (now : ShT) (sa : Nat → Nat) (sb : Nat → Nat → Nat) (sv : (Nat → ShT)) (v : Int32) (w : Int32) (out : Int32 × BoT × ShT × (Nat → ShT)) (h : fX2_correct bo now sv v w = some (.inr out))  (sz : Nat) : Met l yX2_correct zX2_correct ({ frames := 3, cells := 0, slots := 0, locals := 64 }) (sPc D t (gBo bh bk bo ++ (gS t (bk 0) nb now ++ (gQ t (bk 3) sa ++ (g6 t sa sb sv)))) sz [.ref bh, .int v, .int w]) (qI D t (gBo bh bk out.2.1 ++ (gS t (bk 0) nb out.2.2.1 ++ (gQ t (bk 3) sa ++ (g6 t sa sb out.2.2.2)))) out.1 (va_A (gBo bh bk bo ++ (gS t (bk 0) nb now ++ (gQ t (bk 3) sa ++ (g6 t sa sb sv)))) sz)) 0 0 (va_A (gBo bh bk bo ++ (gS t (bk 0) nb now ++ (gQ t (bk 3) sa ++ (g6 t sa sb sv)))) sz) := by
  refine met_of (Qf := fun A => qI D t (gBo bh bk out.2.1 ++ (gS t (bk 0) nb out.2.2.1 ++ (gQ t (bk 3) sa ++ (g6 t sa sb out.2.2.2)))) out.1 A) (cc := cX2_correct) (maxL := 4) (ret := some .int) (by decide) rfl (Nat.le_of_ble_eq_true rfl) ?_
  intro p e s m args below meth c A hx hb hr hml hts hown hlocks hA hP hK hD hE hS ls hl
  have htB : ∀ w ∈ BIG, w.before args s = true := fun w h => hts w (List.mem_cons_of_mem _ h)
  have hown : s.vm.findClass RX2 = some m.cls := hown
  have hl : lv_has ls 4 [(0, .ref bh), (1, .int v), (2, .int w)] := hl
  unfold fX2_correct at h
  refine lv_iload_n hx hb dX2_correct_0 rfl (lv_at hl 1 rfl) ?_
  obtain ⟨r1, h1, h⟩ := tb_r h
  refine call_v (wc := ([] : va_W)) (wc' := ([] : va_W)) (ws' := (gBo bh bk bo ++ (gS t (bk 0) nb now ++ (gQ t (bk 3) sa ++ (g6 t sa sb sv))))) (cutB (bs := [gBo bh bk bo, gS t (bk 0) nb now, gQ t (bk 3) sa, g6 t sa sb sv]) (cs := []) (cs' := []) (bs' := [gBo bh bk bo, gS t (bk 0) nb now, gQ t (bk 3) sa, g6 t sa sb sv]) [] hP hD hS hA rfl rfl rfl rfl) hS (fun hPc hDc => va_runS (As := [.int v]) (rest := []) ⟨hx, hb, hml, hown, hts⟩ (mtX2_needSpeed l D t v r1 h1 _) (va_cwS 1 hts (gBS kw82 kw83 kw2 kw84) rfl rfl rfl (by decide +kernel) ⟨Nat.le_of_ble_eq_true rfl, Nat.le_of_ble_eq_true rfl⟩) (sPc_S hPc hK hDc hE) rfl rfl hl.1 rfl (lv_room (Nat.le_of_ble_eq_true rfl)) dX2_correct_1 ⟨Nat.zero_le _, Nat.zero_le _⟩) (fun H locs hP hD hS => ?_)
  refine lv_iload_n hx hb dX2_correct_4 rfl (lv_at hl 2 rfl) ?_
  refine lv_bipush (v := (-50)) hx hb dX2_correct_5 (by decide) ?_
  refine lv_bipush (v := 50) hx hb dX2_correct_7 (by decide) ?_
  obtain ⟨r2, h2, h⟩ := tb_r h
  refine call_v (wc := ([] : va_W)) (wc' := ([] : va_W)) (ws' := (gBo bh bk bo ++ (gS t (bk 0) nb now ++ (gQ t (bk 3) sa ++ (g6 t sa sb sv))))) (cutB (bs := [gBo bh bk bo, gS t (bk 0) nb now, gQ t (bk 3) sa, g6 t sa sb sv]) (cs := []) (cs' := []) (bs' := [gBo bh bk bo, gS t (bk 0) nb now, gQ t (bk 3) sa, g6 t sa sb sv]) [] hP hD hS hA rfl rfl rfl rfl) hS (fun hPc hDc => va_runS (As := [.int w, .int (-50), .int 50]) (rest := []) ⟨hx, hb, hml, hown, hts⟩ (mtX2_needRange l D t w (-50) 50 r2 h2 _) (va_cwS 3 hts (gBS kw52 kw53 kw2 kw54) rfl rfl rfl (by decide +kernel) ⟨Nat.le_of_ble_eq_true rfl, Nat.le_of_ble_eq_true rfl⟩) (sPc_S hPc hK hDc hE) rfl rfl hl.1 rfl (lv_room (Nat.le_of_ble_eq_true rfl)) dX2_correct_9 ⟨Nat.zero_le _, Nat.zero_le _⟩) (fun H locs hP hD hS => ?_)
  refine lv_aload_n hx hb dX2_correct_12 rfl (lv_at hl 0 rfl) ?_
  obtain ⟨r3, h3, h⟩ := ob h
  refine call_v (wc := (gBo bh bk bo ++ (gS t (bk 0) nb now ++ (gQ t (bk 3) sa ++ (g6 t sa sb sv))))) (wc' := (gBo bh bk r3.1 ++ (gS t (bk 0) nb now ++ (gQ t (bk 3) sa ++ (g6 t sa sb r3.2))))) (ws' := (gBo bh bk r3.1 ++ (gS t (bk 0) nb now ++ (gQ t (bk 3) sa ++ (g6 t sa sb r3.2))))) (cutB (bs := [gBo bh bk bo, gS t (bk 0) nb now, gQ t (bk 3) sa, g6 t sa sb sv]) (cs := [gBo bh bk bo, gS t (bk 0) nb now, gQ t (bk 3) sa, g6 t sa sb sv]) (cs' := [gBo bh bk r3.1, gS t (bk 0) nb now, gQ t (bk 3) sa, g6 t sa sb r3.2]) (bs' := [gBo bh bk r3.1, gS t (bk 0) nb now, gQ t (bk 3) sa, g6 t sa sb r3.2]) [0, 1, 2, 3] hP hD hS hA rfl rfl rfl rfl) hS (fun hPc hDc => va_runV (As := []) (rest := []) ⟨hx, hb, hml, hown, hts⟩ (mtX2_saveState l D t bh bk bo nb now sa sb sv r3 h3 _) (cwV 0 hts (gBV kw201 kw202 kw203 kw2 kw204) rfl rfl rfl (by decide +kernel) ⟨Nat.le_of_ble_eq_true rfl, Nat.le_of_ble_eq_true rfl⟩) (sPc_V hPc hK hDc hE (va_recv hK hP (ci := 2) (q0 := 0) rfl rfl)) rfl rfl hl.1 rfl (lv_room (Nat.le_of_ble_eq_true rfl)) dX2_correct_13 ⟨Nat.zero_le _, Nat.zero_le _⟩) (fun H locs hP hD hS => ?_)
  refine lv_aload_n hx hb dX2_correct_16 rfl (lv_at hl 0 rfl) ?_
  refine va_get (D := D) (ci := 2) (v := .ref (bk 0)) (C := RX2) (T := TX2) (N := 8) hx hb htB inlX2 hown hK hP 0 rfl rfl 0 (by decide) (htB _ kw12) (fun _ h9 => h9) rfl dX2_correct_17 ?_
  refine va_get (D := D) (ci := 1) (v := .ref (nb 4)) (C := RX1) (T := TX1) (N := 10) hx hb htB inlX1 hown hK hP 1 rfl rfl 4 (by decide) (htB _ kw187) (fun _ h9 => h9) rfl dX2_correct_20 ?_
  refine lv_iload_n hx hb dX2_correct_23 rfl (lv_at hl 1 rfl) ?_
  obtain ⟨r4, h4, h⟩ := ob h
  refine call_i (v := r4) (wc := (gA t (nb 4) 6 now.2.2.2.2.1)) (wc' := (gA t (nb 4) 6 now.2.2.2.2.1)) (ws' := (gBo bh bk r3.1 ++ (gS t (bk 0) nb now ++ (gQ t (bk 3) sa ++ (g6 t sa sb r3.2))))) (cutI (wc := (gA t (nb 4) 6 now.2.2.2.2.1)) (wc' := (gA t (nb 4) 6 now.2.2.2.2.1)) (ws' := (gBo bh bk r3.1 ++ (gS t (bk 0) nb now ++ (gQ t (bk 3) sa ++ (g6 t sa sb r3.2))))) [6] hP hD hS hA rfl rfl rfl rfl) hS (fun hPc hDc => va_runS (As := [.ref (nb 4), .int v]) (rest := []) ⟨hx, hb, hml, hown, hts⟩ (mtX2_at l D t (nb 4) 6 now.2.2.2.2.1 v r4 h4 (by decide) _) (va_cwS 2 hts (gBS kw157 kw65 kw2 kw66) rfl rfl rfl (by decide +kernel) ⟨Nat.le_of_ble_eq_true rfl, Nat.le_of_ble_eq_true rfl⟩) (sPc_S hPc hK hDc hE) rfl rfl hl.1 rfl (lv_room (Nat.le_of_ble_eq_true rfl)) dX2_correct_24 ⟨Nat.zero_le _, Nat.zero_le _⟩) (fun H locs hP hD hS => ?_)
  refine lv_istore_n (lv' := [(3, .int r4), (0, .ref bh), (1, .int v), (2, .int w)]) hx hb dX2_correct_27 rfl hl (by decide) rfl (fun ls hl => ?_)
  refine lv_aload_n hx hb dX2_correct_28 rfl (lv_at hl 1 rfl) ?_
  refine va_get (D := D) (ci := 2) (v := .ref (bk 0)) (C := RX2) (T := TX2) (N := 8) hx hb htB inlX2 hown hK hP 0 rfl rfl 0 (by decide) (htB _ kw12) (fun _ h9 => h9) rfl dX2_correct_29 ?_
  refine va_get (D := D) (ci := 1) (v := .ref (nb 4)) (C := RX1) (T := TX1) (N := 10) hx hb htB inlX1 hown hK hP 1 rfl rfl 4 (by decide) (htB _ kw187) (fun _ h9 => h9) rfl dX2_correct_32 ?_
  refine lv_iload_n hx hb dX2_correct_35 rfl (lv_at hl 2 rfl) ?_
  refine lv_iload_n hx hb dX2_correct_36 rfl (lv_at hl 3 rfl) ?_
  obtain ⟨r5, h5, h⟩ := ob h
  refine call_v (wc := (gA t (nb 4) 6 now.2.2.2.2.1)) (wc' := (gA t (nb 4) 6 r5)) (ws' := (gBo bh bk r3.1 ++ (gS t (bk 0) nb (now.1, now.2.1, now.2.2.1, now.2.2.2.1, r5, now.2.2.2.2.2.1, now.2.2.2.2.2.2.1, now.2.2.2.2.2.2.2.1, now.2.2.2.2.2.2.2.2.1, now.2.2.2.2.2.2.2.2.2) ++ (gQ t (bk 3) sa ++ (g6 t sa sb r3.2))))) (cutI (wc := (gA t (nb 4) 6 now.2.2.2.2.1)) (wc' := (gA t (nb 4) 6 r5)) (ws' := (gBo bh bk r3.1 ++ (gS t (bk 0) nb (now.1, now.2.1, now.2.2.1, now.2.2.2.1, r5, now.2.2.2.2.2.1, now.2.2.2.2.2.2.1, now.2.2.2.2.2.2.2.1, now.2.2.2.2.2.2.2.2.1, now.2.2.2.2.2.2.2.2.2) ++ (gQ t (bk 3) sa ++ (g6 t sa sb r3.2))))) [6] hP hD hS hA rfl rfl rfl rfl) hS (fun hPc hDc => va_runS (As := [.ref (nb 4), .int v, .int w]) (rest := []) ⟨hx, hb, hml, hown, hts⟩ (mtX2_put l D t (nb 4) 6 now.2.2.2.2.1 v w r5 h5 (by decide) _) (va_cwS 3 hts (gBS kw210 kw150 kw2 kw151) rfl rfl rfl (by decide +kernel) ⟨Nat.le_of_ble_eq_true rfl, Nat.le_of_ble_eq_true rfl⟩) (sPc_S hPc hK hDc hE) rfl rfl hl.1 rfl (lv_room (Nat.le_of_ble_eq_true rfl)) dX2_correct_37 ⟨Nat.zero_le _, Nat.zero_le _⟩) (fun H locs hP hD hS => ?_)
  refine lv_iload_n hx hb dX2_correct_40 rfl (lv_at hl 0 rfl) ?_
  refine lv_bipush (v := 100) hx hb dX2_correct_41 (by decide) ?_
  refine lv_iadd hx hb dX2_correct_43 ?_
  obtain rfl := oi h
  exact ret_i hx hb hr hlocks hP hK hD hS dX2_correct_44

theorem dX2_set_0 : decode cX2_set 0 = .ok (.iload_n 1, 1) := by decide +kernel
theorem dX2_set_1 : decode cX2_set 1 = .ok (.invokestatic 79, 3) := by decide +kernel
theorem dX2_set_4 : decode cX2_set 4 = .ok (.iload_n 2, 1) := by decide +kernel
theorem dX2_set_5 : decode cX2_set 5 = .ok (.iload_n 1, 1) := by decide +kernel
theorem dX2_set_6 : decode cX2_set 6 = .ok (.invokestatic 82, 3) := by decide +kernel
theorem dX2_set_9 : decode cX2_set 9 = .ok (.iload_n 1, 1) := by decide +kernel
theorem dX2_set_10 : decode cX2_set 10 = .ok (.invokestatic 86, 3) := by decide +kernel
theorem dX2_set_13 : decode cX2_set 13 = .ok (.invokestatic 48, 3) := by decide +kernel
theorem dX2_set_16 : decode cX2_set 16 = .ok (.aload_n 0, 1) := by decide +kernel
theorem dX2_set_17 : decode cX2_set 17 = .ok (.invokevirtual 52, 3) := by decide +kernel
theorem dX2_set_20 : decode cX2_set 20 = .ok (.aload_n 0, 1) := by decide +kernel
theorem dX2_set_21 : decode cX2_set 21 = .ok (.getfield 10, 3) := by decide +kernel
theorem dX2_set_24 : decode cX2_set 24 = .ok (.getfield 89, 3) := by decide +kernel
theorem dX2_set_27 : decode cX2_set 27 = .ok (.iload_n 1, 1) := by decide +kernel
theorem dX2_set_28 : decode cX2_set 28 = .ok (.invokestatic 58, 3) := by decide +kernel
theorem dX2_set_31 : decode cX2_set 31 = .ok (.istore_n 3, 1) := by decide +kernel
theorem dX2_set_32 : decode cX2_set 32 = .ok (.aload_n 0, 1) := by decide +kernel
theorem dX2_set_33 : decode cX2_set 33 = .ok (.getfield 10, 3) := by decide +kernel
theorem dX2_set_36 : decode cX2_set 36 = .ok (.getfield 89, 3) := by decide +kernel
theorem dX2_set_39 : decode cX2_set 39 = .ok (.iload_n 1, 1) := by decide +kernel
theorem dX2_set_40 : decode cX2_set 40 = .ok (.iload_n 2, 1) := by decide +kernel
theorem dX2_set_41 : decode cX2_set 41 = .ok (.invokestatic 62, 3) := by decide +kernel
theorem dX2_set_44 : decode cX2_set 44 = .ok (.iload_n 3, 1) := by decide +kernel
theorem dX2_set_45 : decode cX2_set 45 = .ok (.ireturn, 1) := by decide +kernel
abbrev zX2_set : List Cond := .code yX2_set cX2_set 4 (some .int) :: BIG
def fX2_set (bo : BoT) (now : ShT) (sv : (Nat → ShT)) (v : Int32) (w : Int32) : Option (Nat ⊕ (Int32 × BoT × ShT × (Nat → ShT))) := tb (fX2_needSetting v) (fun r1 => (fX2_leastValue v).bind (fun r2 => (fX2_mostValue v).bind (fun r3 => tb (fX2_needRange w r2 r3) (fun r4 => (fX2_saveState bo now sv).bind (fun r5 => (fX2_at 4 now.2.2.2.2.2.1 v).bind (fun r6 => (fX2_put 4 now.2.2.2.2.2.1 v w).bind (fun r7 => some (.inr (r6, r5.1, (now.1, now.2.1, now.2.2.1, now.2.2.2.1, now.2.2.2.2.1, r7, now.2.2.2.2.2.2.1, now.2.2.2.2.2.2.2.1, now.2.2.2.2.2.2.2.2.1, now.2.2.2.2.2.2.2.2.2), r5.2)))))))))
set_option maxHeartbeats 4000000 in
set_option maxRecDepth 100000 in
theorem mtX2_set (l : Launch) (D : va_G) (t : Nat → ClassId) (bh : Nat) (bk : Nat → Nat) (bo : BoT) (nb : Nat → Nat) (now : ShT) (sa : Nat → Nat) (sb : Nat → Nat → Nat) (sv : (Nat → ShT)) (v : Int32) (w : Int32) (out : Int32 × BoT × ShT × (Nat → ShT)) (h : fX2_set bo now sv v w = some (.inr out))  (sz : Nat) : Met l yX2_set zX2_set ({ frames := 3, cells := 0, slots := 0, locals := 64 }) (sPc D t (gBo bh bk bo ++ (gS t (bk 0) nb now ++ (gQ t (bk 3) sa ++ (g6 t sa sb sv)))) sz [.ref bh, .int v, .int w]) (qI D t (gBo bh bk out.2.1 ++ (gS t (bk 0) nb out.2.2.1 ++ (gQ t (bk 3) sa ++ (g6 t sa sb out.2.2.2)))) out.1 (va_A (gBo bh bk bo ++ (gS t (bk 0) nb now ++ (gQ t (bk 3) sa ++ (g6 t sa sb sv)))) sz)) 0 0 (va_A (gBo bh bk bo ++ (gS t (bk 0) nb now ++ (gQ t (bk 3) sa ++ (g6 t sa sb sv)))) sz) := by
  refine met_of (Qf := fun A => qI D t (gBo bh bk out.2.1 ++ (gS t (bk 0) nb out.2.2.1 ++ (gQ t (bk 3) sa ++ (g6 t sa sb out.2.2.2)))) out.1 A) (cc := cX2_set) (maxL := 4) (ret := some .int) (by decide) rfl (Nat.le_of_ble_eq_true rfl) ?_
  intro p e s m args below meth c A hx hb hr hml hts hown hlocks hA hP hK hD hE hS ls hl
  have htB : ∀ w ∈ BIG, w.before args s = true := fun w h => hts w (List.mem_cons_of_mem _ h)
  have hown : s.vm.findClass RX2 = some m.cls := hown
  have hl : lv_has ls 4 [(0, .ref bh), (1, .int v), (2, .int w)] := hl
  unfold fX2_set at h
  refine lv_iload_n hx hb dX2_set_0 rfl (lv_at hl 1 rfl) ?_
  obtain ⟨r1, h1, h⟩ := tb_r h
  refine call_v (wc := ([] : va_W)) (wc' := ([] : va_W)) (ws' := (gBo bh bk bo ++ (gS t (bk 0) nb now ++ (gQ t (bk 3) sa ++ (g6 t sa sb sv))))) (cutB (bs := [gBo bh bk bo, gS t (bk 0) nb now, gQ t (bk 3) sa, g6 t sa sb sv]) (cs := []) (cs' := []) (bs' := [gBo bh bk bo, gS t (bk 0) nb now, gQ t (bk 3) sa, g6 t sa sb sv]) [] hP hD hS hA rfl rfl rfl rfl) hS (fun hPc hDc => va_runS (As := [.int v]) (rest := []) ⟨hx, hb, hml, hown, hts⟩ (mtX2_needSetting l D t v r1 h1 _) (va_cwS 1 hts (gBS kw229 kw230 kw2 kw231) rfl rfl rfl (by decide +kernel) ⟨Nat.le_of_ble_eq_true rfl, Nat.le_of_ble_eq_true rfl⟩) (sPc_S hPc hK hDc hE) rfl rfl hl.1 rfl (lv_room (Nat.le_of_ble_eq_true rfl)) dX2_set_1 ⟨Nat.zero_le _, Nat.zero_le _⟩) (fun H locs hP hD hS => ?_)
  refine lv_iload_n hx hb dX2_set_4 rfl (lv_at hl 2 rfl) ?_
  refine lv_iload_n hx hb dX2_set_5 rfl (lv_at hl 1 rfl) ?_
  obtain ⟨r2, h2, h⟩ := ob h
  refine call_i (v := r2) (wc := ([] : va_W)) (wc' := ([] : va_W)) (ws' := (gBo bh bk bo ++ (gS t (bk 0) nb now ++ (gQ t (bk 3) sa ++ (g6 t sa sb sv))))) (cutB (bs := [gBo bh bk bo, gS t (bk 0) nb now, gQ t (bk 3) sa, g6 t sa sb sv]) (cs := []) (cs' := []) (bs' := [gBo bh bk bo, gS t (bk 0) nb now, gQ t (bk 3) sa, g6 t sa sb sv]) [] hP hD hS hA rfl rfl rfl rfl) hS (fun hPc hDc => va_runS (As := [.int v]) (rest := [.int w]) ⟨hx, hb, hml, hown, hts⟩ (mtX2_leastValue l D t v r2 h2 _) (va_cwS 1 hts (gBS kw232 kw233 kw2 kw234) rfl rfl rfl (by decide +kernel) ⟨Nat.le_of_ble_eq_true rfl, Nat.le_of_ble_eq_true rfl⟩) (sPc_S hPc hK hDc hE) rfl rfl hl.1 rfl (lv_room (Nat.le_of_ble_eq_true rfl)) dX2_set_6 ⟨Nat.zero_le _, Nat.zero_le _⟩) (fun H locs hP hD hS => ?_)
  refine lv_iload_n hx hb dX2_set_9 rfl (lv_at hl 1 rfl) ?_
  obtain ⟨r3, h3, h⟩ := ob h
  refine call_i (v := r3) (wc := ([] : va_W)) (wc' := ([] : va_W)) (ws' := (gBo bh bk bo ++ (gS t (bk 0) nb now ++ (gQ t (bk 3) sa ++ (g6 t sa sb sv))))) (cutB (bs := [gBo bh bk bo, gS t (bk 0) nb now, gQ t (bk 3) sa, g6 t sa sb sv]) (cs := []) (cs' := []) (bs' := [gBo bh bk bo, gS t (bk 0) nb now, gQ t (bk 3) sa, g6 t sa sb sv]) [] hP hD hS hA rfl rfl rfl rfl) hS (fun hPc hDc => va_runS (As := [.int v]) (rest := [.int r2, .int w]) ⟨hx, hb, hml, hown, hts⟩ (mtX2_mostValue l D t v r3 h3 _) (va_cwS 1 hts (gBS kw235 kw236 kw2 kw237) rfl rfl rfl (by decide +kernel) ⟨Nat.le_of_ble_eq_true rfl, Nat.le_of_ble_eq_true rfl⟩) (sPc_S hPc hK hDc hE) rfl rfl hl.1 rfl (lv_room (Nat.le_of_ble_eq_true rfl)) dX2_set_10 ⟨Nat.zero_le _, Nat.zero_le _⟩) (fun H locs hP hD hS => ?_)
  obtain ⟨r4, h4, h⟩ := tb_r h
  refine call_v (wc := ([] : va_W)) (wc' := ([] : va_W)) (ws' := (gBo bh bk bo ++ (gS t (bk 0) nb now ++ (gQ t (bk 3) sa ++ (g6 t sa sb sv))))) (cutB (bs := [gBo bh bk bo, gS t (bk 0) nb now, gQ t (bk 3) sa, g6 t sa sb sv]) (cs := []) (cs' := []) (bs' := [gBo bh bk bo, gS t (bk 0) nb now, gQ t (bk 3) sa, g6 t sa sb sv]) [] hP hD hS hA rfl rfl rfl rfl) hS (fun hPc hDc => va_runS (As := [.int w, .int r2, .int r3]) (rest := []) ⟨hx, hb, hml, hown, hts⟩ (mtX2_needRange l D t w r2 r3 r4 h4 _) (va_cwS 3 hts (gBS kw52 kw53 kw2 kw54) rfl rfl rfl (by decide +kernel) ⟨Nat.le_of_ble_eq_true rfl, Nat.le_of_ble_eq_true rfl⟩) (sPc_S hPc hK hDc hE) rfl rfl hl.1 rfl (lv_room (Nat.le_of_ble_eq_true rfl)) dX2_set_13 ⟨Nat.zero_le _, Nat.zero_le _⟩) (fun H locs hP hD hS => ?_)
  refine lv_aload_n hx hb dX2_set_16 rfl (lv_at hl 0 rfl) ?_
  obtain ⟨r5, h5, h⟩ := ob h
  refine call_v (wc := (gBo bh bk bo ++ (gS t (bk 0) nb now ++ (gQ t (bk 3) sa ++ (g6 t sa sb sv))))) (wc' := (gBo bh bk r5.1 ++ (gS t (bk 0) nb now ++ (gQ t (bk 3) sa ++ (g6 t sa sb r5.2))))) (ws' := (gBo bh bk r5.1 ++ (gS t (bk 0) nb now ++ (gQ t (bk 3) sa ++ (g6 t sa sb r5.2))))) (cutB (bs := [gBo bh bk bo, gS t (bk 0) nb now, gQ t (bk 3) sa, g6 t sa sb sv]) (cs := [gBo bh bk bo, gS t (bk 0) nb now, gQ t (bk 3) sa, g6 t sa sb sv]) (cs' := [gBo bh bk r5.1, gS t (bk 0) nb now, gQ t (bk 3) sa, g6 t sa sb r5.2]) (bs' := [gBo bh bk r5.1, gS t (bk 0) nb now, gQ t (bk 3) sa, g6 t sa sb r5.2]) [0, 1, 2, 3] hP hD hS hA rfl rfl rfl rfl) hS (fun hPc hDc => va_runV (As := []) (rest := []) ⟨hx, hb, hml, hown, hts⟩ (mtX2_saveState l D t bh bk bo nb now sa sb sv r5 h5 _) (cwV 0 hts (gBV kw201 kw202 kw203 kw2 kw204) rfl rfl rfl (by decide +kernel) ⟨Nat.le_of_ble_eq_true rfl, Nat.le_of_ble_eq_true rfl⟩) (sPc_V hPc hK hDc hE (va_recv hK hP (ci := 2) (q0 := 0) rfl rfl)) rfl rfl hl.1 rfl (lv_room (Nat.le_of_ble_eq_true rfl)) dX2_set_17 ⟨Nat.zero_le _, Nat.zero_le _⟩) (fun H locs hP hD hS => ?_)
  refine lv_aload_n hx hb dX2_set_20 rfl (lv_at hl 0 rfl) ?_
  refine va_get (D := D) (ci := 2) (v := .ref (bk 0)) (C := RX2) (T := TX2) (N := 8) hx hb htB inlX2 hown hK hP 0 rfl rfl 0 (by decide) (htB _ kw12) (fun _ h9 => h9) rfl dX2_set_21 ?_
  refine va_get (D := D) (ci := 1) (v := .ref (nb 5)) (C := RX1) (T := TX1) (N := 10) hx hb htB inlX1 hown hK hP 1 rfl rfl 5 (by decide) (htB _ kw228) (fun _ h9 => h9) rfl dX2_set_24 ?_
  refine lv_iload_n hx hb dX2_set_27 rfl (lv_at hl 1 rfl) ?_
  obtain ⟨r6, h6, h⟩ := ob h
  refine call_i (v := r6) (wc := (gA t (nb 5) 4 now.2.2.2.2.2.1)) (wc' := (gA t (nb 5) 4 now.2.2.2.2.2.1)) (ws' := (gBo bh bk r5.1 ++ (gS t (bk 0) nb now ++ (gQ t (bk 3) sa ++ (g6 t sa sb r5.2))))) (cutI (wc := (gA t (nb 5) 4 now.2.2.2.2.2.1)) (wc' := (gA t (nb 5) 4 now.2.2.2.2.2.1)) (ws' := (gBo bh bk r5.1 ++ (gS t (bk 0) nb now ++ (gQ t (bk 3) sa ++ (g6 t sa sb r5.2))))) [7] hP hD hS hA rfl rfl rfl rfl) hS (fun hPc hDc => va_runS (As := [.ref (nb 5), .int v]) (rest := []) ⟨hx, hb, hml, hown, hts⟩ (mtX2_at l D t (nb 5) 4 now.2.2.2.2.2.1 v r6 h6 (by decide) _) (va_cwS 2 hts (gBS kw157 kw65 kw2 kw66) rfl rfl rfl (by decide +kernel) ⟨Nat.le_of_ble_eq_true rfl, Nat.le_of_ble_eq_true rfl⟩) (sPc_S hPc hK hDc hE) rfl rfl hl.1 rfl (lv_room (Nat.le_of_ble_eq_true rfl)) dX2_set_28 ⟨Nat.zero_le _, Nat.zero_le _⟩) (fun H locs hP hD hS => ?_)
  refine lv_istore_n (lv' := [(3, .int r6), (0, .ref bh), (1, .int v), (2, .int w)]) hx hb dX2_set_31 rfl hl (by decide) rfl (fun ls hl => ?_)
  refine lv_aload_n hx hb dX2_set_32 rfl (lv_at hl 1 rfl) ?_
  refine va_get (D := D) (ci := 2) (v := .ref (bk 0)) (C := RX2) (T := TX2) (N := 8) hx hb htB inlX2 hown hK hP 0 rfl rfl 0 (by decide) (htB _ kw12) (fun _ h9 => h9) rfl dX2_set_33 ?_
  refine va_get (D := D) (ci := 1) (v := .ref (nb 5)) (C := RX1) (T := TX1) (N := 10) hx hb htB inlX1 hown hK hP 1 rfl rfl 5 (by decide) (htB _ kw228) (fun _ h9 => h9) rfl dX2_set_36 ?_
  refine lv_iload_n hx hb dX2_set_39 rfl (lv_at hl 2 rfl) ?_
  refine lv_iload_n hx hb dX2_set_40 rfl (lv_at hl 3 rfl) ?_
  obtain ⟨r7, h7, h⟩ := ob h
  refine call_v (wc := (gA t (nb 5) 4 now.2.2.2.2.2.1)) (wc' := (gA t (nb 5) 4 r7)) (ws' := (gBo bh bk r5.1 ++ (gS t (bk 0) nb (now.1, now.2.1, now.2.2.1, now.2.2.2.1, now.2.2.2.2.1, r7, now.2.2.2.2.2.2.1, now.2.2.2.2.2.2.2.1, now.2.2.2.2.2.2.2.2.1, now.2.2.2.2.2.2.2.2.2) ++ (gQ t (bk 3) sa ++ (g6 t sa sb r5.2))))) (cutI (wc := (gA t (nb 5) 4 now.2.2.2.2.2.1)) (wc' := (gA t (nb 5) 4 r7)) (ws' := (gBo bh bk r5.1 ++ (gS t (bk 0) nb (now.1, now.2.1, now.2.2.1, now.2.2.2.1, now.2.2.2.2.1, r7, now.2.2.2.2.2.2.1, now.2.2.2.2.2.2.2.1, now.2.2.2.2.2.2.2.2.1, now.2.2.2.2.2.2.2.2.2) ++ (gQ t (bk 3) sa ++ (g6 t sa sb r5.2))))) [7] hP hD hS hA rfl rfl rfl rfl) hS (fun hPc hDc => va_runS (As := [.ref (nb 5), .int v, .int w]) (rest := []) ⟨hx, hb, hml, hown, hts⟩ (mtX2_put l D t (nb 5) 4 now.2.2.2.2.2.1 v w r7 h7 (by decide) _) (va_cwS 3 hts (gBS kw210 kw150 kw2 kw151) rfl rfl rfl (by decide +kernel) ⟨Nat.le_of_ble_eq_true rfl, Nat.le_of_ble_eq_true rfl⟩) (sPc_S hPc hK hDc hE) rfl rfl hl.1 rfl (lv_room (Nat.le_of_ble_eq_true rfl)) dX2_set_41 ⟨Nat.zero_le _, Nat.zero_le _⟩) (fun H locs hP hD hS => ?_)
  refine lv_iload_n hx hb dX2_set_44 rfl (lv_at hl 0 rfl) ?_
  obtain rfl := oi h
  exact ret_i hx hb hr hlocks hP hK hD hS dX2_set_45

theorem dX2_shoot_0 : decode cX2_shoot 0 = .ok (.iload_n 1, 1) := by decide +kernel
theorem dX2_shoot_1 : decode cX2_shoot 1 = .ok (.invokestatic 73, 3) := by decide +kernel
theorem dX2_shoot_4 : decode cX2_shoot 4 = .ok (.iload_n 2, 1) := by decide +kernel
theorem dX2_shoot_5 : decode cX2_shoot 5 = .ok (.iconst 1, 1) := by decide +kernel
theorem dX2_shoot_6 : decode cX2_shoot 6 = .ok (.bipush 50, 2) := by decide +kernel
theorem dX2_shoot_8 : decode cX2_shoot 8 = .ok (.invokestatic 48, 3) := by decide +kernel
theorem dX2_shoot_11 : decode cX2_shoot 11 = .ok (.aload_n 0, 1) := by decide +kernel
theorem dX2_shoot_12 : decode cX2_shoot 12 = .ok (.invokevirtual 52, 3) := by decide +kernel
theorem dX2_shoot_15 : decode cX2_shoot 15 = .ok (.aload_n 0, 1) := by decide +kernel
theorem dX2_shoot_16 : decode cX2_shoot 16 = .ok (.aload_n 0, 1) := by decide +kernel
theorem dX2_shoot_17 : decode cX2_shoot 17 = .ok (.getfield 10, 3) := by decide +kernel
theorem dX2_shoot_20 : decode cX2_shoot 20 = .ok (.iload_n 1, 1) := by decide +kernel
theorem dX2_shoot_21 : decode cX2_shoot 21 = .ok (.iload_n 2, 1) := by decide +kernel
theorem dX2_shoot_22 : decode cX2_shoot 22 = .ok (.invokevirtual 92, 3) := by decide +kernel
theorem dX2_shoot_25 : decode cX2_shoot 25 = .ok (.aload_n 0, 1) := by decide +kernel
theorem dX2_shoot_26 : decode cX2_shoot 26 = .ok (.getfield 22, 3) := by decide +kernel
theorem dX2_shoot_29 : decode cX2_shoot 29 = .ok (.invokevirtual 96, 3) := by decide +kernel
theorem dX2_shoot_32 : decode cX2_shoot 32 = .ok (.ireturn, 1) := by decide +kernel
abbrev zX2_shoot : List Cond := .code yX2_shoot cX2_shoot 3 (some .int) :: BIG
def fX2_shoot (bo : BoT) (now : ShT) (ex : ExT) (sv : (Nat → ShT)) (v : Int32) (w : Int32) : Option (Nat ⊕ (Int32 × BoT × ShT × ExT × (Nat → ShT))) := tb (fX2_needSpeed v) (fun r1 => tb (fX2_needRange w 1 50) (fun r2 => (fX2_saveState bo now sv).bind (fun r3 => (fX2_fire r3.1 ex now v w).bind (fun r4 => (fX0_spread r4.1).bind (fun r5 => some (.inr (r5, r3.1, r4.2, r4.1, r3.2)))))))
set_option maxHeartbeats 4000000 in
set_option maxRecDepth 100000 in
theorem mtX2_shoot (l : Launch) (D : va_G) (t : Nat → ClassId) (bh : Nat) (bk : Nat → Nat) (bo : BoT) (nb : Nat → Nat) (now : ShT) (eb : Nat → Nat) (ex : ExT) (sa : Nat → Nat) (sb : Nat → Nat → Nat) (sv : (Nat → ShT)) (v : Int32) (w : Int32) (out : Int32 × BoT × ShT × ExT × (Nat → ShT)) (h : fX2_shoot bo now ex sv v w = some (.inr out))  (sz : Nat) : Met l yX2_shoot zX2_shoot ({ frames := 5, cells := 0, slots := 0, locals := 117 }) (sPc D t (gBo bh bk bo ++ (gS t (bk 0) nb now ++ (gE t (bk 2) eb ex ++ (gQ t (bk 3) sa ++ (g6 t sa sb sv))))) sz [.ref bh, .int v, .int w]) (qI D t (gBo bh bk out.2.1 ++ (gS t (bk 0) nb out.2.2.1 ++ (gE t (bk 2) eb out.2.2.2.1 ++ (gQ t (bk 3) sa ++ (g6 t sa sb out.2.2.2.2))))) out.1 (va_A (gBo bh bk bo ++ (gS t (bk 0) nb now ++ (gE t (bk 2) eb ex ++ (gQ t (bk 3) sa ++ (g6 t sa sb sv))))) sz)) 0 0 (va_A (gBo bh bk bo ++ (gS t (bk 0) nb now ++ (gE t (bk 2) eb ex ++ (gQ t (bk 3) sa ++ (g6 t sa sb sv))))) sz) := by
  refine met_of (Qf := fun A => qI D t (gBo bh bk out.2.1 ++ (gS t (bk 0) nb out.2.2.1 ++ (gE t (bk 2) eb out.2.2.2.1 ++ (gQ t (bk 3) sa ++ (g6 t sa sb out.2.2.2.2))))) out.1 A) (cc := cX2_shoot) (maxL := 3) (ret := some .int) (by decide) rfl (Nat.le_of_ble_eq_true rfl) ?_
  intro p e s m args below meth c A hx hb hr hml hts hown hlocks hA hP hK hD hE hS ls hl
  have htB : ∀ w ∈ BIG, w.before args s = true := fun w h => hts w (List.mem_cons_of_mem _ h)
  have hown : s.vm.findClass RX2 = some m.cls := hown
  have hl : lv_has ls 3 [(0, .ref bh), (1, .int v), (2, .int w)] := hl
  unfold fX2_shoot at h
  refine lv_iload_n hx hb dX2_shoot_0 rfl (lv_at hl 1 rfl) ?_
  obtain ⟨r1, h1, h⟩ := tb_r h
  refine call_v (wc := ([] : va_W)) (wc' := ([] : va_W)) (ws' := (gBo bh bk bo ++ (gS t (bk 0) nb now ++ (gE t (bk 2) eb ex ++ (gQ t (bk 3) sa ++ (g6 t sa sb sv)))))) (cutB (bs := [gBo bh bk bo, gS t (bk 0) nb now, gE t (bk 2) eb ex, gQ t (bk 3) sa, g6 t sa sb sv]) (cs := []) (cs' := []) (bs' := [gBo bh bk bo, gS t (bk 0) nb now, gE t (bk 2) eb ex, gQ t (bk 3) sa, g6 t sa sb sv]) [] hP hD hS hA rfl rfl rfl rfl) hS (fun hPc hDc => va_runS (As := [.int v]) (rest := []) ⟨hx, hb, hml, hown, hts⟩ (mtX2_needSpeed l D t v r1 h1 _) (va_cwS 1 hts (gBS kw82 kw83 kw2 kw84) rfl rfl rfl (by decide +kernel) ⟨Nat.le_of_ble_eq_true rfl, Nat.le_of_ble_eq_true rfl⟩) (sPc_S hPc hK hDc hE) rfl rfl hl.1 rfl (lv_room (Nat.le_of_ble_eq_true rfl)) dX2_shoot_1 ⟨Nat.zero_le _, Nat.zero_le _⟩) (fun H locs hP hD hS => ?_)
  refine lv_iload_n hx hb dX2_shoot_4 rfl (lv_at hl 2 rfl) ?_
  refine lv_iconst (v := 1) hx hb dX2_shoot_5 (by decide) ?_
  refine lv_bipush (v := 50) hx hb dX2_shoot_6 (by decide) ?_
  obtain ⟨r2, h2, h⟩ := tb_r h
  refine call_v (wc := ([] : va_W)) (wc' := ([] : va_W)) (ws' := (gBo bh bk bo ++ (gS t (bk 0) nb now ++ (gE t (bk 2) eb ex ++ (gQ t (bk 3) sa ++ (g6 t sa sb sv)))))) (cutB (bs := [gBo bh bk bo, gS t (bk 0) nb now, gE t (bk 2) eb ex, gQ t (bk 3) sa, g6 t sa sb sv]) (cs := []) (cs' := []) (bs' := [gBo bh bk bo, gS t (bk 0) nb now, gE t (bk 2) eb ex, gQ t (bk 3) sa, g6 t sa sb sv]) [] hP hD hS hA rfl rfl rfl rfl) hS (fun hPc hDc => va_runS (As := [.int w, .int 1, .int 50]) (rest := []) ⟨hx, hb, hml, hown, hts⟩ (mtX2_needRange l D t w 1 50 r2 h2 _) (va_cwS 3 hts (gBS kw52 kw53 kw2 kw54) rfl rfl rfl (by decide +kernel) ⟨Nat.le_of_ble_eq_true rfl, Nat.le_of_ble_eq_true rfl⟩) (sPc_S hPc hK hDc hE) rfl rfl hl.1 rfl (lv_room (Nat.le_of_ble_eq_true rfl)) dX2_shoot_8 ⟨Nat.zero_le _, Nat.zero_le _⟩) (fun H locs hP hD hS => ?_)
  refine lv_aload_n hx hb dX2_shoot_11 rfl (lv_at hl 0 rfl) ?_
  obtain ⟨r3, h3, h⟩ := ob h
  refine call_v (wc := (gBo bh bk bo ++ (gS t (bk 0) nb now ++ (gQ t (bk 3) sa ++ (g6 t sa sb sv))))) (wc' := (gBo bh bk r3.1 ++ (gS t (bk 0) nb now ++ (gQ t (bk 3) sa ++ (g6 t sa sb r3.2))))) (ws' := (gBo bh bk r3.1 ++ (gS t (bk 0) nb now ++ (gE t (bk 2) eb ex ++ (gQ t (bk 3) sa ++ (g6 t sa sb r3.2)))))) (cutB (bs := [gBo bh bk bo, gS t (bk 0) nb now, gE t (bk 2) eb ex, gQ t (bk 3) sa, g6 t sa sb sv]) (cs := [gBo bh bk bo, gS t (bk 0) nb now, gQ t (bk 3) sa, g6 t sa sb sv]) (cs' := [gBo bh bk r3.1, gS t (bk 0) nb now, gQ t (bk 3) sa, g6 t sa sb r3.2]) (bs' := [gBo bh bk r3.1, gS t (bk 0) nb now, gE t (bk 2) eb ex, gQ t (bk 3) sa, g6 t sa sb r3.2]) [0, 1, 3, 4] hP hD hS hA rfl rfl rfl rfl) hS (fun hPc hDc => va_runV (As := []) (rest := []) ⟨hx, hb, hml, hown, hts⟩ (mtX2_saveState l D t bh bk bo nb now sa sb sv r3 h3 _) (cwV 0 hts (gBV kw201 kw202 kw203 kw2 kw204) rfl rfl rfl (by decide +kernel) ⟨Nat.le_of_ble_eq_true rfl, Nat.le_of_ble_eq_true rfl⟩) (sPc_V hPc hK hDc hE (va_recv hK hP (ci := 2) (q0 := 0) rfl rfl)) rfl rfl hl.1 rfl (lv_room (Nat.le_of_ble_eq_true rfl)) dX2_shoot_12 ⟨Nat.zero_le _, Nat.zero_le _⟩) (fun H locs hP hD hS => ?_)
  refine lv_aload_n hx hb dX2_shoot_15 rfl (lv_at hl 0 rfl) ?_
  refine lv_aload_n hx hb dX2_shoot_16 rfl (lv_at hl 0 rfl) ?_
  refine va_get (D := D) (ci := 2) (v := .ref (bk 0)) (C := RX2) (T := TX2) (N := 8) hx hb htB inlX2 hown hK hP 0 rfl rfl 0 (by decide) (htB _ kw12) (fun _ h9 => h9) rfl dX2_shoot_17 ?_
  refine lv_iload_n hx hb dX2_shoot_20 rfl (lv_at hl 1 rfl) ?_
  refine lv_iload_n hx hb dX2_shoot_21 rfl (lv_at hl 2 rfl) ?_
  obtain ⟨r4, h4, h⟩ := ob h
  refine call_v (wc := (gBo bh bk r3.1 ++ (gE t (bk 2) eb ex ++ (gS t (bk 0) nb now)))) (wc' := (gBo bh bk r3.1 ++ (gE t (bk 2) eb r4.1 ++ (gS t (bk 0) nb r4.2)))) (ws' := (gBo bh bk r3.1 ++ (gS t (bk 0) nb r4.2 ++ (gE t (bk 2) eb r4.1 ++ (gQ t (bk 3) sa ++ (g6 t sa sb r3.2)))))) (cutB (bs := [gBo bh bk r3.1, gS t (bk 0) nb now, gE t (bk 2) eb ex, gQ t (bk 3) sa, g6 t sa sb r3.2]) (cs := [gBo bh bk r3.1, gE t (bk 2) eb ex, gS t (bk 0) nb now]) (cs' := [gBo bh bk r3.1, gE t (bk 2) eb r4.1, gS t (bk 0) nb r4.2]) (bs' := [gBo bh bk r3.1, gS t (bk 0) nb r4.2, gE t (bk 2) eb r4.1, gQ t (bk 3) sa, g6 t sa sb r3.2]) [0, 2, 1] hP hD hS hA rfl rfl rfl rfl) hS (fun hPc hDc => va_runV (As := [.ref (bk 0), .int v, .int w]) (rest := []) ⟨hx, hb, hml, hown, hts⟩ (mtX2_fire l D t bh bk r3.1 eb ex (bk 0) nb now v w r4 h4 _) (cwV 3 hts (gBV kw96 kw97 kw98 kw2 kw99) rfl rfl rfl (by decide +kernel) ⟨Nat.le_of_ble_eq_true rfl, Nat.le_of_ble_eq_true rfl⟩) (sPc_V hPc hK hDc hE (va_recv hK hP (ci := 2) (q0 := 0) rfl rfl)) rfl rfl hl.1 rfl (lv_room (Nat.le_of_ble_eq_true rfl)) dX2_shoot_22 ⟨Nat.zero_le _, Nat.zero_le _⟩) (fun H locs hP hD hS => ?_)
  refine lv_aload_n hx hb dX2_shoot_25 rfl (lv_at hl 0 rfl) ?_
  refine va_get (D := D) (ci := 2) (v := .ref (bk 2)) (C := RX2) (T := TX2) (N := 8) hx hb htB inlX2 hown hK hP 0 rfl rfl 2 (by decide) (htB _ kw17) (fun _ h9 => h9) rfl dX2_shoot_26 ?_
  obtain ⟨r5, h5, h⟩ := ob h
  refine call_i (v := r5) (wc := (gE t (bk 2) eb r4.1)) (wc' := (gE t (bk 2) eb r4.1)) (ws' := (gBo bh bk r3.1 ++ (gS t (bk 0) nb r4.2 ++ (gE t (bk 2) eb r4.1 ++ (gQ t (bk 3) sa ++ (g6 t sa sb r3.2)))))) (cutB (bs := [gBo bh bk r3.1, gS t (bk 0) nb r4.2, gE t (bk 2) eb r4.1, gQ t (bk 3) sa, g6 t sa sb r3.2]) (cs := [gE t (bk 2) eb r4.1]) (cs' := [gE t (bk 2) eb r4.1]) (bs' := [gBo bh bk r3.1, gS t (bk 0) nb r4.2, gE t (bk 2) eb r4.1, gQ t (bk 3) sa, g6 t sa sb r3.2]) [2] hP hD hS hA rfl rfl rfl rfl) hS (fun hPc hDc => va_runV (As := []) (rest := []) ⟨hx, hb, hml, hown, hts⟩ (mtX0_spread l D t (bk 2) eb r4.1 r5 h5 _) (cwV 0 hts (gBV kw156 kw153 kw154 kw16 kw155) rfl rfl rfl (by decide +kernel) ⟨Nat.le_of_ble_eq_true rfl, Nat.le_of_ble_eq_true rfl⟩) (sPc_V hPc hK hDc hE (va_recv hK hP (ci := 0) (q0 := 9) rfl rfl)) rfl rfl hl.1 rfl (lv_room (Nat.le_of_ble_eq_true rfl)) dX2_shoot_29 ⟨Nat.zero_le _, Nat.zero_le _⟩) (fun H locs hP hD hS => ?_)
  obtain rfl := oi h
  exact ret_i hx hb hr hlocks hP hK hD hS dX2_shoot_32

theorem dX2_undo_0 : decode cX2_undo 0 = .ok (.aload_n 0, 1) := by decide +kernel
theorem dX2_undo_1 : decode cX2_undo 1 = .ok (.getfield 30, 3) := by decide +kernel
theorem dX2_undo_4 : decode cX2_undo 4 = .ok (.iconst 1, 1) := by decide +kernel
theorem dX2_undo_5 : decode cX2_undo 5 = .ok (.if_icmp .ge 13, 3) := by decide +kernel
theorem dX2_undo_8 : decode cX2_undo 8 = .ok (.new 100, 3) := by decide +kernel
theorem dX2_undo_18 : decode cX2_undo 18 = .ok (.aload_n 0, 1) := by decide +kernel
theorem dX2_undo_19 : decode cX2_undo 19 = .ok (.aload_n 0, 1) := by decide +kernel
theorem dX2_undo_20 : decode cX2_undo 20 = .ok (.getfield 34, 3) := by decide +kernel
theorem dX2_undo_23 : decode cX2_undo 23 = .ok (.ifCond .le 12, 3) := by decide +kernel
theorem dX2_undo_26 : decode cX2_undo 26 = .ok (.aload_n 0, 1) := by decide +kernel
theorem dX2_undo_27 : decode cX2_undo 27 = .ok (.getfield 34, 3) := by decide +kernel
theorem dX2_undo_30 : decode cX2_undo 30 = .ok (.iconst 1, 1) := by decide +kernel
theorem dX2_undo_31 : decode cX2_undo 31 = .ok (.isub, 1) := by decide +kernel
theorem dX2_undo_32 : decode cX2_undo 32 = .ok (.goto 4, 3) := by decide +kernel
theorem dX2_undo_35 : decode cX2_undo 35 = .ok (.iconst 5, 1) := by decide +kernel
theorem dX2_undo_36 : decode cX2_undo 36 = .ok (.putfield 34, 3) := by decide +kernel
theorem dX2_undo_39 : decode cX2_undo 39 = .ok (.aload_n 0, 1) := by decide +kernel
theorem dX2_undo_40 : decode cX2_undo 40 = .ok (.dup, 1) := by decide +kernel
theorem dX2_undo_41 : decode cX2_undo 41 = .ok (.getfield 30, 3) := by decide +kernel
theorem dX2_undo_44 : decode cX2_undo 44 = .ok (.iconst 1, 1) := by decide +kernel
theorem dX2_undo_45 : decode cX2_undo 45 = .ok (.isub, 1) := by decide +kernel
theorem dX2_undo_46 : decode cX2_undo 46 = .ok (.putfield 30, 3) := by decide +kernel
theorem dX2_undo_49 : decode cX2_undo 49 = .ok (.aload_n 0, 1) := by decide +kernel
theorem dX2_undo_50 : decode cX2_undo 50 = .ok (.aload_n 0, 1) := by decide +kernel
theorem dX2_undo_51 : decode cX2_undo 51 = .ok (.getfield 34, 3) := by decide +kernel
theorem dX2_undo_54 : decode cX2_undo 54 = .ok (.invokevirtual 125, 3) := by decide +kernel
theorem dX2_undo_57 : decode cX2_undo 57 = .ok (.astore_n 1, 1) := by decide +kernel
theorem dX2_undo_58 : decode cX2_undo 58 = .ok (.aload_n 1, 1) := by decide +kernel
theorem dX2_undo_59 : decode cX2_undo 59 = .ok (.ifnull 11, 3) := by decide +kernel
theorem dX2_undo_62 : decode cX2_undo 62 = .ok (.aload_n 0, 1) := by decide +kernel
theorem dX2_undo_63 : decode cX2_undo 63 = .ok (.getfield 10, 3) := by decide +kernel
theorem dX2_undo_66 : decode cX2_undo 66 = .ok (.aload_n 1, 1) := by decide +kernel
theorem dX2_undo_67 : decode cX2_undo 67 = .ok (.invokevirtual 129, 3) := by decide +kernel
theorem dX2_undo_70 : decode cX2_undo 70 = .ok (.aload_n 0, 1) := by decide +kernel
theorem dX2_undo_71 : decode cX2_undo 71 = .ok (.getfield 30, 3) := by decide +kernel
theorem dX2_undo_74 : decode cX2_undo 74 = .ok (.ireturn, 1) := by decide +kernel
abbrev zX2_undo : List Cond := .code yX2_undo cX2_undo 2 (some .int) :: BIG
def fX2_undo_j36 (sv : (Nat → ShT))  (v36 : BoT × ShT × Int32) : Option (Nat ⊕ (Int32 × BoT × ShT)) := (fX2_savedAt ((v36.1.1 - 1), v36.2.2, v36.1.2.2) v36.2.2).bind (fun r3 => (fX1_become v36.2.1 (sv (Int32.toNatClampNeg v36.2.2))).bind (fun r4 => some (.inr ((v36.1.1 - 1), ((v36.1.1 - 1), v36.2.2, v36.1.2.2), r4))))
def fX2_undo (bo : BoT) (now : ShT) (sv : (Nat → ShT)) : Option (Nat ⊕ (Int32 × BoT × ShT)) := (if 1 ≤ bo.1 then (if bo.2.1 ≤ 0 then fX2_undo_j36 sv (bo, now, 5) else fX2_undo_j36 sv (bo, now, bo.2.1 - 1)) else some (.inl 2))
set_option maxHeartbeats 4000000 in
set_option maxRecDepth 100000 in
theorem mtX2_undo (l : Launch) (D : va_G) (t : Nat → ClassId) (bh : Nat) (bk : Nat → Nat) (bo : BoT) (nb : Nat → Nat) (now : ShT) (sa : Nat → Nat) (sb : Nat → Nat → Nat) (sv : (Nat → ShT)) (out : Int32 × BoT × ShT) (h : fX2_undo bo now sv = some (.inr out))  (sz : Nat) : Met l yX2_undo zX2_undo ({ frames := 2, cells := 0, slots := 0, locals := 43 }) (sPc D t (gBo bh bk bo ++ (gS t (bk 0) nb now ++ (gQ t (bk 3) sa ++ (g6 t sa sb sv)))) sz [.ref bh]) (qI D t (gBo bh bk out.2.1 ++ (gS t (bk 0) nb out.2.2 ++ (gQ t (bk 3) sa ++ (g6 t sa sb sv)))) out.1 (va_A (gBo bh bk bo ++ (gS t (bk 0) nb now ++ (gQ t (bk 3) sa ++ (g6 t sa sb sv)))) sz)) 0 0 (va_A (gBo bh bk bo ++ (gS t (bk 0) nb now ++ (gQ t (bk 3) sa ++ (g6 t sa sb sv)))) sz) := by
  refine met_of (Qf := fun A => qI D t (gBo bh bk out.2.1 ++ (gS t (bk 0) nb out.2.2 ++ (gQ t (bk 3) sa ++ (g6 t sa sb sv)))) out.1 A) (cc := cX2_undo) (maxL := 2) (ret := some .int) (by decide) rfl (Nat.le_of_ble_eq_true rfl) ?_
  intro p e s m args below meth c A hx hb hr hml hts hown hlocks hA hP hK hD hE hS ls hl
  have htB : ∀ w ∈ BIG, w.before args s = true := fun w h => hts w (List.mem_cons_of_mem _ h)
  have hown : s.vm.findClass RX2 = some m.cls := hown
  have hl : lv_has ls 2 [(0, .ref bh)] := hl
  unfold fX2_undo at h
  have J36 : ∀ v36 : BoT × ShT × Int32, fX2_undo_j36 sv v36 = some (.inr out) → ∀ (H : Heap) (locs : List Loc), va_P D vwCl (gBo bh bk v36.1 ++ (gS t (bk 0) nb v36.2.1 ++ (gQ t (bk 3) sa ++ (g6 t sa sb sv)))) H → va_D A (gBo bh bk v36.1 ++ (gS t (bk 0) nb v36.2.1 ++ (gQ t (bk 3) sa ++ (g6 t sa sb sv)))) → va_S A s.heap H locs → ∀ ls : Array Slot, lv_has ls 2 [(0, .ref bh)] → W p l e ({ frames := 2, cells := 0, slots := 0, locals := 43 }) s m args below meth c H locs 0 0 (MQ below (qI D t (gBo bh bk out.2.1 ++ (gS t (bk 0) nb out.2.2 ++ (gQ t (bk 3) sa ++ (g6 t sa sb sv)))) out.1 A) args s 0 0 A) (F0 m 36 ls [.int v36.2.2, .ref bh]) := by
    intro v36 h H locs hP hD hS ls hl
    unfold fX2_undo_j36 at h
    refine va_put (D := D) (ci := 2) (v := .int v36.2.2) (ty := .int) (C := RX2) (T := TX2) (N := 8) hx hb htB inlX2 tyX2 tyX2_ok nmX2 hown hK hP hD hS 0 rfl rfl 5 (by decide) (htB _ kw20) (fun _ h9 => h9) rfl (by decide +kernel) rfl rfl (Nat.le_of_ble_eq_true rfl) dX2_undo_36 (fun H locs hP hD hS => ?_)
    have hP : va_P D vwCl (gBo bh bk (v36.1.1, v36.2.2, v36.1.2.2) ++ (gS t (bk 0) nb v36.2.1 ++ (gQ t (bk 3) sa ++ (g6 t sa sb sv)))) H := hP
    have hD : va_D A (gBo bh bk (v36.1.1, v36.2.2, v36.1.2.2) ++ (gS t (bk 0) nb v36.2.1 ++ (gQ t (bk 3) sa ++ (g6 t sa sb sv)))) := hD
    refine lv_aload_n hx hb dX2_undo_39 rfl (lv_at hl 0 rfl) ?_
    refine lv_dup hx hb dX2_undo_40 rfl ?_
    refine va_get (D := D) (ci := 2) (v := .int v36.1.1) (C := RX2) (T := TX2) (N := 8) hx hb htB inlX2 hown hK hP 0 rfl rfl 4 (by decide) (htB _ kw19) (fun _ h9 => h9) rfl dX2_undo_41 ?_
    refine lv_iconst (v := 1) hx hb dX2_undo_44 (by decide) ?_
    refine lv_isub hx hb dX2_undo_45 ?_
    refine va_put (D := D) (ci := 2) (v := .int (v36.1.1 - 1)) (ty := .int) (C := RX2) (T := TX2) (N := 8) hx hb htB inlX2 tyX2 tyX2_ok nmX2 hown hK hP hD hS 0 rfl rfl 4 (by decide) (htB _ kw19) (fun _ h9 => h9) rfl (by decide +kernel) rfl rfl (Nat.le_of_ble_eq_true rfl) dX2_undo_46 (fun H locs hP hD hS => ?_)
    have hP : va_P D vwCl (gBo bh bk ((v36.1.1 - 1), v36.2.2, v36.1.2.2) ++ (gS t (bk 0) nb v36.2.1 ++ (gQ t (bk 3) sa ++ (g6 t sa sb sv)))) H := hP
    have hD : va_D A (gBo bh bk ((v36.1.1 - 1), v36.2.2, v36.1.2.2) ++ (gS t (bk 0) nb v36.2.1 ++ (gQ t (bk 3) sa ++ (g6 t sa sb sv)))) := hD
    refine lv_aload_n hx hb dX2_undo_49 rfl (lv_at hl 0 rfl) ?_
    refine lv_aload_n hx hb dX2_undo_50 rfl (lv_at hl 0 rfl) ?_
    refine va_get (D := D) (ci := 2) (v := .int v36.2.2) (C := RX2) (T := TX2) (N := 8) hx hb htB inlX2 hown hK hP 0 rfl rfl 5 (by decide) (htB _ kw20) (fun _ h9 => h9) rfl dX2_undo_51 ?_
    obtain ⟨r3, h3, h⟩ := ob h
    refine call_r (v := sa (Int32.toNatClampNeg v36.2.2)) (wc := (gBo bh bk ((v36.1.1 - 1), v36.2.2, v36.1.2.2) ++ (gQ t (bk 3) sa))) (wc' := (gBo bh bk ((v36.1.1 - 1), v36.2.2, v36.1.2.2) ++ (gQ t (bk 3) sa))) (ws' := (gBo bh bk ((v36.1.1 - 1), v36.2.2, v36.1.2.2) ++ (gS t (bk 0) nb v36.2.1 ++ (gQ t (bk 3) sa ++ (g6 t sa sb sv))))) (cutB (bs := [gBo bh bk ((v36.1.1 - 1), v36.2.2, v36.1.2.2), gS t (bk 0) nb v36.2.1, gQ t (bk 3) sa, g6 t sa sb sv]) (cs := [gBo bh bk ((v36.1.1 - 1), v36.2.2, v36.1.2.2), gQ t (bk 3) sa]) (cs' := [gBo bh bk ((v36.1.1 - 1), v36.2.2, v36.1.2.2), gQ t (bk 3) sa]) (bs' := [gBo bh bk ((v36.1.1 - 1), v36.2.2, v36.1.2.2), gS t (bk 0) nb v36.2.1, gQ t (bk 3) sa, g6 t sa sb sv]) [0, 2] hP hD hS hA rfl rfl rfl rfl) hS (fun hPc hDc => va_runV (As := [.int v36.2.2]) (rest := []) ⟨hx, hb, hml, hown, hts⟩ (mtX2_savedAt l D t bh bk ((v36.1.1 - 1), v36.2.2, v36.1.2.2) sa v36.2.2 r3 h3 _) (cwV 1 hts (gBV kw206 kw207 kw208 kw2 kw209) rfl rfl rfl (by decide +kernel) ⟨Nat.le_of_ble_eq_true rfl, Nat.le_of_ble_eq_true rfl⟩) (sPc_V hPc hK hDc hE (va_recv hK hP (ci := 2) (q0 := 0) rfl rfl)) rfl rfl hl.1 rfl (lv_room (Nat.le_of_ble_eq_true rfl)) dX2_undo_54 ⟨Nat.zero_le _, Nat.zero_le _⟩) (fun H locs hP hD hS => ?_)
    have hj6 := pin6 (sv_pin h3)
    refine lv_astore_n (lv' := [(1, .ref (sa (Int32.toNatClampNeg v36.2.2))), (0, .ref bh)]) hx hb dX2_undo_57 rfl hl (by decide) rfl (fun ls hl => ?_)
    refine lv_aload_n hx hb dX2_undo_58 rfl (lv_at hl 0 rfl) ?_
    refine lv_ifnull hx hb dX2_undo_59 ?_
    refine lv_aload_n hx hb dX2_undo_62 rfl (lv_at hl 1 rfl) ?_
    refine va_get (D := D) (ci := 2) (v := .ref (bk 0)) (C := RX2) (T := TX2) (N := 8) hx hb htB inlX2 hown hK hP 0 rfl rfl 0 (by decide) (htB _ kw12) (fun _ h9 => h9) rfl dX2_undo_63 ?_
    refine lv_aload_n hx hb dX2_undo_66 rfl (lv_at hl 0 rfl) ?_
    obtain ⟨r4, h4, h⟩ := ob h
    refine call_v (wc := (gS t (bk 0) nb v36.2.1 ++ (gS t (sa (Int32.toNatClampNeg v36.2.2)) (sb (Int32.toNatClampNeg v36.2.2)) (sv (Int32.toNatClampNeg v36.2.2))))) (wc' := (gS t (bk 0) nb r4 ++ (gS t (sa (Int32.toNatClampNeg v36.2.2)) (sb (Int32.toNatClampNeg v36.2.2)) (sv (Int32.toNatClampNeg v36.2.2))))) (ws' := (gBo bh bk ((v36.1.1 - 1), v36.2.2, v36.1.2.2) ++ (gS t (bk 0) nb r4 ++ (gQ t (bk 3) sa ++ (g6 t sa sb sv))))) (cutB (bs := [gBo bh bk ((v36.1.1 - 1), v36.2.2, v36.1.2.2), gS t (bk 0) nb v36.2.1, gQ t (bk 3) sa, gS t (sa 0) (sb 0) (sv 0), gS t (sa 1) (sb 1) (sv 1), gS t (sa 2) (sb 2) (sv 2), gS t (sa 3) (sb 3) (sv 3), gS t (sa 4) (sb 4) (sv 4), gS t (sa 5) (sb 5) (sv 5)]) (cs := [gS t (bk 0) nb v36.2.1, gS t (sa (Int32.toNatClampNeg v36.2.2)) (sb (Int32.toNatClampNeg v36.2.2)) (sv (Int32.toNatClampNeg v36.2.2))]) (cs' := [gS t (bk 0) nb r4, gS t (sa (Int32.toNatClampNeg v36.2.2)) (sb (Int32.toNatClampNeg v36.2.2)) (sv (Int32.toNatClampNeg v36.2.2))]) (bs' := [gBo bh bk ((v36.1.1 - 1), v36.2.2, v36.1.2.2), gS t (bk 0) nb r4, gQ t (bk 3) sa, gS t (sa 0) (sb 0) (sv 0), gS t (sa 1) (sb 1) (sv 1), gS t (sa 2) (sb 2) (sv 2), gS t (sa 3) (sb 3) (sv 3), gS t (sa 4) (sb 4) (sv 4), gS t (sa 5) (sb 5) (sv 5)]) [1, 3 + (Int32.toNatClampNeg v36.2.2)] hP hD hS hA (by rcases hj6 with e9 | e9 | e9 | e9 | e9 | e9 <;> rw [e9] <;> rfl) (by rcases hj6 with e9 | e9 | e9 | e9 | e9 | e9 <;> rw [e9] <;> rfl) (by rcases hj6 with e9 | e9 | e9 | e9 | e9 | e9 <;> rw [e9] <;> rfl) rfl) hS (fun hPc hDc => va_runV (As := [.ref (sa (Int32.toNatClampNeg v36.2.2))]) (rest := []) ⟨hx, hb, hml, hown, hts⟩ (mtX1_become l D t (bk 0) nb v36.2.1 (sa (Int32.toNatClampNeg v36.2.2)) (sb (Int32.toNatClampNeg v36.2.2)) (sv (Int32.toNatClampNeg v36.2.2)) r4 h4 _) (cwV 1 hts (gBV kw90 kw91 kw92 kw11 kw93) rfl rfl rfl (by decide +kernel) ⟨Nat.le_of_ble_eq_true rfl, Nat.le_of_ble_eq_true rfl⟩) (sPc_V hPc hK hDc hE (va_recv hK hP (ci := 1) (q0 := 1) rfl rfl)) rfl rfl hl.1 rfl (lv_room (Nat.le_of_ble_eq_true rfl)) dX2_undo_67 ⟨Nat.zero_le _, Nat.zero_le _⟩) (fun H locs hP hD hS => ?_)
    refine lv_aload_n hx hb dX2_undo_70 rfl (lv_at hl 1 rfl) ?_
    refine va_get (D := D) (ci := 2) (v := .int (v36.1.1 - 1)) (C := RX2) (T := TX2) (N := 8) hx hb htB inlX2 hown hK hP 0 rfl rfl 4 (by decide) (htB _ kw19) (fun _ h9 => h9) rfl dX2_undo_71 ?_
    obtain rfl := oi h
    exact ret_i hx hb hr hlocks hP hK hD hS dX2_undo_74
  refine lv_aload_n hx hb dX2_undo_0 rfl (lv_at hl 0 rfl) ?_
  refine va_get (D := D) (ci := 2) (v := .int bo.1) (C := RX2) (T := TX2) (N := 8) hx hb htB inlX2 hown hK hP 0 rfl rfl 4 (by decide) (htB _ kw19) (fun _ h9 => h9) rfl dX2_undo_1 ?_
  refine lv_iconst (v := 1) hx hb dX2_undo_4 (by decide) ?_
  refine lv_icmp_ge (tgt := 18) hx hb dX2_undo_5 (by decide) (fun c1 => ?_) (fun c1 => ?_)
  · have h := it_p c1 h
    refine lv_aload_n hx hb dX2_undo_18 rfl (lv_at hl 0 rfl) ?_
    refine lv_aload_n hx hb dX2_undo_19 rfl (lv_at hl 0 rfl) ?_
    refine va_get (D := D) (ci := 2) (v := .int bo.2.1) (C := RX2) (T := TX2) (N := 8) hx hb htB inlX2 hown hK hP 0 rfl rfl 5 (by decide) (htB _ kw20) (fun _ h9 => h9) rfl dX2_undo_20 ?_
    refine lv_if_le (tgt := 35) hx hb dX2_undo_23 (by decide) (fun c2 => ?_) (fun c2 => ?_)
    · have h := it_p c2 h
      refine lv_iconst (v := 5) hx hb dX2_undo_35 (by decide) ?_
      exact J36 (bo, now, 5) h _ _ hP hD hS _ (lv_sub hl [0] rfl)
    · have h := it_n c2 h
      refine lv_aload_n hx hb dX2_undo_26 rfl (lv_at hl 0 rfl) ?_
      refine va_get (D := D) (ci := 2) (v := .int bo.2.1) (C := RX2) (T := TX2) (N := 8) hx hb htB inlX2 hown hK hP 0 rfl rfl 5 (by decide) (htB _ kw20) (fun _ h9 => h9) rfl dX2_undo_27 ?_
      refine lv_iconst (v := 1) hx hb dX2_undo_30 (by decide) ?_
      refine lv_isub hx hb dX2_undo_31 ?_
      refine lv_goto (tgt := 36) hx hb dX2_undo_32 (by decide) ?_
      exact J36 (bo, now, bo.2.1 - 1) h _ _ hP hD hS _ (lv_sub hl [0] rfl)
  · have h := it_n c1 h
    cases h
