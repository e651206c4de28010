theorem dX2_undo_11 : decode cX2_undo 11 = .ok (.dup, 1) := by decide +kernel
theorem dX2_undo_12 : decode cX2_undo 12 = .ok (.ldc 123, 2) := by decide +kernel
theorem dX2_undo_14 : decode cX2_undo 14 = .ok (.invokespecial 104, 3) := by decide +kernel
theorem dX2_undo_17 : decode cX2_undo 17 = .ok (.athrow, 1) := by decide +kernel
set_option maxHeartbeats 4000000 in
set_option maxRecDepth 100000 in
theorem xmX2_undo (l : Launch) (hfl : l.stackTraces = false) (D : va_G) (t : Nat → ClassId) (bh : Nat) (bk : Nat → Nat) (bo : BoT) (nb : Nat → Nat) (now : ShT) (sa : Nat → Nat) (sb : Nat → Nat → Nat) (sv : (Nat → ShT)) (E : Nat) (h : fX2_undo bo now sv = some (.inl E)) (sz : Nat) : vx_Met l yX2_undo zX2_undo ({ frames := 6, cells := 1, slots := 6, locals := 82 }) (xPc D t (gBo bh bk bo ++ (gS t (bk 0) nb now ++ (gQ t (bk 3) sa ++ (g6 t sa sb sv)))) sz [.ref bh]) (qX (va_A (gBo bh bk bo ++ (gS t (bk 0) nb now ++ (gQ t (bk 3) sa ++ (g6 t sa sb sv)))) sz)) (xC D t (gBo bh bk bo ++ (gS t (bk 0) nb now ++ (gQ t (bk 3) sa ++ (g6 t sa sb sv)))) E (va_A (gBo bh bk bo ++ (gS t (bk 0) nb now ++ (gQ t (bk 3) sa ++ (g6 t sa sb sv)))) sz)) 1 6 (va_A (gBo bh bk bo ++ (gS t (bk 0) nb now ++ (gQ t (bk 3) sa ++ (g6 t sa sb sv)))) sz) := by
  refine met_ofX (cc := cX2_undo) (maxL := 2) (ret := some .int) (by decide) rfl (Nat.le_of_ble_eq_true rfl) ?_
  intro p e s m args below meth c A hx hb hr hml hts hown hlocks hA hP hK hD hE hS hX hT ls hl
  have htB : ∀ w ∈ BIG, w.before args s = true := fun w h => hts w (List.mem_cons_of_mem _ h)
  have hown : s.vm.findClass RX2 = some m.cls := hown
  have hl : lv_has ls 2 [(0, .ref bh)] := hl
  unfold fX2_undo at h
  have J36 : ∀ v36 : BoT × ShT × Int32, fX2_undo_j36 sv v36 = some (.inl E) → ∀ (H : Heap) (locs : List Loc), va_P D vwCl (gBo bh bk v36.1 ++ (gS t (bk 0) nb v36.2.1 ++ (gQ t (bk 3) sa ++ (g6 t sa sb sv)))) H → va_D A (gBo bh bk v36.1 ++ (gS t (bk 0) nb v36.2.1 ++ (gQ t (bk 3) sa ++ (g6 t sa sb sv)))) → va_S A s.heap H locs → ∀ ls : Array Slot, lv_has ls 2 [(0, .ref bh)] → W p l e ({ frames := 6, cells := 1, slots := 6, locals := 82 }) s m args below meth c H locs 0 0 (vx_MQ below (qX A) (xC D t (gBo bh bk bo ++ (gS t (bk 0) nb now ++ (gQ t (bk 3) sa ++ (g6 t sa sb sv)))) E A) args s 1 6 A) (F0 m 36 ls [.int v36.2.2, .ref bh]) := by
    intro v36 h H locs hP hD hS ls hl
    unfold fX2_undo_j36 at h
    refine va_put (D := D) (ci := 2) (v := .int v36.2.2) (ty := .int) (C := RX2) (T := TX2) (N := 8) hx hb htB inlX2 tyX2 tyX2_ok nmX2 hown hK hP hD hS 0 rfl rfl 5 (by decide) (htB _ kw20) (fun _ h9 => h9) rfl (by decide +kernel) rfl rfl (Nat.le_of_ble_eq_true rfl) dX2_undo_36 (fun H locs hP hD hS => ?_)
    have hP : va_P D vwCl (gBo bh bk (v36.1.1, v36.2.2, v36.1.2.2) ++ (gS t (bk 0) nb v36.2.1 ++ (gQ t (bk 3) sa ++ (g6 t sa sb sv)))) H := hP
    have hD : va_D A (gBo bh bk (v36.1.1, v36.2.2, v36.1.2.2) ++ (gS t (bk 0) nb v36.2.1 ++ (gQ t (bk 3) sa ++ (g6 t sa sb sv)))) := hD
    refine lv_aload_n hx hb dX2_undo_39 rfl (lv_at hl 0 rfl) ?_
    refine lv_dup hx hb dX2_undo_40 rfl ?_
    refine va_get (D := D) (ci := 2) (v := .int v36.1.1) (C := RX2) (T := TX2) (N := 8) hx hb htB inlX2 hown hK hP 0 rfl rfl 4 (by decide) (htB _ kw19) (fun _ h9 => h9) rfl dX2_undo_41 ?_
    refine lv_iconst (v := 1) hx hb dX2_undo_44 (by decide) ?_
    refine lv_isub hx hb dX2_undo_45 ?_
    refine va_put (D := D) (ci := 2) (v := .int (v36.1.1 - 1)) (ty := .int) (C := RX2) (T := TX2) (N := 8) hx hb htB inlX2 tyX2 tyX2_ok nmX2 hown hK hP hD hS 0 rfl rfl 4 (by decide) (htB _ kw19) (fun _ h9 => h9) rfl (by decide +kernel) rfl rfl (Nat.le_of_ble_eq_true rfl) dX2_undo_46 (fun H locs hP hD hS => ?_)
    have hP : va_P D vwCl (gBo bh bk ((v36.1.1 - 1), v36.2.2, v36.1.2.2) ++ (gS t (bk 0) nb v36.2.1 ++ (gQ t (bk 3) sa ++ (g6 t sa sb sv)))) H := hP
    have hD : va_D A (gBo bh bk ((v36.1.1 - 1), v36.2.2, v36.1.2.2) ++ (gS t (bk 0) nb v36.2.1 ++ (gQ t (bk 3) sa ++ (g6 t sa sb sv)))) := hD
    refine lv_aload_n hx hb dX2_undo_49 rfl (lv_at hl 0 rfl) ?_
    refine lv_aload_n hx hb dX2_undo_50 rfl (lv_at hl 0 rfl) ?_
    refine va_get (D := D) (ci := 2) (v := .int v36.2.2) (C := RX2) (T := TX2) (N := 8) hx hb htB inlX2 hown hK hP 0 rfl rfl 5 (by decide) (htB _ kw20) (fun _ h9 => h9) rfl dX2_undo_51 ?_
    obtain ⟨r3, h3, h⟩ := ob h
    refine call_r (v := sa (Int32.toNatClampNeg v36.2.2)) (wc := (gBo bh bk ((v36.1.1 - 1), v36.2.2, v36.1.2.2) ++ (gQ t (bk 3) sa))) (wc' := (gBo bh bk ((v36.1.1 - 1), v36.2.2, v36.1.2.2) ++ (gQ t (bk 3) sa))) (ws' := (gBo bh bk ((v36.1.1 - 1), v36.2.2, v36.1.2.2) ++ (gS t (bk 0) nb v36.2.1 ++ (gQ t (bk 3) sa ++ (g6 t sa sb sv))))) (cutB (bs := [gBo bh bk ((v36.1.1 - 1), v36.2.2, v36.1.2.2), gS t (bk 0) nb v36.2.1, gQ t (bk 3) sa, g6 t sa sb sv]) (cs := [gBo bh bk ((v36.1.1 - 1), v36.2.2, v36.1.2.2), gQ t (bk 3) sa]) (cs' := [gBo bh bk ((v36.1.1 - 1), v36.2.2, v36.1.2.2), gQ t (bk 3) sa]) (bs' := [gBo bh bk ((v36.1.1 - 1), v36.2.2, v36.1.2.2), gS t (bk 0) nb v36.2.1, gQ t (bk 3) sa, g6 t sa sb sv]) [0, 2] hP hD hS hA rfl rfl rfl rfl) hS (fun hPc hDc => va_runV (As := [.int v36.2.2]) (rest := []) ⟨hx, hb, hml, hown, hts⟩ (mtX2_savedAt l D t bh bk ((v36.1.1 - 1), v36.2.2, v36.1.2.2) sa v36.2.2 r3 h3 _) (cwV 1 hts (gBV kw206 kw207 kw208 kw2 kw209) rfl rfl rfl (by decide +kernel) ⟨Nat.le_of_ble_eq_true rfl, Nat.le_of_ble_eq_true rfl⟩) (sPc_V hPc hK hDc hE (va_recv hK hP (ci := 2) (q0 := 0) rfl rfl)) rfl rfl hl.1 rfl (lv_room (Nat.le_of_ble_eq_true rfl)) dX2_undo_54 ⟨Nat.zero_le _, Nat.zero_le _⟩) (fun H locs hP hD hS => ?_)
    have hj6 := pin6 (sv_pin h3)
    refine lv_astore_n (lv' := [(1, .ref (sa (Int32.toNatClampNeg v36.2.2))), (0, .ref bh)]) hx hb dX2_undo_57 rfl hl (by decide) rfl (fun ls hl => ?_)
    refine lv_aload_n hx hb dX2_undo_58 rfl (lv_at hl 0 rfl) ?_
    refine lv_ifnull hx hb dX2_undo_59 ?_
    refine lv_aload_n hx hb dX2_undo_62 rfl (lv_at hl 1 rfl) ?_
    refine va_get (D := D) (ci := 2) (v := .ref (bk 0)) (C := RX2) (T := TX2) (N := 8) hx hb htB inlX2 hown hK hP 0 rfl rfl 0 (by decide) (htB _ kw12) (fun _ h9 => h9) rfl dX2_undo_63 ?_
    refine lv_aload_n hx hb dX2_undo_66 rfl (lv_at hl 0 rfl) ?_
    obtain ⟨r4, h4, h⟩ := ob h
    refine call_v (wc := (gS t (bk 0) nb v36.2.1 ++ (gS t (sa (Int32.toNatClampNeg v36.2.2)) (sb (Int32.toNatClampNeg v36.2.2)) (sv (Int32.toNatClampNeg v36.2.2))))) (wc' := (gS t (bk 0) nb r4 ++ (gS t (sa (Int32.toNatClampNeg v36.2.2)) (sb (Int32.toNatClampNeg v36.2.2)) (sv (Int32.toNatClampNeg v36.2.2))))) (ws' := (gBo bh bk ((v36.1.1 - 1), v36.2.2, v36.1.2.2) ++ (gS t (bk 0) nb r4 ++ (gQ t (bk 3) sa ++ (g6 t sa sb sv))))) (cutB (bs := [gBo bh bk ((v36.1.1 - 1), v36.2.2, v36.1.2.2), gS t (bk 0) nb v36.2.1, gQ t (bk 3) sa, gS t (sa 0) (sb 0) (sv 0), gS t (sa 1) (sb 1) (sv 1), gS t (sa 2) (sb 2) (sv 2), gS t (sa 3) (sb 3) (sv 3), gS t (sa 4) (sb 4) (sv 4), gS t (sa 5) (sb 5) (sv 5)]) (cs := [gS t (bk 0) nb v36.2.1, gS t (sa (Int32.toNatClampNeg v36.2.2)) (sb (Int32.toNatClampNeg v36.2.2)) (sv (Int32.toNatClampNeg v36.2.2))]) (cs' := [gS t (bk 0) nb r4, gS t (sa (Int32.toNatClampNeg v36.2.2)) (sb (Int32.toNatClampNeg v36.2.2)) (sv (Int32.toNatClampNeg v36.2.2))]) (bs' := [gBo bh bk ((v36.1.1 - 1), v36.2.2, v36.1.2.2), gS t (bk 0) nb r4, gQ t (bk 3) sa, gS t (sa 0) (sb 0) (sv 0), gS t (sa 1) (sb 1) (sv 1), gS t (sa 2) (sb 2) (sv 2), gS t (sa 3) (sb 3) (sv 3), gS t (sa 4) (sb 4) (sv 4), gS t (sa 5) (sb 5) (sv 5)]) [1, 3 + (Int32.toNatClampNeg v36.2.2)] hP hD hS hA (by rcases hj6 with e9 | e9 | e9 | e9 | e9 | e9 <;> rw [e9] <;> rfl) (by rcases hj6 with e9 | e9 | e9 | e9 | e9 | e9 <;> rw [e9] <;> rfl) (by rcases hj6 with e9 | e9 | e9 | e9 | e9 | e9 <;> rw [e9] <;> rfl) rfl) hS (fun hPc hDc => va_runV (As := [.ref (sa (Int32.toNatClampNeg v36.2.2))]) (rest := []) ⟨hx, hb, hml, hown, hts⟩ (mtX1_become l D t (bk 0) nb v36.2.1 (sa (Int32.toNatClampNeg v36.2.2)) (sb (Int32.toNatClampNeg v36.2.2)) (sv (Int32.toNatClampNeg v36.2.2)) r4 h4 _) (cwV 1 hts (gBV kw90 kw91 kw92 kw11 kw93) rfl rfl rfl (by decide +kernel) ⟨Nat.le_of_ble_eq_true rfl, Nat.le_of_ble_eq_true rfl⟩) (sPc_V hPc hK hDc hE (va_recv hK hP (ci := 1) (q0 := 1) rfl rfl)) rfl rfl hl.1 rfl (lv_room (Nat.le_of_ble_eq_true rfl)) dX2_undo_67 ⟨Nat.zero_le _, Nat.zero_le _⟩) (fun H locs hP hD hS => ?_)
    refine lv_aload_n hx hb dX2_undo_70 rfl (lv_at hl 1 rfl) ?_
    refine va_get (D := D) (ci := 2) (v := .int (v36.1.1 - 1)) (C := RX2) (T := TX2) (N := 8) hx hb htB inlX2 hown hK hP 0 rfl rfl 4 (by decide) (htB _ kw19) (fun _ h9 => h9) rfl dX2_undo_71 ?_
    cases h
  refine lv_aload_n hx hb dX2_undo_0 rfl (lv_at hl 0 rfl) ?_
  refine va_get (D := D) (ci := 2) (v := .int bo.1) (C := RX2) (T := TX2) (N := 8) hx hb htB inlX2 hown hK hP 0 rfl rfl 4 (by decide) (htB _ kw19) (fun _ h9 => h9) rfl dX2_undo_1 ?_
  refine lv_iconst (v := 1) hx hb dX2_undo_4 (by decide) ?_
  refine lv_icmp_ge (tgt := 18) hx hb dX2_undo_5 (by decide) (fun c1 => ?_) (fun c1 => ?_)
  · have h := it_p c1 h
    refine lv_aload_n hx hb dX2_undo_18 rfl (lv_at hl 0 rfl) ?_
    refine lv_aload_n hx hb dX2_undo_19 rfl (lv_at hl 0 rfl) ?_
    refine va_get (D := D) (ci := 2) (v := .int bo.2.1) (C := RX2) (T := TX2) (N := 8) hx hb htB inlX2 hown hK hP 0 rfl rfl 5 (by decide) (htB _ kw20) (fun _ h9 => h9) rfl dX2_undo_20 ?_
    refine lv_if_le (tgt := 35) hx hb dX2_undo_23 (by decide) (fun c2 => ?_) (fun c2 => ?_)
    · have h := it_p c2 h
      refine lv_iconst (v := 5) hx hb dX2_undo_35 (by decide) ?_
      exact J36 (bo, now, 5) h _ _ hP hD hS _ (lv_sub hl [0] rfl)
    · have h := it_n c2 h
      refine lv_aload_n hx hb dX2_undo_26 rfl (lv_at hl 0 rfl) ?_
      refine va_get (D := D) (ci := 2) (v := .int bo.2.1) (C := RX2) (T := TX2) (N := 8) hx hb htB inlX2 hown hK hP 0 rfl rfl 5 (by decide) (htB _ kw20) (fun _ h9 => h9) rfl dX2_undo_27 ?_
      refine lv_iconst (v := 1) hx hb dX2_undo_30 (by decide) ?_
      refine lv_isub hx hb dX2_undo_31 ?_
      refine lv_goto (tgt := 36) hx hb dX2_undo_32 (by decide) ?_
      exact J36 (bo, now, bo.2.1 - 1) h _ _ hP hD hS _ (lv_sub hl [0] rfl)
  · have h := it_n c1 h
    obtain rfl : 2 = E := Sum.inl.inj (Option.some.inj h)
    obtain ⟨sa9, hsa⟩ := hX.2.1
    exact vx_throwS hx hb hfl (own := RX2) (cls := xname 2) (text := "no state is saved") (names := xnames) hown (by decide +kernel) (by decide +kernel) (htB _ kw250) (htB _ kw251) hsa (xhat2 htB hX.2.2) xgood2 hX.1.1 hX.1.2 hS (hl.1.trans hml.symm) dX2_undo_8 dX2_undo_11 dX2_undo_12 dX2_undo_14 dX2_undo_17 (fun x hx => hT x hx _) (Nat.le_of_ble_eq_true rfl) (Nat.le_of_ble_eq_true rfl) (Nat.le_of_ble_eq_true rfl) (Nat.le_of_ble_eq_true rfl) hlocks (xthrown hP hK hD hS) hS.2.2 (Nat.le_of_ble_eq_true rfl) (Nat.le_of_ble_eq_true rfl)
