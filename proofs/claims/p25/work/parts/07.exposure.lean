theorem dX0_runCurtains_0 : decode cX0_runCurtains 0 = .ok (.aload_n 1, 1) := by decide +kernel
theorem dX0_runCurtains_1 : decode cX0_runCurtains 1 = .ok (.iconst 0, 1) := by decide +kernel
theorem dX0_runCurtains_2 : decode cX0_runCurtains 2 = .ok (.invokevirtual 44, 3) := by decide +kernel
theorem dX0_runCurtains_5 : decode cX0_runCurtains 5 = .ok (.istore_n 3, 1) := by decide +kernel
theorem dX0_runCurtains_6 : decode cX0_runCurtains 6 = .ok (.aload_n 1, 1) := by decide +kernel
theorem dX0_runCurtains_7 : decode cX0_runCurtains 7 = .ok (.iconst 1, 1) := by decide +kernel
theorem dX0_runCurtains_8 : decode cX0_runCurtains 8 = .ok (.invokevirtual 44, 3) := by decide +kernel
theorem dX0_runCurtains_11 : decode cX0_runCurtains 11 = .ok (.istore 4, 2) := by decide +kernel
theorem dX0_runCurtains_13 : decode cX0_runCurtains 13 = .ok (.iconst 0, 1) := by decide +kernel
theorem dX0_runCurtains_14 : decode cX0_runCurtains 14 = .ok (.istore 5, 2) := by decide +kernel
theorem dX0_runCurtains_16 : decode cX0_runCurtains 16 = .ok (.aload_n 1, 1) := by decide +kernel
theorem dX0_runCurtains_17 : decode cX0_runCurtains 17 = .ok (.iload_n 2, 1) := by decide +kernel
theorem dX0_runCurtains_18 : decode cX0_runCurtains 18 = .ok (.invokevirtual 49, 3) := by decide +kernel
theorem dX0_runCurtains_21 : decode cX0_runCurtains 21 = .ok (.istore 6, 2) := by decide +kernel
theorem dX0_runCurtains_23 : decode cX0_runCurtains 23 = .ok (.iconst 0, 1) := by decide +kernel
theorem dX0_runCurtains_24 : decode cX0_runCurtains 24 = .ok (.istore 7, 2) := by decide +kernel
theorem dX0_runCurtains_26 : decode cX0_runCurtains 26 = .ok (.iload 7, 2) := by decide +kernel
theorem dX0_runCurtains_28 : decode cX0_runCurtains 28 = .ok (.aload_n 0, 1) := by decide +kernel
theorem dX0_runCurtains_29 : decode cX0_runCurtains 29 = .ok (.getfield 9, 3) := by decide +kernel
theorem dX0_runCurtains_32 : decode cX0_runCurtains 32 = .ok (.arraylength, 1) := by decide +kernel
theorem dX0_runCurtains_33 : decode cX0_runCurtains 33 = .ok (.if_icmp .ge 75, 3) := by decide +kernel
theorem dX0_runCurtains_36 : decode cX0_runCurtains 36 = .ok (.iload 7, 2) := by decide +kernel
theorem dX0_runCurtains_38 : decode cX0_runCurtains 38 = .ok (.aload_n 0, 1) := by decide +kernel
theorem dX0_runCurtains_39 : decode cX0_runCurtains 39 = .ok (.getfield 15, 3) := by decide +kernel
theorem dX0_runCurtains_42 : decode cX0_runCurtains 42 = .ok (.arraylength, 1) := by decide +kernel
theorem dX0_runCurtains_43 : decode cX0_runCurtains 43 = .ok (.if_icmp .ge 65, 3) := by decide +kernel
theorem dX0_runCurtains_46 : decode cX0_runCurtains 46 = .ok (.iload 5, 2) := by decide +kernel
theorem dX0_runCurtains_48 : decode cX0_runCurtains 48 = .ok (.iload_n 3, 1) := by decide +kernel
theorem dX0_runCurtains_49 : decode cX0_runCurtains 49 = .ok (.aload_n 1, 1) := by decide +kernel
theorem dX0_runCurtains_50 : decode cX0_runCurtains 50 = .ok (.getfield 52, 3) := by decide +kernel
theorem dX0_runCurtains_53 : decode cX0_runCurtains 53 = .ok (.iload 7, 2) := by decide +kernel
theorem dX0_runCurtains_55 : decode cX0_runCurtains 55 = .ok (.invokestatic 55, 3) := by decide +kernel
theorem dX0_runCurtains_58 : decode cX0_runCurtains 58 = .ok (.iadd, 1) := by decide +kernel
theorem dX0_runCurtains_59 : decode cX0_runCurtains 59 = .ok (.iadd, 1) := by decide +kernel
theorem dX0_runCurtains_60 : decode cX0_runCurtains 60 = .ok (.istore 5, 2) := by decide +kernel
theorem dX0_runCurtains_62 : decode cX0_runCurtains 62 = .ok (.iload 5, 2) := by decide +kernel
theorem dX0_runCurtains_64 : decode cX0_runCurtains 64 = .ok (.iload 6, 2) := by decide +kernel
theorem dX0_runCurtains_66 : decode cX0_runCurtains 66 = .ok (.iload 4, 2) := by decide +kernel
theorem dX0_runCurtains_68 : decode cX0_runCurtains 68 = .ok (.iadd, 1) := by decide +kernel
theorem dX0_runCurtains_69 : decode cX0_runCurtains 69 = .ok (.aload_n 1, 1) := by decide +kernel
theorem dX0_runCurtains_70 : decode cX0_runCurtains 70 = .ok (.getfield 59, 3) := by decide +kernel
theorem dX0_runCurtains_73 : decode cX0_runCurtains 73 = .ok (.iload 7, 2) := by decide +kernel
theorem dX0_runCurtains_75 : decode cX0_runCurtains 75 = .ok (.invokestatic 55, 3) := by decide +kernel
theorem dX0_runCurtains_78 : decode cX0_runCurtains 78 = .ok (.iadd, 1) := by decide +kernel
theorem dX0_runCurtains_79 : decode cX0_runCurtains 79 = .ok (.invokestatic 62, 3) := by decide +kernel
theorem dX0_runCurtains_82 : decode cX0_runCurtains 82 = .ok (.istore 6, 2) := by decide +kernel
theorem dX0_runCurtains_84 : decode cX0_runCurtains 84 = .ok (.aload_n 0, 1) := by decide +kernel
theorem dX0_runCurtains_85 : decode cX0_runCurtains 85 = .ok (.getfield 9, 3) := by decide +kernel
theorem dX0_runCurtains_88 : decode cX0_runCurtains 88 = .ok (.iload 7, 2) := by decide +kernel
theorem dX0_runCurtains_90 : decode cX0_runCurtains 90 = .ok (.iload 5, 2) := by decide +kernel
theorem dX0_runCurtains_92 : decode cX0_runCurtains 92 = .ok (.iastore, 1) := by decide +kernel
theorem dX0_runCurtains_93 : decode cX0_runCurtains 93 = .ok (.aload_n 0, 1) := by decide +kernel
theorem dX0_runCurtains_94 : decode cX0_runCurtains 94 = .ok (.getfield 15, 3) := by decide +kernel
theorem dX0_runCurtains_97 : decode cX0_runCurtains 97 = .ok (.iload 7, 2) := by decide +kernel
theorem dX0_runCurtains_99 : decode cX0_runCurtains 99 = .ok (.iload 6, 2) := by decide +kernel
theorem dX0_runCurtains_101 : decode cX0_runCurtains 101 = .ok (.iastore, 1) := by decide +kernel
theorem dX0_runCurtains_102 : decode cX0_runCurtains 102 = .ok (.iinc 7 1, 3) := by decide +kernel
theorem dX0_runCurtains_105 : decode cX0_runCurtains 105 = .ok (.goto (-79), 3) := by decide +kernel
theorem dX0_runCurtains_108 : decode cX0_runCurtains 108 = .ok (.return_, 1) := by decide +kernel
abbrev zX0_runCurtains : List Cond := .code yX0_runCurtains cX0_runCurtains 8 none :: BIG
def fX0_runCurtains_l26 (x : ShT)  (K26 : (ExT × Int32 × Int32 × Int32 × Int32 × Int32) → Option (ExT)) (v26 : ExT × Int32 × Int32 × Int32 × Int32 × Int32) : Option (ExT) := (if 24 ≤ v26.2.2.2.2.2 then some v26.1 else (if 24 ≤ v26.2.2.2.2.2 then some v26.1 else (fX2_at 24 x.2.2.1 v26.2.2.2.2.2).bind (fun r6 => (fX2_at 24 x.2.2.2.1 v26.2.2.2.2.2).bind (fun r7 => gd (pin v26.2.2.2.2.2 24) (K26 (((upd v26.1.1 (Int32.toNatClampNeg v26.2.2.2.2.2) (v26.2.2.2.1 + (v26.2.1 + r6))), (upd v26.1.2.1 (Int32.toNatClampNeg v26.2.2.2.2.2) (imax (v26.2.2.2.1 + (v26.2.1 + r6)) ((v26.2.2.2.2.1 + v26.2.2.1) + r7))), v26.1.2.2.1, v26.1.2.2.2.1, v26.1.2.2.2.2.1, v26.1.2.2.2.2.2.1, v26.1.2.2.2.2.2.2.1, v26.1.2.2.2.2.2.2.2.1, v26.1.2.2.2.2.2.2.2.2.1, v26.1.2.2.2.2.2.2.2.2.2), v26.2.1, v26.2.2.1, v26.2.2.2.1 + (v26.2.1 + r6), imax (v26.2.2.2.1 + (v26.2.1 + r6)) ((v26.2.2.2.2.1 + v26.2.2.1) + r7), v26.2.2.2.2.2 + 1))))))
def fX0_runCurtains (ex : ExT) (x : ShT) (v : Int32) : Option (ExT) := (fX1_ticksWithoutDrag x 0).bind (fun r1 => (fX1_ticksWithoutDrag x 1).bind (fun r2 => (fX1_startOfSecond x v).bind (fun r3 => lp (fX0_runCurtains_l26 x) 2000 (ex, r1, r2, 0, r3, 0))))
set_option maxHeartbeats 4000000 in
set_option maxRecDepth 100000 in
theorem mtX0_runCurtains (l : Launch) (D : va_G) (t : Nat → ClassId) (ea : Nat) (eb : Nat → Nat) (ex : ExT) (xa : Nat) (xb : Nat → Nat) (x : ShT) (v : Int32) (out : ExT) (h : fX0_runCurtains ex x v = some out)  (sz : Nat) : Met l yX0_runCurtains zX0_runCurtains ({ frames := 2, cells := 0, slots := 0, locals := 44 }) (sPc D t (gE t ea eb ex ++ (gS t xa xb x)) sz [.ref ea, .ref xa, .int v]) (qV D t (gE t ea eb out ++ (gS t xa xb x)) (va_A (gE t ea eb ex ++ (gS t xa xb x)) sz)) 0 0 (va_A (gE t ea eb ex ++ (gS t xa xb x)) sz) := by
  refine met_of (Qf := fun A => qV D t (gE t ea eb out ++ (gS t xa xb x)) A) (cc := cX0_runCurtains) (maxL := 8) (ret := none) (by decide) rfl (Nat.le_of_ble_eq_true rfl) ?_
  intro p e s m args below meth c A hx hb hr hml hts hown hlocks hA hP hK hD hE hS ls hl
  have htB : ∀ w ∈ BIG, w.before args s = true := fun w h => hts w (List.mem_cons_of_mem _ h)
  have hown : s.vm.findClass RX0 = some m.cls := hown
  have hl : lv_has ls 8 [(0, .ref ea), (1, .ref xa), (2, .int v)] := hl
  unfold fX0_runCurtains at h
  have J26 : ∀ (fu26 : Nat) (v26 : ExT × Int32 × Int32 × Int32 × Int32 × Int32), lp (fX0_runCurtains_l26 x) fu26 v26 = some out → ∀ (H : Heap) (locs : List Loc), va_P D vwCl (gE t ea eb v26.1 ++ (gS t xa xb x)) H → va_D A (gE t ea eb v26.1 ++ (gS t xa xb x)) → va_S A s.heap H locs → ∀ ls : Array Slot, lv_has ls 8 [(0, .ref ea), (1, .ref xa), (3, .int v26.2.1), (4, .int v26.2.2.1), (5, .int v26.2.2.2.1), (6, .int v26.2.2.2.2.1), (7, .int v26.2.2.2.2.2)] → W p l e ({ frames := 2, cells := 0, slots := 0, locals := 44 }) s m args below meth c H locs 0 0 (MQ below (qV D t (gE t ea eb out ++ (gS t xa xb x)) A) args s 0 0 A) (F0 m 26 ls []) := by
    intro fu26
    induction fu26 with
    | zero => intro v26 h; cases h
    | succ fu26 ih26 =>
      intro v26 h H locs hP hD hS ls hl
      have h : fX0_runCurtains_l26 x (lp (fX0_runCurtains_l26 x) fu26) v26 = some out := h
      unfold fX0_runCurtains_l26 at h
      refine lv_iload hx hb dX0_runCurtains_26 (lv_at hl 6 rfl) ?_
      refine lv_aload_n hx hb dX0_runCurtains_28 rfl (lv_at hl 0 rfl) ?_
      refine va_get (D := D) (ci := 0) (v := .ref (eb 0)) (C := RX0) (T := TX0) (N := 10) hx hb htB inlX0 hown hK hP 0 rfl rfl 0 (by decide) (htB _ kw42) (fun _ h9 => h9) rfl dX0_runCurtains_29 ?_
      refine va_alen (v := 24) hx hb hK hP 1 0 rfl rfl rfl dX0_runCurtains_32 ?_
      refine lv_icmp_ge (tgt := 108) hx hb dX0_runCurtains_33 (by decide) (fun c4 => ?_) (fun c4 => ?_)
      · have h := it_p c4 h
        obtain rfl := os h
        exact ret_v hx hb hr hlocks hP hK hD hS dX0_runCurtains_108
      · have h := it_n c4 h
        refine lv_iload hx hb dX0_runCurtains_36 (lv_at hl 6 rfl) ?_
        refine lv_aload_n hx hb dX0_runCurtains_38 rfl (lv_at hl 0 rfl) ?_
        refine va_get (D := D) (ci := 0) (v := .ref (eb 1)) (C := RX0) (T := TX0) (N := 10) hx hb htB inlX0 hown hK hP 0 rfl rfl 1 (by decide) (htB _ kw43) (fun _ h9 => h9) rfl dX0_runCurtains_39 ?_
        refine va_alen (v := 24) hx hb hK hP 2 0 rfl rfl rfl dX0_runCurtains_42 ?_
        refine lv_icmp_ge (tgt := 108) hx hb dX0_runCurtains_43 (by decide) (fun c5 => ?_) (fun c5 => ?_)
        · have h := it_p c5 h
          obtain rfl := os h
          exact ret_v hx hb hr hlocks hP hK hD hS dX0_runCurtains_108
        · have h := it_n c5 h
          refine lv_iload hx hb dX0_runCurtains_46 (lv_at hl 4 rfl) ?_
          refine lv_iload_n hx hb dX0_runCurtains_48 rfl (lv_at hl 2 rfl) ?_
          refine lv_aload_n hx hb dX0_runCurtains_49 rfl (lv_at hl 1 rfl) ?_
          refine va_get (D := D) (ci := 1) (v := .ref (xb 2)) (C := RX1) (T := TX1) (N := 10) hx hb htB inlX1 hown hK hP 4 rfl rfl 2 (by decide) (htB _ kw108) (fun _ h9 => h9) rfl dX0_runCurtains_50 ?_
          refine lv_iload hx hb dX0_runCurtains_53 (lv_at hl 6 rfl) ?_
          obtain ⟨r6, h6, h⟩ := ob h
          refine call_i (v := r6) (wc := (gA t (xb 2) 24 x.2.2.1)) (wc' := (gA t (xb 2) 24 x.2.2.1)) (ws' := (gE t ea eb v26.1 ++ (gS t xa xb x))) (cutI (wc := (gA t (xb 2) 24 x.2.2.1)) (wc' := (gA t (xb 2) 24 x.2.2.1)) (ws' := (gE t ea eb v26.1 ++ (gS t xa xb x))) [7] hP hD hS hA rfl rfl rfl rfl) hS (fun hPc hDc => va_runSN (As := [.ref (xb 2), .int v26.2.2.2.2.2]) (rest := [.int v26.2.1, .int v26.2.2.2.1]) ⟨hx, hb, hml, hown, hts⟩ (mtX2_at l D t (xb 2) 24 x.2.2.1 v26.2.2.2.2.2 r6 h6 (by decide) _) ⟨va_cnB 2 hts (gB kw66) rfl rfl rfl hE.2.1 (htB _ kw2) (by decide +kernel) ⟨Nat.le_of_ble_eq_true rfl, Nat.le_of_ble_eq_true rfl⟩, (htB _ kw65), trivial⟩ (sPc_S hPc hK hDc hE) rfl rfl hl.1 rfl (lv_room (Nat.le_of_ble_eq_true rfl)) dX0_runCurtains_55 ⟨Nat.zero_le _, Nat.zero_le _⟩) (fun H locs hP hD hS => ?_)
          refine lv_iadd hx hb dX0_runCurtains_58 ?_
          refine lv_iadd hx hb dX0_runCurtains_59 ?_
          refine lv_istore (lv' := [(5, .int (v26.2.2.2.1 + (v26.2.1 + r6))), (0, .ref ea), (1, .ref xa), (3, .int v26.2.1), (4, .int v26.2.2.1), (6, .int v26.2.2.2.2.1), (7, .int v26.2.2.2.2.2)]) hx hb dX0_runCurtains_60 hl (by decide) rfl (fun ls hl => ?_)
          refine lv_iload hx hb dX0_runCurtains_62 (lv_at hl 0 rfl) ?_
          refine lv_iload hx hb dX0_runCurtains_64 (lv_at hl 5 rfl) ?_
          refine lv_iload hx hb dX0_runCurtains_66 (lv_at hl 4 rfl) ?_
          refine lv_iadd hx hb dX0_runCurtains_68 ?_
          refine lv_aload_n hx hb dX0_runCurtains_69 rfl (lv_at hl 2 rfl) ?_
          refine va_get (D := D) (ci := 1) (v := .ref (xb 3)) (C := RX1) (T := TX1) (N := 10) hx hb htB inlX1 hown hK hP 4 rfl rfl 3 (by decide) (htB _ kw109) (fun _ h9 => h9) rfl dX0_runCurtains_70 ?_
          refine lv_iload hx hb dX0_runCurtains_73 (lv_at hl 6 rfl) ?_
          obtain ⟨r7, h7, h⟩ := ob h
          refine call_i (v := r7) (wc := (gA t (xb 3) 24 x.2.2.2.1)) (wc' := (gA t (xb 3) 24 x.2.2.2.1)) (ws' := (gE t ea eb v26.1 ++ (gS t xa xb x))) (cutI (wc := (gA t (xb 3) 24 x.2.2.2.1)) (wc' := (gA t (xb 3) 24 x.2.2.2.1)) (ws' := (gE t ea eb v26.1 ++ (gS t xa xb x))) [8] hP hD hS hA rfl rfl rfl rfl) hS (fun hPc hDc => va_runSN (As := [.ref (xb 3), .int v26.2.2.2.2.2]) (rest := [.int (v26.2.2.2.2.1 + v26.2.2.1), .int (v26.2.2.2.1 + (v26.2.1 + r6))]) ⟨hx, hb, hml, hown, hts⟩ (mtX2_at l D t (xb 3) 24 x.2.2.2.1 v26.2.2.2.2.2 r7 h7 (by decide) _) ⟨va_cnB 2 hts (gB kw66) rfl rfl rfl hE.2.1 (htB _ kw2) (by decide +kernel) ⟨Nat.le_of_ble_eq_true rfl, Nat.le_of_ble_eq_true rfl⟩, (htB _ kw65), trivial⟩ (sPc_S hPc hK hDc hE) rfl rfl hl.1 rfl (lv_room (Nat.le_of_ble_eq_true rfl)) dX0_runCurtains_75 ⟨Nat.zero_le _, Nat.zero_le _⟩) (fun H locs hP hD hS => ?_)
          refine lv_iadd hx hb dX0_runCurtains_78 ?_
          refine va_mmax hx hb (by rw [hml]; exact hl.1.symm) hown (htB _ kw110) (htB _ kw111) (htB _ kw63) (htB _ kw112) (Nat.le_of_ble_eq_true rfl) (Nat.le_of_ble_eq_true rfl) (Nat.zero_le _) (Nat.zero_le _) dX0_runCurtains_79 ?_
          refine lv_istore (lv' := [(6, .int (imax (v26.2.2.2.1 + (v26.2.1 + r6)) ((v26.2.2.2.2.1 + v26.2.2.1) + r7))), (5, .int (v26.2.2.2.1 + (v26.2.1 + r6))), (0, .ref ea), (1, .ref xa), (3, .int v26.2.1), (4, .int v26.2.2.1), (7, .int v26.2.2.2.2.2)]) hx hb dX0_runCurtains_82 hl (by decide) rfl (fun ls hl => ?_)
          refine lv_aload_n hx hb dX0_runCurtains_84 rfl (lv_at hl 2 rfl) ?_
          refine va_get (D := D) (ci := 0) (v := .ref (eb 0)) (C := RX0) (T := TX0) (N := 10) hx hb htB inlX0 hown hK hP 0 rfl rfl 0 (by decide) (htB _ kw42) (fun _ h9 => h9) rfl dX0_runCurtains_85 ?_
          refine lv_iload hx hb dX0_runCurtains_88 (lv_at hl 6 rfl) ?_
          refine lv_iload hx hb dX0_runCurtains_90 (lv_at hl 1 rfl) ?_
          obtain ⟨g8, h⟩ := og h
          refine va_iast hx hb hK hP hD hS 1 0 rfl rfl (pin_in g8) dX0_runCurtains_92 (fun H locs hP hD hS => ?_)
          have hP : va_P D vwCl (gE t ea eb ((upd v26.1.1 (Int32.toNatClampNeg v26.2.2.2.2.2) (v26.2.2.2.1 + (v26.2.1 + r6))), v26.1.2.1, v26.1.2.2.1, v26.1.2.2.2.1, v26.1.2.2.2.2.1, v26.1.2.2.2.2.2.1, v26.1.2.2.2.2.2.2.1, v26.1.2.2.2.2.2.2.2.1, v26.1.2.2.2.2.2.2.2.2.1, v26.1.2.2.2.2.2.2.2.2.2) ++ (gS t xa xb x)) H := hP
          have hD : va_D A (gE t ea eb ((upd v26.1.1 (Int32.toNatClampNeg v26.2.2.2.2.2) (v26.2.2.2.1 + (v26.2.1 + r6))), v26.1.2.1, v26.1.2.2.1, v26.1.2.2.2.1, v26.1.2.2.2.2.1, v26.1.2.2.2.2.2.1, v26.1.2.2.2.2.2.2.1, v26.1.2.2.2.2.2.2.2.1, v26.1.2.2.2.2.2.2.2.2.1, v26.1.2.2.2.2.2.2.2.2.2) ++ (gS t xa xb x)) := hD
          refine lv_aload_n hx hb dX0_runCurtains_93 rfl (lv_at hl 2 rfl) ?_
          refine va_get (D := D) (ci := 0) (v := .ref (eb 1)) (C := RX0) (T := TX0) (N := 10) hx hb htB inlX0 hown hK hP 0 rfl rfl 1 (by decide) (htB _ kw43) (fun _ h9 => h9) rfl dX0_runCurtains_94 ?_
          refine lv_iload hx hb dX0_runCurtains_97 (lv_at hl 6 rfl) ?_
          refine lv_iload hx hb dX0_runCurtains_99 (lv_at hl 0 rfl) ?_
          refine va_iast hx hb hK hP hD hS 2 0 rfl rfl (pin_in g8) dX0_runCurtains_101 (fun H locs hP hD hS => ?_)
          have hP : va_P D vwCl (gE t ea eb ((upd v26.1.1 (Int32.toNatClampNeg v26.2.2.2.2.2) (v26.2.2.2.1 + (v26.2.1 + r6))), (upd v26.1.2.1 (Int32.toNatClampNeg v26.2.2.2.2.2) (imax (v26.2.2.2.1 + (v26.2.1 + r6)) ((v26.2.2.2.2.1 + v26.2.2.1) + r7))), v26.1.2.2.1, v26.1.2.2.2.1, v26.1.2.2.2.2.1, v26.1.2.2.2.2.2.1, v26.1.2.2.2.2.2.2.1, v26.1.2.2.2.2.2.2.2.1, v26.1.2.2.2.2.2.2.2.2.1, v26.1.2.2.2.2.2.2.2.2.2) ++ (gS t xa xb x)) H := hP
          have hD : va_D A (gE t ea eb ((upd v26.1.1 (Int32.toNatClampNeg v26.2.2.2.2.2) (v26.2.2.2.1 + (v26.2.1 + r6))), (upd v26.1.2.1 (Int32.toNatClampNeg v26.2.2.2.2.2) (imax (v26.2.2.2.1 + (v26.2.1 + r6)) ((v26.2.2.2.2.1 + v26.2.2.1) + r7))), v26.1.2.2.1, v26.1.2.2.2.1, v26.1.2.2.2.2.1, v26.1.2.2.2.2.2.1, v26.1.2.2.2.2.2.2.1, v26.1.2.2.2.2.2.2.2.1, v26.1.2.2.2.2.2.2.2.2.1, v26.1.2.2.2.2.2.2.2.2.2) ++ (gS t xa xb x)) := hD
          refine lv_iinc (v := v26.2.2.2.2.2 + 1) (lv' := [(7, .int (v26.2.2.2.2.2 + 1)), (6, .int (imax (v26.2.2.2.1 + (v26.2.1 + r6)) ((v26.2.2.2.2.1 + v26.2.2.1) + r7))), (5, .int (v26.2.2.2.1 + (v26.2.1 + r6))), (0, .ref ea), (1, .ref xa), (3, .int v26.2.1), (4, .int v26.2.2.1)]) hx hb dX0_runCurtains_102 hl (k := 6) rfl rfl (by decide) rfl (fun ls hl => ?_)
          refine lv_goto (tgt := 26) hx hb dX0_runCurtains_105 (by decide) ?_
          exact ih26 (((upd v26.1.1 (Int32.toNatClampNeg v26.2.2.2.2.2) (v26.2.2.2.1 + (v26.2.1 + r6))), (upd v26.1.2.1 (Int32.toNatClampNeg v26.2.2.2.2.2) (imax (v26.2.2.2.1 + (v26.2.1 + r6)) ((v26.2.2.2.2.1 + v26.2.2.1) + r7))), v26.1.2.2.1, v26.1.2.2.2.1, v26.1.2.2.2.2.1, v26.1.2.2.2.2.2.1, v26.1.2.2.2.2.2.2.1, v26.1.2.2.2.2.2.2.2.1, v26.1.2.2.2.2.2.2.2.2.1, v26.1.2.2.2.2.2.2.2.2.2), v26.2.1, v26.2.2.1, v26.2.2.2.1 + (v26.2.1 + r6), imax (v26.2.2.2.1 + (v26.2.1 + r6)) ((v26.2.2.2.2.1 + v26.2.2.1) + r7), v26.2.2.2.2.2 + 1) h _ _ hP hD hS _ (lv_sub hl [3, 4, 5, 6, 2, 1, 0] rfl)
  refine lv_aload_n hx hb dX0_runCurtains_0 rfl (lv_at hl 1 rfl) ?_
  refine lv_iconst (v := 0) hx hb dX0_runCurtains_1 (by decide) ?_
  obtain ⟨r1, h1, h⟩ := ob h
  refine call_i (v := r1) (wc := (gS t xa xb x)) (wc' := (gS t xa xb x)) (ws' := (gE t ea eb ex ++ (gS t xa xb x))) (cutB (bs := [gE t ea eb ex, gS t xa xb x]) (cs := [gS t xa xb x]) (cs' := [gS t xa xb x]) (bs' := [gE t ea eb ex, gS t xa xb x]) [1] hP hD hS hA rfl rfl rfl rfl) hS (fun hPc hDc => va_runV (As := [.int 0]) (rest := []) ⟨hx, hb, hml, hown, hts⟩ (mtX1_ticksWithoutDrag l D t xa xb x 0 r1 h1 _) (cwV 1 hts (gBV kw113 kw114 kw115 kw11 kw116) rfl rfl rfl (by decide +kernel) ⟨Nat.le_of_ble_eq_true rfl, Nat.le_of_ble_eq_true rfl⟩) (sPc_V hPc hK hDc hE (va_recv hK hP (ci := 1) (q0 := 4) rfl rfl)) rfl rfl hl.1 rfl (lv_room (Nat.le_of_ble_eq_true rfl)) dX0_runCurtains_2 ⟨Nat.zero_le _, Nat.zero_le _⟩) (fun H locs hP hD hS => ?_)
  refine lv_istore_n (lv' := [(3, .int r1), (0, .ref ea), (1, .ref xa), (2, .int v)]) hx hb dX0_runCurtains_5 rfl hl (by decide) rfl (fun ls hl => ?_)
  refine lv_aload_n hx hb dX0_runCurtains_6 rfl (lv_at hl 2 rfl) ?_
  refine lv_iconst (v := 1) hx hb dX0_runCurtains_7 (by decide) ?_
  obtain ⟨r2, h2, h⟩ := ob h
  refine call_i (v := r2) (wc := (gS t xa xb x)) (wc' := (gS t xa xb x)) (ws' := (gE t ea eb ex ++ (gS t xa xb x))) (cutB (bs := [gE t ea eb ex, gS t xa xb x]) (cs := [gS t xa xb x]) (cs' := [gS t xa xb x]) (bs' := [gE t ea eb ex, gS t xa xb x]) [1] hP hD hS hA rfl rfl rfl rfl) hS (fun hPc hDc => va_runV (As := [.int 1]) (rest := []) ⟨hx, hb, hml, hown, hts⟩ (mtX1_ticksWithoutDrag l D t xa xb x 1 r2 h2 _) (cwV 1 hts (gBV kw113 kw114 kw115 kw11 kw116) rfl rfl rfl (by decide +kernel) ⟨Nat.le_of_ble_eq_true rfl, Nat.le_of_ble_eq_true rfl⟩) (sPc_V hPc hK hDc hE (va_recv hK hP (ci := 1) (q0 := 4) rfl rfl)) rfl rfl hl.1 rfl (lv_room (Nat.le_of_ble_eq_true rfl)) dX0_runCurtains_8 ⟨Nat.zero_le _, Nat.zero_le _⟩) (fun H locs hP hD hS => ?_)
  refine lv_istore (lv' := [(4, .int r2), (3, .int r1), (0, .ref ea), (1, .ref xa), (2, .int v)]) hx hb dX0_runCurtains_11 hl (by decide) rfl (fun ls hl => ?_)
  refine lv_iconst (v := 0) hx hb dX0_runCurtains_13 (by decide) ?_
  refine lv_istore (lv' := [(5, .int 0), (4, .int r2), (3, .int r1), (0, .ref ea), (1, .ref xa), (2, .int v)]) hx hb dX0_runCurtains_14 hl (by decide) rfl (fun ls hl => ?_)
  refine lv_aload_n hx hb dX0_runCurtains_16 rfl (lv_at hl 4 rfl) ?_
  refine lv_iload_n hx hb dX0_runCurtains_17 rfl (lv_at hl 5 rfl) ?_
  obtain ⟨r3, h3, h⟩ := ob h
  refine call_i (v := r3) (wc := (gS t xa xb x)) (wc' := (gS t xa xb x)) (ws' := (gE t ea eb ex ++ (gS t xa xb x))) (cutB (bs := [gE t ea eb ex, gS t xa xb x]) (cs := [gS t xa xb x]) (cs' := [gS t xa xb x]) (bs' := [gE t ea eb ex, gS t xa xb x]) [1] hP hD hS hA rfl rfl rfl rfl) hS (fun hPc hDc => va_runV (As := [.int v]) (rest := []) ⟨hx, hb, hml, hown, hts⟩ (mtX1_startOfSecond l D t xa xb x v r3 h3 _) (cwV 1 hts (gBV kw117 kw118 kw119 kw11 kw120) rfl rfl rfl (by decide +kernel) ⟨Nat.le_of_ble_eq_true rfl, Nat.le_of_ble_eq_true rfl⟩) (sPc_V hPc hK hDc hE (va_recv hK hP (ci := 1) (q0 := 4) rfl rfl)) rfl rfl hl.1 rfl (lv_room (Nat.le_of_ble_eq_true rfl)) dX0_runCurtains_18 ⟨Nat.zero_le _, Nat.zero_le _⟩) (fun H locs hP hD hS => ?_)
  refine lv_istore (lv' := [(6, .int r3), (5, .int 0), (4, .int r2), (3, .int r1), (0, .ref ea), (1, .ref xa), (2, .int v)]) hx hb dX0_runCurtains_21 hl (by decide) rfl (fun ls hl => ?_)
  refine lv_iconst (v := 0) hx hb dX0_runCurtains_23 (by decide) ?_
  refine lv_istore (lv' := [(7, .int 0), (6, .int r3), (5, .int 0), (4, .int r2), (3, .int r1), (0, .ref ea), (1, .ref xa), (2, .int v)]) hx hb dX0_runCurtains_24 hl (by decide) rfl (fun ls hl => ?_)
  exact J26 2000 (ex, r1, r2, 0, r3, 0) h _ _ hP hD hS _ (lv_sub hl [5, 6, 4, 3, 2, 1, 0] rfl)

theorem dX0_openColumns_0 : decode cX0_openColumns 0 = .ok (.aload_n 0, 1) := by decide +kernel
theorem dX0_openColumns_1 : decode cX0_openColumns 1 = .ok (.getfield 9, 3) := by decide +kernel
theorem dX0_openColumns_4 : decode cX0_openColumns 4 = .ok (.bipush 23, 2) := by decide +kernel
theorem dX0_openColumns_6 : decode cX0_openColumns 6 = .ok (.invokestatic 55, 3) := by decide +kernel
theorem dX0_openColumns_9 : decode cX0_openColumns 9 = .ok (.istore_n 2, 1) := by decide +kernel
theorem dX0_openColumns_10 : decode cX0_openColumns 10 = .ok (.iload_n 2, 1) := by decide +kernel
theorem dX0_openColumns_11 : decode cX0_openColumns 11 = .ok (.aload_n 1, 1) := by decide +kernel
theorem dX0_openColumns_12 : decode cX0_openColumns 12 = .ok (.getfield 68, 3) := by decide +kernel
theorem dX0_openColumns_15 : decode cX0_openColumns 15 = .ok (.iconst 2, 1) := by decide +kernel
theorem dX0_openColumns_16 : decode cX0_openColumns 16 = .ok (.invokestatic 55, 3) := by decide +kernel
theorem dX0_openColumns_19 : decode cX0_openColumns 19 = .ok (.iadd, 1) := by decide +kernel
theorem dX0_openColumns_20 : decode cX0_openColumns 20 = .ok (.istore_n 3, 1) := by decide +kernel
theorem dX0_openColumns_21 : decode cX0_openColumns 21 = .ok (.bipush 24, 2) := by decide +kernel
theorem dX0_openColumns_23 : decode cX0_openColumns 23 = .ok (.aload_n 1, 1) := by decide +kernel
theorem dX0_openColumns_24 : decode cX0_openColumns 24 = .ok (.invokevirtual 71, 3) := by decide +kernel
theorem dX0_openColumns_27 : decode cX0_openColumns 27 = .ok (.isub, 1) := by decide +kernel
theorem dX0_openColumns_28 : decode cX0_openColumns 28 = .ok (.istore 4, 2) := by decide +kernel
theorem dX0_openColumns_30 : decode cX0_openColumns 30 = .ok (.iconst 0, 1) := by decide +kernel
theorem dX0_openColumns_31 : decode cX0_openColumns 31 = .ok (.istore 5, 2) := by decide +kernel
theorem dX0_openColumns_33 : decode cX0_openColumns 33 = .ok (.iload 5, 2) := by decide +kernel
theorem dX0_openColumns_35 : decode cX0_openColumns 35 = .ok (.aload_n 0, 1) := by decide +kernel
theorem dX0_openColumns_36 : decode cX0_openColumns 36 = .ok (.getfield 18, 3) := by decide +kernel
theorem dX0_openColumns_39 : decode cX0_openColumns 39 = .ok (.arraylength, 1) := by decide +kernel
theorem dX0_openColumns_40 : decode cX0_openColumns 40 = .ok (.if_icmp .ge 71, 3) := by decide +kernel
theorem dX0_openColumns_43 : decode cX0_openColumns 43 = .ok (.aload_n 0, 1) := by decide +kernel
theorem dX0_openColumns_44 : decode cX0_openColumns 44 = .ok (.getfield 15, 3) := by decide +kernel
theorem dX0_openColumns_47 : decode cX0_openColumns 47 = .ok (.iload 5, 2) := by decide +kernel
theorem dX0_openColumns_49 : decode cX0_openColumns 49 = .ok (.invokestatic 55, 3) := by decide +kernel
theorem dX0_openColumns_52 : decode cX0_openColumns 52 = .ok (.istore 6, 2) := by decide +kernel
theorem dX0_openColumns_54 : decode cX0_openColumns 54 = .ok (.iload 6, 2) := by decide +kernel
theorem dX0_openColumns_56 : decode cX0_openColumns 56 = .ok (.aload_n 0, 1) := by decide +kernel
theorem dX0_openColumns_57 : decode cX0_openColumns 57 = .ok (.getfield 9, 3) := by decide +kernel
theorem dX0_openColumns_60 : decode cX0_openColumns 60 = .ok (.iload 5, 2) := by decide +kernel
theorem dX0_openColumns_62 : decode cX0_openColumns 62 = .ok (.invokestatic 55, 3) := by decide +kernel
theorem dX0_openColumns_65 : decode cX0_openColumns 65 = .ok (.isub, 1) := by decide +kernel
theorem dX0_openColumns_66 : decode cX0_openColumns 66 = .ok (.istore 7, 2) := by decide +kernel
theorem dX0_openColumns_68 : decode cX0_openColumns 68 = .ok (.iload 5, 2) := by decide +kernel
theorem dX0_openColumns_70 : decode cX0_openColumns 70 = .ok (.iload 4, 2) := by decide +kernel
theorem dX0_openColumns_72 : decode cX0_openColumns 72 = .ok (.if_icmp .ge 7, 3) := by decide +kernel
theorem dX0_openColumns_75 : decode cX0_openColumns 75 = .ok (.iconst 0, 1) := by decide +kernel
theorem dX0_openColumns_76 : decode cX0_openColumns 76 = .ok (.goto 11, 3) := by decide +kernel
theorem dX0_openColumns_79 : decode cX0_openColumns 79 = .ok (.iload 6, 2) := by decide +kernel
theorem dX0_openColumns_81 : decode cX0_openColumns 81 = .ok (.iload_n 3, 1) := by decide +kernel
theorem dX0_openColumns_82 : decode cX0_openColumns 82 = .ok (.invokestatic 75, 3) := by decide +kernel
theorem dX0_openColumns_85 : decode cX0_openColumns 85 = .ok (.iload_n 2, 1) := by decide +kernel
theorem dX0_openColumns_86 : decode cX0_openColumns 86 = .ok (.isub, 1) := by decide +kernel
theorem dX0_openColumns_87 : decode cX0_openColumns 87 = .ok (.istore 8, 2) := by decide +kernel
theorem dX0_openColumns_89 : decode cX0_openColumns 89 = .ok (.aload_n 0, 1) := by decide +kernel
theorem dX0_openColumns_90 : decode cX0_openColumns 90 = .ok (.getfield 18, 3) := by decide +kernel
theorem dX0_openColumns_93 : decode cX0_openColumns 93 = .ok (.iload 5, 2) := by decide +kernel
theorem dX0_openColumns_95 : decode cX0_openColumns 95 = .ok (.iload 7, 2) := by decide +kernel
theorem dX0_openColumns_97 : decode cX0_openColumns 97 = .ok (.iconst 0, 1) := by decide +kernel
theorem dX0_openColumns_98 : decode cX0_openColumns 98 = .ok (.iload 8, 2) := by decide +kernel
theorem dX0_openColumns_100 : decode cX0_openColumns 100 = .ok (.invokestatic 62, 3) := by decide +kernel
theorem dX0_openColumns_103 : decode cX0_openColumns 103 = .ok (.isub, 1) := by decide +kernel
theorem dX0_openColumns_104 : decode cX0_openColumns 104 = .ok (.iastore, 1) := by decide +kernel
theorem dX0_openColumns_105 : decode cX0_openColumns 105 = .ok (.iinc 5 1, 3) := by decide +kernel
theorem dX0_openColumns_108 : decode cX0_openColumns 108 = .ok (.goto (-75), 3) := by decide +kernel
theorem dX0_openColumns_111 : decode cX0_openColumns 111 = .ok (.return_, 1) := by decide +kernel
abbrev zX0_openColumns : List Cond := .code yX0_openColumns cX0_openColumns 9 none :: BIG
def fX0_openColumns_j87 (x : ShT) (K33 : (ExT × Int32 × Int32 × Int32 × Int32) → Option (ExT)) (v87 : ExT × Int32 × Int32 × Int32 × Int32 × Int32 × Int32) : Option (ExT) := gd (pin v87.2.2.2.2.1 24) (K33 ((v87.1.1, v87.1.2.1, (upd v87.1.2.2.1 (Int32.toNatClampNeg v87.2.2.2.2.1) (v87.2.2.2.2.2.1 - (imax 0 v87.2.2.2.2.2.2))), v87.1.2.2.2.1, v87.1.2.2.2.2.1, v87.1.2.2.2.2.2.1, v87.1.2.2.2.2.2.2.1, v87.1.2.2.2.2.2.2.2.1, v87.1.2.2.2.2.2.2.2.2.1, v87.1.2.2.2.2.2.2.2.2.2), v87.2.1, v87.2.2.1, v87.2.2.2.1, v87.2.2.2.2.1 + 1))
def fX0_openColumns_l33 (x : ShT)  (K33 : (ExT × Int32 × Int32 × Int32 × Int32) → Option (ExT)) (v33 : ExT × Int32 × Int32 × Int32 × Int32) : Option (ExT) := (if 24 ≤ v33.2.2.2.2 then some v33.1 else (fX2_at 24 v33.1.2.1 v33.2.2.2.2).bind (fun r5 => (fX2_at 24 v33.1.1 v33.2.2.2.2).bind (fun r6 => (if v33.2.2.2.1 ≤ v33.2.2.2.2 then fX0_openColumns_j87 x K33 (v33.1, v33.2.1, v33.2.2.1, v33.2.2.2.1, v33.2.2.2.2, r5 - r6, (imin r5 v33.2.2.1) - v33.2.1) else fX0_openColumns_j87 x K33 (v33.1, v33.2.1, v33.2.2.1, v33.2.2.2.1, v33.2.2.2.2, r5 - r6, 0)))))
def fX0_openColumns (ex : ExT) (x : ShT) : Option (ExT) := (fX2_at 24 ex.1 23).bind (fun r1 => (fX2_at 4 x.2.2.2.2.2.1 2).bind (fun r2 => (fX1_bounceColumns x).bind (fun r3 => lp (fX0_openColumns_l33 x) 2000 (ex, r1, r1 + r2, 24 - r3, 0))))
set_option maxHeartbeats 4000000 in
set_option maxRecDepth 100000 in
theorem mtX0_openColumns (l : Launch) (D : va_G) (t : Nat → ClassId) (ea : Nat) (eb : Nat → Nat) (ex : ExT) (xa : Nat) (xb : Nat → Nat) (x : ShT) (out : ExT) (h : fX0_openColumns ex x = some out)  (sz : Nat) : Met l yX0_openColumns zX0_openColumns ({ frames := 2, cells := 0, slots := 0, locals := 42 }) (sPc D t (gE t ea eb ex ++ (gS t xa xb x)) sz [.ref ea, .ref xa]) (qV D t (gE t ea eb out ++ (gS t xa xb x)) (va_A (gE t ea eb ex ++ (gS t xa xb x)) sz)) 0 0 (va_A (gE t ea eb ex ++ (gS t xa xb x)) sz) := by
  refine met_of (Qf := fun A => qV D t (gE t ea eb out ++ (gS t xa xb x)) A) (cc := cX0_openColumns) (maxL := 9) (ret := none) (by decide) rfl (Nat.le_of_ble_eq_true rfl) ?_
  intro p e s m args below meth c A hx hb hr hml hts hown hlocks hA hP hK hD hE hS ls hl
  have htB : ∀ w ∈ BIG, w.before args s = true := fun w h => hts w (List.mem_cons_of_mem _ h)
  have hown : s.vm.findClass RX0 = some m.cls := hown
  have hl : lv_has ls 9 [(0, .ref ea), (1, .ref xa)] := hl
  unfold fX0_openColumns at h
  have J33 : ∀ (fu33 : Nat) (v33 : ExT × Int32 × Int32 × Int32 × Int32), lp (fX0_openColumns_l33 x) fu33 v33 = some out → ∀ (H : Heap) (locs : List Loc), va_P D vwCl (gE t ea eb v33.1 ++ (gS t xa xb x)) H → va_D A (gE t ea eb v33.1 ++ (gS t xa xb x)) → va_S A s.heap H locs → ∀ ls : Array Slot, lv_has ls 9 [(0, .ref ea), (2, .int v33.2.1), (3, .int v33.2.2.1), (4, .int v33.2.2.2.1), (5, .int v33.2.2.2.2)] → W p l e ({ frames := 2, cells := 0, slots := 0, locals := 42 }) s m args below meth c H locs 0 0 (MQ below (qV D t (gE t ea eb out ++ (gS t xa xb x)) A) args s 0 0 A) (F0 m 33 ls []) := by
    intro fu33
    induction fu33 with
    | zero => intro v33 h; cases h
    | succ fu33 ih33 =>
      intro v33 h H locs hP hD hS ls hl
      have h : fX0_openColumns_l33 x (lp (fX0_openColumns_l33 x) fu33) v33 = some out := h
      unfold fX0_openColumns_l33 at h
      have J87 : ∀ v87 : ExT × Int32 × Int32 × Int32 × Int32 × Int32 × Int32, fX0_openColumns_j87 x (lp (fX0_openColumns_l33 x) fu33) v87 = some out → ∀ (H : Heap) (locs : List Loc), va_P D vwCl (gE t ea eb v87.1 ++ (gS t xa xb x)) H → va_D A (gE t ea eb v87.1 ++ (gS t xa xb x)) → va_S A s.heap H locs → ∀ ls : Array Slot, lv_has ls 9 [(0, .ref ea), (2, .int v87.2.1), (3, .int v87.2.2.1), (4, .int v87.2.2.2.1), (5, .int v87.2.2.2.2.1), (7, .int v87.2.2.2.2.2.1)] → W p l e ({ frames := 2, cells := 0, slots := 0, locals := 42 }) s m args below meth c H locs 0 0 (MQ below (qV D t (gE t ea eb out ++ (gS t xa xb x)) A) args s 0 0 A) (F0 m 87 ls [.int v87.2.2.2.2.2.2]) := by
        intro v87 h H locs hP hD hS ls hl
        unfold fX0_openColumns_j87 at h
        refine lv_istore (lv' := [(8, .int v87.2.2.2.2.2.2), (0, .ref ea), (2, .int v87.2.1), (3, .int v87.2.2.1), (4, .int v87.2.2.2.1), (5, .int v87.2.2.2.2.1), (7, .int v87.2.2.2.2.2.1)]) hx hb dX0_openColumns_87 hl (by decide) rfl (fun ls hl => ?_)
        refine lv_aload_n hx hb dX0_openColumns_89 rfl (lv_at hl 1 rfl) ?_
        refine va_get (D := D) (ci := 0) (v := .ref (eb 2)) (C := RX0) (T := TX0) (N := 10) hx hb htB inlX0 hown hK hP 0 rfl rfl 2 (by decide) (htB _ kw44) (fun _ h9 => h9) rfl dX0_openColumns_90 ?_
        refine lv_iload hx hb dX0_openColumns_93 (lv_at hl 5 rfl) ?_
        refine lv_iload hx hb dX0_openColumns_95 (lv_at hl 6 rfl) ?_
        refine lv_iconst (v := 0) hx hb dX0_openColumns_97 (by decide) ?_
        refine lv_iload hx hb dX0_openColumns_98 (lv_at hl 0 rfl) ?_
        refine va_mmax hx hb (by rw [hml]; exact hl.1.symm) hown (htB _ kw110) (htB _ kw111) (htB _ kw63) (htB _ kw112) (Nat.le_of_ble_eq_true rfl) (Nat.le_of_ble_eq_true rfl) (Nat.zero_le _) (Nat.zero_le _) dX0_openColumns_100 ?_
        refine lv_isub hx hb dX0_openColumns_103 ?_
        obtain ⟨g8, h⟩ := og h
        refine va_iast hx hb hK hP hD hS 3 0 rfl rfl (pin_in g8) dX0_openColumns_104 (fun H locs hP hD hS => ?_)
        have hP : va_P D vwCl (gE t ea eb (v87.1.1, v87.1.2.1, (upd v87.1.2.2.1 (Int32.toNatClampNeg v87.2.2.2.2.1) (v87.2.2.2.2.2.1 - (imax 0 v87.2.2.2.2.2.2))), v87.1.2.2.2.1, v87.1.2.2.2.2.1, v87.1.2.2.2.2.2.1, v87.1.2.2.2.2.2.2.1, v87.1.2.2.2.2.2.2.2.1, v87.1.2.2.2.2.2.2.2.2.1, v87.1.2.2.2.2.2.2.2.2.2) ++ (gS t xa xb x)) H := hP
        have hD : va_D A (gE t ea eb (v87.1.1, v87.1.2.1, (upd v87.1.2.2.1 (Int32.toNatClampNeg v87.2.2.2.2.1) (v87.2.2.2.2.2.1 - (imax 0 v87.2.2.2.2.2.2))), v87.1.2.2.2.1, v87.1.2.2.2.2.1, v87.1.2.2.2.2.2.1, v87.1.2.2.2.2.2.2.1, v87.1.2.2.2.2.2.2.2.1, v87.1.2.2.2.2.2.2.2.2.1, v87.1.2.2.2.2.2.2.2.2.2) ++ (gS t xa xb x)) := hD
        refine lv_iinc (v := v87.2.2.2.2.1 + 1) (lv' := [(5, .int (v87.2.2.2.2.1 + 1)), (8, .int v87.2.2.2.2.2.2), (0, .ref ea), (2, .int v87.2.1), (3, .int v87.2.2.1), (4, .int v87.2.2.2.1), (7, .int v87.2.2.2.2.2.1)]) hx hb dX0_openColumns_105 hl (k := 5) rfl rfl (by decide) rfl (fun ls hl => ?_)
        refine lv_goto (tgt := 33) hx hb dX0_openColumns_108 (by decide) ?_
        exact ih33 ((v87.1.1, v87.1.2.1, (upd v87.1.2.2.1 (Int32.toNatClampNeg v87.2.2.2.2.1) (v87.2.2.2.2.2.1 - (imax 0 v87.2.2.2.2.2.2))), v87.1.2.2.2.1, v87.1.2.2.2.2.1, v87.1.2.2.2.2.2.1, v87.1.2.2.2.2.2.2.1, v87.1.2.2.2.2.2.2.2.1, v87.1.2.2.2.2.2.2.2.2.1, v87.1.2.2.2.2.2.2.2.2.2), v87.2.1, v87.2.2.1, v87.2.2.2.1, v87.2.2.2.2.1 + 1) h _ _ hP hD hS _ (lv_sub hl [2, 3, 4, 5, 0] rfl)
      refine lv_iload hx hb dX0_openColumns_33 (lv_at hl 4 rfl) ?_
      refine lv_aload_n hx hb dX0_openColumns_35 rfl (lv_at hl 0 rfl) ?_
      refine va_get (D := D) (ci := 0) (v := .ref (eb 2)) (C := RX0) (T := TX0) (N := 10) hx hb htB inlX0 hown hK hP 0 rfl rfl 2 (by decide) (htB _ kw44) (fun _ h9 => h9) rfl dX0_openColumns_36 ?_
      refine va_alen (v := 24) hx hb hK hP 3 0 rfl rfl rfl dX0_openColumns_39 ?_
      refine lv_icmp_ge (tgt := 111) hx hb dX0_openColumns_40 (by decide) (fun c4 => ?_) (fun c4 => ?_)
      · have h := it_p c4 h
        obtain rfl := os h
        exact ret_v hx hb hr hlocks hP hK hD hS dX0_openColumns_111
      · have h := it_n c4 h
        refine lv_aload_n hx hb dX0_openColumns_43 rfl (lv_at hl 0 rfl) ?_
        refine va_get (D := D) (ci := 0) (v := .ref (eb 1)) (C := RX0) (T := TX0) (N := 10) hx hb htB inlX0 hown hK hP 0 rfl rfl 1 (by decide) (htB _ kw43) (fun _ h9 => h9) rfl dX0_openColumns_44 ?_
        refine lv_iload hx hb dX0_openColumns_47 (lv_at hl 4 rfl) ?_
        obtain ⟨r5, h5, h⟩ := ob h
        refine call_i (v := r5) (wc := (gA t (eb 1) 24 v33.1.2.1)) (wc' := (gA t (eb 1) 24 v33.1.2.1)) (ws' := (gE t ea eb v33.1 ++ (gS t xa xb x))) (cutI (wc := (gA t (eb 1) 24 v33.1.2.1)) (wc' := (gA t (eb 1) 24 v33.1.2.1)) (ws' := (gE t ea eb v33.1 ++ (gS t xa xb x))) [2] hP hD hS hA rfl rfl rfl rfl) hS (fun hPc hDc => va_runSN (As := [.ref (eb 1), .int v33.2.2.2.2]) (rest := []) ⟨hx, hb, hml, hown, hts⟩ (mtX2_at l D t (eb 1) 24 v33.1.2.1 v33.2.2.2.2 r5 h5 (by decide) _) ⟨va_cnB 2 hts (gB kw66) rfl rfl rfl hE.2.1 (htB _ kw2) (by decide +kernel) ⟨Nat.le_of_ble_eq_true rfl, Nat.le_of_ble_eq_true rfl⟩, (htB _ kw65), trivial⟩ (sPc_S hPc hK hDc hE) rfl rfl hl.1 rfl (lv_room (Nat.le_of_ble_eq_true rfl)) dX0_openColumns_49 ⟨Nat.zero_le _, Nat.zero_le _⟩) (fun H locs hP hD hS => ?_)
        refine lv_istore (lv' := [(6, .int r5), (0, .ref ea), (2, .int v33.2.1), (3, .int v33.2.2.1), (4, .int v33.2.2.2.1), (5, .int v33.2.2.2.2)]) hx hb dX0_openColumns_52 hl (by decide) rfl (fun ls hl => ?_)
        refine lv_iload hx hb dX0_openColumns_54 (lv_at hl 0 rfl) ?_
        refine lv_aload_n hx hb dX0_openColumns_56 rfl (lv_at hl 1 rfl) ?_
        refine va_get (D := D) (ci := 0) (v := .ref (eb 0)) (C := RX0) (T := TX0) (N := 10) hx hb htB inlX0 hown hK hP 0 rfl rfl 0 (by decide) (htB _ kw42) (fun _ h9 => h9) rfl dX0_openColumns_57 ?_
        refine lv_iload hx hb dX0_openColumns_60 (lv_at hl 5 rfl) ?_
        obtain ⟨r6, h6, h⟩ := ob h
        refine call_i (v := r6) (wc := (gA t (eb 0) 24 v33.1.1)) (wc' := (gA t (eb 0) 24 v33.1.1)) (ws' := (gE t ea eb v33.1 ++ (gS t xa xb x))) (cutI (wc := (gA t (eb 0) 24 v33.1.1)) (wc' := (gA t (eb 0) 24 v33.1.1)) (ws' := (gE t ea eb v33.1 ++ (gS t xa xb x))) [1] hP hD hS hA rfl rfl rfl rfl) hS (fun hPc hDc => va_runSN (As := [.ref (eb 0), .int v33.2.2.2.2]) (rest := [.int r5]) ⟨hx, hb, hml, hown, hts⟩ (mtX2_at l D t (eb 0) 24 v33.1.1 v33.2.2.2.2 r6 h6 (by decide) _) ⟨va_cnB 2 hts (gB kw66) rfl rfl rfl hE.2.1 (htB _ kw2) (by decide +kernel) ⟨Nat.le_of_ble_eq_true rfl, Nat.le_of_ble_eq_true rfl⟩, (htB _ kw65), trivial⟩ (sPc_S hPc hK hDc hE) rfl rfl hl.1 rfl (lv_room (Nat.le_of_ble_eq_true rfl)) dX0_openColumns_62 ⟨Nat.zero_le _, Nat.zero_le _⟩) (fun H locs hP hD hS => ?_)
        refine lv_isub hx hb dX0_openColumns_65 ?_
        refine lv_istore (lv' := [(7, .int (r5 - r6)), (6, .int r5), (0, .ref ea), (2, .int v33.2.1), (3, .int v33.2.2.1), (4, .int v33.2.2.2.1), (5, .int v33.2.2.2.2)]) hx hb dX0_openColumns_66 hl (by decide) rfl (fun ls hl => ?_)
        refine lv_iload hx hb dX0_openColumns_68 (lv_at hl 6 rfl) ?_
        refine lv_iload hx hb dX0_openColumns_70 (lv_at hl 5 rfl) ?_
        refine lv_icmp_ge (tgt := 79) hx hb dX0_openColumns_72 (by decide) (fun c7 => ?_) (fun c7 => ?_)
        · have h := it_p c7 h
          refine lv_iload hx hb dX0_openColumns_79 (lv_at hl 1 rfl) ?_
          refine lv_iload_n hx hb dX0_openColumns_81 rfl (lv_at hl 4 rfl) ?_
          refine va_mmin hx hb (by rw [hml]; exact hl.1.symm) hown (htB _ kw129) (htB _ kw62) (htB _ kw63) (htB _ kw64) (Nat.le_of_ble_eq_true rfl) (Nat.le_of_ble_eq_true rfl) (Nat.zero_le _) (Nat.zero_le _) dX0_openColumns_82 ?_
          refine lv_iload_n hx hb dX0_openColumns_85 rfl (lv_at hl 3 rfl) ?_
          refine lv_isub hx hb dX0_openColumns_86 ?_
          exact J87 (v33.1, v33.2.1, v33.2.2.1, v33.2.2.2.1, v33.2.2.2.2, r5 - r6, (imin r5 v33.2.2.1) - v33.2.1) h _ _ hP hD hS _ (lv_sub hl [2, 3, 4, 5, 6, 0] rfl)
        · have h := it_n c7 h
          refine lv_iconst (v := 0) hx hb dX0_openColumns_75 (by decide) ?_
          refine lv_goto (tgt := 87) hx hb dX0_openColumns_76 (by decide) ?_
          exact J87 (v33.1, v33.2.1, v33.2.2.1, v33.2.2.2.1, v33.2.2.2.2, r5 - r6, 0) h _ _ hP hD hS _ (lv_sub hl [2, 3, 4, 5, 6, 0] rfl)
  refine lv_aload_n hx hb dX0_openColumns_0 rfl (lv_at hl 0 rfl) ?_
  refine va_get (D := D) (ci := 0) (v := .ref (eb 0)) (C := RX0) (T := TX0) (N := 10) hx hb htB inlX0 hown hK hP 0 rfl rfl 0 (by decide) (htB _ kw42) (fun _ h9 => h9) rfl dX0_openColumns_1 ?_
  refine lv_bipush (v := 23) hx hb dX0_openColumns_4 (by decide) ?_
  obtain ⟨r1, h1, h⟩ := ob h
  refine call_i (v := r1) (wc := (gA t (eb 0) 24 ex.1)) (wc' := (gA t (eb 0) 24 ex.1)) (ws' := (gE t ea eb ex ++ (gS t xa xb x))) (cutI (wc := (gA t (eb 0) 24 ex.1)) (wc' := (gA t (eb 0) 24 ex.1)) (ws' := (gE t ea eb ex ++ (gS t xa xb x))) [1] hP hD hS hA rfl rfl rfl rfl) hS (fun hPc hDc => va_runSN (As := [.ref (eb 0), .int 23]) (rest := []) ⟨hx, hb, hml, hown, hts⟩ (mtX2_at l D t (eb 0) 24 ex.1 23 r1 h1 (by decide) _) ⟨va_cnB 2 hts (gB kw66) rfl rfl rfl hE.2.1 (htB _ kw2) (by decide +kernel) ⟨Nat.le_of_ble_eq_true rfl, Nat.le_of_ble_eq_true rfl⟩, (htB _ kw65), trivial⟩ (sPc_S hPc hK hDc hE) rfl rfl hl.1 rfl (lv_room (Nat.le_of_ble_eq_true rfl)) dX0_openColumns_6 ⟨Nat.zero_le _, Nat.zero_le _⟩) (fun H locs hP hD hS => ?_)
  refine lv_istore_n (lv' := [(2, .int r1), (0, .ref ea), (1, .ref xa)]) hx hb dX0_openColumns_9 rfl hl (by decide) rfl (fun ls hl => ?_)
  refine lv_iload_n hx hb dX0_openColumns_10 rfl (lv_at hl 0 rfl) ?_
  refine lv_aload_n hx hb dX0_openColumns_11 rfl (lv_at hl 2 rfl) ?_
  refine va_get (D := D) (ci := 1) (v := .ref (xb 5)) (C := RX1) (T := TX1) (N := 10) hx hb htB inlX1 hown hK hP 4 rfl rfl 5 (by decide) (htB _ kw128) (fun _ h9 => h9) rfl dX0_openColumns_12 ?_
  refine lv_iconst (v := 2) hx hb dX0_openColumns_15 (by decide) ?_
  obtain ⟨r2, h2, h⟩ := ob h
  refine call_i (v := r2) (wc := (gA t (xb 5) 4 x.2.2.2.2.2.1)) (wc' := (gA t (xb 5) 4 x.2.2.2.2.2.1)) (ws' := (gE t ea eb ex ++ (gS t xa xb x))) (cutI (wc := (gA t (xb 5) 4 x.2.2.2.2.2.1)) (wc' := (gA t (xb 5) 4 x.2.2.2.2.2.1)) (ws' := (gE t ea eb ex ++ (gS t xa xb x))) [10] hP hD hS hA rfl rfl rfl rfl) hS (fun hPc hDc => va_runSN (As := [.ref (xb 5), .int 2]) (rest := [.int r1]) ⟨hx, hb, hml, hown, hts⟩ (mtX2_at l D t (xb 5) 4 x.2.2.2.2.2.1 2 r2 h2 (by decide) _) ⟨va_cnB 2 hts (gB kw66) rfl rfl rfl hE.2.1 (htB _ kw2) (by decide +kernel) ⟨Nat.le_of_ble_eq_true rfl, Nat.le_of_ble_eq_true rfl⟩, (htB _ kw65), trivial⟩ (sPc_S hPc hK hDc hE) rfl rfl hl.1 rfl (lv_room (Nat.le_of_ble_eq_true rfl)) dX0_openColumns_16 ⟨Nat.zero_le _, Nat.zero_le _⟩) (fun H locs hP hD hS => ?_)
  refine lv_iadd hx hb dX0_openColumns_19 ?_
  refine lv_istore_n (lv' := [(3, .int (r1 + r2)), (2, .int r1), (0, .ref ea), (1, .ref xa)]) hx hb dX0_openColumns_20 rfl hl (by decide) rfl (fun ls hl => ?_)
  refine lv_bipush (v := 24) hx hb dX0_openColumns_21 (by decide) ?_
  refine lv_aload_n hx hb dX0_openColumns_23 rfl (lv_at hl 3 rfl) ?_
  obtain ⟨r3, h3, h⟩ := ob h
  refine call_i (v := r3) (wc := (gS t xa xb x)) (wc' := (gS t xa xb x)) (ws' := (gE t ea eb ex ++ (gS t xa xb x))) (cutB (bs := [gE t ea eb ex, gS t xa xb x]) (cs := [gS t xa xb x]) (cs' := [gS t xa xb x]) (bs' := [gE t ea eb ex, gS t xa xb x]) [1] hP hD hS hA rfl rfl rfl rfl) hS (fun hPc hDc => va_runV (As := []) (rest := [.int 24]) ⟨hx, hb, hml, hown, hts⟩ (mtX1_bounceColumns l D t xa xb x r3 h3 _) (cwV 0 hts (gBV kw130 kw58 kw59 kw11 kw60) rfl rfl rfl (by decide +kernel) ⟨Nat.le_of_ble_eq_true rfl, Nat.le_of_ble_eq_true rfl⟩) (sPc_V hPc hK hDc hE (va_recv hK hP (ci := 1) (q0 := 4) rfl rfl)) rfl rfl hl.1 rfl (lv_room (Nat.le_of_ble_eq_true rfl)) dX0_openColumns_24 ⟨Nat.zero_le _, Nat.zero_le _⟩) (fun H locs hP hD hS => ?_)
  refine lv_isub hx hb dX0_openColumns_27 ?_
  refine lv_istore (lv' := [(4, .int (24 - r3)), (3, .int (r1 + r2)), (2, .int r1), (0, .ref ea), (1, .ref xa)]) hx hb dX0_openColumns_28 hl (by decide) rfl (fun ls hl => ?_)
  refine lv_iconst (v := 0) hx hb dX0_openColumns_30 (by decide) ?_
  refine lv_istore (lv' := [(5, .int 0), (4, .int (24 - r3)), (3, .int (r1 + r2)), (2, .int r1), (0, .ref ea), (1, .ref xa)]) hx hb dX0_openColumns_31 hl (by decide) rfl (fun ls hl => ?_)
  exact J33 2000 (ex, r1, r1 + r2, 24 - r3, 0) h _ _ hP hD hS _ (lv_sub hl [4, 3, 2, 1, 0] rfl)

theorem dX0_sumUp_0 : decode cX0_sumUp 0 = .ok (.aload_n 0, 1) := by decide +kernel
theorem dX0_sumUp_1 : decode cX0_sumUp 1 = .ok (.iconst 0, 1) := by decide +kernel
theorem dX0_sumUp_2 : decode cX0_sumUp 2 = .ok (.putfield 78, 3) := by decide +kernel
theorem dX0_sumUp_5 : decode cX0_sumUp 5 = .ok (.aload_n 0, 1) := by decide +kernel
theorem dX0_sumUp_6 : decode cX0_sumUp 6 = .ok (.aload_n 0, 1) := by decide +kernel
theorem dX0_sumUp_7 : decode cX0_sumUp 7 = .ok (.getfield 18, 3) := by decide +kernel
theorem dX0_sumUp_10 : decode cX0_sumUp 10 = .ok (.iconst 0, 1) := by decide +kernel
theorem dX0_sumUp_11 : decode cX0_sumUp 11 = .ok (.invokestatic 55, 3) := by decide +kernel
theorem dX0_sumUp_14 : decode cX0_sumUp 14 = .ok (.putfield 25, 3) := by decide +kernel
theorem dX0_sumUp_17 : decode cX0_sumUp 17 = .ok (.aload_n 0, 1) := by decide +kernel
theorem dX0_sumUp_18 : decode cX0_sumUp 18 = .ok (.aload_n 0, 1) := by decide +kernel
theorem dX0_sumUp_19 : decode cX0_sumUp 19 = .ok (.getfield 25, 3) := by decide +kernel
theorem dX0_sumUp_22 : decode cX0_sumUp 22 = .ok (.putfield 21, 3) := by decide +kernel
theorem dX0_sumUp_25 : decode cX0_sumUp 25 = .ok (.aload_n 0, 1) := by decide +kernel
theorem dX0_sumUp_26 : decode cX0_sumUp 26 = .ok (.iconst 0, 1) := by decide +kernel
theorem dX0_sumUp_27 : decode cX0_sumUp 27 = .ok (.putfield 81, 3) := by decide +kernel
theorem dX0_sumUp_30 : decode cX0_sumUp 30 = .ok (.aload_n 0, 1) := by decide +kernel
theorem dX0_sumUp_31 : decode cX0_sumUp 31 = .ok (.iconst 0, 1) := by decide +kernel
theorem dX0_sumUp_32 : decode cX0_sumUp 32 = .ok (.putfield 84, 3) := by decide +kernel
theorem dX0_sumUp_35 : decode cX0_sumUp 35 = .ok (.aload_n 0, 1) := by decide +kernel
theorem dX0_sumUp_36 : decode cX0_sumUp 36 = .ok (.iconst 0, 1) := by decide +kernel
theorem dX0_sumUp_37 : decode cX0_sumUp 37 = .ok (.putfield 87, 3) := by decide +kernel
theorem dX0_sumUp_40 : decode cX0_sumUp 40 = .ok (.aload_n 0, 1) := by decide +kernel
theorem dX0_sumUp_41 : decode cX0_sumUp 41 = .ok (.iconst 0, 1) := by decide +kernel
theorem dX0_sumUp_42 : decode cX0_sumUp 42 = .ok (.putfield 90, 3) := by decide +kernel
theorem dX0_sumUp_45 : decode cX0_sumUp 45 = .ok (.iconst 0, 1) := by decide +kernel
theorem dX0_sumUp_46 : decode cX0_sumUp 46 = .ok (.istore_n 2, 1) := by decide +kernel
theorem dX0_sumUp_47 : decode cX0_sumUp 47 = .ok (.iload_n 2, 1) := by decide +kernel
theorem dX0_sumUp_48 : decode cX0_sumUp 48 = .ok (.aload_n 0, 1) := by decide +kernel
theorem dX0_sumUp_49 : decode cX0_sumUp 49 = .ok (.getfield 18, 3) := by decide +kernel
theorem dX0_sumUp_52 : decode cX0_sumUp 52 = .ok (.arraylength, 1) := by decide +kernel
theorem dX0_sumUp_53 : decode cX0_sumUp 53 = .ok (.if_icmp .ge 117, 3) := by decide +kernel
theorem dX0_sumUp_56 : decode cX0_sumUp 56 = .ok (.aload_n 0, 1) := by decide +kernel
theorem dX0_sumUp_57 : decode cX0_sumUp 57 = .ok (.getfield 18, 3) := by decide +kernel
theorem dX0_sumUp_60 : decode cX0_sumUp 60 = .ok (.iload_n 2, 1) := by decide +kernel
theorem dX0_sumUp_61 : decode cX0_sumUp 61 = .ok (.iaload, 1) := by decide +kernel
theorem dX0_sumUp_62 : decode cX0_sumUp 62 = .ok (.iload_n 1, 1) := by decide +kernel
theorem dX0_sumUp_63 : decode cX0_sumUp 63 = .ok (.isub, 1) := by decide +kernel
theorem dX0_sumUp_64 : decode cX0_sumUp 64 = .ok (.invokestatic 93, 3) := by decide +kernel
theorem dX0_sumUp_67 : decode cX0_sumUp 67 = .ok (.istore_n 3, 1) := by decide +kernel
theorem dX0_sumUp_68 : decode cX0_sumUp 68 = .ok (.aload_n 0, 1) := by decide +kernel
theorem dX0_sumUp_69 : decode cX0_sumUp 69 = .ok (.dup, 1) := by decide +kernel
theorem dX0_sumUp_70 : decode cX0_sumUp 70 = .ok (.getfield 78, 3) := by decide +kernel
theorem dX0_sumUp_73 : decode cX0_sumUp 73 = .ok (.aload_n 0, 1) := by decide +kernel
theorem dX0_sumUp_74 : decode cX0_sumUp 74 = .ok (.getfield 18, 3) := by decide +kernel
theorem dX0_sumUp_77 : decode cX0_sumUp 77 = .ok (.iload_n 2, 1) := by decide +kernel
theorem dX0_sumUp_78 : decode cX0_sumUp 78 = .ok (.iaload, 1) := by decide +kernel
theorem dX0_sumUp_79 : decode cX0_sumUp 79 = .ok (.iadd, 1) := by decide +kernel
theorem dX0_sumUp_80 : decode cX0_sumUp 80 = .ok (.putfield 78, 3) := by decide +kernel
theorem dX0_sumUp_83 : decode cX0_sumUp 83 = .ok (.aload_n 0, 1) := by decide +kernel
theorem dX0_sumUp_84 : decode cX0_sumUp 84 = .ok (.dup, 1) := by decide +kernel
theorem dX0_sumUp_85 : decode cX0_sumUp 85 = .ok (.getfield 81, 3) := by decide +kernel
theorem dX0_sumUp_88 : decode cX0_sumUp 88 = .ok (.iload_n 3, 1) := by decide +kernel
theorem dX0_sumUp_89 : decode cX0_sumUp 89 = .ok (.iadd, 1) := by decide +kernel
theorem dX0_sumUp_90 : decode cX0_sumUp 90 = .ok (.putfield 81, 3) := by decide +kernel
theorem dX0_sumUp_93 : decode cX0_sumUp 93 = .ok (.aload_n 0, 1) := by decide +kernel
theorem dX0_sumUp_94 : decode cX0_sumUp 94 = .ok (.aload_n 0, 1) := by decide +kernel
theorem dX0_sumUp_95 : decode cX0_sumUp 95 = .ok (.getfield 25, 3) := by decide +kernel
theorem dX0_sumUp_98 : decode cX0_sumUp 98 = .ok (.aload_n 0, 1) := by decide +kernel
theorem dX0_sumUp_99 : decode cX0_sumUp 99 = .ok (.getfield 18, 3) := by decide +kernel
theorem dX0_sumUp_102 : decode cX0_sumUp 102 = .ok (.iload_n 2, 1) := by decide +kernel
theorem dX0_sumUp_103 : decode cX0_sumUp 103 = .ok (.iaload, 1) := by decide +kernel
theorem dX0_sumUp_104 : decode cX0_sumUp 104 = .ok (.invokestatic 75, 3) := by decide +kernel
theorem dX0_sumUp_107 : decode cX0_sumUp 107 = .ok (.putfield 25, 3) := by decide +kernel
theorem dX0_sumUp_110 : decode cX0_sumUp 110 = .ok (.aload_n 0, 1) := by decide +kernel
theorem dX0_sumUp_111 : decode cX0_sumUp 111 = .ok (.aload_n 0, 1) := by decide +kernel
theorem dX0_sumUp_112 : decode cX0_sumUp 112 = .ok (.getfield 21, 3) := by decide +kernel
theorem dX0_sumUp_115 : decode cX0_sumUp 115 = .ok (.aload_n 0, 1) := by decide +kernel
theorem dX0_sumUp_116 : decode cX0_sumUp 116 = .ok (.getfield 18, 3) := by decide +kernel
theorem dX0_sumUp_119 : decode cX0_sumUp 119 = .ok (.iload_n 2, 1) := by decide +kernel
theorem dX0_sumUp_120 : decode cX0_sumUp 120 = .ok (.iaload, 1) := by decide +kernel
theorem dX0_sumUp_121 : decode cX0_sumUp 121 = .ok (.invokestatic 62, 3) := by decide +kernel
theorem dX0_sumUp_124 : decode cX0_sumUp 124 = .ok (.putfield 21, 3) := by decide +kernel
theorem dX0_sumUp_127 : decode cX0_sumUp 127 = .ok (.iload_n 3, 1) := by decide +kernel
theorem dX0_sumUp_128 : decode cX0_sumUp 128 = .ok (.aload_n 0, 1) := by decide +kernel
theorem dX0_sumUp_129 : decode cX0_sumUp 129 = .ok (.getfield 84, 3) := by decide +kernel
theorem dX0_sumUp_132 : decode cX0_sumUp 132 = .ok (.if_icmp .le 13, 3) := by decide +kernel
theorem dX0_sumUp_135 : decode cX0_sumUp 135 = .ok (.aload_n 0, 1) := by decide +kernel
theorem dX0_sumUp_136 : decode cX0_sumUp 136 = .ok (.iload_n 3, 1) := by decide +kernel
theorem dX0_sumUp_137 : decode cX0_sumUp 137 = .ok (.putfield 84, 3) := by decide +kernel
theorem dX0_sumUp_140 : decode cX0_sumUp 140 = .ok (.aload_n 0, 1) := by decide +kernel
theorem dX0_sumUp_141 : decode cX0_sumUp 141 = .ok (.iload_n 2, 1) := by decide +kernel
theorem dX0_sumUp_142 : decode cX0_sumUp 142 = .ok (.putfield 87, 3) := by decide +kernel
theorem dX0_sumUp_145 : decode cX0_sumUp 145 = .ok (.aload_n 0, 1) := by decide +kernel
theorem dX0_sumUp_146 : decode cX0_sumUp 146 = .ok (.getfield 18, 3) := by decide +kernel
theorem dX0_sumUp_149 : decode cX0_sumUp 149 = .ok (.iload_n 2, 1) := by decide +kernel
theorem dX0_sumUp_150 : decode cX0_sumUp 150 = .ok (.iaload, 1) := by decide +kernel
theorem dX0_sumUp_151 : decode cX0_sumUp 151 = .ok (.ifCond .ne 13, 3) := by decide +kernel
theorem dX0_sumUp_154 : decode cX0_sumUp 154 = .ok (.aload_n 0, 1) := by decide +kernel
theorem dX0_sumUp_155 : decode cX0_sumUp 155 = .ok (.dup, 1) := by decide +kernel
theorem dX0_sumUp_156 : decode cX0_sumUp 156 = .ok (.getfield 90, 3) := by decide +kernel
theorem dX0_sumUp_159 : decode cX0_sumUp 159 = .ok (.iconst 1, 1) := by decide +kernel
theorem dX0_sumUp_160 : decode cX0_sumUp 160 = .ok (.iadd, 1) := by decide +kernel
theorem dX0_sumUp_161 : decode cX0_sumUp 161 = .ok (.putfield 90, 3) := by decide +kernel
theorem dX0_sumUp_164 : decode cX0_sumUp 164 = .ok (.iinc 2 1, 3) := by decide +kernel
theorem dX0_sumUp_167 : decode cX0_sumUp 167 = .ok (.goto (-120), 3) := by decide +kernel
theorem dX0_sumUp_170 : decode cX0_sumUp 170 = .ok (.return_, 1) := by decide +kernel
abbrev zX0_sumUp : List Cond := .code yX0_sumUp cX0_sumUp 4 none :: BIG
def fX0_sumUp_j145  (K47 : (ExT × Int32 × Int32) → Option (ExT)) (v145 : ExT × Int32 × Int32) : Option (ExT) := gd (pin v145.2.2 24) ((if (v145.1.2.2.1 (Int32.toNatClampNeg v145.2.2)) = 0 then K47 ((v145.1.1, v145.1.2.1, v145.1.2.2.1, v145.1.2.2.2.1, v145.1.2.2.2.2.1, v145.1.2.2.2.2.2.1, v145.1.2.2.2.2.2.2.1, v145.1.2.2.2.2.2.2.2.1, v145.1.2.2.2.2.2.2.2.2.1, (v145.1.2.2.2.2.2.2.2.2.2 + 1)), v145.2.1, v145.2.2 + 1) else K47 (v145.1, v145.2.1, v145.2.2 + 1)))
def fX0_sumUp_l47   (K47 : (ExT × Int32 × Int32) → Option (ExT)) (v47 : ExT × Int32 × Int32) : Option (ExT) := (if 24 ≤ v47.2.2 then some v47.1 else gd (pin v47.2.2 24) ((if (iabs ((v47.1.2.2.1 (Int32.toNatClampNeg v47.2.2)) - v47.2.1)) ≤ v47.1.2.2.2.2.2.2.2.1 then fX0_sumUp_j145 K47 ((v47.1.1, v47.1.2.1, v47.1.2.2.1, (v47.1.2.2.2.1 + (v47.1.2.2.1 (Int32.toNatClampNeg v47.2.2))), (imin v47.1.2.2.2.2.1 (v47.1.2.2.1 (Int32.toNatClampNeg v47.2.2))), (imax v47.1.2.2.2.2.2.1 (v47.1.2.2.1 (Int32.toNatClampNeg v47.2.2))), (v47.1.2.2.2.2.2.2.1 + (iabs ((v47.1.2.2.1 (Int32.toNatClampNeg v47.2.2)) - v47.2.1))), v47.1.2.2.2.2.2.2.2.1, v47.1.2.2.2.2.2.2.2.2.1, v47.1.2.2.2.2.2.2.2.2.2), v47.2.1, v47.2.2) else fX0_sumUp_j145 K47 ((v47.1.1, v47.1.2.1, v47.1.2.2.1, (v47.1.2.2.2.1 + (v47.1.2.2.1 (Int32.toNatClampNeg v47.2.2))), (imin v47.1.2.2.2.2.1 (v47.1.2.2.1 (Int32.toNatClampNeg v47.2.2))), (imax v47.1.2.2.2.2.2.1 (v47.1.2.2.1 (Int32.toNatClampNeg v47.2.2))), (v47.1.2.2.2.2.2.2.1 + (iabs ((v47.1.2.2.1 (Int32.toNatClampNeg v47.2.2)) - v47.2.1))), (iabs ((v47.1.2.2.1 (Int32.toNatClampNeg v47.2.2)) - v47.2.1)), v47.2.2, v47.1.2.2.2.2.2.2.2.2.2), v47.2.1, v47.2.2))))
def fX0_sumUp (ex : ExT) (w : Int32) : Option (ExT) := (fX2_at 24 ex.2.2.1 0).bind (fun r1 => lp (fX0_sumUp_l47) 2000 ((ex.1, ex.2.1, ex.2.2.1, 0, r1, r1, 0, 0, 0, 0), w, 0))
set_option maxHeartbeats 4000000 in
set_option maxRecDepth 100000 in
theorem mtX0_sumUp (l : Launch) (D : va_G) (t : Nat → ClassId) (ea : Nat) (eb : Nat → Nat) (ex : ExT) (w : Int32) (out : ExT) (h : fX0_sumUp ex w = some out)  (sz : Nat) : Met l yX0_sumUp zX0_sumUp ({ frames := 1, cells := 0, slots := 0, locals := 21 }) (sPc D t (gE t ea eb ex) sz [.ref ea, .int w]) (qV D t (gE t ea eb out) (va_A (gE t ea eb ex) sz)) 0 0 (va_A (gE t ea eb ex) sz) := by
  refine met_of (Qf := fun A => qV D t (gE t ea eb out) A) (cc := cX0_sumUp) (maxL := 4) (ret := none) (by decide) rfl (Nat.le_of_ble_eq_true rfl) ?_
  intro p e s m args below meth c A hx hb hr hml hts hown hlocks hA hP hK hD hE hS ls hl
  have htB : ∀ w ∈ BIG, w.before args s = true := fun w h => hts w (List.mem_cons_of_mem _ h)
  have hown : s.vm.findClass RX0 = some m.cls := hown
  have hl : lv_has ls 4 [(0, .ref ea), (1, .int w)] := hl
  unfold fX0_sumUp at h
  have J47 : ∀ (fu47 : Nat) (v47 : ExT × Int32 × Int32), lp (fX0_sumUp_l47) fu47 v47 = some out → ∀ (H : Heap) (locs : List Loc), va_P D vwCl (gE t ea eb v47.1) H → va_D A (gE t ea eb v47.1) → va_S A s.heap H locs → ∀ ls : Array Slot, lv_has ls 4 [(0, .ref ea), (1, .int v47.2.1), (2, .int v47.2.2)] → W p l e ({ frames := 1, cells := 0, slots := 0, locals := 21 }) s m args below meth c H locs 0 0 (MQ below (qV D t (gE t ea eb out) A) args s 0 0 A) (F0 m 47 ls []) := by
    intro fu47
    induction fu47 with
    | zero => intro v47 h; cases h
    | succ fu47 ih47 =>
      intro v47 h H locs hP hD hS ls hl
      have h : fX0_sumUp_l47 (lp (fX0_sumUp_l47) fu47) v47 = some out := h
      unfold fX0_sumUp_l47 at h
      have J145 : ∀ v145 : ExT × Int32 × Int32, fX0_sumUp_j145 (lp (fX0_sumUp_l47) fu47) v145 = some out → ∀ (H : Heap) (locs : List Loc), va_P D vwCl (gE t ea eb v145.1) H → va_D A (gE t ea eb v145.1) → va_S A s.heap H locs → ∀ ls : Array Slot, lv_has ls 4 [(0, .ref ea), (1, .int v145.2.1), (2, .int v145.2.2)] → W p l e ({ frames := 1, cells := 0, slots := 0, locals := 21 }) s m args below meth c H locs 0 0 (MQ below (qV D t (gE t ea eb out) A) args s 0 0 A) (F0 m 145 ls []) := by
        intro v145 h H locs hP hD hS ls hl
        unfold fX0_sumUp_j145 at h
        refine lv_aload_n hx hb dX0_sumUp_145 rfl (lv_at hl 0 rfl) ?_
        refine va_get (D := D) (ci := 0) (v := .ref (eb 2)) (C := RX0) (T := TX0) (N := 10) hx hb htB inlX0 hown hK hP 0 rfl rfl 2 (by decide) (htB _ kw44) (fun _ h9 => h9) rfl dX0_sumUp_146 ?_
        refine lv_iload_n hx hb dX0_sumUp_149 rfl (lv_at hl 2 rfl) ?_
        obtain ⟨g5, h⟩ := og h
        refine va_iald hx hb hK hP 3 0 rfl rfl (pin_in g5) dX0_sumUp_150 ?_
        refine lv_if_ne (tgt := 164) hx hb dX0_sumUp_151 (by decide) (fun c6 => ?_) (fun c6 => ?_)
        · have h := it_n c6 h
          refine lv_iinc (v := v145.2.2 + 1) (lv' := [(2, .int (v145.2.2 + 1)), (0, .ref ea), (1, .int v145.2.1)]) hx hb dX0_sumUp_164 hl (k := 2) rfl rfl (by decide) rfl (fun ls hl => ?_)
          refine lv_goto (tgt := 47) hx hb dX0_sumUp_167 (by decide) ?_
          exact ih47 (v145.1, v145.2.1, v145.2.2 + 1) h _ _ hP hD hS _ (lv_sub hl [1, 2, 0] rfl)
        · have h := it_p c6 h
          refine lv_aload_n hx hb dX0_sumUp_154 rfl (lv_at hl 0 rfl) ?_
          refine lv_dup hx hb dX0_sumUp_155 rfl ?_
          refine va_get (D := D) (ci := 0) (v := .int v145.1.2.2.2.2.2.2.2.2.2) (C := RX0) (T := TX0) (N := 10) hx hb htB inlX0 hown hK hP 0 rfl rfl 9 (by decide) (htB _ kw141) (fun _ h9 => h9) rfl dX0_sumUp_156 ?_
          refine lv_iconst (v := 1) hx hb dX0_sumUp_159 (by decide) ?_
          refine lv_iadd hx hb dX0_sumUp_160 ?_
          refine va_put (D := D) (ci := 0) (v := .int (v145.1.2.2.2.2.2.2.2.2.2 + 1)) (ty := .int) (C := RX0) (T := TX0) (N := 10) hx hb htB inlX0 tyX0 tyX0_ok nmX0 hown hK hP hD hS 0 rfl rfl 9 (by decide) (htB _ kw141) (fun _ h9 => h9) rfl (by decide +kernel) rfl rfl (Nat.le_of_ble_eq_true rfl) dX0_sumUp_161 (fun H locs hP hD hS => ?_)
          have hP : va_P D vwCl (gE t ea eb (v145.1.1, v145.1.2.1, v145.1.2.2.1, v145.1.2.2.2.1, v145.1.2.2.2.2.1, v145.1.2.2.2.2.2.1, v145.1.2.2.2.2.2.2.1, v145.1.2.2.2.2.2.2.2.1, v145.1.2.2.2.2.2.2.2.2.1, (v145.1.2.2.2.2.2.2.2.2.2 + 1))) H := hP
          have hD : va_D A (gE t ea eb (v145.1.1, v145.1.2.1, v145.1.2.2.1, v145.1.2.2.2.1, v145.1.2.2.2.2.1, v145.1.2.2.2.2.2.1, v145.1.2.2.2.2.2.2.1, v145.1.2.2.2.2.2.2.2.1, v145.1.2.2.2.2.2.2.2.2.1, (v145.1.2.2.2.2.2.2.2.2.2 + 1))) := hD
          refine lv_iinc (v := v145.2.2 + 1) (lv' := [(2, .int (v145.2.2 + 1)), (0, .ref ea), (1, .int v145.2.1)]) hx hb dX0_sumUp_164 hl (k := 2) rfl rfl (by decide) rfl (fun ls hl => ?_)
          refine lv_goto (tgt := 47) hx hb dX0_sumUp_167 (by decide) ?_
          exact ih47 ((v145.1.1, v145.1.2.1, v145.1.2.2.1, v145.1.2.2.2.1, v145.1.2.2.2.2.1, v145.1.2.2.2.2.2.1, v145.1.2.2.2.2.2.2.1, v145.1.2.2.2.2.2.2.2.1, v145.1.2.2.2.2.2.2.2.2.1, (v145.1.2.2.2.2.2.2.2.2.2 + 1)), v145.2.1, v145.2.2 + 1) h _ _ hP hD hS _ (lv_sub hl [1, 2, 0] rfl)
      refine lv_iload_n hx hb dX0_sumUp_47 rfl (lv_at hl 2 rfl) ?_
      refine lv_aload_n hx hb dX0_sumUp_48 rfl (lv_at hl 0 rfl) ?_
      refine va_get (D := D) (ci := 0) (v := .ref (eb 2)) (C := RX0) (T := TX0) (N := 10) hx hb htB inlX0 hown hK hP 0 rfl rfl 2 (by decide) (htB _ kw44) (fun _ h9 => h9) rfl dX0_sumUp_49 ?_
      refine va_alen (v := 24) hx hb hK hP 3 0 rfl rfl rfl dX0_sumUp_52 ?_
      refine lv_icmp_ge (tgt := 170) hx hb dX0_sumUp_53 (by decide) (fun c2 => ?_) (fun c2 => ?_)
      · have h := it_p c2 h
        obtain rfl := os h
        exact ret_v hx hb hr hlocks hP hK hD hS dX0_sumUp_170
      · have h := it_n c2 h
        refine lv_aload_n hx hb dX0_sumUp_56 rfl (lv_at hl 0 rfl) ?_
        refine va_get (D := D) (ci := 0) (v := .ref (eb 2)) (C := RX0) (T := TX0) (N := 10) hx hb htB inlX0 hown hK hP 0 rfl rfl 2 (by decide) (htB _ kw44) (fun _ h9 => h9) rfl dX0_sumUp_57 ?_
        refine lv_iload_n hx hb dX0_sumUp_60 rfl (lv_at hl 2 rfl) ?_
        obtain ⟨g3, h⟩ := og h
        refine va_iald hx hb hK hP 3 0 rfl rfl (pin_in g3) dX0_sumUp_61 ?_
        refine lv_iload_n hx hb dX0_sumUp_62 rfl (lv_at hl 1 rfl) ?_
        refine lv_isub hx hb dX0_sumUp_63 ?_
        refine va_mabs hx hb (by rw [hml]; exact hl.1.symm) hown (htB _ kw142) (htB _ kw143) (htB _ kw63) (htB _ kw144) (Nat.le_of_ble_eq_true rfl) (Nat.le_of_ble_eq_true rfl) (Nat.zero_le _) (Nat.zero_le _) dX0_sumUp_64 ?_
        refine lv_istore_n (lv' := [(3, .int (iabs ((v47.1.2.2.1 (Int32.toNatClampNeg v47.2.2)) - v47.2.1))), (0, .ref ea), (1, .int v47.2.1), (2, .int v47.2.2)]) hx hb dX0_sumUp_67 rfl hl (by decide) rfl (fun ls hl => ?_)
        refine lv_aload_n hx hb dX0_sumUp_68 rfl (lv_at hl 1 rfl) ?_
        refine lv_dup hx hb dX0_sumUp_69 rfl ?_
        refine va_get (D := D) (ci := 0) (v := .int v47.1.2.2.2.1) (C := RX0) (T := TX0) (N := 10) hx hb htB inlX0 hown hK hP 0 rfl rfl 3 (by decide) (htB _ kw135) (fun _ h9 => h9) rfl dX0_sumUp_70 ?_
        refine lv_aload_n hx hb dX0_sumUp_73 rfl (lv_at hl 1 rfl) ?_
        refine va_get (D := D) (ci := 0) (v := .ref (eb 2)) (C := RX0) (T := TX0) (N := 10) hx hb htB inlX0 hown hK hP 0 rfl rfl 2 (by decide) (htB _ kw44) (fun _ h9 => h9) rfl dX0_sumUp_74 ?_
        refine lv_iload_n hx hb dX0_sumUp_77 rfl (lv_at hl 3 rfl) ?_
        refine va_iald hx hb hK hP 3 0 rfl rfl (pin_in g3) dX0_sumUp_78 ?_
        refine lv_iadd hx hb dX0_sumUp_79 ?_
        refine va_put (D := D) (ci := 0) (v := .int (v47.1.2.2.2.1 + (v47.1.2.2.1 (Int32.toNatClampNeg v47.2.2)))) (ty := .int) (C := RX0) (T := TX0) (N := 10) hx hb htB inlX0 tyX0 tyX0_ok nmX0 hown hK hP hD hS 0 rfl rfl 3 (by decide) (htB _ kw135) (fun _ h9 => h9) rfl (by decide +kernel) rfl rfl (Nat.le_of_ble_eq_true rfl) dX0_sumUp_80 (fun H locs hP hD hS => ?_)
        have hP : va_P D vwCl (gE t ea eb (v47.1.1, v47.1.2.1, v47.1.2.2.1, (v47.1.2.2.2.1 + (v47.1.2.2.1 (Int32.toNatClampNeg v47.2.2))), v47.1.2.2.2.2.1, v47.1.2.2.2.2.2.1, v47.1.2.2.2.2.2.2.1, v47.1.2.2.2.2.2.2.2.1, v47.1.2.2.2.2.2.2.2.2.1, v47.1.2.2.2.2.2.2.2.2.2)) H := hP
        have hD : va_D A (gE t ea eb (v47.1.1, v47.1.2.1, v47.1.2.2.1, (v47.1.2.2.2.1 + (v47.1.2.2.1 (Int32.toNatClampNeg v47.2.2))), v47.1.2.2.2.2.1, v47.1.2.2.2.2.2.1, v47.1.2.2.2.2.2.2.1, v47.1.2.2.2.2.2.2.2.1, v47.1.2.2.2.2.2.2.2.2.1, v47.1.2.2.2.2.2.2.2.2.2)) := hD
        refine lv_aload_n hx hb dX0_sumUp_83 rfl (lv_at hl 1 rfl) ?_
        refine lv_dup hx hb dX0_sumUp_84 rfl ?_
        refine va_get (D := D) (ci := 0) (v := .int v47.1.2.2.2.2.2.2.1) (C := RX0) (T := TX0) (N := 10) hx hb htB inlX0 hown hK hP 0 rfl rfl 6 (by decide) (htB _ kw138) (fun _ h9 => h9) rfl dX0_sumUp_85 ?_
        refine lv_iload_n hx hb dX0_sumUp_88 rfl (lv_at hl 0 rfl) ?_
        refine lv_iadd hx hb dX0_sumUp_89 ?_
        refine va_put (D := D) (ci := 0) (v := .int (v47.1.2.2.2.2.2.2.1 + (iabs ((v47.1.2.2.1 (Int32.toNatClampNeg v47.2.2)) - v47.2.1)))) (ty := .int) (C := RX0) (T := TX0) (N := 10) hx hb htB inlX0 tyX0 tyX0_ok nmX0 hown hK hP hD hS 0 rfl rfl 6 (by decide) (htB _ kw138) (fun _ h9 => h9) rfl (by decide +kernel) rfl rfl (Nat.le_of_ble_eq_true rfl) dX0_sumUp_90 (fun H locs hP hD hS => ?_)
        have hP : va_P D vwCl (gE t ea eb (v47.1.1, v47.1.2.1, v47.1.2.2.1, (v47.1.2.2.2.1 + (v47.1.2.2.1 (Int32.toNatClampNeg v47.2.2))), v47.1.2.2.2.2.1, v47.1.2.2.2.2.2.1, (v47.1.2.2.2.2.2.2.1 + (iabs ((v47.1.2.2.1 (Int32.toNatClampNeg v47.2.2)) - v47.2.1))), v47.1.2.2.2.2.2.2.2.1, v47.1.2.2.2.2.2.2.2.2.1, v47.1.2.2.2.2.2.2.2.2.2)) H := hP
        have hD : va_D A (gE t ea eb (v47.1.1, v47.1.2.1, v47.1.2.2.1, (v47.1.2.2.2.1 + (v47.1.2.2.1 (Int32.toNatClampNeg v47.2.2))), v47.1.2.2.2.2.1, v47.1.2.2.2.2.2.1, (v47.1.2.2.2.2.2.2.1 + (iabs ((v47.1.2.2.1 (Int32.toNatClampNeg v47.2.2)) - v47.2.1))), v47.1.2.2.2.2.2.2.2.1, v47.1.2.2.2.2.2.2.2.2.1, v47.1.2.2.2.2.2.2.2.2.2)) := hD
        refine lv_aload_n hx hb dX0_sumUp_93 rfl (lv_at hl 1 rfl) ?_
        refine lv_aload_n hx hb dX0_sumUp_94 rfl (lv_at hl 1 rfl) ?_
        refine va_get (D := D) (ci := 0) (v := .int v47.1.2.2.2.2.1) (C := RX0) (T := TX0) (N := 10) hx hb htB inlX0 hown hK hP 0 rfl rfl 4 (by decide) (htB _ kw136) (fun _ h9 => h9) rfl dX0_sumUp_95 ?_
        refine lv_aload_n hx hb dX0_sumUp_98 rfl (lv_at hl 1 rfl) ?_
        refine va_get (D := D) (ci := 0) (v := .ref (eb 2)) (C := RX0) (T := TX0) (N := 10) hx hb htB inlX0 hown hK hP 0 rfl rfl 2 (by decide) (htB _ kw44) (fun _ h9 => h9) rfl dX0_sumUp_99 ?_
        refine lv_iload_n hx hb dX0_sumUp_102 rfl (lv_at hl 3 rfl) ?_
        refine va_iald hx hb hK hP 3 0 rfl rfl (pin_in g3) dX0_sumUp_103 ?_
        refine va_mmin hx hb (by rw [hml]; exact hl.1.symm) hown (htB _ kw129) (htB _ kw62) (htB _ kw63) (htB _ kw64) (Nat.le_of_ble_eq_true rfl) (Nat.le_of_ble_eq_true rfl) (Nat.zero_le _) (Nat.zero_le _) dX0_sumUp_104 ?_
        refine va_put (D := D) (ci := 0) (v := .int (imin v47.1.2.2.2.2.1 (v47.1.2.2.1 (Int32.toNatClampNeg v47.2.2)))) (ty := .int) (C := RX0) (T := TX0) (N := 10) hx hb htB inlX0 tyX0 tyX0_ok nmX0 hown hK hP hD hS 0 rfl rfl 4 (by decide) (htB _ kw136) (fun _ h9 => h9) rfl (by decide +kernel) rfl rfl (Nat.le_of_ble_eq_true rfl) dX0_sumUp_107 (fun H locs hP hD hS => ?_)
        have hP : va_P D vwCl (gE t ea eb (v47.1.1, v47.1.2.1, v47.1.2.2.1, (v47.1.2.2.2.1 + (v47.1.2.2.1 (Int32.toNatClampNeg v47.2.2))), (imin v47.1.2.2.2.2.1 (v47.1.2.2.1 (Int32.toNatClampNeg v47.2.2))), v47.1.2.2.2.2.2.1, (v47.1.2.2.2.2.2.2.1 + (iabs ((v47.1.2.2.1 (Int32.toNatClampNeg v47.2.2)) - v47.2.1))), v47.1.2.2.2.2.2.2.2.1, v47.1.2.2.2.2.2.2.2.2.1, v47.1.2.2.2.2.2.2.2.2.2)) H := hP
        have hD : va_D A (gE t ea eb (v47.1.1, v47.1.2.1, v47.1.2.2.1, (v47.1.2.2.2.1 + (v47.1.2.2.1 (Int32.toNatClampNeg v47.2.2))), (imin v47.1.2.2.2.2.1 (v47.1.2.2.1 (Int32.toNatClampNeg v47.2.2))), v47.1.2.2.2.2.2.1, (v47.1.2.2.2.2.2.2.1 + (iabs ((v47.1.2.2.1 (Int32.toNatClampNeg v47.2.2)) - v47.2.1))), v47.1.2.2.2.2.2.2.2.1, v47.1.2.2.2.2.2.2.2.2.1, v47.1.2.2.2.2.2.2.2.2.2)) := hD
        refine lv_aload_n hx hb dX0_sumUp_110 rfl (lv_at hl 1 rfl) ?_
        refine lv_aload_n hx hb dX0_sumUp_111 rfl (lv_at hl 1 rfl) ?_
        refine va_get (D := D) (ci := 0) (v := .int v47.1.2.2.2.2.2.1) (C := RX0) (T := TX0) (N := 10) hx hb htB inlX0 hown hK hP 0 rfl rfl 5 (by decide) (htB _ kw137) (fun _ h9 => h9) rfl dX0_sumUp_112 ?_
        refine lv_aload_n hx hb dX0_sumUp_115 rfl (lv_at hl 1 rfl) ?_
        refine va_get (D := D) (ci := 0) (v := .ref (eb 2)) (C := RX0) (T := TX0) (N := 10) hx hb htB inlX0 hown hK hP 0 rfl rfl 2 (by decide) (htB _ kw44) (fun _ h9 => h9) rfl dX0_sumUp_116 ?_
        refine lv_iload_n hx hb dX0_sumUp_119 rfl (lv_at hl 3 rfl) ?_
        refine va_iald hx hb hK hP 3 0 rfl rfl (pin_in g3) dX0_sumUp_120 ?_
        refine va_mmax hx hb (by rw [hml]; exact hl.1.symm) hown (htB _ kw110) (htB _ kw111) (htB _ kw63) (htB _ kw112) (Nat.le_of_ble_eq_true rfl) (Nat.le_of_ble_eq_true rfl) (Nat.zero_le _) (Nat.zero_le _) dX0_sumUp_121 ?_
        refine va_put (D := D) (ci := 0) (v := .int (imax v47.1.2.2.2.2.2.1 (v47.1.2.2.1 (Int32.toNatClampNeg v47.2.2)))) (ty := .int) (C := RX0) (T := TX0) (N := 10) hx hb htB inlX0 tyX0 tyX0_ok nmX0 hown hK hP hD hS 0 rfl rfl 5 (by decide) (htB _ kw137) (fun _ h9 => h9) rfl (by decide +kernel) rfl rfl (Nat.le_of_ble_eq_true rfl) dX0_sumUp_124 (fun H locs hP hD hS => ?_)
        have hP : va_P D vwCl (gE t ea eb (v47.1.1, v47.1.2.1, v47.1.2.2.1, (v47.1.2.2.2.1 + (v47.1.2.2.1 (Int32.toNatClampNeg v47.2.2))), (imin v47.1.2.2.2.2.1 (v47.1.2.2.1 (Int32.toNatClampNeg v47.2.2))), (imax v47.1.2.2.2.2.2.1 (v47.1.2.2.1 (Int32.toNatClampNeg v47.2.2))), (v47.1.2.2.2.2.2.2.1 + (iabs ((v47.1.2.2.1 (Int32.toNatClampNeg v47.2.2)) - v47.2.1))), v47.1.2.2.2.2.2.2.2.1, v47.1.2.2.2.2.2.2.2.2.1, v47.1.2.2.2.2.2.2.2.2.2)) H := hP
        have hD : va_D A (gE t ea eb (v47.1.1, v47.1.2.1, v47.1.2.2.1, (v47.1.2.2.2.1 + (v47.1.2.2.1 (Int32.toNatClampNeg v47.2.2))), (imin v47.1.2.2.2.2.1 (v47.1.2.2.1 (Int32.toNatClampNeg v47.2.2))), (imax v47.1.2.2.2.2.2.1 (v47.1.2.2.1 (Int32.toNatClampNeg v47.2.2))), (v47.1.2.2.2.2.2.2.1 + (iabs ((v47.1.2.2.1 (Int32.toNatClampNeg v47.2.2)) - v47.2.1))), v47.1.2.2.2.2.2.2.2.1, v47.1.2.2.2.2.2.2.2.2.1, v47.1.2.2.2.2.2.2.2.2.2)) := hD
        refine lv_iload_n hx hb dX0_sumUp_127 rfl (lv_at hl 0 rfl) ?_
        refine lv_aload_n hx hb dX0_sumUp_128 rfl (lv_at hl 1 rfl) ?_
        refine va_get (D := D) (ci := 0) (v := .int v47.1.2.2.2.2.2.2.2.1) (C := RX0) (T := TX0) (N := 10) hx hb htB inlX0 hown hK hP 0 rfl rfl 7 (by decide) (htB _ kw139) (fun _ h9 => h9) rfl dX0_sumUp_129 ?_
        refine lv_icmp_le (tgt := 145) hx hb dX0_sumUp_132 (by decide) (fun c4 => ?_) (fun c4 => ?_)
        · have h := it_p c4 h
          exact J145 ((v47.1.1, v47.1.2.1, v47.1.2.2.1, (v47.1.2.2.2.1 + (v47.1.2.2.1 (Int32.toNatClampNeg v47.2.2))), (imin v47.1.2.2.2.2.1 (v47.1.2.2.1 (Int32.toNatClampNeg v47.2.2))), (imax v47.1.2.2.2.2.2.1 (v47.1.2.2.1 (Int32.toNatClampNeg v47.2.2))), (v47.1.2.2.2.2.2.2.1 + (iabs ((v47.1.2.2.1 (Int32.toNatClampNeg v47.2.2)) - v47.2.1))), v47.1.2.2.2.2.2.2.2.1, v47.1.2.2.2.2.2.2.2.2.1, v47.1.2.2.2.2.2.2.2.2.2), v47.2.1, v47.2.2) h _ _ hP hD hS _ (lv_sub hl [1, 2, 3] rfl)
        · have h := it_n c4 h
          refine lv_aload_n hx hb dX0_sumUp_135 rfl (lv_at hl 1 rfl) ?_
          refine lv_iload_n hx hb dX0_sumUp_136 rfl (lv_at hl 0 rfl) ?_
          refine va_put (D := D) (ci := 0) (v := .int (iabs ((v47.1.2.2.1 (Int32.toNatClampNeg v47.2.2)) - v47.2.1))) (ty := .int) (C := RX0) (T := TX0) (N := 10) hx hb htB inlX0 tyX0 tyX0_ok nmX0 hown hK hP hD hS 0 rfl rfl 7 (by decide) (htB _ kw139) (fun _ h9 => h9) rfl (by decide +kernel) rfl rfl (Nat.le_of_ble_eq_true rfl) dX0_sumUp_137 (fun H locs hP hD hS => ?_)
          have hP : va_P D vwCl (gE t ea eb (v47.1.1, v47.1.2.1, v47.1.2.2.1, (v47.1.2.2.2.1 + (v47.1.2.2.1 (Int32.toNatClampNeg v47.2.2))), (imin v47.1.2.2.2.2.1 (v47.1.2.2.1 (Int32.toNatClampNeg v47.2.2))), (imax v47.1.2.2.2.2.2.1 (v47.1.2.2.1 (Int32.toNatClampNeg v47.2.2))), (v47.1.2.2.2.2.2.2.1 + (iabs ((v47.1.2.2.1 (Int32.toNatClampNeg v47.2.2)) - v47.2.1))), (iabs ((v47.1.2.2.1 (Int32.toNatClampNeg v47.2.2)) - v47.2.1)), v47.1.2.2.2.2.2.2.2.2.1, v47.1.2.2.2.2.2.2.2.2.2)) H := hP
          have hD : va_D A (gE t ea eb (v47.1.1, v47.1.2.1, v47.1.2.2.1, (v47.1.2.2.2.1 + (v47.1.2.2.1 (Int32.toNatClampNeg v47.2.2))), (imin v47.1.2.2.2.2.1 (v47.1.2.2.1 (Int32.toNatClampNeg v47.2.2))), (imax v47.1.2.2.2.2.2.1 (v47.1.2.2.1 (Int32.toNatClampNeg v47.2.2))), (v47.1.2.2.2.2.2.2.1 + (iabs ((v47.1.2.2.1 (Int32.toNatClampNeg v47.2.2)) - v47.2.1))), (iabs ((v47.1.2.2.1 (Int32.toNatClampNeg v47.2.2)) - v47.2.1)), v47.1.2.2.2.2.2.2.2.2.1, v47.1.2.2.2.2.2.2.2.2.2)) := hD
          refine lv_aload_n hx hb dX0_sumUp_140 rfl (lv_at hl 1 rfl) ?_
          refine lv_iload_n hx hb dX0_sumUp_141 rfl (lv_at hl 3 rfl) ?_
          refine va_put (D := D) (ci := 0) (v := .int v47.2.2) (ty := .int) (C := RX0) (T := TX0) (N := 10) hx hb htB inlX0 tyX0 tyX0_ok nmX0 hown hK hP hD hS 0 rfl rfl 8 (by decide) (htB _ kw140) (fun _ h9 => h9) rfl (by decide +kernel) rfl rfl (Nat.le_of_ble_eq_true rfl) dX0_sumUp_142 (fun H locs hP hD hS => ?_)
          have hP : va_P D vwCl (gE t ea eb (v47.1.1, v47.1.2.1, v47.1.2.2.1, (v47.1.2.2.2.1 + (v47.1.2.2.1 (Int32.toNatClampNeg v47.2.2))), (imin v47.1.2.2.2.2.1 (v47.1.2.2.1 (Int32.toNatClampNeg v47.2.2))), (imax v47.1.2.2.2.2.2.1 (v47.1.2.2.1 (Int32.toNatClampNeg v47.2.2))), (v47.1.2.2.2.2.2.2.1 + (iabs ((v47.1.2.2.1 (Int32.toNatClampNeg v47.2.2)) - v47.2.1))), (iabs ((v47.1.2.2.1 (Int32.toNatClampNeg v47.2.2)) - v47.2.1)), v47.2.2, v47.1.2.2.2.2.2.2.2.2.2)) H := hP
          have hD : va_D A (gE t ea eb (v47.1.1, v47.1.2.1, v47.1.2.2.1, (v47.1.2.2.2.1 + (v47.1.2.2.1 (Int32.toNatClampNeg v47.2.2))), (imin v47.1.2.2.2.2.1 (v47.1.2.2.1 (Int32.toNatClampNeg v47.2.2))), (imax v47.1.2.2.2.2.2.1 (v47.1.2.2.1 (Int32.toNatClampNeg v47.2.2))), (v47.1.2.2.2.2.2.2.1 + (iabs ((v47.1.2.2.1 (Int32.toNatClampNeg v47.2.2)) - v47.2.1))), (iabs ((v47.1.2.2.1 (Int32.toNatClampNeg v47.2.2)) - v47.2.1)), v47.2.2, v47.1.2.2.2.2.2.2.2.2.2)) := hD
          exact J145 ((v47.1.1, v47.1.2.1, v47.1.2.2.1, (v47.1.2.2.2.1 + (v47.1.2.2.1 (Int32.toNatClampNeg v47.2.2))), (imin v47.1.2.2.2.2.1 (v47.1.2.2.1 (Int32.toNatClampNeg v47.2.2))), (imax v47.1.2.2.2.2.2.1 (v47.1.2.2.1 (Int32.toNatClampNeg v47.2.2))), (v47.1.2.2.2.2.2.2.1 + (iabs ((v47.1.2.2.1 (Int32.toNatClampNeg v47.2.2)) - v47.2.1))), (iabs ((v47.1.2.2.1 (Int32.toNatClampNeg v47.2.2)) - v47.2.1)), v47.2.2, v47.1.2.2.2.2.2.2.2.2.2), v47.2.1, v47.2.2) h _ _ hP hD hS _ (lv_sub hl [1, 2, 3] rfl)
  refine lv_aload_n hx hb dX0_sumUp_0 rfl (lv_at hl 0 rfl) ?_
  refine lv_iconst (v := 0) hx hb dX0_sumUp_1 (by decide) ?_
  refine va_put (D := D) (ci := 0) (v := .int 0) (ty := .int) (C := RX0) (T := TX0) (N := 10) hx hb htB inlX0 tyX0 tyX0_ok nmX0 hown hK hP hD hS 0 rfl rfl 3 (by decide) (htB _ kw135) (fun _ h9 => h9) rfl (by decide +kernel) rfl rfl (Nat.le_of_ble_eq_true rfl) dX0_sumUp_2 (fun H locs hP hD hS => ?_)
  have hP : va_P D vwCl (gE t ea eb (ex.1, ex.2.1, ex.2.2.1, 0, ex.2.2.2.2.1, ex.2.2.2.2.2.1, ex.2.2.2.2.2.2.1, ex.2.2.2.2.2.2.2.1, ex.2.2.2.2.2.2.2.2.1, ex.2.2.2.2.2.2.2.2.2)) H := hP
  have hD : va_D A (gE t ea eb (ex.1, ex.2.1, ex.2.2.1, 0, ex.2.2.2.2.1, ex.2.2.2.2.2.1, ex.2.2.2.2.2.2.1, ex.2.2.2.2.2.2.2.1, ex.2.2.2.2.2.2.2.2.1, ex.2.2.2.2.2.2.2.2.2)) := hD
  refine lv_aload_n hx hb dX0_sumUp_5 rfl (lv_at hl 0 rfl) ?_
  refine lv_aload_n hx hb dX0_sumUp_6 rfl (lv_at hl 0 rfl) ?_
  refine va_get (D := D) (ci := 0) (v := .ref (eb 2)) (C := RX0) (T := TX0) (N := 10) hx hb htB inlX0 hown hK hP 0 rfl rfl 2 (by decide) (htB _ kw44) (fun _ h9 => h9) rfl dX0_sumUp_7 ?_
  refine lv_iconst (v := 0) hx hb dX0_sumUp_10 (by decide) ?_
  obtain ⟨r1, h1, h⟩ := ob h
  refine call_i (v := r1) (wc := (gA t (eb 2) 24 ex.2.2.1)) (wc' := (gA t (eb 2) 24 ex.2.2.1)) (ws' := (gE t ea eb (ex.1, ex.2.1, ex.2.2.1, 0, ex.2.2.2.2.1, ex.2.2.2.2.2.1, ex.2.2.2.2.2.2.1, ex.2.2.2.2.2.2.2.1, ex.2.2.2.2.2.2.2.2.1, ex.2.2.2.2.2.2.2.2.2))) (cutI (wc := (gA t (eb 2) 24 ex.2.2.1)) (wc' := (gA t (eb 2) 24 ex.2.2.1)) (ws' := (gE t ea eb (ex.1, ex.2.1, ex.2.2.1, 0, ex.2.2.2.2.1, ex.2.2.2.2.2.1, ex.2.2.2.2.2.2.1, ex.2.2.2.2.2.2.2.1, ex.2.2.2.2.2.2.2.2.1, ex.2.2.2.2.2.2.2.2.2))) [3] hP hD hS hA rfl rfl rfl rfl) hS (fun hPc hDc => va_runSN (As := [.ref (eb 2), .int 0]) (rest := [.ref ea]) ⟨hx, hb, hml, hown, hts⟩ (mtX2_at l D t (eb 2) 24 ex.2.2.1 0 r1 h1 (by decide) _) ⟨va_cnB 2 hts (gB kw66) rfl rfl rfl hE.2.1 (htB _ kw2) (by decide +kernel) ⟨Nat.le_of_ble_eq_true rfl, Nat.le_of_ble_eq_true rfl⟩, (htB _ kw65), trivial⟩ (sPc_S hPc hK hDc hE) rfl rfl hl.1 rfl (lv_room (Nat.le_of_ble_eq_true rfl)) dX0_sumUp_11 ⟨Nat.zero_le _, Nat.zero_le _⟩) (fun H locs hP hD hS => ?_)
  refine va_put (D := D) (ci := 0) (v := .int r1) (ty := .int) (C := RX0) (T := TX0) (N := 10) hx hb htB inlX0 tyX0 tyX0_ok nmX0 hown hK hP hD hS 0 rfl rfl 4 (by decide) (htB _ kw136) (fun _ h9 => h9) rfl (by decide +kernel) rfl rfl (Nat.le_of_ble_eq_true rfl) dX0_sumUp_14 (fun H locs hP hD hS => ?_)
  have hP : va_P D vwCl (gE t ea eb (ex.1, ex.2.1, ex.2.2.1, 0, r1, ex.2.2.2.2.2.1, ex.2.2.2.2.2.2.1, ex.2.2.2.2.2.2.2.1, ex.2.2.2.2.2.2.2.2.1, ex.2.2.2.2.2.2.2.2.2)) H := hP
  have hD : va_D A (gE t ea eb (ex.1, ex.2.1, ex.2.2.1, 0, r1, ex.2.2.2.2.2.1, ex.2.2.2.2.2.2.1, ex.2.2.2.2.2.2.2.1, ex.2.2.2.2.2.2.2.2.1, ex.2.2.2.2.2.2.2.2.2)) := hD
  refine lv_aload_n hx hb dX0_sumUp_17 rfl (lv_at hl 0 rfl) ?_
  refine lv_aload_n hx hb dX0_sumUp_18 rfl (lv_at hl 0 rfl) ?_
  refine va_get (D := D) (ci := 0) (v := .int r1) (C := RX0) (T := TX0) (N := 10) hx hb htB inlX0 hown hK hP 0 rfl rfl 4 (by decide) (htB _ kw136) (fun _ h9 => h9) rfl dX0_sumUp_19 ?_
  refine va_put (D := D) (ci := 0) (v := .int r1) (ty := .int) (C := RX0) (T := TX0) (N := 10) hx hb htB inlX0 tyX0 tyX0_ok nmX0 hown hK hP hD hS 0 rfl rfl 5 (by decide) (htB _ kw137) (fun _ h9 => h9) rfl (by decide +kernel) rfl rfl (Nat.le_of_ble_eq_true rfl) dX0_sumUp_22 (fun H locs hP hD hS => ?_)
  have hP : va_P D vwCl (gE t ea eb (ex.1, ex.2.1, ex.2.2.1, 0, r1, r1, ex.2.2.2.2.2.2.1, ex.2.2.2.2.2.2.2.1, ex.2.2.2.2.2.2.2.2.1, ex.2.2.2.2.2.2.2.2.2)) H := hP
  have hD : va_D A (gE t ea eb (ex.1, ex.2.1, ex.2.2.1, 0, r1, r1, ex.2.2.2.2.2.2.1, ex.2.2.2.2.2.2.2.1, ex.2.2.2.2.2.2.2.2.1, ex.2.2.2.2.2.2.2.2.2)) := hD
  refine lv_aload_n hx hb dX0_sumUp_25 rfl (lv_at hl 0 rfl) ?_
  refine lv_iconst (v := 0) hx hb dX0_sumUp_26 (by decide) ?_
  refine va_put (D := D) (ci := 0) (v := .int 0) (ty := .int) (C := RX0) (T := TX0) (N := 10) hx hb htB inlX0 tyX0 tyX0_ok nmX0 hown hK hP hD hS 0 rfl rfl 6 (by decide) (htB _ kw138) (fun _ h9 => h9) rfl (by decide +kernel) rfl rfl (Nat.le_of_ble_eq_true rfl) dX0_sumUp_27 (fun H locs hP hD hS => ?_)
  have hP : va_P D vwCl (gE t ea eb (ex.1, ex.2.1, ex.2.2.1, 0, r1, r1, 0, ex.2.2.2.2.2.2.2.1, ex.2.2.2.2.2.2.2.2.1, ex.2.2.2.2.2.2.2.2.2)) H := hP
  have hD : va_D A (gE t ea eb (ex.1, ex.2.1, ex.2.2.1, 0, r1, r1, 0, ex.2.2.2.2.2.2.2.1, ex.2.2.2.2.2.2.2.2.1, ex.2.2.2.2.2.2.2.2.2)) := hD
  refine lv_aload_n hx hb dX0_sumUp_30 rfl (lv_at hl 0 rfl) ?_
  refine lv_iconst (v := 0) hx hb dX0_sumUp_31 (by decide) ?_
  refine va_put (D := D) (ci := 0) (v := .int 0) (ty := .int) (C := RX0) (T := TX0) (N := 10) hx hb htB inlX0 tyX0 tyX0_ok nmX0 hown hK hP hD hS 0 rfl rfl 7 (by decide) (htB _ kw139) (fun _ h9 => h9) rfl (by decide +kernel) rfl rfl (Nat.le_of_ble_eq_true rfl) dX0_sumUp_32 (fun H locs hP hD hS => ?_)
  have hP : va_P D vwCl (gE t ea eb (ex.1, ex.2.1, ex.2.2.1, 0, r1, r1, 0, 0, ex.2.2.2.2.2.2.2.2.1, ex.2.2.2.2.2.2.2.2.2)) H := hP
  have hD : va_D A (gE t ea eb (ex.1, ex.2.1, ex.2.2.1, 0, r1, r1, 0, 0, ex.2.2.2.2.2.2.2.2.1, ex.2.2.2.2.2.2.2.2.2)) := hD
  refine lv_aload_n hx hb dX0_sumUp_35 rfl (lv_at hl 0 rfl) ?_
  refine lv_iconst (v := 0) hx hb dX0_sumUp_36 (by decide) ?_
  refine va_put (D := D) (ci := 0) (v := .int 0) (ty := .int) (C := RX0) (T := TX0) (N := 10) hx hb htB inlX0 tyX0 tyX0_ok nmX0 hown hK hP hD hS 0 rfl rfl 8 (by decide) (htB _ kw140) (fun _ h9 => h9) rfl (by decide +kernel) rfl rfl (Nat.le_of_ble_eq_true rfl) dX0_sumUp_37 (fun H locs hP hD hS => ?_)
  have hP : va_P D vwCl (gE t ea eb (ex.1, ex.2.1, ex.2.2.1, 0, r1, r1, 0, 0, 0, ex.2.2.2.2.2.2.2.2.2)) H := hP
  have hD : va_D A (gE t ea eb (ex.1, ex.2.1, ex.2.2.1, 0, r1, r1, 0, 0, 0, ex.2.2.2.2.2.2.2.2.2)) := hD
  refine lv_aload_n hx hb dX0_sumUp_40 rfl (lv_at hl 0 rfl) ?_
  refine lv_iconst (v := 0) hx hb dX0_sumUp_41 (by decide) ?_
  refine va_put (D := D) (ci := 0) (v := .int 0) (ty := .int) (C := RX0) (T := TX0) (N := 10) hx hb htB inlX0 tyX0 tyX0_ok nmX0 hown hK hP hD hS 0 rfl rfl 9 (by decide) (htB _ kw141) (fun _ h9 => h9) rfl (by decide +kernel) rfl rfl (Nat.le_of_ble_eq_true rfl) dX0_sumUp_42 (fun H locs hP hD hS => ?_)
  have hP : va_P D vwCl (gE t ea eb (ex.1, ex.2.1, ex.2.2.1, 0, r1, r1, 0, 0, 0, 0)) H := hP
  have hD : va_D A (gE t ea eb (ex.1, ex.2.1, ex.2.2.1, 0, r1, r1, 0, 0, 0, 0)) := hD
  refine lv_iconst (v := 0) hx hb dX0_sumUp_45 (by decide) ?_
  refine lv_istore_n (lv' := [(2, .int 0), (0, .ref ea), (1, .int w)]) hx hb dX0_sumUp_46 rfl hl (by decide) rfl (fun ls hl => ?_)
  exact J47 2000 ((ex.1, ex.2.1, ex.2.2.1, 0, r1, r1, 0, 0, 0, 0), w, 0) h _ _ hP hD hS _ (lv_sub hl [1, 2, 0] rfl)

theorem dX0_expose_0 : decode cX0_expose 0 = .ok (.aload_n 0, 1) := by decide +kernel
theorem dX0_expose_1 : decode cX0_expose 1 = .ok (.aload_n 1, 1) := by decide +kernel
theorem dX0_expose_2 : decode cX0_expose 2 = .ok (.iload_n 2, 1) := by decide +kernel
theorem dX0_expose_3 : decode cX0_expose 3 = .ok (.invokevirtual 28, 3) := by decide +kernel
theorem dX0_expose_6 : decode cX0_expose 6 = .ok (.aload_n 0, 1) := by decide +kernel
theorem dX0_expose_7 : decode cX0_expose 7 = .ok (.aload_n 1, 1) := by decide +kernel
theorem dX0_expose_8 : decode cX0_expose 8 = .ok (.invokevirtual 32, 3) := by decide +kernel
theorem dX0_expose_11 : decode cX0_expose 11 = .ok (.aload_n 0, 1) := by decide +kernel
theorem dX0_expose_12 : decode cX0_expose 12 = .ok (.iload_n 2, 1) := by decide +kernel
theorem dX0_expose_13 : decode cX0_expose 13 = .ok (.invokestatic 36, 3) := by decide +kernel
theorem dX0_expose_16 : decode cX0_expose 16 = .ok (.invokevirtual 40, 3) := by decide +kernel
theorem dX0_expose_19 : decode cX0_expose 19 = .ok (.return_, 1) := by decide +kernel
abbrev zX0_expose : List Cond := .code yX0_expose cX0_expose 3 none :: BIG
def fX0_expose (ex : ExT) (x : ShT) (v : Int32) : Option (ExT) := (fX0_runCurtains ex x v).bind (fun r1 => (fX0_openColumns r1 x).bind (fun r2 => (fX2_wantedLight v).bind (fun r3 => (fX0_sumUp r2 r3).bind (fun r4 => some r4))))
set_option maxHeartbeats 4000000 in
set_option maxRecDepth 100000 in
theorem mtX0_expose (l : Launch) (D : va_G) (t : Nat → ClassId) (ea : Nat) (eb : Nat → Nat) (ex : ExT) (xa : Nat) (xb : Nat → Nat) (x : ShT) (v : Int32) (out : ExT) (h : fX0_expose ex x v = some out)  (sz : Nat) : Met l yX0_expose zX0_expose ({ frames := 3, cells := 0, slots := 0, locals := 71 }) (sPc D t (gE t ea eb ex ++ (gS t xa xb x)) sz [.ref ea, .ref xa, .int v]) (qV D t (gE t ea eb out ++ (gS t xa xb x)) (va_A (gE t ea eb ex ++ (gS t xa xb x)) sz)) 0 0 (va_A (gE t ea eb ex ++ (gS t xa xb x)) sz) := by
  refine met_of (Qf := fun A => qV D t (gE t ea eb out ++ (gS t xa xb x)) A) (cc := cX0_expose) (maxL := 3) (ret := none) (by decide) rfl (Nat.le_of_ble_eq_true rfl) ?_
  intro p e s m args below meth c A hx hb hr hml hts hown hlocks hA hP hK hD hE hS ls hl
  have htB : ∀ w ∈ BIG, w.before args s = true := fun w h => hts w (List.mem_cons_of_mem _ h)
  have hown : s.vm.findClass RX0 = some m.cls := hown
  have hl : lv_has ls 3 [(0, .ref ea), (1, .ref xa), (2, .int v)] := hl
  unfold fX0_expose at h
  refine lv_aload_n hx hb dX0_expose_0 rfl (lv_at hl 0 rfl) ?_
  refine lv_aload_n hx hb dX0_expose_1 rfl (lv_at hl 1 rfl) ?_
  refine lv_iload_n hx hb dX0_expose_2 rfl (lv_at hl 2 rfl) ?_
  obtain ⟨r1, h1, h⟩ := ob h
  refine call_v (wc := (gE t ea eb ex ++ (gS t xa xb x))) (wc' := (gE t ea eb r1 ++ (gS t xa xb x))) (ws' := (gE t ea eb r1 ++ (gS t xa xb x))) (cutB (bs := [gE t ea eb ex, gS t xa xb x]) (cs := [gE t ea eb ex, gS t xa xb x]) (cs' := [gE t ea eb r1, gS t xa xb x]) (bs' := [gE t ea eb r1, gS t xa xb x]) [0, 1] hP hD hS hA rfl rfl rfl rfl) hS (fun hPc hDc => va_runV (As := [.ref xa, .int v]) (rest := []) ⟨hx, hb, hml, hown, hts⟩ (mtX0_runCurtains l D t ea eb ex xa xb x v r1 h1 _) (cwV 2 hts (gBV kw104 kw105 kw106 kw16 kw107) rfl rfl rfl (by decide +kernel) ⟨Nat.le_of_ble_eq_true rfl, Nat.le_of_ble_eq_true rfl⟩) (sPc_V hPc hK hDc hE (va_recv hK hP (ci := 0) (q0 := 0) rfl rfl)) rfl rfl hl.1 rfl (lv_room (Nat.le_of_ble_eq_true rfl)) dX0_expose_3 ⟨Nat.zero_le _, Nat.zero_le _⟩) (fun H locs hP hD hS => ?_)
  refine lv_aload_n hx hb dX0_expose_6 rfl (lv_at hl 0 rfl) ?_
  refine lv_aload_n hx hb dX0_expose_7 rfl (lv_at hl 1 rfl) ?_
  obtain ⟨r2, h2, h⟩ := ob h
  refine call_v (wc := (gE t ea eb r1 ++ (gS t xa xb x))) (wc' := (gE t ea eb r2 ++ (gS t xa xb x))) (ws' := (gE t ea eb r2 ++ (gS t xa xb x))) (cutB (bs := [gE t ea eb r1, gS t xa xb x]) (cs := [gE t ea eb r1, gS t xa xb x]) (cs' := [gE t ea eb r2, gS t xa xb x]) (bs' := [gE t ea eb r2, gS t xa xb x]) [0, 1] hP hD hS hA rfl rfl rfl rfl) hS (fun hPc hDc => va_runV (As := [.ref xa]) (rest := []) ⟨hx, hb, hml, hown, hts⟩ (mtX0_openColumns l D t ea eb r1 xa xb x r2 h2 _) (cwV 1 hts (gBV kw124 kw125 kw126 kw16 kw127) rfl rfl rfl (by decide +kernel) ⟨Nat.le_of_ble_eq_true rfl, Nat.le_of_ble_eq_true rfl⟩) (sPc_V hPc hK hDc hE (va_recv hK hP (ci := 0) (q0 := 0) rfl rfl)) rfl rfl hl.1 rfl (lv_room (Nat.le_of_ble_eq_true rfl)) dX0_expose_8 ⟨Nat.zero_le _, Nat.zero_le _⟩) (fun H locs hP hD hS => ?_)
  refine lv_aload_n hx hb dX0_expose_11 rfl (lv_at hl 0 rfl) ?_
  refine lv_iload_n hx hb dX0_expose_12 rfl (lv_at hl 2 rfl) ?_
  obtain ⟨r3, h3, h⟩ := ob h
  refine call_i (v := r3) (wc := ([] : va_W)) (wc' := ([] : va_W)) (ws' := (gE t ea eb r2 ++ (gS t xa xb x))) (cutB (bs := [gE t ea eb r2, gS t xa xb x]) (cs := []) (cs' := []) (bs' := [gE t ea eb r2, gS t xa xb x]) [] hP hD hS hA rfl rfl rfl rfl) hS (fun hPc hDc => va_runSN (As := [.int v]) (rest := [.ref ea]) ⟨hx, hb, hml, hown, hts⟩ (mtX2_wantedLight l D t v r3 h3 _) ⟨va_cnB 1 hts (gB kw123) rfl rfl rfl hE.1 (htB _ kw2) (by decide +kernel) ⟨Nat.le_of_ble_eq_true rfl, Nat.le_of_ble_eq_true rfl⟩, (htB _ kw122), trivial⟩ (sPc_S hPc hK hDc hE) rfl rfl hl.1 rfl (lv_room (Nat.le_of_ble_eq_true rfl)) dX0_expose_13 ⟨Nat.zero_le _, Nat.zero_le _⟩) (fun H locs hP hD hS => ?_)
  obtain ⟨r4, h4, h⟩ := ob h
  refine call_v (wc := (gE t ea eb r2)) (wc' := (gE t ea eb r4)) (ws' := (gE t ea eb r4 ++ (gS t xa xb x))) (cutB (bs := [gE t ea eb r2, gS t xa xb x]) (cs := [gE t ea eb r2]) (cs' := [gE t ea eb r4]) (bs' := [gE t ea eb r4, gS t xa xb x]) [0] hP hD hS hA rfl rfl rfl rfl) hS (fun hPc hDc => va_runV (As := [.int r3]) (rest := []) ⟨hx, hb, hml, hown, hts⟩ (mtX0_sumUp l D t ea eb r2 r3 r4 h4 _) (cwV 1 hts (gBV kw131 kw132 kw133 kw16 kw134) rfl rfl rfl (by decide +kernel) ⟨Nat.le_of_ble_eq_true rfl, Nat.le_of_ble_eq_true rfl⟩) (sPc_V hPc hK hDc hE (va_recv hK hP (ci := 0) (q0 := 0) rfl rfl)) rfl rfl hl.1 rfl (lv_room (Nat.le_of_ble_eq_true rfl)) dX0_expose_16 ⟨Nat.zero_le _, Nat.zero_le _⟩) (fun H locs hP hD hS => ?_)
  obtain rfl := os h
  exact ret_v hx hb hr hlocks hP hK hD hS dX0_expose_19
