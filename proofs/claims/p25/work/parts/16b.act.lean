theorem dL_act_0 : decode cL_act 0 = .ok (.aload_n 1, 1) := by decide +kernel
theorem dL_act_1 : decode cL_act 1 = .ok (.iload_n 2, 1) := by decide +kernel
theorem dL_act_2 : decode cL_act 2 = .ok (.iconst 1, 1) := by decide +kernel
theorem dL_act_3 : decode cL_act 3 = .ok (.iadd, 1) := by decide +kernel
theorem dL_act_4 : decode cL_act 4 = .ok (.invokestatic 45, 3) := by decide +kernel
theorem dL_act_7 : decode cL_act 7 = .ok (.istore_n 3, 1) := by decide +kernel
theorem dL_act_8 : decode cL_act 8 = .ok (.aload_n 1, 1) := by decide +kernel
theorem dL_act_9 : decode cL_act 9 = .ok (.iload_n 2, 1) := by decide +kernel
theorem dL_act_10 : decode cL_act 10 = .ok (.iconst 2, 1) := by decide +kernel
theorem dL_act_11 : decode cL_act 11 = .ok (.iadd, 1) := by decide +kernel
theorem dL_act_12 : decode cL_act 12 = .ok (.invokestatic 45, 3) := by decide +kernel
theorem dL_act_15 : decode cL_act 15 = .ok (.istore 4, 2) := by decide +kernel
theorem dL_act_17 : decode cL_act 17 = .ok (.iload_n 3, 1) := by decide +kernel
theorem dL_act_18 : decode cL_act 18 = .ok (.iconst 2, 1) := by decide +kernel
theorem dL_act_19 : decode cL_act 19 = .ok (.invokestatic 49, 3) := by decide +kernel
theorem dL_act_22 : decode cL_act 22 = .ok (.istore 5, 2) := by decide +kernel
theorem dL_act_24 : decode cL_act 24 = .ok (.iload_n 3, 1) := by decide +kernel
theorem dL_act_25 : decode cL_act 25 = .ok (.iconst 2, 1) := by decide +kernel
theorem dL_act_26 : decode cL_act 26 = .ok (.ishr, 1) := by decide +kernel
theorem dL_act_27 : decode cL_act 27 = .ok (.bipush 24, 2) := by decide +kernel
theorem dL_act_29 : decode cL_act 29 = .ok (.invokestatic 49, 3) := by decide +kernel
theorem dL_act_32 : decode cL_act 32 = .ok (.istore 6, 2) := by decide +kernel
theorem dL_act_34 : decode cL_act 34 = .ok (.aload_n 1, 1) := by decide +kernel
theorem dL_act_35 : decode cL_act 35 = .ok (.iload_n 2, 1) := by decide +kernel
theorem dL_act_36 : decode cL_act 36 = .ok (.invokestatic 45, 3) := by decide +kernel
theorem dL_act_39 : decode cL_act 39 = .ok (.bipush 16, 2) := by decide +kernel
theorem dL_act_41 : decode cL_act 41 = .ok (.invokestatic 49, 3) := by decide +kernel
theorem dL_act_44 : decode cL_act 44 = .ok (.tableswitch 234 0 13 #[72, 72, 88, 88, 88, 119, 126, 147, 160, 199, 214, 214, 214, 214], 72) := by decide +kernel
theorem dL_act_116 : decode cL_act 116 = .ok (.aload_n 0, 1) := by decide +kernel
theorem dL_act_117 : decode cL_act 117 = .ok (.iload 5, 2) := by decide +kernel
theorem dL_act_119 : decode cL_act 119 = .ok (.iconst 1, 1) := by decide +kernel
theorem dL_act_120 : decode cL_act 120 = .ok (.iload 4, 2) := by decide +kernel
theorem dL_act_122 : decode cL_act 122 = .ok (.bipush 99, 2) := by decide +kernel
theorem dL_act_124 : decode cL_act 124 = .ok (.invokestatic 49, 3) := by decide +kernel
theorem dL_act_127 : decode cL_act 127 = .ok (.iadd, 1) := by decide +kernel
theorem dL_act_128 : decode cL_act 128 = .ok (.invokevirtual 52, 3) := by decide +kernel
theorem dL_act_131 : decode cL_act 131 = .ok (.ireturn, 1) := by decide +kernel
theorem dL_act_132 : decode cL_act 132 = .ok (.aload_n 0, 1) := by decide +kernel
theorem dL_act_133 : decode cL_act 133 = .ok (.iload 5, 2) := by decide +kernel
theorem dL_act_135 : decode cL_act 135 = .ok (.iload 6, 2) := by decide +kernel
theorem dL_act_137 : decode cL_act 137 = .ok (.iload 6, 2) := by decide +kernel
theorem dL_act_139 : decode cL_act 139 = .ok (.iload 4, 2) := by decide +kernel
theorem dL_act_141 : decode cL_act 141 = .ok (.bipush 24, 2) := by decide +kernel
theorem dL_act_143 : decode cL_act 143 = .ok (.iload 6, 2) := by decide +kernel
theorem dL_act_145 : decode cL_act 145 = .ok (.isub, 1) := by decide +kernel
theorem dL_act_146 : decode cL_act 146 = .ok (.invokestatic 49, 3) := by decide +kernel
theorem dL_act_149 : decode cL_act 149 = .ok (.iadd, 1) := by decide +kernel
theorem dL_act_150 : decode cL_act 150 = .ok (.iload 4, 2) := by decide +kernel
theorem dL_act_152 : decode cL_act 152 = .ok (.iconst 5, 1) := by decide +kernel
theorem dL_act_153 : decode cL_act 153 = .ok (.ishr, 1) := by decide +kernel
theorem dL_act_154 : decode cL_act 154 = .ok (.bipush 51, 2) := by decide +kernel
theorem dL_act_156 : decode cL_act 156 = .ok (.invokestatic 49, 3) := by decide +kernel
theorem dL_act_159 : decode cL_act 159 = .ok (.invokevirtual 55, 3) := by decide +kernel
theorem dL_act_162 : decode cL_act 162 = .ok (.ireturn, 1) := by decide +kernel
theorem dL_act_163 : decode cL_act 163 = .ok (.aload_n 0, 1) := by decide +kernel
theorem dL_act_164 : decode cL_act 164 = .ok (.iload 5, 2) := by decide +kernel
theorem dL_act_166 : decode cL_act 166 = .ok (.invokevirtual 59, 3) := by decide +kernel
theorem dL_act_169 : decode cL_act 169 = .ok (.ireturn, 1) := by decide +kernel
theorem dL_act_170 : decode cL_act 170 = .ok (.aload_n 0, 1) := by decide +kernel
theorem dL_act_171 : decode cL_act 171 = .ok (.iload_n 3, 1) := by decide +kernel
theorem dL_act_172 : decode cL_act 172 = .ok (.bipush 6, 2) := by decide +kernel
theorem dL_act_174 : decode cL_act 174 = .ok (.invokestatic 49, 3) := by decide +kernel
theorem dL_act_177 : decode cL_act 177 = .ok (.iload 4, 2) := by decide +kernel
theorem dL_act_179 : decode cL_act 179 = .ok (.bipush 101, 2) := by decide +kernel
theorem dL_act_181 : decode cL_act 181 = .ok (.invokestatic 49, 3) := by decide +kernel
theorem dL_act_184 : decode cL_act 184 = .ok (.bipush 50, 2) := by decide +kernel
theorem dL_act_186 : decode cL_act 186 = .ok (.isub, 1) := by decide +kernel
theorem dL_act_187 : decode cL_act 187 = .ok (.invokevirtual 62, 3) := by decide +kernel
theorem dL_act_190 : decode cL_act 190 = .ok (.ireturn, 1) := by decide +kernel
theorem dL_act_191 : decode cL_act 191 = .ok (.aload_n 0, 1) := by decide +kernel
theorem dL_act_192 : decode cL_act 192 = .ok (.iconst 0, 1) := by decide +kernel
theorem dL_act_193 : decode cL_act 193 = .ok (.iload 4, 2) := by decide +kernel
theorem dL_act_195 : decode cL_act 195 = .ok (.bipush 21, 2) := by decide +kernel
theorem dL_act_197 : decode cL_act 197 = .ok (.invokestatic 49, 3) := by decide +kernel
theorem dL_act_200 : decode cL_act 200 = .ok (.invokevirtual 65, 3) := by decide +kernel
theorem dL_act_203 : decode cL_act 203 = .ok (.ireturn, 1) := by decide +kernel
theorem dL_act_204 : decode cL_act 204 = .ok (.iload_n 3, 1) := by decide +kernel
theorem dL_act_205 : decode cL_act 205 = .ok (.iconst 2, 1) := by decide +kernel
theorem dL_act_206 : decode cL_act 206 = .ok (.invokestatic 49, 3) := by decide +kernel
theorem dL_act_209 : decode cL_act 209 = .ok (.ifCond .ne 20, 3) := by decide +kernel
theorem dL_act_212 : decode cL_act 212 = .ok (.aload_n 0, 1) := by decide +kernel
theorem dL_act_213 : decode cL_act 213 = .ok (.iconst 1, 1) := by decide +kernel
theorem dL_act_214 : decode cL_act 214 = .ok (.iconst 1, 1) := by decide +kernel
theorem dL_act_215 : decode cL_act 215 = .ok (.iload 4, 2) := by decide +kernel
theorem dL_act_217 : decode cL_act 217 = .ok (.bipush 99, 2) := by decide +kernel
theorem dL_act_219 : decode cL_act 219 = .ok (.invokestatic 49, 3) := by decide +kernel
theorem dL_act_222 : decode cL_act 222 = .ok (.iadd, 1) := by decide +kernel
theorem dL_act_223 : decode cL_act 223 = .ok (.invokevirtual 65, 3) := by decide +kernel
theorem dL_act_226 : decode cL_act 226 = .ok (.goto 16, 3) := by decide +kernel
theorem dL_act_229 : decode cL_act 229 = .ok (.aload_n 0, 1) := by decide +kernel
theorem dL_act_230 : decode cL_act 230 = .ok (.iconst 2, 1) := by decide +kernel
theorem dL_act_231 : decode cL_act 231 = .ok (.iload 4, 2) := by decide +kernel
theorem dL_act_233 : decode cL_act 233 = .ok (.sipush 201, 3) := by decide +kernel
theorem dL_act_236 : decode cL_act 236 = .ok (.invokestatic 49, 3) := by decide +kernel
theorem dL_act_239 : decode cL_act 239 = .ok (.invokevirtual 65, 3) := by decide +kernel
theorem dL_act_242 : decode cL_act 242 = .ok (.ireturn, 1) := by decide +kernel
theorem dL_act_243 : decode cL_act 243 = .ok (.aload_n 0, 1) := by decide +kernel
theorem dL_act_244 : decode cL_act 244 = .ok (.iconst 3, 1) := by decide +kernel
theorem dL_act_245 : decode cL_act 245 = .ok (.iconst 1, 1) := by decide +kernel
theorem dL_act_246 : decode cL_act 246 = .ok (.iload 4, 2) := by decide +kernel
theorem dL_act_248 : decode cL_act 248 = .ok (.bipush 30, 2) := by decide +kernel
theorem dL_act_250 : decode cL_act 250 = .ok (.invokestatic 49, 3) := by decide +kernel
theorem dL_act_253 : decode cL_act 253 = .ok (.iadd, 1) := by decide +kernel
theorem dL_act_254 : decode cL_act 254 = .ok (.invokevirtual 65, 3) := by decide +kernel
theorem dL_act_257 : decode cL_act 257 = .ok (.ireturn, 1) := by decide +kernel
theorem dL_act_258 : decode cL_act 258 = .ok (.aload_n 0, 1) := by decide +kernel
theorem dL_act_259 : decode cL_act 259 = .ok (.iload_n 3, 1) := by decide +kernel
theorem dL_act_260 : decode cL_act 260 = .ok (.bipush 6, 2) := by decide +kernel
theorem dL_act_262 : decode cL_act 262 = .ok (.invokestatic 49, 3) := by decide +kernel
theorem dL_act_265 : decode cL_act 265 = .ok (.iconst 1, 1) := by decide +kernel
theorem dL_act_266 : decode cL_act 266 = .ok (.iload 4, 2) := by decide +kernel
theorem dL_act_268 : decode cL_act 268 = .ok (.bipush 12, 2) := by decide +kernel
theorem dL_act_270 : decode cL_act 270 = .ok (.invokestatic 49, 3) := by decide +kernel
theorem dL_act_273 : decode cL_act 273 = .ok (.iadd, 1) := by decide +kernel
theorem dL_act_274 : decode cL_act 274 = .ok (.invokevirtual 68, 3) := by decide +kernel
theorem dL_act_277 : decode cL_act 277 = .ok (.ireturn, 1) := by decide +kernel
theorem dL_act_278 : decode cL_act 278 = .ok (.aload_n 0, 1) := by decide +kernel
theorem dL_act_279 : decode cL_act 279 = .ok (.invokestatic 71, 3) := by decide +kernel
theorem dL_act_282 : decode cL_act 282 = .ok (.ireturn, 1) := by decide +kernel
abbrev zL_act : List Cond := .code yL_act cL_act 7 (some .int) :: BIG
def fL_act_j116 (L : Nat) (xs : Nat → Int32)  (v116 : BoT × ShT × ExT × (Nat → ShT) × Int32 × Int32) : Option (Int32 × BoT × ShT × ExT × (Nat → ShT)) := (fL_low v116.2.2.2.2.1 99).bind (fun r36 => tq (fX2_wind v116.1 v116.2.1 v116.2.2.2.1 v116.2.2.2.2.2 (1 + r36)) (fun r37 => some (r37.1, r37.2.1, r37.2.2.1, v116.2.2.1, r37.2.2.2)))
def fL_act_j132 (L : Nat) (xs : Nat → Int32)  (v132 : BoT × ShT × ExT × (Nat → ShT) × Int32 × Int32 × Int32) : Option (Int32 × BoT × ShT × ExT × (Nat → ShT)) := (fL_low v132.2.2.2.2.1 (24 - v132.2.2.2.2.2.2)).bind (fun r38 => (fL_low (v132.2.2.2.2.1 >>> (5 &&& 31)) 51).bind (fun r39 => tq (fX2_drag v132.1 v132.2.1 v132.2.2.2.1 v132.2.2.2.2.2.1 v132.2.2.2.2.2.2 (v132.2.2.2.2.2.2 + r38) r39) (fun r40 => some (r40.1, r40.2.1, r40.2.2.1, v132.2.2.1, r40.2.2.2))))
def fL_act_j258 (L : Nat) (xs : Nat → Int32)  (v258 : BoT × ShT × ExT × (Nat → ShT) × Int32 × Int32) : Option (Int32 × BoT × ShT × ExT × (Nat → ShT)) := (fL_low v258.2.2.2.2.1 6).bind (fun r41 => (fL_low v258.2.2.2.2.2 12).bind (fun r42 => tq (fX2_shoot v258.1 v258.2.1 v258.2.2.1 v258.2.2.2.1 r41 (1 + r42)) (fun r43 => some (r43.1, r43.2.1, r43.2.2.1, r43.2.2.2.1, r43.2.2.2.2))))
def fL_act (L : Nat) (xs : Nat → Int32) (bo : BoT) (now : ShT) (ex : ExT) (sv : (Nat → ShT)) (i : Int32) : Option (Int32 × BoT × ShT × ExT × (Nat → ShT)) := (fL_cell L xs (i + 1)).bind (fun r1 => (fL_cell L xs (i + 2)).bind (fun r2 => (fL_low r1 2).bind (fun r3 => (fL_low (r1 >>> (2 &&& 31)) 24).bind (fun r4 => (fL_cell L xs i).bind (fun r5 => (fL_low r5 16).bind (fun r6 => (if r6 = 0 then fL_act_j116 L xs (bo, now, ex, sv, r2, r3) else (if r6 = 1 then fL_act_j116 L xs (bo, now, ex, sv, r2, r3) else (if r6 = 2 then fL_act_j132 L xs (bo, now, ex, sv, r2, r3, r4) else (if r6 = 3 then fL_act_j132 L xs (bo, now, ex, sv, r2, r3, r4) else (if r6 = 4 then fL_act_j132 L xs (bo, now, ex, sv, r2, r3, r4) else (if r6 = 5 then tq (fX2_clean bo now sv r3) (fun r13 => some (r13.1, r13.2.1, r13.2.2.1, ex, r13.2.2.2)) else (if r6 = 6 then (fL_low r1 6).bind (fun r15 => (fL_low r2 101).bind (fun r16 => tq (fX2_correct bo now sv r15 (r16 - 50)) (fun r17 => some (r17.1, r17.2.1, r17.2.2.1, ex, r17.2.2.2)))) else (if r6 = 7 then (fL_low r2 21).bind (fun r19 => tq (fX2_set bo now sv 0 r19) (fun r20 => some (r20.1, r20.2.1, r20.2.2.1, ex, r20.2.2.2))) else (if r6 = 8 then (fL_low r1 2).bind (fun r22 => (if r22 = 0 then (fL_low r2 99).bind (fun r26 => tq (fX2_set bo now sv 1 (1 + r26)) (fun r27 => some (r27.1, r27.2.1, r27.2.2.1, ex, r27.2.2.2))) else (fL_low r2 201).bind (fun r24 => tq (fX2_set bo now sv 2 r24) (fun r25 => some (r25.1, r25.2.1, r25.2.2.1, ex, r25.2.2.2))))) else (if r6 = 9 then (fL_low r2 30).bind (fun r29 => tq (fX2_set bo now sv 3 (1 + r29)) (fun r30 => some (r30.1, r30.2.1, r30.2.2.1, ex, r30.2.2.2))) else (if r6 = 10 then fL_act_j258 L xs (bo, now, ex, sv, r1, r2) else (if r6 = 11 then fL_act_j258 L xs (bo, now, ex, sv, r1, r2) else (if r6 = 12 then fL_act_j258 L xs (bo, now, ex, sv, r1, r2) else (if r6 = 13 then fL_act_j258 L xs (bo, now, ex, sv, r1, r2) else (fL_undo bo now sv).bind (fun r35 => some (r35.1, r35.2.1, r35.2.2, ex, sv))))))))))))))))))))))
set_option maxHeartbeats 8000000 in
set_option maxRecDepth 100000 in
theorem mtL_act (l : Launch) (hfl : l.stackTraces = false) (D : va_G) (t : Nat → ClassId) (bh : Nat) (bk : Nat → Nat) (bo : BoT) (nb : Nat → Nat) (now : ShT) (eb : Nat → Nat) (ex : ExT) (sa : Nat → Nat) (sb : Nat → Nat → Nat) (sv : (Nat → ShT)) (i : Int32) (b L : Nat) (xs : Nat → Int32) (out : Int32 × BoT × ShT × ExT × (Nat → ShT)) (h : fL_act L xs bo now ex sv i = some out) (sz : Nat) : Met l yL_act zL_act ({ frames := 8, cells := 1, slots := 6, locals := 139 }) (yPc D t (gBo bh bk bo ++ (gS t (bk 0) nb now ++ (gE t (bk 2) eb ex ++ (gQ t (bk 3) sa ++ (g6 t sa sb sv))))) sz b L xs [.ref bh, .ref b, .int i]) (qI D t (gBo bh bk out.2.1 ++ (gS t (bk 0) nb out.2.2.1 ++ (gE t (bk 2) eb out.2.2.2.1 ++ (gQ t (bk 3) sa ++ (g6 t sa sb out.2.2.2.2))))) out.1 (va_A (gBo bh bk bo ++ (gS t (bk 0) nb now ++ (gE t (bk 2) eb ex ++ (gQ t (bk 3) sa ++ (g6 t sa sb sv))))) sz)) 1 6 (va_A (gBo bh bk bo ++ (gS t (bk 0) nb now ++ (gE t (bk 2) eb ex ++ (gQ t (bk 3) sa ++ (g6 t sa sb sv))))) sz) := by
  refine met_ofY (Qf := fun A => qI D t (gBo bh bk out.2.1 ++ (gS t (bk 0) nb out.2.2.1 ++ (gE t (bk 2) eb out.2.2.2.1 ++ (gQ t (bk 3) sa ++ (g6 t sa sb out.2.2.2.2))))) out.1 A) (cc := cL_act) (maxL := 7) (ret := some .int) (by decide) rfl (Nat.le_of_ble_eq_true rfl) ?_
  intro p e s m args below meth c A hx hb hr hml hts hown hlocks hA hP hK hD hE hS hX hXs hbl hbA ls hl
  have htB : ∀ w ∈ BIG, w.before args s = true := fun w h => hts w (List.mem_cons_of_mem _ h)
  have hown : s.vm.findClass RL = some m.cls := hown
  have hl : lv_has ls 7 [(0, .ref bh), (1, .ref b), (2, .int i)] := hl
  unfold fL_act at h
  have J258 : ∀ v258 : BoT × ShT × ExT × (Nat → ShT) × Int32 × Int32, fL_act_j258 L xs v258 = some out → ∀ (H : Heap) (locs : List Loc), va_P D vwCl (gBo bh bk v258.1 ++ (gS t (bk 0) nb v258.2.1 ++ (gE t (bk 2) eb v258.2.2.1 ++ (gQ t (bk 3) sa ++ (g6 t sa sb v258.2.2.2.1))))) H → va_D A (gBo bh bk v258.1 ++ (gS t (bk 0) nb v258.2.1 ++ (gE t (bk 2) eb v258.2.2.1 ++ (gQ t (bk 3) sa ++ (g6 t sa sb v258.2.2.2.1))))) → va_S A s.heap H locs → ∀ ls : Array Slot, lv_has ls 7 [(0, .ref bh), (3, .int v258.2.2.2.2.1), (4, .int v258.2.2.2.2.2)] → W p l e ({ frames := 8, cells := 1, slots := 6, locals := 139 }) s m args below meth c H locs 0 0 (MQ below (qI D t (gBo bh bk out.2.1 ++ (gS t (bk 0) nb out.2.2.1 ++ (gE t (bk 2) eb out.2.2.2.1 ++ (gQ t (bk 3) sa ++ (g6 t sa sb out.2.2.2.2))))) out.1 A) args s 1 6 A) (F0 m 258 ls []) := by
    intro v258 h H locs hP hD hS ls hl
    unfold fL_act_j258 at h
    refine lv_aload_n hx hb dL_act_258 rfl (lv_at hl 0 rfl) ?_
    refine lv_iload_n hx hb dL_act_259 rfl (lv_at hl 1 rfl) ?_
    refine lv_bipush (v := 6) hx hb dL_act_260 (by decide) ?_
    obtain ⟨r41, h41, h⟩ := ob h
    refine call_i (v := r41) (wc := ([] : va_W)) (wc' := ([] : va_W)) (ws' := (gBo bh bk v258.1 ++ (gS t (bk 0) nb v258.2.1 ++ (gE t (bk 2) eb v258.2.2.1 ++ (gQ t (bk 3) sa ++ (g6 t sa sb v258.2.2.2.1)))))) (cutB (bs := [gBo bh bk v258.1, gS t (bk 0) nb v258.2.1, gE t (bk 2) eb v258.2.2.1, gQ t (bk 3) sa, g6 t sa sb v258.2.2.2.1]) (cs := []) (cs' := []) (bs' := [gBo bh bk v258.1, gS t (bk 0) nb v258.2.1, gE t (bk 2) eb v258.2.2.1, gQ t (bk 3) sa, g6 t sa sb v258.2.2.2.1]) [] hP hD hS hA rfl rfl rfl rfl) hS (fun hPc hDc => va_runS (As := [.int v258.2.2.2.2.1, .int 6]) (rest := [.ref bh]) ⟨hx, hb, hml, hown, hts⟩ (mtL_low l D t v258.2.2.2.2.1 6 r41 h41 _) (va_cwS 2 hts (gBS kw72 kw73 kw69 kw74) rfl rfl rfl (by decide +kernel) ⟨Nat.le_of_ble_eq_true rfl, Nat.le_of_ble_eq_true rfl⟩) (sPc_S hPc hK hDc hE) rfl rfl hl.1 rfl (lv_room (Nat.le_of_ble_eq_true rfl)) dL_act_262 ⟨Nat.zero_le _, Nat.zero_le _⟩) (fun H locs hP hD hS => ?_)
    refine lv_iconst (v := 1) hx hb dL_act_265 (by decide) ?_
    refine lv_iload hx hb dL_act_266 (lv_at hl 2 rfl) ?_
    refine lv_bipush (v := 12) hx hb dL_act_268 (by decide) ?_
    obtain ⟨r42, h42, h⟩ := ob h
    refine call_i (v := r42) (wc := ([] : va_W)) (wc' := ([] : va_W)) (ws' := (gBo bh bk v258.1 ++ (gS t (bk 0) nb v258.2.1 ++ (gE t (bk 2) eb v258.2.2.1 ++ (gQ t (bk 3) sa ++ (g6 t sa sb v258.2.2.2.1)))))) (cutB (bs := [gBo bh bk v258.1, gS t (bk 0) nb v258.2.1, gE t (bk 2) eb v258.2.2.1, gQ t (bk 3) sa, g6 t sa sb v258.2.2.2.1]) (cs := []) (cs' := []) (bs' := [gBo bh bk v258.1, gS t (bk 0) nb v258.2.1, gE t (bk 2) eb v258.2.2.1, gQ t (bk 3) sa, g6 t sa sb v258.2.2.2.1]) [] hP hD hS hA rfl rfl rfl rfl) hS (fun hPc hDc => va_runS (As := [.int v258.2.2.2.2.2, .int 12]) (rest := [.int 1, .int r41, .ref bh]) ⟨hx, hb, hml, hown, hts⟩ (mtL_low l D t v258.2.2.2.2.2 12 r42 h42 _) (va_cwS 2 hts (gBS kw72 kw73 kw69 kw74) rfl rfl rfl (by decide +kernel) ⟨Nat.le_of_ble_eq_true rfl, Nat.le_of_ble_eq_true rfl⟩) (sPc_S hPc hK hDc hE) rfl rfl hl.1 rfl (lv_room (Nat.le_of_ble_eq_true rfl)) dL_act_270 ⟨Nat.zero_le _, Nat.zero_le _⟩) (fun H locs hP hD hS => ?_)
    refine lv_iadd hx hb dL_act_273 ?_
    obtain ⟨r43, h43, h⟩ := tq_r h
    refine call_i (v := r43.1) (wc := (gBo bh bk v258.1 ++ (gS t (bk 0) nb v258.2.1 ++ (gE t (bk 2) eb v258.2.2.1 ++ (gQ t (bk 3) sa ++ (g6 t sa sb v258.2.2.2.1)))))) (wc' := (gBo bh bk r43.2.1 ++ (gS t (bk 0) nb r43.2.2.1 ++ (gE t (bk 2) eb r43.2.2.2.1 ++ (gQ t (bk 3) sa ++ (g6 t sa sb r43.2.2.2.2)))))) (ws' := (gBo bh bk r43.2.1 ++ (gS t (bk 0) nb r43.2.2.1 ++ (gE t (bk 2) eb r43.2.2.2.1 ++ (gQ t (bk 3) sa ++ (g6 t sa sb r43.2.2.2.2)))))) (cutB (bs := [gBo bh bk v258.1, gS t (bk 0) nb v258.2.1, gE t (bk 2) eb v258.2.2.1, gQ t (bk 3) sa, g6 t sa sb v258.2.2.2.1]) (cs := [gBo bh bk v258.1, gS t (bk 0) nb v258.2.1, gE t (bk 2) eb v258.2.2.1, gQ t (bk 3) sa, g6 t sa sb v258.2.2.2.1]) (cs' := [gBo bh bk r43.2.1, gS t (bk 0) nb r43.2.2.1, gE t (bk 2) eb r43.2.2.2.1, gQ t (bk 3) sa, g6 t sa sb r43.2.2.2.2]) (bs' := [gBo bh bk r43.2.1, gS t (bk 0) nb r43.2.2.1, gE t (bk 2) eb r43.2.2.2.1, gQ t (bk 3) sa, g6 t sa sb r43.2.2.2.2]) [0, 1, 2, 3, 4] hP hD hS hA rfl rfl rfl rfl) hS (fun hPc hDc => va_runV (As := [.int r41, .int (1 + r42)]) (rest := []) ⟨hx, hb, hml, hown, hts⟩ (mtX2_shoot l D t bh bk v258.1 nb v258.2.1 eb v258.2.2.1 sa sb v258.2.2.2.1 r41 (1 + r42) r43 h43 _) (cwV 2 hts (gBV kw238 kw239 kw240 kw2 kw241) rfl rfl rfl (by decide +kernel) ⟨Nat.le_of_ble_eq_true rfl, Nat.le_of_ble_eq_true rfl⟩) (sPc_V hPc hK hDc hE (va_recv hK hP (ci := 2) (q0 := 0) rfl rfl)) rfl rfl hl.1 rfl (lv_room (Nat.le_of_ble_eq_true rfl)) dL_act_274 ⟨Nat.zero_le _, Nat.zero_le _⟩) (fun H locs hP hD hS => ?_)
    obtain rfl := os h
    refine W.widen (k := 1) (n := 6) (by omega) (by omega) ?_
    exact ret_i hx hb hr hlocks hP hK hD hS dL_act_277
  have J132 : ∀ v132 : BoT × ShT × ExT × (Nat → ShT) × Int32 × Int32 × Int32, fL_act_j132 L xs v132 = some out → ∀ (H : Heap) (locs : List Loc), va_P D vwCl (gBo bh bk v132.1 ++ (gS t (bk 0) nb v132.2.1 ++ (gE t (bk 2) eb v132.2.2.1 ++ (gQ t (bk 3) sa ++ (g6 t sa sb v132.2.2.2.1))))) H → va_D A (gBo bh bk v132.1 ++ (gS t (bk 0) nb v132.2.1 ++ (gE t (bk 2) eb v132.2.2.1 ++ (gQ t (bk 3) sa ++ (g6 t sa sb v132.2.2.2.1))))) → va_S A s.heap H locs → ∀ ls : Array Slot, lv_has ls 7 [(0, .ref bh), (4, .int v132.2.2.2.2.1), (5, .int v132.2.2.2.2.2.1), (6, .int v132.2.2.2.2.2.2)] → W p l e ({ frames := 8, cells := 1, slots := 6, locals := 139 }) s m args below meth c H locs 0 0 (MQ below (qI D t (gBo bh bk out.2.1 ++ (gS t (bk 0) nb out.2.2.1 ++ (gE t (bk 2) eb out.2.2.2.1 ++ (gQ t (bk 3) sa ++ (g6 t sa sb out.2.2.2.2))))) out.1 A) args s 1 6 A) (F0 m 132 ls []) := by
    intro v132 h H locs hP hD hS ls hl
    unfold fL_act_j132 at h
    refine lv_aload_n hx hb dL_act_132 rfl (lv_at hl 0 rfl) ?_
    refine lv_iload hx hb dL_act_133 (lv_at hl 2 rfl) ?_
    refine lv_iload hx hb dL_act_135 (lv_at hl 3 rfl) ?_
    refine lv_iload hx hb dL_act_137 (lv_at hl 3 rfl) ?_
    refine lv_iload hx hb dL_act_139 (lv_at hl 1 rfl) ?_
    refine lv_bipush (v := 24) hx hb dL_act_141 (by decide) ?_
    refine lv_iload hx hb dL_act_143 (lv_at hl 3 rfl) ?_
    refine lv_isub hx hb dL_act_145 ?_
    obtain ⟨r38, h38, h⟩ := ob h
    refine call_i (v := r38) (wc := ([] : va_W)) (wc' := ([] : va_W)) (ws' := (gBo bh bk v132.1 ++ (gS t (bk 0) nb v132.2.1 ++ (gE t (bk 2) eb v132.2.2.1 ++ (gQ t (bk 3) sa ++ (g6 t sa sb v132.2.2.2.1)))))) (cutB (bs := [gBo bh bk v132.1, gS t (bk 0) nb v132.2.1, gE t (bk 2) eb v132.2.2.1, gQ t (bk 3) sa, g6 t sa sb v132.2.2.2.1]) (cs := []) (cs' := []) (bs' := [gBo bh bk v132.1, gS t (bk 0) nb v132.2.1, gE t (bk 2) eb v132.2.2.1, gQ t (bk 3) sa, g6 t sa sb v132.2.2.2.1]) [] hP hD hS hA rfl rfl rfl rfl) hS (fun hPc hDc => va_runS (As := [.int v132.2.2.2.2.1, .int (24 - v132.2.2.2.2.2.2)]) (rest := [.int v132.2.2.2.2.2.2, .int v132.2.2.2.2.2.2, .int v132.2.2.2.2.2.1, .ref bh]) ⟨hx, hb, hml, hown, hts⟩ (mtL_low l D t v132.2.2.2.2.1 (24 - v132.2.2.2.2.2.2) r38 h38 _) (va_cwS 2 hts (gBS kw72 kw73 kw69 kw74) rfl rfl rfl (by decide +kernel) ⟨Nat.le_of_ble_eq_true rfl, Nat.le_of_ble_eq_true rfl⟩) (sPc_S hPc hK hDc hE) rfl rfl hl.1 rfl (lv_room (Nat.le_of_ble_eq_true rfl)) dL_act_146 ⟨Nat.zero_le _, Nat.zero_le _⟩) (fun H locs hP hD hS => ?_)
    refine lv_iadd hx hb dL_act_149 ?_
    refine lv_iload hx hb dL_act_150 (lv_at hl 1 rfl) ?_
    refine lv_iconst (v := 5) hx hb dL_act_152 (by decide) ?_
    refine lv_ishr hx hb dL_act_153 ?_
    refine lv_bipush (v := 51) hx hb dL_act_154 (by decide) ?_
    obtain ⟨r39, h39, h⟩ := ob h
    refine call_i (v := r39) (wc := ([] : va_W)) (wc' := ([] : va_W)) (ws' := (gBo bh bk v132.1 ++ (gS t (bk 0) nb v132.2.1 ++ (gE t (bk 2) eb v132.2.2.1 ++ (gQ t (bk 3) sa ++ (g6 t sa sb v132.2.2.2.1)))))) (cutB (bs := [gBo bh bk v132.1, gS t (bk 0) nb v132.2.1, gE t (bk 2) eb v132.2.2.1, gQ t (bk 3) sa, g6 t sa sb v132.2.2.2.1]) (cs := []) (cs' := []) (bs' := [gBo bh bk v132.1, gS t (bk 0) nb v132.2.1, gE t (bk 2) eb v132.2.2.1, gQ t (bk 3) sa, g6 t sa sb v132.2.2.2.1]) [] hP hD hS hA rfl rfl rfl rfl) hS (fun hPc hDc => va_runS (As := [.int (v132.2.2.2.2.1 >>> (5 &&& 31)), .int 51]) (rest := [.int (v132.2.2.2.2.2.2 + r38), .int v132.2.2.2.2.2.2, .int v132.2.2.2.2.2.1, .ref bh]) ⟨hx, hb, hml, hown, hts⟩ (mtL_low l D t (v132.2.2.2.2.1 >>> (5 &&& 31)) 51 r39 h39 _) (va_cwS 2 hts (gBS kw72 kw73 kw69 kw74) rfl rfl rfl (by decide +kernel) ⟨Nat.le_of_ble_eq_true rfl, Nat.le_of_ble_eq_true rfl⟩) (sPc_S hPc hK hDc hE) rfl rfl hl.1 rfl (lv_room (Nat.le_of_ble_eq_true rfl)) dL_act_156 ⟨Nat.zero_le _, Nat.zero_le _⟩) (fun H locs hP hD hS => ?_)
    obtain ⟨r40, h40, h⟩ := tq_r h
    refine call_i (v := r40.1) (wc := (gBo bh bk v132.1 ++ (gS t (bk 0) nb v132.2.1 ++ (gQ t (bk 3) sa ++ (g6 t sa sb v132.2.2.2.1))))) (wc' := (gBo bh bk r40.2.1 ++ (gS t (bk 0) nb r40.2.2.1 ++ (gQ t (bk 3) sa ++ (g6 t sa sb r40.2.2.2))))) (ws' := (gBo bh bk r40.2.1 ++ (gS t (bk 0) nb r40.2.2.1 ++ (gE t (bk 2) eb v132.2.2.1 ++ (gQ t (bk 3) sa ++ (g6 t sa sb r40.2.2.2)))))) (cutB (bs := [gBo bh bk v132.1, gS t (bk 0) nb v132.2.1, gE t (bk 2) eb v132.2.2.1, gQ t (bk 3) sa, g6 t sa sb v132.2.2.2.1]) (cs := [gBo bh bk v132.1, gS t (bk 0) nb v132.2.1, gQ t (bk 3) sa, g6 t sa sb v132.2.2.2.1]) (cs' := [gBo bh bk r40.2.1, gS t (bk 0) nb r40.2.2.1, gQ t (bk 3) sa, g6 t sa sb r40.2.2.2]) (bs' := [gBo bh bk r40.2.1, gS t (bk 0) nb r40.2.2.1, gE t (bk 2) eb v132.2.2.1, gQ t (bk 3) sa, g6 t sa sb r40.2.2.2]) [0, 1, 3, 4] hP hD hS hA rfl rfl rfl rfl) hS (fun hPc hDc => va_runV (As := [.int v132.2.2.2.2.2.1, .int v132.2.2.2.2.2.2, .int (v132.2.2.2.2.2.2 + r38), .int r39]) (rest := []) ⟨hx, hb, hml, hown, hts⟩ (mtX2_drag l D t bh bk v132.1 nb v132.2.1 sa sb v132.2.2.2.1 v132.2.2.2.2.2.1 v132.2.2.2.2.2.2 (v132.2.2.2.2.2.2 + r38) r39 r40 h40 _) (cwV 4 hts (gBV kw211 kw212 kw213 kw2 kw214) rfl rfl rfl (by decide +kernel) ⟨Nat.le_of_ble_eq_true rfl, Nat.le_of_ble_eq_true rfl⟩) (sPc_V hPc hK hDc hE (va_recv hK hP (ci := 2) (q0 := 0) rfl rfl)) rfl rfl hl.1 rfl (lv_room (Nat.le_of_ble_eq_true rfl)) dL_act_159 ⟨Nat.zero_le _, Nat.zero_le _⟩) (fun H locs hP hD hS => ?_)
    obtain rfl := os h
    refine W.widen (k := 1) (n := 6) (by omega) (by omega) ?_
    exact ret_i hx hb hr hlocks hP hK hD hS dL_act_162
  have J116 : ∀ v116 : BoT × ShT × ExT × (Nat → ShT) × Int32 × Int32, fL_act_j116 L xs v116 = some out → ∀ (H : Heap) (locs : List Loc), va_P D vwCl (gBo bh bk v116.1 ++ (gS t (bk 0) nb v116.2.1 ++ (gE t (bk 2) eb v116.2.2.1 ++ (gQ t (bk 3) sa ++ (g6 t sa sb v116.2.2.2.1))))) H → va_D A (gBo bh bk v116.1 ++ (gS t (bk 0) nb v116.2.1 ++ (gE t (bk 2) eb v116.2.2.1 ++ (gQ t (bk 3) sa ++ (g6 t sa sb v116.2.2.2.1))))) → va_S A s.heap H locs → ∀ ls : Array Slot, lv_has ls 7 [(0, .ref bh), (4, .int v116.2.2.2.2.1), (5, .int v116.2.2.2.2.2)] → W p l e ({ frames := 8, cells := 1, slots := 6, locals := 139 }) s m args below meth c H locs 0 0 (MQ below (qI D t (gBo bh bk out.2.1 ++ (gS t (bk 0) nb out.2.2.1 ++ (gE t (bk 2) eb out.2.2.2.1 ++ (gQ t (bk 3) sa ++ (g6 t sa sb out.2.2.2.2))))) out.1 A) args s 1 6 A) (F0 m 116 ls []) := by
    intro v116 h H locs hP hD hS ls hl
    unfold fL_act_j116 at h
    refine lv_aload_n hx hb dL_act_116 rfl (lv_at hl 0 rfl) ?_
    refine lv_iload hx hb dL_act_117 (lv_at hl 2 rfl) ?_
    refine lv_iconst (v := 1) hx hb dL_act_119 (by decide) ?_
    refine lv_iload hx hb dL_act_120 (lv_at hl 1 rfl) ?_
    refine lv_bipush (v := 99) hx hb dL_act_122 (by decide) ?_
    obtain ⟨r36, h36, h⟩ := ob h
    refine call_i (v := r36) (wc := ([] : va_W)) (wc' := ([] : va_W)) (ws' := (gBo bh bk v116.1 ++ (gS t (bk 0) nb v116.2.1 ++ (gE t (bk 2) eb v116.2.2.1 ++ (gQ t (bk 3) sa ++ (g6 t sa sb v116.2.2.2.1)))))) (cutB (bs := [gBo bh bk v116.1, gS t (bk 0) nb v116.2.1, gE t (bk 2) eb v116.2.2.1, gQ t (bk 3) sa, g6 t sa sb v116.2.2.2.1]) (cs := []) (cs' := []) (bs' := [gBo bh bk v116.1, gS t (bk 0) nb v116.2.1, gE t (bk 2) eb v116.2.2.1, gQ t (bk 3) sa, g6 t sa sb v116.2.2.2.1]) [] hP hD hS hA rfl rfl rfl rfl) hS (fun hPc hDc => va_runS (As := [.int v116.2.2.2.2.1, .int 99]) (rest := [.int 1, .int v116.2.2.2.2.2, .ref bh]) ⟨hx, hb, hml, hown, hts⟩ (mtL_low l D t v116.2.2.2.2.1 99 r36 h36 _) (va_cwS 2 hts (gBS kw72 kw73 kw69 kw74) rfl rfl rfl (by decide +kernel) ⟨Nat.le_of_ble_eq_true rfl, Nat.le_of_ble_eq_true rfl⟩) (sPc_S hPc hK hDc hE) rfl rfl hl.1 rfl (lv_room (Nat.le_of_ble_eq_true rfl)) dL_act_124 ⟨Nat.zero_le _, Nat.zero_le _⟩) (fun H locs hP hD hS => ?_)
    refine lv_iadd hx hb dL_act_127 ?_
    obtain ⟨r37, h37, h⟩ := tq_r h
    refine call_i (v := r37.1) (wc := (gBo bh bk v116.1 ++ (gS t (bk 0) nb v116.2.1 ++ (gQ t (bk 3) sa ++ (g6 t sa sb v116.2.2.2.1))))) (wc' := (gBo bh bk r37.2.1 ++ (gS t (bk 0) nb r37.2.2.1 ++ (gQ t (bk 3) sa ++ (g6 t sa sb r37.2.2.2))))) (ws' := (gBo bh bk r37.2.1 ++ (gS t (bk 0) nb r37.2.2.1 ++ (gE t (bk 2) eb v116.2.2.1 ++ (gQ t (bk 3) sa ++ (g6 t sa sb r37.2.2.2)))))) (cutB (bs := [gBo bh bk v116.1, gS t (bk 0) nb v116.2.1, gE t (bk 2) eb v116.2.2.1, gQ t (bk 3) sa, g6 t sa sb v116.2.2.2.1]) (cs := [gBo bh bk v116.1, gS t (bk 0) nb v116.2.1, gQ t (bk 3) sa, g6 t sa sb v116.2.2.2.1]) (cs' := [gBo bh bk r37.2.1, gS t (bk 0) nb r37.2.2.1, gQ t (bk 3) sa, g6 t sa sb r37.2.2.2]) (bs' := [gBo bh bk r37.2.1, gS t (bk 0) nb r37.2.2.1, gE t (bk 2) eb v116.2.2.1, gQ t (bk 3) sa, g6 t sa sb r37.2.2.2]) [0, 1, 3, 4] hP hD hS hA rfl rfl rfl rfl) hS (fun hPc hDc => va_runV (As := [.int v116.2.2.2.2.2, .int (1 + r36)]) (rest := []) ⟨hx, hb, hml, hown, hts⟩ (mtX2_wind l D t bh bk v116.1 nb v116.2.1 sa sb v116.2.2.2.1 v116.2.2.2.2.2 (1 + r36) r37 h37 _) (cwV 2 hts (gBV kw197 kw198 kw199 kw2 kw200) rfl rfl rfl (by decide +kernel) ⟨Nat.le_of_ble_eq_true rfl, Nat.le_of_ble_eq_true rfl⟩) (sPc_V hPc hK hDc hE (va_recv hK hP (ci := 2) (q0 := 0) rfl rfl)) rfl rfl hl.1 rfl (lv_room (Nat.le_of_ble_eq_true rfl)) dL_act_128 ⟨Nat.zero_le _, Nat.zero_le _⟩) (fun H locs hP hD hS => ?_)
    obtain rfl := os h
    refine W.widen (k := 1) (n := 6) (by omega) (by omega) ?_
    exact ret_i hx hb hr hlocks hP hK hD hS dL_act_131
  refine lv_aload_n hx hb dL_act_0 rfl (lv_at hl 1 rfl) ?_
  refine lv_iload_n hx hb dL_act_1 rfl (lv_at hl 2 rfl) ?_
  refine lv_iconst (v := 1) hx hb dL_act_2 (by decide) ?_
  refine lv_iadd hx hb dL_act_3 ?_
  obtain ⟨r1, h1, h⟩ := ob h
  refine call_y (v := r1) (wc := ([] : va_W)) (wc' := ([] : va_W)) (ws' := (gBo bh bk bo ++ (gS t (bk 0) nb now ++ (gE t (bk 2) eb ex ++ (gQ t (bk 3) sa ++ (g6 t sa sb sv)))))) (cutB (bs := [gBo bh bk bo, gS t (bk 0) nb now, gE t (bk 2) eb ex, gQ t (bk 3) sa, g6 t sa sb sv]) (cs := []) (cs' := []) (bs' := [gBo bh bk bo, gS t (bk 0) nb now, gE t (bk 2) eb ex, gQ t (bk 3) sa, g6 t sa sb sv]) [] hP hD hS hA rfl rfl rfl rfl) hS (fun hPc hDc hAB => va_runS (As := [.ref b, .int (i + 1)]) (rest := []) ⟨hx, hb, hml, hown, hts⟩ (mtL_cell l D t (i + 1) b L xs r1 h1 _) (va_cwS 2 hts (gBS kw67 kw68 kw69 kw70) rfl rfl rfl (by decide +kernel) ⟨Nat.le_of_ble_eq_true rfl, Nat.le_of_ble_eq_true rfl⟩) (yPc_S hPc hK hDc hE hX hS hAB hXs hbl hbA) rfl rfl hl.1 rfl (lv_room (Nat.le_of_ble_eq_true rfl)) dL_act_4 ⟨Nat.zero_le _, Nat.zero_le _⟩) (fun H locs hP hD hS => ?_)
  refine lv_istore_n (lv' := [(3, .int r1), (0, .ref bh), (1, .ref b), (2, .int i)]) hx hb dL_act_7 rfl hl (by decide) rfl (fun ls hl => ?_)
  refine lv_aload_n hx hb dL_act_8 rfl (lv_at hl 2 rfl) ?_
  refine lv_iload_n hx hb dL_act_9 rfl (lv_at hl 3 rfl) ?_
  refine lv_iconst (v := 2) hx hb dL_act_10 (by decide) ?_
  refine lv_iadd hx hb dL_act_11 ?_
  obtain ⟨r2, h2, h⟩ := ob h
  refine call_y (v := r2) (wc := ([] : va_W)) (wc' := ([] : va_W)) (ws' := (gBo bh bk bo ++ (gS t (bk 0) nb now ++ (gE t (bk 2) eb ex ++ (gQ t (bk 3) sa ++ (g6 t sa sb sv)))))) (cutB (bs := [gBo bh bk bo, gS t (bk 0) nb now, gE t (bk 2) eb ex, gQ t (bk 3) sa, g6 t sa sb sv]) (cs := []) (cs' := []) (bs' := [gBo bh bk bo, gS t (bk 0) nb now, gE t (bk 2) eb ex, gQ t (bk 3) sa, g6 t sa sb sv]) [] hP hD hS hA rfl rfl rfl rfl) hS (fun hPc hDc hAB => va_runS (As := [.ref b, .int (i + 2)]) (rest := []) ⟨hx, hb, hml, hown, hts⟩ (mtL_cell l D t (i + 2) b L xs r2 h2 _) (va_cwS 2 hts (gBS kw67 kw68 kw69 kw70) rfl rfl rfl (by decide +kernel) ⟨Nat.le_of_ble_eq_true rfl, Nat.le_of_ble_eq_true rfl⟩) (yPc_S hPc hK hDc hE hX hS hAB hXs hbl hbA) rfl rfl hl.1 rfl (lv_room (Nat.le_of_ble_eq_true rfl)) dL_act_12 ⟨Nat.zero_le _, Nat.zero_le _⟩) (fun H locs hP hD hS => ?_)
  refine lv_istore (lv' := [(4, .int r2), (3, .int r1), (0, .ref bh), (1, .ref b), (2, .int i)]) hx hb dL_act_15 hl (by decide) rfl (fun ls hl => ?_)
  refine lv_iload_n hx hb dL_act_17 rfl (lv_at hl 1 rfl) ?_
  refine lv_iconst (v := 2) hx hb dL_act_18 (by decide) ?_
  obtain ⟨r3, h3, h⟩ := ob h
  refine call_i (v := r3) (wc := ([] : va_W)) (wc' := ([] : va_W)) (ws' := (gBo bh bk bo ++ (gS t (bk 0) nb now ++ (gE t (bk 2) eb ex ++ (gQ t (bk 3) sa ++ (g6 t sa sb sv)))))) (cutB (bs := [gBo bh bk bo, gS t (bk 0) nb now, gE t (bk 2) eb ex, gQ t (bk 3) sa, g6 t sa sb sv]) (cs := []) (cs' := []) (bs' := [gBo bh bk bo, gS t (bk 0) nb now, gE t (bk 2) eb ex, gQ t (bk 3) sa, g6 t sa sb sv]) [] hP hD hS hA rfl rfl rfl rfl) hS (fun hPc hDc => va_runS (As := [.int r1, .int 2]) (rest := []) ⟨hx, hb, hml, hown, hts⟩ (mtL_low l D t r1 2 r3 h3 _) (va_cwS 2 hts (gBS kw72 kw73 kw69 kw74) rfl rfl rfl (by decide +kernel) ⟨Nat.le_of_ble_eq_true rfl, Nat.le_of_ble_eq_true rfl⟩) (sPc_S hPc hK hDc hE) rfl rfl hl.1 rfl (lv_room (Nat.le_of_ble_eq_true rfl)) dL_act_19 ⟨Nat.zero_le _, Nat.zero_le _⟩) (fun H locs hP hD hS => ?_)
  refine lv_istore (lv' := [(5, .int r3), (4, .int r2), (3, .int r1), (0, .ref bh), (1, .ref b), (2, .int i)]) hx hb dL_act_22 hl (by decide) rfl (fun ls hl => ?_)
  refine lv_iload_n hx hb dL_act_24 rfl (lv_at hl 2 rfl) ?_
  refine lv_iconst (v := 2) hx hb dL_act_25 (by decide) ?_
  refine lv_ishr hx hb dL_act_26 ?_
  refine lv_bipush (v := 24) hx hb dL_act_27 (by decide) ?_
  obtain ⟨r4, h4, h⟩ := ob h
  refine call_i (v := r4) (wc := ([] : va_W)) (wc' := ([] : va_W)) (ws' := (gBo bh bk bo ++ (gS t (bk 0) nb now ++ (gE t (bk 2) eb ex ++ (gQ t (bk 3) sa ++ (g6 t sa sb sv)))))) (cutB (bs := [gBo bh bk bo, gS t (bk 0) nb now, gE t (bk 2) eb ex, gQ t (bk 3) sa, g6 t sa sb sv]) (cs := []) (cs' := []) (bs' := [gBo bh bk bo, gS t (bk 0) nb now, gE t (bk 2) eb ex, gQ t (bk 3) sa, g6 t sa sb sv]) [] hP hD hS hA rfl rfl rfl rfl) hS (fun hPc hDc => va_runS (As := [.int (r1 >>> (2 &&& 31)), .int 24]) (rest := []) ⟨hx, hb, hml, hown, hts⟩ (mtL_low l D t (r1 >>> (2 &&& 31)) 24 r4 h4 _) (va_cwS 2 hts (gBS kw72 kw73 kw69 kw74) rfl rfl rfl (by decide +kernel) ⟨Nat.le_of_ble_eq_true rfl, Nat.le_of_ble_eq_true rfl⟩) (sPc_S hPc hK hDc hE) rfl rfl hl.1 rfl (lv_room (Nat.le_of_ble_eq_true rfl)) dL_act_29 ⟨Nat.zero_le _, Nat.zero_le _⟩) (fun H locs hP hD hS => ?_)
  refine lv_istore (lv' := [(6, .int r4), (5, .int r3), (4, .int r2), (3, .int r1), (0, .ref bh), (1, .ref b), (2, .int i)]) hx hb dL_act_32 hl (by decide) rfl (fun ls hl => ?_)
  refine lv_aload_n hx hb dL_act_34 rfl (lv_at hl 5 rfl) ?_
  refine lv_iload_n hx hb dL_act_35 rfl (lv_at hl 6 rfl) ?_
  obtain ⟨r5, h5, h⟩ := ob h
  refine call_y (v := r5) (wc := ([] : va_W)) (wc' := ([] : va_W)) (ws' := (gBo bh bk bo ++ (gS t (bk 0) nb now ++ (gE t (bk 2) eb ex ++ (gQ t (bk 3) sa ++ (g6 t sa sb sv)))))) (cutB (bs := [gBo bh bk bo, gS t (bk 0) nb now, gE t (bk 2) eb ex, gQ t (bk 3) sa, g6 t sa sb sv]) (cs := []) (cs' := []) (bs' := [gBo bh bk bo, gS t (bk 0) nb now, gE t (bk 2) eb ex, gQ t (bk 3) sa, g6 t sa sb sv]) [] hP hD hS hA rfl rfl rfl rfl) hS (fun hPc hDc hAB => va_runS (As := [.ref b, .int i]) (rest := []) ⟨hx, hb, hml, hown, hts⟩ (mtL_cell l D t i b L xs r5 h5 _) (va_cwS 2 hts (gBS kw67 kw68 kw69 kw70) rfl rfl rfl (by decide +kernel) ⟨Nat.le_of_ble_eq_true rfl, Nat.le_of_ble_eq_true rfl⟩) (yPc_S hPc hK hDc hE hX hS hAB hXs hbl hbA) rfl rfl hl.1 rfl (lv_room (Nat.le_of_ble_eq_true rfl)) dL_act_36 ⟨Nat.zero_le _, Nat.zero_le _⟩) (fun H locs hP hD hS => ?_)
  refine lv_bipush (v := 16) hx hb dL_act_39 (by decide) ?_
  obtain ⟨r6, h6, h⟩ := ob h
  refine call_i (v := r6) (wc := ([] : va_W)) (wc' := ([] : va_W)) (ws' := (gBo bh bk bo ++ (gS t (bk 0) nb now ++ (gE t (bk 2) eb ex ++ (gQ t (bk 3) sa ++ (g6 t sa sb sv)))))) (cutB (bs := [gBo bh bk bo, gS t (bk 0) nb now, gE t (bk 2) eb ex, gQ t (bk 3) sa, g6 t sa sb sv]) (cs := []) (cs' := []) (bs' := [gBo bh bk bo, gS t (bk 0) nb now, gE t (bk 2) eb ex, gQ t (bk 3) sa, g6 t sa sb sv]) [] hP hD hS hA rfl rfl rfl rfl) hS (fun hPc hDc => va_runS (As := [.int r5, .int 16]) (rest := []) ⟨hx, hb, hml, hown, hts⟩ (mtL_low l D t r5 16 r6 h6 _) (va_cwS 2 hts (gBS kw72 kw73 kw69 kw74) rfl rfl rfl (by decide +kernel) ⟨Nat.le_of_ble_eq_true rfl, Nat.le_of_ble_eq_true rfl⟩) (sPc_S hPc hK hDc hE) rfl rfl hl.1 rfl (lv_room (Nat.le_of_ble_eq_true rfl)) dL_act_41 ⟨Nat.zero_le _, Nat.zero_le _⟩) (fun H locs hP hD hS => ?_)
  by_cases c7 : r6 = 0
  · have h := it_p c7 h
    refine lv_tableIn (off := 72) (tgt := 116) hx hb dL_act_44 (by rw [c7]; decide) (by rw [c7]; decide) (by rw [c7]; rfl) (by decide) ?_
    exact J116 (bo, now, ex, sv, r2, r3) h _ _ hP hD hS _ (lv_sub hl [4, 2, 1] rfl)
  · have h := it_n c7 h
    by_cases c8 : r6 = 1
    · have h := it_p c8 h
      refine lv_tableIn (off := 72) (tgt := 116) hx hb dL_act_44 (by rw [c8]; decide) (by rw [c8]; decide) (by rw [c8]; rfl) (by decide) ?_
      exact J116 (bo, now, ex, sv, r2, r3) h _ _ hP hD hS _ (lv_sub hl [4, 2, 1] rfl)
    · have h := it_n c8 h
      by_cases c9 : r6 = 2
      · have h := it_p c9 h
        refine lv_tableIn (off := 88) (tgt := 132) hx hb dL_act_44 (by rw [c9]; decide) (by rw [c9]; decide) (by rw [c9]; rfl) (by decide) ?_
        exact J132 (bo, now, ex, sv, r2, r3, r4) h _ _ hP hD hS _ (lv_sub hl [4, 2, 1, 0] rfl)
      · have h := it_n c9 h
        by_cases c10 : r6 = 3
        · have h := it_p c10 h
          refine lv_tableIn (off := 88) (tgt := 132) hx hb dL_act_44 (by rw [c10]; decide) (by rw [c10]; decide) (by rw [c10]; rfl) (by decide) ?_
          exact J132 (bo, now, ex, sv, r2, r3, r4) h _ _ hP hD hS _ (lv_sub hl [4, 2, 1, 0] rfl)
        · have h := it_n c10 h
          by_cases c11 : r6 = 4
          · have h := it_p c11 h
            refine lv_tableIn (off := 88) (tgt := 132) hx hb dL_act_44 (by rw [c11]; decide) (by rw [c11]; decide) (by rw [c11]; rfl) (by decide) ?_
            exact J132 (bo, now, ex, sv, r2, r3, r4) h _ _ hP hD hS _ (lv_sub hl [4, 2, 1, 0] rfl)
          · have h := it_n c11 h
            by_cases c12 : r6 = 5
            · have h := it_p c12 h
              refine lv_tableIn (off := 119) (tgt := 163) hx hb dL_act_44 (by rw [c12]; decide) (by rw [c12]; decide) (by rw [c12]; rfl) (by decide) ?_
              refine lv_aload_n hx hb dL_act_163 rfl (lv_at hl 4 rfl) ?_
              refine lv_iload hx hb dL_act_164 (lv_at hl 1 rfl) ?_
              obtain ⟨r13, h13, h⟩ := tq_r h
              refine call_i (v := r13.1) (wc := (gBo bh bk bo ++ (gS t (bk 0) nb now ++ (gQ t (bk 3) sa ++ (g6 t sa sb sv))))) (wc' := (gBo bh bk r13.2.1 ++ (gS t (bk 0) nb r13.2.2.1 ++ (gQ t (bk 3) sa ++ (g6 t sa sb r13.2.2.2))))) (ws' := (gBo bh bk r13.2.1 ++ (gS t (bk 0) nb r13.2.2.1 ++ (gE t (bk 2) eb ex ++ (gQ t (bk 3) sa ++ (g6 t sa sb r13.2.2.2)))))) (cutB (bs := [gBo bh bk bo, gS t (bk 0) nb now, gE t (bk 2) eb ex, gQ t (bk 3) sa, g6 t sa sb sv]) (cs := [gBo bh bk bo, gS t (bk 0) nb now, gQ t (bk 3) sa, g6 t sa sb sv]) (cs' := [gBo bh bk r13.2.1, gS t (bk 0) nb r13.2.2.1, gQ t (bk 3) sa, g6 t sa sb r13.2.2.2]) (bs' := [gBo bh bk r13.2.1, gS t (bk 0) nb r13.2.2.1, gE t (bk 2) eb ex, gQ t (bk 3) sa, g6 t sa sb r13.2.2.2]) [0, 1, 3, 4] hP hD hS hA rfl rfl rfl rfl) hS (fun hPc hDc => va_runV (As := [.int r3]) (rest := []) ⟨hx, hb, hml, hown, hts⟩ (mtX2_clean l D t bh bk bo nb now sa sb sv r3 r13 h13 _) (cwV 1 hts (gBV kw216 kw217 kw218 kw2 kw219) rfl rfl rfl (by decide +kernel) ⟨Nat.le_of_ble_eq_true rfl, Nat.le_of_ble_eq_true rfl⟩) (sPc_V hPc hK hDc hE (va_recv hK hP (ci := 2) (q0 := 0) rfl rfl)) rfl rfl hl.1 rfl (lv_room (Nat.le_of_ble_eq_true rfl)) dL_act_166 ⟨Nat.zero_le _, Nat.zero_le _⟩) (fun H locs hP hD hS => ?_)
              obtain rfl := os h
              refine W.widen (k := 1) (n := 6) (by omega) (by omega) ?_
              exact ret_i hx hb hr hlocks hP hK hD hS dL_act_169
            · have h := it_n c12 h
              by_cases c14 : r6 = 6
              · have h := it_p c14 h
                refine lv_tableIn (off := 126) (tgt := 170) hx hb dL_act_44 (by rw [c14]; decide) (by rw [c14]; decide) (by rw [c14]; rfl) (by decide) ?_
                refine lv_aload_n hx hb dL_act_170 rfl (lv_at hl 4 rfl) ?_
                refine lv_iload_n hx hb dL_act_171 rfl (lv_at hl 3 rfl) ?_
                refine lv_bipush (v := 6) hx hb dL_act_172 (by decide) ?_
                obtain ⟨r15, h15, h⟩ := ob h
                refine call_i (v := r15) (wc := ([] : va_W)) (wc' := ([] : va_W)) (ws' := (gBo bh bk bo ++ (gS t (bk 0) nb now ++ (gE t (bk 2) eb ex ++ (gQ t (bk 3) sa ++ (g6 t sa sb sv)))))) (cutB (bs := [gBo bh bk bo, gS t (bk 0) nb now, gE t (bk 2) eb ex, gQ t (bk 3) sa, g6 t sa sb sv]) (cs := []) (cs' := []) (bs' := [gBo bh bk bo, gS t (bk 0) nb now, gE t (bk 2) eb ex, gQ t (bk 3) sa, g6 t sa sb sv]) [] hP hD hS hA rfl rfl rfl rfl) hS (fun hPc hDc => va_runS (As := [.int r1, .int 6]) (rest := [.ref bh]) ⟨hx, hb, hml, hown, hts⟩ (mtL_low l D t r1 6 r15 h15 _) (va_cwS 2 hts (gBS kw72 kw73 kw69 kw74) rfl rfl rfl (by decide +kernel) ⟨Nat.le_of_ble_eq_true rfl, Nat.le_of_ble_eq_true rfl⟩) (sPc_S hPc hK hDc hE) rfl rfl hl.1 rfl (lv_room (Nat.le_of_ble_eq_true rfl)) dL_act_174 ⟨Nat.zero_le _, Nat.zero_le _⟩) (fun H locs hP hD hS => ?_)
                refine lv_iload hx hb dL_act_177 (lv_at hl 2 rfl) ?_
                refine lv_bipush (v := 101) hx hb dL_act_179 (by decide) ?_
                obtain ⟨r16, h16, h⟩ := ob h
                refine call_i (v := r16) (wc := ([] : va_W)) (wc' := ([] : va_W)) (ws' := (gBo bh bk bo ++ (gS t (bk 0) nb now ++ (gE t (bk 2) eb ex ++ (gQ t (bk 3) sa ++ (g6 t sa sb sv)))))) (cutB (bs := [gBo bh bk bo, gS t (bk 0) nb now, gE t (bk 2) eb ex, gQ t (bk 3) sa, g6 t sa sb sv]) (cs := []) (cs' := []) (bs' := [gBo bh bk bo, gS t (bk 0) nb now, gE t (bk 2) eb ex, gQ t (bk 3) sa, g6 t sa sb sv]) [] hP hD hS hA rfl rfl rfl rfl) hS (fun hPc hDc => va_runS (As := [.int r2, .int 101]) (rest := [.int r15, .ref bh]) ⟨hx, hb, hml, hown, hts⟩ (mtL_low l D t r2 101 r16 h16 _) (va_cwS 2 hts (gBS kw72 kw73 kw69 kw74) rfl rfl rfl (by decide +kernel) ⟨Nat.le_of_ble_eq_true rfl, Nat.le_of_ble_eq_true rfl⟩) (sPc_S hPc hK hDc hE) rfl rfl hl.1 rfl (lv_room (Nat.le_of_ble_eq_true rfl)) dL_act_181 ⟨Nat.zero_le _, Nat.zero_le _⟩) (fun H locs hP hD hS => ?_)
                refine lv_bipush (v := 50) hx hb dL_act_184 (by decide) ?_
                refine lv_isub hx hb dL_act_186 ?_
                obtain ⟨r17, h17, h⟩ := tq_r h
                refine call_i (v := r17.1) (wc := (gBo bh bk bo ++ (gS t (bk 0) nb now ++ (gQ t (bk 3) sa ++ (g6 t sa sb sv))))) (wc' := (gBo bh bk r17.2.1 ++ (gS t (bk 0) nb r17.2.2.1 ++ (gQ t (bk 3) sa ++ (g6 t sa sb r17.2.2.2))))) (ws' := (gBo bh bk r17.2.1 ++ (gS t (bk 0) nb r17.2.2.1 ++ (gE t (bk 2) eb ex ++ (gQ t (bk 3) sa ++ (g6 t sa sb r17.2.2.2)))))) (cutB (bs := [gBo bh bk bo, gS t (bk 0) nb now, gE t (bk 2) eb ex, gQ t (bk 3) sa, g6 t sa sb sv]) (cs := [gBo bh bk bo, gS t (bk 0) nb now, gQ t (bk 3) sa, g6 t sa sb sv]) (cs' := [gBo bh bk r17.2.1, gS t (bk 0) nb r17.2.2.1, gQ t (bk 3) sa, g6 t sa sb r17.2.2.2]) (bs' := [gBo bh bk r17.2.1, gS t (bk 0) nb r17.2.2.1, gE t (bk 2) eb ex, gQ t (bk 3) sa, g6 t sa sb r17.2.2.2]) [0, 1, 3, 4] hP hD hS hA rfl rfl rfl rfl) hS (fun hPc hDc => va_runV (As := [.int r15, .int (r16 - 50)]) (rest := []) ⟨hx, hb, hml, hown, hts⟩ (mtX2_correct l D t bh bk bo nb now sa sb sv r15 (r16 - 50) r17 h17 _) (cwV 2 hts (gBV kw220 kw221 kw222 kw2 kw223) rfl rfl rfl (by decide +kernel) ⟨Nat.le_of_ble_eq_true rfl, Nat.le_of_ble_eq_true rfl⟩) (sPc_V hPc hK hDc hE (va_recv hK hP (ci := 2) (q0 := 0) rfl rfl)) rfl rfl hl.1 rfl (lv_room (Nat.le_of_ble_eq_true rfl)) dL_act_187 ⟨Nat.zero_le _, Nat.zero_le _⟩) (fun H locs hP hD hS => ?_)
                obtain rfl := os h
                refine W.widen (k := 1) (n := 6) (by omega) (by omega) ?_
                exact ret_i hx hb hr hlocks hP hK hD hS dL_act_190
              · have h := it_n c14 h
                by_cases c18 : r6 = 7
                · have h := it_p c18 h
                  refine lv_tableIn (off := 147) (tgt := 191) hx hb dL_act_44 (by rw [c18]; decide) (by rw [c18]; decide) (by rw [c18]; rfl) (by decide) ?_
                  refine lv_aload_n hx hb dL_act_191 rfl (lv_at hl 4 rfl) ?_
                  refine lv_iconst (v := 0) hx hb dL_act_192 (by decide) ?_
                  refine lv_iload hx hb dL_act_193 (lv_at hl 2 rfl) ?_
                  refine lv_bipush (v := 21) hx hb dL_act_195 (by decide) ?_
                  obtain ⟨r19, h19, h⟩ := ob h
                  refine call_i (v := r19) (wc := ([] : va_W)) (wc' := ([] : va_W)) (ws' := (gBo bh bk bo ++ (gS t (bk 0) nb now ++ (gE t (bk 2) eb ex ++ (gQ t (bk 3) sa ++ (g6 t sa sb sv)))))) (cutB (bs := [gBo bh bk bo, gS t (bk 0) nb now, gE t (bk 2) eb ex, gQ t (bk 3) sa, g6 t sa sb sv]) (cs := []) (cs' := []) (bs' := [gBo bh bk bo, gS t (bk 0) nb now, gE t (bk 2) eb ex, gQ t (bk 3) sa, g6 t sa sb sv]) [] hP hD hS hA rfl rfl rfl rfl) hS (fun hPc hDc => va_runS (As := [.int r2, .int 21]) (rest := [.int 0, .ref bh]) ⟨hx, hb, hml, hown, hts⟩ (mtL_low l D t r2 21 r19 h19 _) (va_cwS 2 hts (gBS kw72 kw73 kw69 kw74) rfl rfl rfl (by decide +kernel) ⟨Nat.le_of_ble_eq_true rfl, Nat.le_of_ble_eq_true rfl⟩) (sPc_S hPc hK hDc hE) rfl rfl hl.1 rfl (lv_room (Nat.le_of_ble_eq_true rfl)) dL_act_197 ⟨Nat.zero_le _, Nat.zero_le _⟩) (fun H locs hP hD hS => ?_)
                  obtain ⟨r20, h20, h⟩ := tq_r h
                  refine call_i (v := r20.1) (wc := (gBo bh bk bo ++ (gS t (bk 0) nb now ++ (gQ t (bk 3) sa ++ (g6 t sa sb sv))))) (wc' := (gBo bh bk r20.2.1 ++ (gS t (bk 0) nb r20.2.2.1 ++ (gQ t (bk 3) sa ++ (g6 t sa sb r20.2.2.2))))) (ws' := (gBo bh bk r20.2.1 ++ (gS t (bk 0) nb r20.2.2.1 ++ (gE t (bk 2) eb ex ++ (gQ t (bk 3) sa ++ (g6 t sa sb r20.2.2.2)))))) (cutB (bs := [gBo bh bk bo, gS t (bk 0) nb now, gE t (bk 2) eb ex, gQ t (bk 3) sa, g6 t sa sb sv]) (cs := [gBo bh bk bo, gS t (bk 0) nb now, gQ t (bk 3) sa, g6 t sa sb sv]) (cs' := [gBo bh bk r20.2.1, gS t (bk 0) nb r20.2.2.1, gQ t (bk 3) sa, g6 t sa sb r20.2.2.2]) (bs' := [gBo bh bk r20.2.1, gS t (bk 0) nb r20.2.2.1, gE t (bk 2) eb ex, gQ t (bk 3) sa, g6 t sa sb r20.2.2.2]) [0, 1, 3, 4] hP hD hS hA rfl rfl rfl rfl) hS (fun hPc hDc => va_runV (As := [.int 0, .int r19]) (rest := []) ⟨hx, hb, hml, hown, hts⟩ (mtX2_set l D t bh bk bo nb now sa sb sv 0 r19 r20 h20 _) (cwV 2 hts (gBV kw224 kw225 kw226 kw2 kw227) rfl rfl rfl (by decide +kernel) ⟨Nat.le_of_ble_eq_true rfl, Nat.le_of_ble_eq_true rfl⟩) (sPc_V hPc hK hDc hE (va_recv hK hP (ci := 2) (q0 := 0) rfl rfl)) rfl rfl hl.1 rfl (lv_room (Nat.le_of_ble_eq_true rfl)) dL_act_200 ⟨Nat.zero_le _, Nat.zero_le _⟩) (fun H locs hP hD hS => ?_)
                  obtain rfl := os h
                  refine W.widen (k := 1) (n := 6) (by omega) (by omega) ?_
                  exact ret_i hx hb hr hlocks hP hK hD hS dL_act_203
                · have h := it_n c18 h
                  by_cases c21 : r6 = 8
                  · have h := it_p c21 h
                    refine lv_tableIn (off := 160) (tgt := 204) hx hb dL_act_44 (by rw [c21]; decide) (by rw [c21]; decide) (by rw [c21]; rfl) (by decide) ?_
                    refine lv_iload_n hx hb dL_act_204 rfl (lv_at hl 3 rfl) ?_
                    refine lv_iconst (v := 2) hx hb dL_act_205 (by decide) ?_
                    obtain ⟨r22, h22, h⟩ := ob h
                    refine call_i (v := r22) (wc := ([] : va_W)) (wc' := ([] : va_W)) (ws' := (gBo bh bk bo ++ (gS t (bk 0) nb now ++ (gE t (bk 2) eb ex ++ (gQ t (bk 3) sa ++ (g6 t sa sb sv)))))) (cutB (bs := [gBo bh bk bo, gS t (bk 0) nb now, gE t (bk 2) eb ex, gQ t (bk 3) sa, g6 t sa sb sv]) (cs := []) (cs' := []) (bs' := [gBo bh bk bo, gS t (bk 0) nb now, gE t (bk 2) eb ex, gQ t (bk 3) sa, g6 t sa sb sv]) [] hP hD hS hA rfl rfl rfl rfl) hS (fun hPc hDc => va_runS (As := [.int r1, .int 2]) (rest := []) ⟨hx, hb, hml, hown, hts⟩ (mtL_low l D t r1 2 r22 h22 _) (va_cwS 2 hts (gBS kw72 kw73 kw69 kw74) rfl rfl rfl (by decide +kernel) ⟨Nat.le_of_ble_eq_true rfl, Nat.le_of_ble_eq_true rfl⟩) (sPc_S hPc hK hDc hE) rfl rfl hl.1 rfl (lv_room (Nat.le_of_ble_eq_true rfl)) dL_act_206 ⟨Nat.zero_le _, Nat.zero_le _⟩) (fun H locs hP hD hS => ?_)
                    refine lv_if_ne (tgt := 229) hx hb dL_act_209 (by decide) (fun c23 => ?_) (fun c23 => ?_)
                    · have h := it_n c23 h
                      refine lv_aload_n hx hb dL_act_229 rfl (lv_at hl 4 rfl) ?_
                      refine lv_iconst (v := 2) hx hb dL_act_230 (by decide) ?_
                      refine lv_iload hx hb dL_act_231 (lv_at hl 2 rfl) ?_
                      refine lv_sipush (v := 201) hx hb dL_act_233 (by decide) ?_
                      obtain ⟨r24, h24, h⟩ := ob h
                      refine call_i (v := r24) (wc := ([] : va_W)) (wc' := ([] : va_W)) (ws' := (gBo bh bk bo ++ (gS t (bk 0) nb now ++ (gE t (bk 2) eb ex ++ (gQ t (bk 3) sa ++ (g6 t sa sb sv)))))) (cutB (bs := [gBo bh bk bo, gS t (bk 0) nb now, gE t (bk 2) eb ex, gQ t (bk 3) sa, g6 t sa sb sv]) (cs := []) (cs' := []) (bs' := [gBo bh bk bo, gS t (bk 0) nb now, gE t (bk 2) eb ex, gQ t (bk 3) sa, g6 t sa sb sv]) [] hP hD hS hA rfl rfl rfl rfl) hS (fun hPc hDc => va_runS (As := [.int r2, .int 201]) (rest := [.int 2, .ref bh]) ⟨hx, hb, hml, hown, hts⟩ (mtL_low l D t r2 201 r24 h24 _) (va_cwS 2 hts (gBS kw72 kw73 kw69 kw74) rfl rfl rfl (by decide +kernel) ⟨Nat.le_of_ble_eq_true rfl, Nat.le_of_ble_eq_true rfl⟩) (sPc_S hPc hK hDc hE) rfl rfl hl.1 rfl (lv_room (Nat.le_of_ble_eq_true rfl)) dL_act_236 ⟨Nat.zero_le _, Nat.zero_le _⟩) (fun H locs hP hD hS => ?_)
                      obtain ⟨r25, h25, h⟩ := tq_r h
                      refine call_i (v := r25.1) (wc := (gBo bh bk bo ++ (gS t (bk 0) nb now ++ (gQ t (bk 3) sa ++ (g6 t sa sb sv))))) (wc' := (gBo bh bk r25.2.1 ++ (gS t (bk 0) nb r25.2.2.1 ++ (gQ t (bk 3) sa ++ (g6 t sa sb r25.2.2.2))))) (ws' := (gBo bh bk r25.2.1 ++ (gS t (bk 0) nb r25.2.2.1 ++ (gE t (bk 2) eb ex ++ (gQ t (bk 3) sa ++ (g6 t sa sb r25.2.2.2)))))) (cutB (bs := [gBo bh bk bo, gS t (bk 0) nb now, gE t (bk 2) eb ex, gQ t (bk 3) sa, g6 t sa sb sv]) (cs := [gBo bh bk bo, gS t (bk 0) nb now, gQ t (bk 3) sa, g6 t sa sb sv]) (cs' := [gBo bh bk r25.2.1, gS t (bk 0) nb r25.2.2.1, gQ t (bk 3) sa, g6 t sa sb r25.2.2.2]) (bs' := [gBo bh bk r25.2.1, gS t (bk 0) nb r25.2.2.1, gE t (bk 2) eb ex, gQ t (bk 3) sa, g6 t sa sb r25.2.2.2]) [0, 1, 3, 4] hP hD hS hA rfl rfl rfl rfl) hS (fun hPc hDc => va_runV (As := [.int 2, .int r24]) (rest := []) ⟨hx, hb, hml, hown, hts⟩ (mtX2_set l D t bh bk bo nb now sa sb sv 2 r24 r25 h25 _) (cwV 2 hts (gBV kw224 kw225 kw226 kw2 kw227) rfl rfl rfl (by decide +kernel) ⟨Nat.le_of_ble_eq_true rfl, Nat.le_of_ble_eq_true rfl⟩) (sPc_V hPc hK hDc hE (va_recv hK hP (ci := 2) (q0 := 0) rfl rfl)) rfl rfl hl.1 rfl (lv_room (Nat.le_of_ble_eq_true rfl)) dL_act_239 ⟨Nat.zero_le _, Nat.zero_le _⟩) (fun H locs hP hD hS => ?_)
                      obtain rfl := os h
                      refine W.widen (k := 1) (n := 6) (by omega) (by omega) ?_
                      exact ret_i hx hb hr hlocks hP hK hD hS dL_act_242
                    · have h := it_p c23 h
                      refine lv_aload_n hx hb dL_act_212 rfl (lv_at hl 4 rfl) ?_
                      refine lv_iconst (v := 1) hx hb dL_act_213 (by decide) ?_
                      refine lv_iconst (v := 1) hx hb dL_act_214 (by decide) ?_
                      refine lv_iload hx hb dL_act_215 (lv_at hl 2 rfl) ?_
                      refine lv_bipush (v := 99) hx hb dL_act_217 (by decide) ?_
                      obtain ⟨r26, h26, h⟩ := ob h
                      refine call_i (v := r26) (wc := ([] : va_W)) (wc' := ([] : va_W)) (ws' := (gBo bh bk bo ++ (gS t (bk 0) nb now ++ (gE t (bk 2) eb ex ++ (gQ t (bk 3) sa ++ (g6 t sa sb sv)))))) (cutB (bs := [gBo bh bk bo, gS t (bk 0) nb now, gE t (bk 2) eb ex, gQ t (bk 3) sa, g6 t sa sb sv]) (cs := []) (cs' := []) (bs' := [gBo bh bk bo, gS t (bk 0) nb now, gE t (bk 2) eb ex, gQ t (bk 3) sa, g6 t sa sb sv]) [] hP hD hS hA rfl rfl rfl rfl) hS (fun hPc hDc => va_runS (As := [.int r2, .int 99]) (rest := [.int 1, .int 1, .ref bh]) ⟨hx, hb, hml, hown, hts⟩ (mtL_low l D t r2 99 r26 h26 _) (va_cwS 2 hts (gBS kw72 kw73 kw69 kw74) rfl rfl rfl (by decide +kernel) ⟨Nat.le_of_ble_eq_true rfl, Nat.le_of_ble_eq_true rfl⟩) (sPc_S hPc hK hDc hE) rfl rfl hl.1 rfl (lv_room (Nat.le_of_ble_eq_true rfl)) dL_act_219 ⟨Nat.zero_le _, Nat.zero_le _⟩) (fun H locs hP hD hS => ?_)
                      refine lv_iadd hx hb dL_act_222 ?_
                      obtain ⟨r27, h27, h⟩ := tq_r h
                      refine call_i (v := r27.1) (wc := (gBo bh bk bo ++ (gS t (bk 0) nb now ++ (gQ t (bk 3) sa ++ (g6 t sa sb sv))))) (wc' := (gBo bh bk r27.2.1 ++ (gS t (bk 0) nb r27.2.2.1 ++ (gQ t (bk 3) sa ++ (g6 t sa sb r27.2.2.2))))) (ws' := (gBo bh bk r27.2.1 ++ (gS t (bk 0) nb r27.2.2.1 ++ (gE t (bk 2) eb ex ++ (gQ t (bk 3) sa ++ (g6 t sa sb r27.2.2.2)))))) (cutB (bs := [gBo bh bk bo, gS t (bk 0) nb now, gE t (bk 2) eb ex, gQ t (bk 3) sa, g6 t sa sb sv]) (cs := [gBo bh bk bo, gS t (bk 0) nb now, gQ t (bk 3) sa, g6 t sa sb sv]) (cs' := [gBo bh bk r27.2.1, gS t (bk 0) nb r27.2.2.1, gQ t (bk 3) sa, g6 t sa sb r27.2.2.2]) (bs' := [gBo bh bk r27.2.1, gS t (bk 0) nb r27.2.2.1, gE t (bk 2) eb ex, gQ t (bk 3) sa, g6 t sa sb r27.2.2.2]) [0, 1, 3, 4] hP hD hS hA rfl rfl rfl rfl) hS (fun hPc hDc => va_runV (As := [.int 1, .int (1 + r26)]) (rest := []) ⟨hx, hb, hml, hown, hts⟩ (mtX2_set l D t bh bk bo nb now sa sb sv 1 (1 + r26) r27 h27 _) (cwV 2 hts (gBV kw224 kw225 kw226 kw2 kw227) rfl rfl rfl (by decide +kernel) ⟨Nat.le_of_ble_eq_true rfl, Nat.le_of_ble_eq_true rfl⟩) (sPc_V hPc hK hDc hE (va_recv hK hP (ci := 2) (q0 := 0) rfl rfl)) rfl rfl hl.1 rfl (lv_room (Nat.le_of_ble_eq_true rfl)) dL_act_223 ⟨Nat.zero_le _, Nat.zero_le _⟩) (fun H locs hP hD hS => ?_)
                      refine lv_goto (tgt := 242) hx hb dL_act_226 (by decide) ?_
                      obtain rfl := os h
                      refine W.widen (k := 1) (n := 6) (by omega) (by omega) ?_
                      exact ret_i hx hb hr hlocks hP hK hD hS dL_act_242
                  · have h := it_n c21 h
                    by_cases c28 : r6 = 9
                    · have h := it_p c28 h
                      refine lv_tableIn (off := 199) (tgt := 243) hx hb dL_act_44 (by rw [c28]; decide) (by rw [c28]; decide) (by rw [c28]; rfl) (by decide) ?_
                      refine lv_aload_n hx hb dL_act_243 rfl (lv_at hl 4 rfl) ?_
                      refine lv_iconst (v := 3) hx hb dL_act_244 (by decide) ?_
                      refine lv_iconst (v := 1) hx hb dL_act_245 (by decide) ?_
                      refine lv_iload hx hb dL_act_246 (lv_at hl 2 rfl) ?_
                      refine lv_bipush (v := 30) hx hb dL_act_248 (by decide) ?_
                      obtain ⟨r29, h29, h⟩ := ob h
                      refine call_i (v := r29) (wc := ([] : va_W)) (wc' := ([] : va_W)) (ws' := (gBo bh bk bo ++ (gS t (bk 0) nb now ++ (gE t (bk 2) eb ex ++ (gQ t (bk 3) sa ++ (g6 t sa sb sv)))))) (cutB (bs := [gBo bh bk bo, gS t (bk 0) nb now, gE t (bk 2) eb ex, gQ t (bk 3) sa, g6 t sa sb sv]) (cs := []) (cs' := []) (bs' := [gBo bh bk bo, gS t (bk 0) nb now, gE t (bk 2) eb ex, gQ t (bk 3) sa, g6 t sa sb sv]) [] hP hD hS hA rfl rfl rfl rfl) hS (fun hPc hDc => va_runS (As := [.int r2, .int 30]) (rest := [.int 1, .int 3, .ref bh]) ⟨hx, hb, hml, hown, hts⟩ (mtL_low l D t r2 30 r29 h29 _) (va_cwS 2 hts (gBS kw72 kw73 kw69 kw74) rfl rfl rfl (by decide +kernel) ⟨Nat.le_of_ble_eq_true rfl, Nat.le_of_ble_eq_true rfl⟩) (sPc_S hPc hK hDc hE) rfl rfl hl.1 rfl (lv_room (Nat.le_of_ble_eq_true rfl)) dL_act_250 ⟨Nat.zero_le _, Nat.zero_le _⟩) (fun H locs hP hD hS => ?_)
                      refine lv_iadd hx hb dL_act_253 ?_
                      obtain ⟨r30, h30, h⟩ := tq_r h
                      refine call_i (v := r30.1) (wc := (gBo bh bk bo ++ (gS t (bk 0) nb now ++ (gQ t (bk 3) sa ++ (g6 t sa sb sv))))) (wc' := (gBo bh bk r30.2.1 ++ (gS t (bk 0) nb r30.2.2.1 ++ (gQ t (bk 3) sa ++ (g6 t sa sb r30.2.2.2))))) (ws' := (gBo bh bk r30.2.1 ++ (gS t (bk 0) nb r30.2.2.1 ++ (gE t (bk 2) eb ex ++ (gQ t (bk 3) sa ++ (g6 t sa sb r30.2.2.2)))))) (cutB (bs := [gBo bh bk bo, gS t (bk 0) nb now, gE t (bk 2) eb ex, gQ t (bk 3) sa, g6 t sa sb sv]) (cs := [gBo bh bk bo, gS t (bk 0) nb now, gQ t (bk 3) sa, g6 t sa sb sv]) (cs' := [gBo bh bk r30.2.1, gS t (bk 0) nb r30.2.2.1, gQ t (bk 3) sa, g6 t sa sb r30.2.2.2]) (bs' := [gBo bh bk r30.2.1, gS t (bk 0) nb r30.2.2.1, gE t (bk 2) eb ex, gQ t (bk 3) sa, g6 t sa sb r30.2.2.2]) [0, 1, 3, 4] hP hD hS hA rfl rfl rfl rfl) hS (fun hPc hDc => va_runV (As := [.int 3, .int (1 + r29)]) (rest := []) ⟨hx, hb, hml, hown, hts⟩ (mtX2_set l D t bh bk bo nb now sa sb sv 3 (1 + r29) r30 h30 _) (cwV 2 hts (gBV kw224 kw225 kw226 kw2 kw227) rfl rfl rfl (by decide +kernel) ⟨Nat.le_of_ble_eq_true rfl, Nat.le_of_ble_eq_true rfl⟩) (sPc_V hPc hK hDc hE (va_recv hK hP (ci := 2) (q0 := 0) rfl rfl)) rfl rfl hl.1 rfl (lv_room (Nat.le_of_ble_eq_true rfl)) dL_act_254 ⟨Nat.zero_le _, Nat.zero_le _⟩) (fun H locs hP hD hS => ?_)
                      obtain rfl := os h
                      refine W.widen (k := 1) (n := 6) (by omega) (by omega) ?_
                      exact ret_i hx hb hr hlocks hP hK hD hS dL_act_257
                    · have h := it_n c28 h
                      by_cases c31 : r6 = 10
                      · have h := it_p c31 h
                        refine lv_tableIn (off := 214) (tgt := 258) hx hb dL_act_44 (by rw [c31]; decide) (by rw [c31]; decide) (by rw [c31]; rfl) (by decide) ?_
                        exact J258 (bo, now, ex, sv, r1, r2) h _ _ hP hD hS _ (lv_sub hl [4, 3, 2] rfl)
                      · have h := it_n c31 h
                        by_cases c32 : r6 = 11
                        · have h := it_p c32 h
                          refine lv_tableIn (off := 214) (tgt := 258) hx hb dL_act_44 (by rw [c32]; decide) (by rw [c32]; decide) (by rw [c32]; rfl) (by decide) ?_
                          exact J258 (bo, now, ex, sv, r1, r2) h _ _ hP hD hS _ (lv_sub hl [4, 3, 2] rfl)
                        · have h := it_n c32 h
                          by_cases c33 : r6 = 12
                          · have h := it_p c33 h
                            refine lv_tableIn (off := 214) (tgt := 258) hx hb dL_act_44 (by rw [c33]; decide) (by rw [c33]; decide) (by rw [c33]; rfl) (by decide) ?_
                            exact J258 (bo, now, ex, sv, r1, r2) h _ _ hP hD hS _ (lv_sub hl [4, 3, 2] rfl)
                          · have h := it_n c33 h
                            by_cases c34 : r6 = 13
                            · have h := it_p c34 h
                              refine lv_tableIn (off := 214) (tgt := 258) hx hb dL_act_44 (by rw [c34]; decide) (by rw [c34]; decide) (by rw [c34]; rfl) (by decide) ?_
                              exact J258 (bo, now, ex, sv, r1, r2) h _ _ hP hD hS _ (lv_sub hl [4, 3, 2] rfl)
                            · have h := it_n c34 h
                              refine lv_tableOut (tgt := 278) hx hb dL_act_44 (tab_0_13 c7 c8 c9 c10 c11 c12 c14 c18 c21 c28 c31 c32 c33 c34) (by decide) ?_
                              refine lv_aload_n hx hb dL_act_278 rfl (lv_at hl 4 rfl) ?_
                              obtain ⟨r35, h35, h⟩ := ob h
                              refine call_w (v := r35.1) (wc := (gBo bh bk bo ++ (gS t (bk 0) nb now ++ (gQ t (bk 3) sa ++ (g6 t sa sb sv))))) (wc' := (gBo bh bk r35.2.1 ++ (gS t (bk 0) nb r35.2.2 ++ (gQ t (bk 3) sa ++ (g6 t sa sb sv))))) (ws' := (gBo bh bk r35.2.1 ++ (gS t (bk 0) nb r35.2.2 ++ (gE t (bk 2) eb ex ++ (gQ t (bk 3) sa ++ (g6 t sa sb sv)))))) (cutB (bs := [gBo bh bk bo, gS t (bk 0) nb now, gE t (bk 2) eb ex, gQ t (bk 3) sa, g6 t sa sb sv]) (cs := [gBo bh bk bo, gS t (bk 0) nb now, gQ t (bk 3) sa, g6 t sa sb sv]) (cs' := [gBo bh bk r35.2.1, gS t (bk 0) nb r35.2.2, gQ t (bk 3) sa, g6 t sa sb sv]) (bs' := [gBo bh bk r35.2.1, gS t (bk 0) nb r35.2.2, gE t (bk 2) eb ex, gQ t (bk 3) sa, g6 t sa sb sv]) [0, 1, 3, 4] hP hD hS hA rfl rfl rfl rfl) hS (fun hPc hDc hAB => vx_runSW (As := [.ref bh]) (rest := []) ⟨hx, hb, hml, hown, hts⟩ (mtL_undo l hfl D t bh bk bo nb now sa sb sv r35 h35 _) (vx_cwSW 1 hts (gBS kw242 kw243 kw69 kw244) rfl rfl rfl (by decide +kernel) ⟨Nat.le_of_ble_eq_true rfl, Nat.le_of_ble_eq_true rfl⟩) (xPc_S hPc hK hDc hE hX hS hAB) rfl rfl hl.1 rfl (lv_room (Nat.le_of_ble_eq_true rfl)) dL_act_279 ⟨Nat.le_of_ble_eq_true rfl, Nat.le_of_ble_eq_true rfl⟩) (fun H locs hP hD hS => ?_)
                              obtain rfl := os h
                              exact ret_i hx hb hr hlocks hP hK hD hS dL_act_282
