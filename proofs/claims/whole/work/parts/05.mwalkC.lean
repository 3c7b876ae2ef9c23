section KM
variable {p : Program} {l : Launch} {e : Env} {s : State} {m : MethodId} {args : Array Value} {below : List Frame} {meth : Method} {c : Code} {Z : State → Prop} {D : va_G} {cA : Nat → ClassId} {A : Nat → Prop} {ad : Nat → Nat}
def rmX7_agree : Room := { frames := 1, cells := 0, slots := 0, locals := 25 }
theorem inX7_agree : ∀ w ∈ wsX70, w ∈ wsX7_agree := fun w h => List.mem_cons_of_mem _ (List.mem_append_right _ h)
set_option maxHeartbeats 4000000 in
set_option maxRecDepth 100000 in
theorem kX7_agree_62 {n : Nat} {E89 : Int32 → Int32 → mM → Prop} (X : gX p s m args meth c D cA A cX7_agree 17 wsX7_agree RX7) (x1 : Int32) (x2 : Int32) (x3 : Int32) (x4 : Int32) (x5 : Int32) (x6 : Int32) (x7 : Int32) (x10 : Int32)
    (hE89 : ∀ (y8 : Int32) (y9 : Int32) (M : mM) (H : Heap) (locs : List Loc) (ls : Array Slot), E89 y8 y9 M → mH D cA ad A s.heap M H locs → lv_has ls 17 [(0, .ref (ad 0)), (1, .int x1), (2, .int x2), (3, .int x3), (4, .int x4), (5, .int x5), (6, .int x6), (7, .int x7), (8, .int y8), (9, .int y9), (10, .int x10)] → W p l e (headSpec wsX7_agree rmX7_agree).room s m args below meth c H locs 0 0 Z (F0 m 89 ls [])) :
    ∀ (k : Nat) (x8 : Int32) (x9 : Int32) (x11 : Int32) (M : mM) (H : Heap) (locs : List Loc) (ls : Array Slot), wpX7_agree_62 n E89 x1 x2 x3 x4 x5 x6 x7 x10 k x8 x9 x11 M → mH D cA ad A s.heap M H locs → lv_has ls 17 [(0, .ref (ad 0)), (1, .int x1), (2, .int x2), (3, .int x3), (4, .int x4), (5, .int x5), (6, .int x6), (7, .int x7), (8, .int x8), (9, .int x9), (10, .int x10), (11, .int x11)] → W p l e (headSpec wsX7_agree rmX7_agree).room s m args below meth c H locs 0 0 Z (F0 m 62 ls []) := by
  intro k
  induction k with
  | zero => intro x8 x9 x11 M H locs ls hw; exact hw.elim
  | succ k ih =>
    intro x8 x9 x11 M H locs ls hw h hl
    rw [wpX7_agree_62] at hw
    obtain ⟨hx, hb, hml, hown, hts, hK, hA⟩ := id X
    refine lv_iload hx hb dX7_agree_62 (lv_at hl 11 rfl) ?_
    refine lv_iload_n hx hb dX7_agree_64 rfl (lv_at hl 3 rfl) ?_
    refine lv_icmp_ge (tgt := 89) hx hb dX7_agree_65 (by decide) (fun c65 => ?_) (fun c65 => ?_)
    · have hw := hw.1 c65
      exact hE89 x8 x9 M _ _ ls hw h (lv_sub hl [0, 1, 2, 3, 4, 5, 6, 7, 8, 9, 10] rfl)
    · have hw := hw.2 c65
      refine lv_iload hx hb dX7_agree_68 (lv_at hl 8 rfl) ?_
      refine lv_istore (lv' := [(12, .int x8), (0, .ref (ad 0)), (1, .int x1), (2, .int x2), (3, .int x3), (4, .int x4), (5, .int x5), (6, .int x6), (7, .int x7), (8, .int x8), (9, .int x9), (10, .int x10), (11, .int x11)]) hx hb dX7_agree_70 hl (by decide) rfl (fun ls hl => ?_)
      refine lv_bipush (v := 23) hx hb dX7_agree_72 (by decide) ?_
      refine lv_iload hx hb dX7_agree_74 (lv_at hl 10 rfl) ?_
      refine lv_isub hx hb dX7_agree_76 ?_
      refine lv_topi (fun x8_77 ex8_77 => ?_)
      have hw := hw x8_77 ex8_77
      refine lv_istore (lv' := [(8, .int x8_77), (12, .int x8), (0, .ref (ad 0)), (1, .int x1), (2, .int x2), (3, .int x3), (4, .int x4), (5, .int x5), (6, .int x6), (7, .int x7), (9, .int x9), (10, .int x10), (11, .int x11)]) hx hb dX7_agree_77 hl (by decide) rfl (fun ls hl => ?_)
      refine lv_iload hx hb dX7_agree_79 (lv_at hl 1 rfl) ?_
      refine lv_istore (lv' := [(9, .int x8), (8, .int x8_77), (12, .int x8), (0, .ref (ad 0)), (1, .int x1), (2, .int x2), (3, .int x3), (4, .int x4), (5, .int x5), (6, .int x6), (7, .int x7), (10, .int x10), (11, .int x11)]) hx hb dX7_agree_81 hl (by decide) rfl (fun ls hl => ?_)
      obtain ⟨x11_83, ex11_83⟩ : ∃ z : Int32, z = x11 + 1 := ⟨_, rfl⟩
      have hw := hw x11_83 ex11_83
      refine lv_iinc (v := x11_83) (lv' := [(11, .int x11_83), (9, .int x8), (8, .int x8_77), (12, .int x8), (0, .ref (ad 0)), (1, .int x1), (2, .int x2), (3, .int x3), (4, .int x4), (5, .int x5), (6, .int x6), (7, .int x7), (10, .int x10)]) hx hb dX7_agree_83 hl (k := 12) rfl (by rw [ex11_83]; rfl) (by decide) rfl (fun ls hl => ?_)
      refine lv_goto (tgt := 62) hx hb dX7_agree_86 (by decide) ?_
      exact ih x8_77 x8 x11_83 M _ _ ls hw h (lv_sub hl [4, 5, 6, 7, 8, 9, 10, 11, 2, 1, 12, 0] rfl)
set_option maxHeartbeats 4000000 in
set_option maxRecDepth 100000 in
theorem kX7_agree_332 {n : Nat} {R : Int32 → Int32 → mM → Prop} (X : gX p s m args meth c D cA A cX7_agree 17 wsX7_agree RX7) (x1 : Int32) (x2 : Int32) (x3 : Int32) (x4 : Int32) (x5 : Int32) (x6 : Int32) (x7 : Int32) (x8 : Int32) (x9 : Int32) (x10 : Int32) (x12 : Int32)
    (hR : ∀ (y11 : Int32) (y12 : Int32) (M : mM) (H : Heap) (locs : List Loc) (ls : Array Slot), R y11 y12 M → mH D cA ad A s.heap M H locs → lv_has ls 17 [(0, .ref (ad 0)), (1, .int x1), (2, .int x2), (3, .int x3), (4, .int x4), (5, .int x5), (6, .int x6), (7, .int x7), (8, .int x8), (9, .int x9), (10, .int x10), (11, .int y11), (12, .int y12)] → W p l e (headSpec wsX7_agree rmX7_agree).room s m args below meth c H locs 0 0 Z (F0 m 132 ls [])) :
    ∀ (s0 : Int32) (M : mM) (H : Heap) (locs : List Loc) (ls : Array Slot), wpX7_agree_332 n R x1 x2 x3 x4 x5 x6 x7 x8 x9 x10 x12 s0 M → mH D cA ad A s.heap M H locs → lv_has ls 17 [(0, .ref (ad 0)), (1, .int x1), (2, .int x2), (3, .int x3), (4, .int x4), (5, .int x5), (6, .int x6), (7, .int x7), (8, .int x8), (9, .int x9), (10, .int x10), (12, .int x12)] → W p l e (headSpec wsX7_agree rmX7_agree).room s m args below meth c H locs 0 0 Z (F0 m 332 ls [.int s0]) := by
  intro s0 M H locs ls hw h hl
  unfold wpX7_agree_332 at hw
  obtain ⟨hx, hb, hml, hown, hts, hK, hA⟩ := id X
  refine lv_istore (lv' := [(11, .int s0), (0, .ref (ad 0)), (1, .int x1), (2, .int x2), (3, .int x3), (4, .int x4), (5, .int x5), (6, .int x6), (7, .int x7), (8, .int x8), (9, .int x9), (10, .int x10), (12, .int x12)]) hx hb dX7_agree_332 hl (by decide) rfl (fun ls hl => ?_)
  obtain ⟨x12_334, ex12_334⟩ : ∃ z : Int32, z = x12 + 1 := ⟨_, rfl⟩
  have hw := hw x12_334 ex12_334
  refine lv_iinc (v := x12_334) (lv' := [(12, .int x12_334), (11, .int s0), (0, .ref (ad 0)), (1, .int x1), (2, .int x2), (3, .int x3), (4, .int x4), (5, .int x5), (6, .int x6), (7, .int x7), (8, .int x8), (9, .int x9), (10, .int x10)]) hx hb dX7_agree_334 hl (k := 12) rfl (by rw [ex12_334]; rfl) (by decide) rfl (fun ls hl => ?_)
  refine lv_goto (tgt := 132) hx hb dX7_agree_337 (by decide) ?_
  exact hR s0 x12_334 M _ _ ls hw h (lv_sub hl [2, 3, 4, 5, 6, 7, 8, 9, 10, 11, 12, 1, 0] rfl)
set_option maxHeartbeats 4000000 in
set_option maxRecDepth 100000 in
theorem kX7_agree_300 {n : Nat} {R : Int32 → Int32 → mM → Prop} (X : gX p s m args meth c D cA A cX7_agree 17 wsX7_agree RX7) (x1 : Int32) (x2 : Int32) (x3 : Int32) (x4 : Int32) (x5 : Int32) (x6 : Int32) (x7 : Int32) (x8 : Int32) (x9 : Int32) (x10 : Int32) (x11 : Int32) (x12 : Int32)
    (hR : ∀ (y11 : Int32) (y12 : Int32) (M : mM) (H : Heap) (locs : List Loc) (ls : Array Slot), R y11 y12 M → mH D cA ad A s.heap M H locs → lv_has ls 17 [(0, .ref (ad 0)), (1, .int x1), (2, .int x2), (3, .int x3), (4, .int x4), (5, .int x5), (6, .int x6), (7, .int x7), (8, .int x8), (9, .int x9), (10, .int x10), (11, .int y11), (12, .int y12)] → W p l e (headSpec wsX7_agree rmX7_agree).room s m args below meth c H locs 0 0 Z (F0 m 132 ls [])) :
    ∀ (s0 : Int32) (M : mM) (H : Heap) (locs : List Loc) (ls : Array Slot), wpX7_agree_300 n R x1 x2 x3 x4 x5 x6 x7 x8 x9 x10 x11 x12 s0 M → mH D cA ad A s.heap M H locs → lv_has ls 17 [(0, .ref (ad 0)), (1, .int x1), (2, .int x2), (3, .int x3), (4, .int x4), (5, .int x5), (6, .int x6), (7, .int x7), (8, .int x8), (9, .int x9), (10, .int x10), (11, .int x11), (12, .int x12)] → W p l e (headSpec wsX7_agree rmX7_agree).room s m args below meth c H locs 0 0 Z (F0 m 300 ls [.int s0]) := by
  intro s0 M H locs ls hw h hl
  unfold wpX7_agree_300 at hw
  obtain ⟨hx, hb, hml, hown, hts, hK, hA⟩ := id X
  refine lv_istore (lv' := [(16, .int s0), (0, .ref (ad 0)), (1, .int x1), (2, .int x2), (3, .int x3), (4, .int x4), (5, .int x5), (6, .int x6), (7, .int x7), (8, .int x8), (9, .int x9), (10, .int x10), (11, .int x11), (12, .int x12)]) hx hb dX7_agree_300 hl (by decide) rfl (fun ls hl => ?_)
  refine lv_aload_n hx hb dX7_agree_302 rfl (lv_at hl 1 rfl) ?_
  refine m_get X inX7_agree h 12 (by decide) (by decide +kernel) rfl rfl dX7_agree_303 ?_
  refine lv_bipush (v := 40) hx hb dX7_agree_306 (by decide) ?_
  refine lv_iload hx hb dX7_agree_308 (lv_at hl 8 rfl) ?_
  refine lv_imul hx hb dX7_agree_310 ?_
  refine lv_iload hx hb dX7_agree_311 (lv_at hl 13 rfl) ?_
  refine lv_iadd hx hb dX7_agree_313 ?_
  refine lv_iload hx hb dX7_agree_314 (lv_at hl 0 rfl) ?_
  obtain ⟨hk5, hw⟩ := hw
  obtain ⟨hk6, hw⟩ := hw
  refine m_zast X h 12 (by decide) (by decide) rfl (n := 1600) rfl hk5 hk6 dX7_agree_316 (fun M316 eM316 H locs h => ?_)
  have hw := hw M316 eM316
  refine lv_iload hx hb dX7_agree_317 (lv_at hl 12 rfl) ?_
  refine lv_if_ne (tgt := 327) hx hb dX7_agree_319 (by decide) (fun c319 => ?_) (fun c319 => ?_)
  · have hw := hw.1 c319
    refine lv_iconst (v := 1) hx hb dX7_agree_327 (by decide) ?_
    refine lv_goto (tgt := 332) hx hb dX7_agree_328 (by decide) ?_
    exact kX7_agree_332 X x1 x2 x3 x4 x5 x6 x7 x8 x9 x10 x12 hR 1 M316 _ _ ls hw h (lv_sub hl [1, 2, 3, 4, 5, 6, 7, 8, 9, 10, 11, 13] rfl)
  · have hw := hw.2 c319
    refine lv_iload hx hb dX7_agree_322 (lv_at hl 0 rfl) ?_
    refine lv_if_eq (tgt := 331) hx hb dX7_agree_324 (by decide) (fun c324 => ?_) (fun c324 => ?_)
    · have hw := hw.1 c324
      refine lv_iconst (v := 0) hx hb dX7_agree_331 (by decide) ?_
      exact kX7_agree_332 X x1 x2 x3 x4 x5 x6 x7 x8 x9 x10 x12 hR 0 M316 _ _ ls hw h (lv_sub hl [1, 2, 3, 4, 5, 6, 7, 8, 9, 10, 11, 13] rfl)
    · have hw := hw.2 c324
      refine lv_iconst (v := 1) hx hb dX7_agree_327 (by decide) ?_
      refine lv_goto (tgt := 332) hx hb dX7_agree_328 (by decide) ?_
      exact kX7_agree_332 X x1 x2 x3 x4 x5 x6 x7 x8 x9 x10 x12 hR 1 M316 _ _ ls hw h (lv_sub hl [1, 2, 3, 4, 5, 6, 7, 8, 9, 10, 11, 13] rfl)
set_option maxHeartbeats 4000000 in
set_option maxRecDepth 100000 in
theorem kX7_agree_222 {n : Nat} {R : Int32 → Int32 → mM → Prop} (X : gX p s m args meth c D cA A cX7_agree 17 wsX7_agree RX7) (x1 : Int32) (x2 : Int32) (x3 : Int32) (x4 : Int32) (x5 : Int32) (x6 : Int32) (x7 : Int32) (x8 : Int32) (x9 : Int32) (x10 : Int32) (x11 : Int32) (x12 : Int32)
    (hR : ∀ (y11 : Int32) (y12 : Int32) (M : mM) (H : Heap) (locs : List Loc) (ls : Array Slot), R y11 y12 M → mH D cA ad A s.heap M H locs → lv_has ls 17 [(0, .ref (ad 0)), (1, .int x1), (2, .int x2), (3, .int x3), (4, .int x4), (5, .int x5), (6, .int x6), (7, .int x7), (8, .int x8), (9, .int x9), (10, .int x10), (11, .int y11), (12, .int y12)] → W p l e (headSpec wsX7_agree rmX7_agree).room s m args below meth c H locs 0 0 Z (F0 m 132 ls [])) :
    ∀ (s0 : Int32) (M : mM) (H : Heap) (locs : List Loc) (ls : Array Slot), wpX7_agree_222 n R x1 x2 x3 x4 x5 x6 x7 x8 x9 x10 x11 x12 s0 M → mH D cA ad A s.heap M H locs → lv_has ls 17 [(0, .ref (ad 0)), (1, .int x1), (2, .int x2), (3, .int x3), (4, .int x4), (5, .int x5), (6, .int x6), (7, .int x7), (8, .int x8), (9, .int x9), (10, .int x10), (11, .int x11), (12, .int x12)] → W p l e (headSpec wsX7_agree rmX7_agree).room s m args below meth c H locs 0 0 Z (F0 m 222 ls [.int s0]) := by
  intro s0 M H locs ls hw h hl
  unfold wpX7_agree_222 at hw
  obtain ⟨hx, hb, hml, hown, hts, hK, hA⟩ := id X
  refine lv_istore (lv' := [(15, .int s0), (0, .ref (ad 0)), (1, .int x1), (2, .int x2), (3, .int x3), (4, .int x4), (5, .int x5), (6, .int x6), (7, .int x7), (8, .int x8), (9, .int x9), (10, .int x10), (11, .int x11), (12, .int x12)]) hx hb dX7_agree_222 hl (by decide) rfl (fun ls hl => ?_)
  refine lv_iload hx hb dX7_agree_224 (lv_at hl 0 rfl) ?_
  refine lv_if_eq (tgt := 299) hx hb dX7_agree_226 (by decide) (fun c226 => ?_) (fun c226 => ?_)
  · have hw := hw.1 c226
    refine lv_iconst (v := 0) hx hb dX7_agree_299 (by decide) ?_
    exact kX7_agree_300 X x1 x2 x3 x4 x5 x6 x7 x8 x9 x10 x11 x12 hR 0 M _ _ ls hw h (lv_sub hl [1, 2, 3, 4, 5, 6, 7, 8, 9, 10, 11, 12, 13] rfl)
  · have hw := hw.2 c226
    refine lv_aload_n hx hb dX7_agree_229 rfl (lv_at hl 1 rfl) ?_
    refine m_get X inX7_agree h 9 (by decide) (by decide +kernel) rfl rfl dX7_agree_230 ?_
    refine lv_bipush (v := 40) hx hb dX7_agree_233 (by decide) ?_
    refine lv_iload_n hx hb dX7_agree_235 rfl (lv_at hl 3 rfl) ?_
    refine lv_imul hx hb dX7_agree_236 ?_
    refine lv_iload hx hb dX7_agree_237 (lv_at hl 13 rfl) ?_
    refine lv_iadd hx hb dX7_agree_239 ?_
    obtain ⟨hk7, hw⟩ := hw
    refine m_iald X h 9 (by decide) (by decide) rfl (n := 640) rfl hk7 dX7_agree_240 ?_
    refine lv_iload hx hb dX7_agree_241 (lv_at hl 9 rfl) ?_
    refine lv_isub hx hb dX7_agree_243 ?_
    refine lv_i2l hx hb dX7_agree_244 rfl ?_
    refine lv_aload_n hx hb dX7_agree_245 rfl (lv_at hl 1 rfl) ?_
    refine m_get X inX7_agree h 4 (by decide) (by decide +kernel) rfl rfl dX7_agree_246 ?_
    refine lv_ineg hx hb dX7_agree_249 ?_
    refine lv_i2l hx hb dX7_agree_250 rfl ?_
    refine lv_aload_n hx hb dX7_agree_251 rfl (lv_at hl 1 rfl) ?_
    refine m_get X inX7_agree h 4 (by decide) (by decide +kernel) rfl rfl dX7_agree_252 ?_
    refine lv_i2l hx hb dX7_agree_255 rfl ?_
    refine m_callS (n := 3) X h (qX7_in l D cA n (((M 9 ((40 * x2) + x12).toNatClampNeg) - x8).toInt64) ((-(M 0 4)).toInt64) ((M 0 4).toInt64)) gX7_agree_X7_in hw hl.1 dX7_agree_256 rfl rfl rfl (by decide +kernel) ⟨Nat.le_of_ble_eq_true rfl, Nat.le_of_ble_eq_true rfl⟩ rfl rfl (Nat.le_of_ble_eq_true rfl) (fun r256 M256 H locs hw h => ?_)
    refine lv_if_eq (tgt := 299) hx hb dX7_agree_259 (by decide) (fun c259 => ?_) (fun c259 => ?_)
    · have hw := hw.1 c259
      refine lv_iconst (v := 0) hx hb dX7_agree_299 (by decide) ?_
      exact kX7_agree_300 X x1 x2 x3 x4 x5 x6 x7 x8 x9 x10 x11 x12 hR 0 M256 _ _ ls hw h (lv_sub hl [1, 2, 3, 4, 5, 6, 7, 8, 9, 10, 11, 12, 13] rfl)
    · have hw := hw.2 c259
      refine lv_aload_n hx hb dX7_agree_262 rfl (lv_at hl 1 rfl) ?_
      refine m_get X inX7_agree h 10 (by decide) (by decide +kernel) rfl rfl dX7_agree_263 ?_
      refine lv_bipush (v := 40) hx hb dX7_agree_266 (by decide) ?_
      refine lv_iload_n hx hb dX7_agree_268 rfl (lv_at hl 3 rfl) ?_
      refine lv_imul hx hb dX7_agree_269 ?_
      refine lv_iload hx hb dX7_agree_270 (lv_at hl 13 rfl) ?_
      refine lv_iadd hx hb dX7_agree_272 ?_
      refine m_iald X h 10 (by decide) (by decide) rfl (n := 640) rfl hk7 dX7_agree_273 ?_
      refine lv_iload hx hb dX7_agree_274 (lv_at hl 10 rfl) ?_
      refine lv_isub hx hb dX7_agree_276 ?_
      refine lv_i2l hx hb dX7_agree_277 rfl ?_
      refine lv_aload_n hx hb dX7_agree_278 rfl (lv_at hl 1 rfl) ?_
      refine m_get X inX7_agree h 4 (by decide) (by decide +kernel) rfl rfl dX7_agree_279 ?_
      refine lv_ineg hx hb dX7_agree_282 ?_
      refine lv_i2l hx hb dX7_agree_283 rfl ?_
      refine lv_aload_n hx hb dX7_agree_284 rfl (lv_at hl 1 rfl) ?_
      refine m_get X inX7_agree h 4 (by decide) (by decide +kernel) rfl rfl dX7_agree_285 ?_
      refine lv_i2l hx hb dX7_agree_288 rfl ?_
      refine m_callS (n := 3) X h (qX7_in l D cA n (((M256 10 ((40 * x2) + x12).toNatClampNeg) - x9).toInt64) ((-(M256 0 4)).toInt64) ((M256 0 4).toInt64)) gX7_agree_X7_in hw hl.1 dX7_agree_289 rfl rfl rfl (by decide +kernel) ⟨Nat.le_of_ble_eq_true rfl, Nat.le_of_ble_eq_true rfl⟩ rfl rfl (Nat.le_of_ble_eq_true rfl) (fun r289 M289 H locs hw h => ?_)
      refine lv_if_eq (tgt := 299) hx hb dX7_agree_292 (by decide) (fun c292 => ?_) (fun c292 => ?_)
      · have hw := hw.1 c292
        refine lv_iconst (v := 0) hx hb dX7_agree_299 (by decide) ?_
        exact kX7_agree_300 X x1 x2 x3 x4 x5 x6 x7 x8 x9 x10 x11 x12 hR 0 M289 _ _ ls hw h (lv_sub hl [1, 2, 3, 4, 5, 6, 7, 8, 9, 10, 11, 12, 13] rfl)
      · have hw := hw.2 c292
        refine lv_iconst (v := 1) hx hb dX7_agree_295 (by decide) ?_
        refine lv_goto (tgt := 300) hx hb dX7_agree_296 (by decide) ?_
        exact kX7_agree_300 X x1 x2 x3 x4 x5 x6 x7 x8 x9 x10 x11 x12 hR 1 M289 _ _ ls hw h (lv_sub hl [1, 2, 3, 4, 5, 6, 7, 8, 9, 10, 11, 12, 13] rfl)
set_option maxHeartbeats 4000000 in
set_option maxRecDepth 100000 in
theorem kX7_agree_184 {n : Nat} {R : Int32 → Int32 → mM → Prop} (X : gX p s m args meth c D cA A cX7_agree 17 wsX7_agree RX7) (x1 : Int32) (x2 : Int32) (x3 : Int32) (x4 : Int32) (x5 : Int32) (x6 : Int32) (x7 : Int32) (x8 : Int32) (x9 : Int32) (x10 : Int32) (x11 : Int32) (x12 : Int32) (x13 : Int32)
    (hR : ∀ (y11 : Int32) (y12 : Int32) (M : mM) (H : Heap) (locs : List Loc) (ls : Array Slot), R y11 y12 M → mH D cA ad A s.heap M H locs → lv_has ls 17 [(0, .ref (ad 0)), (1, .int x1), (2, .int x2), (3, .int x3), (4, .int x4), (5, .int x5), (6, .int x6), (7, .int x7), (8, .int x8), (9, .int x9), (10, .int x10), (11, .int y11), (12, .int y12)] → W p l e (headSpec wsX7_agree rmX7_agree).room s m args below meth c H locs 0 0 Z (F0 m 132 ls [])) :
    ∀ (M : mM) (H : Heap) (locs : List Loc) (ls : Array Slot), wpX7_agree_184 n R x1 x2 x3 x4 x5 x6 x7 x8 x9 x10 x11 x12 x13 M → mH D cA ad A s.heap M H locs → lv_has ls 17 [(0, .ref (ad 0)), (1, .int x1), (2, .int x2), (3, .int x3), (4, .int x4), (5, .int x5), (6, .int x6), (7, .int x7), (8, .int x8), (9, .int x9), (10, .int x10), (11, .int x11), (12, .int x12), (13, .int x13)] → W p l e (headSpec wsX7_agree rmX7_agree).room s m args below meth c H locs 0 0 Z (F0 m 184 ls []) := by
  intro M H locs ls hw h hl
  unfold wpX7_agree_184 at hw
  obtain ⟨hx, hb, hml, hown, hts, hK, hA⟩ := id X
  refine lv_iload hx hb dX7_agree_184 (lv_at hl 10 rfl) ?_
  refine lv_iload hx hb dX7_agree_186 (lv_at hl 13 rfl) ?_
  refine lv_icmp_ne (tgt := 195) hx hb dX7_agree_188 (by decide) (fun c188 => ?_) (fun c188 => ?_)
  · have hw := hw.1 c188
    refine lv_iconst (v := 0) hx hb dX7_agree_195 (by decide) ?_
    refine lv_goto (tgt := 222) hx hb dX7_agree_196 (by decide) ?_
    exact kX7_agree_222 X x1 x2 x3 x4 x5 x6 x7 x8 x9 x10 x11 x12 hR 0 M _ _ ls hw h (lv_sub hl [0, 1, 2, 3, 4, 5, 6, 7, 8, 9, 10, 11, 12] rfl)
  · have hw := hw.2 c188
    refine lv_iconst (v := 1) hx hb dX7_agree_191 (by decide) ?_
    refine lv_goto (tgt := 222) hx hb dX7_agree_192 (by decide) ?_
    exact kX7_agree_222 X x1 x2 x3 x4 x5 x6 x7 x8 x9 x10 x11 x12 hR 1 M _ _ ls hw h (lv_sub hl [0, 1, 2, 3, 4, 5, 6, 7, 8, 9, 10, 11, 12] rfl)
set_option maxHeartbeats 4000000 in
set_option maxRecDepth 100000 in
theorem kX7_agree_132 {n : Nat} {E340 : Int32 → mM → Prop} (X : gX p s m args meth c D cA A cX7_agree 17 wsX7_agree RX7) (x1 : Int32) (x2 : Int32) (x3 : Int32) (x4 : Int32) (x5 : Int32) (x6 : Int32) (x7 : Int32) (x8 : Int32) (x9 : Int32) (x10 : Int32)
    (hE340 : ∀ (y11 : Int32) (M : mM) (H : Heap) (locs : List Loc) (ls : Array Slot), E340 y11 M → mH D cA ad A s.heap M H locs → lv_has ls 17 [(0, .ref (ad 0)), (1, .int x1), (2, .int x2), (3, .int x3), (4, .int x4), (5, .int x5), (6, .int x6), (7, .int x7), (11, .int y11)] → W p l e (headSpec wsX7_agree rmX7_agree).room s m args below meth c H locs 0 0 Z (F0 m 340 ls [])) :
    ∀ (k : Nat) (x11 : Int32) (x12 : Int32) (M : mM) (H : Heap) (locs : List Loc) (ls : Array Slot), wpX7_agree_132 n E340 x1 x2 x3 x4 x5 x6 x7 x8 x9 x10 k x11 x12 M → mH D cA ad A s.heap M H locs → lv_has ls 17 [(0, .ref (ad 0)), (1, .int x1), (2, .int x2), (3, .int x3), (4, .int x4), (5, .int x5), (6, .int x6), (7, .int x7), (8, .int x8), (9, .int x9), (10, .int x10), (11, .int x11), (12, .int x12)] → W p l e (headSpec wsX7_agree rmX7_agree).room s m args below meth c H locs 0 0 Z (F0 m 132 ls []) := by
  intro k
  induction k with
  | zero => intro x11 x12 M H locs ls hw; exact hw.elim
  | succ k ih =>
    intro x11 x12 M H locs ls hw h hl
    rw [wpX7_agree_132] at hw
    obtain ⟨hx, hb, hml, hown, hts, hK, hA⟩ := id X
    refine lv_iload hx hb dX7_agree_132 (lv_at hl 12 rfl) ?_
    refine lv_aload_n hx hb dX7_agree_134 rfl (lv_at hl 0 rfl) ?_
    refine m_get X inX7_agree h 8 (by decide) (by decide +kernel) rfl rfl dX7_agree_135 ?_
    refine lv_iload_n hx hb dX7_agree_138 rfl (lv_at hl 2 rfl) ?_
    obtain ⟨hk3, hw⟩ := hw
    refine m_iald X h 8 (by decide) (by decide) rfl (n := 16) rfl hk3 dX7_agree_139 ?_
    refine lv_icmp_ge (tgt := 340) hx hb dX7_agree_140 (by decide) (fun c140 => ?_) (fun c140 => ?_)
    · have hw := hw.1 c140
      exact hE340 x11 M _ _ ls hw h (lv_sub hl [0, 1, 2, 3, 4, 5, 6, 7, 11] rfl)
    · have hw := hw.2 c140
      refine lv_aload_n hx hb dX7_agree_143 rfl (lv_at hl 0 rfl) ?_
      refine m_get X inX7_agree h 11 (by decide) (by decide +kernel) rfl rfl dX7_agree_144 ?_
      refine lv_bipush (v := 40) hx hb dX7_agree_147 (by decide) ?_
      refine lv_iload_n hx hb dX7_agree_149 rfl (lv_at hl 2 rfl) ?_
      refine lv_imul hx hb dX7_agree_150 ?_
      refine lv_iload hx hb dX7_agree_151 (lv_at hl 12 rfl) ?_
      refine lv_iadd hx hb dX7_agree_153 ?_
      obtain ⟨hk4, hw⟩ := hw
      refine m_iald X h 11 (by decide) (by decide) rfl (n := 640) rfl hk4 dX7_agree_154 ?_
      refine lv_topi (fun x13_155 ex13_155 => ?_)
      have hw := hw x13_155 ex13_155
      refine lv_istore (lv' := [(13, .int x13_155), (0, .ref (ad 0)), (1, .int x1), (2, .int x2), (3, .int x3), (4, .int x4), (5, .int x5), (6, .int x6), (7, .int x7), (8, .int x8), (9, .int x9), (10, .int x10), (11, .int x11), (12, .int x12)]) hx hb dX7_agree_155 hl (by decide) rfl (fun ls hl => ?_)
      refine lv_iload hx hb dX7_agree_157 (lv_at hl 0 rfl) ?_
      refine lv_iload hx hb dX7_agree_159 (lv_at hl 11 rfl) ?_
      refine lv_isub hx hb dX7_agree_161 ?_
      refine lv_bipush (v := 8) hx hb dX7_agree_162 (by decide) ?_
      refine lv_iadd hx hb dX7_agree_164 ?_
      refine lv_bipush (v := 8) hx hb dX7_agree_165 (by decide) ?_
      refine lv_irem hx hb dX7_agree_167 (by decide) ?_
      refine lv_topi (fun x14_168 ex14_168 => ?_)
      have hw := hw x14_168 ex14_168
      refine lv_istore (lv' := [(14, .int x14_168), (13, .int x13_155), (0, .ref (ad 0)), (1, .int x1), (2, .int x2), (3, .int x3), (4, .int x4), (5, .int x5), (6, .int x6), (7, .int x7), (8, .int x8), (9, .int x9), (10, .int x10), (11, .int x11), (12, .int x12)]) hx hb dX7_agree_168 hl (by decide) rfl (fun ls hl => ?_)
      refine lv_iload hx hb dX7_agree_170 (lv_at hl 12 rfl) ?_
      refine lv_bipush (v := 8) hx hb dX7_agree_172 (by decide) ?_
      refine lv_icmp_eq (tgt := 184) hx hb dX7_agree_174 (by decide) (fun c174 => ?_) (fun c174 => ?_)
      · have hw := hw.1 c174
        exact kX7_agree_184 X x1 x2 x3 x4 x5 x6 x7 x8 x9 x10 x11 x12 x13_155 ih M _ _ ls hw h (lv_sub hl [2, 3, 4, 5, 6, 7, 8, 9, 10, 11, 12, 13, 14, 1] rfl)
      · have hw := hw.2 c174
        refine lv_iload hx hb dX7_agree_177 (lv_at hl 1 rfl) ?_
        refine lv_bipush (v := 8) hx hb dX7_agree_179 (by decide) ?_
        refine lv_icmp_ne (tgt := 199) hx hb dX7_agree_181 (by decide) (fun c181 => ?_) (fun c181 => ?_)
        · have hw := hw.1 c181
          refine lv_iload hx hb dX7_agree_199 (lv_at hl 0 rfl) ?_
          refine lv_if_eq (tgt := 217) hx hb dX7_agree_201 (by decide) (fun c201 => ?_) (fun c201 => ?_)
          · have hw := hw.1 c201
            refine lv_iconst (v := 1) hx hb dX7_agree_217 (by decide) ?_
            refine lv_goto (tgt := 222) hx hb dX7_agree_218 (by decide) ?_
            exact kX7_agree_222 X x1 x2 x3 x4 x5 x6 x7 x8 x9 x10 x11 x12 ih 1 M _ _ ls hw h (lv_sub hl [2, 3, 4, 5, 6, 7, 8, 9, 10, 11, 12, 13, 14] rfl)
          · have hw := hw.2 c201
            refine lv_iload hx hb dX7_agree_204 (lv_at hl 0 rfl) ?_
            refine lv_iconst (v := 1) hx hb dX7_agree_206 (by decide) ?_
            refine lv_icmp_eq (tgt := 217) hx hb dX7_agree_207 (by decide) (fun c207 => ?_) (fun c207 => ?_)
            · have hw := hw.1 c207
              refine lv_iconst (v := 1) hx hb dX7_agree_217 (by decide) ?_
              refine lv_goto (tgt := 222) hx hb dX7_agree_218 (by decide) ?_
              exact kX7_agree_222 X x1 x2 x3 x4 x5 x6 x7 x8 x9 x10 x11 x12 ih 1 M _ _ ls hw h (lv_sub hl [2, 3, 4, 5, 6, 7, 8, 9, 10, 11, 12, 13, 14] rfl)
            · have hw := hw.2 c207
              refine lv_iload hx hb dX7_agree_210 (lv_at hl 0 rfl) ?_
              refine lv_bipush (v := 7) hx hb dX7_agree_212 (by decide) ?_
              refine lv_icmp_ne (tgt := 221) hx hb dX7_agree_214 (by decide) (fun c214 => ?_) (fun c214 => ?_)
              · have hw := hw.1 c214
                refine lv_iconst (v := 0) hx hb dX7_agree_221 (by decide) ?_
                exact kX7_agree_222 X x1 x2 x3 x4 x5 x6 x7 x8 x9 x10 x11 x12 ih 0 M _ _ ls hw h (lv_sub hl [2, 3, 4, 5, 6, 7, 8, 9, 10, 11, 12, 13, 14] rfl)
              · have hw := hw.2 c214
                refine lv_iconst (v := 1) hx hb dX7_agree_217 (by decide) ?_
                refine lv_goto (tgt := 222) hx hb dX7_agree_218 (by decide) ?_
                exact kX7_agree_222 X x1 x2 x3 x4 x5 x6 x7 x8 x9 x10 x11 x12 ih 1 M _ _ ls hw h (lv_sub hl [2, 3, 4, 5, 6, 7, 8, 9, 10, 11, 12, 13, 14] rfl)
        · have hw := hw.2 c181
          exact kX7_agree_184 X x1 x2 x3 x4 x5 x6 x7 x8 x9 x10 x11 x12 x13_155 ih M _ _ ls hw h (lv_sub hl [2, 3, 4, 5, 6, 7, 8, 9, 10, 11, 12, 13, 14, 1] rfl)
set_option maxHeartbeats 4000000 in
set_option maxRecDepth 100000 in
theorem kX7_agree_352 {n : Nat} {R : Int32 → Int32 → mM → Prop} (X : gX p s m args meth c D cA A cX7_agree 17 wsX7_agree RX7) (x1 : Int32) (x2 : Int32) (x3 : Int32) (x4 : Int32) (x5 : Int32) (x7 : Int32)
    (hR : ∀ (y6 : Int32) (y7 : Int32) (M : mM) (H : Heap) (locs : List Loc) (ls : Array Slot), R y6 y7 M → mH D cA ad A s.heap M H locs → lv_has ls 17 [(0, .ref (ad 0)), (1, .int x1), (2, .int x2), (3, .int x3), (4, .int x4), (5, .int x5), (6, .int y6), (7, .int y7)] → W p l e (headSpec wsX7_agree rmX7_agree).room s m args below meth c H locs 0 0 Z (F0 m 6 ls [])) :
    ∀ (s0 : Int32) (s1 : Int32) (M : mM) (H : Heap) (locs : List Loc) (ls : Array Slot), wpX7_agree_352 n R x1 x2 x3 x4 x5 x7 s0 s1 M → mH D cA ad A s.heap M H locs → lv_has ls 17 [(0, .ref (ad 0)), (1, .int x1), (2, .int x2), (3, .int x3), (4, .int x4), (5, .int x5), (7, .int x7)] → W p l e (headSpec wsX7_agree rmX7_agree).room s m args below meth c H locs 0 0 Z (F0 m 352 ls [.int s0, .int s1]) := by
  intro s0 s1 M H locs ls hw h hl
  unfold wpX7_agree_352 at hw
  obtain ⟨hx, hb, hml, hown, hts, hK, hA⟩ := id X
  refine lv_iadd hx hb dX7_agree_352 ?_
  refine lv_topi (fun x6_353 ex6_353 => ?_)
  have hw := hw x6_353 ex6_353
  refine lv_istore (lv' := [(6, .int x6_353), (0, .ref (ad 0)), (1, .int x1), (2, .int x2), (3, .int x3), (4, .int x4), (5, .int x5), (7, .int x7)]) hx hb dX7_agree_353 hl (by decide) rfl (fun ls hl => ?_)
  obtain ⟨x7_355, ex7_355⟩ : ∃ z : Int32, z = x7 + 1 := ⟨_, rfl⟩
  have hw := hw x7_355 ex7_355
  refine lv_iinc (v := x7_355) (lv' := [(7, .int x7_355), (6, .int x6_353), (0, .ref (ad 0)), (1, .int x1), (2, .int x2), (3, .int x3), (4, .int x4), (5, .int x5)]) hx hb dX7_agree_355 hl (k := 7) rfl (by rw [ex7_355]; rfl) (by decide) rfl (fun ls hl => ?_)
  refine lv_goto (tgt := 6) hx hb dX7_agree_358 (by decide) ?_
  exact hR x6_353 x7_355 M _ _ ls hw h (lv_sub hl [2, 3, 4, 5, 6, 7, 1, 0] rfl)
set_option maxHeartbeats 4000000 in
set_option maxRecDepth 100000 in
theorem kX7_agree_110 {n : Nat} {R : Int32 → Int32 → mM → Prop} (X : gX p s m args meth c D cA A cX7_agree 17 wsX7_agree RX7) (x1 : Int32) (x2 : Int32) (x3 : Int32) (x4 : Int32) (x5 : Int32) (x6 : Int32) (x7 : Int32) (x8 : Int32) (x9 : Int32)
    (hR : ∀ (y6 : Int32) (y7 : Int32) (M : mM) (H : Heap) (locs : List Loc) (ls : Array Slot), R y6 y7 M → mH D cA ad A s.heap M H locs → lv_has ls 17 [(0, .ref (ad 0)), (1, .int x1), (2, .int x2), (3, .int x3), (4, .int x4), (5, .int x5), (6, .int y6), (7, .int y7)] → W p l e (headSpec wsX7_agree rmX7_agree).room s m args below meth c H locs 0 0 Z (F0 m 6 ls [])) :
    ∀ (s0 : Int32) (M : mM) (H : Heap) (locs : List Loc) (ls : Array Slot), wpX7_agree_110 n R x1 x2 x3 x4 x5 x6 x7 x8 x9 s0 M → mH D cA ad A s.heap M H locs → lv_has ls 17 [(0, .ref (ad 0)), (1, .int x1), (2, .int x2), (3, .int x3), (4, .int x4), (5, .int x5), (6, .int x6), (7, .int x7), (8, .int x8), (9, .int x9)] → W p l e (headSpec wsX7_agree rmX7_agree).room s m args below meth c H locs 0 0 Z (F0 m 110 ls [.int s0]) := by
  intro s0 M H locs ls hw h hl
  unfold wpX7_agree_110 at hw
  obtain ⟨hx, hb, hml, hown, hts, hK, hA⟩ := id X
  refine lv_istore (lv' := [(10, .int s0), (0, .ref (ad 0)), (1, .int x1), (2, .int x2), (3, .int x3), (4, .int x4), (5, .int x5), (6, .int x6), (7, .int x7), (8, .int x8), (9, .int x9)]) hx hb dX7_agree_110 hl (by decide) rfl (fun ls hl => ?_)
  refine lv_iload hx hb dX7_agree_112 (lv_at hl 9 rfl) ?_
  refine lv_iload hx hb dX7_agree_114 (lv_at hl 5 rfl) ?_
  refine lv_iadd hx hb dX7_agree_116 ?_
  refine lv_topi (fun x8_117 ex8_117 => ?_)
  have hw := hw x8_117 ex8_117
  refine lv_istore (lv' := [(8, .int x8_117), (10, .int s0), (0, .ref (ad 0)), (1, .int x1), (2, .int x2), (3, .int x3), (4, .int x4), (5, .int x5), (6, .int x6), (7, .int x7), (9, .int x9)]) hx hb dX7_agree_117 hl (by decide) rfl (fun ls hl => ?_)
  refine lv_iload hx hb dX7_agree_119 (lv_at hl 10 rfl) ?_
  refine lv_iload hx hb dX7_agree_121 (lv_at hl 7 rfl) ?_
  refine lv_iadd hx hb dX7_agree_123 ?_
  refine lv_topi (fun x9_124 ex9_124 => ?_)
  have hw := hw x9_124 ex9_124
  refine lv_istore (lv' := [(9, .int x9_124), (8, .int x8_117), (10, .int s0), (0, .ref (ad 0)), (1, .int x1), (2, .int x2), (3, .int x3), (4, .int x4), (5, .int x5), (6, .int x6), (7, .int x7)]) hx hb dX7_agree_124 hl (by decide) rfl (fun ls hl => ?_)
  refine lv_iconst (v := 0) hx hb dX7_agree_126 (by decide) ?_
  refine lv_istore (lv' := [(11, .int 0), (9, .int x9_124), (8, .int x8_117), (10, .int s0), (0, .ref (ad 0)), (1, .int x1), (2, .int x2), (3, .int x3), (4, .int x4), (5, .int x5), (6, .int x6), (7, .int x7)]) hx hb dX7_agree_127 hl (by decide) rfl (fun ls hl => ?_)
  refine lv_iconst (v := 0) hx hb dX7_agree_129 (by decide) ?_
  refine lv_istore (lv' := [(12, .int 0), (11, .int 0), (9, .int x9_124), (8, .int x8_117), (10, .int s0), (0, .ref (ad 0)), (1, .int x1), (2, .int x2), (3, .int x3), (4, .int x4), (5, .int x5), (6, .int x6), (7, .int x7)]) hx hb dX7_agree_130 hl (by decide) rfl (fun ls hl => ?_)
  refine kX7_agree_132 X x1 x2 x3 x4 x5 x6 x7 x8_117 x9_124 s0 (fun y11_132 M_132 H locs ls hw h hl => ?_) n 0 0 M _ _ ls hw h (lv_sub hl [5, 6, 7, 8, 9, 10, 11, 12, 3, 2, 4, 1, 0] rfl)
  refine lv_iload hx hb dX7_agree_340 (lv_at hl 6 rfl) ?_
  refine lv_iload hx hb dX7_agree_342 (lv_at hl 8 rfl) ?_
  refine lv_if_eq (tgt := 351) hx hb dX7_agree_344 (by decide) (fun c344 => ?_) (fun c344 => ?_)
  · have hw := hw.1 c344
    refine lv_iconst (v := 0) hx hb dX7_agree_351 (by decide) ?_
    exact kX7_agree_352 X x1 x2 x3 x4 x5 x7 hR 0 x6 M_132 _ _ ls hw h (lv_sub hl [0, 1, 2, 3, 4, 5, 7] rfl)
  · have hw := hw.2 c344
    refine lv_iconst (v := 1) hx hb dX7_agree_347 (by decide) ?_
    refine lv_goto (tgt := 352) hx hb dX7_agree_348 (by decide) ?_
    exact kX7_agree_352 X x1 x2 x3 x4 x5 x7 hR 1 x6 M_132 _ _ ls hw h (lv_sub hl [0, 1, 2, 3, 4, 5, 7] rfl)
set_option maxHeartbeats 4000000 in
set_option maxRecDepth 100000 in
theorem kX7_agree_6 {n : Nat} {Q : Int32 → mM → Prop} (X : gX p s m args meth c D cA A cX7_agree 17 wsX7_agree RX7) (x1 : Int32) (x2 : Int32) (x3 : Int32) (x4 : Int32) (x5 : Int32)
    (hret : ∀ (r : Int32) (M : mM) (H : Heap) (locs : List Loc) (pc : Nat) (ls : Array Slot), Q r M → mH D cA ad A s.heap M H locs → decode cX7_agree pc = .ok (.ireturn, 1) → W p l e (headSpec wsX7_agree rmX7_agree).room s m args below meth c H locs 0 0 Z (F0 m pc ls [.int r])) :
    ∀ (k : Nat) (x6 : Int32) (x7 : Int32) (M : mM) (H : Heap) (locs : List Loc) (ls : Array Slot), wpX7_agree_6 n Q x1 x2 x3 x4 x5 k x6 x7 M → mH D cA ad A s.heap M H locs → lv_has ls 17 [(0, .ref (ad 0)), (1, .int x1), (2, .int x2), (3, .int x3), (4, .int x4), (5, .int x5), (6, .int x6), (7, .int x7)] → W p l e (headSpec wsX7_agree rmX7_agree).room s m args below meth c H locs 0 0 Z (F0 m 6 ls []) := by
  intro k
  induction k with
  | zero => intro x6 x7 M H locs ls hw; exact hw.elim
  | succ k ih =>
    intro x6 x7 M H locs ls hw h hl
    rw [wpX7_agree_6] at hw
    obtain ⟨hx, hb, hml, hown, hts, hK, hA⟩ := id X
    refine lv_iload hx hb dX7_agree_6 (lv_at hl 7 rfl) ?_
    refine lv_aload_n hx hb dX7_agree_8 rfl (lv_at hl 0 rfl) ?_
    refine m_get X inX7_agree h 8 (by decide) (by decide +kernel) rfl rfl dX7_agree_9 ?_
    refine lv_iload_n hx hb dX7_agree_12 rfl (lv_at hl 1 rfl) ?_
    obtain ⟨hk1, hw⟩ := hw
    refine m_iald X h 8 (by decide) (by decide) rfl (n := 16) rfl hk1 dX7_agree_13 ?_
    refine lv_icmp_ge (tgt := 361) hx hb dX7_agree_14 (by decide) (fun c14 => ?_) (fun c14 => ?_)
    · have hw := hw.1 c14
      refine lv_iload hx hb dX7_agree_361 (lv_at hl 6 rfl) ?_
      exact hret x6 M _ _ _ ls hw h dX7_agree_363
    · have hw := hw.2 c14
      refine lv_aload_n hx hb dX7_agree_17 rfl (lv_at hl 0 rfl) ?_
      refine m_get X inX7_agree h 9 (by decide) (by decide +kernel) rfl rfl dX7_agree_18 ?_
      refine lv_bipush (v := 40) hx hb dX7_agree_21 (by decide) ?_
      refine lv_iload_n hx hb dX7_agree_23 rfl (lv_at hl 1 rfl) ?_
      refine lv_imul hx hb dX7_agree_24 ?_
      refine lv_iload hx hb dX7_agree_25 (lv_at hl 7 rfl) ?_
      refine lv_iadd hx hb dX7_agree_27 ?_
      obtain ⟨hk2, hw⟩ := hw
      refine m_iald X h 9 (by decide) (by decide) rfl (n := 640) rfl hk2 dX7_agree_28 ?_
      refine lv_topi (fun x8_29 ex8_29 => ?_)
      have hw := hw x8_29 ex8_29
      refine lv_istore (lv' := [(8, .int x8_29), (0, .ref (ad 0)), (1, .int x1), (2, .int x2), (3, .int x3), (4, .int x4), (5, .int x5), (6, .int x6), (7, .int x7)]) hx hb dX7_agree_29 hl (by decide) rfl (fun ls hl => ?_)
      refine lv_aload_n hx hb dX7_agree_31 rfl (lv_at hl 1 rfl) ?_
      refine m_get X inX7_agree h 10 (by decide) (by decide +kernel) rfl rfl dX7_agree_32 ?_
      refine lv_bipush (v := 40) hx hb dX7_agree_35 (by decide) ?_
      refine lv_iload_n hx hb dX7_agree_37 rfl (lv_at hl 2 rfl) ?_
      refine lv_imul hx hb dX7_agree_38 ?_
      refine lv_iload hx hb dX7_agree_39 (lv_at hl 8 rfl) ?_
      refine lv_iadd hx hb dX7_agree_41 ?_
      refine m_iald X h 10 (by decide) (by decide) rfl (n := 640) rfl hk2 dX7_agree_42 ?_
      refine lv_topi (fun x9_43 ex9_43 => ?_)
      have hw := hw x9_43 ex9_43
      refine lv_istore (lv' := [(9, .int x9_43), (8, .int x8_29), (0, .ref (ad 0)), (1, .int x1), (2, .int x2), (3, .int x3), (4, .int x4), (5, .int x5), (6, .int x6), (7, .int x7)]) hx hb dX7_agree_43 hl (by decide) rfl (fun ls hl => ?_)
      refine lv_aload_n hx hb dX7_agree_45 rfl (lv_at hl 2 rfl) ?_
      refine m_get X inX7_agree h 11 (by decide) (by decide +kernel) rfl rfl dX7_agree_46 ?_
      refine lv_bipush (v := 40) hx hb dX7_agree_49 (by decide) ?_
      refine lv_iload_n hx hb dX7_agree_51 rfl (lv_at hl 3 rfl) ?_
      refine lv_imul hx hb dX7_agree_52 ?_
      refine lv_iload hx hb dX7_agree_53 (lv_at hl 9 rfl) ?_
      refine lv_iadd hx hb dX7_agree_55 ?_
      refine m_iald X h 11 (by decide) (by decide) rfl (n := 640) rfl hk2 dX7_agree_56 ?_
      refine lv_topi (fun x10_57 ex10_57 => ?_)
      have hw := hw x10_57 ex10_57
      refine lv_istore (lv' := [(10, .int x10_57), (9, .int x9_43), (8, .int x8_29), (0, .ref (ad 0)), (1, .int x1), (2, .int x2), (3, .int x3), (4, .int x4), (5, .int x5), (6, .int x6), (7, .int x7)]) hx hb dX7_agree_57 hl (by decide) rfl (fun ls hl => ?_)
      refine lv_iconst (v := 0) hx hb dX7_agree_59 (by decide) ?_
      refine lv_istore (lv' := [(11, .int 0), (10, .int x10_57), (9, .int x9_43), (8, .int x8_29), (0, .ref (ad 0)), (1, .int x1), (2, .int x2), (3, .int x3), (4, .int x4), (5, .int x5), (6, .int x6), (7, .int x7)]) hx hb dX7_agree_60 hl (by decide) rfl (fun ls hl => ?_)
      refine kX7_agree_62 X x1 x2 x3 x4 x5 x6 x7 x10_57 (fun y8_62 y9_62 M_62 H locs ls hw h hl => ?_) n x8_29 x9_43 0 M _ _ ls hw h (lv_sub hl [4, 5, 6, 7, 8, 9, 10, 11, 3, 2, 1, 0] rfl)
      refine lv_iload hx hb dX7_agree_89 (lv_at hl 10 rfl) ?_
      refine lv_bipush (v := 8) hx hb dX7_agree_91 (by decide) ?_
      refine lv_icmp_ne (tgt := 101) hx hb dX7_agree_93 (by decide) (fun c93 => ?_) (fun c93 => ?_)
      · have hw := hw.1 c93
        refine lv_iload hx hb dX7_agree_101 (lv_at hl 10 rfl) ?_
        refine lv_iconst (v := 2) hx hb dX7_agree_103 (by decide) ?_
        refine lv_iload_n hx hb dX7_agree_104 rfl (lv_at hl 3 rfl) ?_
        refine lv_imul hx hb dX7_agree_105 ?_
        refine lv_iadd hx hb dX7_agree_106 ?_
        refine lv_bipush (v := 8) hx hb dX7_agree_107 (by decide) ?_
        refine lv_irem hx hb dX7_agree_109 (by decide) ?_
        exact kX7_agree_110 X x1 x2 x3 x4 x5 x6 x7 y8_62 y9_62 ih ((x10_57 + (2 * x3)) - (x10_57 + (2 * x3)) / 8 * 8) M_62 _ _ ls hw h (lv_sub hl [0, 1, 2, 3, 4, 5, 6, 7, 8, 9] rfl)
      · have hw := hw.2 c93
        refine lv_bipush (v := 8) hx hb dX7_agree_96 (by decide) ?_
        refine lv_goto (tgt := 110) hx hb dX7_agree_98 (by decide) ?_
        exact kX7_agree_110 X x1 x2 x3 x4 x5 x6 x7 y8_62 y9_62 ih 8 M_62 _ _ ls hw h (lv_sub hl [0, 1, 2, 3, 4, 5, 6, 7, 8, 9] rfl)
set_option maxHeartbeats 4000000 in
set_option maxRecDepth 100000 in
theorem qX7_agree (l : Launch) (D : va_G) (cA : Nat → ClassId) (n : Nat) (x1 : Int32) (x2 : Int32) (x3 : Int32) (x4 : Int32) (x5 : Int32) : mMi l D cA yX7_agree wsX7_agree rmX7_agree (fun ad => [.ref (ad 0), .int x1, .int x2, .int x3, .int x4, .int x5]) (wpX7_agree n x1 x2 x3 x4 x5) := by
  intro ad sz M Q hw
  unfold wpX7_agree at hw
  refine m_enter (cc := cX7_agree) (maxL := 17) (ret := some .int) (own := RX7) (by decide) rfl rfl (Nat.le_of_ble_eq_true rfl) ?_
  intro p e s m args below meth c hsz X hr hlocks h ls hl
  have hret := @m_iret p l e (headSpec wsX7_agree rmX7_agree).room s m args below meth c cX7_agree D cA ad (va_A (mws cA ad M) sz) Q X.1 X.2.1 hr hlocks X.2.2.2.2.2.1
  obtain ⟨hx, hb, hml, hown, hts, hK, hA⟩ := id X
  have hl : lv_has ls 17 [(0, .ref (ad 0)), (1, .int x1), (2, .int x2), (3, .int x3), (4, .int x4), (5, .int x5)] := hl
  refine lv_iconst (v := 0) hx hb dX7_agree_0 (by decide) ?_
  refine lv_istore (lv' := [(6, .int 0), (0, .ref (ad 0)), (1, .int x1), (2, .int x2), (3, .int x3), (4, .int x4), (5, .int x5)]) hx hb dX7_agree_1 hl (by decide) rfl (fun ls hl => ?_)
  refine lv_iconst (v := 0) hx hb dX7_agree_3 (by decide) ?_
  refine lv_istore (lv' := [(7, .int 0), (6, .int 0), (0, .ref (ad 0)), (1, .int x1), (2, .int x2), (3, .int x3), (4, .int x4), (5, .int x5)]) hx hb dX7_agree_4 hl (by decide) rfl (fun ls hl => ?_)
  exact kX7_agree_6 X x1 x2 x3 x4 x5 hret n 0 0 M _ _ ls hw h (lv_sub hl [2, 3, 4, 5, 6, 7, 1, 0] rfl)
def rmX7_turnOver : Room := { frames := 0, cells := 0, slots := 0, locals := 0 }
theorem inX7_turnOver : ∀ w ∈ wsX70, w ∈ wsX7_turnOver := fun w h => List.mem_cons_of_mem _ (List.mem_append_right _ h)
set_option maxHeartbeats 4000000 in
set_option maxRecDepth 100000 in
theorem kX7_turnOver_50 {n : Nat} {R : Int32 → Int32 → mM → Prop} (X : gX p s m args meth c D cA A cX7_turnOver 8 wsX7_turnOver RX7) (x2 : Int32) (x3 : Int32) (x5 : Int32) (x7 : Int32)
    (hR : ∀ (y6 : Int32) (y7 : Int32) (M : mM) (H : Heap) (locs : List Loc) (ls : Array Slot), R y6 y7 M → mH D cA ad A s.heap M H locs → lv_has ls 8 [(0, .ref (ad 0)), (2, .int x2), (3, .int x3), (5, .int x5), (6, .int y6), (7, .int y7)] → W p l e (headSpec wsX7_turnOver rmX7_turnOver).room s m args below meth c H locs 0 0 Z (F0 m 24 ls [])) :
    ∀ (s0 : Int32) (M : mM) (H : Heap) (locs : List Loc) (ls : Array Slot), wpX7_turnOver_50 n R x2 x3 x5 x7 s0 M → mH D cA ad A s.heap M H locs → lv_has ls 8 [(0, .ref (ad 0)), (2, .int x2), (3, .int x3), (5, .int x5), (7, .int x7)] → W p l e (headSpec wsX7_turnOver rmX7_turnOver).room s m args below meth c H locs 0 0 Z (F0 m 50 ls [.int s0]) := by
  intro s0 M H locs ls hw h hl
  unfold wpX7_turnOver_50 at hw
  obtain ⟨hx, hb, hml, hown, hts, hK, hA⟩ := id X
  refine lv_istore (lv' := [(6, .int s0), (0, .ref (ad 0)), (2, .int x2), (3, .int x3), (5, .int x5), (7, .int x7)]) hx hb dX7_turnOver_50 hl (by decide) rfl (fun ls hl => ?_)
  obtain ⟨x7_52, ex7_52⟩ : ∃ z : Int32, z = x7 + 1 := ⟨_, rfl⟩
  have hw := hw x7_52 ex7_52
  refine lv_iinc (v := x7_52) (lv' := [(7, .int x7_52), (6, .int s0), (0, .ref (ad 0)), (2, .int x2), (3, .int x3), (5, .int x5)]) hx hb dX7_turnOver_52 hl (k := 5) rfl (by rw [ex7_52]; rfl) (by decide) rfl (fun ls hl => ?_)
  refine lv_goto (tgt := 24) hx hb dX7_turnOver_55 (by decide) ?_
  exact hR s0 x7_52 M _ _ ls hw h (lv_sub hl [2, 3, 4, 5, 1, 0] rfl)
set_option maxHeartbeats 4000000 in
set_option maxRecDepth 100000 in
theorem kX7_turnOver_24 {n : Nat} {E58 : Int32 → mM → Prop} (X : gX p s m args meth c D cA A cX7_turnOver 8 wsX7_turnOver RX7) (x2 : Int32) (x3 : Int32) (x5 : Int32)
    (hE58 : ∀ (y6 : Int32) (M : mM) (H : Heap) (locs : List Loc) (ls : Array Slot), E58 y6 M → mH D cA ad A s.heap M H locs → lv_has ls 8 [(0, .ref (ad 0)), (2, .int x2), (3, .int x3), (5, .int x5), (6, .int y6)] → W p l e (headSpec wsX7_turnOver rmX7_turnOver).room s m args below meth c H locs 0 0 Z (F0 m 58 ls [])) :
    ∀ (k : Nat) (x6 : Int32) (x7 : Int32) (M : mM) (H : Heap) (locs : List Loc) (ls : Array Slot), wpX7_turnOver_24 n E58 x2 x3 x5 k x6 x7 M → mH D cA ad A s.heap M H locs → lv_has ls 8 [(0, .ref (ad 0)), (2, .int x2), (3, .int x3), (5, .int x5), (6, .int x6), (7, .int x7)] → W p l e (headSpec wsX7_turnOver rmX7_turnOver).room s m args below meth c H locs 0 0 Z (F0 m 24 ls []) := by
  intro k
  induction k with
  | zero => intro x6 x7 M H locs ls hw; exact hw.elim
  | succ k ih =>
    intro x6 x7 M H locs ls hw h hl
    rw [wpX7_turnOver_24] at hw
    obtain ⟨hx, hb, hml, hown, hts, hK, hA⟩ := id X
    refine lv_iload hx hb dX7_turnOver_24 (lv_at hl 5 rfl) ?_
    refine lv_bipush (v := 40) hx hb dX7_turnOver_26 (by decide) ?_
    refine lv_icmp_ge (tgt := 58) hx hb dX7_turnOver_28 (by decide) (fun c28 => ?_) (fun c28 => ?_)
    · have hw := hw.1 c28
      exact hE58 x6 M _ _ ls hw h (lv_sub hl [0, 1, 2, 3, 4] rfl)
    · have hw := hw.2 c28
      refine lv_aload_n hx hb dX7_turnOver_31 rfl (lv_at hl 0 rfl) ?_
      refine m_get X inX7_turnOver h 13 (by decide) (by decide +kernel) rfl rfl dX7_turnOver_32 ?_
      refine lv_iload hx hb dX7_turnOver_35 (lv_at hl 5 rfl) ?_
      obtain ⟨hk2, hw⟩ := hw
      refine m_iald X h 13 (by decide) (by decide) rfl (n := 40) rfl hk2 dX7_turnOver_37 ?_
      refine lv_iload hx hb dX7_turnOver_38 (lv_at hl 3 rfl) ?_
      refine lv_icmp_ne (tgt := 48) hx hb dX7_turnOver_40 (by decide) (fun c40 => ?_) (fun c40 => ?_)
      · have hw := hw.1 c40
        refine lv_iload hx hb dX7_turnOver_48 (lv_at hl 4 rfl) ?_
        exact kX7_turnOver_50 X x2 x3 x5 x7 ih x6 M _ _ ls hw h (lv_sub hl [0, 1, 2, 3, 5] rfl)
      · have hw := hw.2 c40
        refine lv_iload hx hb dX7_turnOver_43 (lv_at hl 5 rfl) ?_
        refine lv_goto (tgt := 50) hx hb dX7_turnOver_45 (by decide) ?_
        exact kX7_turnOver_50 X x2 x3 x5 x7 ih x7 M _ _ ls hw h (lv_sub hl [0, 1, 2, 3, 5] rfl)
set_option maxHeartbeats 4000000 in
set_option maxRecDepth 100000 in
theorem kX7_turnOver_97 {n : Nat} {R : Int32 → Int32 → mM → Prop} (X : gX p s m args meth c D cA A cX7_turnOver 8 wsX7_turnOver RX7) (x2 : Int32) (x6 : Int32)
    (hR : ∀ (y3 : Int32) (y4 : Int32) (M : mM) (H : Heap) (locs : List Loc) (ls : Array Slot), R y3 y4 M → mH D cA ad A s.heap M H locs → lv_has ls 8 [(0, .ref (ad 0)), (2, .int x2), (3, .int y3), (4, .int y4)] → W p l e (headSpec wsX7_turnOver rmX7_turnOver).room s m args below meth c H locs 0 0 Z (F0 m 5 ls [])) :
    ∀ (s0 : Int32) (M : mM) (H : Heap) (locs : List Loc) (ls : Array Slot), wpX7_turnOver_97 n R x2 x6 s0 M → mH D cA ad A s.heap M H locs → lv_has ls 8 [(0, .ref (ad 0)), (2, .int x2), (6, .int x6)] → W p l e (headSpec wsX7_turnOver rmX7_turnOver).room s m args below meth c H locs 0 0 Z (F0 m 97 ls [.int s0]) := by
  intro s0 M H locs ls hw h hl
  unfold wpX7_turnOver_97 at hw
  obtain ⟨hx, hb, hml, hown, hts, hK, hA⟩ := id X
  refine lv_istore (lv' := [(4, .int s0), (0, .ref (ad 0)), (2, .int x2), (6, .int x6)]) hx hb dX7_turnOver_97 hl (by decide) rfl (fun ls hl => ?_)
  refine lv_iload hx hb dX7_turnOver_99 (lv_at hl 3 rfl) ?_
  refine lv_istore_n (lv' := [(3, .int x6), (4, .int s0), (0, .ref (ad 0)), (2, .int x2), (6, .int x6)]) hx hb dX7_turnOver_101 rfl hl (by decide) rfl (fun ls hl => ?_)
  refine lv_goto (tgt := 5) hx hb dX7_turnOver_102 (by decide) ?_
  exact hR x6 s0 M _ _ ls hw h (lv_sub hl [2, 3, 0, 1] rfl)
set_option maxHeartbeats 4000000 in
set_option maxRecDepth 100000 in
theorem kX7_turnOver_86 {n : Nat} {R : Int32 → Int32 → mM → Prop} (X : gX p s m args meth c D cA A cX7_turnOver 8 wsX7_turnOver RX7) (x2 : Int32) (x5 : Int32) (x6 : Int32)
    (hR : ∀ (y3 : Int32) (y4 : Int32) (M : mM) (H : Heap) (locs : List Loc) (ls : Array Slot), R y3 y4 M → mH D cA ad A s.heap M H locs → lv_has ls 8 [(0, .ref (ad 0)), (2, .int x2), (3, .int y3), (4, .int y4)] → W p l e (headSpec wsX7_turnOver rmX7_turnOver).room s m args below meth c H locs 0 0 Z (F0 m 5 ls [])) :
    ∀ (M : mM) (H : Heap) (locs : List Loc) (ls : Array Slot), wpX7_turnOver_86 n R x2 x5 x6 M → mH D cA ad A s.heap M H locs → lv_has ls 8 [(0, .ref (ad 0)), (2, .int x2), (5, .int x5), (6, .int x6)] → W p l e (headSpec wsX7_turnOver rmX7_turnOver).room s m args below meth c H locs 0 0 Z (F0 m 86 ls []) := by
  intro M H locs ls hw h hl
  unfold wpX7_turnOver_86 at hw
  obtain ⟨hx, hb, hml, hown, hts, hK, hA⟩ := id X
  refine lv_iload hx hb dX7_turnOver_86 (lv_at hl 2 rfl) ?_
  refine lv_iload_n hx hb dX7_turnOver_88 rfl (lv_at hl 1 rfl) ?_
  refine lv_icmp_eq (tgt := 96) hx hb dX7_turnOver_89 (by decide) (fun c89 => ?_) (fun c89 => ?_)
  · have hw := hw.1 c89
    refine lv_iconst (v := 0) hx hb dX7_turnOver_96 (by decide) ?_
    exact kX7_turnOver_97 X x2 x6 hR 0 M _ _ ls hw h (lv_sub hl [0, 1, 3] rfl)
  · have hw := hw.2 c89
    refine lv_iconst (v := 1) hx hb dX7_turnOver_92 (by decide) ?_
    refine lv_goto (tgt := 97) hx hb dX7_turnOver_93 (by decide) ?_
    exact kX7_turnOver_97 X x2 x6 hR 1 M _ _ ls hw h (lv_sub hl [0, 1, 3] rfl)
set_option maxHeartbeats 4000000 in
set_option maxRecDepth 100000 in
theorem kX7_turnOver_5 {n : Nat} {Q : mM → Prop} (X : gX p s m args meth c D cA A cX7_turnOver 8 wsX7_turnOver RX7) (x2 : Int32)
    (hret : ∀ (M : mM) (H : Heap) (locs : List Loc) (pc : Nat) (ls : Array Slot), Q M → mH D cA ad A s.heap M H locs → decode cX7_turnOver pc = .ok (.return_, 1) → W p l e (headSpec wsX7_turnOver rmX7_turnOver).room s m args below meth c H locs 0 0 Z (F0 m pc ls [])) :
    ∀ (k : Nat) (x3 : Int32) (x4 : Int32) (M : mM) (H : Heap) (locs : List Loc) (ls : Array Slot), wpX7_turnOver_5 n Q x2 k x3 x4 M → mH D cA ad A s.heap M H locs → lv_has ls 8 [(0, .ref (ad 0)), (2, .int x2), (3, .int x3), (4, .int x4)] → W p l e (headSpec wsX7_turnOver rmX7_turnOver).room s m args below meth c H locs 0 0 Z (F0 m 5 ls []) := by
  intro k
  induction k with
  | zero => intro x3 x4 M H locs ls hw; exact hw.elim
  | succ k ih =>
    intro x3 x4 M H locs ls hw h hl
    rw [wpX7_turnOver_5] at hw
    obtain ⟨hx, hb, hml, hown, hts, hK, hA⟩ := id X
    refine lv_iload hx hb dX7_turnOver_5 (lv_at hl 3 rfl) ?_
    refine lv_if_eq (tgt := 105) hx hb dX7_turnOver_7 (by decide) (fun c7 => ?_) (fun c7 => ?_)
    · have hw := hw.1 c7
      exact hret M _ _ _ ls hw h dX7_turnOver_105
    · have hw := hw.2 c7
      refine lv_aload_n hx hb dX7_turnOver_10 rfl (lv_at hl 0 rfl) ?_
      refine m_get X inX7_turnOver h 14 (by decide) (by decide +kernel) rfl rfl dX7_turnOver_11 ?_
      refine lv_iload_n hx hb dX7_turnOver_14 rfl (lv_at hl 2 rfl) ?_
      obtain ⟨hk1, hw⟩ := hw
      refine m_iald X h 14 (by decide) (by decide) rfl (n := 40) rfl hk1 dX7_turnOver_15 ?_
      refine lv_topi (fun x5_16 ex5_16 => ?_)
      have hw := hw x5_16 ex5_16
      refine lv_istore (lv' := [(5, .int x5_16), (0, .ref (ad 0)), (2, .int x2), (3, .int x3), (4, .int x4)]) hx hb dX7_turnOver_16 hl (by decide) rfl (fun ls hl => ?_)
      refine lv_iconst (v := (-1)) hx hb dX7_turnOver_18 (by decide) ?_
      refine lv_istore (lv' := [(6, .int (-1)), (5, .int x5_16), (0, .ref (ad 0)), (2, .int x2), (3, .int x3), (4, .int x4)]) hx hb dX7_turnOver_19 hl (by decide) rfl (fun ls hl => ?_)
      refine lv_iconst (v := 0) hx hb dX7_turnOver_21 (by decide) ?_
      refine lv_istore (lv' := [(7, .int 0), (6, .int (-1)), (5, .int x5_16), (0, .ref (ad 0)), (2, .int x2), (3, .int x3), (4, .int x4)]) hx hb dX7_turnOver_22 hl (by decide) rfl (fun ls hl => ?_)
      refine kX7_turnOver_24 X x2 x3 x5_16 (fun y6_24 M_24 H locs ls hw h hl => ?_) n (-1) 0 M _ _ ls hw h (lv_sub hl [3, 4, 5, 2, 1, 0] rfl)
      refine lv_aload_n hx hb dX7_turnOver_58 rfl (lv_at hl 0 rfl) ?_
      refine m_get X inX7_turnOver h 13 (by decide) (by decide +kernel) rfl rfl dX7_turnOver_59 ?_
      refine lv_iload_n hx hb dX7_turnOver_62 rfl (lv_at hl 2 rfl) ?_
      refine lv_iload hx hb dX7_turnOver_63 (lv_at hl 3 rfl) ?_
      obtain ⟨hk3, hw⟩ := hw
      refine m_iast X h 13 (by decide) (by decide) rfl (n := 40) rfl hk3 dX7_turnOver_65 (fun M65 eM65 H locs h => ?_)
      have hw := hw M65 eM65
      refine lv_iload hx hb dX7_turnOver_66 (lv_at hl 4 rfl) ?_
      refine lv_iconst (v := (-1)) hx hb dX7_turnOver_68 (by decide) ?_
      refine lv_icmp_eq (tgt := 86) hx hb dX7_turnOver_69 (by decide) (fun c69 => ?_) (fun c69 => ?_)
      · have hw := hw.1 c69
        exact kX7_turnOver_86 X x2 x5_16 y6_24 ih M65 _ _ ls hw h (lv_sub hl [0, 1, 3, 4] rfl)
      · have hw := hw.2 c69
        refine lv_iload hx hb dX7_turnOver_72 (lv_at hl 4 rfl) ?_
        refine lv_iload_n hx hb dX7_turnOver_74 rfl (lv_at hl 2 rfl) ?_
        refine lv_icmp_eq (tgt := 86) hx hb dX7_turnOver_75 (by decide) (fun c75 => ?_) (fun c75 => ?_)
        · have hw := hw.1 c75
          exact kX7_turnOver_86 X x2 x5_16 y6_24 ih M65 _ _ ls hw h (lv_sub hl [0, 1, 3, 4] rfl)
        · have hw := hw.2 c75
          refine lv_aload_n hx hb dX7_turnOver_78 rfl (lv_at hl 0 rfl) ?_
          refine m_get X inX7_turnOver h 13 (by decide) (by decide +kernel) rfl rfl dX7_turnOver_79 ?_
          refine lv_iload hx hb dX7_turnOver_82 (lv_at hl 4 rfl) ?_
          refine lv_iconst (v := (-1)) hx hb dX7_turnOver_84 (by decide) ?_
          obtain ⟨hk4, hw⟩ := hw
          refine m_iast X h 13 (by decide) (by decide) rfl (n := 40) rfl hk4 dX7_turnOver_85 (fun M85 eM85 H locs h => ?_)
          have hw := hw M85 eM85
          exact kX7_turnOver_86 X x2 x5_16 y6_24 ih M85 _ _ ls hw h (lv_sub hl [0, 1, 3, 4] rfl)
set_option maxHeartbeats 4000000 in
set_option maxRecDepth 100000 in
theorem qX7_turnOver (l : Launch) (D : va_G) (cA : Nat → ClassId) (n : Nat) (x1 : Int32) (x2 : Int32) : mMv l D cA yX7_turnOver wsX7_turnOver rmX7_turnOver (fun ad => [.ref (ad 0), .int x1, .int x2]) (wpX7_turnOver n x1 x2) := by
  intro ad sz M Q hw
  unfold wpX7_turnOver at hw
  refine m_enter (cc := cX7_turnOver) (maxL := 8) (ret := none) (own := RX7) (by decide) rfl rfl (Nat.le_of_ble_eq_true rfl) ?_
  intro p e s m args below meth c hsz X hr hlocks h ls hl
  have hret := @m_vret p l e (headSpec wsX7_turnOver rmX7_turnOver).room s m args below meth c cX7_turnOver D cA ad (va_A (mws cA ad M) sz) Q X.1 X.2.1 hr hlocks X.2.2.2.2.2.1
  obtain ⟨hx, hb, hml, hown, hts, hK, hA⟩ := id X
  have hl : lv_has ls 8 [(0, .ref (ad 0)), (1, .int x1), (2, .int x2)] := hl
  refine lv_iload_n hx hb dX7_turnOver_0 rfl (lv_at hl 1 rfl) ?_
  refine lv_istore_n (lv' := [(3, .int x1), (0, .ref (ad 0)), (1, .int x1), (2, .int x2)]) hx hb dX7_turnOver_1 rfl hl (by decide) rfl (fun ls hl => ?_)
  refine lv_iconst (v := 1) hx hb dX7_turnOver_2 (by decide) ?_
  refine lv_istore (lv' := [(4, .int 1), (3, .int x1), (0, .ref (ad 0)), (1, .int x1), (2, .int x2)]) hx hb dX7_turnOver_3 hl (by decide) rfl (fun ls hl => ?_)
  exact kX7_turnOver_5 X x2 hret n x1 1 M _ _ ls hw h (lv_sub hl [2, 4, 1, 0] rfl)
def rmX7_pair : Room := { frames := 1, cells := 0, slots := 0, locals := 27 }
theorem inX7_pair : ∀ w ∈ wsX70, w ∈ wsX7_pair := fun w h => List.mem_cons_of_mem _ (List.mem_append_right _ h)
set_option maxHeartbeats 4000000 in
set_option maxRecDepth 100000 in
theorem kX7_pair_2 {n : Nat} {E20 : mM → Prop} (X : gX p s m args meth c D cA A cX7_pair 7 wsX7_pair RX7) (x1 : Int32) (x2 : Int32)
    (hE20 : ∀ (M : mM) (H : Heap) (locs : List Loc) (ls : Array Slot), E20 M → mH D cA ad A s.heap M H locs → lv_has ls 7 [(0, .ref (ad 0)), (1, .int x1), (2, .int x2)] → W p l e (headSpec wsX7_pair rmX7_pair).room s m args below meth c H locs 0 0 Z (F0 m 20 ls [])) :
    ∀ (k : Nat) (x3 : Int32) (M : mM) (H : Heap) (locs : List Loc) (ls : Array Slot), wpX7_pair_2 n E20 x1 x2 k x3 M → mH D cA ad A s.heap M H locs → lv_has ls 7 [(0, .ref (ad 0)), (1, .int x1), (2, .int x2), (3, .int x3)] → W p l e (headSpec wsX7_pair rmX7_pair).room s m args below meth c H locs 0 0 Z (F0 m 2 ls []) := by
  intro k
  induction k with
  | zero => intro x3 M H locs ls hw; exact hw.elim
  | succ k ih =>
    intro x3 M H locs ls hw h hl
    rw [wpX7_pair_2] at hw
    obtain ⟨hx, hb, hml, hown, hts, hK, hA⟩ := id X
    refine lv_iload_n hx hb dX7_pair_2 rfl (lv_at hl 3 rfl) ?_
    refine lv_iload_n hx hb dX7_pair_3 rfl (lv_at hl 2 rfl) ?_
    refine lv_icmp_ge (tgt := 20) hx hb dX7_pair_4 (by decide) (fun c4 => ?_) (fun c4 => ?_)
    · have hw := hw.1 c4
      exact hE20 M _ _ ls hw h (lv_sub hl [0, 1, 2] rfl)
    · have hw := hw.2 c4
      refine lv_aload_n hx hb dX7_pair_7 rfl (lv_at hl 0 rfl) ?_
      refine m_get X inX7_pair h 14 (by decide) (by decide +kernel) rfl rfl dX7_pair_8 ?_
      refine lv_iload_n hx hb dX7_pair_11 rfl (lv_at hl 3 rfl) ?_
      refine lv_iconst (v := (-1)) hx hb dX7_pair_12 (by decide) ?_
      obtain ⟨hk1, hw⟩ := hw
      refine m_iast X h 14 (by decide) (by decide) rfl (n := 40) rfl hk1 dX7_pair_13 (fun M13 eM13 H locs h => ?_)
      have hw := hw M13 eM13
      obtain ⟨x3_14, ex3_14⟩ : ∃ z : Int32, z = x3 + 1 := ⟨_, rfl⟩
      have hw := hw x3_14 ex3_14
      refine lv_iinc (v := x3_14) (lv' := [(3, .int x3_14), (0, .ref (ad 0)), (1, .int x1), (2, .int x2)]) hx hb dX7_pair_14 hl (k := 3) rfl (by rw [ex3_14]; rfl) (by decide) rfl (fun ls hl => ?_)
      refine lv_goto (tgt := 2) hx hb dX7_pair_17 (by decide) ?_
      exact ih x3_14 M13 _ _ ls hw h (lv_sub hl [1, 2, 3, 0] rfl)
set_option maxHeartbeats 4000000 in
set_option maxRecDepth 100000 in
theorem kX7_pair_52 {n : Nat} {E108 : Int32 → mM → Prop} {E140 : Int32 → mM → Prop} (X : gX p s m args meth c D cA A cX7_pair 7 wsX7_pair RX7) (x1 : Int32) (x2 : Int32) (x3 : Int32) (x5 : Int32)
    (hE108 : ∀ (y6 : Int32) (M : mM) (H : Heap) (locs : List Loc) (ls : Array Slot), E108 y6 M → mH D cA ad A s.heap M H locs → lv_has ls 7 [(0, .ref (ad 0)), (1, .int x1), (6, .int y6)] → W p l e (headSpec wsX7_pair rmX7_pair).room s m args below meth c H locs 0 0 Z (F0 m 108 ls []))
    (hE140 : ∀ (y4 : Int32) (M : mM) (H : Heap) (locs : List Loc) (ls : Array Slot), E140 y4 M → mH D cA ad A s.heap M H locs → lv_has ls 7 [(0, .ref (ad 0)), (1, .int x1), (2, .int x2), (3, .int x3), (4, .int y4)] → W p l e (headSpec wsX7_pair rmX7_pair).room s m args below meth c H locs 0 0 Z (F0 m 140 ls [])) :
    ∀ (k : Nat) (x4 : Int32) (x6 : Int32) (M : mM) (H : Heap) (locs : List Loc) (ls : Array Slot), wpX7_pair_52 n E108 E140 x1 x2 x3 x5 k x4 x6 M → mH D cA ad A s.heap M H locs → lv_has ls 7 [(0, .ref (ad 0)), (1, .int x1), (2, .int x2), (3, .int x3), (4, .int x4), (5, .int x5), (6, .int x6)] → W p l e (headSpec wsX7_pair rmX7_pair).room s m args below meth c H locs 0 0 Z (F0 m 52 ls []) := by
  intro k
  induction k with
  | zero => intro x4 x6 M H locs ls hw; exact hw.elim
  | succ k ih =>
    intro x4 x6 M H locs ls hw h hl
    rw [wpX7_pair_52] at hw
    obtain ⟨hx, hb, hml, hown, hts, hK, hA⟩ := id X
    refine lv_iload hx hb dX7_pair_52 (lv_at hl 6 rfl) ?_
    refine lv_iload_n hx hb dX7_pair_54 rfl (lv_at hl 2 rfl) ?_
    refine lv_icmp_ge (tgt := 140) hx hb dX7_pair_55 (by decide) (fun c55 => ?_) (fun c55 => ?_)
    · have hw := hw.1 c55
      exact hE140 x4 M _ _ ls hw h (lv_sub hl [0, 1, 2, 3, 4] rfl)
    · have hw := hw.2 c55
      refine lv_aload_n hx hb dX7_pair_58 rfl (lv_at hl 0 rfl) ?_
      refine m_get X inX7_pair h 12 (by decide) (by decide +kernel) rfl rfl dX7_pair_59 ?_
      refine lv_bipush (v := 40) hx hb dX7_pair_62 (by decide) ?_
      refine lv_iload hx hb dX7_pair_64 (lv_at hl 5 rfl) ?_
      refine lv_imul hx hb dX7_pair_66 ?_
      refine lv_iload hx hb dX7_pair_67 (lv_at hl 6 rfl) ?_
      refine lv_iadd hx hb dX7_pair_69 ?_
      obtain ⟨hk3, hw⟩ := hw
      refine m_zald X h 12 (by decide) (by decide) rfl (n := 1600) rfl hk3 dX7_pair_70 ?_
      refine lv_if_eq (tgt := 134) hx hb dX7_pair_71 (by decide) (fun c71 => ?_) (fun c71 => ?_)
      · have hw := hw.1 c71
        obtain ⟨x6_134, ex6_134⟩ : ∃ z : Int32, z = x6 + 1 := ⟨_, rfl⟩
        have hw := hw x6_134 ex6_134
        refine lv_iinc (v := x6_134) (lv' := [(6, .int x6_134), (0, .ref (ad 0)), (1, .int x1), (2, .int x2), (3, .int x3), (4, .int x4), (5, .int x5)]) hx hb dX7_pair_134 hl (k := 6) rfl (by rw [ex6_134]; rfl) (by decide) rfl (fun ls hl => ?_)
        refine lv_goto (tgt := 52) hx hb dX7_pair_137 (by decide) ?_
        exact ih x4 x6_134 M _ _ ls hw h (lv_sub hl [1, 2, 3, 4, 5, 6, 0] rfl)
      · have hw := hw.2 c71
        refine lv_aload_n hx hb dX7_pair_74 rfl (lv_at hl 0 rfl) ?_
        refine m_get X inX7_pair h 14 (by decide) (by decide +kernel) rfl rfl dX7_pair_75 ?_
        refine lv_iload hx hb dX7_pair_78 (lv_at hl 6 rfl) ?_
        obtain ⟨hk4, hw⟩ := hw
        refine m_iald X h 14 (by decide) (by decide) rfl (n := 40) rfl hk4 dX7_pair_80 ?_
        refine lv_iconst (v := (-1)) hx hb dX7_pair_81 (by decide) ?_
        refine lv_icmp_eq (tgt := 88) hx hb dX7_pair_82 (by decide) (fun c82 => ?_) (fun c82 => ?_)
        · have hw := hw.1 c82
          refine lv_aload_n hx hb dX7_pair_88 rfl (lv_at hl 0 rfl) ?_
          refine m_get X inX7_pair h 14 (by decide) (by decide +kernel) rfl rfl dX7_pair_89 ?_
          refine lv_iload hx hb dX7_pair_92 (lv_at hl 6 rfl) ?_
          refine lv_iload hx hb dX7_pair_94 (lv_at hl 5 rfl) ?_
          refine m_iast X h 14 (by decide) (by decide) rfl (n := 40) rfl hk4 dX7_pair_96 (fun M96 eM96 H locs h => ?_)
          have hw := hw M96 eM96
          refine lv_aload_n hx hb dX7_pair_97 rfl (lv_at hl 0 rfl) ?_
          refine m_get X inX7_pair h 13 (by decide) (by decide +kernel) rfl rfl dX7_pair_98 ?_
          refine lv_iload hx hb dX7_pair_101 (lv_at hl 6 rfl) ?_
          refine m_iald X h 13 (by decide) (by decide) rfl (n := 40) rfl hk4 dX7_pair_103 ?_
          refine lv_iconst (v := (-1)) hx hb dX7_pair_104 (by decide) ?_
          refine lv_icmp_ne (tgt := 117) hx hb dX7_pair_105 (by decide) (fun c105 => ?_) (fun c105 => ?_)
          · have hw := hw.1 c105
            refine lv_aload_n hx hb dX7_pair_117 rfl (lv_at hl 0 rfl) ?_
            refine m_get X inX7_pair h 15 (by decide) (by decide +kernel) rfl rfl dX7_pair_118 ?_
            refine lv_iload hx hb dX7_pair_121 (lv_at hl 4 rfl) ?_
            refine lv_aload_n hx hb dX7_pair_123 rfl (lv_at hl 0 rfl) ?_
            refine m_get X inX7_pair h 13 (by decide) (by decide +kernel) rfl rfl dX7_pair_124 ?_
            refine lv_iload hx hb dX7_pair_127 (lv_at hl 6 rfl) ?_
            refine m_iald X h 13 (by decide) (by decide) rfl (n := 40) rfl hk4 dX7_pair_129 ?_
            obtain ⟨hk5, hw⟩ := hw
            refine m_iast X h 15 (by decide) (by decide) rfl (n := 41) rfl hk5 dX7_pair_130 (fun M130 eM130 H locs h => ?_)
            have hw := hw M130 eM130
            obtain ⟨x4_131, ex4_131⟩ : ∃ z : Int32, z = x4 + 1 := ⟨_, rfl⟩
            have hw := hw x4_131 ex4_131
            refine lv_iinc (v := x4_131) (lv' := [(4, .int x4_131), (0, .ref (ad 0)), (1, .int x1), (2, .int x2), (3, .int x3), (5, .int x5), (6, .int x6)]) hx hb dX7_pair_131 hl (k := 4) rfl (by rw [ex4_131]; rfl) (by decide) rfl (fun ls hl => ?_)
            obtain ⟨x6_134, ex6_134⟩ : ∃ z : Int32, z = x6 + 1 := ⟨_, rfl⟩
            have hw := hw x6_134 ex6_134
            refine lv_iinc (v := x6_134) (lv' := [(6, .int x6_134), (4, .int x4_131), (0, .ref (ad 0)), (1, .int x1), (2, .int x2), (3, .int x3), (5, .int x5)]) hx hb dX7_pair_134 hl (k := 6) rfl (by rw [ex6_134]; rfl) (by decide) rfl (fun ls hl => ?_)
            refine lv_goto (tgt := 52) hx hb dX7_pair_137 (by decide) ?_
            exact ih x4_131 x6_134 M130 _ _ ls hw h (lv_sub hl [2, 3, 4, 5, 1, 6, 0] rfl)
          · have hw := hw.2 c105
            exact hE108 x6 M96 _ _ ls hw h (lv_sub hl [0, 1, 6] rfl)
        · have hw := hw.2 c82
          refine lv_goto (tgt := 134) hx hb dX7_pair_85 (by decide) ?_
          obtain ⟨x6_134, ex6_134⟩ : ∃ z : Int32, z = x6 + 1 := ⟨_, rfl⟩
          have hw := hw x6_134 ex6_134
          refine lv_iinc (v := x6_134) (lv' := [(6, .int x6_134), (0, .ref (ad 0)), (1, .int x1), (2, .int x2), (3, .int x3), (4, .int x4), (5, .int x5)]) hx hb dX7_pair_134 hl (k := 6) rfl (by rw [ex6_134]; rfl) (by decide) rfl (fun ls hl => ?_)
          refine lv_goto (tgt := 52) hx hb dX7_pair_137 (by decide) ?_
          exact ih x4 x6_134 M _ _ ls hw h (lv_sub hl [1, 2, 3, 4, 5, 6, 0] rfl)
set_option maxHeartbeats 4000000 in
set_option maxRecDepth 100000 in
theorem kX7_pair_32 {n : Nat} {Q : Int32 → mM → Prop} {E108 : Int32 → mM → Prop} (X : gX p s m args meth c D cA A cX7_pair 7 wsX7_pair RX7) (x1 : Int32) (x2 : Int32)
    (hret : ∀ (r : Int32) (M : mM) (H : Heap) (locs : List Loc) (pc : Nat) (ls : Array Slot), bz r ∧ Q r M → mH D cA ad A s.heap M H locs → decode cX7_pair pc = .ok (.ireturn, 1) → W p l e (headSpec wsX7_pair rmX7_pair).room s m args below meth c H locs 0 0 Z (F0 m pc ls [.int r]))
    (hE108 : ∀ (y6 : Int32) (M : mM) (H : Heap) (locs : List Loc) (ls : Array Slot), E108 y6 M → mH D cA ad A s.heap M H locs → lv_has ls 7 [(0, .ref (ad 0)), (1, .int x1), (6, .int y6)] → W p l e (headSpec wsX7_pair rmX7_pair).room s m args below meth c H locs 0 0 Z (F0 m 108 ls [])) :
    ∀ (k : Nat) (x3 : Int32) (x4 : Int32) (M : mM) (H : Heap) (locs : List Loc) (ls : Array Slot), wpX7_pair_32 n Q E108 x1 x2 k x3 x4 M → mH D cA ad A s.heap M H locs → lv_has ls 7 [(0, .ref (ad 0)), (1, .int x1), (2, .int x2), (3, .int x3), (4, .int x4)] → W p l e (headSpec wsX7_pair rmX7_pair).room s m args below meth c H locs 0 0 Z (F0 m 32 ls []) := by
  intro k
  induction k with
  | zero => intro x3 x4 M H locs ls hw; exact hw.elim
  | succ k ih =>
    intro x3 x4 M H locs ls hw h hl
    rw [wpX7_pair_32] at hw
    obtain ⟨hx, hb, hml, hown, hts, hK, hA⟩ := id X
    refine lv_iload_n hx hb dX7_pair_32 rfl (lv_at hl 3 rfl) ?_
    refine lv_iload hx hb dX7_pair_33 (lv_at hl 4 rfl) ?_
    refine lv_icmp_ge (tgt := 143) hx hb dX7_pair_35 (by decide) (fun c35 => ?_) (fun c35 => ?_)
    · have hw := hw.1 c35
      refine lv_iconst (v := 0) hx hb dX7_pair_143 (by decide) ?_
      exact hret 0 M _ _ _ ls hw h dX7_pair_144
    · have hw := hw.2 c35
      refine lv_aload_n hx hb dX7_pair_38 rfl (lv_at hl 0 rfl) ?_
      refine m_get X inX7_pair h 15 (by decide) (by decide +kernel) rfl rfl dX7_pair_39 ?_
      refine lv_iload_n hx hb dX7_pair_42 rfl (lv_at hl 3 rfl) ?_
      obtain ⟨hk2, hw⟩ := hw
      refine m_iald X h 15 (by decide) (by decide) rfl (n := 41) rfl hk2 dX7_pair_43 ?_
      refine lv_topi (fun x5_44 ex5_44 => ?_)
      have hw := hw x5_44 ex5_44
      refine lv_istore (lv' := [(5, .int x5_44), (0, .ref (ad 0)), (1, .int x1), (2, .int x2), (3, .int x3), (4, .int x4)]) hx hb dX7_pair_44 hl (by decide) rfl (fun ls hl => ?_)
      obtain ⟨x3_46, ex3_46⟩ : ∃ z : Int32, z = x3 + 1 := ⟨_, rfl⟩
      have hw := hw x3_46 ex3_46
      refine lv_iinc (v := x3_46) (lv' := [(3, .int x3_46), (5, .int x5_44), (0, .ref (ad 0)), (1, .int x1), (2, .int x2), (4, .int x4)]) hx hb dX7_pair_46 hl (k := 4) rfl (by rw [ex3_46]; rfl) (by decide) rfl (fun ls hl => ?_)
      refine lv_iconst (v := 0) hx hb dX7_pair_49 (by decide) ?_
      refine lv_istore (lv' := [(6, .int 0), (3, .int x3_46), (5, .int x5_44), (0, .ref (ad 0)), (1, .int x1), (2, .int x2), (4, .int x4)]) hx hb dX7_pair_50 hl (by decide) rfl (fun ls hl => ?_)
      refine kX7_pair_52 X x1 x2 x3_46 x5_44 (fun y6_52 M_52 H locs ls hw h hl => ?_) (fun y4_52 M_52 H locs ls hw h hl => ?_) n x4 0 M _ _ ls hw h (lv_sub hl [3, 4, 5, 1, 6, 2, 0] rfl)
      · exact hE108 y6_52 M_52 _ _ ls hw h (lv_sub hl [0, 1, 2] rfl)
      · refine lv_goto (tgt := 32) hx hb dX7_pair_140 (by decide) ?_
        exact ih x3_46 y4_52 M_52 _ _ ls hw h (lv_sub hl [0, 1, 2, 3, 4] rfl)
set_option maxHeartbeats 4000000 in
set_option maxRecDepth 100000 in
theorem qX7_pair (l : Launch) (D : va_G) (cA : Nat → ClassId) (n : Nat) (x1 : Int32) (x2 : Int32) : mMi l D cA yX7_pair wsX7_pair rmX7_pair (fun ad => [.ref (ad 0), .int x1, .int x2]) (wpX7_pair n x1 x2) := by
  intro ad sz M Q hw
  unfold wpX7_pair at hw
  refine m_enter (cc := cX7_pair) (maxL := 7) (ret := some .boolean) (own := RX7) (by decide) rfl rfl (Nat.le_of_ble_eq_true rfl) ?_
  intro p e s m args below meth c hsz X hr hlocks h ls hl
  have hret := @m_zret p l e (headSpec wsX7_pair rmX7_pair).room s m args below meth c cX7_pair D cA ad (va_A (mws cA ad M) sz) Q X.1 X.2.1 hr hlocks X.2.2.2.2.2.1
  obtain ⟨hx, hb, hml, hown, hts, hK, hA⟩ := id X
  have hl : lv_has ls 7 [(0, .ref (ad 0)), (1, .int x1), (2, .int x2)] := hl
  refine lv_iconst (v := 0) hx hb dX7_pair_0 (by decide) ?_
  refine lv_istore_n (lv' := [(3, .int 0), (0, .ref (ad 0)), (1, .int x1), (2, .int x2)]) hx hb dX7_pair_1 rfl hl (by decide) rfl (fun ls hl => ?_)
  refine kX7_pair_2 X x1 x2 (fun M_2 H locs ls hw h hl => ?_) n 0 M _ _ ls hw h (lv_sub hl [1, 2, 3, 0] rfl)
  refine lv_iconst (v := 0) hx hb dX7_pair_20 (by decide) ?_
  refine lv_istore_n (lv' := [(3, .int 0), (0, .ref (ad 0)), (1, .int x1), (2, .int x2)]) hx hb dX7_pair_21 rfl hl (by decide) rfl (fun ls hl => ?_)
  refine lv_iconst (v := 1) hx hb dX7_pair_22 (by decide) ?_
  refine lv_istore (lv' := [(4, .int 1), (3, .int 0), (0, .ref (ad 0)), (1, .int x1), (2, .int x2)]) hx hb dX7_pair_23 hl (by decide) rfl (fun ls hl => ?_)
  refine lv_aload_n hx hb dX7_pair_25 rfl (lv_at hl 2 rfl) ?_
  refine m_get X inX7_pair h 15 (by decide) (by decide +kernel) rfl rfl dX7_pair_26 ?_
  refine lv_iconst (v := 0) hx hb dX7_pair_29 (by decide) ?_
  refine lv_iload_n hx hb dX7_pair_30 rfl (lv_at hl 3 rfl) ?_
  refine m_iast X h 15 (by decide) (by decide) rfl (n := 41) rfl (show vp_in 0 41 by unfold vp_in; decide) dX7_pair_31 (fun M31 eM31 H locs h => ?_)
  have hw := hw M31 eM31
  refine kX7_pair_32 X x1 x2 hret (fun y6_32 M_32 H locs ls hw h hl => ?_) n 0 1 M31 _ _ ls hw h (lv_sub hl [2, 3, 4, 1, 0] rfl)
  refine lv_aload_n hx hb dX7_pair_108 rfl (lv_at hl 0 rfl) ?_
  refine lv_iload hx hb dX7_pair_109 (lv_at hl 2 rfl) ?_
  refine lv_iload_n hx hb dX7_pair_111 rfl (lv_at hl 1 rfl) ?_
  refine m_callv (n := 2) X h (qX7_turnOver l D cA n y6_32 x1) gX7_pair_X7_turnOver hw hl.1 dX7_pair_112 rfl rfl rfl (by decide +kernel) ⟨Nat.le_of_ble_eq_true rfl, Nat.le_of_ble_eq_true rfl⟩ rfl rfl (Nat.le_of_ble_eq_true rfl) (fun M112 H locs hw h => ?_)
  refine lv_iconst (v := 1) hx hb dX7_pair_115 (by decide) ?_
  exact hret 1 M112 _ _ _ ls hw h dX7_pair_116
def rmX7_matched : Room := { frames := 2, cells := 0, slots := 0, locals := 53 }
theorem inX7_matched : ∀ w ∈ wsX70, w ∈ wsX7_matched := fun w h => List.mem_cons_of_mem _ (List.mem_append_right _ h)
set_option maxHeartbeats 4000000 in
set_option maxRecDepth 100000 in
theorem kX7_matched_2 {n : Nat} {E21 : mM → Prop} (X : gX p s m args meth c D cA A cX7_matched 5 wsX7_matched RX7) (x1 : Int32) (x2 : Int32)
    (hE21 : ∀ (M : mM) (H : Heap) (locs : List Loc) (ls : Array Slot), E21 M → mH D cA ad A s.heap M H locs → lv_has ls 5 [(0, .ref (ad 0)), (1, .int x1), (2, .int x2)] → W p l e (headSpec wsX7_matched rmX7_matched).room s m args below meth c H locs 0 0 Z (F0 m 21 ls [])) :
    ∀ (k : Nat) (x3 : Int32) (M : mM) (H : Heap) (locs : List Loc) (ls : Array Slot), wpX7_matched_2 n E21 x1 x2 k x3 M → mH D cA ad A s.heap M H locs → lv_has ls 5 [(0, .ref (ad 0)), (1, .int x1), (2, .int x2), (3, .int x3)] → W p l e (headSpec wsX7_matched rmX7_matched).room s m args below meth c H locs 0 0 Z (F0 m 2 ls []) := by
  intro k
  induction k with
  | zero => intro x3 M H locs ls hw; exact hw.elim
  | succ k ih =>
    intro x3 M H locs ls hw h hl
    rw [wpX7_matched_2] at hw
    obtain ⟨hx, hb, hml, hown, hts, hK, hA⟩ := id X
    refine lv_iload_n hx hb dX7_matched_2 rfl (lv_at hl 3 rfl) ?_
    refine lv_bipush (v := 40) hx hb dX7_matched_3 (by decide) ?_
    refine lv_icmp_ge (tgt := 21) hx hb dX7_matched_5 (by decide) (fun c5 => ?_) (fun c5 => ?_)
    · have hw := hw.1 c5
      exact hE21 M _ _ ls hw h (lv_sub hl [0, 1, 2] rfl)
    · have hw := hw.2 c5
      refine lv_aload_n hx hb dX7_matched_8 rfl (lv_at hl 0 rfl) ?_
      refine m_get X inX7_matched h 13 (by decide) (by decide +kernel) rfl rfl dX7_matched_9 ?_
      refine lv_iload_n hx hb dX7_matched_12 rfl (lv_at hl 3 rfl) ?_
      refine lv_iconst (v := (-1)) hx hb dX7_matched_13 (by decide) ?_
      obtain ⟨hk1, hw⟩ := hw
      refine m_iast X h 13 (by decide) (by decide) rfl (n := 40) rfl hk1 dX7_matched_14 (fun M14 eM14 H locs h => ?_)
      have hw := hw M14 eM14
      obtain ⟨x3_15, ex3_15⟩ : ∃ z : Int32, z = x3 + 1 := ⟨_, rfl⟩
      have hw := hw x3_15 ex3_15
      refine lv_iinc (v := x3_15) (lv' := [(3, .int x3_15), (0, .ref (ad 0)), (1, .int x1), (2, .int x2)]) hx hb dX7_matched_15 hl (k := 3) rfl (by rw [ex3_15]; rfl) (by decide) rfl (fun ls hl => ?_)
      refine lv_goto (tgt := 2) hx hb dX7_matched_18 (by decide) ?_
      exact ih x3_15 M14 _ _ ls hw h (lv_sub hl [1, 2, 3, 0] rfl)
set_option maxHeartbeats 4000000 in
set_option maxRecDepth 100000 in
theorem kX7_matched_58 {n : Nat} {R : Int32 → Int32 → mM → Prop} (X : gX p s m args meth c D cA A cX7_matched 5 wsX7_matched RX7) (x1 : Int32) (x2 : Int32) (x4 : Int32)
    (hR : ∀ (y3 : Int32) (y4 : Int32) (M : mM) (H : Heap) (locs : List Loc) (ls : Array Slot), R y3 y4 M → mH D cA ad A s.heap M H locs → lv_has ls 5 [(0, .ref (ad 0)), (1, .int x1), (2, .int x2), (3, .int y3), (4, .int y4)] → W p l e (headSpec wsX7_matched rmX7_matched).room s m args below meth c H locs 0 0 Z (F0 m 26 ls [])) :
    ∀ (s0 : Int32) (s1 : Int32) (M : mM) (H : Heap) (locs : List Loc) (ls : Array Slot), wpX7_matched_58 n R x1 x2 x4 s0 s1 M → mH D cA ad A s.heap M H locs → lv_has ls 5 [(0, .ref (ad 0)), (1, .int x1), (2, .int x2), (4, .int x4)] → W p l e (headSpec wsX7_matched rmX7_matched).room s m args below meth c H locs 0 0 Z (F0 m 58 ls [.int s0, .int s1]) := by
  intro s0 s1 M H locs ls hw h hl
  unfold wpX7_matched_58 at hw
  obtain ⟨hx, hb, hml, hown, hts, hK, hA⟩ := id X
  refine lv_iadd hx hb dX7_matched_58 ?_
  refine lv_topi (fun x3_59 ex3_59 => ?_)
  have hw := hw x3_59 ex3_59
  refine lv_istore_n (lv' := [(3, .int x3_59), (0, .ref (ad 0)), (1, .int x1), (2, .int x2), (4, .int x4)]) hx hb dX7_matched_59 rfl hl (by decide) rfl (fun ls hl => ?_)
  obtain ⟨x4_60, ex4_60⟩ : ∃ z : Int32, z = x4 + 1 := ⟨_, rfl⟩
  have hw := hw x4_60 ex4_60
  refine lv_iinc (v := x4_60) (lv' := [(4, .int x4_60), (3, .int x3_59), (0, .ref (ad 0)), (1, .int x1), (2, .int x2)]) hx hb dX7_matched_60 hl (k := 4) rfl (by rw [ex4_60]; rfl) (by decide) rfl (fun ls hl => ?_)
  refine lv_goto (tgt := 26) hx hb dX7_matched_63 (by decide) ?_
  exact hR x3_59 x4_60 M _ _ ls hw h (lv_sub hl [2, 3, 4, 1, 0] rfl)
set_option maxHeartbeats 4000000 in
set_option maxRecDepth 100000 in
theorem kX7_matched_26 {n : Nat} {Q : Int32 → mM → Prop} (X : gX p s m args meth c D cA A cX7_matched 5 wsX7_matched RX7) (x1 : Int32) (x2 : Int32)
    (hret : ∀ (r : Int32) (M : mM) (H : Heap) (locs : List Loc) (pc : Nat) (ls : Array Slot), Q r M → mH D cA ad A s.heap M H locs → decode cX7_matched pc = .ok (.ireturn, 1) → W p l e (headSpec wsX7_matched rmX7_matched).room s m args below meth c H locs 0 0 Z (F0 m pc ls [.int r])) :
    ∀ (k : Nat) (x3 : Int32) (x4 : Int32) (M : mM) (H : Heap) (locs : List Loc) (ls : Array Slot), wpX7_matched_26 n Q x1 x2 k x3 x4 M → mH D cA ad A s.heap M H locs → lv_has ls 5 [(0, .ref (ad 0)), (1, .int x1), (2, .int x2), (3, .int x3), (4, .int x4)] → W p l e (headSpec wsX7_matched rmX7_matched).room s m args below meth c H locs 0 0 Z (F0 m 26 ls []) := by
  intro k
  induction k with
  | zero => intro x3 x4 M H locs ls hw; exact hw.elim
  | succ k ih =>
    intro x3 x4 M H locs ls hw h hl
    rw [wpX7_matched_26] at hw
    obtain ⟨hx, hb, hml, hown, hts, hK, hA⟩ := id X
    refine lv_iload hx hb dX7_matched_26 (lv_at hl 4 rfl) ?_
    refine lv_aload_n hx hb dX7_matched_28 rfl (lv_at hl 0 rfl) ?_
    refine m_get X inX7_matched h 8 (by decide) (by decide +kernel) rfl rfl dX7_matched_29 ?_
    refine lv_iload_n hx hb dX7_matched_32 rfl (lv_at hl 1 rfl) ?_
    obtain ⟨hk2, hw⟩ := hw
    refine m_iald X h 8 (by decide) (by decide) rfl (n := 16) rfl hk2 dX7_matched_33 ?_
    refine lv_icmp_ge (tgt := 66) hx hb dX7_matched_34 (by decide) (fun c34 => ?_) (fun c34 => ?_)
    · have hw := hw.1 c34
      refine lv_iload_n hx hb dX7_matched_66 rfl (lv_at hl 3 rfl) ?_
      exact hret x3 M _ _ _ ls hw h dX7_matched_67
    · have hw := hw.2 c34
      refine lv_iload_n hx hb dX7_matched_37 rfl (lv_at hl 3 rfl) ?_
      refine lv_aload_n hx hb dX7_matched_38 rfl (lv_at hl 0 rfl) ?_
      refine lv_iload hx hb dX7_matched_39 (lv_at hl 4 rfl) ?_
      refine lv_aload_n hx hb dX7_matched_41 rfl (lv_at hl 0 rfl) ?_
      refine m_get X inX7_matched h 8 (by decide) (by decide +kernel) rfl rfl dX7_matched_42 ?_
      refine lv_iload_n hx hb dX7_matched_45 rfl (lv_at hl 2 rfl) ?_
      obtain ⟨hk3, hw⟩ := hw
      refine m_iald X h 8 (by decide) (by decide) rfl (n := 16) rfl hk3 dX7_matched_46 ?_
      refine m_calli (n := 2) X h (qX7_pair l D cA n x4 (M 8 x2.toNatClampNeg)) gX7_matched_X7_pair hw hl.1 dX7_matched_47 rfl rfl rfl (by decide +kernel) ⟨Nat.le_of_ble_eq_true rfl, Nat.le_of_ble_eq_true rfl⟩ rfl rfl (Nat.le_of_ble_eq_true rfl) (fun r47 M47 H locs hw h => ?_)
      refine lv_if_eq (tgt := 57) hx hb dX7_matched_50 (by decide) (fun c50 => ?_) (fun c50 => ?_)
      · have hw := hw.1 c50
        refine lv_iconst (v := 0) hx hb dX7_matched_57 (by decide) ?_
        exact kX7_matched_58 X x1 x2 x4 ih 0 x3 M47 _ _ ls hw h (lv_sub hl [0, 1, 2, 4] rfl)
      · have hw := hw.2 c50
        refine lv_iconst (v := 1) hx hb dX7_matched_53 (by decide) ?_
        refine lv_goto (tgt := 58) hx hb dX7_matched_54 (by decide) ?_
        exact kX7_matched_58 X x1 x2 x4 ih 1 x3 M47 _ _ ls hw h (lv_sub hl [0, 1, 2, 4] rfl)
set_option maxHeartbeats 4000000 in
set_option maxRecDepth 100000 in
theorem qX7_matched (l : Launch) (D : va_G) (cA : Nat → ClassId) (n : Nat) (x1 : Int32) (x2 : Int32) : mMi l D cA yX7_matched wsX7_matched rmX7_matched (fun ad => [.ref (ad 0), .int x1, .int x2]) (wpX7_matched n x1 x2) := by
  intro ad sz M Q hw
  unfold wpX7_matched at hw
  refine m_enter (cc := cX7_matched) (maxL := 5) (ret := some .int) (own := RX7) (by decide) rfl rfl (Nat.le_of_ble_eq_true rfl) ?_
  intro p e s m args below meth c hsz X hr hlocks h ls hl
  have hret := @m_iret p l e (headSpec wsX7_matched rmX7_matched).room s m args below meth c cX7_matched D cA ad (va_A (mws cA ad M) sz) Q X.1 X.2.1 hr hlocks X.2.2.2.2.2.1
  obtain ⟨hx, hb, hml, hown, hts, hK, hA⟩ := id X
  have hl : lv_has ls 5 [(0, .ref (ad 0)), (1, .int x1), (2, .int x2)] := hl
  refine lv_iconst (v := 0) hx hb dX7_matched_0 (by decide) ?_
  refine lv_istore_n (lv' := [(3, .int 0), (0, .ref (ad 0)), (1, .int x1), (2, .int x2)]) hx hb dX7_matched_1 rfl hl (by decide) rfl (fun ls hl => ?_)
  refine kX7_matched_2 X x1 x2 (fun M_2 H locs ls hw h hl => ?_) n 0 M _ _ ls hw h (lv_sub hl [1, 2, 3, 0] rfl)
  refine lv_iconst (v := 0) hx hb dX7_matched_21 (by decide) ?_
  refine lv_istore_n (lv' := [(3, .int 0), (0, .ref (ad 0)), (1, .int x1), (2, .int x2)]) hx hb dX7_matched_22 rfl hl (by decide) rfl (fun ls hl => ?_)
  refine lv_iconst (v := 0) hx hb dX7_matched_23 (by decide) ?_
  refine lv_istore (lv' := [(4, .int 0), (3, .int 0), (0, .ref (ad 0)), (1, .int x1), (2, .int x2)]) hx hb dX7_matched_24 hl (by decide) rfl (fun ls hl => ?_)
  exact kX7_matched_26 X x1 x2 hret n 0 0 M_2 _ _ ls hw h (lv_sub hl [2, 3, 4, 1, 0] rfl)
end KM
