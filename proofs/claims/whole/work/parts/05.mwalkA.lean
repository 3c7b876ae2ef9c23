section KM
variable {p : Program} {l : Launch} {e : Env} {s : State} {m : MethodId} {args : Array Value} {below : List Frame} {meth : Method} {c : Code} {Z : State → Prop} {D : va_G} {cA : Nat → ClassId} {A : Nat → Prop} {ad : Nat → Nat}
def rmX7_in : Room := { frames := 0, cells := 0, slots := 0, locals := 0 }
set_option maxHeartbeats 4000000 in
set_option maxRecDepth 100000 in
theorem qX7_in (l : Launch) (D : va_G) (cA : Nat → ClassId) (n : Nat) (x0 : Int64) (x2 : Int64) (x4 : Int64) : mMi l D cA yX7_in wsX7_in rmX7_in (fun _ => [.long x0, .long x2, .long x4]) (wpX7_in n x0 x2 x4) := by
  intro ad sz M Q hw
  unfold wpX7_in at hw
  refine m_enter (cc := cX7_in) (maxL := 6) (ret := some .boolean) (own := RX7) (by decide) rfl rfl (Nat.le_of_ble_eq_true rfl) ?_
  intro p e s m args below meth c hsz X hr hlocks h ls hl
  have hret := @m_zret p l e (headSpec wsX7_in rmX7_in).room s m args below meth c cX7_in D cA ad (va_A (mws cA ad M) sz) Q X.1 X.2.1 hr hlocks X.2.2.2.2.2.1
  obtain ⟨hx, hb, hml, hown, hts, hK, hA⟩ := id X
  have hl : lv_has ls 6 [(0, .long x0), (2, .long x2), (4, .long x4)] := hl
  refine lv_lload_n hx hb dX7_in_0 rfl (lv_at hl 0 rfl) ?_
  refine lv_lload_n hx hb dX7_in_1 rfl (lv_at hl 1 rfl) ?_
  refine W.lcmp hx hb dX7_in_2 ?_
  refine lv_if_lt (tgt := 17) hx hb dX7_in_3 (by decide) (fun c3 => ?_) (fun c3 => ?_)
  · have hw := hw.1 c3
    refine lv_iconst (v := 0) hx hb dX7_in_17 (by decide) ?_
    exact hret 0 M _ _ _ ls hw h dX7_in_18
  · have hw := hw.2 c3
    refine lv_lload_n hx hb dX7_in_6 rfl (lv_at hl 0 rfl) ?_
    refine lv_lload hx hb dX7_in_7 (lv_at hl 2 rfl) ?_
    refine W.lcmp hx hb dX7_in_9 ?_
    refine lv_if_gt (tgt := 17) hx hb dX7_in_10 (by decide) (fun c10 => ?_) (fun c10 => ?_)
    · have hw := hw.1 c10
      refine lv_iconst (v := 0) hx hb dX7_in_17 (by decide) ?_
      exact hret 0 M _ _ _ ls hw h dX7_in_18
    · have hw := hw.2 c10
      refine lv_iconst (v := 1) hx hb dX7_in_13 (by decide) ?_
      refine lv_goto (tgt := 18) hx hb dX7_in_14 (by decide) ?_
      exact hret 1 M _ _ _ ls hw h dX7_in_18
def rmX7_told : Room := { frames := 0, cells := 0, slots := 0, locals := 0 }
theorem inX7_told : ∀ w ∈ wsX70, w ∈ wsX7_told := fun w h => List.mem_cons_of_mem _ (List.mem_append_right _ h)
set_option maxHeartbeats 4000000 in
set_option maxRecDepth 100000 in
theorem kX7_told_10 {n : Nat} {Q : Int32 → mM → Prop} (X : gX p s m args meth c D cA A cX7_told 2 wsX7_told RX7) (x1 : Int32)
    (hret : ∀ (r : Int32) (M : mM) (H : Heap) (locs : List Loc) (pc : Nat) (ls : Array Slot), Q r M → mH D cA ad A s.heap M H locs → decode cX7_told pc = .ok (.ireturn, 1) → W p l e (headSpec wsX7_told rmX7_told).room s m args below meth c H locs 0 0 Z (F0 m pc ls [.int r])) :
    ∀ (s0 : Int32) (M : mM) (H : Heap) (locs : List Loc) (ls : Array Slot), wpX7_told_10 n Q x1 s0 M → mH D cA ad A s.heap M H locs → lv_has ls 2 [(1, .int x1)] → W p l e (headSpec wsX7_told rmX7_told).room s m args below meth c H locs 0 0 Z (F0 m 10 ls [.int s0, .ref (ad 0)]) := by
  intro s0 M H locs ls hw h hl
  unfold wpX7_told_10 at hw
  obtain ⟨hx, hb, hml, hown, hts, hK, hA⟩ := id X
  refine m_put X inX7_told h 1 (by decide) (by decide +kernel) rfl rfl rfl rfl dX7_told_10 (fun M10 eM10 H locs h => ?_)
  have hw := hw M10 eM10
  refine lv_iload_n hx hb dX7_told_13 rfl (lv_at hl 0 rfl) ?_
  exact hret x1 M10 _ _ _ ls hw h dX7_told_14
set_option maxHeartbeats 4000000 in
set_option maxRecDepth 100000 in
theorem qX7_told (l : Launch) (D : va_G) (cA : Nat → ClassId) (n : Nat) (x1 : Int32) : mMi l D cA yX7_told wsX7_told rmX7_told (fun ad => [.ref (ad 0), .int x1]) (wpX7_told n x1) := by
  intro ad sz M Q hw
  unfold wpX7_told at hw
  refine m_enter (cc := cX7_told) (maxL := 2) (ret := some .int) (own := RX7) (by decide) rfl rfl (Nat.le_of_ble_eq_true rfl) ?_
  intro p e s m args below meth c hsz X hr hlocks h ls hl
  have hret := @m_iret p l e (headSpec wsX7_told rmX7_told).room s m args below meth c cX7_told D cA ad (va_A (mws cA ad M) sz) Q X.1 X.2.1 hr hlocks X.2.2.2.2.2.1
  obtain ⟨hx, hb, hml, hown, hts, hK, hA⟩ := id X
  have hl : lv_has ls 2 [(0, .ref (ad 0)), (1, .int x1)] := hl
  refine lv_aload_n hx hb dX7_told_0 rfl (lv_at hl 0 rfl) ?_
  refine lv_iload_n hx hb dX7_told_1 rfl (lv_at hl 1 rfl) ?_
  refine lv_if_ge (tgt := 9) hx hb dX7_told_2 (by decide) (fun c2 => ?_) (fun c2 => ?_)
  · have hw := hw.1 c2
    refine lv_iconst (v := 0) hx hb dX7_told_9 (by decide) ?_
    exact kX7_told_10 X x1 hret 0 M _ _ ls hw h (lv_sub hl [1] rfl)
  · have hw := hw.2 c2
    refine lv_iload_n hx hb dX7_told_5 rfl (lv_at hl 1 rfl) ?_
    refine lv_goto (tgt := 10) hx hb dX7_told_6 (by decide) ?_
    exact kX7_told_10 X x1 hret x1 M _ _ ls hw h (lv_sub hl [1] rfl)
def rmX7_isPrint : Room := { frames := 1, cells := 0, slots := 0, locals := 25 }
theorem inX7_isPrint : ∀ w ∈ wsX70, w ∈ wsX7_isPrint := fun w h => List.mem_cons_of_mem _ (List.mem_append_right _ h)
set_option maxHeartbeats 4000000 in
set_option maxRecDepth 100000 in
theorem qX7_isPrint (l : Launch) (D : va_G) (cA : Nat → ClassId) (n : Nat) (x1 : Int32) : mMi l D cA yX7_isPrint wsX7_isPrint rmX7_isPrint (fun ad => [.ref (ad 0), .int x1]) (wpX7_isPrint n x1) := by
  intro ad sz M Q hw
  unfold wpX7_isPrint at hw
  refine m_enter (cc := cX7_isPrint) (maxL := 2) (ret := some .boolean) (own := RX7) (by decide) rfl rfl (Nat.le_of_ble_eq_true rfl) ?_
  intro p e s m args below meth c hsz X hr hlocks h ls hl
  have hret := @m_zret p l e (headSpec wsX7_isPrint rmX7_isPrint).room s m args below meth c cX7_isPrint D cA ad (va_A (mws cA ad M) sz) Q X.1 X.2.1 hr hlocks X.2.2.2.2.2.1
  obtain ⟨hx, hb, hml, hown, hts, hK, hA⟩ := id X
  have hl : lv_has ls 2 [(0, .ref (ad 0)), (1, .int x1)] := hl
  refine lv_iload_n hx hb dX7_isPrint_0 rfl (lv_at hl 1 rfl) ?_
  refine lv_i2l hx hb dX7_isPrint_1 rfl ?_
  refine lv_lconst (v := 0) hx hb dX7_isPrint_2 (by decide) ?_
  refine lv_aload_n hx hb dX7_isPrint_3 rfl (lv_at hl 0 rfl) ?_
  refine m_get X inX7_isPrint h 2 (by decide) (by decide +kernel) rfl rfl dX7_isPrint_4 ?_
  refine lv_i2l hx hb dX7_isPrint_7 rfl ?_
  refine lv_lconst (v := 1) hx hb dX7_isPrint_8 (by decide) ?_
  refine lv_lsub hx hb dX7_isPrint_9 ?_
  refine m_callS (n := 3) X h (qX7_in l D cA n (x1.toInt64) 0 (((M 0 2).toInt64) - 1)) gX7_isPrint_X7_in hw hl.1 dX7_isPrint_10 rfl rfl rfl (by decide +kernel) ⟨Nat.le_of_ble_eq_true rfl, Nat.le_of_ble_eq_true rfl⟩ rfl rfl (Nat.le_of_ble_eq_true rfl) (fun r10 M10 H locs hw h => ?_)
  exact hret r10 M10 _ _ _ ls hw h dX7_isPrint_13
def rmX7_isPlace : Room := { frames := 1, cells := 0, slots := 0, locals := 25 }
set_option maxHeartbeats 4000000 in
set_option maxRecDepth 100000 in
theorem qX7_isPlace (l : Launch) (D : va_G) (cA : Nat → ClassId) (n : Nat) (x0 : Int32) : mMi l D cA yX7_isPlace wsX7_isPlace rmX7_isPlace (fun _ => [.int x0]) (wpX7_isPlace n x0) := by
  intro ad sz M Q hw
  unfold wpX7_isPlace at hw
  refine m_enter (cc := cX7_isPlace) (maxL := 1) (ret := some .boolean) (own := RX7) (by decide) rfl rfl (Nat.le_of_ble_eq_true rfl) ?_
  intro p e s m args below meth c hsz X hr hlocks h ls hl
  have hret := @m_zret p l e (headSpec wsX7_isPlace rmX7_isPlace).room s m args below meth c cX7_isPlace D cA ad (va_A (mws cA ad M) sz) Q X.1 X.2.1 hr hlocks X.2.2.2.2.2.1
  obtain ⟨hx, hb, hml, hown, hts, hK, hA⟩ := id X
  have hl : lv_has ls 1 [(0, .int x0)] := hl
  refine lv_iload_n hx hb dX7_isPlace_0 rfl (lv_at hl 0 rfl) ?_
  refine lv_i2l hx hb dX7_isPlace_1 rfl ?_
  refine lv_lconst (v := 0) hx hb dX7_isPlace_2 (by decide) ?_
  refine lv_ldc2 (v := 23) hx hb hown (hts (.constantLong RX7 67 (23)) (by decide +kernel)) dX7_isPlace_3 ?_
  refine m_callS (n := 3) X h (qX7_in l D cA n (x0.toInt64) 0 23) gX7_isPlace_X7_in hw hl.1 dX7_isPlace_6 rfl rfl rfl (by decide +kernel) ⟨Nat.le_of_ble_eq_true rfl, Nat.le_of_ble_eq_true rfl⟩ rfl rfl (Nat.le_of_ble_eq_true rfl) (fun r6 M6 H locs hw h => ?_)
  exact hret r6 M6 _ _ _ ls hw h dX7_isPlace_9
def rmX7_print : Room := { frames := 1, cells := 0, slots := 0, locals := 21 }
theorem inX7_print : ∀ w ∈ wsX70, w ∈ wsX7_print := fun w h => List.mem_cons_of_mem _ (List.mem_append_right _ h)
set_option maxHeartbeats 4000000 in
set_option maxRecDepth 100000 in
theorem qX7_print (l : Launch) (D : va_G) (cA : Nat → ClassId) (n : Nat) : mMi l D cA yX7_print wsX7_print rmX7_print (fun ad => [.ref (ad 0)]) (wpX7_print n) := by
  intro ad sz M Q hw
  unfold wpX7_print at hw
  refine m_enter (cc := cX7_print) (maxL := 1) (ret := some .int) (own := RX7) (by decide) rfl rfl (Nat.le_of_ble_eq_true rfl) ?_
  intro p e s m args below meth c hsz X hr hlocks h ls hl
  have hret := @m_iret p l e (headSpec wsX7_print rmX7_print).room s m args below meth c cX7_print D cA ad (va_A (mws cA ad M) sz) Q X.1 X.2.1 hr hlocks X.2.2.2.2.2.1
  obtain ⟨hx, hb, hml, hown, hts, hK, hA⟩ := id X
  have hl : lv_has ls 1 [(0, .ref (ad 0))] := hl
  refine lv_aload_n hx hb dX7_print_0 rfl (lv_at hl 0 rfl) ?_
  refine lv_iconst (v := 0) hx hb dX7_print_1 (by decide) ?_
  refine m_put X inX7_print h 0 (by decide) (by decide +kernel) rfl rfl rfl rfl dX7_print_2 (fun M2 eM2 H locs h => ?_)
  have hw := hw M2 eM2
  refine lv_aload_n hx hb dX7_print_5 rfl (lv_at hl 0 rfl) ?_
  refine m_get X inX7_print h 2 (by decide) (by decide +kernel) rfl rfl dX7_print_6 ?_
  refine lv_bipush (v := 16) hx hb dX7_print_9 (by decide) ?_
  refine lv_icmp_ne (tgt := 21) hx hb dX7_print_11 (by decide) (fun c11 => ?_) (fun c11 => ?_)
  · have hw := hw.1 c11
    refine lv_aload_n hx hb dX7_print_21 rfl (lv_at hl 0 rfl) ?_
    refine lv_dup hx hb dX7_print_22 rfl ?_
    refine m_get X inX7_print h 2 (by decide) (by decide +kernel) rfl rfl dX7_print_23 ?_
    refine lv_iconst (v := 1) hx hb dX7_print_26 (by decide) ?_
    refine lv_iadd hx hb dX7_print_27 ?_
    refine m_put X inX7_print h 2 (by decide) (by decide +kernel) rfl rfl rfl rfl dX7_print_28 (fun M28 eM28 H locs h => ?_)
    have hw := hw M28 eM28
    refine lv_aload_n hx hb dX7_print_31 rfl (lv_at hl 0 rfl) ?_
    refine lv_aload_n hx hb dX7_print_32 rfl (lv_at hl 0 rfl) ?_
    refine m_get X inX7_print h 2 (by decide) (by decide +kernel) rfl rfl dX7_print_33 ?_
    refine lv_iconst (v := 1) hx hb dX7_print_36 (by decide) ?_
    refine lv_isub hx hb dX7_print_37 ?_
    refine m_calli (n := 1) X h (qX7_told l D cA n ((M28 0 2) - 1)) gX7_print_X7_told hw hl.1 dX7_print_38 rfl rfl rfl (by decide +kernel) ⟨Nat.le_of_ble_eq_true rfl, Nat.le_of_ble_eq_true rfl⟩ rfl rfl (Nat.le_of_ble_eq_true rfl) (fun r38 M38 H locs hw h => ?_)
    exact hret r38 M38 _ _ _ ls hw h dX7_print_41
  · have hw := hw.2 c11
    refine lv_aload_n hx hb dX7_print_14 rfl (lv_at hl 0 rfl) ?_
    refine lv_bipush (v := (-5)) hx hb dX7_print_15 (by decide) ?_
    refine m_calli (n := 1) X h (qX7_told l D cA n (-5)) gX7_print_X7_told hw hl.1 dX7_print_17 rfl rfl rfl (by decide +kernel) ⟨Nat.le_of_ble_eq_true rfl, Nat.le_of_ble_eq_true rfl⟩ rfl rfl (Nat.le_of_ble_eq_true rfl) (fun r17 M17 H locs hw h => ?_)
    exact hret r17 M17 _ _ _ ls hw h dX7_print_20
def rmX7_row : Room := { frames := 2, cells := 0, slots := 0, locals := 46 }
theorem inX7_row : ∀ w ∈ wsX70, w ∈ wsX7_row := fun w h => List.mem_cons_of_mem _ (List.mem_append_right _ h)
set_option maxHeartbeats 4000000 in
set_option maxRecDepth 100000 in
theorem qX7_row (l : Launch) (D : va_G) (cA : Nat → ClassId) (n : Nat) (x1 : Int32) (x2 : Int32) (x3 : Int32) : mMi l D cA yX7_row wsX7_row rmX7_row (fun ad => [.ref (ad 0), .int x1, .int x2, .int x3]) (wpX7_row n x1 x2 x3) := by
  intro ad sz M Q hw
  unfold wpX7_row at hw
  refine m_enter (cc := cX7_row) (maxL := 4) (ret := some .int) (own := RX7) (by decide) rfl rfl (Nat.le_of_ble_eq_true rfl) ?_
  intro p e s m args below meth c hsz X hr hlocks h ls hl
  have hret := @m_iret p l e (headSpec wsX7_row rmX7_row).room s m args below meth c cX7_row D cA ad (va_A (mws cA ad M) sz) Q X.1 X.2.1 hr hlocks X.2.2.2.2.2.1
  obtain ⟨hx, hb, hml, hown, hts, hK, hA⟩ := id X
  have hl : lv_has ls 4 [(0, .ref (ad 0)), (1, .int x1), (2, .int x2), (3, .int x3)] := hl
  refine lv_aload_n hx hb dX7_row_0 rfl (lv_at hl 0 rfl) ?_
  refine lv_iconst (v := 0) hx hb dX7_row_1 (by decide) ?_
  refine m_put X inX7_row h 0 (by decide) (by decide +kernel) rfl rfl rfl rfl dX7_row_2 (fun M2 eM2 H locs h => ?_)
  have hw := hw M2 eM2
  refine lv_iload_n hx hb dX7_row_5 rfl (lv_at hl 2 rfl) ?_
  refine m_callS (n := 1) X h (qX7_isPlace l D cA n x2) gX7_row_X7_isPlace hw hl.1 dX7_row_6 rfl rfl rfl (by decide +kernel) ⟨Nat.le_of_ble_eq_true rfl, Nat.le_of_ble_eq_true rfl⟩ rfl rfl (Nat.le_of_ble_eq_true rfl) (fun r6 M6 H locs hw h => ?_)
  refine lv_if_ne (tgt := 18) hx hb dX7_row_9 (by decide) (fun c9 => ?_) (fun c9 => ?_)
  · have hw := hw.1 c9
    refine lv_aload_n hx hb dX7_row_18 rfl (lv_at hl 0 rfl) ?_
    refine lv_iload_n hx hb dX7_row_19 rfl (lv_at hl 1 rfl) ?_
    refine m_calli (n := 1) X h (qX7_isPrint l D cA n x1) gX7_row_X7_isPrint hw hl.1 dX7_row_20 rfl rfl rfl (by decide +kernel) ⟨Nat.le_of_ble_eq_true rfl, Nat.le_of_ble_eq_true rfl⟩ rfl rfl (Nat.le_of_ble_eq_true rfl) (fun r20 M20 H locs hw h => ?_)
    refine lv_if_ne (tgt := 33) hx hb dX7_row_23 (by decide) (fun c23 => ?_) (fun c23 => ?_)
    · have hw := hw.1 c23
      refine lv_aload_n hx hb dX7_row_33 rfl (lv_at hl 0 rfl) ?_
      refine m_get X inX7_row h 3 (by decide) (by decide +kernel) rfl rfl dX7_row_34 ?_
      refine lv_bipush (v := 24) hx hb dX7_row_37 (by decide) ?_
      refine lv_iload_n hx hb dX7_row_39 rfl (lv_at hl 1 rfl) ?_
      refine lv_imul hx hb dX7_row_40 ?_
      refine lv_iload_n hx hb dX7_row_41 rfl (lv_at hl 2 rfl) ?_
      refine lv_iadd hx hb dX7_row_42 ?_
      refine lv_iload_n hx hb dX7_row_43 rfl (lv_at hl 3 rfl) ?_
      refine lv_ldc (v := 16777215) hx hb hown (hts (.constant RX7 80 (16777215)) (by decide +kernel)) dX7_row_44 ?_
      refine lv_iand hx hb dX7_row_46 ?_
      obtain ⟨hk1, hw⟩ := hw
      refine m_iast X h 3 (by decide) (by decide) rfl (n := 384) rfl hk1 dX7_row_47 (fun M47 eM47 H locs h => ?_)
      have hw := hw M47 eM47
      refine lv_aload_n hx hb dX7_row_48 rfl (lv_at hl 0 rfl) ?_
      refine lv_iconst (v := 0) hx hb dX7_row_49 (by decide) ?_
      refine m_calli (n := 1) X h (qX7_told l D cA n 0) gX7_row_X7_told hw hl.1 dX7_row_50 rfl rfl rfl (by decide +kernel) ⟨Nat.le_of_ble_eq_true rfl, Nat.le_of_ble_eq_true rfl⟩ rfl rfl (Nat.le_of_ble_eq_true rfl) (fun r50 M50 H locs hw h => ?_)
      exact hret r50 M50 _ _ _ ls hw h dX7_row_53
    · have hw := hw.2 c23
      refine lv_aload_n hx hb dX7_row_26 rfl (lv_at hl 0 rfl) ?_
      refine lv_bipush (v := (-2)) hx hb dX7_row_27 (by decide) ?_
      refine m_calli (n := 1) X h (qX7_told l D cA n (-2)) gX7_row_X7_told hw hl.1 dX7_row_29 rfl rfl rfl (by decide +kernel) ⟨Nat.le_of_ble_eq_true rfl, Nat.le_of_ble_eq_true rfl⟩ rfl rfl (Nat.le_of_ble_eq_true rfl) (fun r29 M29 H locs hw h => ?_)
      exact hret r29 M29 _ _ _ ls hw h dX7_row_32
  · have hw := hw.2 c9
    refine lv_aload_n hx hb dX7_row_12 rfl (lv_at hl 0 rfl) ?_
    refine lv_iconst (v := (-1)) hx hb dX7_row_13 (by decide) ?_
    refine m_calli (n := 1) X h (qX7_told l D cA n (-1)) gX7_row_X7_told hw hl.1 dX7_row_14 rfl rfl rfl (by decide +kernel) ⟨Nat.le_of_ble_eq_true rfl, Nat.le_of_ble_eq_true rfl⟩ rfl rfl (Nat.le_of_ble_eq_true rfl) (fun r14 M14 H locs hw h => ?_)
    exact hret r14 M14 _ _ _ ls hw h dX7_row_17
def rmX7_stepX : Room := { frames := 0, cells := 0, slots := 0, locals := 0 }
set_option maxHeartbeats 4000000 in
set_option maxRecDepth 100000 in
theorem qX7_stepX (l : Launch) (D : va_G) (cA : Nat → ClassId) (n : Nat) (x0 : Int32) : mMi l D cA yX7_stepX wsX7_stepX rmX7_stepX (fun _ => [.int x0]) (wpX7_stepX n x0) := by
  intro ad sz M Q hw
  unfold wpX7_stepX at hw
  refine m_enter (cc := cX7_stepX) (maxL := 1) (ret := some .int) (own := RX7) (by decide) rfl rfl (Nat.le_of_ble_eq_true rfl) ?_
  intro p e s m args below meth c hsz X hr hlocks h ls hl
  have hret := @m_iret p l e (headSpec wsX7_stepX rmX7_stepX).room s m args below meth c cX7_stepX D cA ad (va_A (mws cA ad M) sz) Q X.1 X.2.1 hr hlocks X.2.2.2.2.2.1
  obtain ⟨hx, hb, hml, hown, hts, hK, hA⟩ := id X
  have hl : lv_has ls 1 [(0, .int x0)] := hl
  refine lv_iload_n hx hb dX7_stepX_0 rfl (lv_at hl 0 rfl) ?_
  refine lv_if_eq (tgt := 15) hx hb dX7_stepX_1 (by decide) (fun c1 => ?_) (fun c1 => ?_)
  · have hw := hw.1 c1
    refine lv_iconst (v := 1) hx hb dX7_stepX_15 (by decide) ?_
    refine lv_goto (tgt := 35) hx hb dX7_stepX_16 (by decide) ?_
    exact hret 1 M _ _ _ ls hw h dX7_stepX_35
  · have hw := hw.2 c1
    refine lv_iload_n hx hb dX7_stepX_4 rfl (lv_at hl 0 rfl) ?_
    refine lv_iconst (v := 1) hx hb dX7_stepX_5 (by decide) ?_
    refine lv_icmp_eq (tgt := 15) hx hb dX7_stepX_6 (by decide) (fun c6 => ?_) (fun c6 => ?_)
    · have hw := hw.1 c6
      refine lv_iconst (v := 1) hx hb dX7_stepX_15 (by decide) ?_
      refine lv_goto (tgt := 35) hx hb dX7_stepX_16 (by decide) ?_
      exact hret 1 M _ _ _ ls hw h dX7_stepX_35
    · have hw := hw.2 c6
      refine lv_iload_n hx hb dX7_stepX_9 rfl (lv_at hl 0 rfl) ?_
      refine lv_bipush (v := 7) hx hb dX7_stepX_10 (by decide) ?_
      refine lv_icmp_ne (tgt := 19) hx hb dX7_stepX_12 (by decide) (fun c12 => ?_) (fun c12 => ?_)
      · have hw := hw.1 c12
        refine lv_iload_n hx hb dX7_stepX_19 rfl (lv_at hl 0 rfl) ?_
        refine lv_iconst (v := 2) hx hb dX7_stepX_20 (by decide) ?_
        refine lv_icmp_eq (tgt := 30) hx hb dX7_stepX_21 (by decide) (fun c21 => ?_) (fun c21 => ?_)
        · have hw := hw.1 c21
          refine lv_iconst (v := 0) hx hb dX7_stepX_30 (by decide) ?_
          refine lv_goto (tgt := 35) hx hb dX7_stepX_31 (by decide) ?_
          exact hret 0 M _ _ _ ls hw h dX7_stepX_35
        · have hw := hw.2 c21
          refine lv_iload_n hx hb dX7_stepX_24 rfl (lv_at hl 0 rfl) ?_
          refine lv_bipush (v := 6) hx hb dX7_stepX_25 (by decide) ?_
          refine lv_icmp_ne (tgt := 34) hx hb dX7_stepX_27 (by decide) (fun c27 => ?_) (fun c27 => ?_)
          · have hw := hw.1 c27
            refine lv_iconst (v := (-1)) hx hb dX7_stepX_34 (by decide) ?_
            exact hret (-1) M _ _ _ ls hw h dX7_stepX_35
          · have hw := hw.2 c27
            refine lv_iconst (v := 0) hx hb dX7_stepX_30 (by decide) ?_
            refine lv_goto (tgt := 35) hx hb dX7_stepX_31 (by decide) ?_
            exact hret 0 M _ _ _ ls hw h dX7_stepX_35
      · have hw := hw.2 c12
        refine lv_iconst (v := 1) hx hb dX7_stepX_15 (by decide) ?_
        refine lv_goto (tgt := 35) hx hb dX7_stepX_16 (by decide) ?_
        exact hret 1 M _ _ _ ls hw h dX7_stepX_35
def rmX7_stepY : Room := { frames := 0, cells := 0, slots := 0, locals := 0 }
set_option maxHeartbeats 4000000 in
set_option maxRecDepth 100000 in
theorem kX7_stepY_14 {n : Nat} {Q : Int32 → mM → Prop} (X : gX p s m args meth c D cA A cX7_stepY 1 wsX7_stepY RX7) (x0 : Int32)
    (hret : ∀ (r : Int32) (M : mM) (H : Heap) (locs : List Loc) (pc : Nat) (ls : Array Slot), Q r M → mH D cA ad A s.heap M H locs → decode cX7_stepY pc = .ok (.ireturn, 1) → W p l e (headSpec wsX7_stepY rmX7_stepY).room s m args below meth c H locs 0 0 Z (F0 m pc ls [.int r])) :
    ∀ (M : mM) (H : Heap) (locs : List Loc) (ls : Array Slot), wpX7_stepY_14 n Q x0 M → mH D cA ad A s.heap M H locs → lv_has ls 1 [(0, .int x0)] → W p l e (headSpec wsX7_stepY rmX7_stepY).room s m args below meth c H locs 0 0 Z (F0 m 14 ls []) := by
  intro M H locs ls hw h hl
  unfold wpX7_stepY_14 at hw
  obtain ⟨hx, hb, hml, hown, hts, hK, hA⟩ := id X
  refine lv_iload_n hx hb dX7_stepY_14 rfl (lv_at hl 0 rfl) ?_
  refine lv_if_eq (tgt := 23) hx hb dX7_stepY_15 (by decide) (fun c15 => ?_) (fun c15 => ?_)
  · have hw := hw.1 c15
    refine lv_iconst (v := 0) hx hb dX7_stepY_23 (by decide) ?_
    refine lv_goto (tgt := 28) hx hb dX7_stepY_24 (by decide) ?_
    exact hret 0 M _ _ _ ls hw h dX7_stepY_28
  · have hw := hw.2 c15
    refine lv_iload_n hx hb dX7_stepY_18 rfl (lv_at hl 0 rfl) ?_
    refine lv_iconst (v := 4) hx hb dX7_stepY_19 (by decide) ?_
    refine lv_icmp_ne (tgt := 27) hx hb dX7_stepY_20 (by decide) (fun c20 => ?_) (fun c20 => ?_)
    · have hw := hw.1 c20
      refine lv_iconst (v := (-1)) hx hb dX7_stepY_27 (by decide) ?_
      exact hret (-1) M _ _ _ ls hw h dX7_stepY_28
    · have hw := hw.2 c20
      refine lv_iconst (v := 0) hx hb dX7_stepY_23 (by decide) ?_
      refine lv_goto (tgt := 28) hx hb dX7_stepY_24 (by decide) ?_
      exact hret 0 M _ _ _ ls hw h dX7_stepY_28
set_option maxHeartbeats 4000000 in
set_option maxRecDepth 100000 in
theorem qX7_stepY (l : Launch) (D : va_G) (cA : Nat → ClassId) (n : Nat) (x0 : Int32) : mMi l D cA yX7_stepY wsX7_stepY rmX7_stepY (fun _ => [.int x0]) (wpX7_stepY n x0) := by
  intro ad sz M Q hw
  unfold wpX7_stepY at hw
  refine m_enter (cc := cX7_stepY) (maxL := 1) (ret := some .int) (own := RX7) (by decide) rfl rfl (Nat.le_of_ble_eq_true rfl) ?_
  intro p e s m args below meth c hsz X hr hlocks h ls hl
  have hret := @m_iret p l e (headSpec wsX7_stepY rmX7_stepY).room s m args below meth c cX7_stepY D cA ad (va_A (mws cA ad M) sz) Q X.1 X.2.1 hr hlocks X.2.2.2.2.2.1
  obtain ⟨hx, hb, hml, hown, hts, hK, hA⟩ := id X
  have hl : lv_has ls 1 [(0, .int x0)] := hl
  refine lv_iload_n hx hb dX7_stepY_0 rfl (lv_at hl 0 rfl) ?_
  refine lv_iconst (v := 1) hx hb dX7_stepY_1 (by decide) ?_
  refine lv_icmp_lt (tgt := 14) hx hb dX7_stepY_2 (by decide) (fun c2 => ?_) (fun c2 => ?_)
  · have hw := hw.1 c2
    exact kX7_stepY_14 X x0 hret M _ _ ls hw h (lv_sub hl [0] rfl)
  · have hw := hw.2 c2
    refine lv_iload_n hx hb dX7_stepY_5 rfl (lv_at hl 0 rfl) ?_
    refine lv_iconst (v := 3) hx hb dX7_stepY_6 (by decide) ?_
    refine lv_icmp_gt (tgt := 14) hx hb dX7_stepY_7 (by decide) (fun c7 => ?_) (fun c7 => ?_)
    · have hw := hw.1 c7
      exact kX7_stepY_14 X x0 hret M _ _ ls hw h (lv_sub hl [0] rfl)
    · have hw := hw.2 c7
      refine lv_iconst (v := 1) hx hb dX7_stepY_10 (by decide) ?_
      refine lv_goto (tgt := 28) hx hb dX7_stepY_11 (by decide) ?_
      exact hret 1 M _ _ _ ls hw h dX7_stepY_28
def rmX7_look : Room := { frames := 2, cells := 0, slots := 0, locals := 45 }
theorem inX7_look : ∀ w ∈ wsX70, w ∈ wsX7_look := fun w h => List.mem_cons_of_mem _ (List.mem_append_right _ h)
set_option maxHeartbeats 4000000 in
set_option maxRecDepth 100000 in
theorem kX7_look_90 {n : Nat} {R : Int32 → Int32 → mM → Prop} (X : gX p s m args meth c D cA A cX7_look 7 wsX7_look RX7) (x1 : Int32) (x2 : Int32) (x4 : Int32)
    (hR : ∀ (y3 : Int32) (y4 : Int32) (M : mM) (H : Heap) (locs : List Loc) (ls : Array Slot), R y3 y4 M → mH D cA ad A s.heap M H locs → lv_has ls 7 [(0, .ref (ad 0)), (1, .int x1), (2, .int x2), (3, .int y3), (4, .int y4)] → W p l e (headSpec wsX7_look rmX7_look).room s m args below meth c H locs 0 0 Z (F0 m 5 ls [])) :
    ∀ (s0 : Int32) (s1 : Int32) (M : mM) (H : Heap) (locs : List Loc) (ls : Array Slot), wpX7_look_90 n R x1 x2 x4 s0 s1 M → mH D cA ad A s.heap M H locs → lv_has ls 7 [(0, .ref (ad 0)), (1, .int x1), (2, .int x2), (4, .int x4)] → W p l e (headSpec wsX7_look rmX7_look).room s m args below meth c H locs 0 0 Z (F0 m 90 ls [.int s0, .int s1]) := by
  intro s0 s1 M H locs ls hw h hl
  unfold wpX7_look_90 at hw
  obtain ⟨hx, hb, hml, hown, hts, hK, hA⟩ := id X
  refine lv_iadd hx hb dX7_look_90 ?_
  refine lv_topi (fun x3_91 ex3_91 => ?_)
  have hw := hw x3_91 ex3_91
  refine lv_istore_n (lv' := [(3, .int x3_91), (0, .ref (ad 0)), (1, .int x1), (2, .int x2), (4, .int x4)]) hx hb dX7_look_91 rfl hl (by decide) rfl (fun ls hl => ?_)
  obtain ⟨x4_92, ex4_92⟩ : ∃ z : Int32, z = x4 + 1 := ⟨_, rfl⟩
  have hw := hw x4_92 ex4_92
  refine lv_iinc (v := x4_92) (lv' := [(4, .int x4_92), (3, .int x3_91), (0, .ref (ad 0)), (1, .int x1), (2, .int x2)]) hx hb dX7_look_92 hl (k := 4) rfl (by rw [ex4_92]; rfl) (by decide) rfl (fun ls hl => ?_)
  refine lv_goto (tgt := 5) hx hb dX7_look_95 (by decide) ?_
  exact hR x3_91 x4_92 M _ _ ls hw h (lv_sub hl [2, 3, 4, 1, 0] rfl)
set_option maxHeartbeats 4000000 in
set_option maxRecDepth 100000 in
theorem kX7_look_73 {n : Nat} {R : Int32 → Int32 → mM → Prop} (X : gX p s m args meth c D cA A cX7_look 7 wsX7_look RX7) (x1 : Int32) (x2 : Int32) (x3 : Int32) (x4 : Int32)
    (hR : ∀ (y3 : Int32) (y4 : Int32) (M : mM) (H : Heap) (locs : List Loc) (ls : Array Slot), R y3 y4 M → mH D cA ad A s.heap M H locs → lv_has ls 7 [(0, .ref (ad 0)), (1, .int x1), (2, .int x2), (3, .int y3), (4, .int y4)] → W p l e (headSpec wsX7_look rmX7_look).room s m args below meth c H locs 0 0 Z (F0 m 5 ls [])) :
    ∀ (s0 : Int32) (M : mM) (H : Heap) (locs : List Loc) (ls : Array Slot), wpX7_look_73 n R x1 x2 x3 x4 s0 M → mH D cA ad A s.heap M H locs → lv_has ls 7 [(0, .ref (ad 0)), (1, .int x1), (2, .int x2), (3, .int x3), (4, .int x4)] → W p l e (headSpec wsX7_look rmX7_look).room s m args below meth c H locs 0 0 Z (F0 m 73 ls [.int s0, .int x4, .ref (ad 7)]) := by
  intro s0 M H locs ls hw h hl
  unfold wpX7_look_73 at hw
  obtain ⟨hx, hb, hml, hown, hts, hK, hA⟩ := id X
  obtain ⟨hk1, hw⟩ := hw
  obtain ⟨hk2, hw⟩ := hw
  refine m_zast X h 7 (by decide) (by decide) rfl (n := 8) rfl hk1 hk2 dX7_look_73 (fun M73 eM73 H locs h => ?_)
  have hw := hw M73 eM73
  refine lv_iload_n hx hb dX7_look_74 rfl (lv_at hl 3 rfl) ?_
  refine lv_aload_n hx hb dX7_look_75 rfl (lv_at hl 0 rfl) ?_
  refine m_get X inX7_look h 7 (by decide) (by decide +kernel) rfl rfl dX7_look_76 ?_
  refine lv_iload hx hb dX7_look_79 (lv_at hl 4 rfl) ?_
  refine m_zald X h 7 (by decide) (by decide) rfl (n := 8) rfl hk1 dX7_look_81 ?_
  refine lv_if_eq (tgt := 89) hx hb dX7_look_82 (by decide) (fun c82 => ?_) (fun c82 => ?_)
  · have hw := hw.1 c82
    refine lv_iconst (v := 0) hx hb dX7_look_89 (by decide) ?_
    exact kX7_look_90 X x1 x2 x4 hR 0 x3 M73 _ _ ls hw h (lv_sub hl [0, 1, 2, 4] rfl)
  · have hw := hw.2 c82
    refine lv_iconst (v := 1) hx hb dX7_look_85 (by decide) ?_
    refine lv_goto (tgt := 90) hx hb dX7_look_86 (by decide) ?_
    exact kX7_look_90 X x1 x2 x4 hR 1 x3 M73 _ _ ls hw h (lv_sub hl [0, 1, 2, 4] rfl)
set_option maxHeartbeats 4000000 in
set_option maxRecDepth 100000 in
theorem kX7_look_5 {n : Nat} {Q : Int32 → mM → Prop} (X : gX p s m args meth c D cA A cX7_look 7 wsX7_look RX7) (x1 : Int32) (x2 : Int32)
    (hret : ∀ (r : Int32) (M : mM) (H : Heap) (locs : List Loc) (pc : Nat) (ls : Array Slot), Q r M → mH D cA ad A s.heap M H locs → decode cX7_look pc = .ok (.ireturn, 1) → W p l e (headSpec wsX7_look rmX7_look).room s m args below meth c H locs 0 0 Z (F0 m pc ls [.int r])) :
    ∀ (k : Nat) (x3 : Int32) (x4 : Int32) (M : mM) (H : Heap) (locs : List Loc) (ls : Array Slot), wpX7_look_5 n Q x1 x2 k x3 x4 M → mH D cA ad A s.heap M H locs → lv_has ls 7 [(0, .ref (ad 0)), (1, .int x1), (2, .int x2), (3, .int x3), (4, .int x4)] → W p l e (headSpec wsX7_look rmX7_look).room s m args below meth c H locs 0 0 Z (F0 m 5 ls []) := by
  intro k
  induction k with
  | zero => intro x3 x4 M H locs ls hw; exact hw.elim
  | succ k ih =>
    intro x3 x4 M H locs ls hw h hl
    rw [wpX7_look_5] at hw
    obtain ⟨hx, hb, hml, hown, hts, hK, hA⟩ := id X
    refine lv_iload hx hb dX7_look_5 (lv_at hl 4 rfl) ?_
    refine lv_bipush (v := 8) hx hb dX7_look_7 (by decide) ?_
    refine lv_icmp_ge (tgt := 98) hx hb dX7_look_9 (by decide) (fun c9 => ?_) (fun c9 => ?_)
    · have hw := hw.1 c9
      refine lv_iload_n hx hb dX7_look_98 rfl (lv_at hl 3 rfl) ?_
      exact hret x3 M _ _ _ ls hw h dX7_look_99
    · have hw := hw.2 c9
      refine lv_iload_n hx hb dX7_look_12 rfl (lv_at hl 1 rfl) ?_
      refine lv_iload hx hb dX7_look_13 (lv_at hl 4 rfl) ?_
      refine m_callS (n := 1) X h (qX7_stepX l D cA n x4) gX7_look_X7_stepX hw hl.1 dX7_look_15 rfl rfl rfl (by decide +kernel) ⟨Nat.le_of_ble_eq_true rfl, Nat.le_of_ble_eq_true rfl⟩ rfl rfl (Nat.le_of_ble_eq_true rfl) (fun r15 M15 H locs hw h => ?_)
      refine lv_iadd hx hb dX7_look_18 ?_
      refine lv_topi (fun x5_19 ex5_19 => ?_)
      have hw := hw x5_19 ex5_19
      refine lv_istore (lv' := [(5, .int x5_19), (0, .ref (ad 0)), (1, .int x1), (2, .int x2), (3, .int x3), (4, .int x4)]) hx hb dX7_look_19 hl (by decide) rfl (fun ls hl => ?_)
      refine lv_iload_n hx hb dX7_look_21 rfl (lv_at hl 3 rfl) ?_
      refine lv_iload hx hb dX7_look_22 (lv_at hl 5 rfl) ?_
      refine m_callS (n := 1) X h (qX7_stepY l D cA n x4) gX7_look_X7_stepY hw hl.1 dX7_look_24 rfl rfl rfl (by decide +kernel) ⟨Nat.le_of_ble_eq_true rfl, Nat.le_of_ble_eq_true rfl⟩ rfl rfl (Nat.le_of_ble_eq_true rfl) (fun r24 M24 H locs hw h => ?_)
      refine lv_iadd hx hb dX7_look_27 ?_
      refine lv_topi (fun x6_28 ex6_28 => ?_)
      have hw := hw x6_28 ex6_28
      refine lv_istore (lv' := [(6, .int x6_28), (5, .int x5_19), (0, .ref (ad 0)), (1, .int x1), (2, .int x2), (3, .int x3), (4, .int x4)]) hx hb dX7_look_28 hl (by decide) rfl (fun ls hl => ?_)
      refine lv_aload_n hx hb dX7_look_30 rfl (lv_at hl 2 rfl) ?_
      refine m_get X inX7_look h 7 (by decide) (by decide +kernel) rfl rfl dX7_look_31 ?_
      refine lv_iload hx hb dX7_look_34 (lv_at hl 6 rfl) ?_
      refine lv_iload hx hb dX7_look_36 (lv_at hl 1 rfl) ?_
      refine m_callS (n := 1) X h (qX7_isPlace l D cA n x5_19) gX7_look_X7_isPlace hw hl.1 dX7_look_38 rfl rfl rfl (by decide +kernel) ⟨Nat.le_of_ble_eq_true rfl, Nat.le_of_ble_eq_true rfl⟩ rfl rfl (Nat.le_of_ble_eq_true rfl) (fun r38 M38 H locs hw h => ?_)
      refine lv_if_eq (tgt := 72) hx hb dX7_look_41 (by decide) (fun c41 => ?_) (fun c41 => ?_)
      · have hw := hw.1 c41
        refine lv_iconst (v := 0) hx hb dX7_look_72 (by decide) ?_
        exact kX7_look_73 X x1 x2 x3 x4 ih 0 M38 _ _ ls hw h (lv_sub hl [2, 3, 4, 5, 6] rfl)
      · have hw := hw.2 c41
        refine lv_iload hx hb dX7_look_44 (lv_at hl 0 rfl) ?_
        refine m_callS (n := 1) X h (qX7_isPlace l D cA n x6_28) gX7_look_X7_isPlace hw hl.1 dX7_look_46 rfl rfl rfl (by decide +kernel) ⟨Nat.le_of_ble_eq_true rfl, Nat.le_of_ble_eq_true rfl⟩ rfl rfl (Nat.le_of_ble_eq_true rfl) (fun r46 M46 H locs hw h => ?_)
        refine lv_if_eq (tgt := 72) hx hb dX7_look_49 (by decide) (fun c49 => ?_) (fun c49 => ?_)
        · have hw := hw.1 c49
          refine lv_iconst (v := 0) hx hb dX7_look_72 (by decide) ?_
          exact kX7_look_73 X x1 x2 x3 x4 ih 0 M46 _ _ ls hw h (lv_sub hl [2, 3, 4, 5, 6] rfl)
        · have hw := hw.2 c49
          refine lv_aload_n hx hb dX7_look_52 rfl (lv_at hl 2 rfl) ?_
          refine m_get X inX7_look h 5 (by decide) (by decide +kernel) rfl rfl dX7_look_53 ?_
          refine lv_bipush (v := 24) hx hb dX7_look_56 (by decide) ?_
          refine lv_iload hx hb dX7_look_58 (lv_at hl 0 rfl) ?_
          refine lv_imul hx hb dX7_look_60 ?_
          refine lv_iload hx hb dX7_look_61 (lv_at hl 1 rfl) ?_
          refine lv_iadd hx hb dX7_look_63 ?_
          obtain ⟨hk3, hw⟩ := hw
          refine m_zald X h 5 (by decide) (by decide) rfl (n := 576) rfl hk3 dX7_look_64 ?_
          refine lv_if_eq (tgt := 72) hx hb dX7_look_65 (by decide) (fun c65 => ?_) (fun c65 => ?_)
          · have hw := hw.1 c65
            refine lv_iconst (v := 0) hx hb dX7_look_72 (by decide) ?_
            exact kX7_look_73 X x1 x2 x3 x4 ih 0 M46 _ _ ls hw h (lv_sub hl [2, 3, 4, 5, 6] rfl)
          · have hw := hw.2 c65
            refine lv_iconst (v := 1) hx hb dX7_look_68 (by decide) ?_
            refine lv_goto (tgt := 73) hx hb dX7_look_69 (by decide) ?_
            exact kX7_look_73 X x1 x2 x3 x4 ih 1 M46 _ _ ls hw h (lv_sub hl [2, 3, 4, 5, 6] rfl)
set_option maxHeartbeats 4000000 in
set_option maxRecDepth 100000 in
theorem qX7_look (l : Launch) (D : va_G) (cA : Nat → ClassId) (n : Nat) (x1 : Int32) (x2 : Int32) : mMi l D cA yX7_look wsX7_look rmX7_look (fun ad => [.ref (ad 0), .int x1, .int x2]) (wpX7_look n x1 x2) := by
  intro ad sz M Q hw
  unfold wpX7_look at hw
  refine m_enter (cc := cX7_look) (maxL := 7) (ret := some .int) (own := RX7) (by decide) rfl rfl (Nat.le_of_ble_eq_true rfl) ?_
  intro p e s m args below meth c hsz X hr hlocks h ls hl
  have hret := @m_iret p l e (headSpec wsX7_look rmX7_look).room s m args below meth c cX7_look D cA ad (va_A (mws cA ad M) sz) Q X.1 X.2.1 hr hlocks X.2.2.2.2.2.1
  obtain ⟨hx, hb, hml, hown, hts, hK, hA⟩ := id X
  have hl : lv_has ls 7 [(0, .ref (ad 0)), (1, .int x1), (2, .int x2)] := hl
  refine lv_iconst (v := 0) hx hb dX7_look_0 (by decide) ?_
  refine lv_istore_n (lv' := [(3, .int 0), (0, .ref (ad 0)), (1, .int x1), (2, .int x2)]) hx hb dX7_look_1 rfl hl (by decide) rfl (fun ls hl => ?_)
  refine lv_iconst (v := 0) hx hb dX7_look_2 (by decide) ?_
  refine lv_istore (lv' := [(4, .int 0), (3, .int 0), (0, .ref (ad 0)), (1, .int x1), (2, .int x2)]) hx hb dX7_look_3 hl (by decide) rfl (fun ls hl => ?_)
  exact kX7_look_5 X x1 x2 hret n 0 0 M _ _ ls hw h (lv_sub hl [2, 3, 4, 1, 0] rfl)
def rmX7_changes : Room := { frames := 0, cells := 0, slots := 0, locals := 0 }
theorem inX7_changes : ∀ w ∈ wsX70, w ∈ wsX7_changes := fun w h => List.mem_cons_of_mem _ (List.mem_append_right _ h)
set_option maxHeartbeats 4000000 in
set_option maxRecDepth 100000 in
theorem kX7_changes_39 {n : Nat} {R : Int32 → Int32 → mM → Prop} (X : gX p s m args meth c D cA A cX7_changes 3 wsX7_changes RX7) (x2 : Int32)
    (hR : ∀ (y1 : Int32) (y2 : Int32) (M : mM) (H : Heap) (locs : List Loc) (ls : Array Slot), R y1 y2 M → mH D cA ad A s.heap M H locs → lv_has ls 3 [(0, .ref (ad 0)), (1, .int y1), (2, .int y2)] → W p l e (headSpec wsX7_changes rmX7_changes).room s m args below meth c H locs 0 0 Z (F0 m 4 ls [])) :
    ∀ (s0 : Int32) (s1 : Int32) (M : mM) (H : Heap) (locs : List Loc) (ls : Array Slot), wpX7_changes_39 n R x2 s0 s1 M → mH D cA ad A s.heap M H locs → lv_has ls 3 [(0, .ref (ad 0)), (2, .int x2)] → W p l e (headSpec wsX7_changes rmX7_changes).room s m args below meth c H locs 0 0 Z (F0 m 39 ls [.int s0, .int s1]) := by
  intro s0 s1 M H locs ls hw h hl
  unfold wpX7_changes_39 at hw
  obtain ⟨hx, hb, hml, hown, hts, hK, hA⟩ := id X
  refine lv_iadd hx hb dX7_changes_39 ?_
  refine lv_topi (fun x1_40 ex1_40 => ?_)
  have hw := hw x1_40 ex1_40
  refine lv_istore_n (lv' := [(1, .int x1_40), (0, .ref (ad 0)), (2, .int x2)]) hx hb dX7_changes_40 rfl hl (by decide) rfl (fun ls hl => ?_)
  obtain ⟨x2_41, ex2_41⟩ : ∃ z : Int32, z = x2 + 1 := ⟨_, rfl⟩
  have hw := hw x2_41 ex2_41
  refine lv_iinc (v := x2_41) (lv' := [(2, .int x2_41), (1, .int x1_40), (0, .ref (ad 0))]) hx hb dX7_changes_41 hl (k := 2) rfl (by rw [ex2_41]; rfl) (by decide) rfl (fun ls hl => ?_)
  refine lv_goto (tgt := 4) hx hb dX7_changes_44 (by decide) ?_
  exact hR x1_40 x2_41 M _ _ ls hw h (lv_sub hl [2, 1, 0] rfl)
set_option maxHeartbeats 4000000 in
set_option maxRecDepth 100000 in
theorem kX7_changes_4 {n : Nat} {Q : Int32 → mM → Prop} (X : gX p s m args meth c D cA A cX7_changes 3 wsX7_changes RX7)
    (hret : ∀ (r : Int32) (M : mM) (H : Heap) (locs : List Loc) (pc : Nat) (ls : Array Slot), Q r M → mH D cA ad A s.heap M H locs → decode cX7_changes pc = .ok (.ireturn, 1) → W p l e (headSpec wsX7_changes rmX7_changes).room s m args below meth c H locs 0 0 Z (F0 m pc ls [.int r])) :
    ∀ (k : Nat) (x1 : Int32) (x2 : Int32) (M : mM) (H : Heap) (locs : List Loc) (ls : Array Slot), wpX7_changes_4 n Q k x1 x2 M → mH D cA ad A s.heap M H locs → lv_has ls 3 [(0, .ref (ad 0)), (1, .int x1), (2, .int x2)] → W p l e (headSpec wsX7_changes rmX7_changes).room s m args below meth c H locs 0 0 Z (F0 m 4 ls []) := by
  intro k
  induction k with
  | zero => intro x1 x2 M H locs ls hw; exact hw.elim
  | succ k ih =>
    intro x1 x2 M H locs ls hw h hl
    rw [wpX7_changes_4] at hw
    obtain ⟨hx, hb, hml, hown, hts, hK, hA⟩ := id X
    refine lv_iload_n hx hb dX7_changes_4 rfl (lv_at hl 2 rfl) ?_
    refine lv_bipush (v := 8) hx hb dX7_changes_5 (by decide) ?_
    refine lv_icmp_ge (tgt := 47) hx hb dX7_changes_7 (by decide) (fun c7 => ?_) (fun c7 => ?_)
    · have hw := hw.1 c7
      refine lv_iload_n hx hb dX7_changes_47 rfl (lv_at hl 1 rfl) ?_
      exact hret x1 M _ _ _ ls hw h dX7_changes_48
    · have hw := hw.2 c7
      refine lv_iload_n hx hb dX7_changes_10 rfl (lv_at hl 1 rfl) ?_
      refine lv_aload_n hx hb dX7_changes_11 rfl (lv_at hl 0 rfl) ?_
      refine m_get X inX7_changes h 7 (by decide) (by decide +kernel) rfl rfl dX7_changes_12 ?_
      refine lv_iload_n hx hb dX7_changes_15 rfl (lv_at hl 2 rfl) ?_
      obtain ⟨hk1, hw⟩ := hw
      refine m_zald X h 7 (by decide) (by decide) rfl (n := 8) rfl hk1 dX7_changes_16 ?_
      refine lv_if_ne (tgt := 38) hx hb dX7_changes_17 (by decide) (fun c17 => ?_) (fun c17 => ?_)
      · have hw := hw.1 c17
        refine lv_iconst (v := 0) hx hb dX7_changes_38 (by decide) ?_
        exact kX7_changes_39 X x2 ih 0 x1 M _ _ ls hw h (lv_sub hl [0, 2] rfl)
      · have hw := hw.2 c17
        refine lv_aload_n hx hb dX7_changes_20 rfl (lv_at hl 0 rfl) ?_
        refine m_get X inX7_changes h 7 (by decide) (by decide +kernel) rfl rfl dX7_changes_21 ?_
        refine lv_iload_n hx hb dX7_changes_24 rfl (lv_at hl 2 rfl) ?_
        refine lv_iconst (v := 1) hx hb dX7_changes_25 (by decide) ?_
        refine lv_iadd hx hb dX7_changes_26 ?_
        refine lv_bipush (v := 8) hx hb dX7_changes_27 (by decide) ?_
        refine lv_irem hx hb dX7_changes_29 (by decide) ?_
        obtain ⟨hk2, hw⟩ := hw
        refine m_zald X h 7 (by decide) (by decide) rfl (n := 8) rfl hk2 dX7_changes_30 ?_
        refine lv_if_eq (tgt := 38) hx hb dX7_changes_31 (by decide) (fun c31 => ?_) (fun c31 => ?_)
        · have hw := hw.1 c31
          refine lv_iconst (v := 0) hx hb dX7_changes_38 (by decide) ?_
          exact kX7_changes_39 X x2 ih 0 x1 M _ _ ls hw h (lv_sub hl [0, 2] rfl)
        · have hw := hw.2 c31
          refine lv_iconst (v := 1) hx hb dX7_changes_34 (by decide) ?_
          refine lv_goto (tgt := 39) hx hb dX7_changes_35 (by decide) ?_
          exact kX7_changes_39 X x2 ih 1 x1 M _ _ ls hw h (lv_sub hl [0, 2] rfl)
set_option maxHeartbeats 4000000 in
set_option maxRecDepth 100000 in
theorem qX7_changes (l : Launch) (D : va_G) (cA : Nat → ClassId) (n : Nat) : mMi l D cA yX7_changes wsX7_changes rmX7_changes (fun ad => [.ref (ad 0)]) (wpX7_changes n) := by
  intro ad sz M Q hw
  unfold wpX7_changes at hw
  refine m_enter (cc := cX7_changes) (maxL := 3) (ret := some .int) (own := RX7) (by decide) rfl rfl (Nat.le_of_ble_eq_true rfl) ?_
  intro p e s m args below meth c hsz X hr hlocks h ls hl
  have hret := @m_iret p l e (headSpec wsX7_changes rmX7_changes).room s m args below meth c cX7_changes D cA ad (va_A (mws cA ad M) sz) Q X.1 X.2.1 hr hlocks X.2.2.2.2.2.1
  obtain ⟨hx, hb, hml, hown, hts, hK, hA⟩ := id X
  have hl : lv_has ls 3 [(0, .ref (ad 0))] := hl
  refine lv_iconst (v := 0) hx hb dX7_changes_0 (by decide) ?_
  refine lv_istore_n (lv' := [(1, .int 0), (0, .ref (ad 0))]) hx hb dX7_changes_1 rfl hl (by decide) rfl (fun ls hl => ?_)
  refine lv_iconst (v := 0) hx hb dX7_changes_2 (by decide) ?_
  refine lv_istore_n (lv' := [(2, .int 0), (1, .int 0), (0, .ref (ad 0))]) hx hb dX7_changes_3 rfl hl (by decide) rfl (fun ls hl => ?_)
  exact kX7_changes_4 X hret n 0 0 M _ _ ls hw h (lv_sub hl [2, 1, 0] rfl)
end KM
