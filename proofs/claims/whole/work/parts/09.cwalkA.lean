section KC
variable {p : Program} {l : Launch} {e : Env} {s : State} {m : MethodId} {args : Array Value} {below : List Frame} {meth : Method} {c : Code} {Z : State → Prop} {D : va_G} {cA : Nat → ClassId} {A : Nat → Prop} {ad : Nat → Nat}
def rmJ6_bitCount_0f7a4 : Room := { frames := 0, cells := 0, slots := 0, locals := 0 }
set_option maxHeartbeats 4000000 in
set_option maxRecDepth 100000 in
theorem qJ6_bitCount_0f7a4 (l : Launch) (D : va_G) (cA : Nat → ClassId) (n : Nat) (x0 : Int32) : cMi l D cA yJ6_bitCount_0f7a4 wsJ6_bitCount_0f7a4 rmJ6_bitCount_0f7a4 (fun _ => [.int x0]) (wpJ6_bitCount_0f7a4 n x0) := by
  intro ad sz C Q hw
  unfold wpJ6_bitCount_0f7a4 at hw
  refine c_enter (cc := cJ6_bitCount_0f7a4) (maxL := 1) (ret := some .int) (own := RJ6) (by decide) rfl rfl (Nat.le_of_ble_eq_true rfl) ?_
  intro p e s m args below meth c hsz X hr hlocks h ls hl
  have hret := c_iret (p := p) (l := l) (e := e) (R := (headSpec wsJ6_bitCount_0f7a4 rmJ6_bitCount_0f7a4).room) (s := s) (m := m) (args := args) (below := below) (meth := meth) (c := c) (cc := cJ6_bitCount_0f7a4) (D := D) (cA := cA) (ad := ad) (A := va_A (cws cA ad C) sz) (Q := Q) X.1.1 X.1.2.1 hr hlocks X.1.2.2.2.2.2.1
  obtain ⟨⟨hx, hb, hml, hown, hts, hK, hA⟩, hN⟩ := id X
  have hl : lv_has ls 1 [(0, .int x0)] := hl
  refine lv_iload_n hx hb dJ6_bitCount_0f7a4_0 rfl (lv_at hl 0 rfl) ?_
  refine lv_iload_n hx hb dJ6_bitCount_0f7a4_1 rfl (lv_at hl 0 rfl) ?_
  refine lv_iconst (v := 1) hx hb dJ6_bitCount_0f7a4_2 (by decide) ?_
  refine lv_iushr (v := ush x0 1) hx hb dJ6_bitCount_0f7a4_3 rfl ?_
  refine lv_ldcw (v := 1431655765) hx hb hown (hts (.constant RJ6 265 (1431655765)) (by decide +kernel)) dJ6_bitCount_0f7a4_4 ?_
  refine lv_iand hx hb dJ6_bitCount_0f7a4_7 ?_
  refine lv_isub hx hb dJ6_bitCount_0f7a4_8 ?_
  refine lv_topi (fun x0_9 ex0_9 => ?_)
  have hw := hw x0_9 ex0_9
  refine lv_istore_n (lv' := [(0, .int x0_9)]) hx hb dJ6_bitCount_0f7a4_9 rfl hl (by decide) rfl (fun ls hl => ?_)
  refine lv_iload_n hx hb dJ6_bitCount_0f7a4_10 rfl (lv_at hl 0 rfl) ?_
  refine lv_ldcw (v := 858993459) hx hb hown (hts (.constant RJ6 266 (858993459)) (by decide +kernel)) dJ6_bitCount_0f7a4_11 ?_
  refine lv_iand hx hb dJ6_bitCount_0f7a4_14 ?_
  refine lv_iload_n hx hb dJ6_bitCount_0f7a4_15 rfl (lv_at hl 0 rfl) ?_
  refine lv_iconst (v := 2) hx hb dJ6_bitCount_0f7a4_16 (by decide) ?_
  refine lv_iushr (v := ush x0_9 2) hx hb dJ6_bitCount_0f7a4_17 rfl ?_
  refine lv_ldcw (v := 858993459) hx hb hown (hts (.constant RJ6 266 (858993459)) (by decide +kernel)) dJ6_bitCount_0f7a4_18 ?_
  refine lv_iand hx hb dJ6_bitCount_0f7a4_21 ?_
  refine lv_iadd hx hb dJ6_bitCount_0f7a4_22 ?_
  refine lv_topi (fun x0_23 ex0_23 => ?_)
  have hw := hw x0_23 ex0_23
  refine lv_istore_n (lv' := [(0, .int x0_23)]) hx hb dJ6_bitCount_0f7a4_23 rfl hl (by decide) rfl (fun ls hl => ?_)
  refine lv_iload_n hx hb dJ6_bitCount_0f7a4_24 rfl (lv_at hl 0 rfl) ?_
  refine lv_iload_n hx hb dJ6_bitCount_0f7a4_25 rfl (lv_at hl 0 rfl) ?_
  refine lv_iconst (v := 4) hx hb dJ6_bitCount_0f7a4_26 (by decide) ?_
  refine lv_iushr (v := ush x0_23 4) hx hb dJ6_bitCount_0f7a4_27 rfl ?_
  refine lv_iadd hx hb dJ6_bitCount_0f7a4_28 ?_
  refine lv_ldcw (v := 252645135) hx hb hown (hts (.constant RJ6 267 (252645135)) (by decide +kernel)) dJ6_bitCount_0f7a4_29 ?_
  refine lv_iand hx hb dJ6_bitCount_0f7a4_32 ?_
  refine lv_topi (fun x0_33 ex0_33 => ?_)
  have hw := hw x0_33 ex0_33
  refine lv_istore_n (lv' := [(0, .int x0_33)]) hx hb dJ6_bitCount_0f7a4_33 rfl hl (by decide) rfl (fun ls hl => ?_)
  refine lv_iload_n hx hb dJ6_bitCount_0f7a4_34 rfl (lv_at hl 0 rfl) ?_
  refine lv_iload_n hx hb dJ6_bitCount_0f7a4_35 rfl (lv_at hl 0 rfl) ?_
  refine lv_bipush (v := 8) hx hb dJ6_bitCount_0f7a4_36 (by decide) ?_
  refine lv_iushr (v := ush x0_33 8) hx hb dJ6_bitCount_0f7a4_38 rfl ?_
  refine lv_iadd hx hb dJ6_bitCount_0f7a4_39 ?_
  refine lv_topi (fun x0_40 ex0_40 => ?_)
  have hw := hw x0_40 ex0_40
  refine lv_istore_n (lv' := [(0, .int x0_40)]) hx hb dJ6_bitCount_0f7a4_40 rfl hl (by decide) rfl (fun ls hl => ?_)
  refine lv_iload_n hx hb dJ6_bitCount_0f7a4_41 rfl (lv_at hl 0 rfl) ?_
  refine lv_iload_n hx hb dJ6_bitCount_0f7a4_42 rfl (lv_at hl 0 rfl) ?_
  refine lv_bipush (v := 16) hx hb dJ6_bitCount_0f7a4_43 (by decide) ?_
  refine lv_iushr (v := ush x0_40 16) hx hb dJ6_bitCount_0f7a4_45 rfl ?_
  refine lv_iadd hx hb dJ6_bitCount_0f7a4_46 ?_
  refine lv_topi (fun x0_47 ex0_47 => ?_)
  have hw := hw x0_47 ex0_47
  refine lv_istore_n (lv' := [(0, .int x0_47)]) hx hb dJ6_bitCount_0f7a4_47 rfl hl (by decide) rfl (fun ls hl => ?_)
  refine lv_iload_n hx hb dJ6_bitCount_0f7a4_48 rfl (lv_at hl 0 rfl) ?_
  refine lv_bipush (v := 63) hx hb dJ6_bitCount_0f7a4_49 (by decide) ?_
  refine lv_iand hx hb dJ6_bitCount_0f7a4_51 ?_
  exact hret (x0_47 &&& 63) C _ _ _ ls hw h dJ6_bitCount_0f7a4_52
def rmJ13_bitCount_95d88 : Room := { frames := 0, cells := 0, slots := 0, locals := 0 }
set_option maxHeartbeats 4000000 in
set_option maxRecDepth 100000 in
theorem qJ13_bitCount_95d88 (l : Launch) (D : va_G) (cA : Nat → ClassId) (n : Nat) (x0 : Int64) : cMi l D cA yJ13_bitCount_95d88 wsJ13_bitCount_95d88 rmJ13_bitCount_95d88 (fun _ => [.long x0]) (wpJ13_bitCount_95d88 n x0) := by
  intro ad sz C Q hw
  unfold wpJ13_bitCount_95d88 at hw
  refine c_enter (cc := cJ13_bitCount_95d88) (maxL := 2) (ret := some .int) (own := RJ13) (by decide) rfl rfl (Nat.le_of_ble_eq_true rfl) ?_
  intro p e s m args below meth c hsz X hr hlocks h ls hl
  have hret := c_iret (p := p) (l := l) (e := e) (R := (headSpec wsJ13_bitCount_95d88 rmJ13_bitCount_95d88).room) (s := s) (m := m) (args := args) (below := below) (meth := meth) (c := c) (cc := cJ13_bitCount_95d88) (D := D) (cA := cA) (ad := ad) (A := va_A (cws cA ad C) sz) (Q := Q) X.1.1 X.1.2.1 hr hlocks X.1.2.2.2.2.2.1
  obtain ⟨⟨hx, hb, hml, hown, hts, hK, hA⟩, hN⟩ := id X
  have hl : lv_has ls 2 [(0, .long x0)] := hl
  refine lv_lload_n hx hb dJ13_bitCount_95d88_0 rfl (lv_at hl 0 rfl) ?_
  refine lv_lload_n hx hb dJ13_bitCount_95d88_1 rfl (lv_at hl 0 rfl) ?_
  refine lv_iconst (v := 1) hx hb dJ13_bitCount_95d88_2 (by decide) ?_
  refine lv_lushr (v := lush x0 1) hx hb dJ13_bitCount_95d88_3 rfl ?_
  refine lv_ldc2 (v := 6148914691236517205) hx hb hown (hts (.constantLong RJ13 314 (6148914691236517205)) (by decide +kernel)) dJ13_bitCount_95d88_4 ?_
  refine lv_land hx hb dJ13_bitCount_95d88_7 ?_
  refine lv_lsub hx hb dJ13_bitCount_95d88_8 ?_
  refine lv_topl (fun x0_9 ex0_9 => ?_)
  have hw := hw x0_9 ex0_9
  refine lv_lstore_n (lv' := [(0, .long x0_9)]) hx hb dJ13_bitCount_95d88_9 rfl hl (by decide) rfl (fun ls hl => ?_)
  refine lv_lload_n hx hb dJ13_bitCount_95d88_10 rfl (lv_at hl 0 rfl) ?_
  refine lv_ldc2 (v := 3689348814741910323) hx hb hown (hts (.constantLong RJ13 316 (3689348814741910323)) (by decide +kernel)) dJ13_bitCount_95d88_11 ?_
  refine lv_land hx hb dJ13_bitCount_95d88_14 ?_
  refine lv_lload_n hx hb dJ13_bitCount_95d88_15 rfl (lv_at hl 0 rfl) ?_
  refine lv_iconst (v := 2) hx hb dJ13_bitCount_95d88_16 (by decide) ?_
  refine lv_lushr (v := lush x0_9 2) hx hb dJ13_bitCount_95d88_17 rfl ?_
  refine lv_ldc2 (v := 3689348814741910323) hx hb hown (hts (.constantLong RJ13 316 (3689348814741910323)) (by decide +kernel)) dJ13_bitCount_95d88_18 ?_
  refine lv_land hx hb dJ13_bitCount_95d88_21 ?_
  refine lv_ladd hx hb dJ13_bitCount_95d88_22 ?_
  refine lv_topl (fun x0_23 ex0_23 => ?_)
  have hw := hw x0_23 ex0_23
  refine lv_lstore_n (lv' := [(0, .long x0_23)]) hx hb dJ13_bitCount_95d88_23 rfl hl (by decide) rfl (fun ls hl => ?_)
  refine lv_lload_n hx hb dJ13_bitCount_95d88_24 rfl (lv_at hl 0 rfl) ?_
  refine lv_lload_n hx hb dJ13_bitCount_95d88_25 rfl (lv_at hl 0 rfl) ?_
  refine lv_iconst (v := 4) hx hb dJ13_bitCount_95d88_26 (by decide) ?_
  refine lv_lushr (v := lush x0_23 4) hx hb dJ13_bitCount_95d88_27 rfl ?_
  refine lv_ladd hx hb dJ13_bitCount_95d88_28 ?_
  refine lv_ldc2 (v := 1085102592571150095) hx hb hown (hts (.constantLong RJ13 318 (1085102592571150095)) (by decide +kernel)) dJ13_bitCount_95d88_29 ?_
  refine lv_land hx hb dJ13_bitCount_95d88_32 ?_
  refine lv_topl (fun x0_33 ex0_33 => ?_)
  have hw := hw x0_33 ex0_33
  refine lv_lstore_n (lv' := [(0, .long x0_33)]) hx hb dJ13_bitCount_95d88_33 rfl hl (by decide) rfl (fun ls hl => ?_)
  refine lv_lload_n hx hb dJ13_bitCount_95d88_34 rfl (lv_at hl 0 rfl) ?_
  refine lv_lload_n hx hb dJ13_bitCount_95d88_35 rfl (lv_at hl 0 rfl) ?_
  refine lv_bipush (v := 8) hx hb dJ13_bitCount_95d88_36 (by decide) ?_
  refine lv_lushr (v := lush x0_33 8) hx hb dJ13_bitCount_95d88_38 rfl ?_
  refine lv_ladd hx hb dJ13_bitCount_95d88_39 ?_
  refine lv_topl (fun x0_40 ex0_40 => ?_)
  have hw := hw x0_40 ex0_40
  refine lv_lstore_n (lv' := [(0, .long x0_40)]) hx hb dJ13_bitCount_95d88_40 rfl hl (by decide) rfl (fun ls hl => ?_)
  refine lv_lload_n hx hb dJ13_bitCount_95d88_41 rfl (lv_at hl 0 rfl) ?_
  refine lv_lload_n hx hb dJ13_bitCount_95d88_42 rfl (lv_at hl 0 rfl) ?_
  refine lv_bipush (v := 16) hx hb dJ13_bitCount_95d88_43 (by decide) ?_
  refine lv_lushr (v := lush x0_40 16) hx hb dJ13_bitCount_95d88_45 rfl ?_
  refine lv_ladd hx hb dJ13_bitCount_95d88_46 ?_
  refine lv_topl (fun x0_47 ex0_47 => ?_)
  have hw := hw x0_47 ex0_47
  refine lv_lstore_n (lv' := [(0, .long x0_47)]) hx hb dJ13_bitCount_95d88_47 rfl hl (by decide) rfl (fun ls hl => ?_)
  refine lv_lload_n hx hb dJ13_bitCount_95d88_48 rfl (lv_at hl 0 rfl) ?_
  refine lv_lload_n hx hb dJ13_bitCount_95d88_49 rfl (lv_at hl 0 rfl) ?_
  refine lv_bipush (v := 32) hx hb dJ13_bitCount_95d88_50 (by decide) ?_
  refine lv_lushr (v := lush x0_47 32) hx hb dJ13_bitCount_95d88_52 rfl ?_
  refine lv_ladd hx hb dJ13_bitCount_95d88_53 ?_
  refine lv_topl (fun x0_54 ex0_54 => ?_)
  have hw := hw x0_54 ex0_54
  refine lv_lstore_n (lv' := [(0, .long x0_54)]) hx hb dJ13_bitCount_95d88_54 rfl hl (by decide) rfl (fun ls hl => ?_)
  refine lv_lload_n hx hb dJ13_bitCount_95d88_55 rfl (lv_at hl 0 rfl) ?_
  refine lv_l2i hx hb dJ13_bitCount_95d88_56 rfl ?_
  refine lv_bipush (v := 127) hx hb dJ13_bitCount_95d88_57 (by decide) ?_
  refine lv_iand hx hb dJ13_bitCount_95d88_59 ?_
  exact hret ((x0_54.toInt32) &&& 127) C _ _ _ ls hw h dJ13_bitCount_95d88_60
def rmX6_isOnBoard : Room := { frames := 0, cells := 0, slots := 0, locals := 0 }
set_option maxHeartbeats 4000000 in
set_option maxRecDepth 100000 in
theorem qX6_isOnBoard (l : Launch) (D : va_G) (cA : Nat → ClassId) (n : Nat) (x0 : Int32) : cMi l D cA yX6_isOnBoard wsX6_isOnBoard rmX6_isOnBoard (fun _ => [.int x0]) (wpX6_isOnBoard n x0) := by
  intro ad sz C Q hw
  unfold wpX6_isOnBoard at hw
  refine c_enter (cc := cX6_isOnBoard) (maxL := 1) (ret := some .boolean) (own := RX6) (by decide) rfl rfl (Nat.le_of_ble_eq_true rfl) ?_
  intro p e s m args below meth c hsz X hr hlocks h ls hl
  have hret := c_zret (p := p) (l := l) (e := e) (R := (headSpec wsX6_isOnBoard rmX6_isOnBoard).room) (s := s) (m := m) (args := args) (below := below) (meth := meth) (c := c) (cc := cX6_isOnBoard) (D := D) (cA := cA) (ad := ad) (A := va_A (cws cA ad C) sz) (Q := Q) X.1.1 X.1.2.1 hr hlocks X.1.2.2.2.2.2.1
  obtain ⟨⟨hx, hb, hml, hown, hts, hK, hA⟩, hN⟩ := id X
  have hl : lv_has ls 1 [(0, .int x0)] := hl
  refine lv_iload_n hx hb dX6_isOnBoard_0 rfl (lv_at hl 0 rfl) ?_
  refine lv_if_lt (tgt := 14) hx hb dX6_isOnBoard_1 (by decide) (fun c1 => ?_) (fun c1 => ?_)
  · have hw := hw.1 c1
    refine lv_iconst (v := 0) hx hb dX6_isOnBoard_14 (by decide) ?_
    exact hret 0 C _ _ _ ls hw h dX6_isOnBoard_15
  · have hw := hw.2 c1
    refine lv_iload_n hx hb dX6_isOnBoard_4 rfl (lv_at hl 0 rfl) ?_
    refine lv_bipush (v := 24) hx hb dX6_isOnBoard_5 (by decide) ?_
    refine lv_icmp_ge (tgt := 14) hx hb dX6_isOnBoard_7 (by decide) (fun c7 => ?_) (fun c7 => ?_)
    · have hw := hw.1 c7
      refine lv_iconst (v := 0) hx hb dX6_isOnBoard_14 (by decide) ?_
      exact hret 0 C _ _ _ ls hw h dX6_isOnBoard_15
    · have hw := hw.2 c7
      refine lv_iconst (v := 1) hx hb dX6_isOnBoard_10 (by decide) ?_
      refine lv_goto (tgt := 15) hx hb dX6_isOnBoard_11 (by decide) ?_
      exact hret 1 C _ _ _ ls hw h dX6_isOnBoard_15
def rmX6_isShift : Room := { frames := 0, cells := 0, slots := 0, locals := 0 }
set_option maxHeartbeats 4000000 in
set_option maxRecDepth 100000 in
theorem qX6_isShift (l : Launch) (D : va_G) (cA : Nat → ClassId) (n : Nat) (x0 : Int32) : cMi l D cA yX6_isShift wsX6_isShift rmX6_isShift (fun _ => [.int x0]) (wpX6_isShift n x0) := by
  intro ad sz C Q hw
  unfold wpX6_isShift at hw
  refine c_enter (cc := cX6_isShift) (maxL := 1) (ret := some .boolean) (own := RX6) (by decide) rfl rfl (Nat.le_of_ble_eq_true rfl) ?_
  intro p e s m args below meth c hsz X hr hlocks h ls hl
  have hret := c_zret (p := p) (l := l) (e := e) (R := (headSpec wsX6_isShift rmX6_isShift).room) (s := s) (m := m) (args := args) (below := below) (meth := meth) (c := c) (cc := cX6_isShift) (D := D) (cA := cA) (ad := ad) (A := va_A (cws cA ad C) sz) (Q := Q) X.1.1 X.1.2.1 hr hlocks X.1.2.2.2.2.2.1
  obtain ⟨⟨hx, hb, hml, hown, hts, hK, hA⟩, hN⟩ := id X
  have hl : lv_has ls 1 [(0, .int x0)] := hl
  refine lv_iload_n hx hb dX6_isShift_0 rfl (lv_at hl 0 rfl) ?_
  refine lv_bipush (v := (-8)) hx hb dX6_isShift_1 (by decide) ?_
  refine lv_icmp_lt (tgt := 16) hx hb dX6_isShift_3 (by decide) (fun c3 => ?_) (fun c3 => ?_)
  · have hw := hw.1 c3
    refine lv_iconst (v := 0) hx hb dX6_isShift_16 (by decide) ?_
    exact hret 0 C _ _ _ ls hw h dX6_isShift_17
  · have hw := hw.2 c3
    refine lv_iload_n hx hb dX6_isShift_6 rfl (lv_at hl 0 rfl) ?_
    refine lv_bipush (v := 8) hx hb dX6_isShift_7 (by decide) ?_
    refine lv_icmp_gt (tgt := 16) hx hb dX6_isShift_9 (by decide) (fun c9 => ?_) (fun c9 => ?_)
    · have hw := hw.1 c9
      refine lv_iconst (v := 0) hx hb dX6_isShift_16 (by decide) ?_
      exact hret 0 C _ _ _ ls hw h dX6_isShift_17
    · have hw := hw.2 c9
      refine lv_iconst (v := 1) hx hb dX6_isShift_12 (by decide) ?_
      refine lv_goto (tgt := 17) hx hb dX6_isShift_13 (by decide) ?_
      exact hret 1 C _ _ _ ls hw h dX6_isShift_17
def rmX6_isAhead : Room := { frames := 0, cells := 0, slots := 0, locals := 0 }
set_option maxHeartbeats 4000000 in
set_option maxRecDepth 100000 in
theorem qX6_isAhead (l : Launch) (D : va_G) (cA : Nat → ClassId) (n : Nat) (x0 : Int32) (x1 : Int32) (x2 : Int32) (x3 : Int32) : cMi l D cA yX6_isAhead wsX6_isAhead rmX6_isAhead (fun _ => [.int x0, .int x1, .int x2, .int x3]) (wpX6_isAhead n x0 x1 x2 x3) := by
  intro ad sz C Q hw
  unfold wpX6_isAhead at hw
  refine c_enter (cc := cX6_isAhead) (maxL := 4) (ret := some .boolean) (own := RX6) (by decide) rfl rfl (Nat.le_of_ble_eq_true rfl) ?_
  intro p e s m args below meth c hsz X hr hlocks h ls hl
  have hret := c_zret (p := p) (l := l) (e := e) (R := (headSpec wsX6_isAhead rmX6_isAhead).room) (s := s) (m := m) (args := args) (below := below) (meth := meth) (c := c) (cc := cX6_isAhead) (D := D) (cA := cA) (ad := ad) (A := va_A (cws cA ad C) sz) (Q := Q) X.1.1 X.1.2.1 hr hlocks X.1.2.2.2.2.2.1
  obtain ⟨⟨hx, hb, hml, hown, hts, hK, hA⟩, hN⟩ := id X
  have hl : lv_has ls 4 [(0, .int x0), (1, .int x1), (2, .int x2), (3, .int x3)] := hl
  refine lv_iload_n hx hb dX6_isAhead_0 rfl (lv_at hl 0 rfl) ?_
  refine lv_iload_n hx hb dX6_isAhead_1 rfl (lv_at hl 2 rfl) ?_
  refine lv_icmp_gt (tgt := 15) hx hb dX6_isAhead_2 (by decide) (fun c2 => ?_) (fun c2 => ?_)
  · have hw := hw.1 c2
    refine lv_iconst (v := 1) hx hb dX6_isAhead_15 (by decide) ?_
    refine lv_goto (tgt := 20) hx hb dX6_isAhead_16 (by decide) ?_
    exact hret 1 C _ _ _ ls hw h dX6_isAhead_20
  · have hw := hw.2 c2
    refine lv_iload_n hx hb dX6_isAhead_5 rfl (lv_at hl 0 rfl) ?_
    refine lv_iload_n hx hb dX6_isAhead_6 rfl (lv_at hl 2 rfl) ?_
    refine lv_icmp_ne (tgt := 19) hx hb dX6_isAhead_7 (by decide) (fun c7 => ?_) (fun c7 => ?_)
    · have hw := hw.1 c7
      refine lv_iconst (v := 0) hx hb dX6_isAhead_19 (by decide) ?_
      exact hret 0 C _ _ _ ls hw h dX6_isAhead_20
    · have hw := hw.2 c7
      refine lv_iload_n hx hb dX6_isAhead_10 rfl (lv_at hl 1 rfl) ?_
      refine lv_iload_n hx hb dX6_isAhead_11 rfl (lv_at hl 3 rfl) ?_
      refine lv_icmp_ge (tgt := 19) hx hb dX6_isAhead_12 (by decide) (fun c12 => ?_) (fun c12 => ?_)
      · have hw := hw.1 c12
        refine lv_iconst (v := 0) hx hb dX6_isAhead_19 (by decide) ?_
        exact hret 0 C _ _ _ ls hw h dX6_isAhead_20
      · have hw := hw.2 c12
        refine lv_iconst (v := 1) hx hb dX6_isAhead_15 (by decide) ?_
        refine lv_goto (tgt := 20) hx hb dX6_isAhead_16 (by decide) ?_
        exact hret 1 C _ _ _ ls hw h dX6_isAhead_20
def rmX6_refuse : Room := { frames := 0, cells := 0, slots := 0, locals := 0 }
theorem inX6_refuse_X6 : ∀ w ∈ wsX60, w ∈ wsX6_refuse := fun w h => List.mem_cons_of_mem _ (List.mem_append_right _ h)
set_option maxHeartbeats 4000000 in
set_option maxRecDepth 100000 in
theorem qX6_refuse (l : Launch) (D : va_G) (cA : Nat → ClassId) (n : Nat) (x1 : Int32) : cMi l D cA yX6_refuse wsX6_refuse rmX6_refuse (fun ad => [.ref (ad 0), .int x1]) (wpX6_refuse n x1) := by
  intro ad sz C Q hw
  unfold wpX6_refuse at hw
  refine c_enter (cc := cX6_refuse) (maxL := 2) (ret := some .int) (own := RX6) (by decide) rfl rfl (Nat.le_of_ble_eq_true rfl) ?_
  intro p e s m args below meth c hsz X hr hlocks h ls hl
  have hret := c_iret (p := p) (l := l) (e := e) (R := (headSpec wsX6_refuse rmX6_refuse).room) (s := s) (m := m) (args := args) (below := below) (meth := meth) (c := c) (cc := cX6_refuse) (D := D) (cA := cA) (ad := ad) (A := va_A (cws cA ad C) sz) (Q := Q) X.1.1 X.1.2.1 hr hlocks X.1.2.2.2.2.2.1
  obtain ⟨⟨hx, hb, hml, hown, hts, hK, hA⟩, hN⟩ := id X
  have hl : lv_has ls 2 [(0, .ref (ad 0)), (1, .int x1)] := hl
  refine lv_aload_n hx hb dX6_refuse_0 rfl (lv_at hl 0 rfl) ?_
  refine lv_iload_n hx hb dX6_refuse_1 rfl (lv_at hl 1 rfl) ?_
  refine c_put X.1 h (cids_f (by decide)) 0 rfl (by decide) rfl inX6_refuse_X6 tyX6 tyX6_ok nmX6 7 (by decide) (by decide +kernel) rfl rfl rfl rfl (Nat.le_of_ble_eq_true rfl) (fun _ _ => rfl) dX6_refuse_2 (fun C2 eC2 H locs h => ?_)
  have hw := hw C2 eC2
  refine lv_iload_n hx hb dX6_refuse_5 rfl (lv_at hl 1 rfl) ?_
  exact hret x1 C2 _ _ _ ls hw h dX6_refuse_6
def rmX4_clear : Room := { frames := 0, cells := 0, slots := 0, locals := 0 }
theorem inX4_clear_X4 : ∀ w ∈ wsX40, w ∈ wsX4_clear := fun w h => List.mem_cons_of_mem _ (List.mem_append_right _ h)
set_option maxHeartbeats 4000000 in
set_option maxRecDepth 100000 in
theorem qX4_clear (l : Launch) (D : va_G) (cA : Nat → ClassId) (n : Nat) (x0 : Nat) : cMv l D cA yX4_clear wsX4_clear rmX4_clear (fun ad => [.ref (ad x0)]) (wpX4_clear n x0) := by
  intro ad sz C Q hw
  unfold wpX4_clear at hw
  refine c_enter (cc := cX4_clear) (maxL := 1) (ret := none) (own := RX4) (by decide) rfl rfl (Nat.le_of_ble_eq_true rfl) ?_
  intro p e s m args below meth c hsz X hr hlocks h ls hl
  have hret := c_vret (p := p) (l := l) (e := e) (R := (headSpec wsX4_clear rmX4_clear).room) (s := s) (m := m) (args := args) (below := below) (meth := meth) (c := c) (cc := cX4_clear) (D := D) (cA := cA) (ad := ad) (A := va_A (cws cA ad C) sz) (Q := Q) X.1.1 X.1.2.1 hr hlocks X.1.2.2.2.2.2.1
  obtain ⟨⟨hx, hb, hml, hown, hts, hK, hA⟩, hN⟩ := id X
  have hl : lv_has ls 1 [(0, .ref (ad x0))] := hl
  refine lv_aload_n hx hb dX4_clear_0 rfl (lv_at hl 0 rfl) ?_
  refine lv_iconst (v := 0) hx hb dX4_clear_1 (by decide) ?_
  obtain ⟨hk1, hw⟩ := hw
  refine c_put X.1 h (tal_in hk1) 8 (tal_k hk1) (by decide) rfl inX4_clear_X4 tyX4 tyX4_ok nmX4 0 (by decide) (by decide +kernel) rfl rfl rfl rfl (Nat.le_of_ble_eq_true rfl) (fun _ _ => rfl) dX4_clear_2 (fun C2 eC2 H locs h => ?_)
  have hw := hw C2 eC2
  refine lv_aload_n hx hb dX4_clear_5 rfl (lv_at hl 0 rfl) ?_
  refine lv_iconst (v := 0) hx hb dX4_clear_6 (by decide) ?_
  refine c_put X.1 h (tal_in hk1) 8 (tal_k hk1) (by decide) rfl inX4_clear_X4 tyX4 tyX4_ok nmX4 1 (by decide) (by decide +kernel) rfl rfl rfl rfl (Nat.le_of_ble_eq_true rfl) (fun _ _ => rfl) dX4_clear_7 (fun C7 eC7 H locs h => ?_)
  have hw := hw C7 eC7
  refine lv_aload_n hx hb dX4_clear_10 rfl (lv_at hl 0 rfl) ?_
  refine lv_iconst (v := 0) hx hb dX4_clear_11 (by decide) ?_
  refine c_put X.1 h (tal_in hk1) 8 (tal_k hk1) (by decide) rfl inX4_clear_X4 tyX4 tyX4_ok nmX4 2 (by decide) (by decide +kernel) rfl rfl rfl rfl (Nat.le_of_ble_eq_true rfl) (fun _ _ => rfl) dX4_clear_12 (fun C12 eC12 H locs h => ?_)
  have hw := hw C12 eC12
  exact hret C12 _ _ _ ls hw h dX4_clear_15
def rmX4_add : Room := { frames := 0, cells := 0, slots := 0, locals := 0 }
theorem inX4_add_X4 : ∀ w ∈ wsX40, w ∈ wsX4_add := fun w h => List.mem_cons_of_mem _ (List.mem_append_right _ h)
set_option maxHeartbeats 4000000 in
set_option maxRecDepth 100000 in
theorem qX4_add (l : Launch) (D : va_G) (cA : Nat → ClassId) (n : Nat) (x0 : Nat) (x1 : Int32) : cMv l D cA yX4_add wsX4_add rmX4_add (fun ad => [.ref (ad x0), .int x1]) (wpX4_add n x0 x1) := by
  intro ad sz C Q hw
  unfold wpX4_add at hw
  refine c_enter (cc := cX4_add) (maxL := 2) (ret := none) (own := RX4) (by decide) rfl rfl (Nat.le_of_ble_eq_true rfl) ?_
  intro p e s m args below meth c hsz X hr hlocks h ls hl
  have hret := c_vret (p := p) (l := l) (e := e) (R := (headSpec wsX4_add rmX4_add).room) (s := s) (m := m) (args := args) (below := below) (meth := meth) (c := c) (cc := cX4_add) (D := D) (cA := cA) (ad := ad) (A := va_A (cws cA ad C) sz) (Q := Q) X.1.1 X.1.2.1 hr hlocks X.1.2.2.2.2.2.1
  obtain ⟨⟨hx, hb, hml, hown, hts, hK, hA⟩, hN⟩ := id X
  have hl : lv_has ls 2 [(0, .ref (ad x0)), (1, .int x1)] := hl
  refine lv_aload_n hx hb dX4_add_0 rfl (lv_at hl 0 rfl) ?_
  refine lv_dup hx hb dX4_add_1 rfl ?_
  obtain ⟨hk1, hw⟩ := hw
  refine c_get X.1 h (tal_in hk1) 8 (tal_k hk1) (by decide) rfl inX4_add_X4 2 (by decide) (by decide +kernel) rfl rfl dX4_add_2 ?_
  refine lv_aload_n hx hb dX4_add_5 rfl (lv_at hl 0 rfl) ?_
  refine c_get X.1 h (tal_in hk1) 8 (tal_k hk1) (by decide) rfl inX4_add_X4 1 (by decide) (by decide +kernel) rfl rfl dX4_add_6 ?_
  refine lv_iload_n hx hb dX4_add_9 rfl (lv_at hl 1 rfl) ?_
  refine lv_iand hx hb dX4_add_10 ?_
  refine lv_ior hx hb dX4_add_11 ?_
  refine c_put X.1 h (tal_in hk1) 8 (tal_k hk1) (by decide) rfl inX4_add_X4 tyX4 tyX4_ok nmX4 2 (by decide) (by decide +kernel) rfl rfl rfl rfl (Nat.le_of_ble_eq_true rfl) (fun _ _ => rfl) dX4_add_12 (fun C12 eC12 H locs h => ?_)
  have hw := hw C12 eC12
  refine lv_aload_n hx hb dX4_add_15 rfl (lv_at hl 0 rfl) ?_
  refine lv_dup hx hb dX4_add_16 rfl ?_
  refine c_get X.1 h (tal_in hk1) 8 (tal_k hk1) (by decide) rfl inX4_add_X4 1 (by decide) (by decide +kernel) rfl rfl dX4_add_17 ?_
  refine lv_aload_n hx hb dX4_add_20 rfl (lv_at hl 0 rfl) ?_
  refine c_get X.1 h (tal_in hk1) 8 (tal_k hk1) (by decide) rfl inX4_add_X4 0 (by decide) (by decide +kernel) rfl rfl dX4_add_21 ?_
  refine lv_iload_n hx hb dX4_add_24 rfl (lv_at hl 1 rfl) ?_
  refine lv_iand hx hb dX4_add_25 ?_
  refine lv_ior hx hb dX4_add_26 ?_
  refine c_put X.1 h (tal_in hk1) 8 (tal_k hk1) (by decide) rfl inX4_add_X4 tyX4 tyX4_ok nmX4 1 (by decide) (by decide +kernel) rfl rfl rfl rfl (Nat.le_of_ble_eq_true rfl) (fun _ _ => rfl) dX4_add_27 (fun C27 eC27 H locs h => ?_)
  have hw := hw C27 eC27
  refine lv_aload_n hx hb dX4_add_30 rfl (lv_at hl 0 rfl) ?_
  refine lv_dup hx hb dX4_add_31 rfl ?_
  refine c_get X.1 h (tal_in hk1) 8 (tal_k hk1) (by decide) rfl inX4_add_X4 0 (by decide) (by decide +kernel) rfl rfl dX4_add_32 ?_
  refine lv_iload_n hx hb dX4_add_35 rfl (lv_at hl 1 rfl) ?_
  refine lv_ior hx hb dX4_add_36 ?_
  refine c_put X.1 h (tal_in hk1) 8 (tal_k hk1) (by decide) rfl inX4_add_X4 tyX4 tyX4_ok nmX4 0 (by decide) (by decide +kernel) rfl rfl rfl rfl (Nat.le_of_ble_eq_true rfl) (fun _ _ => rfl) dX4_add_37 (fun C37 eC37 H locs h => ?_)
  have hw := hw C37 eC37
  exact hret C37 _ _ _ ls hw h dX4_add_40
def rmX4_justOne : Room := { frames := 0, cells := 0, slots := 0, locals := 0 }
theorem inX4_justOne_X4 : ∀ w ∈ wsX40, w ∈ wsX4_justOne := fun w h => List.mem_cons_of_mem _ (List.mem_append_right _ h)
set_option maxHeartbeats 4000000 in
set_option maxRecDepth 100000 in
theorem qX4_justOne (l : Launch) (D : va_G) (cA : Nat → ClassId) (n : Nat) (x0 : Nat) : cMi l D cA yX4_justOne wsX4_justOne rmX4_justOne (fun ad => [.ref (ad x0)]) (wpX4_justOne n x0) := by
  intro ad sz C Q hw
  unfold wpX4_justOne at hw
  refine c_enter (cc := cX4_justOne) (maxL := 1) (ret := some .int) (own := RX4) (by decide) rfl rfl (Nat.le_of_ble_eq_true rfl) ?_
  intro p e s m args below meth c hsz X hr hlocks h ls hl
  have hret := c_iret (p := p) (l := l) (e := e) (R := (headSpec wsX4_justOne rmX4_justOne).room) (s := s) (m := m) (args := args) (below := below) (meth := meth) (c := c) (cc := cX4_justOne) (D := D) (cA := cA) (ad := ad) (A := va_A (cws cA ad C) sz) (Q := Q) X.1.1 X.1.2.1 hr hlocks X.1.2.2.2.2.2.1
  obtain ⟨⟨hx, hb, hml, hown, hts, hK, hA⟩, hN⟩ := id X
  have hl : lv_has ls 1 [(0, .ref (ad x0))] := hl
  refine lv_aload_n hx hb dX4_justOne_0 rfl (lv_at hl 0 rfl) ?_
  obtain ⟨hk1, hw⟩ := hw
  refine c_get X.1 h (tal_in hk1) 8 (tal_k hk1) (by decide) rfl inX4_justOne_X4 0 (by decide) (by decide +kernel) rfl rfl dX4_justOne_1 ?_
  refine lv_aload_n hx hb dX4_justOne_4 rfl (lv_at hl 0 rfl) ?_
  refine c_get X.1 h (tal_in hk1) 8 (tal_k hk1) (by decide) rfl inX4_justOne_X4 1 (by decide) (by decide +kernel) rfl rfl dX4_justOne_5 ?_
  refine lv_iconst (v := (-1)) hx hb dX4_justOne_8 (by decide) ?_
  refine lv_ixor hx hb dX4_justOne_9 ?_
  refine lv_iand hx hb dX4_justOne_10 ?_
  exact hret ((cI C x0 0) &&& ((cI C x0 1) ^^^ (-1))) C _ _ _ ls hw h dX4_justOne_11
def rmX3_rowAt : Room := { frames := 0, cells := 0, slots := 0, locals := 0 }
set_option maxHeartbeats 4000000 in
set_option maxRecDepth 100000 in
theorem qX3_rowAt (l : Launch) (D : va_G) (cA : Nat → ClassId) (n : Nat) (x0 : Nat) (x1 : Int32) : cMi l D cA yX3_rowAt wsX3_rowAt rmX3_rowAt (fun ad => [.ref (ad (64 + 8 * x0 + 2)), .int x1]) (wpX3_rowAt n x0 x1) := by
  intro ad sz C Q hw
  unfold wpX3_rowAt at hw
  refine c_enter (cc := cX3_rowAt) (maxL := 2) (ret := some .int) (own := RX3) (by decide) rfl rfl (Nat.le_of_ble_eq_true rfl) ?_
  intro p e s m args below meth c hsz X hr hlocks h ls hl
  have hret := c_iret (p := p) (l := l) (e := e) (R := (headSpec wsX3_rowAt rmX3_rowAt).room) (s := s) (m := m) (args := args) (below := below) (meth := meth) (c := c) (cc := cX3_rowAt) (D := D) (cA := cA) (ad := ad) (A := va_A (cws cA ad C) sz) (Q := Q) X.1.1 X.1.2.1 hr hlocks X.1.2.2.2.2.2.1
  obtain ⟨⟨hx, hb, hml, hown, hts, hK, hA⟩, hN⟩ := id X
  have hl : lv_has ls 2 [(0, .ref (ad (64 + 8 * x0 + 2))), (1, .int x1)] := hl
  refine lv_iload_n hx hb dX3_rowAt_0 rfl (lv_at hl 1 rfl) ?_
  refine lv_if_lt (tgt := 16) hx hb dX3_rowAt_1 (by decide) (fun c1 => ?_) (fun c1 => ?_)
  · have hw := hw.1 c1
    refine lv_iconst (v := 0) hx hb dX3_rowAt_16 (by decide) ?_
    exact hret 0 C _ _ _ ls hw h dX3_rowAt_17
  · have hw := hw.2 c1
    refine lv_iload_n hx hb dX3_rowAt_4 rfl (lv_at hl 1 rfl) ?_
    refine lv_aload_n hx hb dX3_rowAt_5 rfl (lv_at hl 0 rfl) ?_
    obtain ⟨hk1, hw⟩ := hw
    refine c_alenI X.1 h (cids_b hk1.1 2 (by decide)) (ckind_ba hk1.2 (by decide) (by decide)) (v := 24) (by rw [ilen_ba (by decide)]; rfl) dX3_rowAt_6 ?_
    refine lv_icmp_ge (tgt := 16) hx hb dX3_rowAt_7 (by decide) (fun c7 => ?_) (fun c7 => ?_)
    · have hw := hw.1 c7
      refine lv_iconst (v := 0) hx hb dX3_rowAt_16 (by decide) ?_
      exact hret 0 C _ _ _ ls hw h dX3_rowAt_17
    · have hw := hw.2 c7
      refine lv_aload_n hx hb dX3_rowAt_10 rfl (lv_at hl 0 rfl) ?_
      refine lv_iload_n hx hb dX3_rowAt_11 rfl (lv_at hl 1 rfl) ?_
      obtain ⟨hk2, hw⟩ := hw
      refine c_iald X.1 h (cids_b hk1.1 2 (by decide)) (ckind_ba hk1.2 (by decide) (by decide)) (n := 24) (ilen_ba (by decide)) hk2 dX3_rowAt_12 ?_
      refine lv_goto (tgt := 17) hx hb dX3_rowAt_13 (by decide) ?_
      exact hret (cI C (64 + 8 * x0 + 2) x1.toNatClampNeg) C _ _ _ ls hw h dX3_rowAt_17
def rmX3_look : Room := { frames := 1, cells := 0, slots := 0, locals := 21 }
theorem inX3_look_X3 : ∀ w ∈ wsX30, w ∈ wsX3_look := fun w h => List.mem_cons_of_mem _ (List.mem_append_left _ (List.mem_append_right _ h))
theorem inX3_look_X4 : ∀ w ∈ wsX40, w ∈ wsX3_look := fun w h => List.mem_cons_of_mem _ (List.mem_append_right _ h)
set_option maxHeartbeats 4000000 in
set_option maxRecDepth 100000 in
theorem kX3_look_153 {n : Nat} {R : Int32 → cM → Prop} (X : cX p s m args meth c D cA A cX3_look 7 wsX3_look RX3) (x5 : Int32)
    (hR : ∀ (y5 : Int32) (C : cM) (H : Heap) (locs : List Loc) (ls : Array Slot), R y5 C → cH D cA ad A s.heap C H locs → lv_has ls 7 [(0, .ref (ad 6)), (5, .int y5)] → W p l e (headSpec wsX3_look rmX3_look).room s m args below meth c H locs 0 0 Z (F0 m 129 ls [])) :
    ∀ (s0 : Int32) (C : cM) (H : Heap) (locs : List Loc) (ls : Array Slot), wpX3_look_153 n R x5 s0 C → cH D cA ad A s.heap C H locs → lv_has ls 7 [(0, .ref (ad 6)), (5, .int x5)] → W p l e (headSpec wsX3_look rmX3_look).room s m args below meth c H locs 0 0 Z (F0 m 153 ls [.int s0]) := by
  intro s0 C H locs ls hw h hl
  unfold wpX3_look_153 at hw
  obtain ⟨⟨hx, hb, hml, hown, hts, hK, hA⟩, hN⟩ := id X
  refine lv_istore (lv' := [(6, .int s0), (0, .ref (ad 6)), (5, .int x5)]) hx hb dX3_look_153 hl (by decide) rfl (fun ls hl => ?_)
  refine lv_aload_n hx hb dX3_look_155 rfl (lv_at hl 1 rfl) ?_
  refine c_get X.1 h (cids_f (by decide)) 6 rfl (by decide) rfl inX3_look_X3 1 (by decide) (by decide +kernel) rfl rfl dX3_look_156 ?_
  refine lv_aload_n hx hb dX3_look_159 rfl (lv_at hl 1 rfl) ?_
  refine c_get X.1 h (cids_f (by decide)) 6 rfl (by decide) rfl inX3_look_X3 0 (by decide) (by decide +kernel) rfl rfl dX3_look_160 ?_
  refine lv_iload hx hb dX3_look_163 (lv_at hl 2 rfl) ?_
  obtain ⟨hk1, hw⟩ := hw
  refine c_iald X.1 h (cids_f (by decide)) rfl (n := 8) rfl hk1 dX3_look_165 ?_
  refine c_gov X h (c_runV (n := 1) X h (cids_f (by decide)) 8 rfl (by decide) rfl (qX4_add l D cA n 9 (cI C 8 x5.toNatClampNeg) ad _ _ _ hw) gX3_look_X4_add hl.1 dX3_look_166 rfl rfl rfl (by decide +kernel) ⟨Nat.le_of_ble_eq_true rfl, Nat.le_of_ble_eq_true rfl⟩ rfl rfl (Nat.le_of_ble_eq_true rfl) ⟨Nat.zero_le _, Nat.zero_le _⟩) (fun C166 H locs hw h => ?_)
  refine lv_aload_n hx hb dX3_look_169 rfl (lv_at hl 1 rfl) ?_
  refine c_get X.1 h (cids_f (by decide)) 6 rfl (by decide) rfl inX3_look_X3 2 (by decide) (by decide +kernel) rfl rfl dX3_look_170 ?_
  refine lv_aload_n hx hb dX3_look_173 rfl (lv_at hl 1 rfl) ?_
  refine c_get X.1 h (cids_f (by decide)) 6 rfl (by decide) rfl inX3_look_X3 0 (by decide) (by decide +kernel) rfl rfl dX3_look_174 ?_
  refine lv_iload hx hb dX3_look_177 (lv_at hl 2 rfl) ?_
  refine c_iald X.1 h (cids_f (by decide)) rfl (n := 8) rfl hk1 dX3_look_179 ?_
  refine lv_iconst (v := (-1)) hx hb dX3_look_180 (by decide) ?_
  refine lv_ixor hx hb dX3_look_181 ?_
  refine c_gov X h (c_runV (n := 1) X h (cids_f (by decide)) 8 rfl (by decide) rfl (qX4_add l D cA n 10 ((cI C166 8 x5.toNatClampNeg) ^^^ (-1)) ad _ _ _ hw) gX3_look_X4_add hl.1 dX3_look_182 rfl rfl rfl (by decide +kernel) ⟨Nat.le_of_ble_eq_true rfl, Nat.le_of_ble_eq_true rfl⟩ rfl rfl (Nat.le_of_ble_eq_true rfl) ⟨Nat.zero_le _, Nat.zero_le _⟩) (fun C182 H locs hw h => ?_)
  refine lv_aload_n hx hb dX3_look_185 rfl (lv_at hl 1 rfl) ?_
  refine c_get X.1 h (cids_f (by decide)) 6 rfl (by decide) rfl inX3_look_X3 3 (by decide) (by decide +kernel) rfl rfl dX3_look_186 ?_
  refine lv_aload_n hx hb dX3_look_189 rfl (lv_at hl 1 rfl) ?_
  refine c_get X.1 h (cids_f (by decide)) 6 rfl (by decide) rfl inX3_look_X3 0 (by decide) (by decide +kernel) rfl rfl dX3_look_190 ?_
  refine lv_iload hx hb dX3_look_193 (lv_at hl 2 rfl) ?_
  refine c_iald X.1 h (cids_f (by decide)) rfl (n := 8) rfl hk1 dX3_look_195 ?_
  refine lv_iconst (v := (-1)) hx hb dX3_look_196 (by decide) ?_
  refine lv_ixor hx hb dX3_look_197 ?_
  refine lv_aload_n hx hb dX3_look_198 rfl (lv_at hl 1 rfl) ?_
  refine c_get X.1 h (cids_f (by decide)) 6 rfl (by decide) rfl inX3_look_X3 0 (by decide) (by decide +kernel) rfl rfl dX3_look_199 ?_
  refine lv_iload hx hb dX3_look_202 (lv_at hl 0 rfl) ?_
  obtain ⟨hk2, hw⟩ := hw
  refine c_iald X.1 h (cids_f (by decide)) rfl (n := 8) rfl hk2 dX3_look_204 ?_
  refine lv_iand hx hb dX3_look_205 ?_
  refine c_gov X h (c_runV (n := 1) X h (cids_f (by decide)) 8 rfl (by decide) rfl (qX4_add l D cA n 11 (((cI C182 8 x5.toNatClampNeg) ^^^ (-1)) &&& (cI C182 8 s0.toNatClampNeg)) ad _ _ _ hw) gX3_look_X4_add hl.1 dX3_look_206 rfl rfl rfl (by decide +kernel) ⟨Nat.le_of_ble_eq_true rfl, Nat.le_of_ble_eq_true rfl⟩ rfl rfl (Nat.le_of_ble_eq_true rfl) ⟨Nat.zero_le _, Nat.zero_le _⟩) (fun C206 H locs hw h => ?_)
  obtain ⟨x5_209, ex5_209⟩ : ∃ z : Int32, z = x5 + 1 := ⟨_, rfl⟩
  have hw := hw x5_209 ex5_209
  refine lv_iinc (v := x5_209) (lv' := [(5, .int x5_209), (6, .int s0), (0, .ref (ad 6))]) hx hb dX3_look_209 hl (k := 2) rfl (by rw [ex5_209]; rfl) (by decide) rfl (fun ls hl => ?_)
  refine lv_goto (tgt := 129) hx hb dX3_look_212 (by decide) ?_
  exact hR x5_209 C206 _ _ ls hw h (lv_sub hl [2, 0] rfl)
set_option maxHeartbeats 4000000 in
set_option maxRecDepth 100000 in
theorem kX3_look_129 {n : Nat} {Q : cM → Prop} (X : cX p s m args meth c D cA A cX3_look 7 wsX3_look RX3)
    (hret : ∀ (C : cM) (H : Heap) (locs : List Loc) (pc : Nat) (ls : Array Slot), Q C → cH D cA ad A s.heap C H locs → decode cX3_look pc = .ok (.return_, 1) → W p l e (headSpec wsX3_look rmX3_look).room s m args below meth c H locs 0 0 Z (F0 m pc ls [])) :
    ∀ (k : Nat) (x5 : Int32) (C : cM) (H : Heap) (locs : List Loc) (ls : Array Slot), wpX3_look_129 n Q k x5 C → cH D cA ad A s.heap C H locs → lv_has ls 7 [(0, .ref (ad 6)), (5, .int x5)] → W p l e (headSpec wsX3_look rmX3_look).room s m args below meth c H locs 0 0 Z (F0 m 129 ls []) := by
  intro k
  induction k with
  | zero => intro x5 C H locs ls hw; exact hw.elim
  | succ k ih =>
    intro x5 C H locs ls hw h hl
    rw [wpX3_look_129] at hw
    obtain ⟨⟨hx, hb, hml, hown, hts, hK, hA⟩, hN⟩ := id X
    refine lv_iload hx hb dX3_look_129 (lv_at hl 1 rfl) ?_
    refine lv_bipush (v := 8) hx hb dX3_look_131 (by decide) ?_
    refine lv_icmp_ge (tgt := 215) hx hb dX3_look_133 (by decide) (fun c133 => ?_) (fun c133 => ?_)
    · have hw := hw.1 c133
      exact hret C _ _ _ ls hw h dX3_look_215
    · have hw := hw.2 c133
      refine lv_iload hx hb dX3_look_136 (lv_at hl 1 rfl) ?_
      refine lv_iconst (v := 1) hx hb dX3_look_138 (by decide) ?_
      refine lv_iadd hx hb dX3_look_139 ?_
      refine lv_bipush (v := 8) hx hb dX3_look_140 (by decide) ?_
      refine lv_icmp_ge (tgt := 152) hx hb dX3_look_142 (by decide) (fun c142 => ?_) (fun c142 => ?_)
      · have hw := hw.1 c142
        refine lv_iconst (v := 0) hx hb dX3_look_152 (by decide) ?_
        exact kX3_look_153 X x5 ih 0 C _ _ ls hw h (lv_sub hl [0, 1] rfl)
      · have hw := hw.2 c142
        refine lv_iload hx hb dX3_look_145 (lv_at hl 1 rfl) ?_
        refine lv_iconst (v := 1) hx hb dX3_look_147 (by decide) ?_
        refine lv_iadd hx hb dX3_look_148 ?_
        refine lv_goto (tgt := 153) hx hb dX3_look_149 (by decide) ?_
        exact kX3_look_153 X x5 ih (x5 + 1) C _ _ ls hw h (lv_sub hl [0, 1] rfl)
set_option maxHeartbeats 4000000 in
set_option maxRecDepth 100000 in
theorem qX3_look (l : Launch) (D : va_G) (cA : Nat → ClassId) (n : Nat) (x1 : Nat) (x2 : Int32) : cMv l D cA yX3_look wsX3_look rmX3_look (fun ad => [.ref (ad 6), .ref (ad (64 + 8 * x1 + 2)), .int x2]) (wpX3_look n x1 x2) := by
  intro ad sz C Q hw
  unfold wpX3_look at hw
  refine c_enter (cc := cX3_look) (maxL := 7) (ret := none) (own := RX3) (by decide) rfl rfl (Nat.le_of_ble_eq_true rfl) ?_
  intro p e s m args below meth c hsz X hr hlocks h ls hl
  have hret := c_vret (p := p) (l := l) (e := e) (R := (headSpec wsX3_look rmX3_look).room) (s := s) (m := m) (args := args) (below := below) (meth := meth) (c := c) (cc := cX3_look) (D := D) (cA := cA) (ad := ad) (A := va_A (cws cA ad C) sz) (Q := Q) X.1.1 X.1.2.1 hr hlocks X.1.2.2.2.2.2.1
  obtain ⟨⟨hx, hb, hml, hown, hts, hK, hA⟩, hN⟩ := id X
  have hl : lv_has ls 7 [(0, .ref (ad 6)), (1, .ref (ad (64 + 8 * x1 + 2))), (2, .int x2)] := hl
  refine lv_aload_n hx hb dX3_look_0 rfl (lv_at hl 0 rfl) ?_
  refine lv_aload_n hx hb dX3_look_1 rfl (lv_at hl 1 rfl) ?_
  refine lv_iload_n hx hb dX3_look_2 rfl (lv_at hl 2 rfl) ?_
  refine c_goi X h (c_runS (n := 2) X h (qX3_rowAt l D cA n x1 x2 ad _ _ _ hw) gX3_look_X3_rowAt hl.1 dX3_look_3 rfl rfl rfl (by decide +kernel) ⟨Nat.le_of_ble_eq_true rfl, Nat.le_of_ble_eq_true rfl⟩ rfl rfl (Nat.le_of_ble_eq_true rfl) ⟨Nat.zero_le _, Nat.zero_le _⟩) (fun r3 C3 H locs hw h => ?_)
  refine c_put X.1 h (cids_f (by decide)) 6 rfl (by decide) rfl inX3_look_X3 tyX3 tyX3_ok nmX3 4 (by decide) (by decide +kernel) rfl rfl rfl rfl (Nat.le_of_ble_eq_true rfl) (fun _ _ => rfl) dX3_look_6 (fun C6 eC6 H locs h => ?_)
  have hw := hw C6 eC6
  refine lv_aload_n hx hb dX3_look_9 rfl (lv_at hl 1 rfl) ?_
  refine lv_iload_n hx hb dX3_look_10 rfl (lv_at hl 2 rfl) ?_
  refine lv_iconst (v := 1) hx hb dX3_look_11 (by decide) ?_
  refine lv_iadd hx hb dX3_look_12 ?_
  refine c_goi X h (c_runS (n := 2) X h (qX3_rowAt l D cA n x1 (x2 + 1) ad _ _ _ hw) gX3_look_X3_rowAt hl.1 dX3_look_13 rfl rfl rfl (by decide +kernel) ⟨Nat.le_of_ble_eq_true rfl, Nat.le_of_ble_eq_true rfl⟩ rfl rfl (Nat.le_of_ble_eq_true rfl) ⟨Nat.zero_le _, Nat.zero_le _⟩) (fun r13 C13 H locs hw h => ?_)
  refine lv_istore_n (lv' := [(3, .int r13), (0, .ref (ad 6)), (1, .ref (ad (64 + 8 * x1 + 2))), (2, .int x2)]) hx hb dX3_look_16 rfl hl (by decide) rfl (fun ls hl => ?_)
  refine lv_aload_n hx hb dX3_look_17 rfl (lv_at hl 2 rfl) ?_
  refine lv_iload_n hx hb dX3_look_18 rfl (lv_at hl 3 rfl) ?_
  refine lv_iconst (v := 1) hx hb dX3_look_19 (by decide) ?_
  refine lv_isub hx hb dX3_look_20 ?_
  refine c_goi X h (c_runS (n := 2) X h (qX3_rowAt l D cA n x1 (x2 - 1) ad _ _ _ hw) gX3_look_X3_rowAt hl.1 dX3_look_21 rfl rfl rfl (by decide +kernel) ⟨Nat.le_of_ble_eq_true rfl, Nat.le_of_ble_eq_true rfl⟩ rfl rfl (Nat.le_of_ble_eq_true rfl) ⟨Nat.zero_le _, Nat.zero_le _⟩) (fun r21 C21 H locs hw h => ?_)
  refine lv_istore (lv' := [(4, .int r21), (3, .int r13), (0, .ref (ad 6)), (1, .ref (ad (64 + 8 * x1 + 2))), (2, .int x2)]) hx hb dX3_look_24 hl (by decide) rfl (fun ls hl => ?_)
  refine lv_aload_n hx hb dX3_look_26 rfl (lv_at hl 2 rfl) ?_
  refine c_get X.1 h (cids_f (by decide)) 6 rfl (by decide) rfl inX3_look_X3 0 (by decide) (by decide +kernel) rfl rfl dX3_look_27 ?_
  refine lv_iconst (v := 0) hx hb dX3_look_30 (by decide) ?_
  refine lv_aload_n hx hb dX3_look_31 rfl (lv_at hl 2 rfl) ?_
  refine c_get X.1 h (cids_f (by decide)) 6 rfl (by decide) rfl inX3_look_X3 4 (by decide) (by decide +kernel) rfl rfl dX3_look_32 ?_
  refine lv_iconst (v := 1) hx hb dX3_look_35 (by decide) ?_
  refine lv_iushr (v := ush (cI C21 6 4) 1) hx hb dX3_look_36 rfl ?_
  refine c_iast X.1 h (cids_f (by decide)) rfl (n := 8) rfl (show vp_in 0 8 by unfold vp_in; decide) dX3_look_37 (fun C37 eC37 H locs h => ?_)
  have hw := hw C37 eC37
  refine lv_aload_n hx hb dX3_look_38 rfl (lv_at hl 2 rfl) ?_
  refine c_get X.1 h (cids_f (by decide)) 6 rfl (by decide) rfl inX3_look_X3 0 (by decide) (by decide +kernel) rfl rfl dX3_look_39 ?_
  refine lv_iconst (v := 1) hx hb dX3_look_42 (by decide) ?_
  refine lv_iload_n hx hb dX3_look_43 rfl (lv_at hl 1 rfl) ?_
  refine lv_iconst (v := 1) hx hb dX3_look_44 (by decide) ?_
  refine lv_iushr (v := ush r13 1) hx hb dX3_look_45 rfl ?_
  refine c_iast X.1 h (cids_f (by decide)) rfl (n := 8) rfl (show vp_in 1 8 by unfold vp_in; decide) dX3_look_46 (fun C46 eC46 H locs h => ?_)
  have hw := hw C46 eC46
  refine lv_aload_n hx hb dX3_look_47 rfl (lv_at hl 2 rfl) ?_
  refine c_get X.1 h (cids_f (by decide)) 6 rfl (by decide) rfl inX3_look_X3 0 (by decide) (by decide +kernel) rfl rfl dX3_look_48 ?_
  refine lv_iconst (v := 2) hx hb dX3_look_51 (by decide) ?_
  refine lv_iload_n hx hb dX3_look_52 rfl (lv_at hl 1 rfl) ?_
  refine c_iast X.1 h (cids_f (by decide)) rfl (n := 8) rfl (show vp_in 2 8 by unfold vp_in; decide) dX3_look_53 (fun C53 eC53 H locs h => ?_)
  have hw := hw C53 eC53
  refine lv_aload_n hx hb dX3_look_54 rfl (lv_at hl 2 rfl) ?_
  refine c_get X.1 h (cids_f (by decide)) 6 rfl (by decide) rfl inX3_look_X3 0 (by decide) (by decide +kernel) rfl rfl dX3_look_55 ?_
  refine lv_iconst (v := 3) hx hb dX3_look_58 (by decide) ?_
  refine lv_iload_n hx hb dX3_look_59 rfl (lv_at hl 1 rfl) ?_
  refine lv_iconst (v := 1) hx hb dX3_look_60 (by decide) ?_
  refine lv_ishl hx hb dX3_look_61 ?_
  refine c_iast X.1 h (cids_f (by decide)) rfl (n := 8) rfl (show vp_in 3 8 by unfold vp_in; decide) dX3_look_62 (fun C62 eC62 H locs h => ?_)
  have hw := hw C62 eC62
  refine lv_aload_n hx hb dX3_look_63 rfl (lv_at hl 2 rfl) ?_
  refine c_get X.1 h (cids_f (by decide)) 6 rfl (by decide) rfl inX3_look_X3 0 (by decide) (by decide +kernel) rfl rfl dX3_look_64 ?_
  refine lv_iconst (v := 4) hx hb dX3_look_67 (by decide) ?_
  refine lv_aload_n hx hb dX3_look_68 rfl (lv_at hl 2 rfl) ?_
  refine c_get X.1 h (cids_f (by decide)) 6 rfl (by decide) rfl inX3_look_X3 4 (by decide) (by decide +kernel) rfl rfl dX3_look_69 ?_
  refine lv_iconst (v := 1) hx hb dX3_look_72 (by decide) ?_
  refine lv_ishl hx hb dX3_look_73 ?_
  refine c_iast X.1 h (cids_f (by decide)) rfl (n := 8) rfl (show vp_in 4 8 by unfold vp_in; decide) dX3_look_74 (fun C74 eC74 H locs h => ?_)
  have hw := hw C74 eC74
  refine lv_aload_n hx hb dX3_look_75 rfl (lv_at hl 2 rfl) ?_
  refine c_get X.1 h (cids_f (by decide)) 6 rfl (by decide) rfl inX3_look_X3 0 (by decide) (by decide +kernel) rfl rfl dX3_look_76 ?_
  refine lv_iconst (v := 5) hx hb dX3_look_79 (by decide) ?_
  refine lv_iload hx hb dX3_look_80 (lv_at hl 0 rfl) ?_
  refine lv_iconst (v := 1) hx hb dX3_look_82 (by decide) ?_
  refine lv_ishl hx hb dX3_look_83 ?_
  refine c_iast X.1 h (cids_f (by decide)) rfl (n := 8) rfl (show vp_in 5 8 by unfold vp_in; decide) dX3_look_84 (fun C84 eC84 H locs h => ?_)
  have hw := hw C84 eC84
  refine lv_aload_n hx hb dX3_look_85 rfl (lv_at hl 2 rfl) ?_
  refine c_get X.1 h (cids_f (by decide)) 6 rfl (by decide) rfl inX3_look_X3 0 (by decide) (by decide +kernel) rfl rfl dX3_look_86 ?_
  refine lv_bipush (v := 6) hx hb dX3_look_89 (by decide) ?_
  refine lv_iload hx hb dX3_look_91 (lv_at hl 0 rfl) ?_
  refine c_iast X.1 h (cids_f (by decide)) rfl (n := 8) rfl (show vp_in 6 8 by unfold vp_in; decide) dX3_look_93 (fun C93 eC93 H locs h => ?_)
  have hw := hw C93 eC93
  refine lv_aload_n hx hb dX3_look_94 rfl (lv_at hl 2 rfl) ?_
  refine c_get X.1 h (cids_f (by decide)) 6 rfl (by decide) rfl inX3_look_X3 0 (by decide) (by decide +kernel) rfl rfl dX3_look_95 ?_
  refine lv_bipush (v := 7) hx hb dX3_look_98 (by decide) ?_
  refine lv_iload hx hb dX3_look_100 (lv_at hl 0 rfl) ?_
  refine lv_iconst (v := 1) hx hb dX3_look_102 (by decide) ?_
  refine lv_iushr (v := ush r21 1) hx hb dX3_look_103 rfl ?_
  refine c_iast X.1 h (cids_f (by decide)) rfl (n := 8) rfl (show vp_in 7 8 by unfold vp_in; decide) dX3_look_104 (fun C104 eC104 H locs h => ?_)
  have hw := hw C104 eC104
  refine lv_aload_n hx hb dX3_look_105 rfl (lv_at hl 2 rfl) ?_
  refine c_get X.1 h (cids_f (by decide)) 6 rfl (by decide) rfl inX3_look_X3 1 (by decide) (by decide +kernel) rfl rfl dX3_look_106 ?_
  refine c_gov X h (c_runV (n := 0) X h (cids_f (by decide)) 8 rfl (by decide) rfl (qX4_clear l D cA n 9 ad _ _ _ hw) gX3_look_X4_clear hl.1 dX3_look_109 rfl rfl rfl (by decide +kernel) ⟨Nat.le_of_ble_eq_true rfl, Nat.le_of_ble_eq_true rfl⟩ rfl rfl (Nat.le_of_ble_eq_true rfl) ⟨Nat.zero_le _, Nat.zero_le _⟩) (fun C109 H locs hw h => ?_)
  refine lv_aload_n hx hb dX3_look_112 rfl (lv_at hl 2 rfl) ?_
  refine c_get X.1 h (cids_f (by decide)) 6 rfl (by decide) rfl inX3_look_X3 2 (by decide) (by decide +kernel) rfl rfl dX3_look_113 ?_
  refine c_gov X h (c_runV (n := 0) X h (cids_f (by decide)) 8 rfl (by decide) rfl (qX4_clear l D cA n 10 ad _ _ _ hw) gX3_look_X4_clear hl.1 dX3_look_116 rfl rfl rfl (by decide +kernel) ⟨Nat.le_of_ble_eq_true rfl, Nat.le_of_ble_eq_true rfl⟩ rfl rfl (Nat.le_of_ble_eq_true rfl) ⟨Nat.zero_le _, Nat.zero_le _⟩) (fun C116 H locs hw h => ?_)
  refine lv_aload_n hx hb dX3_look_119 rfl (lv_at hl 2 rfl) ?_
  refine c_get X.1 h (cids_f (by decide)) 6 rfl (by decide) rfl inX3_look_X3 3 (by decide) (by decide +kernel) rfl rfl dX3_look_120 ?_
  refine c_gov X h (c_runV (n := 0) X h (cids_f (by decide)) 8 rfl (by decide) rfl (qX4_clear l D cA n 11 ad _ _ _ hw) gX3_look_X4_clear hl.1 dX3_look_123 rfl rfl rfl (by decide +kernel) ⟨Nat.le_of_ble_eq_true rfl, Nat.le_of_ble_eq_true rfl⟩ rfl rfl (Nat.le_of_ble_eq_true rfl) ⟨Nat.zero_le _, Nat.zero_le _⟩) (fun C123 H locs hw h => ?_)
  refine lv_iconst (v := 0) hx hb dX3_look_126 (by decide) ?_
  refine lv_istore (lv' := [(5, .int 0), (4, .int r21), (3, .int r13), (0, .ref (ad 6)), (1, .ref (ad (64 + 8 * x1 + 2))), (2, .int x2)]) hx hb dX3_look_127 hl (by decide) rfl (fun ls hl => ?_)
  exact kX3_look_129 X hret n 0 C123 _ _ ls hw h (lv_sub hl [3, 0] rfl)
def rmX3_takenInPass : Room := { frames := 1, cells := 0, slots := 0, locals := 20 }
theorem inX3_takenInPass_X3 : ∀ w ∈ wsX30, w ∈ wsX3_takenInPass := fun w h => List.mem_cons_of_mem _ (List.mem_append_left _ (List.mem_append_right _ h))
theorem inX3_takenInPass_X4 : ∀ w ∈ wsX40, w ∈ wsX3_takenInPass := fun w h => List.mem_cons_of_mem _ (List.mem_append_right _ h)
set_option maxHeartbeats 4000000 in
set_option maxRecDepth 100000 in
theorem kX3_takenInPass_66 {n : Nat} {Q : Int32 → cM → Prop} (X : cX p s m args meth c D cA A cX3_takenInPass 7 wsX3_takenInPass RX3)
    (hret : ∀ (r : Int32) (C : cM) (H : Heap) (locs : List Loc) (pc : Nat) (ls : Array Slot), Q r C → cH D cA ad A s.heap C H locs → decode cX3_takenInPass pc = .ok (.ireturn, 1) → W p l e (headSpec wsX3_takenInPass rmX3_takenInPass).room s m args below meth c H locs 0 0 Z (F0 m pc ls [.int r])) :
    ∀ (s0 : Int32) (C : cM) (H : Heap) (locs : List Loc) (ls : Array Slot), wpX3_takenInPass_66 n Q s0 C → cH D cA ad A s.heap C H locs → lv_has ls 7 [(0, .ref (ad 6))] → W p l e (headSpec wsX3_takenInPass rmX3_takenInPass).room s m args below meth c H locs 0 0 Z (F0 m 66 ls [.int s0]) := by
  intro s0 C H locs ls hw h hl
  unfold wpX3_takenInPass_66 at hw
  obtain ⟨⟨hx, hb, hml, hown, hts, hK, hA⟩, hN⟩ := id X
  refine lv_istore (lv' := [(6, .int s0), (0, .ref (ad 6))]) hx hb dX3_takenInPass_66 hl (by decide) rfl (fun ls hl => ?_)
  refine lv_aload_n hx hb dX3_takenInPass_68 rfl (lv_at hl 1 rfl) ?_
  refine c_get X.1 h (cids_f (by decide)) 6 rfl (by decide) rfl inX3_takenInPass_X3 4 (by decide) (by decide +kernel) rfl rfl dX3_takenInPass_69 ?_
  refine lv_aload_n hx hb dX3_takenInPass_72 rfl (lv_at hl 1 rfl) ?_
  refine c_get X.1 h (cids_f (by decide)) 6 rfl (by decide) rfl inX3_takenInPass_X3 1 (by decide) (by decide +kernel) rfl rfl dX3_takenInPass_73 ?_
  refine c_get X.1 h (cids_f (by decide)) 8 rfl (by decide) rfl inX3_takenInPass_X4 1 (by decide) (by decide +kernel) rfl rfl dX3_takenInPass_76 ?_
  refine lv_iand hx hb dX3_takenInPass_79 ?_
  refine lv_aload_n hx hb dX3_takenInPass_80 rfl (lv_at hl 1 rfl) ?_
  refine c_get X.1 h (cids_f (by decide)) 6 rfl (by decide) rfl inX3_takenInPass_X3 2 (by decide) (by decide +kernel) rfl rfl dX3_takenInPass_81 ?_
  refine c_get X.1 h (cids_f (by decide)) 8 rfl (by decide) rfl inX3_takenInPass_X4 1 (by decide) (by decide +kernel) rfl rfl dX3_takenInPass_84 ?_
  refine lv_iand hx hb dX3_takenInPass_87 ?_
  refine lv_aload_n hx hb dX3_takenInPass_88 rfl (lv_at hl 1 rfl) ?_
  refine c_get X.1 h (cids_f (by decide)) 6 rfl (by decide) rfl inX3_takenInPass_X3 3 (by decide) (by decide +kernel) rfl rfl dX3_takenInPass_89 ?_
  refine c_goi X h (c_runV (n := 0) X h (cids_f (by decide)) 8 rfl (by decide) rfl (qX4_justOne l D cA n 11 ad _ _ _ hw) gX3_takenInPass_X4_justOne hl.1 dX3_takenInPass_92 rfl rfl rfl (by decide +kernel) ⟨Nat.le_of_ble_eq_true rfl, Nat.le_of_ble_eq_true rfl⟩ rfl rfl (Nat.le_of_ble_eq_true rfl) ⟨Nat.zero_le _, Nat.zero_le _⟩) (fun r92 C92 H locs hw h => ?_)
  refine lv_iand hx hb dX3_takenInPass_95 ?_
  refine lv_iload hx hb dX3_takenInPass_96 (lv_at hl 0 rfl) ?_
  refine lv_iconst (v := (-1)) hx hb dX3_takenInPass_98 (by decide) ?_
  refine lv_ixor hx hb dX3_takenInPass_99 ?_
  refine lv_iand hx hb dX3_takenInPass_100 ?_
  exact hret (((((cI C 6 4) &&& (cI C 9 1)) &&& (cI C 10 1)) &&& r92) &&& (s0 ^^^ (-1))) C92 _ _ _ ls hw h dX3_takenInPass_101
set_option maxHeartbeats 4000000 in
set_option maxRecDepth 100000 in
theorem qX3_takenInPass (l : Launch) (D : va_G) (cA : Nat → ClassId) (n : Nat) (x1 : Int32) : cMi l D cA yX3_takenInPass wsX3_takenInPass rmX3_takenInPass (fun ad => [.ref (ad 6), .int x1]) (wpX3_takenInPass n x1) := by
  intro ad sz C Q hw
  unfold wpX3_takenInPass at hw
  refine c_enter (cc := cX3_takenInPass) (maxL := 7) (ret := some .int) (own := RX3) (by decide) rfl rfl (Nat.le_of_ble_eq_true rfl) ?_
  intro p e s m args below meth c hsz X hr hlocks h ls hl
  have hret := c_iret (p := p) (l := l) (e := e) (R := (headSpec wsX3_takenInPass rmX3_takenInPass).room) (s := s) (m := m) (args := args) (below := below) (meth := meth) (c := c) (cc := cX3_takenInPass) (D := D) (cA := cA) (ad := ad) (A := va_A (cws cA ad C) sz) (Q := Q) X.1.1 X.1.2.1 hr hlocks X.1.2.2.2.2.2.1
  obtain ⟨⟨hx, hb, hml, hown, hts, hK, hA⟩, hN⟩ := id X
  have hl : lv_has ls 7 [(0, .ref (ad 6)), (1, .int x1)] := hl
  refine lv_aload_n hx hb dX3_takenInPass_0 rfl (lv_at hl 0 rfl) ?_
  refine c_get X.1 h (cids_f (by decide)) 6 rfl (by decide) rfl inX3_takenInPass_X3 0 (by decide) (by decide +kernel) rfl rfl dX3_takenInPass_1 ?_
  refine lv_iconst (v := 0) hx hb dX3_takenInPass_4 (by decide) ?_
  refine c_iald X.1 h (cids_f (by decide)) rfl (n := 8) rfl (show vp_in 0 8 by unfold vp_in; decide) dX3_takenInPass_5 ?_
  refine lv_topi (fun x2_6 ex2_6 => ?_)
  have hw := hw x2_6 ex2_6
  refine lv_istore_n (lv' := [(2, .int x2_6), (0, .ref (ad 6)), (1, .int x1)]) hx hb dX3_takenInPass_6 rfl hl (by decide) rfl (fun ls hl => ?_)
  refine lv_aload_n hx hb dX3_takenInPass_7 rfl (lv_at hl 1 rfl) ?_
  refine c_get X.1 h (cids_f (by decide)) 6 rfl (by decide) rfl inX3_takenInPass_X3 0 (by decide) (by decide +kernel) rfl rfl dX3_takenInPass_8 ?_
  refine lv_iconst (v := 2) hx hb dX3_takenInPass_11 (by decide) ?_
  refine c_iald X.1 h (cids_f (by decide)) rfl (n := 8) rfl (show vp_in 2 8 by unfold vp_in; decide) dX3_takenInPass_12 ?_
  refine lv_topi (fun x3_13 ex3_13 => ?_)
  have hw := hw x3_13 ex3_13
  refine lv_istore_n (lv' := [(3, .int x3_13), (2, .int x2_6), (0, .ref (ad 6)), (1, .int x1)]) hx hb dX3_takenInPass_13 rfl hl (by decide) rfl (fun ls hl => ?_)
  refine lv_aload_n hx hb dX3_takenInPass_14 rfl (lv_at hl 2 rfl) ?_
  refine c_get X.1 h (cids_f (by decide)) 6 rfl (by decide) rfl inX3_takenInPass_X3 0 (by decide) (by decide +kernel) rfl rfl dX3_takenInPass_15 ?_
  refine lv_iconst (v := 4) hx hb dX3_takenInPass_18 (by decide) ?_
  refine c_iald X.1 h (cids_f (by decide)) rfl (n := 8) rfl (show vp_in 4 8 by unfold vp_in; decide) dX3_takenInPass_19 ?_
  refine lv_topi (fun x4_20 ex4_20 => ?_)
  have hw := hw x4_20 ex4_20
  refine lv_istore (lv' := [(4, .int x4_20), (3, .int x3_13), (2, .int x2_6), (0, .ref (ad 6)), (1, .int x1)]) hx hb dX3_takenInPass_20 hl (by decide) rfl (fun ls hl => ?_)
  refine lv_aload_n hx hb dX3_takenInPass_22 rfl (lv_at hl 3 rfl) ?_
  refine c_get X.1 h (cids_f (by decide)) 6 rfl (by decide) rfl inX3_takenInPass_X3 0 (by decide) (by decide +kernel) rfl rfl dX3_takenInPass_23 ?_
  refine lv_bipush (v := 6) hx hb dX3_takenInPass_26 (by decide) ?_
  refine c_iald X.1 h (cids_f (by decide)) rfl (n := 8) rfl (show vp_in 6 8 by unfold vp_in; decide) dX3_takenInPass_28 ?_
  refine lv_topi (fun x5_29 ex5_29 => ?_)
  have hw := hw x5_29 ex5_29
  refine lv_istore (lv' := [(5, .int x5_29), (4, .int x4_20), (3, .int x3_13), (2, .int x2_6), (0, .ref (ad 6)), (1, .int x1)]) hx hb dX3_takenInPass_29 hl (by decide) rfl (fun ls hl => ?_)
  refine lv_iload_n hx hb dX3_takenInPass_31 rfl (lv_at hl 5 rfl) ?_
  refine lv_if_eq (tgt := 52) hx hb dX3_takenInPass_32 (by decide) (fun c32 => ?_) (fun c32 => ?_)
  · have hw := hw.1 c32
    refine lv_iload_n hx hb dX3_takenInPass_52 rfl (lv_at hl 2 rfl) ?_
    refine lv_iload_n hx hb dX3_takenInPass_53 rfl (lv_at hl 3 rfl) ?_
    refine lv_iand hx hb dX3_takenInPass_54 ?_
    refine lv_iload hx hb dX3_takenInPass_55 (lv_at hl 1 rfl) ?_
    refine lv_iand hx hb dX3_takenInPass_57 ?_
    refine lv_iload_n hx hb dX3_takenInPass_58 rfl (lv_at hl 2 rfl) ?_
    refine lv_iload hx hb dX3_takenInPass_59 (lv_at hl 0 rfl) ?_
    refine lv_iand hx hb dX3_takenInPass_61 ?_
    refine lv_iload hx hb dX3_takenInPass_62 (lv_at hl 1 rfl) ?_
    refine lv_iand hx hb dX3_takenInPass_64 ?_
    refine lv_ior hx hb dX3_takenInPass_65 ?_
    exact kX3_takenInPass_66 X hret (((x3_13 &&& x2_6) &&& x4_20) ||| ((x3_13 &&& x5_29) &&& x4_20)) C _ _ ls hw h (lv_sub hl [4] rfl)
  · have hw := hw.2 c32
    refine lv_iload_n hx hb dX3_takenInPass_35 rfl (lv_at hl 2 rfl) ?_
    refine lv_iload_n hx hb dX3_takenInPass_36 rfl (lv_at hl 3 rfl) ?_
    refine lv_iand hx hb dX3_takenInPass_37 ?_
    refine lv_iload hx hb dX3_takenInPass_38 (lv_at hl 0 rfl) ?_
    refine lv_iand hx hb dX3_takenInPass_40 ?_
    refine lv_iload_n hx hb dX3_takenInPass_41 rfl (lv_at hl 3 rfl) ?_
    refine lv_iload hx hb dX3_takenInPass_42 (lv_at hl 0 rfl) ?_
    refine lv_iand hx hb dX3_takenInPass_44 ?_
    refine lv_iload hx hb dX3_takenInPass_45 (lv_at hl 1 rfl) ?_
    refine lv_iand hx hb dX3_takenInPass_47 ?_
    refine lv_ior hx hb dX3_takenInPass_48 ?_
    refine lv_goto (tgt := 66) hx hb dX3_takenInPass_49 (by decide) ?_
    exact kX3_takenInPass_66 X hret (((x3_13 &&& x2_6) &&& x5_29) ||| ((x2_6 &&& x5_29) &&& x4_20)) C _ _ ls hw h (lv_sub hl [4] rfl)
def rmX3_ends : Room := { frames := 1, cells := 0, slots := 0, locals := 20 }
theorem inX3_ends_X3 : ∀ w ∈ wsX30, w ∈ wsX3_ends := fun w h => List.mem_cons_of_mem _ (List.mem_append_left _ (List.mem_append_right _ h))
theorem inX3_ends_X4 : ∀ w ∈ wsX40, w ∈ wsX3_ends := fun w h => List.mem_cons_of_mem _ (List.mem_append_right _ h)
set_option maxHeartbeats 4000000 in
set_option maxRecDepth 100000 in
theorem qX3_ends (l : Launch) (D : va_G) (cA : Nat → ClassId) (n : Nat) : cMi l D cA yX3_ends wsX3_ends rmX3_ends (fun ad => [.ref (ad 6)]) (wpX3_ends n) := by
  intro ad sz C Q hw
  unfold wpX3_ends at hw
  refine c_enter (cc := cX3_ends) (maxL := 1) (ret := some .int) (own := RX3) (by decide) rfl rfl (Nat.le_of_ble_eq_true rfl) ?_
  intro p e s m args below meth c hsz X hr hlocks h ls hl
  have hret := c_iret (p := p) (l := l) (e := e) (R := (headSpec wsX3_ends rmX3_ends).room) (s := s) (m := m) (args := args) (below := below) (meth := meth) (c := c) (cc := cX3_ends) (D := D) (cA := cA) (ad := ad) (A := va_A (cws cA ad C) sz) (Q := Q) X.1.1 X.1.2.1 hr hlocks X.1.2.2.2.2.2.1
  obtain ⟨⟨hx, hb, hml, hown, hts, hK, hA⟩, hN⟩ := id X
  have hl : lv_has ls 1 [(0, .ref (ad 6))] := hl
  refine lv_aload_n hx hb dX3_ends_0 rfl (lv_at hl 0 rfl) ?_
  refine c_get X.1 h (cids_f (by decide)) 6 rfl (by decide) rfl inX3_ends_X3 4 (by decide) (by decide +kernel) rfl rfl dX3_ends_1 ?_
  refine lv_aload_n hx hb dX3_ends_4 rfl (lv_at hl 0 rfl) ?_
  refine c_get X.1 h (cids_f (by decide)) 6 rfl (by decide) rfl inX3_ends_X3 1 (by decide) (by decide +kernel) rfl rfl dX3_ends_5 ?_
  refine c_goi X h (c_runV (n := 0) X h (cids_f (by decide)) 8 rfl (by decide) rfl (qX4_justOne l D cA n 9 ad _ _ _ hw) gX3_ends_X4_justOne hl.1 dX3_ends_8 rfl rfl rfl (by decide +kernel) ⟨Nat.le_of_ble_eq_true rfl, Nat.le_of_ble_eq_true rfl⟩ rfl rfl (Nat.le_of_ble_eq_true rfl) ⟨Nat.zero_le _, Nat.zero_le _⟩) (fun r8 C8 H locs hw h => ?_)
  refine lv_iand hx hb dX3_ends_11 ?_
  exact hret ((cI C 6 4) &&& r8) C8 _ _ _ ls hw h dX3_ends_12
def rmX3_forks : Room := { frames := 0, cells := 0, slots := 0, locals := 0 }
theorem inX3_forks_X3 : ∀ w ∈ wsX30, w ∈ wsX3_forks := fun w h => List.mem_cons_of_mem _ (List.mem_append_left _ (List.mem_append_right _ h))
theorem inX3_forks_X4 : ∀ w ∈ wsX40, w ∈ wsX3_forks := fun w h => List.mem_cons_of_mem _ (List.mem_append_right _ h)
set_option maxHeartbeats 4000000 in
set_option maxRecDepth 100000 in
theorem qX3_forks (l : Launch) (D : va_G) (cA : Nat → ClassId) (n : Nat) : cMi l D cA yX3_forks wsX3_forks rmX3_forks (fun ad => [.ref (ad 6)]) (wpX3_forks n) := by
  intro ad sz C Q hw
  unfold wpX3_forks at hw
  refine c_enter (cc := cX3_forks) (maxL := 1) (ret := some .int) (own := RX3) (by decide) rfl rfl (Nat.le_of_ble_eq_true rfl) ?_
  intro p e s m args below meth c hsz X hr hlocks h ls hl
  have hret := c_iret (p := p) (l := l) (e := e) (R := (headSpec wsX3_forks rmX3_forks).room) (s := s) (m := m) (args := args) (below := below) (meth := meth) (c := c) (cc := cX3_forks) (D := D) (cA := cA) (ad := ad) (A := va_A (cws cA ad C) sz) (Q := Q) X.1.1 X.1.2.1 hr hlocks X.1.2.2.2.2.2.1
  obtain ⟨⟨hx, hb, hml, hown, hts, hK, hA⟩, hN⟩ := id X
  have hl : lv_has ls 1 [(0, .ref (ad 6))] := hl
  refine lv_aload_n hx hb dX3_forks_0 rfl (lv_at hl 0 rfl) ?_
  refine c_get X.1 h (cids_f (by decide)) 6 rfl (by decide) rfl inX3_forks_X3 4 (by decide) (by decide +kernel) rfl rfl dX3_forks_1 ?_
  refine lv_aload_n hx hb dX3_forks_4 rfl (lv_at hl 0 rfl) ?_
  refine c_get X.1 h (cids_f (by decide)) 6 rfl (by decide) rfl inX3_forks_X3 3 (by decide) (by decide +kernel) rfl rfl dX3_forks_5 ?_
  refine c_get X.1 h (cids_f (by decide)) 8 rfl (by decide) rfl inX3_forks_X4 2 (by decide) (by decide +kernel) rfl rfl dX3_forks_8 ?_
  refine lv_iand hx hb dX3_forks_11 ?_
  exact hret ((cI C 6 4) &&& (cI C 11 2)) C _ _ _ ls hw h dX3_forks_12
def rmX3_directionOfEnd : Room := { frames := 0, cells := 0, slots := 0, locals := 0 }
theorem inX3_directionOfEnd_X3 : ∀ w ∈ wsX30, w ∈ wsX3_directionOfEnd := fun w h => List.mem_cons_of_mem _ (List.mem_append_right _ h)
set_option maxHeartbeats 4000000 in
set_option maxRecDepth 100000 in
theorem kX3_directionOfEnd_2 {n : Nat} {Q : Int32 → cM → Prop} (X : cX p s m args meth c D cA A cX3_directionOfEnd 3 wsX3_directionOfEnd RX3) (x1 : Int32)
    (hret : ∀ (r : Int32) (C : cM) (H : Heap) (locs : List Loc) (pc : Nat) (ls : Array Slot), Q r C → cH D cA ad A s.heap C H locs → decode cX3_directionOfEnd pc = .ok (.ireturn, 1) → W p l e (headSpec wsX3_directionOfEnd rmX3_directionOfEnd).room s m args below meth c H locs 0 0 Z (F0 m pc ls [.int r])) :
    ∀ (k : Nat) (x2 : Int32) (C : cM) (H : Heap) (locs : List Loc) (ls : Array Slot), wpX3_directionOfEnd_2 n Q x1 k x2 C → cH D cA ad A s.heap C H locs → lv_has ls 3 [(0, .ref (ad 6)), (1, .int x1), (2, .int x2)] → W p l e (headSpec wsX3_directionOfEnd rmX3_directionOfEnd).room s m args below meth c H locs 0 0 Z (F0 m 2 ls []) := by
  intro k
  induction k with
  | zero => intro x2 C H locs ls hw; exact hw.elim
  | succ k ih =>
    intro x2 C H locs ls hw h hl
    rw [wpX3_directionOfEnd_2] at hw
    obtain ⟨⟨hx, hb, hml, hown, hts, hK, hA⟩, hN⟩ := id X
    refine lv_iload_n hx hb dX3_directionOfEnd_2 rfl (lv_at hl 2 rfl) ?_
    refine lv_bipush (v := 8) hx hb dX3_directionOfEnd_3 (by decide) ?_
    refine lv_icmp_ge (tgt := 29) hx hb dX3_directionOfEnd_5 (by decide) (fun c5 => ?_) (fun c5 => ?_)
    · have hw := hw.1 c5
      refine lv_iconst (v := 0) hx hb dX3_directionOfEnd_29 (by decide) ?_
      exact hret 0 C _ _ _ ls hw h dX3_directionOfEnd_30
    · have hw := hw.2 c5
      refine lv_aload_n hx hb dX3_directionOfEnd_8 rfl (lv_at hl 0 rfl) ?_
      refine c_get X.1 h (cids_f (by decide)) 6 rfl (by decide) rfl inX3_directionOfEnd_X3 0 (by decide) (by decide +kernel) rfl rfl dX3_directionOfEnd_9 ?_
      refine lv_iload_n hx hb dX3_directionOfEnd_12 rfl (lv_at hl 2 rfl) ?_
      obtain ⟨hk1, hw⟩ := hw
      refine c_iald X.1 h (cids_f (by decide)) rfl (n := 8) rfl hk1 dX3_directionOfEnd_13 ?_
      refine lv_iload_n hx hb dX3_directionOfEnd_14 rfl (lv_at hl 1 rfl) ?_
      refine lv_iushr (v := ush (cI C 8 x2.toNatClampNeg) x1) hx hb dX3_directionOfEnd_15 rfl ?_
      refine lv_iconst (v := 1) hx hb dX3_directionOfEnd_16 (by decide) ?_
      refine lv_iand hx hb dX3_directionOfEnd_17 ?_
      refine lv_if_eq (tgt := 23) hx hb dX3_directionOfEnd_18 (by decide) (fun c18 => ?_) (fun c18 => ?_)
      · have hw := hw.1 c18
        obtain ⟨x2_23, ex2_23⟩ : ∃ z : Int32, z = x2 + 1 := ⟨_, rfl⟩
        have hw := hw x2_23 ex2_23
        refine lv_iinc (v := x2_23) (lv' := [(2, .int x2_23), (0, .ref (ad 6)), (1, .int x1)]) hx hb dX3_directionOfEnd_23 hl (k := 2) rfl (by rw [ex2_23]; rfl) (by decide) rfl (fun ls hl => ?_)
        refine lv_goto (tgt := 2) hx hb dX3_directionOfEnd_26 (by decide) ?_
        exact ih x2_23 C _ _ ls hw h (lv_sub hl [1, 2, 0] rfl)
      · have hw := hw.2 c18
        refine lv_iload_n hx hb dX3_directionOfEnd_21 rfl (lv_at hl 2 rfl) ?_
        exact hret x2 C _ _ _ ls hw h dX3_directionOfEnd_22
set_option maxHeartbeats 4000000 in
set_option maxRecDepth 100000 in
theorem qX3_directionOfEnd (l : Launch) (D : va_G) (cA : Nat → ClassId) (n : Nat) (x1 : Int32) : cMi l D cA yX3_directionOfEnd wsX3_directionOfEnd rmX3_directionOfEnd (fun ad => [.ref (ad 6), .int x1]) (wpX3_directionOfEnd n x1) := by
  intro ad sz C Q hw
  unfold wpX3_directionOfEnd at hw
  refine c_enter (cc := cX3_directionOfEnd) (maxL := 3) (ret := some .int) (own := RX3) (by decide) rfl rfl (Nat.le_of_ble_eq_true rfl) ?_
  intro p e s m args below meth c hsz X hr hlocks h ls hl
  have hret := c_iret (p := p) (l := l) (e := e) (R := (headSpec wsX3_directionOfEnd rmX3_directionOfEnd).room) (s := s) (m := m) (args := args) (below := below) (meth := meth) (c := c) (cc := cX3_directionOfEnd) (D := D) (cA := cA) (ad := ad) (A := va_A (cws cA ad C) sz) (Q := Q) X.1.1 X.1.2.1 hr hlocks X.1.2.2.2.2.2.1
  obtain ⟨⟨hx, hb, hml, hown, hts, hK, hA⟩, hN⟩ := id X
  have hl : lv_has ls 3 [(0, .ref (ad 6)), (1, .int x1)] := hl
  refine lv_iconst (v := 0) hx hb dX3_directionOfEnd_0 (by decide) ?_
  refine lv_istore_n (lv' := [(2, .int 0), (0, .ref (ad 6)), (1, .int x1)]) hx hb dX3_directionOfEnd_1 rfl hl (by decide) rfl (fun ls hl => ?_)
  exact kX3_directionOfEnd_2 X x1 hret n 0 C _ _ ls hw h (lv_sub hl [1, 2, 0] rfl)
def rmX0_tell : Room := { frames := 1, cells := 0, slots := 0, locals := 20 }
theorem inX0_tell_X0 : ∀ w ∈ wsX00, w ∈ wsX0_tell := fun w h => List.mem_cons_of_mem _ (List.mem_append_right _ h)
set_option maxHeartbeats 4000000 in
set_option maxRecDepth 100000 in
theorem qX0_tell (l : Launch) (D : va_G) (cA : Nat → ClassId) (n : Nat) (x0 : Nat) (x1 : Int32) (x2 : Int32) : cMv l D cA yX0_tell wsX0_tell rmX0_tell (fun ad => [.ref (ad (64 + 8 * x0)), .int x1, .int x2]) (wpX0_tell n x0 x1 x2) := by
  intro ad sz C Q hw
  unfold wpX0_tell at hw
  refine c_enter (cc := cX0_tell) (maxL := 3) (ret := none) (own := RX0) (by decide) rfl rfl (Nat.le_of_ble_eq_true rfl) ?_
  intro p e s m args below meth c hsz X hr hlocks h ls hl
  have hret := c_vret (p := p) (l := l) (e := e) (R := (headSpec wsX0_tell rmX0_tell).room) (s := s) (m := m) (args := args) (below := below) (meth := meth) (c := c) (cc := cX0_tell) (D := D) (cA := cA) (ad := ad) (A := va_A (cws cA ad C) sz) (Q := Q) X.1.1 X.1.2.1 hr hlocks X.1.2.2.2.2.2.1
  obtain ⟨⟨hx, hb, hml, hown, hts, hK, hA⟩, hN⟩ := id X
  have hl : lv_has ls 3 [(0, .ref (ad (64 + 8 * x0))), (1, .int x1), (2, .int x2)] := hl
  refine lv_iload_n hx hb dX0_tell_0 rfl (lv_at hl 1 rfl) ?_
  refine c_goi X h (c_runSN (n := 1) X h (qX6_isOnBoard l D cA n x1 ad _ _ _ hw) hN.1 gX0_tell_X6_isOnBoard_n41 (by decide +kernel) (by decide +kernel) hl.1 dX0_tell_1 rfl rfl rfl (by decide +kernel) ⟨Nat.le_of_ble_eq_true rfl, Nat.le_of_ble_eq_true rfl⟩ rfl rfl (Nat.le_of_ble_eq_true rfl) ⟨Nat.zero_le _, Nat.zero_le _⟩) (fun r1 C1 H locs hw h => ?_)
  refine lv_if_eq (tgt := 39) hx hb dX0_tell_4 (by decide) (fun c4 => ?_) (fun c4 => ?_)
  · have hw := hw.1 c4
    exact hret C1 _ _ _ ls hw h dX0_tell_39
  · have hw := hw.2 c4
    refine lv_aload_n hx hb dX0_tell_7 rfl (lv_at hl 0 rfl) ?_
    obtain ⟨hk1, hw⟩ := hw
    refine c_get X.1 h (cids_b0 hk1.1) 9 (ckind_b hk1.2) (by decide) rfl inX0_tell_X0 0 (by decide) (by decide +kernel) rfl rfl dX0_tell_8 ?_
    refine lv_iload_n hx hb dX0_tell_11 rfl (lv_at hl 1 rfl) ?_
    obtain ⟨hk2, hw⟩ := hw
    refine c_iald X.1 h (cids_b hk1.1 1 (by decide)) (ckind_ba hk1.2 (by decide) (by decide)) (n := 24) (ilen_ba (by decide)) hk2 dX0_tell_12 ?_
    refine lv_iload_n hx hb dX0_tell_13 rfl (lv_at hl 2 rfl) ?_
    refine lv_icmp_eq (tgt := 39) hx hb dX0_tell_14 (by decide) (fun c14 => ?_) (fun c14 => ?_)
    · have hw := hw.1 c14
      exact hret C1 _ _ _ ls hw h dX0_tell_39
    · have hw := hw.2 c14
      refine lv_aload_n hx hb dX0_tell_17 rfl (lv_at hl 0 rfl) ?_
      refine c_get X.1 h (cids_b0 hk1.1) 9 (ckind_b hk1.2) (by decide) rfl inX0_tell_X0 0 (by decide) (by decide +kernel) rfl rfl dX0_tell_18 ?_
      refine lv_iload_n hx hb dX0_tell_21 rfl (lv_at hl 1 rfl) ?_
      refine lv_iload_n hx hb dX0_tell_22 rfl (lv_at hl 2 rfl) ?_
      refine c_iast X.1 h (cids_b hk1.1 1 (by decide)) (ckind_ba hk1.2 (by decide) (by decide)) (n := 24) (ilen_ba (by decide)) hk2 dX0_tell_23 (fun C23 eC23 H locs h => ?_)
      have hw := hw C23 eC23
      have hk1 : bok C23 x0 := by rw [eC23]; exact hk1
      refine lv_aload_n hx hb dX0_tell_24 rfl (lv_at hl 0 rfl) ?_
      refine lv_dup hx hb dX0_tell_25 rfl ?_
      refine c_get X.1 h (cids_b0 hk1.1) 9 (ckind_b hk1.2) (by decide) rfl inX0_tell_X0 7 (by decide) (by decide +kernel) rfl rfl dX0_tell_26 ?_
      refine lv_iconst (v := 1) hx hb dX0_tell_29 (by decide) ?_
      refine lv_iadd hx hb dX0_tell_30 ?_
      refine c_put X.1 h (cids_b0 hk1.1) 9 (ckind_b hk1.2) (by decide) rfl inX0_tell_X0 tyX0 tyX0_ok nmX0 7 (by decide) (by decide +kernel) rfl rfl rfl rfl (Nat.le_of_ble_eq_true rfl) (fun _ _ => rfl) dX0_tell_31 (fun C31 eC31 H locs h => ?_)
      have hw := hw C31 eC31
      have hk1 : bok C31 x0 := by rw [eC31]; exact hk1
      refine lv_aload_n hx hb dX0_tell_34 rfl (lv_at hl 0 rfl) ?_
      refine lv_iconst (v := 1) hx hb dX0_tell_35 (by decide) ?_
      refine c_put X.1 h (cids_b0 hk1.1) 9 (ckind_b hk1.2) (by decide) rfl inX0_tell_X0 tyX0 tyX0_ok nmX0 8 (by decide) (by decide +kernel) rfl rfl rfl rfl (Nat.le_of_ble_eq_true rfl) (fun _ _ => rfl) dX0_tell_36 (fun C36 eC36 H locs h => ?_)
      have hw := hw C36 eC36
      have hk1 : bok C36 x0 := by rw [eC36]; exact hk1
      exact hret C36 _ _ _ ls hw h dX0_tell_39
def rmX0_clearMarks : Room := { frames := 0, cells := 0, slots := 0, locals := 0 }
theorem inX0_clearMarks_X0 : ∀ w ∈ wsX00, w ∈ wsX0_clearMarks := fun w h => List.mem_cons_of_mem _ (List.mem_append_right _ h)
set_option maxHeartbeats 4000000 in
set_option maxRecDepth 100000 in
theorem qX0_clearMarks (l : Launch) (D : va_G) (cA : Nat → ClassId) (n : Nat) (x0 : Nat) : cMv l D cA yX0_clearMarks wsX0_clearMarks rmX0_clearMarks (fun ad => [.ref (ad (64 + 8 * x0))]) (wpX0_clearMarks n x0) := by
  intro ad sz C Q hw
  unfold wpX0_clearMarks at hw
  refine c_enter (cc := cX0_clearMarks) (maxL := 1) (ret := none) (own := RX0) (by decide) rfl rfl (Nat.le_of_ble_eq_true rfl) ?_
  intro p e s m args below meth c hsz X hr hlocks h ls hl
  have hret := c_vret (p := p) (l := l) (e := e) (R := (headSpec wsX0_clearMarks rmX0_clearMarks).room) (s := s) (m := m) (args := args) (below := below) (meth := meth) (c := c) (cc := cX0_clearMarks) (D := D) (cA := cA) (ad := ad) (A := va_A (cws cA ad C) sz) (Q := Q) X.1.1 X.1.2.1 hr hlocks X.1.2.2.2.2.2.1
  obtain ⟨⟨hx, hb, hml, hown, hts, hK, hA⟩, hN⟩ := id X
  have hl : lv_has ls 1 [(0, .ref (ad (64 + 8 * x0)))] := hl
  refine lv_aload_n hx hb dX0_clearMarks_0 rfl (lv_at hl 0 rfl) ?_
  refine lv_iconst (v := 0) hx hb dX0_clearMarks_1 (by decide) ?_
  obtain ⟨hk1, hw⟩ := hw
  refine c_put X.1 h (cids_b0 hk1.1) 9 (ckind_b hk1.2) (by decide) rfl inX0_clearMarks_X0 tyX0 tyX0_ok nmX0 5 (by decide) (by decide +kernel) rfl rfl rfl rfl (Nat.le_of_ble_eq_true rfl) (fun _ _ => rfl) dX0_clearMarks_2 (fun C2 eC2 H locs h => ?_)
  have hw := hw C2 eC2
  have hk1 : bok C2 x0 := by rw [eC2]; exact hk1
  refine lv_aload_n hx hb dX0_clearMarks_5 rfl (lv_at hl 0 rfl) ?_
  refine lv_iconst (v := 0) hx hb dX0_clearMarks_6 (by decide) ?_
  refine c_put X.1 h (cids_b0 hk1.1) 9 (ckind_b hk1.2) (by decide) rfl inX0_clearMarks_X0 tyX0 tyX0_ok nmX0 6 (by decide) (by decide +kernel) rfl rfl rfl rfl (Nat.le_of_ble_eq_true rfl) (fun _ _ => rfl) dX0_clearMarks_7 (fun C7 eC7 H locs h => ?_)
  have hw := hw C7 eC7
  have hk1 : bok C7 x0 := by rw [eC7]; exact hk1
  exact hret C7 _ _ _ ls hw h dX0_clearMarks_10
def rmX0_addMark : Room := { frames := 0, cells := 0, slots := 0, locals := 0 }
theorem inX0_addMark_X0 : ∀ w ∈ wsX00, w ∈ wsX0_addMark := fun w h => List.mem_cons_of_mem _ (List.mem_append_right _ h)
set_option maxHeartbeats 4000000 in
set_option maxRecDepth 100000 in
theorem qX0_addMark (l : Launch) (D : va_G) (cA : Nat → ClassId) (n : Nat) (x0 : Nat) (x1 : Int32) (x2 : Int32) (x3 : Int32) : cMv l D cA yX0_addMark wsX0_addMark rmX0_addMark (fun ad => [.ref (ad (64 + 8 * x0)), .int x1, .int x2, .int x3]) (wpX0_addMark n x0 x1 x2 x3) := by
  intro ad sz C Q hw
  unfold wpX0_addMark at hw
  refine c_enter (cc := cX0_addMark) (maxL := 4) (ret := none) (own := RX0) (by decide) rfl rfl (Nat.le_of_ble_eq_true rfl) ?_
  intro p e s m args below meth c hsz X hr hlocks h ls hl
  have hret := c_vret (p := p) (l := l) (e := e) (R := (headSpec wsX0_addMark rmX0_addMark).room) (s := s) (m := m) (args := args) (below := below) (meth := meth) (c := c) (cc := cX0_addMark) (D := D) (cA := cA) (ad := ad) (A := va_A (cws cA ad C) sz) (Q := Q) X.1.1 X.1.2.1 hr hlocks X.1.2.2.2.2.2.1
  obtain ⟨⟨hx, hb, hml, hown, hts, hK, hA⟩, hN⟩ := id X
  have hl : lv_has ls 4 [(0, .ref (ad (64 + 8 * x0))), (1, .int x1), (2, .int x2), (3, .int x3)] := hl
  refine lv_aload_n hx hb dX0_addMark_0 rfl (lv_at hl 0 rfl) ?_
  obtain ⟨hk1, hw⟩ := hw
  refine c_get X.1 h (cids_b0 hk1.1) 9 (ckind_b hk1.2) (by decide) rfl inX0_addMark_X0 5 (by decide) (by decide +kernel) rfl rfl dX0_addMark_1 ?_
  refine lv_bipush (v := 40) hx hb dX0_addMark_4 (by decide) ?_
  refine lv_icmp_lt (tgt := 10) hx hb dX0_addMark_6 (by decide) (fun c6 => ?_) (fun c6 => ?_)
  · have hw := hw.1 c6
    refine lv_aload_n hx hb dX0_addMark_10 rfl (lv_at hl 0 rfl) ?_
    refine c_get X.1 h (cids_b0 hk1.1) 9 (ckind_b hk1.2) (by decide) rfl inX0_addMark_X0 2 (by decide) (by decide +kernel) rfl rfl dX0_addMark_11 ?_
    refine lv_aload_n hx hb dX0_addMark_14 rfl (lv_at hl 0 rfl) ?_
    refine c_get X.1 h (cids_b0 hk1.1) 9 (ckind_b hk1.2) (by decide) rfl inX0_addMark_X0 5 (by decide) (by decide +kernel) rfl rfl dX0_addMark_15 ?_
    refine lv_iload_n hx hb dX0_addMark_18 rfl (lv_at hl 1 rfl) ?_
    obtain ⟨hk2, hw⟩ := hw
    refine c_iast X.1 h (cids_b hk1.1 3 (by decide)) (ckind_ba hk1.2 (by decide) (by decide)) (n := 40) (ilen_ba (by decide)) hk2 dX0_addMark_19 (fun C19 eC19 H locs h => ?_)
    have hw := hw C19 eC19
    have hk1 : bok C19 x0 := by rw [eC19]; exact hk1
    refine lv_aload_n hx hb dX0_addMark_20 rfl (lv_at hl 0 rfl) ?_
    refine c_get X.1 h (cids_b0 hk1.1) 9 (ckind_b hk1.2) (by decide) rfl inX0_addMark_X0 3 (by decide) (by decide +kernel) rfl rfl dX0_addMark_21 ?_
    refine lv_aload_n hx hb dX0_addMark_24 rfl (lv_at hl 0 rfl) ?_
    refine c_get X.1 h (cids_b0 hk1.1) 9 (ckind_b hk1.2) (by decide) rfl inX0_addMark_X0 5 (by decide) (by decide +kernel) rfl rfl dX0_addMark_25 ?_
    refine lv_iload_n hx hb dX0_addMark_28 rfl (lv_at hl 2 rfl) ?_
    obtain ⟨hk3, hw⟩ := hw
    refine c_iast X.1 h (cids_b hk1.1 4 (by decide)) (ckind_ba hk1.2 (by decide) (by decide)) (n := 40) (ilen_ba (by decide)) hk3 dX0_addMark_29 (fun C29 eC29 H locs h => ?_)
    have hw := hw C29 eC29
    have hk1 : bok C29 x0 := by rw [eC29]; exact hk1
    refine lv_aload_n hx hb dX0_addMark_30 rfl (lv_at hl 0 rfl) ?_
    refine c_get X.1 h (cids_b0 hk1.1) 9 (ckind_b hk1.2) (by decide) rfl inX0_addMark_X0 4 (by decide) (by decide +kernel) rfl rfl dX0_addMark_31 ?_
    refine lv_aload_n hx hb dX0_addMark_34 rfl (lv_at hl 0 rfl) ?_
    refine c_get X.1 h (cids_b0 hk1.1) 9 (ckind_b hk1.2) (by decide) rfl inX0_addMark_X0 5 (by decide) (by decide +kernel) rfl rfl dX0_addMark_35 ?_
    refine lv_iload_n hx hb dX0_addMark_38 rfl (lv_at hl 3 rfl) ?_
    obtain ⟨hk4, hw⟩ := hw
    refine c_iast X.1 h (cids_b hk1.1 5 (by decide)) (ckind_ba hk1.2 (by decide) (by decide)) (n := 40) (ilen_ba (by decide)) hk4 dX0_addMark_39 (fun C39 eC39 H locs h => ?_)
    have hw := hw C39 eC39
    have hk1 : bok C39 x0 := by rw [eC39]; exact hk1
    refine lv_aload_n hx hb dX0_addMark_40 rfl (lv_at hl 0 rfl) ?_
    refine lv_dup hx hb dX0_addMark_41 rfl ?_
    refine c_get X.1 h (cids_b0 hk1.1) 9 (ckind_b hk1.2) (by decide) rfl inX0_addMark_X0 5 (by decide) (by decide +kernel) rfl rfl dX0_addMark_42 ?_
    refine lv_iconst (v := 1) hx hb dX0_addMark_45 (by decide) ?_
    refine lv_iadd hx hb dX0_addMark_46 ?_
    refine c_put X.1 h (cids_b0 hk1.1) 9 (ckind_b hk1.2) (by decide) rfl inX0_addMark_X0 tyX0 tyX0_ok nmX0 5 (by decide) (by decide +kernel) rfl rfl rfl rfl (Nat.le_of_ble_eq_true rfl) (fun _ _ => rfl) dX0_addMark_47 (fun C47 eC47 H locs h => ?_)
    have hw := hw C47 eC47
    have hk1 : bok C47 x0 := by rw [eC47]; exact hk1
    refine lv_iload_n hx hb dX0_addMark_50 rfl (lv_at hl 3 rfl) ?_
    refine lv_bipush (v := 8) hx hb dX0_addMark_51 (by decide) ?_
    refine lv_icmp_eq (tgt := 66) hx hb dX0_addMark_53 (by decide) (fun c53 => ?_) (fun c53 => ?_)
    · have hw := hw.1 c53
      exact hret C47 _ _ _ ls hw h dX0_addMark_66
    · have hw := hw.2 c53
      refine lv_aload_n hx hb dX0_addMark_56 rfl (lv_at hl 0 rfl) ?_
      refine lv_dup hx hb dX0_addMark_57 rfl ?_
      refine c_get X.1 h (cids_b0 hk1.1) 9 (ckind_b hk1.2) (by decide) rfl inX0_addMark_X0 6 (by decide) (by decide +kernel) rfl rfl dX0_addMark_58 ?_
      refine lv_iconst (v := 1) hx hb dX0_addMark_61 (by decide) ?_
      refine lv_iadd hx hb dX0_addMark_62 ?_
      refine c_put X.1 h (cids_b0 hk1.1) 9 (ckind_b hk1.2) (by decide) rfl inX0_addMark_X0 tyX0 tyX0_ok nmX0 6 (by decide) (by decide +kernel) rfl rfl rfl rfl (Nat.le_of_ble_eq_true rfl) (fun _ _ => rfl) dX0_addMark_63 (fun C63 eC63 H locs h => ?_)
      have hw := hw C63 eC63
      have hk1 : bok C63 x0 := by rw [eC63]; exact hk1
      exact hret C63 _ _ _ ls hw h dX0_addMark_66
  · have hw := hw.2 c6
    exact hret C _ _ _ ls hw h dX0_addMark_9
def rmX0_forkCount : Room := { frames := 0, cells := 0, slots := 0, locals := 0 }
theorem inX0_forkCount_X0 : ∀ w ∈ wsX00, w ∈ wsX0_forkCount := fun w h => List.mem_cons_of_mem _ (List.mem_append_right _ h)
set_option maxHeartbeats 4000000 in
set_option maxRecDepth 100000 in
theorem qX0_forkCount (l : Launch) (D : va_G) (cA : Nat → ClassId) (n : Nat) (x0 : Nat) : cMi l D cA yX0_forkCount wsX0_forkCount rmX0_forkCount (fun ad => [.ref (ad (64 + 8 * x0))]) (wpX0_forkCount n x0) := by
  intro ad sz C Q hw
  unfold wpX0_forkCount at hw
  refine c_enter (cc := cX0_forkCount) (maxL := 1) (ret := some .int) (own := RX0) (by decide) rfl rfl (Nat.le_of_ble_eq_true rfl) ?_
  intro p e s m args below meth c hsz X hr hlocks h ls hl
  have hret := c_iret (p := p) (l := l) (e := e) (R := (headSpec wsX0_forkCount rmX0_forkCount).room) (s := s) (m := m) (args := args) (below := below) (meth := meth) (c := c) (cc := cX0_forkCount) (D := D) (cA := cA) (ad := ad) (A := va_A (cws cA ad C) sz) (Q := Q) X.1.1 X.1.2.1 hr hlocks X.1.2.2.2.2.2.1
  obtain ⟨⟨hx, hb, hml, hown, hts, hK, hA⟩, hN⟩ := id X
  have hl : lv_has ls 1 [(0, .ref (ad (64 + 8 * x0)))] := hl
  refine lv_aload_n hx hb dX0_forkCount_0 rfl (lv_at hl 0 rfl) ?_
  obtain ⟨hk1, hw⟩ := hw
  refine c_get X.1 h (cids_b0 hk1.1) 9 (ckind_b hk1.2) (by decide) rfl inX0_forkCount_X0 5 (by decide) (by decide +kernel) rfl rfl dX0_forkCount_1 ?_
  refine lv_aload_n hx hb dX0_forkCount_4 rfl (lv_at hl 0 rfl) ?_
  refine c_get X.1 h (cids_b0 hk1.1) 9 (ckind_b hk1.2) (by decide) rfl inX0_forkCount_X0 6 (by decide) (by decide +kernel) rfl rfl dX0_forkCount_5 ?_
  refine lv_isub hx hb dX0_forkCount_8 ?_
  exact hret ((cI C (64 + 8 * x0) 5) - (cI C (64 + 8 * x0) 6)) C _ _ _ ls hw h dX0_forkCount_9
def rmX0_mostAgreeing : Room := { frames := 1, cells := 0, slots := 0, locals := 21 }
theorem inX0_mostAgreeing_X0 : ∀ w ∈ wsX00, w ∈ wsX0_mostAgreeing := fun w h => List.mem_cons_of_mem _ (List.mem_append_right _ h)
set_option maxHeartbeats 4000000 in
set_option maxRecDepth 100000 in
theorem qX0_mostAgreeing (l : Launch) (D : va_G) (cA : Nat → ClassId) (n : Nat) (x0 : Nat) (x1 : Nat) : cMi l D cA yX0_mostAgreeing wsX0_mostAgreeing rmX0_mostAgreeing (fun ad => [.ref (ad (64 + 8 * x0)), .ref (ad (64 + 8 * x1))]) (wpX0_mostAgreeing n x0 x1) := by
  intro ad sz C Q hw
  unfold wpX0_mostAgreeing at hw
  refine c_enter (cc := cX0_mostAgreeing) (maxL := 2) (ret := some .int) (own := RX0) (by decide) rfl rfl (Nat.le_of_ble_eq_true rfl) ?_
  intro p e s m args below meth c hsz X hr hlocks h ls hl
  have hret := c_iret (p := p) (l := l) (e := e) (R := (headSpec wsX0_mostAgreeing rmX0_mostAgreeing).room) (s := s) (m := m) (args := args) (below := below) (meth := meth) (c := c) (cc := cX0_mostAgreeing) (D := D) (cA := cA) (ad := ad) (A := va_A (cws cA ad C) sz) (Q := Q) X.1.1 X.1.2.1 hr hlocks X.1.2.2.2.2.2.1
  obtain ⟨⟨hx, hb, hml, hown, hts, hK, hA⟩, hN⟩ := id X
  have hl : lv_has ls 2 [(0, .ref (ad (64 + 8 * x0))), (1, .ref (ad (64 + 8 * x1)))] := hl
  refine lv_aload_n hx hb dX0_mostAgreeing_0 rfl (lv_at hl 0 rfl) ?_
  obtain ⟨hk1, hw⟩ := hw
  refine c_get X.1 h (cids_b0 hk1.1) 9 (ckind_b hk1.2) (by decide) rfl inX0_mostAgreeing_X0 6 (by decide) (by decide +kernel) rfl rfl dX0_mostAgreeing_1 ?_
  refine lv_aload_n hx hb dX0_mostAgreeing_4 rfl (lv_at hl 1 rfl) ?_
  obtain ⟨hk2, hw⟩ := hw
  refine c_get X.1 h (cids_b0 hk2.1) 9 (ckind_b hk2.2) (by decide) rfl inX0_mostAgreeing_X0 6 (by decide) (by decide +kernel) rfl rfl dX0_mostAgreeing_5 ?_
  refine va_mmin hx hb (hml.trans hl.1.symm) hown (hts (.methodLink RX0 45 Lib.Math.min.name) (by decide +kernel)) (hts (.static Lib.Math.min.name) (by decide +kernel)) (hts (.initialized "java/lang/Math") (by decide +kernel)) (hts (.code Lib.Math.min.name Lib.Math.min.code 2 (some .int)) (by decide +kernel)) (Nat.le_of_ble_eq_true rfl) (Nat.le_of_ble_eq_true rfl) (Nat.zero_le _) (Nat.zero_le _) dX0_mostAgreeing_8 ?_
  refine lv_aload_n hx hb dX0_mostAgreeing_11 rfl (lv_at hl 0 rfl) ?_
  refine c_goi X h (c_runV (n := 0) X h (cids_b0 hk1.1) 9 (ckind_b hk1.2) (by decide) rfl (qX0_forkCount l D cA n x0 ad _ _ _ hw) gX0_mostAgreeing_X0_forkCount hl.1 dX0_mostAgreeing_12 rfl rfl rfl (by decide +kernel) ⟨Nat.le_of_ble_eq_true rfl, Nat.le_of_ble_eq_true rfl⟩ rfl rfl (Nat.le_of_ble_eq_true rfl) ⟨Nat.zero_le _, Nat.zero_le _⟩) (fun r12 C12 H locs hw h => ?_)
  refine lv_aload_n hx hb dX0_mostAgreeing_15 rfl (lv_at hl 1 rfl) ?_
  obtain ⟨hk3, hw⟩ := hw
  refine c_goi X h (c_runV (n := 0) X h (cids_b0 hk3.1) 9 (ckind_b hk3.2) (by decide) rfl (qX0_forkCount l D cA n x1 ad _ _ _ hw) gX0_mostAgreeing_X0_forkCount hl.1 dX0_mostAgreeing_16 rfl rfl rfl (by decide +kernel) ⟨Nat.le_of_ble_eq_true rfl, Nat.le_of_ble_eq_true rfl⟩ rfl rfl (Nat.le_of_ble_eq_true rfl) ⟨Nat.zero_le _, Nat.zero_le _⟩) (fun r16 C16 H locs hw h => ?_)
  refine va_mmin hx hb (hml.trans hl.1.symm) hown (hts (.methodLink RX0 45 Lib.Math.min.name) (by decide +kernel)) (hts (.static Lib.Math.min.name) (by decide +kernel)) (hts (.initialized "java/lang/Math") (by decide +kernel)) (hts (.code Lib.Math.min.name Lib.Math.min.code 2 (some .int)) (by decide +kernel)) (Nat.le_of_ble_eq_true rfl) (Nat.le_of_ble_eq_true rfl) (Nat.zero_le _) (Nat.zero_le _) dX0_mostAgreeing_19 ?_
  refine lv_iadd hx hb dX0_mostAgreeing_22 ?_
  exact hret ((imin (cI C (64 + 8 * x0) 6) (cI C (64 + 8 * x1) 6)) + (imin r12 r16)) C16 _ _ _ ls hw h dX0_mostAgreeing_23
end KC
