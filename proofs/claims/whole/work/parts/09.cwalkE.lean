section KC
variable {p : Program} {l : Launch} {e : Env} {s : State} {m : MethodId} {args : Array Value} {below : List Frame} {meth : Method} {c : Code} {Z : State → Prop} {D : va_G} {cA : Nat → ClassId} {A : Nat → Prop} {ad : Nat → Nat}
def rmX6_boardOf : Room := { frames := 0, cells := 0, slots := 0, locals := 0 }
theorem inX6_boardOf_X6 : ∀ w ∈ wsX60, w ∈ wsX6_boardOf := fun w h => List.mem_cons_of_mem _ (List.mem_append_right _ h)
set_option maxHeartbeats 4000000 in
set_option maxRecDepth 100000 in
theorem qX6_boardOf (l : Launch) (D : va_G) (cA : Nat → ClassId) (n : Nat) (x1 : Int32) : cMb l D cA yX6_boardOf wsX6_boardOf rmX6_boardOf (fun ad => [.ref (ad 0), .int x1]) (wpX6_boardOf n x1) := by
  intro ad sz C Q hw
  unfold wpX6_boardOf at hw
  refine c_enter (cc := cX6_boardOf) (maxL := 2) (ret := some (.object "RidgeBooks$Board")) (own := RX6) (by decide) rfl rfl (Nat.le_of_ble_eq_true rfl) ?_
  intro p e s m args below meth c hsz X hr hlocks h ls hl
  have hret := c_bret (p := p) (l := l) (e := e) (R := (headSpec wsX6_boardOf rmX6_boardOf).room) (s := s) (m := m) (args := args) (below := below) (meth := meth) (c := c) (cc := cX6_boardOf) (D := D) (cA := cA) (ad := ad) (A := va_A (cws cA ad C) sz) (Q := Q) X.1.1 X.1.2.1 hr (.inl ⟨_, rfl⟩) hlocks X.1.2.2.2.2.2.1
  obtain ⟨⟨hx, hb, hml, hown, hts, hK, hA⟩, hN⟩ := id X
  have hl : lv_has ls 2 [(0, .ref (ad 0)), (1, .int x1)] := hl
  refine lv_iload_n hx hb dX6_boardOf_0 rfl (lv_at hl 1 rfl) ?_
  refine lv_if_lt (tgt := 27) hx hb dX6_boardOf_1 (by decide) (fun c1 => ?_) (fun c1 => ?_)
  · have hw := hw.1 c1
    refine lv_null hx hb dX6_boardOf_27 ?_
    exact hret none C _ _ _ ls hw h dX6_boardOf_28
  · have hw := hw.2 c1
    refine lv_iload_n hx hb dX6_boardOf_4 rfl (lv_at hl 1 rfl) ?_
    refine lv_aload_n hx hb dX6_boardOf_5 rfl (lv_at hl 0 rfl) ?_
    refine c_get X.1 h (cids_f (by decide)) 0 rfl (by decide) rfl inX6_boardOf_X6 5 (by decide) (by decide +kernel) rfl rfl dX6_boardOf_6 ?_
    refine lv_icmp_ge (tgt := 27) hx hb dX6_boardOf_9 (by decide) (fun c9 => ?_) (fun c9 => ?_)
    · have hw := hw.1 c9
      refine lv_null hx hb dX6_boardOf_27 ?_
      exact hret none C _ _ _ ls hw h dX6_boardOf_28
    · have hw := hw.2 c9
      refine lv_iload_n hx hb dX6_boardOf_12 rfl (lv_at hl 1 rfl) ?_
      refine lv_bipush (v := 16) hx hb dX6_boardOf_13 (by decide) ?_
      refine lv_icmp_ge (tgt := 27) hx hb dX6_boardOf_15 (by decide) (fun c15 => ?_) (fun c15 => ?_)
      · have hw := hw.1 c15
        refine lv_null hx hb dX6_boardOf_27 ?_
        exact hret none C _ _ _ ls hw h dX6_boardOf_28
      · have hw := hw.2 c15
        refine lv_aload_n hx hb dX6_boardOf_18 rfl (lv_at hl 0 rfl) ?_
        refine c_get X.1 h (cids_f (by decide)) 0 rfl (by decide) rfl inX6_boardOf_X6 0 (by decide) (by decide +kernel) rfl rfl dX6_boardOf_19 ?_
        refine lv_iload_n hx hb dX6_boardOf_22 rfl (lv_at hl 1 rfl) ?_
        obtain ⟨hk1, hw⟩ := hw
        refine c_aldB X.1 h hk1 dX6_boardOf_23 ?_
        refine c_optB (fun o23 => ?_) (fun b23 o23 => ?_)
        · have hw := hw.1 o23
          refine lv_goto (tgt := 28) hx hb dX6_boardOf_24 (by decide) ?_
          exact hret none C _ _ _ ls hw h dX6_boardOf_28
        · have hw := hw.2 b23 o23
          refine lv_goto (tgt := 28) hx hb dX6_boardOf_24 (by decide) ?_
          exact hret (some b23) C _ _ _ ls hw h dX6_boardOf_28
def rmX6_freshBoard : Room := { frames := 4, cells := 0, slots := 0, locals := 97 }
theorem inX6_freshBoard_X0 : ∀ w ∈ wsX00, w ∈ wsX6_freshBoard := fun w h => List.mem_cons_of_mem _ (List.mem_append_left _ (List.mem_append_left _ (List.mem_append_left _ (List.mem_append_left _ (List.mem_append_right _ h)))))
theorem inX6_freshBoard_X6 : ∀ w ∈ wsX60, w ∈ wsX6_freshBoard := fun w h => List.mem_cons_of_mem _ (List.mem_append_left _ (List.mem_append_left _ (List.mem_append_left _ (List.mem_append_right _ h))))
theorem inX6_freshBoard_X5 : ∀ w ∈ wsX50, w ∈ wsX6_freshBoard := fun w h => List.mem_cons_of_mem _ (List.mem_append_left _ (List.mem_append_left _ (List.mem_append_right _ h)))
theorem inX6_freshBoard_X3 : ∀ w ∈ wsX30, w ∈ wsX6_freshBoard := fun w h => List.mem_cons_of_mem _ (List.mem_append_left _ (List.mem_append_right _ h))
theorem inX6_freshBoard_X4 : ∀ w ∈ wsX40, w ∈ wsX6_freshBoard := fun w h => List.mem_cons_of_mem _ (List.mem_append_right _ h)
set_option maxHeartbeats 4000000 in
set_option maxRecDepth 100000 in
theorem qX6_freshBoard (l : Launch) (D : va_G) (cA : Nat → ClassId) (n : Nat) (x1 : Int32) : cMb l D cA yX6_freshBoard wsX6_freshBoard rmX6_freshBoard (fun ad => [.ref (ad 0), .int x1]) (wpX6_freshBoard n x1) := by
  intro ad sz C Q hw
  unfold wpX6_freshBoard at hw
  refine c_enter (cc := cX6_freshBoard) (maxL := 3) (ret := some (.object "RidgeBooks$Board")) (own := RX6) (by decide) rfl rfl (Nat.le_of_ble_eq_true rfl) ?_
  intro p e s m args below meth c hsz X hr hlocks h ls hl
  have hret := c_bret (p := p) (l := l) (e := e) (R := (headSpec wsX6_freshBoard rmX6_freshBoard).room) (s := s) (m := m) (args := args) (below := below) (meth := meth) (c := c) (cc := cX6_freshBoard) (D := D) (cA := cA) (ad := ad) (A := va_A (cws cA ad C) sz) (Q := Q) X.1.1 X.1.2.1 hr (.inl ⟨_, rfl⟩) hlocks X.1.2.2.2.2.2.1
  obtain ⟨⟨hx, hb, hml, hown, hts, hK, hA⟩, hN⟩ := id X
  have hl : lv_has ls 3 [(0, .ref (ad 0)), (1, .int x1)] := hl
  refine lv_aload_n hx hb dX6_freshBoard_0 rfl (lv_at hl 0 rfl) ?_
  refine lv_iload_n hx hb dX6_freshBoard_1 rfl (lv_at hl 1 rfl) ?_
  refine c_gob X h (c_runV (n := 1) X h (cids_f (by decide)) 0 rfl (by decide) rfl (qX6_boardOf l D cA n x1 ad _ _ _ hw) gX6_freshBoard_X6_boardOf hl.1 dX6_freshBoard_2 rfl rfl rfl (by decide +kernel) ⟨Nat.le_of_ble_eq_true rfl, Nat.le_of_ble_eq_true rfl⟩ rfl rfl (Nat.le_of_ble_eq_true rfl) ⟨Nat.zero_le _, Nat.zero_le _⟩) (fun r2 C2 H locs hw h => ?_)
  refine c_optB (fun o2 => ?_) (fun b2 o2 => ?_)
  · have hw := hw.1 o2
    refine lv_astore_nN (lv' := [(2, .null), (0, .ref (ad 0)), (1, .int x1)]) hx hb dX6_freshBoard_5 rfl hl (by decide) rfl (fun ls hl => ?_)
    refine lv_aload_nN hx hb dX6_freshBoard_6 rfl (lv_at hl 0 rfl) ?_
    refine lv_ifnullN (tgt := 25) hx hb dX6_freshBoard_7 (by decide) ?_
    refine lv_aload_nN hx hb dX6_freshBoard_25 rfl (lv_at hl 0 rfl) ?_
    exact hret none C2 _ _ _ ls hw h dX6_freshBoard_26
  · have hw := hw.2 b2 o2
    refine lv_astore_n (lv' := [(2, .ref (ad (64 + 8 * b2))), (0, .ref (ad 0)), (1, .int x1)]) hx hb dX6_freshBoard_5 rfl hl (by decide) rfl (fun ls hl => ?_)
    refine lv_aload_n hx hb dX6_freshBoard_6 rfl (lv_at hl 0 rfl) ?_
    refine lv_ifnull hx hb dX6_freshBoard_7 ?_
    refine lv_aload_n hx hb dX6_freshBoard_10 rfl (lv_at hl 0 rfl) ?_
    obtain ⟨hk1, hw⟩ := hw
    refine c_get X.1 h (cids_b0 hk1.1) 9 (ckind_b hk1.2) (by decide) rfl inX6_freshBoard_X0 8 (by decide) (by decide +kernel) rfl rfl dX6_freshBoard_11 ?_
    refine lv_if_eq (tgt := 25) hx hb dX6_freshBoard_14 (by decide) (fun c14 => ?_) (fun c14 => ?_)
    · have hw := hw.1 c14
      refine lv_aload_n hx hb dX6_freshBoard_25 rfl (lv_at hl 0 rfl) ?_
      exact hret (some b2) C2 _ _ _ ls hw h dX6_freshBoard_26
    · have hw := hw.2 c14
      refine lv_aload_n hx hb dX6_freshBoard_17 rfl (lv_at hl 1 rfl) ?_
      refine c_get X.1 h (cids_f (by decide)) 0 rfl (by decide) rfl inX6_freshBoard_X6 2 (by decide) (by decide +kernel) rfl rfl dX6_freshBoard_18 ?_
      refine lv_aload_n hx hb dX6_freshBoard_21 rfl (lv_at hl 0 rfl) ?_
      refine c_gov X h (c_runV (n := 1) X h (cids_f (by decide)) 3 rfl (by decide) rfl (qX5_refresh l D cA n b2 ad _ _ _ hw) gX6_freshBoard_X5_refresh hl.1 dX6_freshBoard_22 rfl rfl rfl (by decide +kernel) ⟨Nat.le_of_ble_eq_true rfl, Nat.le_of_ble_eq_true rfl⟩ rfl rfl (Nat.le_of_ble_eq_true rfl) ⟨Nat.zero_le _, Nat.zero_le _⟩) (fun C22 H locs hw h => ?_)
      refine lv_aload_n hx hb dX6_freshBoard_25 rfl (lv_at hl 0 rfl) ?_
      exact hret (some b2) C22 _ _ _ ls hw h dX6_freshBoard_26
def rmX6_row : Room := { frames := 2, cells := 0, slots := 0, locals := 42 }
theorem inX6_row_X6 : ∀ w ∈ wsX60, w ∈ wsX6_row := fun w h => List.mem_cons_of_mem _ (List.mem_append_left _ (List.mem_append_right _ h))
theorem inX6_row_X0 : ∀ w ∈ wsX00, w ∈ wsX6_row := fun w h => List.mem_cons_of_mem _ (List.mem_append_right _ h)
set_option maxHeartbeats 4000000 in
set_option maxRecDepth 100000 in
theorem qX6_row (l : Launch) (D : va_G) (cA : Nat → ClassId) (n : Nat) (x1 : Int32) (x2 : Int32) (x3 : Int32) : cMi l D cA yX6_row wsX6_row rmX6_row (fun ad => [.ref (ad 0), .int x1, .int x2, .int x3]) (wpX6_row n x1 x2 x3) := by
  intro ad sz C Q hw
  unfold wpX6_row at hw
  refine c_enter (cc := cX6_row) (maxL := 5) (ret := some .int) (own := RX6) (by decide) rfl rfl (Nat.le_of_ble_eq_true rfl) ?_
  intro p e s m args below meth c hsz X hr hlocks h ls hl
  have hret := c_iret (p := p) (l := l) (e := e) (R := (headSpec wsX6_row rmX6_row).room) (s := s) (m := m) (args := args) (below := below) (meth := meth) (c := c) (cc := cX6_row) (D := D) (cA := cA) (ad := ad) (A := va_A (cws cA ad C) sz) (Q := Q) X.1.1 X.1.2.1 hr hlocks X.1.2.2.2.2.2.1
  obtain ⟨⟨hx, hb, hml, hown, hts, hK, hA⟩, hN⟩ := id X
  have hl : lv_has ls 5 [(0, .ref (ad 0)), (1, .int x1), (2, .int x2), (3, .int x3)] := hl
  refine lv_iload_n hx hb dX6_row_0 rfl (lv_at hl 2 rfl) ?_
  refine c_goi X h (c_runS (n := 1) X h (qX6_isOnBoard l D cA n x2 ad _ _ _ hw) gX6_row_X6_isOnBoard hl.1 dX6_row_1 rfl rfl rfl (by decide +kernel) ⟨Nat.le_of_ble_eq_true rfl, Nat.le_of_ble_eq_true rfl⟩ rfl rfl (Nat.le_of_ble_eq_true rfl) ⟨Nat.zero_le _, Nat.zero_le _⟩) (fun r1 C1 H locs hw h => ?_)
  refine lv_if_ne (tgt := 13) hx hb dX6_row_4 (by decide) (fun c4 => ?_) (fun c4 => ?_)
  · have hw := hw.1 c4
    refine lv_aload_n hx hb dX6_row_13 rfl (lv_at hl 0 rfl) ?_
    refine lv_iload_n hx hb dX6_row_14 rfl (lv_at hl 1 rfl) ?_
    refine c_gob X h (c_runV (n := 1) X h (cids_f (by decide)) 0 rfl (by decide) rfl (qX6_boardOf l D cA n x1 ad _ _ _ hw) gX6_row_X6_boardOf hl.1 dX6_row_15 rfl rfl rfl (by decide +kernel) ⟨Nat.le_of_ble_eq_true rfl, Nat.le_of_ble_eq_true rfl⟩ rfl rfl (Nat.le_of_ble_eq_true rfl) ⟨Nat.zero_le _, Nat.zero_le _⟩) (fun r15 C15 H locs hw h => ?_)
    refine c_optB (fun o15 => ?_) (fun b15 o15 => ?_)
    · have hw := hw.1 o15
      refine lv_astoreN (lv' := [(4, .null), (0, .ref (ad 0)), (1, .int x1), (2, .int x2), (3, .int x3)]) hx hb dX6_row_18 hl (by decide) rfl (fun ls hl => ?_)
      refine lv_aloadN hx hb dX6_row_20 (lv_at hl 0 rfl) ?_
      refine lv_ifnonnullN hx hb dX6_row_22 ?_
      refine lv_aload_n hx hb dX6_row_25 rfl (lv_at hl 1 rfl) ?_
      refine lv_bipush (v := (-2)) hx hb dX6_row_26 (by decide) ?_
      refine c_goi X h (c_runV (n := 1) X h (cids_f (by decide)) 0 rfl (by decide) rfl (qX6_refuse l D cA n (-2) ad _ _ _ hw) gX6_row_X6_refuse hl.1 dX6_row_28 rfl rfl rfl (by decide +kernel) ⟨Nat.le_of_ble_eq_true rfl, Nat.le_of_ble_eq_true rfl⟩ rfl rfl (Nat.le_of_ble_eq_true rfl) ⟨Nat.zero_le _, Nat.zero_le _⟩) (fun r28 C28 H locs hw h => ?_)
      exact hret r28 C28 _ _ _ ls hw h dX6_row_31
    · have hw := hw.2 b15 o15
      refine lv_astore (lv' := [(4, .ref (ad (64 + 8 * b15))), (0, .ref (ad 0)), (1, .int x1), (2, .int x2), (3, .int x3)]) hx hb dX6_row_18 hl (by decide) rfl (fun ls hl => ?_)
      refine lv_aload hx hb dX6_row_20 (lv_at hl 0 rfl) ?_
      refine lv_ifnonnull (tgt := 32) hx hb dX6_row_22 (by decide) ?_
      refine lv_aload_n hx hb dX6_row_32 rfl (lv_at hl 1 rfl) ?_
      refine lv_iconst (v := 0) hx hb dX6_row_33 (by decide) ?_
      refine c_put X.1 h (cids_f (by decide)) 0 rfl (by decide) rfl inX6_row_X6 tyX6 tyX6_ok nmX6 7 (by decide) (by decide +kernel) rfl rfl rfl rfl (Nat.le_of_ble_eq_true rfl) (fun _ _ => rfl) dX6_row_34 (fun C34 eC34 H locs h => ?_)
      have hw := hw C34 eC34
      refine lv_aload hx hb dX6_row_37 (lv_at hl 0 rfl) ?_
      refine lv_iload_n hx hb dX6_row_39 rfl (lv_at hl 3 rfl) ?_
      refine lv_iload_n hx hb dX6_row_40 rfl (lv_at hl 4 rfl) ?_
      refine lv_ldc (v := 16777215) hx hb hown (hts (.constant RX6 62 (16777215)) (by decide +kernel)) dX6_row_41 ?_
      refine lv_iand hx hb dX6_row_43 ?_
      obtain ⟨hk1, hw⟩ := hw
      refine c_gov X h (c_runV (n := 2) X h (cids_b0 hk1.1) 9 (ckind_b hk1.2) (by decide) rfl (qX0_tell l D cA n b15 x2 (x3 &&& 16777215) ad _ _ _ hw) gX6_row_X0_tell hl.1 dX6_row_44 rfl rfl rfl (by decide +kernel) ⟨Nat.le_of_ble_eq_true rfl, Nat.le_of_ble_eq_true rfl⟩ rfl rfl (Nat.le_of_ble_eq_true rfl) ⟨Nat.zero_le _, Nat.zero_le _⟩) (fun C44 H locs hw h => ?_)
      refine lv_iconst (v := 0) hx hb dX6_row_47 (by decide) ?_
      exact hret 0 C44 _ _ _ ls hw h dX6_row_48
  · have hw := hw.2 c4
    refine lv_aload_n hx hb dX6_row_7 rfl (lv_at hl 0 rfl) ?_
    refine lv_iconst (v := (-1)) hx hb dX6_row_8 (by decide) ?_
    refine c_goi X h (c_runV (n := 1) X h (cids_f (by decide)) 0 rfl (by decide) rfl (qX6_refuse l D cA n (-1) ad _ _ _ hw) gX6_row_X6_refuse hl.1 dX6_row_9 rfl rfl rfl (by decide +kernel) ⟨Nat.le_of_ble_eq_true rfl, Nat.le_of_ble_eq_true rfl⟩ rfl rfl (Nat.le_of_ble_eq_true rfl) ⟨Nat.zero_le _, Nat.zero_le _⟩) (fun r9 C9 H locs hw h => ?_)
    exact hret r9 C9 _ _ _ ls hw h dX6_row_12
def rmX6_cell : Room := { frames := 5, cells := 0, slots := 0, locals := 119 }
theorem inX6_cell_X0 : ∀ w ∈ wsX00, w ∈ wsX6_cell := fun w h => List.mem_cons_of_mem _ (List.mem_append_left _ (List.mem_append_left _ (List.mem_append_left _ (List.mem_append_left _ (List.mem_append_right _ h)))))
theorem inX6_cell_X6 : ∀ w ∈ wsX60, w ∈ wsX6_cell := fun w h => List.mem_cons_of_mem _ (List.mem_append_left _ (List.mem_append_left _ (List.mem_append_left _ (List.mem_append_right _ h))))
theorem inX6_cell_X5 : ∀ w ∈ wsX50, w ∈ wsX6_cell := fun w h => List.mem_cons_of_mem _ (List.mem_append_left _ (List.mem_append_left _ (List.mem_append_right _ h)))
theorem inX6_cell_X3 : ∀ w ∈ wsX30, w ∈ wsX6_cell := fun w h => List.mem_cons_of_mem _ (List.mem_append_left _ (List.mem_append_right _ h))
theorem inX6_cell_X4 : ∀ w ∈ wsX40, w ∈ wsX6_cell := fun w h => List.mem_cons_of_mem _ (List.mem_append_right _ h)
set_option maxHeartbeats 4000000 in
set_option maxRecDepth 100000 in
theorem kX6_cell_76 {n : Nat} {Q : Int32 → cM → Prop} (X : cX p s m args meth c D cA A cX6_cell 7 wsX6_cell RX6) (x2 : Int32)
    (hret : ∀ (r : Int32) (C : cM) (H : Heap) (locs : List Loc) (pc : Nat) (ls : Array Slot), Q r C → cH D cA ad A s.heap C H locs → decode cX6_cell pc = .ok (.ireturn, 1) → W p l e (headSpec wsX6_cell rmX6_cell).room s m args below meth c H locs 0 0 Z (F0 m pc ls [.int r])) :
    ∀ (s0 : Int32) (C : cM) (H : Heap) (locs : List Loc) (ls : Array Slot), wpX6_cell_76 n Q x2 s0 C → cH D cA ad A s.heap C H locs → lv_has ls 7 [(2, .int x2)] → W p l e (headSpec wsX6_cell rmX6_cell).room s m args below meth c H locs 0 0 Z (F0 m 76 ls [.int s0]) := by
  intro s0 C H locs ls hw h hl
  unfold wpX6_cell_76 at hw
  obtain ⟨⟨hx, hb, hml, hown, hts, hK, hA⟩, hN⟩ := id X
  refine lv_istore (lv' := [(6, .int s0), (2, .int x2)]) hx hb dX6_cell_76 hl (by decide) rfl (fun ls hl => ?_)
  refine lv_iload hx hb dX6_cell_78 (lv_at hl 0 rfl) ?_
  refine lv_iload_n hx hb dX6_cell_80 rfl (lv_at hl 1 rfl) ?_
  refine lv_iushr (v := ush s0 x2) hx hb dX6_cell_81 rfl ?_
  refine lv_iconst (v := 1) hx hb dX6_cell_82 (by decide) ?_
  refine lv_iand hx hb dX6_cell_83 ?_
  exact hret ((ush s0 x2) &&& 1) C _ _ _ ls hw h dX6_cell_84
set_option maxHeartbeats 4000000 in
set_option maxRecDepth 100000 in
theorem kX6_cell_45 {n : Nat} {Q : Int32 → cM → Prop} (X : cX p s m args meth c D cA A cX6_cell 7 wsX6_cell RX6) (x2 : Int32) (x3 : Int32) (x4 : Int32)
    (hret : ∀ (r : Int32) (C : cM) (H : Heap) (locs : List Loc) (pc : Nat) (ls : Array Slot), Q r C → cH D cA ad A s.heap C H locs → decode cX6_cell pc = .ok (.ireturn, 1) → W p l e (headSpec wsX6_cell rmX6_cell).room s m args below meth c H locs 0 0 Z (F0 m pc ls [.int r])) :
    ∀ (s0 : Option Nat) (C : cM) (H : Heap) (locs : List Loc) (ls : Array Slot), wpX6_cell_45 n Q x2 x3 x4 s0 C → cH D cA ad A s.heap C H locs → lv_has ls 7 [(2, .int x2), (3, .int x3), (4, .int x4)] → W p l e (headSpec wsX6_cell rmX6_cell).room s m args below meth c H locs 0 0 Z (F0 m 45 ls [bRef ad s0]) := by
  intro s0 C H locs ls hw h hl
  unfold wpX6_cell_45 at hw
  obtain ⟨⟨hx, hb, hml, hown, hts, hK, hA⟩, hN⟩ := id X
  refine c_optB (fun o45 => ?_) (fun b45 o45 => ?_)
  · have hw := hw.1 o45
    refine lv_astoreN (lv' := [(5, .null), (2, .int x2), (3, .int x3), (4, .int x4)]) hx hb dX6_cell_45 hl (by decide) rfl (fun ls hl => ?_)
    refine lv_aloadN hx hb dX6_cell_47 (lv_at hl 0 rfl) ?_
    refine lv_ifnonnullN hx hb dX6_cell_49 ?_
    refine lv_iconst (v := (-1)) hx hb dX6_cell_52 (by decide) ?_
    exact hret (-1) C _ _ _ ls hw h dX6_cell_53
  · have hw := hw.2 b45 o45
    refine lv_astore (lv' := [(5, .ref (ad (64 + 8 * b45))), (2, .int x2), (3, .int x3), (4, .int x4)]) hx hb dX6_cell_45 hl (by decide) rfl (fun ls hl => ?_)
    refine lv_aload hx hb dX6_cell_47 (lv_at hl 0 rfl) ?_
    refine lv_ifnonnull (tgt := 54) hx hb dX6_cell_49 (by decide) ?_
    refine lv_iload hx hb dX6_cell_54 (lv_at hl 3 rfl) ?_
    refine lv_if_ne (tgt := 69) hx hb dX6_cell_56 (by decide) (fun c56 => ?_) (fun c56 => ?_)
    · have hw := hw.1 c56
      refine lv_aload hx hb dX6_cell_69 (lv_at hl 0 rfl) ?_
      obtain ⟨hk1, hw⟩ := hw
      refine c_get X.1 h (cids_b0 hk1.1) 9 (ckind_b hk1.2) (by decide) rfl inX6_cell_X0 1 (by decide) (by decide +kernel) rfl rfl dX6_cell_71 ?_
      refine lv_iload_n hx hb dX6_cell_74 rfl (lv_at hl 2 rfl) ?_
      obtain ⟨hk2, hw⟩ := hw
      refine c_iald X.1 h (cids_b hk1.1 2 (by decide)) (ckind_ba hk1.2 (by decide) (by decide)) (n := 24) (ilen_ba (by decide)) hk2 dX6_cell_75 ?_
      exact kX6_cell_76 X x2 hret (cI C (64 + 8 * b45 + 2) x3.toNatClampNeg) C _ _ ls hw h (lv_sub hl [1] rfl)
    · have hw := hw.2 c56
      refine lv_aload hx hb dX6_cell_59 (lv_at hl 0 rfl) ?_
      obtain ⟨hk3, hw⟩ := hw
      refine c_get X.1 h (cids_b0 hk3.1) 9 (ckind_b hk3.2) (by decide) rfl inX6_cell_X0 0 (by decide) (by decide +kernel) rfl rfl dX6_cell_61 ?_
      refine lv_iload_n hx hb dX6_cell_64 rfl (lv_at hl 2 rfl) ?_
      obtain ⟨hk4, hw⟩ := hw
      refine c_iald X.1 h (cids_b hk3.1 1 (by decide)) (ckind_ba hk3.2 (by decide) (by decide)) (n := 24) (ilen_ba (by decide)) hk4 dX6_cell_65 ?_
      refine lv_goto (tgt := 76) hx hb dX6_cell_66 (by decide) ?_
      exact kX6_cell_76 X x2 hret (cI C (64 + 8 * b45 + 1) x3.toNatClampNeg) C _ _ ls hw h (lv_sub hl [1] rfl)
set_option maxHeartbeats 4000000 in
set_option maxRecDepth 100000 in
theorem qX6_cell (l : Launch) (D : va_G) (cA : Nat → ClassId) (n : Nat) (x1 : Int32) (x2 : Int32) (x3 : Int32) (x4 : Int32) : cMi l D cA yX6_cell wsX6_cell rmX6_cell (fun ad => [.ref (ad 0), .int x1, .int x2, .int x3, .int x4]) (wpX6_cell n x1 x2 x3 x4) := by
  intro ad sz C Q hw
  unfold wpX6_cell at hw
  refine c_enter (cc := cX6_cell) (maxL := 7) (ret := some .int) (own := RX6) (by decide) rfl rfl (Nat.le_of_ble_eq_true rfl) ?_
  intro p e s m args below meth c hsz X hr hlocks h ls hl
  have hret := c_iret (p := p) (l := l) (e := e) (R := (headSpec wsX6_cell rmX6_cell).room) (s := s) (m := m) (args := args) (below := below) (meth := meth) (c := c) (cc := cX6_cell) (D := D) (cA := cA) (ad := ad) (A := va_A (cws cA ad C) sz) (Q := Q) X.1.1 X.1.2.1 hr hlocks X.1.2.2.2.2.2.1
  obtain ⟨⟨hx, hb, hml, hown, hts, hK, hA⟩, hN⟩ := id X
  have hl : lv_has ls 7 [(0, .ref (ad 0)), (1, .int x1), (2, .int x2), (3, .int x3), (4, .int x4)] := hl
  refine lv_iload_n hx hb dX6_cell_0 rfl (lv_at hl 2 rfl) ?_
  refine c_goi X h (c_runS (n := 1) X h (qX6_isOnBoard l D cA n x2 ad _ _ _ hw) gX6_cell_X6_isOnBoard hl.1 dX6_cell_1 rfl rfl rfl (by decide +kernel) ⟨Nat.le_of_ble_eq_true rfl, Nat.le_of_ble_eq_true rfl⟩ rfl rfl (Nat.le_of_ble_eq_true rfl) ⟨Nat.zero_le _, Nat.zero_le _⟩) (fun r1 C1 H locs hw h => ?_)
  refine lv_if_eq (tgt := 25) hx hb dX6_cell_4 (by decide) (fun c4 => ?_) (fun c4 => ?_)
  · have hw := hw.1 c4
    refine lv_iconst (v := (-1)) hx hb dX6_cell_25 (by decide) ?_
    exact hret (-1) C1 _ _ _ ls hw h dX6_cell_26
  · have hw := hw.2 c4
    refine lv_iload_n hx hb dX6_cell_7 rfl (lv_at hl 3 rfl) ?_
    refine c_goi X h (c_runS (n := 1) X h (qX6_isOnBoard l D cA n x3 ad _ _ _ hw) gX6_cell_X6_isOnBoard hl.1 dX6_cell_8 rfl rfl rfl (by decide +kernel) ⟨Nat.le_of_ble_eq_true rfl, Nat.le_of_ble_eq_true rfl⟩ rfl rfl (Nat.le_of_ble_eq_true rfl) ⟨Nat.zero_le _, Nat.zero_le _⟩) (fun r8 C8 H locs hw h => ?_)
    refine lv_if_eq (tgt := 25) hx hb dX6_cell_11 (by decide) (fun c11 => ?_) (fun c11 => ?_)
    · have hw := hw.1 c11
      refine lv_iconst (v := (-1)) hx hb dX6_cell_25 (by decide) ?_
      exact hret (-1) C8 _ _ _ ls hw h dX6_cell_26
    · have hw := hw.2 c11
      refine lv_iload hx hb dX6_cell_14 (lv_at hl 4 rfl) ?_
      refine lv_if_lt (tgt := 25) hx hb dX6_cell_16 (by decide) (fun c16 => ?_) (fun c16 => ?_)
      · have hw := hw.1 c16
        refine lv_iconst (v := (-1)) hx hb dX6_cell_25 (by decide) ?_
        exact hret (-1) C8 _ _ _ ls hw h dX6_cell_26
      · have hw := hw.2 c16
        refine lv_iload hx hb dX6_cell_19 (lv_at hl 4 rfl) ?_
        refine lv_iconst (v := 1) hx hb dX6_cell_21 (by decide) ?_
        refine lv_icmp_le (tgt := 27) hx hb dX6_cell_22 (by decide) (fun c22 => ?_) (fun c22 => ?_)
        · have hw := hw.1 c22
          refine lv_iload hx hb dX6_cell_27 (lv_at hl 4 rfl) ?_
          refine lv_if_ne (tgt := 40) hx hb dX6_cell_29 (by decide) (fun c29 => ?_) (fun c29 => ?_)
          · have hw := hw.1 c29
            refine lv_aload_n hx hb dX6_cell_40 rfl (lv_at hl 0 rfl) ?_
            refine lv_iload_n hx hb dX6_cell_41 rfl (lv_at hl 1 rfl) ?_
            refine c_gob X h (c_runV (n := 1) X h (cids_f (by decide)) 0 rfl (by decide) rfl (qX6_freshBoard l D cA n x1 ad _ _ _ hw) gX6_cell_X6_freshBoard hl.1 dX6_cell_42 rfl rfl rfl (by decide +kernel) ⟨Nat.le_of_ble_eq_true rfl, Nat.le_of_ble_eq_true rfl⟩ rfl rfl (Nat.le_of_ble_eq_true rfl) ⟨Nat.zero_le _, Nat.zero_le _⟩) (fun r42 C42 H locs hw h => ?_)
            refine c_optB (fun o42 => ?_) (fun b42 o42 => ?_)
            · have hw := hw.1 o42
              exact kX6_cell_45 X x2 x3 x4 hret none C42 _ _ ls hw h (lv_sub hl [2, 3, 4] rfl)
            · have hw := hw.2 b42 o42
              exact kX6_cell_45 X x2 x3 x4 hret (some b42) C42 _ _ ls hw h (lv_sub hl [2, 3, 4] rfl)
          · have hw := hw.2 c29
            refine lv_aload_n hx hb dX6_cell_32 rfl (lv_at hl 0 rfl) ?_
            refine lv_iload_n hx hb dX6_cell_33 rfl (lv_at hl 1 rfl) ?_
            refine c_gob X h (c_runV (n := 1) X h (cids_f (by decide)) 0 rfl (by decide) rfl (qX6_boardOf l D cA n x1 ad _ _ _ hw) gX6_cell_X6_boardOf hl.1 dX6_cell_34 rfl rfl rfl (by decide +kernel) ⟨Nat.le_of_ble_eq_true rfl, Nat.le_of_ble_eq_true rfl⟩ rfl rfl (Nat.le_of_ble_eq_true rfl) ⟨Nat.zero_le _, Nat.zero_le _⟩) (fun r34 C34 H locs hw h => ?_)
            refine c_optB (fun o34 => ?_) (fun b34 o34 => ?_)
            · have hw := hw.1 o34
              refine lv_goto (tgt := 45) hx hb dX6_cell_37 (by decide) ?_
              exact kX6_cell_45 X x2 x3 x4 hret none C34 _ _ ls hw h (lv_sub hl [2, 3, 4] rfl)
            · have hw := hw.2 b34 o34
              refine lv_goto (tgt := 45) hx hb dX6_cell_37 (by decide) ?_
              exact kX6_cell_45 X x2 x3 x4 hret (some b34) C34 _ _ ls hw h (lv_sub hl [2, 3, 4] rfl)
        · have hw := hw.2 c22
          refine lv_iconst (v := (-1)) hx hb dX6_cell_25 (by decide) ?_
          exact hret (-1) C8 _ _ _ ls hw h dX6_cell_26
def rmX6_thin : Room := { frames := 5, cells := 0, slots := 0, locals := 119 }
theorem inX6_thin_X0 : ∀ w ∈ wsX00, w ∈ wsX6_thin := fun w h => List.mem_cons_of_mem _ (List.mem_append_left _ (List.mem_append_left _ (List.mem_append_left _ (List.mem_append_left _ (List.mem_append_right _ h)))))
theorem inX6_thin_X6 : ∀ w ∈ wsX60, w ∈ wsX6_thin := fun w h => List.mem_cons_of_mem _ (List.mem_append_left _ (List.mem_append_left _ (List.mem_append_left _ (List.mem_append_right _ h))))
theorem inX6_thin_X5 : ∀ w ∈ wsX50, w ∈ wsX6_thin := fun w h => List.mem_cons_of_mem _ (List.mem_append_left _ (List.mem_append_left _ (List.mem_append_right _ h)))
theorem inX6_thin_X3 : ∀ w ∈ wsX30, w ∈ wsX6_thin := fun w h => List.mem_cons_of_mem _ (List.mem_append_left _ (List.mem_append_right _ h))
theorem inX6_thin_X4 : ∀ w ∈ wsX40, w ∈ wsX6_thin := fun w h => List.mem_cons_of_mem _ (List.mem_append_right _ h)
set_option maxHeartbeats 4000000 in
set_option maxRecDepth 100000 in
theorem qX6_thin (l : Launch) (D : va_G) (cA : Nat → ClassId) (n : Nat) (x1 : Int32) (x2 : Int32) : cMi l D cA yX6_thin wsX6_thin rmX6_thin (fun ad => [.ref (ad 0), .int x1, .int x2]) (wpX6_thin n x1 x2) := by
  intro ad sz C Q hw
  unfold wpX6_thin at hw
  refine c_enter (cc := cX6_thin) (maxL := 4) (ret := some .int) (own := RX6) (by decide) rfl rfl (Nat.le_of_ble_eq_true rfl) ?_
  intro p e s m args below meth c hsz X hr hlocks h ls hl
  have hret := c_iret (p := p) (l := l) (e := e) (R := (headSpec wsX6_thin rmX6_thin).room) (s := s) (m := m) (args := args) (below := below) (meth := meth) (c := c) (cc := cX6_thin) (D := D) (cA := cA) (ad := ad) (A := va_A (cws cA ad C) sz) (Q := Q) X.1.1 X.1.2.1 hr hlocks X.1.2.2.2.2.2.1
  obtain ⟨⟨hx, hb, hml, hown, hts, hK, hA⟩, hN⟩ := id X
  have hl : lv_has ls 4 [(0, .ref (ad 0)), (1, .int x1), (2, .int x2)] := hl
  refine lv_aload_n hx hb dX6_thin_0 rfl (lv_at hl 0 rfl) ?_
  refine lv_iload_n hx hb dX6_thin_1 rfl (lv_at hl 1 rfl) ?_
  refine c_gob X h (c_runV (n := 1) X h (cids_f (by decide)) 0 rfl (by decide) rfl (qX6_freshBoard l D cA n x1 ad _ _ _ hw) gX6_thin_X6_freshBoard hl.1 dX6_thin_2 rfl rfl rfl (by decide +kernel) ⟨Nat.le_of_ble_eq_true rfl, Nat.le_of_ble_eq_true rfl⟩ rfl rfl (Nat.le_of_ble_eq_true rfl) ⟨Nat.zero_le _, Nat.zero_le _⟩) (fun r2 C2 H locs hw h => ?_)
  refine c_optB (fun o2 => ?_) (fun b2 o2 => ?_)
  · have hw := hw.1 o2
    refine lv_astore_nN (lv' := [(3, .null), (0, .ref (ad 0)), (1, .int x1), (2, .int x2)]) hx hb dX6_thin_5 rfl hl (by decide) rfl (fun ls hl => ?_)
    refine lv_aload_nN hx hb dX6_thin_6 rfl (lv_at hl 0 rfl) ?_
    refine lv_ifnullN (tgt := 17) hx hb dX6_thin_7 (by decide) ?_
    refine lv_iconst (v := 0) hx hb dX6_thin_17 (by decide) ?_
    exact hret 0 C2 _ _ _ ls hw h dX6_thin_18
  · have hw := hw.2 b2 o2
    refine lv_astore_n (lv' := [(3, .ref (ad (64 + 8 * b2))), (0, .ref (ad 0)), (1, .int x1), (2, .int x2)]) hx hb dX6_thin_5 rfl hl (by decide) rfl (fun ls hl => ?_)
    refine lv_aload_n hx hb dX6_thin_6 rfl (lv_at hl 0 rfl) ?_
    refine lv_ifnull hx hb dX6_thin_7 ?_
    refine lv_iload_n hx hb dX6_thin_10 rfl (lv_at hl 3 rfl) ?_
    refine c_goi X h (c_runS (n := 1) X h (qX6_isOnBoard l D cA n x2 ad _ _ _ hw) gX6_thin_X6_isOnBoard hl.1 dX6_thin_11 rfl rfl rfl (by decide +kernel) ⟨Nat.le_of_ble_eq_true rfl, Nat.le_of_ble_eq_true rfl⟩ rfl rfl (Nat.le_of_ble_eq_true rfl) ⟨Nat.zero_le _, Nat.zero_le _⟩) (fun r11 C11 H locs hw h => ?_)
    refine lv_if_ne (tgt := 19) hx hb dX6_thin_14 (by decide) (fun c14 => ?_) (fun c14 => ?_)
    · have hw := hw.1 c14
      refine lv_aload_n hx hb dX6_thin_19 rfl (lv_at hl 0 rfl) ?_
      obtain ⟨hk1, hw⟩ := hw
      refine c_get X.1 h (cids_b0 hk1.1) 9 (ckind_b hk1.2) (by decide) rfl inX6_thin_X0 1 (by decide) (by decide +kernel) rfl rfl dX6_thin_20 ?_
      refine lv_iload_n hx hb dX6_thin_23 rfl (lv_at hl 3 rfl) ?_
      obtain ⟨hk2, hw⟩ := hw
      refine c_iald X.1 h (cids_b hk1.1 2 (by decide)) (ckind_ba hk1.2 (by decide) (by decide)) (n := 24) (ilen_ba (by decide)) hk2 dX6_thin_24 ?_
      exact hret (cI C11 (64 + 8 * b2 + 2) x2.toNatClampNeg) C11 _ _ _ ls hw h dX6_thin_25
    · have hw := hw.2 c14
      refine lv_iconst (v := 0) hx hb dX6_thin_17 (by decide) ?_
      exact hret 0 C11 _ _ _ ls hw h dX6_thin_18
def rmX6_mark : Room := { frames := 5, cells := 0, slots := 0, locals := 119 }
theorem inX6_mark_X0 : ∀ w ∈ wsX00, w ∈ wsX6_mark := fun w h => List.mem_cons_of_mem _ (List.mem_append_left _ (List.mem_append_left _ (List.mem_append_left _ (List.mem_append_left _ (List.mem_append_right _ h)))))
theorem inX6_mark_X6 : ∀ w ∈ wsX60, w ∈ wsX6_mark := fun w h => List.mem_cons_of_mem _ (List.mem_append_left _ (List.mem_append_left _ (List.mem_append_left _ (List.mem_append_right _ h))))
theorem inX6_mark_X5 : ∀ w ∈ wsX50, w ∈ wsX6_mark := fun w h => List.mem_cons_of_mem _ (List.mem_append_left _ (List.mem_append_left _ (List.mem_append_right _ h)))
theorem inX6_mark_X3 : ∀ w ∈ wsX30, w ∈ wsX6_mark := fun w h => List.mem_cons_of_mem _ (List.mem_append_left _ (List.mem_append_right _ h))
theorem inX6_mark_X4 : ∀ w ∈ wsX40, w ∈ wsX6_mark := fun w h => List.mem_cons_of_mem _ (List.mem_append_right _ h)
set_option maxHeartbeats 4000000 in
set_option maxRecDepth 100000 in
theorem qX6_mark (l : Launch) (D : va_G) (cA : Nat → ClassId) (n : Nat) (x1 : Int32) (x2 : Int32) (x3 : Int32) : cMi l D cA yX6_mark wsX6_mark rmX6_mark (fun ad => [.ref (ad 0), .int x1, .int x2, .int x3]) (wpX6_mark n x1 x2 x3) := by
  intro ad sz C Q hw
  unfold wpX6_mark at hw
  refine c_enter (cc := cX6_mark) (maxL := 5) (ret := some .int) (own := RX6) (by decide) rfl rfl (Nat.le_of_ble_eq_true rfl) ?_
  intro p e s m args below meth c hsz X hr hlocks h ls hl
  have hret := c_iret (p := p) (l := l) (e := e) (R := (headSpec wsX6_mark rmX6_mark).room) (s := s) (m := m) (args := args) (below := below) (meth := meth) (c := c) (cc := cX6_mark) (D := D) (cA := cA) (ad := ad) (A := va_A (cws cA ad C) sz) (Q := Q) X.1.1 X.1.2.1 hr hlocks X.1.2.2.2.2.2.1
  obtain ⟨⟨hx, hb, hml, hown, hts, hK, hA⟩, hN⟩ := id X
  have hl : lv_has ls 5 [(0, .ref (ad 0)), (1, .int x1), (2, .int x2), (3, .int x3)] := hl
  refine lv_aload_n hx hb dX6_mark_0 rfl (lv_at hl 0 rfl) ?_
  refine lv_iload_n hx hb dX6_mark_1 rfl (lv_at hl 1 rfl) ?_
  refine c_gob X h (c_runV (n := 1) X h (cids_f (by decide)) 0 rfl (by decide) rfl (qX6_freshBoard l D cA n x1 ad _ _ _ hw) gX6_mark_X6_freshBoard hl.1 dX6_mark_2 rfl rfl rfl (by decide +kernel) ⟨Nat.le_of_ble_eq_true rfl, Nat.le_of_ble_eq_true rfl⟩ rfl rfl (Nat.le_of_ble_eq_true rfl) ⟨Nat.zero_le _, Nat.zero_le _⟩) (fun r2 C2 H locs hw h => ?_)
  refine c_optB (fun o2 => ?_) (fun b2 o2 => ?_)
  · have hw := hw.1 o2
    refine lv_astoreN (lv' := [(4, .null), (0, .ref (ad 0)), (1, .int x1), (2, .int x2), (3, .int x3)]) hx hb dX6_mark_5 hl (by decide) rfl (fun ls hl => ?_)
    refine lv_aloadN hx hb dX6_mark_7 (lv_at hl 0 rfl) ?_
    refine lv_ifnullN (tgt := 21) hx hb dX6_mark_9 (by decide) ?_
    refine lv_iconst (v := (-1)) hx hb dX6_mark_21 (by decide) ?_
    exact hret (-1) C2 _ _ _ ls hw h dX6_mark_22
  · have hw := hw.2 b2 o2
    refine lv_astore (lv' := [(4, .ref (ad (64 + 8 * b2))), (0, .ref (ad 0)), (1, .int x1), (2, .int x2), (3, .int x3)]) hx hb dX6_mark_5 hl (by decide) rfl (fun ls hl => ?_)
    refine lv_aload hx hb dX6_mark_7 (lv_at hl 0 rfl) ?_
    refine lv_ifnull hx hb dX6_mark_9 ?_
    refine lv_iload_n hx hb dX6_mark_12 rfl (lv_at hl 4 rfl) ?_
    refine lv_if_lt (tgt := 21) hx hb dX6_mark_13 (by decide) (fun c13 => ?_) (fun c13 => ?_)
    · have hw := hw.1 c13
      refine lv_iconst (v := (-1)) hx hb dX6_mark_21 (by decide) ?_
      exact hret (-1) C2 _ _ _ ls hw h dX6_mark_22
    · have hw := hw.2 c13
      refine lv_iload_n hx hb dX6_mark_16 rfl (lv_at hl 4 rfl) ?_
      refine lv_iconst (v := 2) hx hb dX6_mark_17 (by decide) ?_
      refine lv_icmp_le (tgt := 23) hx hb dX6_mark_18 (by decide) (fun c18 => ?_) (fun c18 => ?_)
      · have hw := hw.1 c18
        refine lv_iload_n hx hb dX6_mark_23 rfl (lv_at hl 3 rfl) ?_
        refine lv_iconst (v := (-1)) hx hb dX6_mark_24 (by decide) ?_
        refine lv_icmp_ne (tgt := 59) hx hb dX6_mark_25 (by decide) (fun c25 => ?_) (fun c25 => ?_)
        · have hw := hw.1 c25
          refine lv_iload_n hx hb dX6_mark_59 rfl (lv_at hl 3 rfl) ?_
          refine lv_if_lt (tgt := 78) hx hb dX6_mark_60 (by decide) (fun c60 => ?_) (fun c60 => ?_)
          · have hw := hw.1 c60
            refine lv_iconst (v := (-1)) hx hb dX6_mark_78 (by decide) ?_
            exact hret (-1) C2 _ _ _ ls hw h dX6_mark_79
          · have hw := hw.2 c60
            refine lv_iload_n hx hb dX6_mark_63 rfl (lv_at hl 3 rfl) ?_
            refine lv_aload hx hb dX6_mark_64 (lv_at hl 0 rfl) ?_
            obtain ⟨hk1, hw⟩ := hw
            refine c_get X.1 h (cids_b0 hk1.1) 9 (ckind_b hk1.2) (by decide) rfl inX6_mark_X0 5 (by decide) (by decide +kernel) rfl rfl dX6_mark_66 ?_
            refine lv_icmp_ge (tgt := 78) hx hb dX6_mark_69 (by decide) (fun c69 => ?_) (fun c69 => ?_)
            · have hw := hw.1 c69
              refine lv_iconst (v := (-1)) hx hb dX6_mark_78 (by decide) ?_
              exact hret (-1) C2 _ _ _ ls hw h dX6_mark_79
            · have hw := hw.2 c69
              refine lv_iload_n hx hb dX6_mark_72 rfl (lv_at hl 3 rfl) ?_
              refine lv_bipush (v := 40) hx hb dX6_mark_73 (by decide) ?_
              refine lv_icmp_lt (tgt := 80) hx hb dX6_mark_75 (by decide) (fun c75 => ?_) (fun c75 => ?_)
              · have hw := hw.1 c75
                refine lv_iload_n hx hb dX6_mark_80 rfl (lv_at hl 4 rfl) ?_
                refine lv_if_ne (tgt := 94) hx hb dX6_mark_81 (by decide) (fun c81 => ?_) (fun c81 => ?_)
                · have hw := hw.1 c81
                  refine lv_iload_n hx hb dX6_mark_94 rfl (lv_at hl 4 rfl) ?_
                  refine lv_iconst (v := 1) hx hb dX6_mark_95 (by decide) ?_
                  refine lv_icmp_ne (tgt := 109) hx hb dX6_mark_96 (by decide) (fun c96 => ?_) (fun c96 => ?_)
                  · have hw := hw.1 c96
                    refine lv_aload hx hb dX6_mark_109 (lv_at hl 0 rfl) ?_
                    refine c_get X.1 h (cids_b0 hk1.1) 9 (ckind_b hk1.2) (by decide) rfl inX6_mark_X0 4 (by decide) (by decide +kernel) rfl rfl dX6_mark_111 ?_
                    refine lv_iload_n hx hb dX6_mark_114 rfl (lv_at hl 3 rfl) ?_
                    obtain ⟨hk2, hw⟩ := hw
                    refine c_iald X.1 h (cids_b hk1.1 5 (by decide)) (ckind_ba hk1.2 (by decide) (by decide)) (n := 40) (ilen_ba (by decide)) hk2 dX6_mark_115 ?_
                    exact hret (cI C2 (64 + 8 * b2 + 5) x2.toNatClampNeg) C2 _ _ _ ls hw h dX6_mark_116
                  · have hw := hw.2 c96
                    refine lv_aload hx hb dX6_mark_99 (lv_at hl 0 rfl) ?_
                    refine c_get X.1 h (cids_b0 hk1.1) 9 (ckind_b hk1.2) (by decide) rfl inX6_mark_X0 3 (by decide) (by decide +kernel) rfl rfl dX6_mark_101 ?_
                    refine lv_iload_n hx hb dX6_mark_104 rfl (lv_at hl 3 rfl) ?_
                    obtain ⟨hk3, hw⟩ := hw
                    refine c_iald X.1 h (cids_b hk1.1 4 (by decide)) (ckind_ba hk1.2 (by decide) (by decide)) (n := 40) (ilen_ba (by decide)) hk3 dX6_mark_105 ?_
                    refine lv_goto (tgt := 116) hx hb dX6_mark_106 (by decide) ?_
                    exact hret (cI C2 (64 + 8 * b2 + 4) x2.toNatClampNeg) C2 _ _ _ ls hw h dX6_mark_116
                · have hw := hw.2 c81
                  refine lv_aload hx hb dX6_mark_84 (lv_at hl 0 rfl) ?_
                  refine c_get X.1 h (cids_b0 hk1.1) 9 (ckind_b hk1.2) (by decide) rfl inX6_mark_X0 2 (by decide) (by decide +kernel) rfl rfl dX6_mark_86 ?_
                  refine lv_iload_n hx hb dX6_mark_89 rfl (lv_at hl 3 rfl) ?_
                  obtain ⟨hk4, hw⟩ := hw
                  refine c_iald X.1 h (cids_b hk1.1 3 (by decide)) (ckind_ba hk1.2 (by decide) (by decide)) (n := 40) (ilen_ba (by decide)) hk4 dX6_mark_90 ?_
                  refine lv_goto (tgt := 116) hx hb dX6_mark_91 (by decide) ?_
                  exact hret (cI C2 (64 + 8 * b2 + 3) x2.toNatClampNeg) C2 _ _ _ ls hw h dX6_mark_116
              · have hw := hw.2 c75
                refine lv_iconst (v := (-1)) hx hb dX6_mark_78 (by decide) ?_
                exact hret (-1) C2 _ _ _ ls hw h dX6_mark_79
        · have hw := hw.2 c25
          refine lv_iload_n hx hb dX6_mark_28 rfl (lv_at hl 4 rfl) ?_
          refine lv_if_ne (tgt := 40) hx hb dX6_mark_29 (by decide) (fun c29 => ?_) (fun c29 => ?_)
          · have hw := hw.1 c29
            refine lv_iload_n hx hb dX6_mark_40 rfl (lv_at hl 4 rfl) ?_
            refine lv_iconst (v := 1) hx hb dX6_mark_41 (by decide) ?_
            refine lv_icmp_ne (tgt := 53) hx hb dX6_mark_42 (by decide) (fun c42 => ?_) (fun c42 => ?_)
            · have hw := hw.1 c42
              refine lv_aload hx hb dX6_mark_53 (lv_at hl 0 rfl) ?_
              obtain ⟨hk5, hw⟩ := hw
              refine c_goi X h (c_runV (n := 0) X h (cids_b0 hk5.1) 9 (ckind_b hk5.2) (by decide) rfl (qX0_forkCount l D cA n b2 ad _ _ _ hw) gX6_mark_X0_forkCount hl.1 dX6_mark_55 rfl rfl rfl (by decide +kernel) ⟨Nat.le_of_ble_eq_true rfl, Nat.le_of_ble_eq_true rfl⟩ rfl rfl (Nat.le_of_ble_eq_true rfl) ⟨Nat.zero_le _, Nat.zero_le _⟩) (fun r55 C55 H locs hw h => ?_)
              exact hret r55 C55 _ _ _ ls hw h dX6_mark_58
            · have hw := hw.2 c42
              refine lv_aload hx hb dX6_mark_45 (lv_at hl 0 rfl) ?_
              obtain ⟨hk6, hw⟩ := hw
              refine c_get X.1 h (cids_b0 hk6.1) 9 (ckind_b hk6.2) (by decide) rfl inX6_mark_X0 6 (by decide) (by decide +kernel) rfl rfl dX6_mark_47 ?_
              refine lv_goto (tgt := 58) hx hb dX6_mark_50 (by decide) ?_
              exact hret (cI C2 (64 + 8 * b2) 6) C2 _ _ _ ls hw h dX6_mark_58
          · have hw := hw.2 c29
            refine lv_aload hx hb dX6_mark_32 (lv_at hl 0 rfl) ?_
            obtain ⟨hk7, hw⟩ := hw
            refine c_get X.1 h (cids_b0 hk7.1) 9 (ckind_b hk7.2) (by decide) rfl inX6_mark_X0 5 (by decide) (by decide +kernel) rfl rfl dX6_mark_34 ?_
            refine lv_goto (tgt := 58) hx hb dX6_mark_37 (by decide) ?_
            exact hret (cI C2 (64 + 8 * b2) 5) C2 _ _ _ ls hw h dX6_mark_58
      · have hw := hw.2 c18
        refine lv_iconst (v := (-1)) hx hb dX6_mark_21 (by decide) ?_
        exact hret (-1) C2 _ _ _ ls hw h dX6_mark_22
def rmX6_within : Room := { frames := 1, cells := 0, slots := 0, locals := 21 }
theorem inX6_within_X6 : ∀ w ∈ wsX60, w ∈ wsX6_within := fun w h => List.mem_cons_of_mem _ (List.mem_append_right _ h)
set_option maxHeartbeats 4000000 in
set_option maxRecDepth 100000 in
theorem kX6_within_9 {n : Nat} {Q : Int32 → cM → Prop} (X : cX p s m args meth c D cA A cX6_within 3 wsX6_within RX6)
    (hret : ∀ (r : Int32) (C : cM) (H : Heap) (locs : List Loc) (pc : Nat) (ls : Array Slot), Q r C → cH D cA ad A s.heap C H locs → decode cX6_within pc = .ok (.ireturn, 1) → W p l e (headSpec wsX6_within rmX6_within).room s m args below meth c H locs 0 0 Z (F0 m pc ls [.int r])) :
    ∀ (C : cM) (H : Heap) (locs : List Loc) (ls : Array Slot), wpX6_within_9 n Q C → cH D cA ad A s.heap C H locs → lv_has ls 3 [(0, .ref (ad 0))] → W p l e (headSpec wsX6_within rmX6_within).room s m args below meth c H locs 0 0 Z (F0 m 9 ls []) := by
  intro C H locs ls hw h hl
  unfold wpX6_within_9 at hw
  obtain ⟨⟨hx, hb, hml, hown, hts, hK, hA⟩, hN⟩ := id X
  refine lv_aload_n hx hb dX6_within_9 rfl (lv_at hl 0 rfl) ?_
  refine lv_iconst (v := (-1)) hx hb dX6_within_10 (by decide) ?_
  refine c_goi X h (c_runV (n := 1) X h (cids_f (by decide)) 0 rfl (by decide) rfl (qX6_refuse l D cA n (-1) ad _ _ _ hw) gX6_within_X6_refuse hl.1 dX6_within_11 rfl rfl rfl (by decide +kernel) ⟨Nat.le_of_ble_eq_true rfl, Nat.le_of_ble_eq_true rfl⟩ rfl rfl (Nat.le_of_ble_eq_true rfl) ⟨Nat.zero_le _, Nat.zero_le _⟩) (fun r11 C11 H locs hw h => ?_)
  exact hret r11 C11 _ _ _ ls hw h dX6_within_14
set_option maxHeartbeats 4000000 in
set_option maxRecDepth 100000 in
theorem qX6_within (l : Launch) (D : va_G) (cA : Nat → ClassId) (n : Nat) (x1 : Int32) : cMi l D cA yX6_within wsX6_within rmX6_within (fun ad => [.ref (ad 0), .int x1]) (wpX6_within n x1) := by
  intro ad sz C Q hw
  unfold wpX6_within at hw
  refine c_enter (cc := cX6_within) (maxL := 3) (ret := some .int) (own := RX6) (by decide) rfl rfl (Nat.le_of_ble_eq_true rfl) ?_
  intro p e s m args below meth c hsz X hr hlocks h ls hl
  have hret := c_iret (p := p) (l := l) (e := e) (R := (headSpec wsX6_within rmX6_within).room) (s := s) (m := m) (args := args) (below := below) (meth := meth) (c := c) (cc := cX6_within) (D := D) (cA := cA) (ad := ad) (A := va_A (cws cA ad C) sz) (Q := Q) X.1.1 X.1.2.1 hr hlocks X.1.2.2.2.2.2.1
  obtain ⟨⟨hx, hb, hml, hown, hts, hK, hA⟩, hN⟩ := id X
  have hl : lv_has ls 3 [(0, .ref (ad 0)), (1, .int x1)] := hl
  refine lv_iload_n hx hb dX6_within_0 rfl (lv_at hl 1 rfl) ?_
  refine lv_if_lt (tgt := 9) hx hb dX6_within_1 (by decide) (fun c1 => ?_) (fun c1 => ?_)
  · have hw := hw.1 c1
    exact kX6_within_9 X hret C _ _ ls hw h (lv_sub hl [0] rfl)
  · have hw := hw.2 c1
    refine lv_iload_n hx hb dX6_within_4 rfl (lv_at hl 1 rfl) ?_
    refine lv_iconst (v := 3) hx hb dX6_within_5 (by decide) ?_
    refine lv_icmp_le (tgt := 15) hx hb dX6_within_6 (by decide) (fun c6 => ?_) (fun c6 => ?_)
    · have hw := hw.1 c6
      refine lv_aload_n hx hb dX6_within_15 rfl (lv_at hl 0 rfl) ?_
      refine lv_iconst (v := 0) hx hb dX6_within_16 (by decide) ?_
      refine c_put X.1 h (cids_f (by decide)) 0 rfl (by decide) rfl inX6_within_X6 tyX6 tyX6_ok nmX6 7 (by decide) (by decide +kernel) rfl rfl rfl rfl (Nat.le_of_ble_eq_true rfl) (fun _ _ => rfl) dX6_within_17 (fun C17 eC17 H locs h => ?_)
      have hw := hw C17 eC17
      refine lv_aload_n hx hb dX6_within_20 rfl (lv_at hl 0 rfl) ?_
      refine c_get X.1 h (cids_f (by decide)) 0 rfl (by decide) rfl inX6_within_X6 6 (by decide) (by decide +kernel) rfl rfl dX6_within_21 ?_
      refine lv_topi (fun x2_24 ex2_24 => ?_)
      have hw := hw x2_24 ex2_24
      refine lv_istore_n (lv' := [(2, .int x2_24), (0, .ref (ad 0)), (1, .int x1)]) hx hb dX6_within_24 rfl hl (by decide) rfl (fun ls hl => ?_)
      refine lv_aload_n hx hb dX6_within_25 rfl (lv_at hl 1 rfl) ?_
      refine lv_iload_n hx hb dX6_within_26 rfl (lv_at hl 2 rfl) ?_
      refine c_put X.1 h (cids_f (by decide)) 0 rfl (by decide) rfl inX6_within_X6 tyX6 tyX6_ok nmX6 6 (by decide) (by decide +kernel) rfl rfl rfl rfl (Nat.le_of_ble_eq_true rfl) (fun _ _ => rfl) dX6_within_27 (fun C27 eC27 H locs h => ?_)
      have hw := hw C27 eC27
      refine lv_iload_n hx hb dX6_within_30 rfl (lv_at hl 0 rfl) ?_
      exact hret x2_24 C27 _ _ _ ls hw h dX6_within_31
    · have hw := hw.2 c6
      exact kX6_within_9 X hret C _ _ ls hw h (lv_sub hl [0] rfl)
def rmX6_pairs : Room := { frames := 5, cells := 0, slots := 0, locals := 119 }
theorem inX6_pairs_X6 : ∀ w ∈ wsX60, w ∈ wsX6_pairs := fun w h => List.mem_cons_of_mem _ (List.mem_append_left _ (List.mem_append_left _ (List.mem_append_left _ (List.mem_append_left _ (List.mem_append_left _ (List.mem_append_right _ h))))))
theorem inX6_pairs_X0 : ∀ w ∈ wsX00, w ∈ wsX6_pairs := fun w h => List.mem_cons_of_mem _ (List.mem_append_left _ (List.mem_append_left _ (List.mem_append_left _ (List.mem_append_left _ (List.mem_append_right _ h)))))
theorem inX6_pairs_X5 : ∀ w ∈ wsX50, w ∈ wsX6_pairs := fun w h => List.mem_cons_of_mem _ (List.mem_append_left _ (List.mem_append_left _ (List.mem_append_left _ (List.mem_append_right _ h))))
theorem inX6_pairs_X3 : ∀ w ∈ wsX30, w ∈ wsX6_pairs := fun w h => List.mem_cons_of_mem _ (List.mem_append_left _ (List.mem_append_left _ (List.mem_append_right _ h)))
theorem inX6_pairs_X4 : ∀ w ∈ wsX40, w ∈ wsX6_pairs := fun w h => List.mem_cons_of_mem _ (List.mem_append_left _ (List.mem_append_right _ h))
theorem inX6_pairs_X2 : ∀ w ∈ wsX20, w ∈ wsX6_pairs := fun w h => List.mem_cons_of_mem _ (List.mem_append_right _ h)
set_option maxHeartbeats 4000000 in
set_option maxRecDepth 100000 in
theorem qX6_pairs (l : Launch) (D : va_G) (cA : Nat → ClassId) (n : Nat) (x1 : Int32) (x2 : Int32) (x3 : Int32) (x4 : Int32) (x5 : Int32) : cMi l D cA yX6_pairs wsX6_pairs rmX6_pairs (fun ad => [.ref (ad 0), .int x1, .int x2, .int x3, .int x4, .int x5]) (wpX6_pairs n x1 x2 x3 x4 x5) := by
  intro ad sz C Q hw
  unfold wpX6_pairs at hw
  refine c_enter (cc := cX6_pairs) (maxL := 8) (ret := some .int) (own := RX6) (by decide) rfl rfl (Nat.le_of_ble_eq_true rfl) ?_
  intro p e s m args below meth c hsz X hr hlocks h ls hl
  have hret := c_iret (p := p) (l := l) (e := e) (R := (headSpec wsX6_pairs rmX6_pairs).room) (s := s) (m := m) (args := args) (below := below) (meth := meth) (c := c) (cc := cX6_pairs) (D := D) (cA := cA) (ad := ad) (A := va_A (cws cA ad C) sz) (Q := Q) X.1.1 X.1.2.1 hr hlocks X.1.2.2.2.2.2.1
  obtain ⟨⟨hx, hb, hml, hown, hts, hK, hA⟩, hN⟩ := id X
  have hl : lv_has ls 8 [(0, .ref (ad 0)), (1, .int x1), (2, .int x2), (3, .int x3), (4, .int x4), (5, .int x5)] := hl
  refine lv_aload_n hx hb dX6_pairs_0 rfl (lv_at hl 0 rfl) ?_
  refine lv_iload_n hx hb dX6_pairs_1 rfl (lv_at hl 1 rfl) ?_
  refine c_gob X h (c_runV (n := 1) X h (cids_f (by decide)) 0 rfl (by decide) rfl (qX6_freshBoard l D cA n x1 ad _ _ _ hw) gX6_pairs_X6_freshBoard hl.1 dX6_pairs_2 rfl rfl rfl (by decide +kernel) ⟨Nat.le_of_ble_eq_true rfl, Nat.le_of_ble_eq_true rfl⟩ rfl rfl (Nat.le_of_ble_eq_true rfl) ⟨Nat.zero_le _, Nat.zero_le _⟩) (fun r2 C2 H locs hw h => ?_)
  refine c_optB (fun o2 => ?_) (fun b2 o2 => ?_)
  · have hw := hw.1 o2
    refine lv_astoreN (lv' := [(6, .null), (0, .ref (ad 0)), (1, .int x1), (2, .int x2), (3, .int x3), (4, .int x4), (5, .int x5)]) hx hb dX6_pairs_5 hl (by decide) rfl (fun ls hl => ?_)
    refine lv_aload_n hx hb dX6_pairs_7 rfl (lv_at hl 1 rfl) ?_
    refine lv_iload_n hx hb dX6_pairs_8 rfl (lv_at hl 3 rfl) ?_
    refine c_gob X h (c_runV (n := 1) X h (cids_f (by decide)) 0 rfl (by decide) rfl (qX6_freshBoard l D cA n x2 ad _ _ _ hw) gX6_pairs_X6_freshBoard hl.1 dX6_pairs_9 rfl rfl rfl (by decide +kernel) ⟨Nat.le_of_ble_eq_true rfl, Nat.le_of_ble_eq_true rfl⟩ rfl rfl (Nat.le_of_ble_eq_true rfl) ⟨Nat.zero_le _, Nat.zero_le _⟩) (fun r9 C9 H locs hw h => ?_)
    refine c_optB (fun o9 => ?_) (fun b9 o9 => ?_)
    · have hw := hw.1 o9
      refine lv_astoreN (lv' := [(7, .null), (6, .null), (0, .ref (ad 0)), (1, .int x1), (2, .int x2), (3, .int x3), (4, .int x4), (5, .int x5)]) hx hb dX6_pairs_12 hl (by decide) rfl (fun ls hl => ?_)
      refine lv_aloadN hx hb dX6_pairs_14 (lv_at hl 1 rfl) ?_
      refine lv_ifnullN (tgt := 24) hx hb dX6_pairs_16 (by decide) ?_
      refine lv_iconst (v := (-1)) hx hb dX6_pairs_24 (by decide) ?_
      exact hret (-1) C9 _ _ _ ls hw h dX6_pairs_25
    · have hw := hw.2 b9 o9
      refine lv_astore (lv' := [(7, .ref (ad (64 + 8 * b9))), (6, .null), (0, .ref (ad 0)), (1, .int x1), (2, .int x2), (3, .int x3), (4, .int x4), (5, .int x5)]) hx hb dX6_pairs_12 hl (by decide) rfl (fun ls hl => ?_)
      refine lv_aloadN hx hb dX6_pairs_14 (lv_at hl 1 rfl) ?_
      refine lv_ifnullN (tgt := 24) hx hb dX6_pairs_16 (by decide) ?_
      refine lv_iconst (v := (-1)) hx hb dX6_pairs_24 (by decide) ?_
      exact hret (-1) C9 _ _ _ ls hw h dX6_pairs_25
  · have hw := hw.2 b2 o2
    refine lv_astore (lv' := [(6, .ref (ad (64 + 8 * b2))), (0, .ref (ad 0)), (1, .int x1), (2, .int x2), (3, .int x3), (4, .int x4), (5, .int x5)]) hx hb dX6_pairs_5 hl (by decide) rfl (fun ls hl => ?_)
    refine lv_aload_n hx hb dX6_pairs_7 rfl (lv_at hl 1 rfl) ?_
    refine lv_iload_n hx hb dX6_pairs_8 rfl (lv_at hl 3 rfl) ?_
    refine c_gob X h (c_runV (n := 1) X h (cids_f (by decide)) 0 rfl (by decide) rfl (qX6_freshBoard l D cA n x2 ad _ _ _ hw) gX6_pairs_X6_freshBoard hl.1 dX6_pairs_9 rfl rfl rfl (by decide +kernel) ⟨Nat.le_of_ble_eq_true rfl, Nat.le_of_ble_eq_true rfl⟩ rfl rfl (Nat.le_of_ble_eq_true rfl) ⟨Nat.zero_le _, Nat.zero_le _⟩) (fun r9 C9 H locs hw h => ?_)
    refine c_optB (fun o9 => ?_) (fun b9 o9 => ?_)
    · have hw := hw.1 o9
      refine lv_astoreN (lv' := [(7, .null), (6, .ref (ad (64 + 8 * b2))), (0, .ref (ad 0)), (1, .int x1), (2, .int x2), (3, .int x3), (4, .int x4), (5, .int x5)]) hx hb dX6_pairs_12 hl (by decide) rfl (fun ls hl => ?_)
      refine lv_aload hx hb dX6_pairs_14 (lv_at hl 1 rfl) ?_
      refine lv_ifnull hx hb dX6_pairs_16 ?_
      refine lv_aloadN hx hb dX6_pairs_19 (lv_at hl 0 rfl) ?_
      refine lv_ifnonnullN hx hb dX6_pairs_21 ?_
      refine lv_iconst (v := (-1)) hx hb dX6_pairs_24 (by decide) ?_
      exact hret (-1) C9 _ _ _ ls hw h dX6_pairs_25
    · have hw := hw.2 b9 o9
      refine lv_astore (lv' := [(7, .ref (ad (64 + 8 * b9))), (6, .ref (ad (64 + 8 * b2))), (0, .ref (ad 0)), (1, .int x1), (2, .int x2), (3, .int x3), (4, .int x4), (5, .int x5)]) hx hb dX6_pairs_12 hl (by decide) rfl (fun ls hl => ?_)
      refine lv_aload hx hb dX6_pairs_14 (lv_at hl 1 rfl) ?_
      refine lv_ifnull hx hb dX6_pairs_16 ?_
      refine lv_aload hx hb dX6_pairs_19 (lv_at hl 0 rfl) ?_
      refine lv_ifnonnull (tgt := 26) hx hb dX6_pairs_21 (by decide) ?_
      refine lv_iload_n hx hb dX6_pairs_26 rfl (lv_at hl 5 rfl) ?_
      refine lv_if_lt (tgt := 51) hx hb dX6_pairs_27 (by decide) (fun c27 => ?_) (fun c27 => ?_)
      · have hw := hw.1 c27
        refine lv_iconst (v := (-1)) hx hb dX6_pairs_51 (by decide) ?_
        exact hret (-1) C9 _ _ _ ls hw h dX6_pairs_52
      · have hw := hw.2 c27
        refine lv_iload_n hx hb dX6_pairs_30 rfl (lv_at hl 5 rfl) ?_
        refine lv_iconst (v := 4) hx hb dX6_pairs_31 (by decide) ?_
        refine lv_icmp_ge (tgt := 51) hx hb dX6_pairs_32 (by decide) (fun c32 => ?_) (fun c32 => ?_)
        · have hw := hw.1 c32
          refine lv_iconst (v := (-1)) hx hb dX6_pairs_51 (by decide) ?_
          exact hret (-1) C9 _ _ _ ls hw h dX6_pairs_52
        · have hw := hw.2 c32
          refine lv_iload hx hb dX6_pairs_35 (lv_at hl 6 rfl) ?_
          refine c_goi X h (c_runS (n := 1) X h (qX6_isShift l D cA n x4 ad _ _ _ hw) gX6_pairs_X6_isShift hl.1 dX6_pairs_37 rfl rfl rfl (by decide +kernel) ⟨Nat.le_of_ble_eq_true rfl, Nat.le_of_ble_eq_true rfl⟩ rfl rfl (Nat.le_of_ble_eq_true rfl) ⟨Nat.zero_le _, Nat.zero_le _⟩) (fun r37 C37 H locs hw h => ?_)
          refine lv_if_eq (tgt := 51) hx hb dX6_pairs_40 (by decide) (fun c40 => ?_) (fun c40 => ?_)
          · have hw := hw.1 c40
            refine lv_iconst (v := (-1)) hx hb dX6_pairs_51 (by decide) ?_
            exact hret (-1) C37 _ _ _ ls hw h dX6_pairs_52
          · have hw := hw.2 c40
            refine lv_iload hx hb dX6_pairs_43 (lv_at hl 7 rfl) ?_
            refine c_goi X h (c_runS (n := 1) X h (qX6_isShift l D cA n x5 ad _ _ _ hw) gX6_pairs_X6_isShift hl.1 dX6_pairs_45 rfl rfl rfl (by decide +kernel) ⟨Nat.le_of_ble_eq_true rfl, Nat.le_of_ble_eq_true rfl⟩ rfl rfl (Nat.le_of_ble_eq_true rfl) ⟨Nat.zero_le _, Nat.zero_le _⟩) (fun r45 C45 H locs hw h => ?_)
            refine lv_if_ne (tgt := 53) hx hb dX6_pairs_48 (by decide) (fun c48 => ?_) (fun c48 => ?_)
            · have hw := hw.1 c48
              refine lv_aload_n hx hb dX6_pairs_53 rfl (lv_at hl 2 rfl) ?_
              refine c_get X.1 h (cids_f (by decide)) 0 rfl (by decide) rfl inX6_pairs_X6 3 (by decide) (by decide +kernel) rfl rfl dX6_pairs_54 ?_
              refine lv_aload hx hb dX6_pairs_57 (lv_at hl 1 rfl) ?_
              refine lv_aload hx hb dX6_pairs_59 (lv_at hl 0 rfl) ?_
              refine lv_aload_n hx hb dX6_pairs_61 rfl (lv_at hl 2 rfl) ?_
              refine c_get X.1 h (cids_f (by decide)) 0 rfl (by decide) rfl inX6_pairs_X6 6 (by decide) (by decide +kernel) rfl rfl dX6_pairs_62 ?_
              refine c_gov X h (c_runV (n := 3) X h (cids_f (by decide)) 4 rfl (by decide) rfl (qX2_prepare l D cA n b2 b9 (cI C45 0 6) ad _ _ _ hw) gX6_pairs_X2_prepare hl.1 dX6_pairs_65 rfl rfl rfl (by decide +kernel) ⟨Nat.le_of_ble_eq_true rfl, Nat.le_of_ble_eq_true rfl⟩ rfl rfl (Nat.le_of_ble_eq_true rfl) ⟨Nat.zero_le _, Nat.zero_le _⟩) (fun C65 H locs hw h => ?_)
              refine lv_aload_n hx hb dX6_pairs_68 rfl (lv_at hl 2 rfl) ?_
              refine c_get X.1 h (cids_f (by decide)) 0 rfl (by decide) rfl inX6_pairs_X6 3 (by decide) (by decide +kernel) rfl rfl dX6_pairs_69 ?_
              refine lv_iload_n hx hb dX6_pairs_72 rfl (lv_at hl 5 rfl) ?_
              refine lv_iload hx hb dX6_pairs_73 (lv_at hl 6 rfl) ?_
              refine lv_iload hx hb dX6_pairs_75 (lv_at hl 7 rfl) ?_
              refine lv_iconst (v := 0) hx hb dX6_pairs_77 (by decide) ?_
              refine c_goi X h (c_runV (n := 4) X h (cids_f (by decide)) 4 rfl (by decide) rfl (qX2_mostPairs l D cA n x3 x4 x5 0 ad _ _ _ hw) gX6_pairs_X2_mostPairs hl.1 dX6_pairs_78 rfl rfl rfl (by decide +kernel) ⟨Nat.le_of_ble_eq_true rfl, Nat.le_of_ble_eq_true rfl⟩ rfl rfl (Nat.le_of_ble_eq_true rfl) ⟨Nat.zero_le _, Nat.zero_le _⟩) (fun r78 C78 H locs hw h => ?_)
              exact hret r78 C78 _ _ _ ls hw h dX6_pairs_81
            · have hw := hw.2 c48
              refine lv_iconst (v := (-1)) hx hb dX6_pairs_51 (by decide) ?_
              exact hret (-1) C45 _ _ _ ls hw h dX6_pairs_52
def rmX6_bound : Room := { frames := 5, cells := 0, slots := 0, locals := 119 }
theorem inX6_bound_X0 : ∀ w ∈ wsX00, w ∈ wsX6_bound := fun w h => List.mem_cons_of_mem _ (List.mem_append_left _ (List.mem_append_left _ (List.mem_append_left _ (List.mem_append_left _ (List.mem_append_right _ h)))))
theorem inX6_bound_X6 : ∀ w ∈ wsX60, w ∈ wsX6_bound := fun w h => List.mem_cons_of_mem _ (List.mem_append_left _ (List.mem_append_left _ (List.mem_append_left _ (List.mem_append_right _ h))))
theorem inX6_bound_X5 : ∀ w ∈ wsX50, w ∈ wsX6_bound := fun w h => List.mem_cons_of_mem _ (List.mem_append_left _ (List.mem_append_left _ (List.mem_append_right _ h)))
theorem inX6_bound_X3 : ∀ w ∈ wsX30, w ∈ wsX6_bound := fun w h => List.mem_cons_of_mem _ (List.mem_append_left _ (List.mem_append_right _ h))
theorem inX6_bound_X4 : ∀ w ∈ wsX40, w ∈ wsX6_bound := fun w h => List.mem_cons_of_mem _ (List.mem_append_right _ h)
set_option maxHeartbeats 4000000 in
set_option maxRecDepth 100000 in
theorem qX6_bound (l : Launch) (D : va_G) (cA : Nat → ClassId) (n : Nat) (x1 : Int32) (x2 : Int32) : cMi l D cA yX6_bound wsX6_bound rmX6_bound (fun ad => [.ref (ad 0), .int x1, .int x2]) (wpX6_bound n x1 x2) := by
  intro ad sz C Q hw
  unfold wpX6_bound at hw
  refine c_enter (cc := cX6_bound) (maxL := 5) (ret := some .int) (own := RX6) (by decide) rfl rfl (Nat.le_of_ble_eq_true rfl) ?_
  intro p e s m args below meth c hsz X hr hlocks h ls hl
  have hret := c_iret (p := p) (l := l) (e := e) (R := (headSpec wsX6_bound rmX6_bound).room) (s := s) (m := m) (args := args) (below := below) (meth := meth) (c := c) (cc := cX6_bound) (D := D) (cA := cA) (ad := ad) (A := va_A (cws cA ad C) sz) (Q := Q) X.1.1 X.1.2.1 hr hlocks X.1.2.2.2.2.2.1
  obtain ⟨⟨hx, hb, hml, hown, hts, hK, hA⟩, hN⟩ := id X
  have hl : lv_has ls 5 [(0, .ref (ad 0)), (1, .int x1), (2, .int x2)] := hl
  refine lv_aload_n hx hb dX6_bound_0 rfl (lv_at hl 0 rfl) ?_
  refine lv_iload_n hx hb dX6_bound_1 rfl (lv_at hl 1 rfl) ?_
  refine c_gob X h (c_runV (n := 1) X h (cids_f (by decide)) 0 rfl (by decide) rfl (qX6_freshBoard l D cA n x1 ad _ _ _ hw) gX6_bound_X6_freshBoard hl.1 dX6_bound_2 rfl rfl rfl (by decide +kernel) ⟨Nat.le_of_ble_eq_true rfl, Nat.le_of_ble_eq_true rfl⟩ rfl rfl (Nat.le_of_ble_eq_true rfl) ⟨Nat.zero_le _, Nat.zero_le _⟩) (fun r2 C2 H locs hw h => ?_)
  refine c_optB (fun o2 => ?_) (fun b2 o2 => ?_)
  · have hw := hw.1 o2
    refine lv_astore_nN (lv' := [(3, .null), (0, .ref (ad 0)), (1, .int x1), (2, .int x2)]) hx hb dX6_bound_5 rfl hl (by decide) rfl (fun ls hl => ?_)
    refine lv_aload_n hx hb dX6_bound_6 rfl (lv_at hl 1 rfl) ?_
    refine lv_iload_n hx hb dX6_bound_7 rfl (lv_at hl 3 rfl) ?_
    refine c_gob X h (c_runV (n := 1) X h (cids_f (by decide)) 0 rfl (by decide) rfl (qX6_freshBoard l D cA n x2 ad _ _ _ hw) gX6_bound_X6_freshBoard hl.1 dX6_bound_8 rfl rfl rfl (by decide +kernel) ⟨Nat.le_of_ble_eq_true rfl, Nat.le_of_ble_eq_true rfl⟩ rfl rfl (Nat.le_of_ble_eq_true rfl) ⟨Nat.zero_le _, Nat.zero_le _⟩) (fun r8 C8 H locs hw h => ?_)
    refine c_optB (fun o8 => ?_) (fun b8 o8 => ?_)
    · have hw := hw.1 o8
      refine lv_astoreN (lv' := [(4, .null), (3, .null), (0, .ref (ad 0)), (1, .int x1), (2, .int x2)]) hx hb dX6_bound_11 hl (by decide) rfl (fun ls hl => ?_)
      refine lv_aload_nN hx hb dX6_bound_13 rfl (lv_at hl 1 rfl) ?_
      refine lv_ifnullN (tgt := 22) hx hb dX6_bound_14 (by decide) ?_
      refine lv_iconst (v := (-1)) hx hb dX6_bound_22 (by decide) ?_
      exact hret (-1) C8 _ _ _ ls hw h dX6_bound_23
    · have hw := hw.2 b8 o8
      refine lv_astore (lv' := [(4, .ref (ad (64 + 8 * b8))), (3, .null), (0, .ref (ad 0)), (1, .int x1), (2, .int x2)]) hx hb dX6_bound_11 hl (by decide) rfl (fun ls hl => ?_)
      refine lv_aload_nN hx hb dX6_bound_13 rfl (lv_at hl 1 rfl) ?_
      refine lv_ifnullN (tgt := 22) hx hb dX6_bound_14 (by decide) ?_
      refine lv_iconst (v := (-1)) hx hb dX6_bound_22 (by decide) ?_
      exact hret (-1) C8 _ _ _ ls hw h dX6_bound_23
  · have hw := hw.2 b2 o2
    refine lv_astore_n (lv' := [(3, .ref (ad (64 + 8 * b2))), (0, .ref (ad 0)), (1, .int x1), (2, .int x2)]) hx hb dX6_bound_5 rfl hl (by decide) rfl (fun ls hl => ?_)
    refine lv_aload_n hx hb dX6_bound_6 rfl (lv_at hl 1 rfl) ?_
    refine lv_iload_n hx hb dX6_bound_7 rfl (lv_at hl 3 rfl) ?_
    refine c_gob X h (c_runV (n := 1) X h (cids_f (by decide)) 0 rfl (by decide) rfl (qX6_freshBoard l D cA n x2 ad _ _ _ hw) gX6_bound_X6_freshBoard hl.1 dX6_bound_8 rfl rfl rfl (by decide +kernel) ⟨Nat.le_of_ble_eq_true rfl, Nat.le_of_ble_eq_true rfl⟩ rfl rfl (Nat.le_of_ble_eq_true rfl) ⟨Nat.zero_le _, Nat.zero_le _⟩) (fun r8 C8 H locs hw h => ?_)
    refine c_optB (fun o8 => ?_) (fun b8 o8 => ?_)
    · have hw := hw.1 o8
      refine lv_astoreN (lv' := [(4, .null), (3, .ref (ad (64 + 8 * b2))), (0, .ref (ad 0)), (1, .int x1), (2, .int x2)]) hx hb dX6_bound_11 hl (by decide) rfl (fun ls hl => ?_)
      refine lv_aload_n hx hb dX6_bound_13 rfl (lv_at hl 1 rfl) ?_
      refine lv_ifnull hx hb dX6_bound_14 ?_
      refine lv_aloadN hx hb dX6_bound_17 (lv_at hl 0 rfl) ?_
      refine lv_ifnonnullN hx hb dX6_bound_19 ?_
      refine lv_iconst (v := (-1)) hx hb dX6_bound_22 (by decide) ?_
      exact hret (-1) C8 _ _ _ ls hw h dX6_bound_23
    · have hw := hw.2 b8 o8
      refine lv_astore (lv' := [(4, .ref (ad (64 + 8 * b8))), (3, .ref (ad (64 + 8 * b2))), (0, .ref (ad 0)), (1, .int x1), (2, .int x2)]) hx hb dX6_bound_11 hl (by decide) rfl (fun ls hl => ?_)
      refine lv_aload_n hx hb dX6_bound_13 rfl (lv_at hl 1 rfl) ?_
      refine lv_ifnull hx hb dX6_bound_14 ?_
      refine lv_aload hx hb dX6_bound_17 (lv_at hl 0 rfl) ?_
      refine lv_ifnonnull (tgt := 24) hx hb dX6_bound_19 (by decide) ?_
      refine lv_aload_n hx hb dX6_bound_24 rfl (lv_at hl 1 rfl) ?_
      refine lv_aload hx hb dX6_bound_25 (lv_at hl 0 rfl) ?_
      obtain ⟨hk1, hw⟩ := hw
      refine c_goi X h (c_runV (n := 1) X h (cids_b0 hk1.1) 9 (ckind_b hk1.2) (by decide) rfl (qX0_mostAgreeing l D cA n b2 b8 ad _ _ _ hw) gX6_bound_X0_mostAgreeing hl.1 dX6_bound_27 rfl rfl rfl (by decide +kernel) ⟨Nat.le_of_ble_eq_true rfl, Nat.le_of_ble_eq_true rfl⟩ rfl rfl (Nat.le_of_ble_eq_true rfl) ⟨Nat.zero_le _, Nat.zero_le _⟩) (fun r27 C27 H locs hw h => ?_)
      exact hret r27 C27 _ _ _ ls hw h dX6_bound_30
def rmX6_othersWithMarks : Room := { frames := 5, cells := 0, slots := 0, locals := 119 }
theorem inX6_othersWithMarks_X6 : ∀ w ∈ wsX60, w ∈ wsX6_othersWithMarks := fun w h => List.mem_cons_of_mem _ (List.mem_append_left _ (List.mem_append_left _ (List.mem_append_left _ (List.mem_append_left _ (List.mem_append_right _ h)))))
theorem inX6_othersWithMarks_X0 : ∀ w ∈ wsX00, w ∈ wsX6_othersWithMarks := fun w h => List.mem_cons_of_mem _ (List.mem_append_left _ (List.mem_append_left _ (List.mem_append_left _ (List.mem_append_right _ h))))
theorem inX6_othersWithMarks_X5 : ∀ w ∈ wsX50, w ∈ wsX6_othersWithMarks := fun w h => List.mem_cons_of_mem _ (List.mem_append_left _ (List.mem_append_left _ (List.mem_append_right _ h)))
theorem inX6_othersWithMarks_X3 : ∀ w ∈ wsX30, w ∈ wsX6_othersWithMarks := fun w h => List.mem_cons_of_mem _ (List.mem_append_left _ (List.mem_append_right _ h))
theorem inX6_othersWithMarks_X4 : ∀ w ∈ wsX40, w ∈ wsX6_othersWithMarks := fun w h => List.mem_cons_of_mem _ (List.mem_append_right _ h)
set_option maxHeartbeats 4000000 in
set_option maxRecDepth 100000 in
theorem kX6_othersWithMarks_4 {n : Nat} {Q : Int32 → cM → Prop} (X : cX p s m args meth c D cA A cX6_othersWithMarks 5 wsX6_othersWithMarks RX6) (x1 : Int32)
    (hret : ∀ (r : Int32) (C : cM) (H : Heap) (locs : List Loc) (pc : Nat) (ls : Array Slot), Q r C → cH D cA ad A s.heap C H locs → decode cX6_othersWithMarks pc = .ok (.ireturn, 1) → W p l e (headSpec wsX6_othersWithMarks rmX6_othersWithMarks).room s m args below meth c H locs 0 0 Z (F0 m pc ls [.int r])) :
    ∀ (k : Nat) (x2 : Int32) (x3 : Int32) (C : cM) (H : Heap) (locs : List Loc) (ls : Array Slot), wpX6_othersWithMarks_4 n Q x1 k x2 x3 C → cH D cA ad A s.heap C H locs → lv_has ls 5 [(0, .ref (ad 0)), (1, .int x1), (2, .int x2), (3, .int x3)] → W p l e (headSpec wsX6_othersWithMarks rmX6_othersWithMarks).room s m args below meth c H locs 0 0 Z (F0 m 4 ls []) := by
  intro k
  induction k with
  | zero => intro x2 x3 C H locs ls hw; exact hw.elim
  | succ k ih =>
    intro x2 x3 C H locs ls hw h hl
    rw [wpX6_othersWithMarks_4] at hw
    obtain ⟨⟨hx, hb, hml, hown, hts, hK, hA⟩, hN⟩ := id X
    refine lv_iload_n hx hb dX6_othersWithMarks_4 rfl (lv_at hl 3 rfl) ?_
    refine lv_aload_n hx hb dX6_othersWithMarks_5 rfl (lv_at hl 0 rfl) ?_
    refine c_get X.1 h (cids_f (by decide)) 0 rfl (by decide) rfl inX6_othersWithMarks_X6 5 (by decide) (by decide +kernel) rfl rfl dX6_othersWithMarks_6 ?_
    refine lv_icmp_ge (tgt := 49) hx hb dX6_othersWithMarks_9 (by decide) (fun c9 => ?_) (fun c9 => ?_)
    · have hw := hw.1 c9
      refine lv_iload_n hx hb dX6_othersWithMarks_49 rfl (lv_at hl 2 rfl) ?_
      exact hret x2 C _ _ _ ls hw h dX6_othersWithMarks_50
    · have hw := hw.2 c9
      refine lv_aload_n hx hb dX6_othersWithMarks_12 rfl (lv_at hl 0 rfl) ?_
      refine lv_iload_n hx hb dX6_othersWithMarks_13 rfl (lv_at hl 3 rfl) ?_
      refine c_gob X h (c_runV (n := 1) X h (cids_f (by decide)) 0 rfl (by decide) rfl (qX6_freshBoard l D cA n x3 ad _ _ _ hw) gX6_othersWithMarks_X6_freshBoard hl.1 dX6_othersWithMarks_14 rfl rfl rfl (by decide +kernel) ⟨Nat.le_of_ble_eq_true rfl, Nat.le_of_ble_eq_true rfl⟩ rfl rfl (Nat.le_of_ble_eq_true rfl) ⟨Nat.zero_le _, Nat.zero_le _⟩) (fun r14 C14 H locs hw h => ?_)
      refine c_optB (fun o14 => ?_) (fun b14 o14 => ?_)
      · have hw := hw.1 o14
        refine lv_astoreN (lv' := [(4, .null), (0, .ref (ad 0)), (1, .int x1), (2, .int x2), (3, .int x3)]) hx hb dX6_othersWithMarks_17 hl (by decide) rfl (fun ls hl => ?_)
        refine lv_iload_n hx hb dX6_othersWithMarks_19 rfl (lv_at hl 4 rfl) ?_
        refine lv_iload_n hx hb dX6_othersWithMarks_20 rfl (lv_at hl 2 rfl) ?_
        refine lv_icmp_eq (tgt := 43) hx hb dX6_othersWithMarks_21 (by decide) (fun c21 => ?_) (fun c21 => ?_)
        · have hw := hw.1 c21
          obtain ⟨x3_43, ex3_43⟩ : ∃ z : Int32, z = x3 + 1 := ⟨_, rfl⟩
          have hw := hw x3_43 ex3_43
          refine lv_iinc (v := x3_43) (lv' := [(3, .int x3_43), (4, .null), (0, .ref (ad 0)), (1, .int x1), (2, .int x2)]) hx hb dX6_othersWithMarks_43 hl (k := 4) rfl (by rw [ex3_43]; rfl) (by decide) rfl (fun ls hl => ?_)
          refine lv_goto (tgt := 4) hx hb dX6_othersWithMarks_46 (by decide) ?_
          exact ih x2 x3_43 C14 _ _ ls hw h (lv_sub hl [2, 3, 4, 0] rfl)
        · have hw := hw.2 c21
          refine lv_aloadN hx hb dX6_othersWithMarks_24 (lv_at hl 0 rfl) ?_
          refine lv_ifnullN (tgt := 43) hx hb dX6_othersWithMarks_26 (by decide) ?_
          obtain ⟨x3_43, ex3_43⟩ : ∃ z : Int32, z = x3 + 1 := ⟨_, rfl⟩
          have hw := hw x3_43 ex3_43
          refine lv_iinc (v := x3_43) (lv' := [(3, .int x3_43), (4, .null), (0, .ref (ad 0)), (1, .int x1), (2, .int x2)]) hx hb dX6_othersWithMarks_43 hl (k := 4) rfl (by rw [ex3_43]; rfl) (by decide) rfl (fun ls hl => ?_)
          refine lv_goto (tgt := 4) hx hb dX6_othersWithMarks_46 (by decide) ?_
          exact ih x2 x3_43 C14 _ _ ls hw h (lv_sub hl [2, 3, 4, 0] rfl)
      · have hw := hw.2 b14 o14
        refine lv_astore (lv' := [(4, .ref (ad (64 + 8 * b14))), (0, .ref (ad 0)), (1, .int x1), (2, .int x2), (3, .int x3)]) hx hb dX6_othersWithMarks_17 hl (by decide) rfl (fun ls hl => ?_)
        refine lv_iload_n hx hb dX6_othersWithMarks_19 rfl (lv_at hl 4 rfl) ?_
        refine lv_iload_n hx hb dX6_othersWithMarks_20 rfl (lv_at hl 2 rfl) ?_
        refine lv_icmp_eq (tgt := 43) hx hb dX6_othersWithMarks_21 (by decide) (fun c21 => ?_) (fun c21 => ?_)
        · have hw := hw.1 c21
          obtain ⟨x3_43, ex3_43⟩ : ∃ z : Int32, z = x3 + 1 := ⟨_, rfl⟩
          have hw := hw x3_43 ex3_43
          refine lv_iinc (v := x3_43) (lv' := [(3, .int x3_43), (4, .ref (ad (64 + 8 * b14))), (0, .ref (ad 0)), (1, .int x1), (2, .int x2)]) hx hb dX6_othersWithMarks_43 hl (k := 4) rfl (by rw [ex3_43]; rfl) (by decide) rfl (fun ls hl => ?_)
          refine lv_goto (tgt := 4) hx hb dX6_othersWithMarks_46 (by decide) ?_
          exact ih x2 x3_43 C14 _ _ ls hw h (lv_sub hl [2, 3, 4, 0] rfl)
        · have hw := hw.2 c21
          refine lv_aload hx hb dX6_othersWithMarks_24 (lv_at hl 0 rfl) ?_
          refine lv_ifnull hx hb dX6_othersWithMarks_26 ?_
          refine lv_aload hx hb dX6_othersWithMarks_29 (lv_at hl 0 rfl) ?_
          obtain ⟨hk1, hw⟩ := hw
          refine c_get X.1 h (cids_b0 hk1.1) 9 (ckind_b hk1.2) (by decide) rfl inX6_othersWithMarks_X0 5 (by decide) (by decide +kernel) rfl rfl dX6_othersWithMarks_31 ?_
          refine lv_if_le (tgt := 43) hx hb dX6_othersWithMarks_34 (by decide) (fun c34 => ?_) (fun c34 => ?_)
          · have hw := hw.1 c34
            obtain ⟨x3_43, ex3_43⟩ : ∃ z : Int32, z = x3 + 1 := ⟨_, rfl⟩
            have hw := hw x3_43 ex3_43
            refine lv_iinc (v := x3_43) (lv' := [(3, .int x3_43), (4, .ref (ad (64 + 8 * b14))), (0, .ref (ad 0)), (1, .int x1), (2, .int x2)]) hx hb dX6_othersWithMarks_43 hl (k := 4) rfl (by rw [ex3_43]; rfl) (by decide) rfl (fun ls hl => ?_)
            refine lv_goto (tgt := 4) hx hb dX6_othersWithMarks_46 (by decide) ?_
            exact ih x2 x3_43 C14 _ _ ls hw h (lv_sub hl [2, 3, 4, 0] rfl)
          · have hw := hw.2 c34
            refine lv_iload_n hx hb dX6_othersWithMarks_37 rfl (lv_at hl 3 rfl) ?_
            refine lv_iconst (v := 1) hx hb dX6_othersWithMarks_38 (by decide) ?_
            refine lv_iload_n hx hb dX6_othersWithMarks_39 rfl (lv_at hl 4 rfl) ?_
            refine lv_ishl hx hb dX6_othersWithMarks_40 ?_
            refine lv_ior hx hb dX6_othersWithMarks_41 ?_
            refine lv_topi (fun x2_42 ex2_42 => ?_)
            have hw := hw x2_42 ex2_42
            refine lv_istore_n (lv' := [(2, .int x2_42), (4, .ref (ad (64 + 8 * b14))), (0, .ref (ad 0)), (1, .int x1), (3, .int x3)]) hx hb dX6_othersWithMarks_42 rfl hl (by decide) rfl (fun ls hl => ?_)
            obtain ⟨x3_43, ex3_43⟩ : ∃ z : Int32, z = x3 + 1 := ⟨_, rfl⟩
            have hw := hw x3_43 ex3_43
            refine lv_iinc (v := x3_43) (lv' := [(3, .int x3_43), (2, .int x2_42), (4, .ref (ad (64 + 8 * b14))), (0, .ref (ad 0)), (1, .int x1)]) hx hb dX6_othersWithMarks_43 hl (k := 4) rfl (by rw [ex3_43]; rfl) (by decide) rfl (fun ls hl => ?_)
            refine lv_goto (tgt := 4) hx hb dX6_othersWithMarks_46 (by decide) ?_
            exact ih x2_42 x3_43 C14 _ _ ls hw h (lv_sub hl [3, 4, 1, 0] rfl)
set_option maxHeartbeats 4000000 in
set_option maxRecDepth 100000 in
theorem qX6_othersWithMarks (l : Launch) (D : va_G) (cA : Nat → ClassId) (n : Nat) (x1 : Int32) : cMi l D cA yX6_othersWithMarks wsX6_othersWithMarks rmX6_othersWithMarks (fun ad => [.ref (ad 0), .int x1]) (wpX6_othersWithMarks n x1) := by
  intro ad sz C Q hw
  unfold wpX6_othersWithMarks at hw
  refine c_enter (cc := cX6_othersWithMarks) (maxL := 5) (ret := some .int) (own := RX6) (by decide) rfl rfl (Nat.le_of_ble_eq_true rfl) ?_
  intro p e s m args below meth c hsz X hr hlocks h ls hl
  have hret := c_iret (p := p) (l := l) (e := e) (R := (headSpec wsX6_othersWithMarks rmX6_othersWithMarks).room) (s := s) (m := m) (args := args) (below := below) (meth := meth) (c := c) (cc := cX6_othersWithMarks) (D := D) (cA := cA) (ad := ad) (A := va_A (cws cA ad C) sz) (Q := Q) X.1.1 X.1.2.1 hr hlocks X.1.2.2.2.2.2.1
  obtain ⟨⟨hx, hb, hml, hown, hts, hK, hA⟩, hN⟩ := id X
  have hl : lv_has ls 5 [(0, .ref (ad 0)), (1, .int x1)] := hl
  refine lv_iconst (v := 0) hx hb dX6_othersWithMarks_0 (by decide) ?_
  refine lv_istore_n (lv' := [(2, .int 0), (0, .ref (ad 0)), (1, .int x1)]) hx hb dX6_othersWithMarks_1 rfl hl (by decide) rfl (fun ls hl => ?_)
  refine lv_iconst (v := 0) hx hb dX6_othersWithMarks_2 (by decide) ?_
  refine lv_istore_n (lv' := [(3, .int 0), (2, .int 0), (0, .ref (ad 0)), (1, .int x1)]) hx hb dX6_othersWithMarks_3 rfl hl (by decide) rfl (fun ls hl => ?_)
  exact kX6_othersWithMarks_4 X x1 hret n 0 0 C _ _ ls hw h (lv_sub hl [2, 3, 1, 0] rfl)
def rmX6_nextToLookAt : Room := { frames := 2, cells := 0, slots := 0, locals := 42 }
theorem inX6_nextToLookAt_X6 : ∀ w ∈ wsX60, w ∈ wsX6_nextToLookAt := fun w h => List.mem_cons_of_mem _ (List.mem_append_left _ (List.mem_append_right _ h))
theorem inX6_nextToLookAt_X0 : ∀ w ∈ wsX00, w ∈ wsX6_nextToLookAt := fun w h => List.mem_cons_of_mem _ (List.mem_append_right _ h)
set_option maxHeartbeats 4000000 in
set_option maxRecDepth 100000 in
theorem kX6_nextToLookAt_65 {n : Nat} {R : Int32 → Int32 → Int32 → cM → Prop} (X : cX p s m args meth c D cA A cX6_nextToLookAt 9 wsX6_nextToLookAt RX6) (x1 : Nat) (x2 : Int32) (x3 : Int32) (x4 : Int32) (x5 : Int32)
    (hR : ∀ (y3 : Int32) (y4 : Int32) (y5 : Int32) (C : cM) (H : Heap) (locs : List Loc) (ls : Array Slot), R y3 y4 y5 C → cH D cA ad A s.heap C H locs → lv_has ls 9 [(0, .ref (ad 0)), (1, .ref (ad (64 + 8 * x1))), (2, .int x2), (3, .int y3), (4, .int y4), (5, .int y5)] → W p l e (headSpec wsX6_nextToLookAt rmX6_nextToLookAt).room s m args below meth c H locs 0 0 Z (F0 m 8 ls [])) :
    ∀ (s0 : Int32) (C : cM) (H : Heap) (locs : List Loc) (ls : Array Slot), wpX6_nextToLookAt_65 n R x1 x2 x3 x4 x5 s0 C → cH D cA ad A s.heap C H locs → lv_has ls 9 [(0, .ref (ad 0)), (1, .ref (ad (64 + 8 * x1))), (2, .int x2), (3, .int x3), (4, .int x4), (5, .int x5)] → W p l e (headSpec wsX6_nextToLookAt rmX6_nextToLookAt).room s m args below meth c H locs 0 0 Z (F0 m 65 ls [.int s0]) := by
  intro s0 C H locs ls hw h hl
  unfold wpX6_nextToLookAt_65 at hw
  obtain ⟨⟨hx, hb, hml, hown, hts, hK, hA⟩, hN⟩ := id X
  refine lv_istore (lv' := [(8, .int s0), (0, .ref (ad 0)), (1, .ref (ad (64 + 8 * x1))), (2, .int x2), (3, .int x3), (4, .int x4), (5, .int x5)]) hx hb dX6_nextToLookAt_65 hl (by decide) rfl (fun ls hl => ?_)
  refine lv_iload hx hb dX6_nextToLookAt_67 (lv_at hl 0 rfl) ?_
  refine lv_iload hx hb dX6_nextToLookAt_69 (lv_at hl 5 rfl) ?_
  refine lv_icmp_le (tgt := 81) hx hb dX6_nextToLookAt_71 (by decide) (fun c71 => ?_) (fun c71 => ?_)
  · have hw := hw.1 c71
    obtain ⟨x5_81, ex5_81⟩ : ∃ z : Int32, z = x5 + 1 := ⟨_, rfl⟩
    have hw := hw x5_81 ex5_81
    refine lv_iinc (v := x5_81) (lv' := [(5, .int x5_81), (8, .int s0), (0, .ref (ad 0)), (1, .ref (ad (64 + 8 * x1))), (2, .int x2), (3, .int x3), (4, .int x4)]) hx hb dX6_nextToLookAt_81 hl (k := 6) rfl (by rw [ex5_81]; rfl) (by decide) rfl (fun ls hl => ?_)
    refine lv_goto (tgt := 8) hx hb dX6_nextToLookAt_84 (by decide) ?_
    exact hR x3 x4 x5_81 C _ _ ls hw h (lv_sub hl [2, 3, 4, 5, 6, 0] rfl)
  · have hw := hw.2 c71
    refine lv_iload hx hb dX6_nextToLookAt_74 (lv_at hl 6 rfl) ?_
    refine lv_istore_n (lv' := [(3, .int x5), (8, .int s0), (0, .ref (ad 0)), (1, .ref (ad (64 + 8 * x1))), (2, .int x2), (4, .int x4), (5, .int x5)]) hx hb dX6_nextToLookAt_76 rfl hl (by decide) rfl (fun ls hl => ?_)
    refine lv_iload hx hb dX6_nextToLookAt_77 (lv_at hl 1 rfl) ?_
    refine lv_istore (lv' := [(4, .int s0), (3, .int x5), (8, .int s0), (0, .ref (ad 0)), (1, .ref (ad (64 + 8 * x1))), (2, .int x2), (5, .int x5)]) hx hb dX6_nextToLookAt_79 hl (by decide) rfl (fun ls hl => ?_)
    obtain ⟨x5_81, ex5_81⟩ : ∃ z : Int32, z = x5 + 1 := ⟨_, rfl⟩
    have hw := hw x5_81 ex5_81
    refine lv_iinc (v := x5_81) (lv' := [(5, .int x5_81), (4, .int s0), (3, .int x5), (8, .int s0), (0, .ref (ad 0)), (1, .ref (ad (64 + 8 * x1))), (2, .int x2)]) hx hb dX6_nextToLookAt_81 hl (k := 6) rfl (by rw [ex5_81]; rfl) (by decide) rfl (fun ls hl => ?_)
    refine lv_goto (tgt := 8) hx hb dX6_nextToLookAt_84 (by decide) ?_
    exact hR x5 s0 x5_81 C _ _ ls hw h (lv_sub hl [4, 5, 6, 2, 1, 0] rfl)
set_option maxHeartbeats 4000000 in
set_option maxRecDepth 100000 in
theorem kX6_nextToLookAt_48 {n : Nat} {R : Int32 → Int32 → Int32 → cM → Prop} (X : cX p s m args meth c D cA A cX6_nextToLookAt 9 wsX6_nextToLookAt RX6) (x1 : Nat) (x2 : Int32) (x3 : Int32) (x4 : Int32) (x5 : Int32)
    (hR : ∀ (y3 : Int32) (y4 : Int32) (y5 : Int32) (C : cM) (H : Heap) (locs : List Loc) (ls : Array Slot), R y3 y4 y5 C → cH D cA ad A s.heap C H locs → lv_has ls 9 [(0, .ref (ad 0)), (1, .ref (ad (64 + 8 * x1))), (2, .int x2), (3, .int y3), (4, .int y4), (5, .int y5)] → W p l e (headSpec wsX6_nextToLookAt rmX6_nextToLookAt).room s m args below meth c H locs 0 0 Z (F0 m 8 ls [])) :
    ∀ (s0 : Option Nat) (C : cM) (H : Heap) (locs : List Loc) (ls : Array Slot), wpX6_nextToLookAt_48 n R x1 x2 x3 x4 x5 s0 C → cH D cA ad A s.heap C H locs → lv_has ls 9 [(0, .ref (ad 0)), (1, .ref (ad (64 + 8 * x1))), (2, .int x2), (3, .int x3), (4, .int x4), (5, .int x5)] → W p l e (headSpec wsX6_nextToLookAt rmX6_nextToLookAt).room s m args below meth c H locs 0 0 Z (F0 m 48 ls [bRef ad s0]) := by
  intro s0 C H locs ls hw h hl
  unfold wpX6_nextToLookAt_48 at hw
  obtain ⟨⟨hx, hb, hml, hown, hts, hK, hA⟩, hN⟩ := id X
  refine c_optB (fun o48 => ?_) (fun b48 o48 => ?_)
  · have hw := hw.1 o48
    refine lv_astoreN (lv' := [(7, .null), (0, .ref (ad 0)), (1, .ref (ad (64 + 8 * x1))), (2, .int x2), (3, .int x3), (4, .int x4), (5, .int x5)]) hx hb dX6_nextToLookAt_48 hl (by decide) rfl (fun ls hl => ?_)
    refine lv_aloadN hx hb dX6_nextToLookAt_50 (lv_at hl 0 rfl) ?_
    refine lv_ifnonnullN hx hb dX6_nextToLookAt_52 ?_
    refine lv_iconst (v := (-1)) hx hb dX6_nextToLookAt_55 (by decide) ?_
    refine lv_goto (tgt := 65) hx hb dX6_nextToLookAt_56 (by decide) ?_
    exact kX6_nextToLookAt_65 X x1 x2 x3 x4 x5 hR (-1) C _ _ ls hw h (lv_sub hl [1, 2, 3, 4, 5, 6] rfl)
  · have hw := hw.2 b48 o48
    refine lv_astore (lv' := [(7, .ref (ad (64 + 8 * b48))), (0, .ref (ad 0)), (1, .ref (ad (64 + 8 * x1))), (2, .int x2), (3, .int x3), (4, .int x4), (5, .int x5)]) hx hb dX6_nextToLookAt_48 hl (by decide) rfl (fun ls hl => ?_)
    refine lv_aload hx hb dX6_nextToLookAt_50 (lv_at hl 0 rfl) ?_
    refine lv_ifnonnull (tgt := 59) hx hb dX6_nextToLookAt_52 (by decide) ?_
    refine lv_aload_n hx hb dX6_nextToLookAt_59 rfl (lv_at hl 2 rfl) ?_
    refine lv_aload hx hb dX6_nextToLookAt_60 (lv_at hl 0 rfl) ?_
    obtain ⟨hk1, hw⟩ := hw
    refine c_goi X h (c_runV (n := 1) X h (cids_b0 hk1.1) 9 (ckind_b hk1.2) (by decide) rfl (qX0_mostAgreeing l D cA n x1 b48 ad _ _ _ hw) gX6_nextToLookAt_X0_mostAgreeing hl.1 dX6_nextToLookAt_62 rfl rfl rfl (by decide +kernel) ⟨Nat.le_of_ble_eq_true rfl, Nat.le_of_ble_eq_true rfl⟩ rfl rfl (Nat.le_of_ble_eq_true rfl) ⟨Nat.zero_le _, Nat.zero_le _⟩) (fun r62 C62 H locs hw h => ?_)
    exact kX6_nextToLookAt_65 X x1 x2 x3 x4 x5 hR r62 C62 _ _ ls hw h (lv_sub hl [1, 2, 3, 4, 5, 6] rfl)
set_option maxHeartbeats 4000000 in
set_option maxRecDepth 100000 in
theorem kX6_nextToLookAt_31 {n : Nat} {R : Int32 → Int32 → Int32 → cM → Prop} (X : cX p s m args meth c D cA A cX6_nextToLookAt 9 wsX6_nextToLookAt RX6) (x1 : Nat) (x2 : Int32) (x3 : Int32) (x4 : Int32) (x5 : Int32)
    (hR : ∀ (y3 : Int32) (y4 : Int32) (y5 : Int32) (C : cM) (H : Heap) (locs : List Loc) (ls : Array Slot), R y3 y4 y5 C → cH D cA ad A s.heap C H locs → lv_has ls 9 [(0, .ref (ad 0)), (1, .ref (ad (64 + 8 * x1))), (2, .int x2), (3, .int y3), (4, .int y4), (5, .int y5)] → W p l e (headSpec wsX6_nextToLookAt rmX6_nextToLookAt).room s m args below meth c H locs 0 0 Z (F0 m 8 ls [])) :
    ∀ (s0 : Int32) (C : cM) (H : Heap) (locs : List Loc) (ls : Array Slot), wpX6_nextToLookAt_31 n R x1 x2 x3 x4 x5 s0 C → cH D cA ad A s.heap C H locs → lv_has ls 9 [(0, .ref (ad 0)), (1, .ref (ad (64 + 8 * x1))), (2, .int x2), (3, .int x3), (4, .int x4), (5, .int x5)] → W p l e (headSpec wsX6_nextToLookAt rmX6_nextToLookAt).room s m args below meth c H locs 0 0 Z (F0 m 31 ls [.int s0]) := by
  intro s0 C H locs ls hw h hl
  unfold wpX6_nextToLookAt_31 at hw
  obtain ⟨⟨hx, hb, hml, hown, hts, hK, hA⟩, hN⟩ := id X
  refine lv_istore (lv' := [(6, .int s0), (0, .ref (ad 0)), (1, .ref (ad (64 + 8 * x1))), (2, .int x2), (3, .int x3), (4, .int x4), (5, .int x5)]) hx hb dX6_nextToLookAt_31 hl (by decide) rfl (fun ls hl => ?_)
  refine lv_iload hx hb dX6_nextToLookAt_33 (lv_at hl 0 rfl) ?_
  refine lv_if_eq (tgt := 47) hx hb dX6_nextToLookAt_35 (by decide) (fun c35 => ?_) (fun c35 => ?_)
  · have hw := hw.1 c35
    refine lv_null hx hb dX6_nextToLookAt_47 ?_
    exact kX6_nextToLookAt_48 X x1 x2 x3 x4 x5 hR none C _ _ ls hw h (lv_sub hl [1, 2, 3, 4, 5, 6] rfl)
  · have hw := hw.2 c35
    refine lv_aload_n hx hb dX6_nextToLookAt_38 rfl (lv_at hl 1 rfl) ?_
    refine lv_iload hx hb dX6_nextToLookAt_39 (lv_at hl 6 rfl) ?_
    refine c_gob X h (c_runV (n := 1) X h (cids_f (by decide)) 0 rfl (by decide) rfl (qX6_boardOf l D cA n x5 ad _ _ _ hw) gX6_nextToLookAt_X6_boardOf hl.1 dX6_nextToLookAt_41 rfl rfl rfl (by decide +kernel) ⟨Nat.le_of_ble_eq_true rfl, Nat.le_of_ble_eq_true rfl⟩ rfl rfl (Nat.le_of_ble_eq_true rfl) ⟨Nat.zero_le _, Nat.zero_le _⟩) (fun r41 C41 H locs hw h => ?_)
    refine c_optB (fun o41 => ?_) (fun b41 o41 => ?_)
    · have hw := hw.1 o41
      refine lv_goto (tgt := 48) hx hb dX6_nextToLookAt_44 (by decide) ?_
      exact kX6_nextToLookAt_48 X x1 x2 x3 x4 x5 hR none C41 _ _ ls hw h (lv_sub hl [1, 2, 3, 4, 5, 6] rfl)
    · have hw := hw.2 b41 o41
      refine lv_goto (tgt := 48) hx hb dX6_nextToLookAt_44 (by decide) ?_
      exact kX6_nextToLookAt_48 X x1 x2 x3 x4 x5 hR (some b41) C41 _ _ ls hw h (lv_sub hl [1, 2, 3, 4, 5, 6] rfl)
set_option maxHeartbeats 4000000 in
set_option maxRecDepth 100000 in
theorem kX6_nextToLookAt_8 {n : Nat} {Q : Int32 → cM → Prop} (X : cX p s m args meth c D cA A cX6_nextToLookAt 9 wsX6_nextToLookAt RX6) (x1 : Nat) (x2 : Int32)
    (hret : ∀ (r : Int32) (C : cM) (H : Heap) (locs : List Loc) (pc : Nat) (ls : Array Slot), Q r C → cH D cA ad A s.heap C H locs → decode cX6_nextToLookAt pc = .ok (.ireturn, 1) → W p l e (headSpec wsX6_nextToLookAt rmX6_nextToLookAt).room s m args below meth c H locs 0 0 Z (F0 m pc ls [.int r])) :
    ∀ (k : Nat) (x3 : Int32) (x4 : Int32) (x5 : Int32) (C : cM) (H : Heap) (locs : List Loc) (ls : Array Slot), wpX6_nextToLookAt_8 n Q x1 x2 k x3 x4 x5 C → cH D cA ad A s.heap C H locs → lv_has ls 9 [(0, .ref (ad 0)), (1, .ref (ad (64 + 8 * x1))), (2, .int x2), (3, .int x3), (4, .int x4), (5, .int x5)] → W p l e (headSpec wsX6_nextToLookAt rmX6_nextToLookAt).room s m args below meth c H locs 0 0 Z (F0 m 8 ls []) := by
  intro k
  induction k with
  | zero => intro x3 x4 x5 C H locs ls hw; exact hw.elim
  | succ k ih =>
    intro x3 x4 x5 C H locs ls hw h hl
    rw [wpX6_nextToLookAt_8] at hw
    obtain ⟨⟨hx, hb, hml, hown, hts, hK, hA⟩, hN⟩ := id X
    refine lv_iload hx hb dX6_nextToLookAt_8 (lv_at hl 5 rfl) ?_
    refine lv_aload_n hx hb dX6_nextToLookAt_10 rfl (lv_at hl 0 rfl) ?_
    refine c_get X.1 h (cids_f (by decide)) 0 rfl (by decide) rfl inX6_nextToLookAt_X6 5 (by decide) (by decide +kernel) rfl rfl dX6_nextToLookAt_11 ?_
    refine lv_icmp_ge (tgt := 87) hx hb dX6_nextToLookAt_14 (by decide) (fun c14 => ?_) (fun c14 => ?_)
    · have hw := hw.1 c14
      refine lv_iload_n hx hb dX6_nextToLookAt_87 rfl (lv_at hl 3 rfl) ?_
      exact hret x3 C _ _ _ ls hw h dX6_nextToLookAt_88
    · have hw := hw.2 c14
      refine lv_iload_n hx hb dX6_nextToLookAt_17 rfl (lv_at hl 2 rfl) ?_
      refine lv_iload hx hb dX6_nextToLookAt_18 (lv_at hl 5 rfl) ?_
      refine lv_iushr (v := ush x2 x5) hx hb dX6_nextToLookAt_20 rfl ?_
      refine lv_iconst (v := 1) hx hb dX6_nextToLookAt_21 (by decide) ?_
      refine lv_iand hx hb dX6_nextToLookAt_22 ?_
      refine lv_if_eq (tgt := 30) hx hb dX6_nextToLookAt_23 (by decide) (fun c23 => ?_) (fun c23 => ?_)
      · have hw := hw.1 c23
        refine lv_iconst (v := 0) hx hb dX6_nextToLookAt_30 (by decide) ?_
        exact kX6_nextToLookAt_31 X x1 x2 x3 x4 x5 ih 0 C _ _ ls hw h (lv_sub hl [0, 1, 2, 3, 4, 5] rfl)
      · have hw := hw.2 c23
        refine lv_iconst (v := 1) hx hb dX6_nextToLookAt_26 (by decide) ?_
        refine lv_goto (tgt := 31) hx hb dX6_nextToLookAt_27 (by decide) ?_
        exact kX6_nextToLookAt_31 X x1 x2 x3 x4 x5 ih 1 C _ _ ls hw h (lv_sub hl [0, 1, 2, 3, 4, 5] rfl)
set_option maxHeartbeats 4000000 in
set_option maxRecDepth 100000 in
theorem qX6_nextToLookAt (l : Launch) (D : va_G) (cA : Nat → ClassId) (n : Nat) (x1 : Nat) (x2 : Int32) : cMi l D cA yX6_nextToLookAt wsX6_nextToLookAt rmX6_nextToLookAt (fun ad => [.ref (ad 0), .ref (ad (64 + 8 * x1)), .int x2]) (wpX6_nextToLookAt n x1 x2) := by
  intro ad sz C Q hw
  unfold wpX6_nextToLookAt at hw
  refine c_enter (cc := cX6_nextToLookAt) (maxL := 9) (ret := some .int) (own := RX6) (by decide) rfl rfl (Nat.le_of_ble_eq_true rfl) ?_
  intro p e s m args below meth c hsz X hr hlocks h ls hl
  have hret := c_iret (p := p) (l := l) (e := e) (R := (headSpec wsX6_nextToLookAt rmX6_nextToLookAt).room) (s := s) (m := m) (args := args) (below := below) (meth := meth) (c := c) (cc := cX6_nextToLookAt) (D := D) (cA := cA) (ad := ad) (A := va_A (cws cA ad C) sz) (Q := Q) X.1.1 X.1.2.1 hr hlocks X.1.2.2.2.2.2.1
  obtain ⟨⟨hx, hb, hml, hown, hts, hK, hA⟩, hN⟩ := id X
  have hl : lv_has ls 9 [(0, .ref (ad 0)), (1, .ref (ad (64 + 8 * x1))), (2, .int x2)] := hl
  refine lv_iconst (v := (-1)) hx hb dX6_nextToLookAt_0 (by decide) ?_
  refine lv_istore_n (lv' := [(3, .int (-1)), (0, .ref (ad 0)), (1, .ref (ad (64 + 8 * x1))), (2, .int x2)]) hx hb dX6_nextToLookAt_1 rfl hl (by decide) rfl (fun ls hl => ?_)
  refine lv_iconst (v := (-1)) hx hb dX6_nextToLookAt_2 (by decide) ?_
  refine lv_istore (lv' := [(4, .int (-1)), (3, .int (-1)), (0, .ref (ad 0)), (1, .ref (ad (64 + 8 * x1))), (2, .int x2)]) hx hb dX6_nextToLookAt_3 hl (by decide) rfl (fun ls hl => ?_)
  refine lv_iconst (v := 0) hx hb dX6_nextToLookAt_5 (by decide) ?_
  refine lv_istore (lv' := [(5, .int 0), (4, .int (-1)), (3, .int (-1)), (0, .ref (ad 0)), (1, .ref (ad (64 + 8 * x1))), (2, .int x2)]) hx hb dX6_nextToLookAt_6 hl (by decide) rfl (fun ls hl => ?_)
  exact kX6_nextToLookAt_8 X x1 x2 hret n (-1) (-1) 0 C _ _ ls hw h (lv_sub hl [3, 4, 5, 2, 1, 0] rfl)
def rmX6_spreadWays : Room := { frames := 0, cells := 0, slots := 0, locals := 0 }
theorem inX6_spreadWays_X6 : ∀ w ∈ wsX60, w ∈ wsX6_spreadWays := fun w h => List.mem_cons_of_mem _ (List.mem_append_right _ h)
set_option maxHeartbeats 4000000 in
set_option maxRecDepth 100000 in
theorem kX6_spreadWays_22 {n : Nat} {R : Int32 → cM → Prop} (X : cX p s m args meth c D cA A cX6_spreadWays 5 wsX6_spreadWays RX6) (x1 : Int32) (x2 : Int32) (x3 : Int32)
    (hR : ∀ (y3 : Int32) (C : cM) (H : Heap) (locs : List Loc) (ls : Array Slot), R y3 C → cH D cA ad A s.heap C H locs → lv_has ls 5 [(0, .ref (ad 0)), (1, .int x1), (2, .int x2), (3, .int y3)] → W p l e (headSpec wsX6_spreadWays rmX6_spreadWays).room s m args below meth c H locs 0 0 Z (F0 m 2 ls [])) :
    ∀ (s0 : Int64) (C : cM) (H : Heap) (locs : List Loc) (ls : Array Slot), wpX6_spreadWays_22 n R x1 x2 x3 s0 C → cH D cA ad A s.heap C H locs → lv_has ls 5 [(0, .ref (ad 0)), (1, .int x1), (2, .int x2), (3, .int x3)] → W p l e (headSpec wsX6_spreadWays rmX6_spreadWays).room s m args below meth c H locs 0 0 Z (F0 m 22 ls [.long s0, .int x3, .ref (ad 5)]) := by
  intro s0 C H locs ls hw h hl
  unfold wpX6_spreadWays_22 at hw
  obtain ⟨⟨hx, hb, hml, hown, hts, hK, hA⟩, hN⟩ := id X
  obtain ⟨hk1, hw⟩ := hw
  refine c_last X.1 h (cids_f (by decide)) rfl (n := 13) rfl hk1 dX6_spreadWays_22 (fun C22 eC22 H locs h => ?_)
  have hw := hw C22 eC22
  obtain ⟨x3_23, ex3_23⟩ : ∃ z : Int32, z = x3 + 1 := ⟨_, rfl⟩
  have hw := hw x3_23 ex3_23
  refine lv_iinc (v := x3_23) (lv' := [(3, .int x3_23), (0, .ref (ad 0)), (1, .int x1), (2, .int x2)]) hx hb dX6_spreadWays_23 hl (k := 3) rfl (by rw [ex3_23]; rfl) (by decide) rfl (fun ls hl => ?_)
  refine lv_goto (tgt := 2) hx hb dX6_spreadWays_26 (by decide) ?_
  exact hR x3_23 C22 _ _ ls hw h (lv_sub hl [1, 2, 3, 0] rfl)
set_option maxHeartbeats 4000000 in
set_option maxRecDepth 100000 in
theorem kX6_spreadWays_2 {n : Nat} {E29 : cM → Prop} (X : cX p s m args meth c D cA A cX6_spreadWays 5 wsX6_spreadWays RX6) (x1 : Int32) (x2 : Int32)
    (hE29 : ∀ (C : cM) (H : Heap) (locs : List Loc) (ls : Array Slot), E29 C → cH D cA ad A s.heap C H locs → lv_has ls 5 [(0, .ref (ad 0)), (1, .int x1), (2, .int x2)] → W p l e (headSpec wsX6_spreadWays rmX6_spreadWays).room s m args below meth c H locs 0 0 Z (F0 m 29 ls [])) :
    ∀ (k : Nat) (x3 : Int32) (C : cM) (H : Heap) (locs : List Loc) (ls : Array Slot), wpX6_spreadWays_2 n E29 x1 x2 k x3 C → cH D cA ad A s.heap C H locs → lv_has ls 5 [(0, .ref (ad 0)), (1, .int x1), (2, .int x2), (3, .int x3)] → W p l e (headSpec wsX6_spreadWays rmX6_spreadWays).room s m args below meth c H locs 0 0 Z (F0 m 2 ls []) := by
  intro k
  induction k with
  | zero => intro x3 C H locs ls hw; exact hw.elim
  | succ k ih =>
    intro x3 C H locs ls hw h hl
    rw [wpX6_spreadWays_2] at hw
    obtain ⟨⟨hx, hb, hml, hown, hts, hK, hA⟩, hN⟩ := id X
    refine lv_iload_n hx hb dX6_spreadWays_2 rfl (lv_at hl 3 rfl) ?_
    refine lv_bipush (v := 12) hx hb dX6_spreadWays_3 (by decide) ?_
    refine lv_icmp_gt (tgt := 29) hx hb dX6_spreadWays_5 (by decide) (fun c5 => ?_) (fun c5 => ?_)
    · have hw := hw.1 c5
      exact hE29 C _ _ ls hw h (lv_sub hl [0, 1, 2] rfl)
    · have hw := hw.2 c5
      refine lv_aload_n hx hb dX6_spreadWays_8 rfl (lv_at hl 0 rfl) ?_
      refine c_get X.1 h (cids_f (by decide)) 0 rfl (by decide) rfl inX6_spreadWays_X6 4 (by decide) (by decide +kernel) rfl rfl dX6_spreadWays_9 ?_
      refine lv_iload_n hx hb dX6_spreadWays_12 rfl (lv_at hl 3 rfl) ?_
      refine lv_iload_n hx hb dX6_spreadWays_13 rfl (lv_at hl 3 rfl) ?_
      refine lv_if_ne (tgt := 21) hx hb dX6_spreadWays_14 (by decide) (fun c14 => ?_) (fun c14 => ?_)
      · have hw := hw.1 c14
        refine lv_lconst (v := 0) hx hb dX6_spreadWays_21 (by decide) ?_
        exact kX6_spreadWays_22 X x1 x2 x3 ih 0 C _ _ ls hw h (lv_sub hl [0, 1, 2, 3] rfl)
      · have hw := hw.2 c14
        refine lv_lconst (v := 1) hx hb dX6_spreadWays_17 (by decide) ?_
        refine lv_goto (tgt := 22) hx hb dX6_spreadWays_18 (by decide) ?_
        exact kX6_spreadWays_22 X x1 x2 x3 ih 1 C _ _ ls hw h (lv_sub hl [0, 1, 2, 3] rfl)
set_option maxHeartbeats 4000000 in
set_option maxRecDepth 100000 in
theorem kX6_spreadWays_40 {n : Nat} {E85 : cM → Prop} (X : cX p s m args meth c D cA A cX6_spreadWays 5 wsX6_spreadWays RX6) (x1 : Int32) (x2 : Int32) (x3 : Int32)
    (hE85 : ∀ (C : cM) (H : Heap) (locs : List Loc) (ls : Array Slot), E85 C → cH D cA ad A s.heap C H locs → lv_has ls 5 [(0, .ref (ad 0)), (1, .int x1), (2, .int x2), (3, .int x3)] → W p l e (headSpec wsX6_spreadWays rmX6_spreadWays).room s m args below meth c H locs 0 0 Z (F0 m 85 ls [])) :
    ∀ (k : Nat) (x4 : Int32) (C : cM) (H : Heap) (locs : List Loc) (ls : Array Slot), wpX6_spreadWays_40 n E85 x1 x2 x3 k x4 C → cH D cA ad A s.heap C H locs → lv_has ls 5 [(0, .ref (ad 0)), (1, .int x1), (2, .int x2), (3, .int x3), (4, .int x4)] → W p l e (headSpec wsX6_spreadWays rmX6_spreadWays).room s m args below meth c H locs 0 0 Z (F0 m 40 ls []) := by
  intro k
  induction k with
  | zero => intro x4 C H locs ls hw; exact hw.elim
  | succ k ih =>
    intro x4 C H locs ls hw h hl
    rw [wpX6_spreadWays_40] at hw
    obtain ⟨⟨hx, hb, hml, hown, hts, hK, hA⟩, hN⟩ := id X
    refine lv_iload hx hb dX6_spreadWays_40 (lv_at hl 4 rfl) ?_
    refine lv_iconst (v := 1) hx hb dX6_spreadWays_42 (by decide) ?_
    refine lv_icmp_lt (tgt := 85) hx hb dX6_spreadWays_43 (by decide) (fun c43 => ?_) (fun c43 => ?_)
    · have hw := hw.1 c43
      exact hE85 C _ _ ls hw h (lv_sub hl [0, 1, 2, 3] rfl)
    · have hw := hw.2 c43
      refine lv_aload_n hx hb dX6_spreadWays_46 rfl (lv_at hl 0 rfl) ?_
      refine c_get X.1 h (cids_f (by decide)) 0 rfl (by decide) rfl inX6_spreadWays_X6 4 (by decide) (by decide +kernel) rfl rfl dX6_spreadWays_47 ?_
      refine lv_iload hx hb dX6_spreadWays_50 (lv_at hl 4 rfl) ?_
      refine lv_aload_n hx hb dX6_spreadWays_52 rfl (lv_at hl 0 rfl) ?_
      refine c_get X.1 h (cids_f (by decide)) 0 rfl (by decide) rfl inX6_spreadWays_X6 4 (by decide) (by decide +kernel) rfl rfl dX6_spreadWays_53 ?_
      refine lv_iload hx hb dX6_spreadWays_56 (lv_at hl 4 rfl) ?_
      obtain ⟨hk2, hw⟩ := hw
      refine c_lald X.1 h (cids_f (by decide)) rfl (n := 13) rfl hk2 dX6_spreadWays_58 ?_
      refine lv_bipush (v := 16) hx hb dX6_spreadWays_59 (by decide) ?_
      refine lv_iload_n hx hb dX6_spreadWays_61 rfl (lv_at hl 2 rfl) ?_
      refine lv_isub hx hb dX6_spreadWays_62 ?_
      refine lv_i2l hx hb dX6_spreadWays_63 rfl ?_
      refine lv_lmul hx hb dX6_spreadWays_64 ?_
      refine lv_aload_n hx hb dX6_spreadWays_65 rfl (lv_at hl 0 rfl) ?_
      refine c_get X.1 h (cids_f (by decide)) 0 rfl (by decide) rfl inX6_spreadWays_X6 4 (by decide) (by decide +kernel) rfl rfl dX6_spreadWays_66 ?_
      refine lv_iload hx hb dX6_spreadWays_69 (lv_at hl 4 rfl) ?_
      refine lv_iconst (v := 1) hx hb dX6_spreadWays_71 (by decide) ?_
      refine lv_isub hx hb dX6_spreadWays_72 ?_
      obtain ⟨hk3, hw⟩ := hw
      refine c_lald X.1 h (cids_f (by decide)) rfl (n := 13) rfl hk3 dX6_spreadWays_73 ?_
      refine lv_iload_n hx hb dX6_spreadWays_74 rfl (lv_at hl 2 rfl) ?_
      refine lv_i2l hx hb dX6_spreadWays_75 rfl ?_
      refine lv_lmul hx hb dX6_spreadWays_76 ?_
      refine lv_ladd hx hb dX6_spreadWays_77 ?_
      refine c_last X.1 h (cids_f (by decide)) rfl (n := 13) rfl hk2 dX6_spreadWays_78 (fun C78 eC78 H locs h => ?_)
      have hw := hw C78 eC78
      obtain ⟨x4_79, ex4_79⟩ : ∃ z : Int32, z = x4 + (-1) := ⟨_, rfl⟩
      have hw := hw x4_79 ex4_79
      refine lv_iinc (v := x4_79) (lv' := [(4, .int x4_79), (0, .ref (ad 0)), (1, .int x1), (2, .int x2), (3, .int x3)]) hx hb dX6_spreadWays_79 hl (k := 4) rfl (by rw [ex4_79]; rfl) (by decide) rfl (fun ls hl => ?_)
      refine lv_goto (tgt := 40) hx hb dX6_spreadWays_82 (by decide) ?_
      exact ih x4_79 C78 _ _ ls hw h (lv_sub hl [1, 2, 3, 4, 0] rfl)
set_option maxHeartbeats 4000000 in
set_option maxRecDepth 100000 in
theorem kX6_spreadWays_31 {n : Nat} {Q : cM → Prop} (X : cX p s m args meth c D cA A cX6_spreadWays 5 wsX6_spreadWays RX6) (x1 : Int32) (x2 : Int32)
    (hret : ∀ (C : cM) (H : Heap) (locs : List Loc) (pc : Nat) (ls : Array Slot), Q C → cH D cA ad A s.heap C H locs → decode cX6_spreadWays pc = .ok (.return_, 1) → W p l e (headSpec wsX6_spreadWays rmX6_spreadWays).room s m args below meth c H locs 0 0 Z (F0 m pc ls [])) :
    ∀ (k : Nat) (x3 : Int32) (C : cM) (H : Heap) (locs : List Loc) (ls : Array Slot), wpX6_spreadWays_31 n Q x1 x2 k x3 C → cH D cA ad A s.heap C H locs → lv_has ls 5 [(0, .ref (ad 0)), (1, .int x1), (2, .int x2), (3, .int x3)] → W p l e (headSpec wsX6_spreadWays rmX6_spreadWays).room s m args below meth c H locs 0 0 Z (F0 m 31 ls []) := by
  intro k
  induction k with
  | zero => intro x3 C H locs ls hw; exact hw.elim
  | succ k ih =>
    intro x3 C H locs ls hw h hl
    rw [wpX6_spreadWays_31] at hw
    obtain ⟨⟨hx, hb, hml, hown, hts, hK, hA⟩, hN⟩ := id X
    refine lv_iload_n hx hb dX6_spreadWays_31 rfl (lv_at hl 3 rfl) ?_
    refine lv_iload_n hx hb dX6_spreadWays_32 rfl (lv_at hl 1 rfl) ?_
    refine lv_icmp_ge (tgt := 105) hx hb dX6_spreadWays_33 (by decide) (fun c33 => ?_) (fun c33 => ?_)
    · have hw := hw.1 c33
      exact hret C _ _ _ ls hw h dX6_spreadWays_105
    · have hw := hw.2 c33
      refine lv_bipush (v := 12) hx hb dX6_spreadWays_36 (by decide) ?_
      refine lv_istore (lv' := [(4, .int 12), (0, .ref (ad 0)), (1, .int x1), (2, .int x2), (3, .int x3)]) hx hb dX6_spreadWays_38 hl (by decide) rfl (fun ls hl => ?_)
      refine kX6_spreadWays_40 X x1 x2 x3 (fun C_40 H locs ls hw h hl => ?_) n 12 C _ _ ls hw h (lv_sub hl [1, 2, 3, 4, 0] rfl)
      refine lv_aload_n hx hb dX6_spreadWays_85 rfl (lv_at hl 0 rfl) ?_
      refine c_get X.1 h (cids_f (by decide)) 0 rfl (by decide) rfl inX6_spreadWays_X6 4 (by decide) (by decide +kernel) rfl rfl dX6_spreadWays_86 ?_
      refine lv_iconst (v := 0) hx hb dX6_spreadWays_89 (by decide) ?_
      refine lv_dup2_11 hx hb dX6_spreadWays_90 rfl rfl ?_
      refine c_lald X.1 h (cids_f (by decide)) rfl (n := 13) rfl (show vp_in 0 13 by unfold vp_in; decide) dX6_spreadWays_91 ?_
      refine lv_bipush (v := 16) hx hb dX6_spreadWays_92 (by decide) ?_
      refine lv_iload_n hx hb dX6_spreadWays_94 rfl (lv_at hl 2 rfl) ?_
      refine lv_isub hx hb dX6_spreadWays_95 ?_
      refine lv_i2l hx hb dX6_spreadWays_96 rfl ?_
      refine lv_lmul hx hb dX6_spreadWays_97 ?_
      refine c_last X.1 h (cids_f (by decide)) rfl (n := 13) rfl (show vp_in 0 13 by unfold vp_in; decide) dX6_spreadWays_98 (fun C98 eC98 H locs h => ?_)
      have hw := hw C98 eC98
      obtain ⟨x3_99, ex3_99⟩ : ∃ z : Int32, z = x3 + 1 := ⟨_, rfl⟩
      have hw := hw x3_99 ex3_99
      refine lv_iinc (v := x3_99) (lv' := [(3, .int x3_99), (0, .ref (ad 0)), (1, .int x1), (2, .int x2)]) hx hb dX6_spreadWays_99 hl (k := 3) rfl (by rw [ex3_99]; rfl) (by decide) rfl (fun ls hl => ?_)
      refine lv_goto (tgt := 31) hx hb dX6_spreadWays_102 (by decide) ?_
      exact ih x3_99 C98 _ _ ls hw h (lv_sub hl [1, 2, 3, 0] rfl)
set_option maxHeartbeats 4000000 in
set_option maxRecDepth 100000 in
theorem qX6_spreadWays (l : Launch) (D : va_G) (cA : Nat → ClassId) (n : Nat) (x1 : Int32) (x2 : Int32) : cMv l D cA yX6_spreadWays wsX6_spreadWays rmX6_spreadWays (fun ad => [.ref (ad 0), .int x1, .int x2]) (wpX6_spreadWays n x1 x2) := by
  intro ad sz C Q hw
  unfold wpX6_spreadWays at hw
  refine c_enter (cc := cX6_spreadWays) (maxL := 5) (ret := none) (own := RX6) (by decide) rfl rfl (Nat.le_of_ble_eq_true rfl) ?_
  intro p e s m args below meth c hsz X hr hlocks h ls hl
  have hret := c_vret (p := p) (l := l) (e := e) (R := (headSpec wsX6_spreadWays rmX6_spreadWays).room) (s := s) (m := m) (args := args) (below := below) (meth := meth) (c := c) (cc := cX6_spreadWays) (D := D) (cA := cA) (ad := ad) (A := va_A (cws cA ad C) sz) (Q := Q) X.1.1 X.1.2.1 hr hlocks X.1.2.2.2.2.2.1
  obtain ⟨⟨hx, hb, hml, hown, hts, hK, hA⟩, hN⟩ := id X
  have hl : lv_has ls 5 [(0, .ref (ad 0)), (1, .int x1), (2, .int x2)] := hl
  refine lv_iconst (v := 0) hx hb dX6_spreadWays_0 (by decide) ?_
  refine lv_istore_n (lv' := [(3, .int 0), (0, .ref (ad 0)), (1, .int x1), (2, .int x2)]) hx hb dX6_spreadWays_1 rfl hl (by decide) rfl (fun ls hl => ?_)
  refine kX6_spreadWays_2 X x1 x2 (fun C_2 H locs ls hw h hl => ?_) n 0 C _ _ ls hw h (lv_sub hl [1, 2, 3, 0] rfl)
  refine lv_iconst (v := 0) hx hb dX6_spreadWays_29 (by decide) ?_
  refine lv_istore_n (lv' := [(3, .int 0), (0, .ref (ad 0)), (1, .int x1), (2, .int x2)]) hx hb dX6_spreadWays_30 rfl hl (by decide) rfl (fun ls hl => ?_)
  exact kX6_spreadWays_31 X x1 x2 hret n 0 C_2 _ _ ls hw h (lv_sub hl [1, 2, 3, 0] rfl)
def rmX6_chance : Room := { frames := 1, cells := 0, slots := 0, locals := 24 }
theorem inX6_chance_X6 : ∀ w ∈ wsX60, w ∈ wsX6_chance := fun w h => List.mem_cons_of_mem _ (List.mem_append_right _ h)
set_option maxHeartbeats 4000000 in
set_option maxRecDepth 100000 in
theorem kX6_chance_46 {n : Nat} {Q : Int64 → cM → Prop} (X : cX p s m args meth c D cA A cX6_chance 7 wsX6_chance RX6) (x1 : Int32)
    (hret : ∀ (r : Int64) (C : cM) (H : Heap) (locs : List Loc) (pc : Nat) (ls : Array Slot), Q r C → cH D cA ad A s.heap C H locs → decode cX6_chance pc = .ok (.lreturn, 1) → W p l e (headSpec wsX6_chance rmX6_chance).room s m args below meth c H locs 0 0 Z (F0 m pc ls [.long r])) :
    ∀ (k : Nat) (x4 : Int64) (x6 : Int32) (C : cM) (H : Heap) (locs : List Loc) (ls : Array Slot), wpX6_chance_46 n Q x1 k x4 x6 C → cH D cA ad A s.heap C H locs → lv_has ls 7 [(0, .ref (ad 0)), (1, .int x1), (4, .long x4), (6, .int x6)] → W p l e (headSpec wsX6_chance rmX6_chance).room s m args below meth c H locs 0 0 Z (F0 m 46 ls []) := by
  intro k
  induction k with
  | zero => intro x4 x6 C H locs ls hw; exact hw.elim
  | succ k ih =>
    intro x4 x6 C H locs ls hw h hl
    rw [wpX6_chance_46] at hw
    obtain ⟨⟨hx, hb, hml, hown, hts, hK, hA⟩, hN⟩ := id X
    refine lv_iload hx hb dX6_chance_46 (lv_at hl 3 rfl) ?_
    refine lv_iload_n hx hb dX6_chance_48 rfl (lv_at hl 1 rfl) ?_
    refine lv_icmp_gt (tgt := 70) hx hb dX6_chance_49 (by decide) (fun c49 => ?_) (fun c49 => ?_)
    · have hw := hw.1 c49
      refine lv_lload hx hb dX6_chance_70 (lv_at hl 2 rfl) ?_
      exact hret x4 C _ _ _ ls hw h dX6_chance_72
    · have hw := hw.2 c49
      refine lv_lload hx hb dX6_chance_52 (lv_at hl 2 rfl) ?_
      refine lv_aload_n hx hb dX6_chance_54 rfl (lv_at hl 0 rfl) ?_
      refine c_get X.1 h (cids_f (by decide)) 0 rfl (by decide) rfl inX6_chance_X6 4 (by decide) (by decide +kernel) rfl rfl dX6_chance_55 ?_
      refine lv_iload hx hb dX6_chance_58 (lv_at hl 3 rfl) ?_
      obtain ⟨hk1, hw⟩ := hw
      refine c_lald X.1 h (cids_f (by decide)) rfl (n := 13) rfl hk1 dX6_chance_60 ?_
      refine lv_ladd hx hb dX6_chance_61 ?_
      refine lv_topl (fun x4_62 ex4_62 => ?_)
      have hw := hw x4_62 ex4_62
      refine lv_lstore (lv' := [(4, .long x4_62), (0, .ref (ad 0)), (1, .int x1), (6, .int x6)]) hx hb dX6_chance_62 hl (by decide) rfl (fun ls hl => ?_)
      obtain ⟨x6_64, ex6_64⟩ : ∃ z : Int32, z = x6 + 1 := ⟨_, rfl⟩
      have hw := hw x6_64 ex6_64
      refine lv_iinc (v := x6_64) (lv' := [(6, .int x6_64), (4, .long x4_62), (0, .ref (ad 0)), (1, .int x1)]) hx hb dX6_chance_64 hl (k := 3) rfl (by rw [ex6_64]; rfl) (by decide) rfl (fun ls hl => ?_)
      refine lv_goto (tgt := 46) hx hb dX6_chance_67 (by decide) ?_
      exact ih x4_62 x6_64 C _ _ ls hw h (lv_sub hl [2, 3, 1, 0] rfl)
set_option maxHeartbeats 4000000 in
set_option maxRecDepth 100000 in
theorem qX6_chance (l : Launch) (D : va_G) (cA : Nat → ClassId) (n : Nat) (x1 : Int32) (x2 : Int32) (x3 : Int32) : cMl l D cA yX6_chance wsX6_chance rmX6_chance (fun ad => [.ref (ad 0), .int x1, .int x2, .int x3]) (wpX6_chance n x1 x2 x3) := by
  intro ad sz C Q hw
  unfold wpX6_chance at hw
  refine c_enter (cc := cX6_chance) (maxL := 7) (ret := some .long) (own := RX6) (by decide) rfl rfl (Nat.le_of_ble_eq_true rfl) ?_
  intro p e s m args below meth c hsz X hr hlocks h ls hl
  have hret := c_lret (p := p) (l := l) (e := e) (R := (headSpec wsX6_chance rmX6_chance).room) (s := s) (m := m) (args := args) (below := below) (meth := meth) (c := c) (cc := cX6_chance) (D := D) (cA := cA) (ad := ad) (A := va_A (cws cA ad C) sz) (Q := Q) X.1.1 X.1.2.1 hr hlocks X.1.2.2.2.2.2.1
  obtain ⟨⟨hx, hb, hml, hown, hts, hK, hA⟩, hN⟩ := id X
  have hl : lv_has ls 7 [(0, .ref (ad 0)), (1, .int x1), (2, .int x2), (3, .int x3)] := hl
  refine lv_iload_n hx hb dX6_chance_0 rfl (lv_at hl 1 rfl) ?_
  refine lv_if_lt (tgt := 30) hx hb dX6_chance_1 (by decide) (fun c1 => ?_) (fun c1 => ?_)
  · have hw := hw.1 c1
    refine lv_ldc2 (v := (-1)) hx hb hown (hts (.constantLong RX6 142 (-1)) (by decide +kernel)) dX6_chance_30 ?_
    exact hret (-1) C _ _ _ ls hw h dX6_chance_33
  · have hw := hw.2 c1
    refine lv_iload_n hx hb dX6_chance_4 rfl (lv_at hl 1 rfl) ?_
    refine lv_bipush (v := 12) hx hb dX6_chance_5 (by decide) ?_
    refine lv_icmp_gt (tgt := 30) hx hb dX6_chance_7 (by decide) (fun c7 => ?_) (fun c7 => ?_)
    · have hw := hw.1 c7
      refine lv_ldc2 (v := (-1)) hx hb hown (hts (.constantLong RX6 142 (-1)) (by decide +kernel)) dX6_chance_30 ?_
      exact hret (-1) C _ _ _ ls hw h dX6_chance_33
    · have hw := hw.2 c7
      refine lv_iload_n hx hb dX6_chance_10 rfl (lv_at hl 2 rfl) ?_
      refine lv_if_lt (tgt := 30) hx hb dX6_chance_11 (by decide) (fun c11 => ?_) (fun c11 => ?_)
      · have hw := hw.1 c11
        refine lv_ldc2 (v := (-1)) hx hb hown (hts (.constantLong RX6 142 (-1)) (by decide +kernel)) dX6_chance_30 ?_
        exact hret (-1) C _ _ _ ls hw h dX6_chance_33
      · have hw := hw.2 c11
        refine lv_iload_n hx hb dX6_chance_14 rfl (lv_at hl 2 rfl) ?_
        refine lv_bipush (v := 12) hx hb dX6_chance_15 (by decide) ?_
        refine lv_icmp_gt (tgt := 30) hx hb dX6_chance_17 (by decide) (fun c17 => ?_) (fun c17 => ?_)
        · have hw := hw.1 c17
          refine lv_ldc2 (v := (-1)) hx hb hown (hts (.constantLong RX6 142 (-1)) (by decide +kernel)) dX6_chance_30 ?_
          exact hret (-1) C _ _ _ ls hw h dX6_chance_33
        · have hw := hw.2 c17
          refine lv_iload_n hx hb dX6_chance_20 rfl (lv_at hl 3 rfl) ?_
          refine lv_if_lt (tgt := 30) hx hb dX6_chance_21 (by decide) (fun c21 => ?_) (fun c21 => ?_)
          · have hw := hw.1 c21
            refine lv_ldc2 (v := (-1)) hx hb hown (hts (.constantLong RX6 142 (-1)) (by decide +kernel)) dX6_chance_30 ?_
            exact hret (-1) C _ _ _ ls hw h dX6_chance_33
          · have hw := hw.2 c21
            refine lv_iload_n hx hb dX6_chance_24 rfl (lv_at hl 3 rfl) ?_
            refine lv_bipush (v := 16) hx hb dX6_chance_25 (by decide) ?_
            refine lv_icmp_le (tgt := 34) hx hb dX6_chance_27 (by decide) (fun c27 => ?_) (fun c27 => ?_)
            · have hw := hw.1 c27
              refine lv_aload_n hx hb dX6_chance_34 rfl (lv_at hl 0 rfl) ?_
              refine lv_iload_n hx hb dX6_chance_35 rfl (lv_at hl 1 rfl) ?_
              refine lv_iload_n hx hb dX6_chance_36 rfl (lv_at hl 3 rfl) ?_
              refine c_gov X h (c_runV (n := 2) X h (cids_f (by decide)) 0 rfl (by decide) rfl (qX6_spreadWays l D cA n x1 x3 ad _ _ _ hw) gX6_chance_X6_spreadWays hl.1 dX6_chance_37 rfl rfl rfl (by decide +kernel) ⟨Nat.le_of_ble_eq_true rfl, Nat.le_of_ble_eq_true rfl⟩ rfl rfl (Nat.le_of_ble_eq_true rfl) ⟨Nat.zero_le _, Nat.zero_le _⟩) (fun C37 H locs hw h => ?_)
              refine lv_lconst (v := 0) hx hb dX6_chance_40 (by decide) ?_
              refine lv_lstore (lv' := [(4, .long 0), (0, .ref (ad 0)), (1, .int x1), (2, .int x2), (3, .int x3)]) hx hb dX6_chance_41 hl (by decide) rfl (fun ls hl => ?_)
              refine lv_iload_n hx hb dX6_chance_43 rfl (lv_at hl 3 rfl) ?_
              refine lv_istore (lv' := [(6, .int x2), (4, .long 0), (0, .ref (ad 0)), (1, .int x1), (2, .int x2), (3, .int x3)]) hx hb dX6_chance_44 hl (by decide) rfl (fun ls hl => ?_)
              exact kX6_chance_46 X x1 hret n 0 x2 C37 _ _ ls hw h (lv_sub hl [2, 3, 1, 0] rfl)
            · have hw := hw.2 c27
              refine lv_ldc2 (v := (-1)) hx hb hown (hts (.constantLong RX6 142 (-1)) (by decide +kernel)) dX6_chance_30 ?_
              exact hret (-1) C _ _ _ ls hw h dX6_chance_33
def rmX6_fullCells : Room := { frames := 1, cells := 0, slots := 0, locals := 21 }
theorem inX6_fullCells_X6 : ∀ w ∈ wsX60, w ∈ wsX6_fullCells := fun w h => List.mem_cons_of_mem _ (List.mem_append_left _ (List.mem_append_right _ h))
theorem inX6_fullCells_X0 : ∀ w ∈ wsX00, w ∈ wsX6_fullCells := fun w h => List.mem_cons_of_mem _ (List.mem_append_right _ h)
set_option maxHeartbeats 4000000 in
set_option maxRecDepth 100000 in
theorem kX6_fullCells_21 {n : Nat} {E51 : Int32 → cM → Prop} (X : cX p s m args meth c D cA A cX6_fullCells 5 wsX6_fullCells RX6) (x2 : Int32) (x3 : Option Nat)
    (hE51 : ∀ (y1 : Int32) (C : cM) (H : Heap) (locs : List Loc) (ls : Array Slot), E51 y1 C → cH D cA ad A s.heap C H locs → lv_has ls 5 [(0, .ref (ad 0)), (1, .int y1), (2, .int x2)] → W p l e (headSpec wsX6_fullCells rmX6_fullCells).room s m args below meth c H locs 0 0 Z (F0 m 51 ls [])) :
    ∀ (k : Nat) (x1 : Int32) (x4 : Int32) (C : cM) (H : Heap) (locs : List Loc) (ls : Array Slot), wpX6_fullCells_21 n E51 x2 x3 k x1 x4 C → cH D cA ad A s.heap C H locs → lv_has ls 5 [(0, .ref (ad 0)), (1, .int x1), (2, .int x2), (3, bRef ad x3), (4, .int x4)] → W p l e (headSpec wsX6_fullCells rmX6_fullCells).room s m args below meth c H locs 0 0 Z (F0 m 21 ls []) := by
  intro k
  induction k with
  | zero => intro x1 x4 C H locs ls hw; exact hw.elim
  | succ k ih =>
    intro x1 x4 C H locs ls hw h hl
    rw [wpX6_fullCells_21] at hw
    obtain ⟨⟨hx, hb, hml, hown, hts, hK, hA⟩, hN⟩ := id X
    rcases x3 with _ | b3_21
    · have hw := hw.1 rfl
      refine lv_aload_nN hx hb dX6_fullCells_21 rfl (lv_at hl 3 rfl) ?_
      refine lv_ifnullN (tgt := 51) hx hb dX6_fullCells_22 (by decide) ?_
      exact hE51 x1 C _ _ ls hw h (lv_sub hl [0, 1, 2] rfl)
    · have hw := hw.2 b3_21 rfl
      refine lv_aload_n hx hb dX6_fullCells_21 rfl (lv_at hl 3 rfl) ?_
      refine lv_ifnull hx hb dX6_fullCells_22 ?_
      refine lv_iload hx hb dX6_fullCells_25 (lv_at hl 4 rfl) ?_
      refine lv_bipush (v := 24) hx hb dX6_fullCells_27 (by decide) ?_
      refine lv_icmp_ge (tgt := 51) hx hb dX6_fullCells_29 (by decide) (fun c29 => ?_) (fun c29 => ?_)
      · have hw := hw.1 c29
        exact hE51 x1 C _ _ ls hw h (lv_sub hl [0, 1, 2] rfl)
      · have hw := hw.2 c29
        refine lv_iload_n hx hb dX6_fullCells_32 rfl (lv_at hl 1 rfl) ?_
        refine lv_aload_n hx hb dX6_fullCells_33 rfl (lv_at hl 3 rfl) ?_
        obtain ⟨hk1, hw⟩ := hw
        refine c_get X.1 h (cids_b0 hk1.1) 9 (ckind_b hk1.2) (by decide) rfl inX6_fullCells_X0 0 (by decide) (by decide +kernel) rfl rfl dX6_fullCells_34 ?_
        refine lv_iload hx hb dX6_fullCells_37 (lv_at hl 4 rfl) ?_
        obtain ⟨hk2, hw⟩ := hw
        refine c_iald X.1 h (cids_b hk1.1 1 (by decide)) (ckind_ba hk1.2 (by decide) (by decide)) (n := 24) (ilen_ba (by decide)) hk2 dX6_fullCells_39 ?_
        refine c_goi X h (c_runS (n := 1) X h (qJ6_bitCount_0f7a4 l D cA n (cI C (64 + 8 * b3_21 + 1) x4.toNatClampNeg) ad _ _ _ hw) gX6_fullCells_J6_bitCount_0f7a4 hl.1 dX6_fullCells_40 rfl rfl rfl (by decide +kernel) ⟨Nat.le_of_ble_eq_true rfl, Nat.le_of_ble_eq_true rfl⟩ rfl rfl (Nat.le_of_ble_eq_true rfl) ⟨Nat.zero_le _, Nat.zero_le _⟩) (fun r40 C40 H locs hw h => ?_)
        refine lv_iadd hx hb dX6_fullCells_43 ?_
        refine lv_topi (fun x1_44 ex1_44 => ?_)
        have hw := hw x1_44 ex1_44
        refine lv_istore_n (lv' := [(1, .int x1_44), (0, .ref (ad 0)), (2, .int x2), (3, .ref (ad (64 + 8 * b3_21))), (4, .int x4)]) hx hb dX6_fullCells_44 rfl hl (by decide) rfl (fun ls hl => ?_)
        obtain ⟨x4_45, ex4_45⟩ : ∃ z : Int32, z = x4 + 1 := ⟨_, rfl⟩
        have hw := hw x4_45 ex4_45
        refine lv_iinc (v := x4_45) (lv' := [(4, .int x4_45), (1, .int x1_44), (0, .ref (ad 0)), (2, .int x2), (3, .ref (ad (64 + 8 * b3_21)))]) hx hb dX6_fullCells_45 hl (k := 4) rfl (by rw [ex4_45]; rfl) (by decide) rfl (fun ls hl => ?_)
        refine lv_goto (tgt := 21) hx hb dX6_fullCells_48 (by decide) ?_
        exact ih x1_44 x4_45 C40 _ _ ls hw h (lv_sub hl [2, 1, 3, 4, 0] rfl)
set_option maxHeartbeats 4000000 in
set_option maxRecDepth 100000 in
theorem kX6_fullCells_4 {n : Nat} {Q : Int32 → cM → Prop} (X : cX p s m args meth c D cA A cX6_fullCells 5 wsX6_fullCells RX6)
    (hret : ∀ (r : Int32) (C : cM) (H : Heap) (locs : List Loc) (pc : Nat) (ls : Array Slot), Q r C → cH D cA ad A s.heap C H locs → decode cX6_fullCells pc = .ok (.ireturn, 1) → W p l e (headSpec wsX6_fullCells rmX6_fullCells).room s m args below meth c H locs 0 0 Z (F0 m pc ls [.int r])) :
    ∀ (k : Nat) (x1 : Int32) (x2 : Int32) (C : cM) (H : Heap) (locs : List Loc) (ls : Array Slot), wpX6_fullCells_4 n Q k x1 x2 C → cH D cA ad A s.heap C H locs → lv_has ls 5 [(0, .ref (ad 0)), (1, .int x1), (2, .int x2)] → W p l e (headSpec wsX6_fullCells rmX6_fullCells).room s m args below meth c H locs 0 0 Z (F0 m 4 ls []) := by
  intro k
  induction k with
  | zero => intro x1 x2 C H locs ls hw; exact hw.elim
  | succ k ih =>
    intro x1 x2 C H locs ls hw h hl
    rw [wpX6_fullCells_4] at hw
    obtain ⟨⟨hx, hb, hml, hown, hts, hK, hA⟩, hN⟩ := id X
    refine lv_iload_n hx hb dX6_fullCells_4 rfl (lv_at hl 2 rfl) ?_
    refine lv_aload_n hx hb dX6_fullCells_5 rfl (lv_at hl 0 rfl) ?_
    refine c_get X.1 h (cids_f (by decide)) 0 rfl (by decide) rfl inX6_fullCells_X6 5 (by decide) (by decide +kernel) rfl rfl dX6_fullCells_6 ?_
    refine lv_icmp_ge (tgt := 57) hx hb dX6_fullCells_9 (by decide) (fun c9 => ?_) (fun c9 => ?_)
    · have hw := hw.1 c9
      refine lv_iload_n hx hb dX6_fullCells_57 rfl (lv_at hl 1 rfl) ?_
      exact hret x1 C _ _ _ ls hw h dX6_fullCells_58
    · have hw := hw.2 c9
      refine lv_aload_n hx hb dX6_fullCells_12 rfl (lv_at hl 0 rfl) ?_
      refine lv_iload_n hx hb dX6_fullCells_13 rfl (lv_at hl 2 rfl) ?_
      refine c_gob X h (c_runV (n := 1) X h (cids_f (by decide)) 0 rfl (by decide) rfl (qX6_boardOf l D cA n x2 ad _ _ _ hw) gX6_fullCells_X6_boardOf hl.1 dX6_fullCells_14 rfl rfl rfl (by decide +kernel) ⟨Nat.le_of_ble_eq_true rfl, Nat.le_of_ble_eq_true rfl⟩ rfl rfl (Nat.le_of_ble_eq_true rfl) ⟨Nat.zero_le _, Nat.zero_le _⟩) (fun r14 C14 H locs hw h => ?_)
      refine c_optB (fun o14 => ?_) (fun b14 o14 => ?_)
      · have hw := hw.1 o14
        refine lv_astore_nN (lv' := [(3, .null), (0, .ref (ad 0)), (1, .int x1), (2, .int x2)]) hx hb dX6_fullCells_17 rfl hl (by decide) rfl (fun ls hl => ?_)
        refine lv_iconst (v := 0) hx hb dX6_fullCells_18 (by decide) ?_
        refine lv_istore (lv' := [(4, .int 0), (3, .null), (0, .ref (ad 0)), (1, .int x1), (2, .int x2)]) hx hb dX6_fullCells_19 hl (by decide) rfl (fun ls hl => ?_)
        refine kX6_fullCells_21 X x2 none (fun y1_21 C_21 H locs ls hw h hl => ?_) n x1 0 C14 _ _ ls hw h (lv_sub hl [2, 3, 4, 1, 0] rfl)
        obtain ⟨x2_51, ex2_51⟩ : ∃ z : Int32, z = x2 + 1 := ⟨_, rfl⟩
        have hw := hw x2_51 ex2_51
        refine lv_iinc (v := x2_51) (lv' := [(2, .int x2_51), (0, .ref (ad 0)), (1, .int y1_21)]) hx hb dX6_fullCells_51 hl (k := 2) rfl (by rw [ex2_51]; rfl) (by decide) rfl (fun ls hl => ?_)
        refine lv_goto (tgt := 4) hx hb dX6_fullCells_54 (by decide) ?_
        exact ih y1_21 x2_51 C_21 _ _ ls hw h (lv_sub hl [1, 2, 0] rfl)
      · have hw := hw.2 b14 o14
        refine lv_astore_n (lv' := [(3, .ref (ad (64 + 8 * b14))), (0, .ref (ad 0)), (1, .int x1), (2, .int x2)]) hx hb dX6_fullCells_17 rfl hl (by decide) rfl (fun ls hl => ?_)
        refine lv_iconst (v := 0) hx hb dX6_fullCells_18 (by decide) ?_
        refine lv_istore (lv' := [(4, .int 0), (3, .ref (ad (64 + 8 * b14))), (0, .ref (ad 0)), (1, .int x1), (2, .int x2)]) hx hb dX6_fullCells_19 hl (by decide) rfl (fun ls hl => ?_)
        refine kX6_fullCells_21 X x2 (some b14) (fun y1_21 C_21 H locs ls hw h hl => ?_) n x1 0 C14 _ _ ls hw h (lv_sub hl [2, 3, 4, 1, 0] rfl)
        obtain ⟨x2_51, ex2_51⟩ : ∃ z : Int32, z = x2 + 1 := ⟨_, rfl⟩
        have hw := hw x2_51 ex2_51
        refine lv_iinc (v := x2_51) (lv' := [(2, .int x2_51), (0, .ref (ad 0)), (1, .int y1_21)]) hx hb dX6_fullCells_51 hl (k := 2) rfl (by rw [ex2_51]; rfl) (by decide) rfl (fun ls hl => ?_)
        refine lv_goto (tgt := 4) hx hb dX6_fullCells_54 (by decide) ?_
        exact ih y1_21 x2_51 C_21 _ _ ls hw h (lv_sub hl [1, 2, 0] rfl)
set_option maxHeartbeats 4000000 in
set_option maxRecDepth 100000 in
theorem qX6_fullCells (l : Launch) (D : va_G) (cA : Nat → ClassId) (n : Nat) : cMi l D cA yX6_fullCells wsX6_fullCells rmX6_fullCells (fun ad => [.ref (ad 0)]) (wpX6_fullCells n) := by
  intro ad sz C Q hw
  unfold wpX6_fullCells at hw
  refine c_enter (cc := cX6_fullCells) (maxL := 5) (ret := some .int) (own := RX6) (by decide) rfl rfl (Nat.le_of_ble_eq_true rfl) ?_
  intro p e s m args below meth c hsz X hr hlocks h ls hl
  have hret := c_iret (p := p) (l := l) (e := e) (R := (headSpec wsX6_fullCells rmX6_fullCells).room) (s := s) (m := m) (args := args) (below := below) (meth := meth) (c := c) (cc := cX6_fullCells) (D := D) (cA := cA) (ad := ad) (A := va_A (cws cA ad C) sz) (Q := Q) X.1.1 X.1.2.1 hr hlocks X.1.2.2.2.2.2.1
  obtain ⟨⟨hx, hb, hml, hown, hts, hK, hA⟩, hN⟩ := id X
  have hl : lv_has ls 5 [(0, .ref (ad 0))] := hl
  refine lv_iconst (v := 0) hx hb dX6_fullCells_0 (by decide) ?_
  refine lv_istore_n (lv' := [(1, .int 0), (0, .ref (ad 0))]) hx hb dX6_fullCells_1 rfl hl (by decide) rfl (fun ls hl => ?_)
  refine lv_iconst (v := 0) hx hb dX6_fullCells_2 (by decide) ?_
  refine lv_istore_n (lv' := [(2, .int 0), (1, .int 0), (0, .ref (ad 0))]) hx hb dX6_fullCells_3 rfl hl (by decide) rfl (fun ls hl => ?_)
  exact kX6_fullCells_4 X hret n 0 0 C _ _ ls hw h (lv_sub hl [2, 1, 0] rfl)
def rmX6_count : Room := { frames := 2, cells := 0, slots := 0, locals := 45 }
theorem inX6_count_X6 : ∀ w ∈ wsX60, w ∈ wsX6_count := fun w h => List.mem_cons_of_mem _ (List.mem_append_left _ (List.mem_append_right _ h))
theorem inX6_count_X0 : ∀ w ∈ wsX00, w ∈ wsX6_count := fun w h => List.mem_cons_of_mem _ (List.mem_append_right _ h)
set_option maxHeartbeats 4000000 in
set_option maxRecDepth 100000 in
theorem qX6_count (l : Launch) (D : va_G) (cA : Nat → ClassId) (n : Nat) (x1 : Int32) : cMi l D cA yX6_count wsX6_count rmX6_count (fun ad => [.ref (ad 0), .int x1]) (wpX6_count n x1) := by
  intro ad sz C Q hw
  unfold wpX6_count at hw
  refine c_enter (cc := cX6_count) (maxL := 2) (ret := some .int) (own := RX6) (by decide) rfl rfl (Nat.le_of_ble_eq_true rfl) ?_
  intro p e s m args below meth c hsz X hr hlocks h ls hl
  have hret := c_iret (p := p) (l := l) (e := e) (R := (headSpec wsX6_count rmX6_count).room) (s := s) (m := m) (args := args) (below := below) (meth := meth) (c := c) (cc := cX6_count) (D := D) (cA := cA) (ad := ad) (A := va_A (cws cA ad C) sz) (Q := Q) X.1.1 X.1.2.1 hr hlocks X.1.2.2.2.2.2.1
  obtain ⟨⟨hx, hb, hml, hown, hts, hK, hA⟩, hN⟩ := id X
  have hl : lv_has ls 2 [(0, .ref (ad 0)), (1, .int x1)] := hl
  refine lv_iload_n hx hb dX6_count_0 rfl (lv_at hl 1 rfl) ?_
  by_cases c1_0 : x1 = 0
  · have hw := hw.1 c1_0
    refine lv_tableIn (off := 27) (tgt := 28) hx hb dX6_count_1 (by rw [c1_0]; decide) (by rw [c1_0]; decide) (by rw [c1_0]; rfl) (by decide) ?_
    refine lv_aload_n hx hb dX6_count_28 rfl (lv_at hl 0 rfl) ?_
    refine c_get X.1 h (cids_f (by decide)) 0 rfl (by decide) rfl inX6_count_X6 5 (by decide) (by decide +kernel) rfl rfl dX6_count_29 ?_
    exact hret (cI C 0 5) C _ _ _ ls hw h dX6_count_32
  · by_cases c1_1 : x1 = 1
    · have hw := hw.2.1 c1_1
      refine lv_tableIn (off := 32) (tgt := 33) hx hb dX6_count_1 (by rw [c1_1]; decide) (by rw [c1_1]; decide) (by rw [c1_1]; rfl) (by decide) ?_
      refine lv_aload_n hx hb dX6_count_33 rfl (lv_at hl 0 rfl) ?_
      refine c_goi X h (c_runV (n := 0) X h (cids_f (by decide)) 0 rfl (by decide) rfl (qX6_fullCells l D cA n ad _ _ _ hw) gX6_count_X6_fullCells hl.1 dX6_count_34 rfl rfl rfl (by decide +kernel) ⟨Nat.le_of_ble_eq_true rfl, Nat.le_of_ble_eq_true rfl⟩ rfl rfl (Nat.le_of_ble_eq_true rfl) ⟨Nat.zero_le _, Nat.zero_le _⟩) (fun r34 C34 H locs hw h => ?_)
      exact hret r34 C34 _ _ _ ls hw h dX6_count_37
    · by_cases c1_2 : x1 = 2
      · have hw := hw.2.2.1 c1_2
        refine lv_tableIn (off := 37) (tgt := 38) hx hb dX6_count_1 (by rw [c1_2]; decide) (by rw [c1_2]; decide) (by rw [c1_2]; rfl) (by decide) ?_
        refine lv_aload_n hx hb dX6_count_38 rfl (lv_at hl 0 rfl) ?_
        refine c_get X.1 h (cids_f (by decide)) 0 rfl (by decide) rfl inX6_count_X6 6 (by decide) (by decide +kernel) rfl rfl dX6_count_39 ?_
        exact hret (cI C 0 6) C _ _ _ ls hw h dX6_count_42
      · have hw := hw.2.2.2 ⟨c1_0, c1_1, c1_2⟩
        refine lv_tableOut (tgt := 43) hx hb dX6_count_1 (tsw_out2 c1_0 c1_1 c1_2) (by decide) ?_
        refine lv_iconst (v := (-1)) hx hb dX6_count_43 (by decide) ?_
        exact hret (-1) C _ _ _ ls hw h dX6_count_44
def rmX6_status : Room := { frames := 0, cells := 0, slots := 0, locals := 0 }
theorem inX6_status_X6 : ∀ w ∈ wsX60, w ∈ wsX6_status := fun w h => List.mem_cons_of_mem _ (List.mem_append_right _ h)
set_option maxHeartbeats 4000000 in
set_option maxRecDepth 100000 in
theorem qX6_status (l : Launch) (D : va_G) (cA : Nat → ClassId) (n : Nat) : cMi l D cA yX6_status wsX6_status rmX6_status (fun ad => [.ref (ad 0)]) (wpX6_status n) := by
  intro ad sz C Q hw
  unfold wpX6_status at hw
  refine c_enter (cc := cX6_status) (maxL := 1) (ret := some .int) (own := RX6) (by decide) rfl rfl (Nat.le_of_ble_eq_true rfl) ?_
  intro p e s m args below meth c hsz X hr hlocks h ls hl
  have hret := c_iret (p := p) (l := l) (e := e) (R := (headSpec wsX6_status rmX6_status).room) (s := s) (m := m) (args := args) (below := below) (meth := meth) (c := c) (cc := cX6_status) (D := D) (cA := cA) (ad := ad) (A := va_A (cws cA ad C) sz) (Q := Q) X.1.1 X.1.2.1 hr hlocks X.1.2.2.2.2.2.1
  obtain ⟨⟨hx, hb, hml, hown, hts, hK, hA⟩, hN⟩ := id X
  have hl : lv_has ls 1 [(0, .ref (ad 0))] := hl
  refine lv_aload_n hx hb dX6_status_0 rfl (lv_at hl 0 rfl) ?_
  refine c_get X.1 h (cids_f (by decide)) 0 rfl (by decide) rfl inX6_status_X6 7 (by decide) (by decide +kernel) rfl rfl dX6_status_1 ?_
  exact hret (cI C 0 7) C _ _ _ ls hw h dX6_status_4
end KC
