section KA
variable {p : Program} {l : Launch} {e : Env} {s : State} {m : MethodId} {args : Array Value} {below : List Frame} {meth : Method} {c : Code} {Z : State → Prop} {D : va_G} {cA : Nat → ClassId} {A : Nat → Prop} {ad0 : Nat → Nat} {Cz : cM}
def rmX6_print : Room := { frames := 2, cells := 6, slots := 177, locals := 32 }
theorem inX6_print_X6 : ∀ w ∈ wsX60, w ∈ wsX6_print := fun w h => List.mem_cons_of_mem _ (List.mem_append_left _ (List.mem_append_right _ h))
theorem inX6_print_X0 : ∀ w ∈ wsX00, w ∈ wsX6_print := fun w h => List.mem_cons_of_mem _ (List.mem_append_right _ h)
set_option maxHeartbeats 4000000 in
set_option maxRecDepth 100000 in
theorem qX6_print (l : Launch) (D : va_G) (cA : Nat → ClassId) (n : Nat) : cMiA l D cA yX6_print wsX6_print rmX6_print (fun ad => [.ref (ad 0)]) (wpX6_print n) 6 177 := by
  intro ad sz C Q hw
  unfold wpX6_print at hw
  refine c_enter (cc := cX6_print) (maxL := 1) (ret := some .int) (own := RX6) (by decide) rfl rfl (Nat.le_of_ble_eq_true rfl) ?_
  intro p e s m args below meth c hsz X hr hlocks h ls hl
  have hret := c_iretA (uc := 6) (us := 177) (MC := 1) (p := p) (l := l) (e := e) (R := (headSpec wsX6_print rmX6_print).room) (s := s) (m := m) (args := args) (below := below) (meth := meth) (c := c) (cc := cX6_print) (D := D) (cA := cA) (ad0 := ad) (A := va_A (cws cA ad C) sz) (Q := Q) X.1.1 X.1.2.1 hr hlocks X.1.2.2.2.2.2.1
  have hg := cAg.rf ad 0
  obtain ⟨⟨hx, hb, hml, hown, hts, hK, hA⟩, hN⟩ := id X
  have hl : lv_has ls 1 [(0, .ref (ad 0))] := hl
  refine W.widen (k := 6 * 0) (n := 177 * 0) (Nat.le_refl _) (Nat.le_refl _) ?_
  refine lv_aload_n hx hb dX6_print_0 rfl (lv_at hl 0 rfl) ?_
  refine c_get X.1 h (cids_f (by decide)) 0 rfl (by decide) rfl inX6_print_X6 5 (by decide) (by decide +kernel) rfl rfl dX6_print_1 ?_
  refine lv_bipush (v := 16) hx hb dX6_print_4 (by decide) ?_
  refine lv_icmp_lt (tgt := 16) hx hb dX6_print_6 (by decide) (fun c6 => ?_) (fun c6 => ?_)
  · have hw := hw.1 c6
    refine lv_aload_n hx hb dX6_print_16 rfl (lv_at hl 0 rfl) ?_
    refine lv_iconst (v := 0) hx hb dX6_print_17 (by decide) ?_
    refine c_put X.1 h (cids_f (by decide)) 0 rfl (by decide) rfl inX6_print_X6 tyX6 tyX6_ok nmX6 7 (by decide) (by decide +kernel) rfl rfl rfl rfl (Nat.le_of_ble_eq_true rfl) (fun _ _ => rfl) dX6_print_18 (fun C18 eC18 H locs h => ?_)
    have hw := hw C18 eC18
    refine lv_aload_n hx hb dX6_print_21 rfl (lv_at hl 0 rfl) ?_
    refine c_get X.1 h (cids_f (by decide)) 0 rfl (by decide) rfl inX6_print_X6 0 (by decide) (by decide +kernel) rfl rfl dX6_print_22 ?_
    refine lv_aload_n hx hb dX6_print_25 rfl (lv_at hl 0 rfl) ?_
    refine c_get X.1 h (cids_f (by decide)) 0 rfl (by decide) rfl inX6_print_X6 5 (by decide) (by decide +kernel) rfl rfl dX6_print_26 ?_
    obtain ⟨hk1, hw⟩ := hw
    obtain ⟨hk2, hw⟩ := hw
    obtain ⟨hk3, hw⟩ := hw
    obtain ⟨hk4, hw⟩ := hw
    refine c_newB X h hk1 hk2 hl.1 inX6_print_X0 (by decide +kernel) (by decide +kernel) (by decide +kernel) gX6_print_X0_init_n53 (by decide +kernel) ⟨Nat.le_of_ble_eq_true rfl, Nat.le_of_ble_eq_true rfl⟩ (by show 6 * 0 + 6 ≤ 6; omega) (by show 177 * 0 + 177 ≤ 177; omega) hk3 dX6_print_29 dX6_print_32 dX6_print_33 dX6_print_36 (fun ad29 H locs hag h => ?_)
    have hl : lv_has ls 1 [(0, .ref (ad29 0))] := by rw [hag.1]; exact lv_sub hl [0] rfl
    have hg := hg.tr hag (Nat.zero_le _)
    refine W.widen (k := 6 * (0 + 1)) (n := 177 * (0 + 1)) (Nat.le_refl _) (Nat.le_refl _) ?_
    obtain ⟨C29, eC29⟩ : ∃ z, z = cnewB C18 := ⟨_, rfl⟩
    rw [← eC29] at h
    have hw := hw C29 eC29
    refine lv_aload_n hx hb dX6_print_37 rfl (lv_at hl 0 rfl) ?_
    refine lv_dup hx hb dX6_print_38 rfl ?_
    refine c_get X.1 h (cids_f (by decide)) 0 rfl (by decide) rfl inX6_print_X6 5 (by decide) (by decide +kernel) rfl rfl dX6_print_39 ?_
    refine lv_iconst (v := 1) hx hb dX6_print_42 (by decide) ?_
    refine lv_iadd hx hb dX6_print_43 ?_
    refine c_put X.1 h (cids_f (by decide)) 0 rfl (by decide) rfl inX6_print_X6 tyX6 tyX6_ok nmX6 5 (by decide) (by decide +kernel) rfl rfl rfl rfl (Nat.le_of_ble_eq_true rfl) (fun _ _ => rfl) dX6_print_44 (fun C44 eC44 H locs h => ?_)
    have hw := hw C44 eC44
    refine lv_aload_n hx hb dX6_print_47 rfl (lv_at hl 0 rfl) ?_
    refine c_get X.1 h (cids_f (by decide)) 0 rfl (by decide) rfl inX6_print_X6 5 (by decide) (by decide +kernel) rfl rfl dX6_print_48 ?_
    refine lv_iconst (v := 1) hx hb dX6_print_51 (by decide) ?_
    refine lv_isub hx hb dX6_print_52 ?_
    exact hret ((cI C44 0 5) - 1) (0 + 1) ad29 C44 _ _ _ ls hw hg h dX6_print_53
  · have hw := hw.2 c6
    refine lv_aload_n hx hb dX6_print_9 rfl (lv_at hl 0 rfl) ?_
    refine lv_bipush (v := (-5)) hx hb dX6_print_10 (by decide) ?_
    obtain ⟨hk5, hw⟩ := hw
    refine c_goi X h (c_runV (n := 1) X h (cids_f (by decide)) 0 rfl (by decide) rfl (qX6_refuse l D cA n (-5) ad _ _ _ hw) gX6_print_X6_refuse hl.1 dX6_print_12 rfl rfl rfl (by decide +kernel) ⟨Nat.le_of_ble_eq_true rfl, Nat.le_of_ble_eq_true rfl⟩ rfl rfl (Nat.le_of_ble_eq_true rfl) ⟨(by show 6 * 0 + 0 ≤ 6; omega), (by show 177 * 0 + 0 ≤ 177; omega)⟩) (fun r12 C12 H locs hw h => ?_)
    exact hret r12 0 ad C12 _ _ _ ls hw hg h dX6_print_15
def rmX6_meetingOf : Room := { frames := 6, cells := 1, slots := 9, locals := 153 }
theorem inX6_meetingOf_X6 : ∀ w ∈ wsX60, w ∈ wsX6_meetingOf := fun w h => List.mem_cons_of_mem _ (List.mem_append_left _ (List.mem_append_left _ (List.mem_append_left _ (List.mem_append_left _ (List.mem_append_left _ (List.mem_append_left _ (List.mem_append_right _ h)))))))
theorem inX6_meetingOf_X1 : ∀ w ∈ wsX10, w ∈ wsX6_meetingOf := fun w h => List.mem_cons_of_mem _ (List.mem_append_left _ (List.mem_append_left _ (List.mem_append_left _ (List.mem_append_left _ (List.mem_append_left _ (List.mem_append_right _ h))))))
theorem inX6_meetingOf_X0 : ∀ w ∈ wsX00, w ∈ wsX6_meetingOf := fun w h => List.mem_cons_of_mem _ (List.mem_append_left _ (List.mem_append_left _ (List.mem_append_left _ (List.mem_append_left _ (List.mem_append_right _ h)))))
theorem inX6_meetingOf_X5 : ∀ w ∈ wsX50, w ∈ wsX6_meetingOf := fun w h => List.mem_cons_of_mem _ (List.mem_append_left _ (List.mem_append_left _ (List.mem_append_left _ (List.mem_append_right _ h))))
theorem inX6_meetingOf_X3 : ∀ w ∈ wsX30, w ∈ wsX6_meetingOf := fun w h => List.mem_cons_of_mem _ (List.mem_append_left _ (List.mem_append_left _ (List.mem_append_right _ h)))
theorem inX6_meetingOf_X4 : ∀ w ∈ wsX40, w ∈ wsX6_meetingOf := fun w h => List.mem_cons_of_mem _ (List.mem_append_left _ (List.mem_append_right _ h))
theorem inX6_meetingOf_X2 : ∀ w ∈ wsX20, w ∈ wsX6_meetingOf := fun w h => List.mem_cons_of_mem _ (List.mem_append_right _ h)
set_option maxHeartbeats 4000000 in
set_option maxRecDepth 100000 in
theorem kX6_meetingOf_67 {n : Nat} {Q : Option Nat → cM → Prop} (X : cX p s m args meth c D cA A cX6_meetingOf 7 wsX6_meetingOf RX6) (x6 : Nat)
    (hret : ∀ (r : Option Nat) (gc : Nat) (ad : Nat → Nat) (C : cM) (H : Heap) (locs : List Loc) (pc : Nat) (ls : Array Slot), gc ≤ 1 ∧ Q r C → cAg ad0 (cN Cz) ad → cH D cA ad A s.heap C H locs → decode cX6_meetingOf pc = .ok (.areturn, 1) → W p l e (headSpec wsX6_meetingOf rmX6_meetingOf).room s m args below meth c H locs (1 * gc) (9 * gc) Z (F0 m pc ls [tRef ad r])) :
    ∀ (gc : Nat) (ad : Nat → Nat) (C : cM) (H : Heap) (locs : List Loc) (ls : Array Slot), wpX6_meetingOf_67 n Q x6 gc C → cAg ad0 (cN Cz) ad → cH D cA ad A s.heap C H locs → lv_has ls 7 [(0, .ref (ad 0)), (6, .ref (ad (256 + x6)))] → W p l e (headSpec wsX6_meetingOf rmX6_meetingOf).room s m args below meth c H locs (1 * gc) (9 * gc) Z (F0 m 67 ls []) := by
  intro gc ad C H locs ls hw hg h hl
  unfold wpX6_meetingOf_67 at hw
  obtain ⟨⟨hx, hb, hml, hown, hts, hK, hA⟩, hN⟩ := id X
  refine lv_aload hx hb dX6_meetingOf_67 (lv_at hl 1 rfl) ?_
  refine lv_aload_n hx hb dX6_meetingOf_69 rfl (lv_at hl 0 rfl) ?_
  refine c_get X.1 h (cids_f (by decide)) 0 rfl (by decide) rfl inX6_meetingOf_X6 6 (by decide) (by decide +kernel) rfl rfl dX6_meetingOf_70 ?_
  obtain ⟨hk9, hw⟩ := hw
  obtain ⟨hk10, hw⟩ := hw
  refine c_goi X h (c_runV (n := 1) X h (cids_m hk10.1 hk10.2) 10 ckind_m (by decide) rfl (qX1_stillHolds l D cA n x6 (cI C 0 6) ad _ _ _ hw) gX6_meetingOf_X1_stillHolds hl.1 dX6_meetingOf_73 rfl rfl rfl (by decide +kernel) ⟨Nat.le_of_ble_eq_true rfl, Nat.le_of_ble_eq_true rfl⟩ rfl rfl (Nat.le_of_ble_eq_true rfl) ⟨(by show 1 * gc + 0 ≤ 1; omega), (by show 9 * gc + 0 ≤ 9; omega)⟩) (fun r73 C73 H locs hw h => ?_)
  refine lv_if_ne (tgt := 92) hx hb dX6_meetingOf_76 (by decide) (fun c76 => ?_) (fun c76 => ?_)
  · have hw := hw.1 c76
    refine lv_aload hx hb dX6_meetingOf_92 (lv_at hl 1 rfl) ?_
    exact hret (some x6) gc ad C73 _ _ _ ls hw hg h dX6_meetingOf_94
  · have hw := hw.2 c76
    refine lv_aload hx hb dX6_meetingOf_79 (lv_at hl 1 rfl) ?_
    refine lv_aload_n hx hb dX6_meetingOf_81 rfl (lv_at hl 0 rfl) ?_
    refine c_get X.1 h (cids_f (by decide)) 0 rfl (by decide) rfl inX6_meetingOf_X6 3 (by decide) (by decide +kernel) rfl rfl dX6_meetingOf_82 ?_
    refine lv_aload_n hx hb dX6_meetingOf_85 rfl (lv_at hl 0 rfl) ?_
    refine c_get X.1 h (cids_f (by decide)) 0 rfl (by decide) rfl inX6_meetingOf_X6 6 (by decide) (by decide +kernel) rfl rfl dX6_meetingOf_86 ?_
    obtain ⟨hk11, hw⟩ := hw
    refine c_gov X h (c_runV (n := 2) X h (cids_m hk11.1 hk11.2) 10 ckind_m (by decide) rfl (qX1_findBestMove l D cA n x6 (cI C73 0 6) ad _ _ _ hw) gX6_meetingOf_X1_findBestMove hl.1 dX6_meetingOf_89 rfl rfl rfl (by decide +kernel) ⟨Nat.le_of_ble_eq_true rfl, Nat.le_of_ble_eq_true rfl⟩ rfl rfl (Nat.le_of_ble_eq_true rfl) ⟨(by show 1 * gc + 0 ≤ 1; omega), (by show 9 * gc + 0 ≤ 9; omega)⟩) (fun C89 H locs hw h => ?_)
    refine lv_aload hx hb dX6_meetingOf_92 (lv_at hl 1 rfl) ?_
    exact hret (some x6) gc ad C89 _ _ _ ls hw hg h dX6_meetingOf_94
set_option maxHeartbeats 4000000 in
set_option maxRecDepth 100000 in
theorem qX6_meetingOf (l : Launch) (D : va_G) (cA : Nat → ClassId) (n : Nat) (x1 : Int32) (x2 : Int32) : cMtA l D cA yX6_meetingOf wsX6_meetingOf rmX6_meetingOf (fun ad => [.ref (ad 0), .int x1, .int x2]) (wpX6_meetingOf n x1 x2) 1 9 := by
  intro ad sz C Q hw
  unfold wpX6_meetingOf at hw
  refine c_enter (cc := cX6_meetingOf) (maxL := 7) (ret := some (.object "RidgeBooks$Meeting")) (own := RX6) (by decide) rfl rfl (Nat.le_of_ble_eq_true rfl) ?_
  intro p e s m args below meth c hsz X hr hlocks h ls hl
  have hret := c_tretA (rt := .object "RidgeBooks$Meeting") (N := cN C) (uc := 1) (us := 9) (MC := 1) (p := p) (l := l) (e := e) (R := (headSpec wsX6_meetingOf rmX6_meetingOf).room) (s := s) (m := m) (args := args) (below := below) (meth := meth) (c := c) (cc := cX6_meetingOf) (D := D) (cA := cA) (ad0 := ad) (A := va_A (cws cA ad C) sz) (Q := Q) X.1.1 X.1.2.1 hr (.inl ⟨_, rfl⟩) hlocks X.1.2.2.2.2.2.1
  have hg := cAg.rf ad (cN C)
  obtain ⟨⟨hx, hb, hml, hown, hts, hK, hA⟩, hN⟩ := id X
  have hl : lv_has ls 7 [(0, .ref (ad 0)), (1, .int x1), (2, .int x2)] := hl
  refine W.widen (k := 1 * 0) (n := 9 * 0) (Nat.le_refl _) (Nat.le_refl _) ?_
  refine lv_aload_n hx hb dX6_meetingOf_0 rfl (lv_at hl 0 rfl) ?_
  refine lv_iload_n hx hb dX6_meetingOf_1 rfl (lv_at hl 1 rfl) ?_
  obtain ⟨hk1, hw⟩ := hw
  refine c_gob X h (c_runV (n := 1) X h (cids_f (by decide)) 0 rfl (by decide) rfl (qX6_freshBoard l D cA n x1 ad _ _ _ hw) gX6_meetingOf_X6_freshBoard hl.1 dX6_meetingOf_2 rfl rfl rfl (by decide +kernel) ⟨Nat.le_of_ble_eq_true rfl, Nat.le_of_ble_eq_true rfl⟩ rfl rfl (Nat.le_of_ble_eq_true rfl) ⟨(by show 1 * 0 + 0 ≤ 1; omega), (by show 9 * 0 + 0 ≤ 9; omega)⟩) (fun r2 C2 H locs hw h => ?_)
  refine c_optB (fun o2 => ?_) (fun b2 o2 => ?_)
  · have hw := hw.1 o2
    refine lv_astore_nN (lv' := [(3, .null), (0, .ref (ad 0)), (1, .int x1), (2, .int x2)]) hx hb dX6_meetingOf_5 rfl hl (by decide) rfl (fun ls hl => ?_)
    refine lv_aload_n hx hb dX6_meetingOf_6 rfl (lv_at hl 1 rfl) ?_
    refine lv_iload_n hx hb dX6_meetingOf_7 rfl (lv_at hl 3 rfl) ?_
    refine c_gob X h (c_runV (n := 1) X h (cids_f (by decide)) 0 rfl (by decide) rfl (qX6_freshBoard l D cA n x2 ad _ _ _ hw) gX6_meetingOf_X6_freshBoard hl.1 dX6_meetingOf_8 rfl rfl rfl (by decide +kernel) ⟨Nat.le_of_ble_eq_true rfl, Nat.le_of_ble_eq_true rfl⟩ rfl rfl (Nat.le_of_ble_eq_true rfl) ⟨(by show 1 * 0 + 0 ≤ 1; omega), (by show 9 * 0 + 0 ≤ 9; omega)⟩) (fun r8 C8 H locs hw h => ?_)
    refine c_optB (fun o8 => ?_) (fun b8 o8 => ?_)
    · have hw := hw.1 o8
      refine lv_astoreN (lv' := [(4, .null), (3, .null), (0, .ref (ad 0)), (1, .int x1), (2, .int x2)]) hx hb dX6_meetingOf_11 hl (by decide) rfl (fun ls hl => ?_)
      refine lv_aload_nN hx hb dX6_meetingOf_13 rfl (lv_at hl 1 rfl) ?_
      refine lv_ifnullN (tgt := 22) hx hb dX6_meetingOf_14 (by decide) ?_
      refine lv_null hx hb dX6_meetingOf_22 ?_
      exact hret none 0 ad C8 _ _ _ ls hw hg h dX6_meetingOf_23
    · have hw := hw.2 b8 o8
      refine lv_astore (lv' := [(4, .ref (ad (64 + 8 * b8))), (3, .null), (0, .ref (ad 0)), (1, .int x1), (2, .int x2)]) hx hb dX6_meetingOf_11 hl (by decide) rfl (fun ls hl => ?_)
      refine lv_aload_nN hx hb dX6_meetingOf_13 rfl (lv_at hl 1 rfl) ?_
      refine lv_ifnullN (tgt := 22) hx hb dX6_meetingOf_14 (by decide) ?_
      refine lv_null hx hb dX6_meetingOf_22 ?_
      exact hret none 0 ad C8 _ _ _ ls hw hg h dX6_meetingOf_23
  · have hw := hw.2 b2 o2
    refine lv_astore_n (lv' := [(3, .ref (ad (64 + 8 * b2))), (0, .ref (ad 0)), (1, .int x1), (2, .int x2)]) hx hb dX6_meetingOf_5 rfl hl (by decide) rfl (fun ls hl => ?_)
    refine lv_aload_n hx hb dX6_meetingOf_6 rfl (lv_at hl 1 rfl) ?_
    refine lv_iload_n hx hb dX6_meetingOf_7 rfl (lv_at hl 3 rfl) ?_
    refine c_gob X h (c_runV (n := 1) X h (cids_f (by decide)) 0 rfl (by decide) rfl (qX6_freshBoard l D cA n x2 ad _ _ _ hw) gX6_meetingOf_X6_freshBoard hl.1 dX6_meetingOf_8 rfl rfl rfl (by decide +kernel) ⟨Nat.le_of_ble_eq_true rfl, Nat.le_of_ble_eq_true rfl⟩ rfl rfl (Nat.le_of_ble_eq_true rfl) ⟨(by show 1 * 0 + 0 ≤ 1; omega), (by show 9 * 0 + 0 ≤ 9; omega)⟩) (fun r8 C8 H locs hw h => ?_)
    refine c_optB (fun o8 => ?_) (fun b8 o8 => ?_)
    · have hw := hw.1 o8
      refine lv_astoreN (lv' := [(4, .null), (3, .ref (ad (64 + 8 * b2))), (0, .ref (ad 0)), (1, .int x1), (2, .int x2)]) hx hb dX6_meetingOf_11 hl (by decide) rfl (fun ls hl => ?_)
      refine lv_aload_n hx hb dX6_meetingOf_13 rfl (lv_at hl 1 rfl) ?_
      refine lv_ifnull hx hb dX6_meetingOf_14 ?_
      refine lv_aloadN hx hb dX6_meetingOf_17 (lv_at hl 0 rfl) ?_
      refine lv_ifnonnullN hx hb dX6_meetingOf_19 ?_
      refine lv_null hx hb dX6_meetingOf_22 ?_
      exact hret none 0 ad C8 _ _ _ ls hw hg h dX6_meetingOf_23
    · have hw := hw.2 b8 o8
      refine lv_astore (lv' := [(4, .ref (ad (64 + 8 * b8))), (3, .ref (ad (64 + 8 * b2))), (0, .ref (ad 0)), (1, .int x1), (2, .int x2)]) hx hb dX6_meetingOf_11 hl (by decide) rfl (fun ls hl => ?_)
      refine lv_aload_n hx hb dX6_meetingOf_13 rfl (lv_at hl 1 rfl) ?_
      refine lv_ifnull hx hb dX6_meetingOf_14 ?_
      refine lv_aload hx hb dX6_meetingOf_17 (lv_at hl 0 rfl) ?_
      refine lv_ifnonnull (tgt := 24) hx hb dX6_meetingOf_19 (by decide) ?_
      refine lv_iload_n hx hb dX6_meetingOf_24 rfl (lv_at hl 3 rfl) ?_
      refine lv_bipush (v := 16) hx hb dX6_meetingOf_25 (by decide) ?_
      refine lv_imul hx hb dX6_meetingOf_27 ?_
      refine lv_iload_n hx hb dX6_meetingOf_28 rfl (lv_at hl 4 rfl) ?_
      refine lv_iadd hx hb dX6_meetingOf_29 ?_
      refine lv_topi (fun x5_30 ex5_30 => ?_)
      have hw := hw x5_30 ex5_30
      refine lv_istore (lv' := [(5, .int x5_30), (4, .ref (ad (64 + 8 * b8))), (3, .ref (ad (64 + 8 * b2))), (0, .ref (ad 0)), (1, .int x1), (2, .int x2)]) hx hb dX6_meetingOf_30 hl (by decide) rfl (fun ls hl => ?_)
      refine lv_aload_n hx hb dX6_meetingOf_32 rfl (lv_at hl 3 rfl) ?_
      refine c_get X.1 h (cids_f (by decide)) 0 rfl (by decide) rfl inX6_meetingOf_X6 1 (by decide) (by decide +kernel) rfl rfl dX6_meetingOf_33 ?_
      refine lv_iload hx hb dX6_meetingOf_36 (lv_at hl 0 rfl) ?_
      obtain ⟨hk2, hw⟩ := hw
      refine c_aldT X.1 h hk2 dX6_meetingOf_38 ?_
      refine c_optT (fun o38 => ?_) (fun b38 o38 => ?_)
      · have hw := hw.1 o38
        refine lv_astoreN (lv' := [(6, .null), (5, .int x5_30), (4, .ref (ad (64 + 8 * b8))), (3, .ref (ad (64 + 8 * b2))), (0, .ref (ad 0)), (1, .int x1), (2, .int x2)]) hx hb dX6_meetingOf_39 hl (by decide) rfl (fun ls hl => ?_)
        refine lv_aloadN hx hb dX6_meetingOf_41 (lv_at hl 0 rfl) ?_
        refine lv_ifnonnullN hx hb dX6_meetingOf_43 ?_
        obtain ⟨hk3, hw⟩ := hw
        obtain ⟨hk4, hw⟩ := hw
        obtain ⟨hk5, hw⟩ := hw
        obtain ⟨hk6, hw⟩ := hw
        obtain ⟨hk7, hw⟩ := hw
        obtain ⟨hk8, hw⟩ := hw
        refine c_newT (t := x5_30.toNatClampNeg) X h (by rw [← hk3, ← hk4]; exact lv_sub hl [4, 3, 2, 1] rfl) hk2 rfl hk5 hk6 ⟨Nat.le_of_ble_eq_true rfl, Nat.le_of_ble_eq_true rfl⟩ (by show 1 * 0 + 1 ≤ 1; omega) (by show 9 * 0 + 9 ≤ 9; omega) (fun ad46 H locs ls hag h hl => ?_)
        have hg := hg.tr hag hk7
        refine W.widen (k := 1 * (0 + 1)) (n := 9 * (0 + 1)) (Nat.le_refl _) (Nat.le_refl _) ?_
        obtain ⟨C46, eC46⟩ : ∃ z, z = cnewT C8 x5_30.toNatClampNeg := ⟨_, rfl⟩
        rw [← eC46] at h
        have hw := hw C46 eC46
        exact kX6_meetingOf_67 X (x5_30.toNatClampNeg) hret (0 + 1) ad46 C46 _ _ ls hw hg h (lv_sub hl [0, 1] rfl)
      · have hw := hw.2 b38 o38
        refine lv_astore (lv' := [(6, .ref (ad (256 + b38))), (5, .int x5_30), (4, .ref (ad (64 + 8 * b8))), (3, .ref (ad (64 + 8 * b2))), (0, .ref (ad 0)), (1, .int x1), (2, .int x2)]) hx hb dX6_meetingOf_39 hl (by decide) rfl (fun ls hl => ?_)
        refine lv_aload hx hb dX6_meetingOf_41 (lv_at hl 0 rfl) ?_
        refine lv_ifnonnull (tgt := 67) hx hb dX6_meetingOf_43 (by decide) ?_
        exact kX6_meetingOf_67 X b38 hret 0 ad C8 _ _ ls hw hg h (lv_sub hl [4, 0] rfl)
def rmX6_best : Room := { frames := 7, cells := 1, slots := 9, locals := 179 }
theorem inX6_best_X1 : ∀ w ∈ wsX10, w ∈ wsX6_best := fun w h => List.mem_cons_of_mem _ (List.mem_append_left _ (List.mem_append_left _ (List.mem_append_left _ (List.mem_append_left _ (List.mem_append_left _ (List.mem_append_left _ (List.mem_append_right _ h)))))))
theorem inX6_best_X6 : ∀ w ∈ wsX60, w ∈ wsX6_best := fun w h => List.mem_cons_of_mem _ (List.mem_append_left _ (List.mem_append_left _ (List.mem_append_left _ (List.mem_append_left _ (List.mem_append_left _ (List.mem_append_right _ h))))))
theorem inX6_best_X0 : ∀ w ∈ wsX00, w ∈ wsX6_best := fun w h => List.mem_cons_of_mem _ (List.mem_append_left _ (List.mem_append_left _ (List.mem_append_left _ (List.mem_append_left _ (List.mem_append_right _ h)))))
theorem inX6_best_X5 : ∀ w ∈ wsX50, w ∈ wsX6_best := fun w h => List.mem_cons_of_mem _ (List.mem_append_left _ (List.mem_append_left _ (List.mem_append_left _ (List.mem_append_right _ h))))
theorem inX6_best_X3 : ∀ w ∈ wsX30, w ∈ wsX6_best := fun w h => List.mem_cons_of_mem _ (List.mem_append_left _ (List.mem_append_left _ (List.mem_append_right _ h)))
theorem inX6_best_X4 : ∀ w ∈ wsX40, w ∈ wsX6_best := fun w h => List.mem_cons_of_mem _ (List.mem_append_left _ (List.mem_append_right _ h))
theorem inX6_best_X2 : ∀ w ∈ wsX20, w ∈ wsX6_best := fun w h => List.mem_cons_of_mem _ (List.mem_append_right _ h)
set_option maxHeartbeats 4000000 in
set_option maxRecDepth 100000 in
theorem qX6_best (l : Launch) (D : va_G) (cA : Nat → ClassId) (n : Nat) (x1 : Int32) (x2 : Int32) (x3 : Int32) : cMiA l D cA yX6_best wsX6_best rmX6_best (fun ad => [.ref (ad 0), .int x1, .int x2, .int x3]) (wpX6_best n x1 x2 x3) 1 9 := by
  intro ad sz C Q hw
  unfold wpX6_best at hw
  refine c_enter (cc := cX6_best) (maxL := 5) (ret := some .int) (own := RX6) (by decide) rfl rfl (Nat.le_of_ble_eq_true rfl) ?_
  intro p e s m args below meth c hsz X hr hlocks h ls hl
  have hret := c_iretA (uc := 1) (us := 9) (MC := 1) (p := p) (l := l) (e := e) (R := (headSpec wsX6_best rmX6_best).room) (s := s) (m := m) (args := args) (below := below) (meth := meth) (c := c) (cc := cX6_best) (D := D) (cA := cA) (ad0 := ad) (A := va_A (cws cA ad C) sz) (Q := Q) X.1.1 X.1.2.1 hr hlocks X.1.2.2.2.2.2.1
  have hg := cAg.rf ad 0
  obtain ⟨⟨hx, hb, hml, hown, hts, hK, hA⟩, hN⟩ := id X
  have hl : lv_has ls 5 [(0, .ref (ad 0)), (1, .int x1), (2, .int x2), (3, .int x3)] := hl
  refine W.widen (k := 1 * 0) (n := 9 * 0) (Nat.le_refl _) (Nat.le_refl _) ?_
  refine lv_aload_n hx hb dX6_best_0 rfl (lv_at hl 0 rfl) ?_
  refine lv_iload_n hx hb dX6_best_1 rfl (lv_at hl 1 rfl) ?_
  refine lv_iload_n hx hb dX6_best_2 rfl (lv_at hl 2 rfl) ?_
  obtain ⟨hk1, hw⟩ := hw
  refine c_gotA X h (c_runV (n := 2) X h (cids_f (by decide)) 0 rfl (by decide) rfl (qX6_meetingOf l D cA n x1 x2 ad _ _ _ hw) gX6_best_X6_meetingOf hl.1 dX6_best_3 rfl rfl rfl (by decide +kernel) ⟨Nat.le_of_ble_eq_true rfl, Nat.le_of_ble_eq_true rfl⟩ rfl rfl (Nat.le_of_ble_eq_true rfl) ⟨(by show 1 * 0 + 1 ≤ 1; omega), (by show 9 * 0 + 9 ≤ 9; omega)⟩) (fun r3 ad3 C3 H locs hw hag h => ?_)
  have hl : lv_has ls 5 [(0, .ref (ad3 0)), (1, .int x1), (2, .int x2), (3, .int x3)] := by rw [hag.1]; exact lv_sub hl [0, 1, 2, 3] rfl
  have hg := hg.tr hag (Nat.zero_le _)
  refine W.widen (k := 1 * (0 + 1)) (n := 9 * (0 + 1)) (Nat.le_refl _) (Nat.le_refl _) ?_
  refine c_optT (fun o3 => ?_) (fun b3 o3 => ?_)
  · have hw := hw.1 o3
    refine lv_astoreN (lv' := [(4, .null), (0, .ref (ad3 0)), (1, .int x1), (2, .int x2), (3, .int x3)]) hx hb dX6_best_6 hl (by decide) rfl (fun ls hl => ?_)
    refine lv_aloadN hx hb dX6_best_8 (lv_at hl 0 rfl) ?_
    refine lv_ifnonnullN hx hb dX6_best_10 ?_
    refine lv_bipush (v := (-100)) hx hb dX6_best_13 (by decide) ?_
    exact hret (-100) (0 + 1) ad3 C3 _ _ _ ls hw hg h dX6_best_15
  · have hw := hw.2 b3 o3
    refine lv_astore (lv' := [(4, .ref (ad3 (256 + b3))), (0, .ref (ad3 0)), (1, .int x1), (2, .int x2), (3, .int x3)]) hx hb dX6_best_6 hl (by decide) rfl (fun ls hl => ?_)
    refine lv_aload hx hb dX6_best_8 (lv_at hl 0 rfl) ?_
    refine lv_ifnonnull (tgt := 16) hx hb dX6_best_10 (by decide) ?_
    refine lv_iload_n hx hb dX6_best_16 rfl (lv_at hl 4 rfl) ?_
    by_cases c17_0 : x3 = 0
    · have hw := hw.1 c17_0
      refine lv_tableIn (off := 31) (tgt := 48) hx hb dX6_best_17 (by rw [c17_0]; decide) (by rw [c17_0]; decide) (by rw [c17_0]; rfl) (by decide) ?_
      refine lv_aload hx hb dX6_best_48 (lv_at hl 0 rfl) ?_
      obtain ⟨hk2, hw⟩ := hw
      refine c_get X.1 h (cids_m hk2.1 hk2.2) 10 ckind_m (by decide) rfl inX6_best_X1 5 (by decide) (by decide +kernel) rfl rfl dX6_best_50 ?_
      exact hret (cI C3 (256 + b3) 5) (0 + 1) ad3 C3 _ _ _ ls hw hg h dX6_best_53
    · by_cases c17_1 : x3 = 1
      · have hw := hw.2.1 c17_1
        refine lv_tableIn (off := 37) (tgt := 54) hx hb dX6_best_17 (by rw [c17_1]; decide) (by rw [c17_1]; decide) (by rw [c17_1]; rfl) (by decide) ?_
        refine lv_aload hx hb dX6_best_54 (lv_at hl 0 rfl) ?_
        obtain ⟨hk3, hw⟩ := hw
        refine c_get X.1 h (cids_m hk3.1 hk3.2) 10 ckind_m (by decide) rfl inX6_best_X1 6 (by decide) (by decide +kernel) rfl rfl dX6_best_56 ?_
        exact hret (cI C3 (256 + b3) 6) (0 + 1) ad3 C3 _ _ _ ls hw hg h dX6_best_59
      · by_cases c17_2 : x3 = 2
        · have hw := hw.2.2.1 c17_2
          refine lv_tableIn (off := 43) (tgt := 60) hx hb dX6_best_17 (by rw [c17_2]; decide) (by rw [c17_2]; decide) (by rw [c17_2]; rfl) (by decide) ?_
          refine lv_aload hx hb dX6_best_60 (lv_at hl 0 rfl) ?_
          obtain ⟨hk4, hw⟩ := hw
          refine c_get X.1 h (cids_m hk4.1 hk4.2) 10 ckind_m (by decide) rfl inX6_best_X1 7 (by decide) (by decide +kernel) rfl rfl dX6_best_62 ?_
          exact hret (cI C3 (256 + b3) 7) (0 + 1) ad3 C3 _ _ _ ls hw hg h dX6_best_65
        · by_cases c17_3 : x3 = 3
          · have hw := hw.2.2.2.1 c17_3
            refine lv_tableIn (off := 49) (tgt := 66) hx hb dX6_best_17 (by rw [c17_3]; decide) (by rw [c17_3]; decide) (by rw [c17_3]; rfl) (by decide) ?_
            refine lv_aload hx hb dX6_best_66 (lv_at hl 0 rfl) ?_
            obtain ⟨hk5, hw⟩ := hw
            refine c_get X.1 h (cids_m hk5.1 hk5.2) 10 ckind_m (by decide) rfl inX6_best_X1 8 (by decide) (by decide +kernel) rfl rfl dX6_best_68 ?_
            exact hret (cI C3 (256 + b3) 8) (0 + 1) ad3 C3 _ _ _ ls hw hg h dX6_best_71
          · have hw := hw.2.2.2.2 ⟨c17_0, c17_1, c17_2, c17_3⟩
            refine lv_tableOut (tgt := 72) hx hb dX6_best_17 (tsw_out3 c17_0 c17_1 c17_2 c17_3) (by decide) ?_
            refine lv_bipush (v := (-100)) hx hb dX6_best_72 (by decide) ?_
            exact hret (-100) (0 + 1) ad3 C3 _ _ _ ls hw hg h dX6_best_74
def rmX6_join : Room := { frames := 7, cells := 1, slots := 9, locals := 179 }
theorem inX6_join_X6 : ∀ w ∈ wsX60, w ∈ wsX6_join := fun w h => List.mem_cons_of_mem _ (List.mem_append_left _ (List.mem_append_left _ (List.mem_append_left _ (List.mem_append_left _ (List.mem_append_left _ (List.mem_append_left _ (List.mem_append_right _ h)))))))
theorem inX6_join_X1 : ∀ w ∈ wsX10, w ∈ wsX6_join := fun w h => List.mem_cons_of_mem _ (List.mem_append_left _ (List.mem_append_left _ (List.mem_append_left _ (List.mem_append_left _ (List.mem_append_left _ (List.mem_append_right _ h))))))
theorem inX6_join_X0 : ∀ w ∈ wsX00, w ∈ wsX6_join := fun w h => List.mem_cons_of_mem _ (List.mem_append_left _ (List.mem_append_left _ (List.mem_append_left _ (List.mem_append_left _ (List.mem_append_right _ h)))))
theorem inX6_join_X5 : ∀ w ∈ wsX50, w ∈ wsX6_join := fun w h => List.mem_cons_of_mem _ (List.mem_append_left _ (List.mem_append_left _ (List.mem_append_left _ (List.mem_append_right _ h))))
theorem inX6_join_X3 : ∀ w ∈ wsX30, w ∈ wsX6_join := fun w h => List.mem_cons_of_mem _ (List.mem_append_left _ (List.mem_append_left _ (List.mem_append_right _ h)))
theorem inX6_join_X4 : ∀ w ∈ wsX40, w ∈ wsX6_join := fun w h => List.mem_cons_of_mem _ (List.mem_append_left _ (List.mem_append_right _ h))
theorem inX6_join_X2 : ∀ w ∈ wsX20, w ∈ wsX6_join := fun w h => List.mem_cons_of_mem _ (List.mem_append_right _ h)
set_option maxHeartbeats 4000000 in
set_option maxRecDepth 100000 in
theorem qX6_join (l : Launch) (D : va_G) (cA : Nat → ClassId) (n : Nat) (x1 : Int32) (x2 : Int32) : cMiA l D cA yX6_join wsX6_join rmX6_join (fun ad => [.ref (ad 0), .int x1, .int x2]) (wpX6_join n x1 x2) 1 9 := by
  intro ad sz C Q hw
  unfold wpX6_join at hw
  refine c_enter (cc := cX6_join) (maxL := 4) (ret := some .int) (own := RX6) (by decide) rfl rfl (Nat.le_of_ble_eq_true rfl) ?_
  intro p e s m args below meth c hsz X hr hlocks h ls hl
  have hret := c_iretA (uc := 1) (us := 9) (MC := 1) (p := p) (l := l) (e := e) (R := (headSpec wsX6_join rmX6_join).room) (s := s) (m := m) (args := args) (below := below) (meth := meth) (c := c) (cc := cX6_join) (D := D) (cA := cA) (ad0 := ad) (A := va_A (cws cA ad C) sz) (Q := Q) X.1.1 X.1.2.1 hr hlocks X.1.2.2.2.2.2.1
  have hg := cAg.rf ad 0
  obtain ⟨⟨hx, hb, hml, hown, hts, hK, hA⟩, hN⟩ := id X
  have hl : lv_has ls 4 [(0, .ref (ad 0)), (1, .int x1), (2, .int x2)] := hl
  refine W.widen (k := 1 * 0) (n := 9 * 0) (Nat.le_refl _) (Nat.le_refl _) ?_
  refine lv_iload_n hx hb dX6_join_0 rfl (lv_at hl 1 rfl) ?_
  refine lv_iload_n hx hb dX6_join_1 rfl (lv_at hl 2 rfl) ?_
  refine lv_icmp_ne (tgt := 11) hx hb dX6_join_2 (by decide) (fun c2 => ?_) (fun c2 => ?_)
  · have hw := hw.1 c2
    refine lv_aload_n hx hb dX6_join_11 rfl (lv_at hl 0 rfl) ?_
    refine lv_iload_n hx hb dX6_join_12 rfl (lv_at hl 1 rfl) ?_
    refine lv_iload_n hx hb dX6_join_13 rfl (lv_at hl 2 rfl) ?_
    obtain ⟨hk1, hw⟩ := hw
    refine c_gotA X h (c_runV (n := 2) X h (cids_f (by decide)) 0 rfl (by decide) rfl (qX6_meetingOf l D cA n x1 x2 ad _ _ _ hw) gX6_join_X6_meetingOf hl.1 dX6_join_14 rfl rfl rfl (by decide +kernel) ⟨Nat.le_of_ble_eq_true rfl, Nat.le_of_ble_eq_true rfl⟩ rfl rfl (Nat.le_of_ble_eq_true rfl) ⟨(by show 1 * 0 + 1 ≤ 1; omega), (by show 9 * 0 + 9 ≤ 9; omega)⟩) (fun r14 ad14 C14 H locs hw hag h => ?_)
    have hl : lv_has ls 4 [(0, .ref (ad14 0)), (1, .int x1), (2, .int x2)] := by rw [hag.1]; exact lv_sub hl [0, 1, 2] rfl
    have hg := hg.tr hag (Nat.zero_le _)
    refine W.widen (k := 1 * (0 + 1)) (n := 9 * (0 + 1)) (Nat.le_refl _) (Nat.le_refl _) ?_
    refine c_optT (fun o14 => ?_) (fun b14 o14 => ?_)
    · have hw := hw.1 o14
      refine lv_astore_nN (lv' := [(3, .null), (0, .ref (ad14 0)), (1, .int x1), (2, .int x2)]) hx hb dX6_join_17 rfl hl (by decide) rfl (fun ls hl => ?_)
      refine lv_aload_nN hx hb dX6_join_18 rfl (lv_at hl 0 rfl) ?_
      refine lv_ifnonnullN hx hb dX6_join_19 ?_
      refine lv_aload_n hx hb dX6_join_22 rfl (lv_at hl 1 rfl) ?_
      refine lv_bipush (v := (-2)) hx hb dX6_join_23 (by decide) ?_
      obtain ⟨hk2, hw⟩ := hw
      refine c_goi X h (c_runV (n := 1) X h (cids_f (by decide)) 0 rfl (by decide) rfl (qX6_refuse l D cA n (-2) ad14 _ _ _ hw) gX6_join_X6_refuse hl.1 dX6_join_25 rfl rfl rfl (by decide +kernel) ⟨Nat.le_of_ble_eq_true rfl, Nat.le_of_ble_eq_true rfl⟩ rfl rfl (Nat.le_of_ble_eq_true rfl) ⟨(by show 1 * (0 + 1) + 0 ≤ 1; omega), (by show 9 * (0 + 1) + 0 ≤ 9; omega)⟩) (fun r25 C25 H locs hw h => ?_)
      exact hret r25 (0 + 1) ad14 C25 _ _ _ ls hw hg h dX6_join_28
    · have hw := hw.2 b14 o14
      refine lv_astore_n (lv' := [(3, .ref (ad14 (256 + b14))), (0, .ref (ad14 0)), (1, .int x1), (2, .int x2)]) hx hb dX6_join_17 rfl hl (by decide) rfl (fun ls hl => ?_)
      refine lv_aload_n hx hb dX6_join_18 rfl (lv_at hl 0 rfl) ?_
      refine lv_ifnonnull (tgt := 29) hx hb dX6_join_19 (by decide) ?_
      refine lv_aload_n hx hb dX6_join_29 rfl (lv_at hl 1 rfl) ?_
      refine lv_iconst (v := 0) hx hb dX6_join_30 (by decide) ?_
      refine c_put X.1 h (cids_f (by decide)) 0 rfl (by decide) rfl inX6_join_X6 tyX6 tyX6_ok nmX6 7 (by decide) (by decide +kernel) rfl rfl rfl rfl (Nat.le_of_ble_eq_true rfl) (fun _ _ => rfl) dX6_join_31 (fun C31 eC31 H locs h => ?_)
      have hw := hw C31 eC31
      refine lv_aload_n hx hb dX6_join_34 rfl (lv_at hl 0 rfl) ?_
      obtain ⟨hk3, hw⟩ := hw
      obtain ⟨hk4, hw⟩ := hw
      refine c_goi X h (c_runV (n := 0) X h (cids_m hk4.1 hk4.2) 10 ckind_m (by decide) rfl (qX1_bringTogether l D cA n b14 ad14 _ _ _ hw) gX6_join_X1_bringTogether hl.1 dX6_join_35 rfl rfl rfl (by decide +kernel) ⟨Nat.le_of_ble_eq_true rfl, Nat.le_of_ble_eq_true rfl⟩ rfl rfl (Nat.le_of_ble_eq_true rfl) ⟨(by show 1 * (0 + 1) + 0 ≤ 1; omega), (by show 9 * (0 + 1) + 0 ≤ 9; omega)⟩) (fun r35 C35 H locs hw h => ?_)
      exact hret r35 (0 + 1) ad14 C35 _ _ _ ls hw hg h dX6_join_38
  · have hw := hw.2 c2
    refine lv_aload_n hx hb dX6_join_5 rfl (lv_at hl 0 rfl) ?_
    refine lv_iconst (v := (-1)) hx hb dX6_join_6 (by decide) ?_
    obtain ⟨hk5, hw⟩ := hw
    refine c_goi X h (c_runV (n := 1) X h (cids_f (by decide)) 0 rfl (by decide) rfl (qX6_refuse l D cA n (-1) ad _ _ _ hw) gX6_join_X6_refuse hl.1 dX6_join_7 rfl rfl rfl (by decide +kernel) ⟨Nat.le_of_ble_eq_true rfl, Nat.le_of_ble_eq_true rfl⟩ rfl rfl (Nat.le_of_ble_eq_true rfl) ⟨(by show 1 * 0 + 0 ≤ 1; omega), (by show 9 * 0 + 0 ≤ 9; omega)⟩) (fun r7 C7 H locs hw h => ?_)
    exact hret r7 0 ad C7 _ _ _ ls hw hg h dX6_join_10
def rmX6_seek : Room := { frames := 7, cells := 16, slots := 144, locals := 179 }
theorem inX6_seek_X6 : ∀ w ∈ wsX60, w ∈ wsX6_seek := fun w h => List.mem_cons_of_mem _ (List.mem_append_left _ (List.mem_append_left _ (List.mem_append_left _ (List.mem_append_left _ (List.mem_append_left _ (List.mem_append_left _ (List.mem_append_right _ h)))))))
theorem inX6_seek_X1 : ∀ w ∈ wsX10, w ∈ wsX6_seek := fun w h => List.mem_cons_of_mem _ (List.mem_append_left _ (List.mem_append_left _ (List.mem_append_left _ (List.mem_append_left _ (List.mem_append_left _ (List.mem_append_right _ h))))))
theorem inX6_seek_X0 : ∀ w ∈ wsX00, w ∈ wsX6_seek := fun w h => List.mem_cons_of_mem _ (List.mem_append_left _ (List.mem_append_left _ (List.mem_append_left _ (List.mem_append_left _ (List.mem_append_right _ h)))))
theorem inX6_seek_X5 : ∀ w ∈ wsX50, w ∈ wsX6_seek := fun w h => List.mem_cons_of_mem _ (List.mem_append_left _ (List.mem_append_left _ (List.mem_append_left _ (List.mem_append_right _ h))))
theorem inX6_seek_X3 : ∀ w ∈ wsX30, w ∈ wsX6_seek := fun w h => List.mem_cons_of_mem _ (List.mem_append_left _ (List.mem_append_left _ (List.mem_append_right _ h)))
theorem inX6_seek_X4 : ∀ w ∈ wsX40, w ∈ wsX6_seek := fun w h => List.mem_cons_of_mem _ (List.mem_append_left _ (List.mem_append_right _ h))
theorem inX6_seek_X2 : ∀ w ∈ wsX20, w ∈ wsX6_seek := fun w h => List.mem_cons_of_mem _ (List.mem_append_right _ h)
set_option maxHeartbeats 4000000 in
set_option maxRecDepth 100000 in
theorem kX6_seek_88 {n : Nat} {E95 : Int32 → Int32 → Int32 → Nat → cM → Prop} {R : Int32 → Int32 → Int32 → Int32 → Int32 → Nat → cM → Prop} (X : cX p s m args meth c D cA A cX6_seek 11 wsX6_seek RX6) (x1 : Int32) (x2 : Int32) (x3 : Nat) (x4 : Int32) (x5 : Int32) (x6 : Int32) (x7 : Int32) (x8 : Int32) (x9 : Int32)
    (hE95 : ∀ (y4 : Int32) (y5 : Int32) (y6 : Int32) (gc : Nat) (ad : Nat → Nat) (C : cM) (H : Heap) (locs : List Loc) (ls : Array Slot), E95 y4 y5 y6 gc C → cAg ad0 0 ad → cH D cA ad A s.heap C H locs → lv_has ls 11 [(2, .int x2), (4, .int y4), (5, .int y5), (6, .int y6)] → W p l e (headSpec wsX6_seek rmX6_seek).room s m args below meth c H locs (1 * gc) (9 * gc) Z (F0 m 95 ls []))
    (hR : ∀ (y4 : Int32) (y5 : Int32) (y6 : Int32) (y7 : Int32) (y8 : Int32) (gc : Nat) (ad : Nat → Nat) (C : cM) (H : Heap) (locs : List Loc) (ls : Array Slot), R y4 y5 y6 y7 y8 gc C → cAg ad0 0 ad → cH D cA ad A s.heap C H locs → lv_has ls 11 [(0, .ref (ad 0)), (1, .int x1), (2, .int x2), (3, .ref (ad (64 + 8 * x3))), (4, .int y4), (5, .int y5), (6, .int y6), (7, .int y7), (8, .int y8)] → W p l e (headSpec wsX6_seek rmX6_seek).room s m args below meth c H locs (1 * gc) (9 * gc) Z (F0 m 40 ls [])) :
    ∀ (s0 : Option Nat) (gc : Nat) (ad : Nat → Nat) (C : cM) (H : Heap) (locs : List Loc) (ls : Array Slot), wpX6_seek_88 n E95 R x1 x2 x3 x4 x5 x6 x7 x8 x9 s0 gc C → cAg ad0 0 ad → cH D cA ad A s.heap C H locs → lv_has ls 11 [(0, .ref (ad 0)), (1, .int x1), (2, .int x2), (3, .ref (ad (64 + 8 * x3))), (4, .int x4), (5, .int x5), (6, .int x6), (7, .int x7), (8, .int x8), (9, .int x9)] → W p l e (headSpec wsX6_seek rmX6_seek).room s m args below meth c H locs (1 * gc) (9 * gc) Z (F0 m 88 ls [tRef ad s0]) := by
  intro s0 gc ad C H locs ls hw hg h hl
  unfold wpX6_seek_88 at hw
  obtain ⟨⟨hx, hb, hml, hown, hts, hK, hA⟩, hN⟩ := id X
  refine c_optT (fun o88 => ?_) (fun b88 o88 => ?_)
  · have hw := hw.1 o88
    refine lv_astoreN (lv' := [(10, .null), (0, .ref (ad 0)), (1, .int x1), (2, .int x2), (3, .ref (ad (64 + 8 * x3))), (4, .int x4), (5, .int x5), (6, .int x6), (7, .int x7), (8, .int x8), (9, .int x9)]) hx hb dX6_seek_88 hl (by decide) rfl (fun ls hl => ?_)
    refine lv_aloadN hx hb dX6_seek_90 (lv_at hl 0 rfl) ?_
    refine lv_ifnonnullN hx hb dX6_seek_92 ?_
    exact hE95 x4 x5 x6 gc ad C _ _ ls hw hg h (lv_sub hl [3, 5, 6, 7] rfl)
  · have hw := hw.2 b88 o88
    refine lv_astore (lv' := [(10, .ref (ad (256 + b88))), (0, .ref (ad 0)), (1, .int x1), (2, .int x2), (3, .ref (ad (64 + 8 * x3))), (4, .int x4), (5, .int x5), (6, .int x6), (7, .int x7), (8, .int x8), (9, .int x9)]) hx hb dX6_seek_88 hl (by decide) rfl (fun ls hl => ?_)
    refine lv_aload hx hb dX6_seek_90 (lv_at hl 0 rfl) ?_
    refine lv_ifnonnull (tgt := 98) hx hb dX6_seek_92 (by decide) ?_
    obtain ⟨x6_98, ex6_98⟩ : ∃ z : Int32, z = x6 + 1 := ⟨_, rfl⟩
    have hw := hw x6_98 ex6_98
    refine lv_iinc (v := x6_98) (lv' := [(6, .int x6_98), (10, .ref (ad (256 + b88))), (0, .ref (ad 0)), (1, .int x1), (2, .int x2), (3, .ref (ad (64 + 8 * x3))), (4, .int x4), (5, .int x5), (7, .int x7), (8, .int x8), (9, .int x9)]) hx hb dX6_seek_98 hl (k := 7) rfl (by rw [ex6_98]; rfl) (by decide) rfl (fun ls hl => ?_)
    refine lv_iload hx hb dX6_seek_101 (lv_at hl 8 rfl) ?_
    refine lv_iconst (v := 1) hx hb dX6_seek_103 (by decide) ?_
    refine lv_iload hx hb dX6_seek_104 (lv_at hl 10 rfl) ?_
    refine lv_ishl hx hb dX6_seek_106 ?_
    refine lv_iconst (v := (-1)) hx hb dX6_seek_107 (by decide) ?_
    refine lv_ixor hx hb dX6_seek_108 ?_
    refine lv_iand hx hb dX6_seek_109 ?_
    refine lv_topi (fun x7_110 ex7_110 => ?_)
    have hw := hw x7_110 ex7_110
    refine lv_istore (lv' := [(7, .int x7_110), (6, .int x6_98), (10, .ref (ad (256 + b88))), (0, .ref (ad 0)), (1, .int x1), (2, .int x2), (3, .ref (ad (64 + 8 * x3))), (4, .int x4), (5, .int x5), (8, .int x8), (9, .int x9)]) hx hb dX6_seek_110 hl (by decide) rfl (fun ls hl => ?_)
    refine lv_aload hx hb dX6_seek_112 (lv_at hl 2 rfl) ?_
    obtain ⟨hk3, hw⟩ := hw
    refine c_get X.1 h (cids_m hk3.1 hk3.2) 10 ckind_m (by decide) rfl inX6_seek_X1 5 (by decide) (by decide +kernel) rfl rfl dX6_seek_114 ?_
    refine lv_iload hx hb dX6_seek_117 (lv_at hl 10 rfl) ?_
    refine lv_iload hx hb dX6_seek_119 (lv_at hl 8 rfl) ?_
    refine lv_iload hx hb dX6_seek_121 (lv_at hl 7 rfl) ?_
    obtain ⟨hk4, hw⟩ := hw
    refine c_goi X h (c_runS (n := 4) X h (qX6_isAhead l D cA n (cI C (256 + b88) 5) x9 x5 x4 ad _ _ _ hw) gX6_seek_X6_isAhead hl.1 dX6_seek_123 rfl rfl rfl (by decide +kernel) ⟨Nat.le_of_ble_eq_true rfl, Nat.le_of_ble_eq_true rfl⟩ rfl rfl (Nat.le_of_ble_eq_true rfl) ⟨(by show 1 * gc + 0 ≤ 16; omega), (by show 9 * gc + 0 ≤ 144; omega)⟩) (fun r123 C123 H locs hw h => ?_)
    refine lv_if_eq (tgt := 140) hx hb dX6_seek_126 (by decide) (fun c126 => ?_) (fun c126 => ?_)
    · have hw := hw.1 c126
      obtain ⟨x8_140, ex8_140⟩ : ∃ z : Int32, z = x8 + 1 := ⟨_, rfl⟩
      have hw := hw x8_140 ex8_140
      refine lv_iinc (v := x8_140) (lv' := [(8, .int x8_140), (7, .int x7_110), (6, .int x6_98), (10, .ref (ad (256 + b88))), (0, .ref (ad 0)), (1, .int x1), (2, .int x2), (3, .ref (ad (64 + 8 * x3))), (4, .int x4), (5, .int x5), (9, .int x9)]) hx hb dX6_seek_140 hl (k := 9) rfl (by rw [ex8_140]; rfl) (by decide) rfl (fun ls hl => ?_)
      refine lv_goto (tgt := 40) hx hb dX6_seek_143 (by decide) ?_
      exact hR x4 x5 x6_98 x7_110 x8_140 gc ad C123 _ _ ls hw hg h (lv_sub hl [4, 5, 6, 7, 8, 9, 2, 1, 0] rfl)
    · have hw := hw.2 c126
      refine lv_iload hx hb dX6_seek_129 (lv_at hl 10 rfl) ?_
      refine lv_istore (lv' := [(4, .int x9), (7, .int x7_110), (6, .int x6_98), (10, .ref (ad (256 + b88))), (0, .ref (ad 0)), (1, .int x1), (2, .int x2), (3, .ref (ad (64 + 8 * x3))), (5, .int x5), (8, .int x8), (9, .int x9)]) hx hb dX6_seek_131 hl (by decide) rfl (fun ls hl => ?_)
      refine lv_aload hx hb dX6_seek_133 (lv_at hl 3 rfl) ?_
      obtain ⟨hk5, hw⟩ := hw
      refine c_get X.1 h (cids_m hk5.1 hk5.2) 10 ckind_m (by decide) rfl inX6_seek_X1 5 (by decide) (by decide +kernel) rfl rfl dX6_seek_135 ?_
      refine lv_topi (fun x5_138 ex5_138 => ?_)
      have hw := hw x5_138 ex5_138
      refine lv_istore (lv' := [(5, .int x5_138), (4, .int x9), (7, .int x7_110), (6, .int x6_98), (10, .ref (ad (256 + b88))), (0, .ref (ad 0)), (1, .int x1), (2, .int x2), (3, .ref (ad (64 + 8 * x3))), (8, .int x8), (9, .int x9)]) hx hb dX6_seek_138 hl (by decide) rfl (fun ls hl => ?_)
      obtain ⟨x8_140, ex8_140⟩ : ∃ z : Int32, z = x8 + 1 := ⟨_, rfl⟩
      have hw := hw x8_140 ex8_140
      refine lv_iinc (v := x8_140) (lv' := [(8, .int x8_140), (5, .int x5_138), (4, .int x9), (7, .int x7_110), (6, .int x6_98), (10, .ref (ad (256 + b88))), (0, .ref (ad 0)), (1, .int x1), (2, .int x2), (3, .ref (ad (64 + 8 * x3))), (9, .int x9)]) hx hb dX6_seek_140 hl (k := 9) rfl (by rw [ex8_140]; rfl) (by decide) rfl (fun ls hl => ?_)
      refine lv_goto (tgt := 40) hx hb dX6_seek_143 (by decide) ?_
      exact hR x9 x5_138 x6_98 x7_110 x8_140 gc ad C123 _ _ ls hw hg h (lv_sub hl [6, 7, 8, 9, 2, 1, 4, 3, 0] rfl)
set_option maxHeartbeats 4000000 in
set_option maxRecDepth 100000 in
theorem kX6_seek_40 {n : Nat} {E95 : Int32 → Int32 → Int32 → Nat → cM → Prop} {E146 : Int32 → Int32 → Int32 → Nat → cM → Prop} (X : cX p s m args meth c D cA A cX6_seek 11 wsX6_seek RX6) (x1 : Int32) (x2 : Int32) (x3 : Nat)
    (hE95 : ∀ (y4 : Int32) (y5 : Int32) (y6 : Int32) (gc : Nat) (ad : Nat → Nat) (C : cM) (H : Heap) (locs : List Loc) (ls : Array Slot), E95 y4 y5 y6 gc C → cAg ad0 0 ad → cH D cA ad A s.heap C H locs → lv_has ls 11 [(2, .int x2), (4, .int y4), (5, .int y5), (6, .int y6)] → W p l e (headSpec wsX6_seek rmX6_seek).room s m args below meth c H locs (1 * gc) (9 * gc) Z (F0 m 95 ls []))
    (hE146 : ∀ (y4 : Int32) (y5 : Int32) (y6 : Int32) (gc : Nat) (ad : Nat → Nat) (C : cM) (H : Heap) (locs : List Loc) (ls : Array Slot), E146 y4 y5 y6 gc C → cAg ad0 0 ad → cH D cA ad A s.heap C H locs → lv_has ls 11 [(2, .int x2), (4, .int y4), (5, .int y5), (6, .int y6)] → W p l e (headSpec wsX6_seek rmX6_seek).room s m args below meth c H locs (1 * gc) (9 * gc) Z (F0 m 146 ls [])) :
    ∀ (k : Nat) (x4 : Int32) (x5 : Int32) (x6 : Int32) (x7 : Int32) (x8 : Int32) (gc : Nat) (ad : Nat → Nat) (C : cM) (H : Heap) (locs : List Loc) (ls : Array Slot), wpX6_seek_40 n E95 E146 x1 x2 x3 k x4 x5 x6 x7 x8 gc C → cAg ad0 0 ad → cH D cA ad A s.heap C H locs → lv_has ls 11 [(0, .ref (ad 0)), (1, .int x1), (2, .int x2), (3, .ref (ad (64 + 8 * x3))), (4, .int x4), (5, .int x5), (6, .int x6), (7, .int x7), (8, .int x8)] → W p l e (headSpec wsX6_seek rmX6_seek).room s m args below meth c H locs (1 * gc) (9 * gc) Z (F0 m 40 ls []) := by
  intro k
  induction k with
  | zero => intro x4 x5 x6 x7 x8 gc ad C H locs ls hw; exact hw.elim
  | succ k ih =>
    intro x4 x5 x6 x7 x8 gc ad C H locs ls hw hg h hl
    rw [wpX6_seek_40] at hw
    obtain ⟨⟨hx, hb, hml, hown, hts, hK, hA⟩, hN⟩ := id X
    refine lv_iload hx hb dX6_seek_40 (lv_at hl 8 rfl) ?_
    refine lv_aload_n hx hb dX6_seek_42 rfl (lv_at hl 0 rfl) ?_
    refine c_get X.1 h (cids_f (by decide)) 0 rfl (by decide) rfl inX6_seek_X6 5 (by decide) (by decide +kernel) rfl rfl dX6_seek_43 ?_
    refine lv_icmp_ge (tgt := 146) hx hb dX6_seek_46 (by decide) (fun c46 => ?_) (fun c46 => ?_)
    · have hw := hw.1 c46
      exact hE146 x4 x5 x6 gc ad C _ _ ls hw hg h (lv_sub hl [2, 4, 5, 6] rfl)
    · have hw := hw.2 c46
      refine lv_aload_n hx hb dX6_seek_49 rfl (lv_at hl 0 rfl) ?_
      refine lv_aload_n hx hb dX6_seek_50 rfl (lv_at hl 3 rfl) ?_
      refine lv_iload hx hb dX6_seek_51 (lv_at hl 7 rfl) ?_
      obtain ⟨hk2, hw⟩ := hw
      refine c_goi X h (c_runV (n := 2) X h (cids_f (by decide)) 0 rfl (by decide) rfl (qX6_nextToLookAt l D cA n x3 x7 ad _ _ _ hw) gX6_seek_X6_nextToLookAt hl.1 dX6_seek_53 rfl rfl rfl (by decide +kernel) ⟨Nat.le_of_ble_eq_true rfl, Nat.le_of_ble_eq_true rfl⟩ rfl rfl (Nat.le_of_ble_eq_true rfl) ⟨(by show 1 * gc + 0 ≤ 16; omega), (by show 9 * gc + 0 ≤ 144; omega)⟩) (fun r53 C53 H locs hw h => ?_)
      refine lv_istore (lv' := [(9, .int r53), (0, .ref (ad 0)), (1, .int x1), (2, .int x2), (3, .ref (ad (64 + 8 * x3))), (4, .int x4), (5, .int x5), (6, .int x6), (7, .int x7), (8, .int x8)]) hx hb dX6_seek_56 hl (by decide) rfl (fun ls hl => ?_)
      refine lv_aload_n hx hb dX6_seek_58 rfl (lv_at hl 1 rfl) ?_
      refine lv_iload_n hx hb dX6_seek_59 rfl (lv_at hl 2 rfl) ?_
      refine lv_iload hx hb dX6_seek_60 (lv_at hl 0 rfl) ?_
      refine c_goi X h (c_runV (n := 2) X h (cids_f (by decide)) 0 rfl (by decide) rfl (qX6_bound l D cA n x1 r53 ad _ _ _ hw) gX6_seek_X6_bound hl.1 dX6_seek_62 rfl rfl rfl (by decide +kernel) ⟨Nat.le_of_ble_eq_true rfl, Nat.le_of_ble_eq_true rfl⟩ rfl rfl (Nat.le_of_ble_eq_true rfl) ⟨(by show 1 * gc + 0 ≤ 16; omega), (by show 9 * gc + 0 ≤ 144; omega)⟩) (fun r62 C62 H locs hw h => ?_)
      refine lv_iload hx hb dX6_seek_65 (lv_at hl 0 rfl) ?_
      refine lv_iload hx hb dX6_seek_67 (lv_at hl 6 rfl) ?_
      refine lv_iload hx hb dX6_seek_69 (lv_at hl 5 rfl) ?_
      refine c_goi X h (c_runS (n := 4) X h (qX6_isAhead l D cA n r62 r53 x5 x4 ad _ _ _ hw) gX6_seek_X6_isAhead hl.1 dX6_seek_71 rfl rfl rfl (by decide +kernel) ⟨Nat.le_of_ble_eq_true rfl, Nat.le_of_ble_eq_true rfl⟩ rfl rfl (Nat.le_of_ble_eq_true rfl) ⟨(by show 1 * gc + 0 ≤ 16; omega), (by show 9 * gc + 0 ≤ 144; omega)⟩) (fun r71 C71 H locs hw h => ?_)
      refine lv_if_eq (tgt := 87) hx hb dX6_seek_74 (by decide) (fun c74 => ?_) (fun c74 => ?_)
      · have hw := hw.1 c74
        refine lv_null hx hb dX6_seek_87 ?_
        exact kX6_seek_88 X x1 x2 x3 x4 x5 x6 x7 x8 r53 hE95 ih none gc ad C71 _ _ ls hw hg h (lv_sub hl [1, 2, 3, 4, 5, 6, 7, 8, 9, 0] rfl)
      · have hw := hw.2 c74
        refine lv_aload_n hx hb dX6_seek_77 rfl (lv_at hl 1 rfl) ?_
        refine lv_iload_n hx hb dX6_seek_78 rfl (lv_at hl 2 rfl) ?_
        refine lv_iload hx hb dX6_seek_79 (lv_at hl 0 rfl) ?_
        obtain ⟨hk6, hw⟩ := hw
        obtain ⟨hk7, hw⟩ := hw
        refine c_gotA X h (c_runV (n := 2) X h (cids_f (by decide)) 0 rfl (by decide) rfl (qX6_meetingOf l D cA n x1 r53 ad _ _ _ hw) gX6_seek_X6_meetingOf hl.1 dX6_seek_81 rfl rfl rfl (by decide +kernel) ⟨Nat.le_of_ble_eq_true rfl, Nat.le_of_ble_eq_true rfl⟩ rfl rfl (Nat.le_of_ble_eq_true rfl) ⟨(by show 1 * gc + 1 ≤ 16; omega), (by show 9 * gc + 9 ≤ 144; omega)⟩) (fun r81 ad81 C81 H locs hw hag h => ?_)
        have hl : lv_has ls 11 [(9, .int r53), (0, .ref (ad81 0)), (1, .int x1), (2, .int x2), (3, .ref (ad81 (64 + 8 * x3))), (4, .int x4), (5, .int x5), (6, .int x6), (7, .int x7), (8, .int x8)] := by rw [hag.1, hag.2 x3 hk6.1]; exact lv_sub hl [0, 1, 2, 3, 4, 5, 6, 7, 8, 9] rfl
        have hg := hg.tr hag (Nat.zero_le _)
        refine W.widen (k := 1 * (gc + 1)) (n := 9 * (gc + 1)) (Nat.le_refl _) (Nat.le_refl _) ?_
        refine c_optT (fun o81 => ?_) (fun b81 o81 => ?_)
        · have hw := hw.1 o81
          refine lv_goto (tgt := 88) hx hb dX6_seek_84 (by decide) ?_
          exact kX6_seek_88 X x1 x2 x3 x4 x5 x6 x7 x8 r53 hE95 ih none (gc + 1) ad81 C81 _ _ ls hw hg h (lv_sub hl [1, 2, 3, 4, 5, 6, 7, 8, 9, 0] rfl)
        · have hw := hw.2 b81 o81
          refine lv_goto (tgt := 88) hx hb dX6_seek_84 (by decide) ?_
          exact kX6_seek_88 X x1 x2 x3 x4 x5 x6 x7 x8 r53 hE95 ih (some b81) (gc + 1) ad81 C81 _ _ ls hw hg h (lv_sub hl [1, 2, 3, 4, 5, 6, 7, 8, 9, 0] rfl)
set_option maxHeartbeats 4000000 in
set_option maxRecDepth 100000 in
theorem kX6_seek_146 {n : Nat} {Q : Int32 → cM → Prop} (X : cX p s m args meth c D cA A cX6_seek 11 wsX6_seek RX6) (x2 : Int32) (x4 : Int32) (x5 : Int32) (x6 : Int32)
    (hret : ∀ (r : Int32) (gc : Nat) (ad : Nat → Nat) (C : cM) (H : Heap) (locs : List Loc) (pc : Nat) (ls : Array Slot), gc ≤ 16 ∧ Q r C → cAg ad0 0 ad → cH D cA ad A s.heap C H locs → decode cX6_seek pc = .ok (.ireturn, 1) → W p l e (headSpec wsX6_seek rmX6_seek).room s m args below meth c H locs (1 * gc) (9 * gc) Z (F0 m pc ls [.int r])) :
    ∀ (gc : Nat) (ad : Nat → Nat) (C : cM) (H : Heap) (locs : List Loc) (ls : Array Slot), wpX6_seek_146 n Q x2 x4 x5 x6 gc C → cAg ad0 0 ad → cH D cA ad A s.heap C H locs → lv_has ls 11 [(2, .int x2), (4, .int x4), (5, .int x5), (6, .int x6)] → W p l e (headSpec wsX6_seek rmX6_seek).room s m args below meth c H locs (1 * gc) (9 * gc) Z (F0 m 146 ls []) := by
  intro gc ad C H locs ls hw hg h hl
  unfold wpX6_seek_146 at hw
  obtain ⟨⟨hx, hb, hml, hown, hts, hK, hA⟩, hN⟩ := id X
  refine lv_iload_n hx hb dX6_seek_146 rfl (lv_at hl 0 rfl) ?_
  refine lv_if_ne (tgt := 155) hx hb dX6_seek_147 (by decide) (fun c147 => ?_) (fun c147 => ?_)
  · have hw := hw.1 c147
    refine lv_iload_n hx hb dX6_seek_155 rfl (lv_at hl 0 rfl) ?_
    refine lv_iconst (v := 1) hx hb dX6_seek_156 (by decide) ?_
    refine lv_icmp_ne (tgt := 165) hx hb dX6_seek_157 (by decide) (fun c157 => ?_) (fun c157 => ?_)
    · have hw := hw.1 c157
      refine lv_iload hx hb dX6_seek_165 (lv_at hl 3 rfl) ?_
      exact hret x6 gc ad C _ _ _ ls hw hg h dX6_seek_167
    · have hw := hw.2 c157
      refine lv_iload hx hb dX6_seek_160 (lv_at hl 2 rfl) ?_
      refine lv_goto (tgt := 167) hx hb dX6_seek_162 (by decide) ?_
      exact hret x5 gc ad C _ _ _ ls hw hg h dX6_seek_167
  · have hw := hw.2 c147
    refine lv_iload hx hb dX6_seek_150 (lv_at hl 1 rfl) ?_
    refine lv_goto (tgt := 167) hx hb dX6_seek_152 (by decide) ?_
    exact hret x4 gc ad C _ _ _ ls hw hg h dX6_seek_167
set_option maxHeartbeats 4000000 in
set_option maxRecDepth 100000 in
theorem qX6_seek (l : Launch) (D : va_G) (cA : Nat → ClassId) (n : Nat) (x1 : Int32) (x2 : Int32) : cMiA l D cA yX6_seek wsX6_seek rmX6_seek (fun ad => [.ref (ad 0), .int x1, .int x2]) (wpX6_seek n x1 x2) 16 144 := by
  intro ad sz C Q hw
  unfold wpX6_seek at hw
  refine c_enter (cc := cX6_seek) (maxL := 11) (ret := some .int) (own := RX6) (by decide) rfl rfl (Nat.le_of_ble_eq_true rfl) ?_
  intro p e s m args below meth c hsz X hr hlocks h ls hl
  have hret := c_iretA (uc := 1) (us := 9) (MC := 16) (p := p) (l := l) (e := e) (R := (headSpec wsX6_seek rmX6_seek).room) (s := s) (m := m) (args := args) (below := below) (meth := meth) (c := c) (cc := cX6_seek) (D := D) (cA := cA) (ad0 := ad) (A := va_A (cws cA ad C) sz) (Q := Q) X.1.1 X.1.2.1 hr hlocks X.1.2.2.2.2.2.1
  have hg := cAg.rf ad 0
  obtain ⟨⟨hx, hb, hml, hown, hts, hK, hA⟩, hN⟩ := id X
  have hl : lv_has ls 11 [(0, .ref (ad 0)), (1, .int x1), (2, .int x2)] := hl
  refine W.widen (k := 1 * 0) (n := 9 * 0) (Nat.le_refl _) (Nat.le_refl _) ?_
  refine lv_aload_n hx hb dX6_seek_0 rfl (lv_at hl 0 rfl) ?_
  refine lv_iload_n hx hb dX6_seek_1 rfl (lv_at hl 1 rfl) ?_
  obtain ⟨hk1, hw⟩ := hw
  refine c_gob X h (c_runV (n := 1) X h (cids_f (by decide)) 0 rfl (by decide) rfl (qX6_freshBoard l D cA n x1 ad _ _ _ hw) gX6_seek_X6_freshBoard hl.1 dX6_seek_2 rfl rfl rfl (by decide +kernel) ⟨Nat.le_of_ble_eq_true rfl, Nat.le_of_ble_eq_true rfl⟩ rfl rfl (Nat.le_of_ble_eq_true rfl) ⟨(by show 1 * 0 + 0 ≤ 16; omega), (by show 9 * 0 + 0 ≤ 144; omega)⟩) (fun r2 C2 H locs hw h => ?_)
  refine c_optB (fun o2 => ?_) (fun b2 o2 => ?_)
  · have hw := hw.1 o2
    refine lv_astore_nN (lv' := [(3, .null), (0, .ref (ad 0)), (1, .int x1), (2, .int x2)]) hx hb dX6_seek_5 rfl hl (by decide) rfl (fun ls hl => ?_)
    refine lv_aload_nN hx hb dX6_seek_6 rfl (lv_at hl 0 rfl) ?_
    refine lv_ifnullN (tgt := 19) hx hb dX6_seek_7 (by decide) ?_
    refine lv_iconst (v := (-1)) hx hb dX6_seek_19 (by decide) ?_
    exact hret (-1) 0 ad C2 _ _ _ ls hw hg h dX6_seek_20
  · have hw := hw.2 b2 o2
    refine lv_astore_n (lv' := [(3, .ref (ad (64 + 8 * b2))), (0, .ref (ad 0)), (1, .int x1), (2, .int x2)]) hx hb dX6_seek_5 rfl hl (by decide) rfl (fun ls hl => ?_)
    refine lv_aload_n hx hb dX6_seek_6 rfl (lv_at hl 0 rfl) ?_
    refine lv_ifnull hx hb dX6_seek_7 ?_
    refine lv_iload_n hx hb dX6_seek_10 rfl (lv_at hl 3 rfl) ?_
    refine lv_if_lt (tgt := 19) hx hb dX6_seek_11 (by decide) (fun c11 => ?_) (fun c11 => ?_)
    · have hw := hw.1 c11
      refine lv_iconst (v := (-1)) hx hb dX6_seek_19 (by decide) ?_
      exact hret (-1) 0 ad C2 _ _ _ ls hw hg h dX6_seek_20
    · have hw := hw.2 c11
      refine lv_iload_n hx hb dX6_seek_14 rfl (lv_at hl 3 rfl) ?_
      refine lv_iconst (v := 2) hx hb dX6_seek_15 (by decide) ?_
      refine lv_icmp_le (tgt := 21) hx hb dX6_seek_16 (by decide) (fun c16 => ?_) (fun c16 => ?_)
      · have hw := hw.1 c16
        refine lv_iconst (v := (-1)) hx hb dX6_seek_21 (by decide) ?_
        refine lv_istore (lv' := [(4, .int (-1)), (3, .ref (ad (64 + 8 * b2))), (0, .ref (ad 0)), (1, .int x1), (2, .int x2)]) hx hb dX6_seek_22 hl (by decide) rfl (fun ls hl => ?_)
        refine lv_iconst (v := (-1)) hx hb dX6_seek_24 (by decide) ?_
        refine lv_istore (lv' := [(5, .int (-1)), (4, .int (-1)), (3, .ref (ad (64 + 8 * b2))), (0, .ref (ad 0)), (1, .int x1), (2, .int x2)]) hx hb dX6_seek_25 hl (by decide) rfl (fun ls hl => ?_)
        refine lv_iconst (v := 0) hx hb dX6_seek_27 (by decide) ?_
        refine lv_istore (lv' := [(6, .int 0), (5, .int (-1)), (4, .int (-1)), (3, .ref (ad (64 + 8 * b2))), (0, .ref (ad 0)), (1, .int x1), (2, .int x2)]) hx hb dX6_seek_28 hl (by decide) rfl (fun ls hl => ?_)
        refine lv_aload_n hx hb dX6_seek_30 rfl (lv_at hl 4 rfl) ?_
        refine lv_iload_n hx hb dX6_seek_31 rfl (lv_at hl 5 rfl) ?_
        refine c_goi X h (c_runV (n := 1) X h (cids_f (by decide)) 0 rfl (by decide) rfl (qX6_othersWithMarks l D cA n x1 ad _ _ _ hw) gX6_seek_X6_othersWithMarks hl.1 dX6_seek_32 rfl rfl rfl (by decide +kernel) ⟨Nat.le_of_ble_eq_true rfl, Nat.le_of_ble_eq_true rfl⟩ rfl rfl (Nat.le_of_ble_eq_true rfl) ⟨(by show 1 * 0 + 0 ≤ 16; omega), (by show 9 * 0 + 0 ≤ 144; omega)⟩) (fun r32 C32 H locs hw h => ?_)
        refine lv_istore (lv' := [(7, .int r32), (6, .int 0), (5, .int (-1)), (4, .int (-1)), (3, .ref (ad (64 + 8 * b2))), (0, .ref (ad 0)), (1, .int x1), (2, .int x2)]) hx hb dX6_seek_35 hl (by decide) rfl (fun ls hl => ?_)
        refine lv_iconst (v := 0) hx hb dX6_seek_37 (by decide) ?_
        refine lv_istore (lv' := [(8, .int 0), (7, .int r32), (6, .int 0), (5, .int (-1)), (4, .int (-1)), (3, .ref (ad (64 + 8 * b2))), (0, .ref (ad 0)), (1, .int x1), (2, .int x2)]) hx hb dX6_seek_38 hl (by decide) rfl (fun ls hl => ?_)
        refine kX6_seek_40 X x1 x2 b2 (fun y4_40 y5_40 y6_40 gc_40 ad C_40 H locs ls hw hg h hl => ?_) (fun y4_40 y5_40 y6_40 gc_40 ad C_40 H locs ls hw hg h hl => ?_) n (-1) (-1) 0 r32 0 0 ad C32 _ _ ls hw hg h (lv_sub hl [6, 7, 8, 5, 4, 3, 2, 1, 0] rfl)
        · refine lv_goto (tgt := 146) hx hb dX6_seek_95 (by decide) ?_
          exact kX6_seek_146 X x2 y4_40 y5_40 y6_40 hret gc_40 ad C_40 _ _ ls hw hg h (lv_sub hl [0, 1, 2, 3] rfl)
        · exact kX6_seek_146 X x2 y4_40 y5_40 y6_40 hret gc_40 ad C_40 _ _ ls hw hg h (lv_sub hl [0, 1, 2, 3] rfl)
      · have hw := hw.2 c16
        refine lv_iconst (v := (-1)) hx hb dX6_seek_19 (by decide) ?_
        exact hret (-1) 0 ad C2 _ _ _ ls hw hg h dX6_seek_20
end KA
