section KC
variable {p : Program} {l : Launch} {e : Env} {s : State} {m : MethodId} {args : Array Value} {below : List Frame} {meth : Method} {c : Code} {Z : State → Prop} {D : va_G} {cA : Nat → ClassId} {A : Nat → Prop} {ad : Nat → Nat}
def rmX1_stillHolds : Room := { frames := 0, cells := 0, slots := 0, locals := 0 }
theorem inX1_stillHolds_X1 : ∀ w ∈ wsX10, w ∈ wsX1_stillHolds := fun w h => List.mem_cons_of_mem _ (List.mem_append_left _ (List.mem_append_right _ h))
theorem inX1_stillHolds_X0 : ∀ w ∈ wsX00, w ∈ wsX1_stillHolds := fun w h => List.mem_cons_of_mem _ (List.mem_append_right _ h)
set_option maxHeartbeats 4000000 in
set_option maxRecDepth 100000 in
theorem qX1_stillHolds (l : Launch) (D : va_G) (cA : Nat → ClassId) (n : Nat) (x0 : Nat) (x1 : Int32) : cMi l D cA yX1_stillHolds wsX1_stillHolds rmX1_stillHolds (fun ad => [.ref (ad (256 + x0)), .int x1]) (wpX1_stillHolds n x0 x1) := by
  intro ad sz C Q hw
  unfold wpX1_stillHolds at hw
  refine c_enter (cc := cX1_stillHolds) (maxL := 2) (ret := some .boolean) (own := RX1) (by decide) rfl rfl (Nat.le_of_ble_eq_true rfl) ?_
  intro p e s m args below meth c hsz X hr hlocks h ls hl
  have hret := c_zret (p := p) (l := l) (e := e) (R := (headSpec wsX1_stillHolds rmX1_stillHolds).room) (s := s) (m := m) (args := args) (below := below) (meth := meth) (c := c) (cc := cX1_stillHolds) (D := D) (cA := cA) (ad := ad) (A := va_A (cws cA ad C) sz) (Q := Q) X.1.1 X.1.2.1 hr hlocks X.1.2.2.2.2.2.1
  obtain ⟨⟨hx, hb, hml, hown, hts, hK, hA⟩, hN⟩ := id X
  have hl : lv_has ls 2 [(0, .ref (ad (256 + x0))), (1, .int x1)] := hl
  refine lv_iload_n hx hb dX1_stillHolds_0 rfl (lv_at hl 1 rfl) ?_
  refine lv_aload_n hx hb dX1_stillHolds_1 rfl (lv_at hl 0 rfl) ?_
  obtain ⟨hk1, hw⟩ := hw
  refine c_get X.1 h (cids_m hk1.1 hk1.2) 10 ckind_m (by decide) rfl inX1_stillHolds_X1 4 (by decide) (by decide +kernel) rfl rfl dX1_stillHolds_2 ?_
  refine lv_icmp_ne (tgt := 40) hx hb dX1_stillHolds_5 (by decide) (fun c5 => ?_) (fun c5 => ?_)
  · have hw := hw.1 c5
    refine lv_iconst (v := 0) hx hb dX1_stillHolds_40 (by decide) ?_
    exact hret 0 C _ _ _ ls hw h dX1_stillHolds_41
  · have hw := hw.2 c5
    refine lv_aload_n hx hb dX1_stillHolds_8 rfl (lv_at hl 0 rfl) ?_
    refine c_getT0 X.1 h hk1 inX1_stillHolds_X1 (by decide +kernel) dX1_stillHolds_9 ?_
    obtain ⟨hk2, hw⟩ := hw
    refine c_get X.1 h (cids_b0 hk2.1) 9 (ckind_b hk2.2) (by decide) rfl inX1_stillHolds_X0 7 (by decide) (by decide +kernel) rfl rfl dX1_stillHolds_12 ?_
    refine lv_aload_n hx hb dX1_stillHolds_15 rfl (lv_at hl 0 rfl) ?_
    refine c_get X.1 h (cids_m hk1.1 hk1.2) 10 ckind_m (by decide) rfl inX1_stillHolds_X1 2 (by decide) (by decide +kernel) rfl rfl dX1_stillHolds_16 ?_
    refine lv_icmp_ne (tgt := 40) hx hb dX1_stillHolds_19 (by decide) (fun c19 => ?_) (fun c19 => ?_)
    · have hw := hw.1 c19
      refine lv_iconst (v := 0) hx hb dX1_stillHolds_40 (by decide) ?_
      exact hret 0 C _ _ _ ls hw h dX1_stillHolds_41
    · have hw := hw.2 c19
      refine lv_aload_n hx hb dX1_stillHolds_22 rfl (lv_at hl 0 rfl) ?_
      refine c_getT1 X.1 h hk1 inX1_stillHolds_X1 (by decide +kernel) dX1_stillHolds_23 ?_
      obtain ⟨hk3, hw⟩ := hw
      refine c_get X.1 h (cids_b0 hk3.1) 9 (ckind_b hk3.2) (by decide) rfl inX1_stillHolds_X0 7 (by decide) (by decide +kernel) rfl rfl dX1_stillHolds_26 ?_
      refine lv_aload_n hx hb dX1_stillHolds_29 rfl (lv_at hl 0 rfl) ?_
      refine c_get X.1 h (cids_m hk1.1 hk1.2) 10 ckind_m (by decide) rfl inX1_stillHolds_X1 3 (by decide) (by decide +kernel) rfl rfl dX1_stillHolds_30 ?_
      refine lv_icmp_ne (tgt := 40) hx hb dX1_stillHolds_33 (by decide) (fun c33 => ?_) (fun c33 => ?_)
      · have hw := hw.1 c33
        refine lv_iconst (v := 0) hx hb dX1_stillHolds_40 (by decide) ?_
        exact hret 0 C _ _ _ ls hw h dX1_stillHolds_41
      · have hw := hw.2 c33
        refine lv_iconst (v := 1) hx hb dX1_stillHolds_36 (by decide) ?_
        refine lv_goto (tgt := 41) hx hb dX1_stillHolds_37 (by decide) ?_
        exact hret 1 C _ _ _ ls hw h dX1_stillHolds_41
def rmX1_tryMove : Room := { frames := 4, cells := 0, slots := 0, locals := 101 }
theorem inX1_tryMove_X1 : ∀ w ∈ wsX10, w ∈ wsX1_tryMove := fun w h => List.mem_cons_of_mem _ (List.mem_append_left _ (List.mem_append_right _ h))
theorem inX1_tryMove_X2 : ∀ w ∈ wsX20, w ∈ wsX1_tryMove := fun w h => List.mem_cons_of_mem _ (List.mem_append_right _ h)
set_option maxHeartbeats 4000000 in
set_option maxRecDepth 100000 in
theorem qX1_tryMove (l : Launch) (D : va_G) (cA : Nat → ClassId) (n : Nat) (x0 : Nat) (x2 : Int32) (x3 : Int32) (x4 : Int32) : cMv l D cA yX1_tryMove wsX1_tryMove rmX1_tryMove (fun ad => [.ref (ad (256 + x0)), .ref (ad 4), .int x2, .int x3, .int x4]) (wpX1_tryMove n x0 x2 x3 x4) := by
  intro ad sz C Q hw
  unfold wpX1_tryMove at hw
  refine c_enter (cc := cX1_tryMove) (maxL := 6) (ret := none) (own := RX1) (by decide) rfl rfl (Nat.le_of_ble_eq_true rfl) ?_
  intro p e s m args below meth c hsz X hr hlocks h ls hl
  have hret := c_vret (p := p) (l := l) (e := e) (R := (headSpec wsX1_tryMove rmX1_tryMove).room) (s := s) (m := m) (args := args) (below := below) (meth := meth) (c := c) (cc := cX1_tryMove) (D := D) (cA := cA) (ad := ad) (A := va_A (cws cA ad C) sz) (Q := Q) X.1.1 X.1.2.1 hr hlocks X.1.2.2.2.2.2.1
  obtain ⟨⟨hx, hb, hml, hown, hts, hK, hA⟩, hN⟩ := id X
  have hl : lv_has ls 6 [(0, .ref (ad (256 + x0))), (1, .ref (ad 4)), (2, .int x2), (3, .int x3), (4, .int x4)] := hl
  refine lv_aload_n hx hb dX1_tryMove_0 rfl (lv_at hl 1 rfl) ?_
  refine lv_iload_n hx hb dX1_tryMove_1 rfl (lv_at hl 2 rfl) ?_
  refine lv_iload_n hx hb dX1_tryMove_2 rfl (lv_at hl 3 rfl) ?_
  refine lv_iload hx hb dX1_tryMove_3 (lv_at hl 4 rfl) ?_
  refine lv_aload_n hx hb dX1_tryMove_5 rfl (lv_at hl 0 rfl) ?_
  obtain ⟨hk1, hw⟩ := hw
  refine c_get X.1 h (cids_m hk1.1 hk1.2) 10 ckind_m (by decide) rfl inX1_tryMove_X1 5 (by decide) (by decide +kernel) rfl rfl dX1_tryMove_6 ?_
  refine c_goi X h (c_runV (n := 4) X h (cids_f (by decide)) 4 rfl (by decide) rfl (qX2_mostPairs l D cA n x2 x3 x4 (cI C (256 + x0) 5) ad _ _ _ hw) gX1_tryMove_X2_mostPairs hl.1 dX1_tryMove_9 rfl rfl rfl (by decide +kernel) ⟨Nat.le_of_ble_eq_true rfl, Nat.le_of_ble_eq_true rfl⟩ rfl rfl (Nat.le_of_ble_eq_true rfl) ⟨Nat.zero_le _, Nat.zero_le _⟩) (fun r9 C9 H locs hw h => ?_)
  refine lv_istore (lv' := [(5, .int r9), (0, .ref (ad (256 + x0))), (1, .ref (ad 4)), (2, .int x2), (3, .int x3), (4, .int x4)]) hx hb dX1_tryMove_12 hl (by decide) rfl (fun ls hl => ?_)
  refine lv_iload hx hb dX1_tryMove_14 (lv_at hl 0 rfl) ?_
  refine lv_aload_n hx hb dX1_tryMove_16 rfl (lv_at hl 1 rfl) ?_
  obtain ⟨hk2, hw⟩ := hw
  refine c_get X.1 h (cids_m hk2.1 hk2.2) 10 ckind_m (by decide) rfl inX1_tryMove_X1 5 (by decide) (by decide +kernel) rfl rfl dX1_tryMove_17 ?_
  refine lv_icmp_le (tgt := 45) hx hb dX1_tryMove_20 (by decide) (fun c20 => ?_) (fun c20 => ?_)
  · have hw := hw.1 c20
    exact hret C9 _ _ _ ls hw h dX1_tryMove_45
  · have hw := hw.2 c20
    refine lv_aload_n hx hb dX1_tryMove_23 rfl (lv_at hl 1 rfl) ?_
    refine lv_iload hx hb dX1_tryMove_24 (lv_at hl 0 rfl) ?_
    refine c_put X.1 h (cids_m hk2.1 hk2.2) 10 ckind_m (by decide) rfl inX1_tryMove_X1 tyX1 tyX1_ok nmX1 5 (by decide) (by decide +kernel) rfl rfl rfl rfl (Nat.le_of_ble_eq_true rfl) (fun _ _ => rfl) dX1_tryMove_26 (fun C26 eC26 H locs h => ?_)
    have hw := hw C26 eC26
    have hk2 : tok C26 x0 := by rw [eC26]; exact hk2
    refine lv_aload_n hx hb dX1_tryMove_29 rfl (lv_at hl 1 rfl) ?_
    refine lv_iload_n hx hb dX1_tryMove_30 rfl (lv_at hl 3 rfl) ?_
    refine c_put X.1 h (cids_m hk2.1 hk2.2) 10 ckind_m (by decide) rfl inX1_tryMove_X1 tyX1 tyX1_ok nmX1 6 (by decide) (by decide +kernel) rfl rfl rfl rfl (Nat.le_of_ble_eq_true rfl) (fun _ _ => rfl) dX1_tryMove_31 (fun C31 eC31 H locs h => ?_)
    have hw := hw C31 eC31
    have hk2 : tok C31 x0 := by rw [eC31]; exact hk2
    refine lv_aload_n hx hb dX1_tryMove_34 rfl (lv_at hl 1 rfl) ?_
    refine lv_iload_n hx hb dX1_tryMove_35 rfl (lv_at hl 4 rfl) ?_
    refine c_put X.1 h (cids_m hk2.1 hk2.2) 10 ckind_m (by decide) rfl inX1_tryMove_X1 tyX1 tyX1_ok nmX1 7 (by decide) (by decide +kernel) rfl rfl rfl rfl (Nat.le_of_ble_eq_true rfl) (fun _ _ => rfl) dX1_tryMove_36 (fun C36 eC36 H locs h => ?_)
    have hw := hw C36 eC36
    have hk2 : tok C36 x0 := by rw [eC36]; exact hk2
    refine lv_aload_n hx hb dX1_tryMove_39 rfl (lv_at hl 1 rfl) ?_
    refine lv_iload hx hb dX1_tryMove_40 (lv_at hl 5 rfl) ?_
    refine c_put X.1 h (cids_m hk2.1 hk2.2) 10 ckind_m (by decide) rfl inX1_tryMove_X1 tyX1 tyX1_ok nmX1 8 (by decide) (by decide +kernel) rfl rfl rfl rfl (Nat.le_of_ble_eq_true rfl) (fun _ _ => rfl) dX1_tryMove_42 (fun C42 eC42 H locs h => ?_)
    have hw := hw C42 eC42
    have hk2 : tok C42 x0 := by rw [eC42]; exact hk2
    exact hret C42 _ _ _ ls hw h dX1_tryMove_45
def rmX1_findBestMove : Room := { frames := 5, cells := 0, slots := 0, locals := 126 }
theorem inX1_findBestMove_X1 : ∀ w ∈ wsX10, w ∈ wsX1_findBestMove := fun w h => List.mem_cons_of_mem _ (List.mem_append_left _ (List.mem_append_left _ (List.mem_append_right _ h)))
theorem inX1_findBestMove_X0 : ∀ w ∈ wsX00, w ∈ wsX1_findBestMove := fun w h => List.mem_cons_of_mem _ (List.mem_append_left _ (List.mem_append_right _ h))
theorem inX1_findBestMove_X2 : ∀ w ∈ wsX20, w ∈ wsX1_findBestMove := fun w h => List.mem_cons_of_mem _ (List.mem_append_right _ h)
set_option maxHeartbeats 4000000 in
set_option maxRecDepth 100000 in
theorem kX1_findBestMove_137 {n : Nat} {R : Int32 → cM → Prop} (X : cX p s m args meth c D cA A cX1_findBestMove 8 wsX1_findBestMove RX1) (x0 : Nat) (x3 : Int32) (x4 : Int32) (x5 : Int32) (x6 : Int32) (x7 : Int32)
    (hR : ∀ (y6 : Int32) (C : cM) (H : Heap) (locs : List Loc) (ls : Array Slot), R y6 C → cH D cA ad A s.heap C H locs → lv_has ls 8 [(0, .ref (ad (256 + x0))), (1, .ref (ad 4)), (3, .int x3), (4, .int x4), (5, .int x5), (6, .int y6)] → W p l e (headSpec wsX1_findBestMove rmX1_findBestMove).room s m args below meth c H locs 0 0 Z (F0 m 96 ls [])) :
    ∀ (C : cM) (H : Heap) (locs : List Loc) (ls : Array Slot), wpX1_findBestMove_137 n R x0 x3 x4 x5 x6 x7 C → cH D cA ad A s.heap C H locs → lv_has ls 8 [(0, .ref (ad (256 + x0))), (1, .ref (ad 4)), (3, .int x3), (4, .int x4), (5, .int x5), (6, .int x6), (7, .int x7)] → W p l e (headSpec wsX1_findBestMove rmX1_findBestMove).room s m args below meth c H locs 0 0 Z (F0 m 137 ls []) := by
  intro C H locs ls hw h hl
  unfold wpX1_findBestMove_137 at hw
  obtain ⟨⟨hx, hb, hml, hown, hts, hK, hA⟩, hN⟩ := id X
  refine lv_iload hx hb dX1_findBestMove_137 (lv_at hl 6 rfl) ?_
  refine lv_if_le (tgt := 160) hx hb dX1_findBestMove_139 (by decide) (fun c139 => ?_) (fun c139 => ?_)
  · have hw := hw.1 c139
    obtain ⟨x6_160, ex6_160⟩ : ∃ z : Int32, z = x6 + 1 := ⟨_, rfl⟩
    have hw := hw x6_160 ex6_160
    refine lv_iinc (v := x6_160) (lv' := [(6, .int x6_160), (0, .ref (ad (256 + x0))), (1, .ref (ad 4)), (3, .int x3), (4, .int x4), (5, .int x5), (7, .int x7)]) hx hb dX1_findBestMove_160 hl (k := 5) rfl (by rw [ex6_160]; rfl) (by decide) rfl (fun ls hl => ?_)
    refine lv_goto (tgt := 96) hx hb dX1_findBestMove_163 (by decide) ?_
    exact hR x6_160 C _ _ ls hw h (lv_sub hl [1, 2, 3, 4, 5, 0] rfl)
  · have hw := hw.2 c139
    refine lv_iload hx hb dX1_findBestMove_142 (lv_at hl 6 rfl) ?_
    refine lv_bipush (v := 8) hx hb dX1_findBestMove_144 (by decide) ?_
    refine lv_icmp_gt (tgt := 160) hx hb dX1_findBestMove_146 (by decide) (fun c146 => ?_) (fun c146 => ?_)
    · have hw := hw.1 c146
      obtain ⟨x6_160, ex6_160⟩ : ∃ z : Int32, z = x6 + 1 := ⟨_, rfl⟩
      have hw := hw x6_160 ex6_160
      refine lv_iinc (v := x6_160) (lv' := [(6, .int x6_160), (0, .ref (ad (256 + x0))), (1, .ref (ad 4)), (3, .int x3), (4, .int x4), (5, .int x5), (7, .int x7)]) hx hb dX1_findBestMove_160 hl (k := 5) rfl (by rw [ex6_160]; rfl) (by decide) rfl (fun ls hl => ?_)
      refine lv_goto (tgt := 96) hx hb dX1_findBestMove_163 (by decide) ?_
      exact hR x6_160 C _ _ ls hw h (lv_sub hl [1, 2, 3, 4, 5, 0] rfl)
    · have hw := hw.2 c146
      refine lv_aload_n hx hb dX1_findBestMove_149 rfl (lv_at hl 0 rfl) ?_
      refine lv_aload_n hx hb dX1_findBestMove_150 rfl (lv_at hl 1 rfl) ?_
      refine lv_iload hx hb dX1_findBestMove_151 (lv_at hl 4 rfl) ?_
      refine lv_iload hx hb dX1_findBestMove_153 (lv_at hl 5 rfl) ?_
      refine lv_iload hx hb dX1_findBestMove_155 (lv_at hl 6 rfl) ?_
      obtain ⟨hk8, hw⟩ := hw
      refine c_gov X h (c_runV (n := 4) X h (cids_m hk8.1 hk8.2) 10 ckind_m (by decide) rfl (qX1_tryMove l D cA n x0 x5 x6 x7 ad _ _ _ hw) gX1_findBestMove_X1_tryMove hl.1 dX1_findBestMove_157 rfl rfl rfl (by decide +kernel) ⟨Nat.le_of_ble_eq_true rfl, Nat.le_of_ble_eq_true rfl⟩ rfl rfl (Nat.le_of_ble_eq_true rfl) ⟨Nat.zero_le _, Nat.zero_le _⟩) (fun C157 H locs hw h => ?_)
      obtain ⟨x6_160, ex6_160⟩ : ∃ z : Int32, z = x6 + 1 := ⟨_, rfl⟩
      have hw := hw x6_160 ex6_160
      refine lv_iinc (v := x6_160) (lv' := [(6, .int x6_160), (0, .ref (ad (256 + x0))), (1, .ref (ad 4)), (3, .int x3), (4, .int x4), (5, .int x5), (7, .int x7)]) hx hb dX1_findBestMove_160 hl (k := 5) rfl (by rw [ex6_160]; rfl) (by decide) rfl (fun ls hl => ?_)
      refine lv_goto (tgt := 96) hx hb dX1_findBestMove_163 (by decide) ?_
      exact hR x6_160 C157 _ _ ls hw h (lv_sub hl [1, 2, 3, 4, 5, 0] rfl)
set_option maxHeartbeats 4000000 in
set_option maxRecDepth 100000 in
theorem kX1_findBestMove_96 {n : Nat} {E166 : cM → Prop} (X : cX p s m args meth c D cA A cX1_findBestMove 8 wsX1_findBestMove RX1) (x0 : Nat) (x3 : Int32) (x4 : Int32) (x5 : Int32)
    (hE166 : ∀ (C : cM) (H : Heap) (locs : List Loc) (ls : Array Slot), E166 C → cH D cA ad A s.heap C H locs → lv_has ls 8 [(0, .ref (ad (256 + x0))), (1, .ref (ad 4)), (3, .int x3), (4, .int x4), (5, .int x5)] → W p l e (headSpec wsX1_findBestMove rmX1_findBestMove).room s m args below meth c H locs 0 0 Z (F0 m 166 ls [])) :
    ∀ (k : Nat) (x6 : Int32) (C : cM) (H : Heap) (locs : List Loc) (ls : Array Slot), wpX1_findBestMove_96 n E166 x0 x3 x4 x5 k x6 C → cH D cA ad A s.heap C H locs → lv_has ls 8 [(0, .ref (ad (256 + x0))), (1, .ref (ad 4)), (3, .int x3), (4, .int x4), (5, .int x5), (6, .int x6)] → W p l e (headSpec wsX1_findBestMove rmX1_findBestMove).room s m args below meth c H locs 0 0 Z (F0 m 96 ls []) := by
  intro k
  induction k with
  | zero => intro x6 C H locs ls hw; exact hw.elim
  | succ k ih =>
    intro x6 C H locs ls hw h hl
    rw [wpX1_findBestMove_96] at hw
    obtain ⟨⟨hx, hb, hml, hown, hts, hK, hA⟩, hN⟩ := id X
    refine lv_iload hx hb dX1_findBestMove_96 (lv_at hl 5 rfl) ?_
    refine lv_bipush (v := 8) hx hb dX1_findBestMove_98 (by decide) ?_
    refine lv_icmp_gt (tgt := 166) hx hb dX1_findBestMove_100 (by decide) (fun c100 => ?_) (fun c100 => ?_)
    · have hw := hw.1 c100
      exact hE166 C _ _ ls hw h (lv_sub hl [0, 1, 2, 3, 4] rfl)
    · have hw := hw.2 c100
      refine lv_iload hx hb dX1_findBestMove_103 (lv_at hl 3 rfl) ?_
      refine lv_iload hx hb dX1_findBestMove_105 (lv_at hl 5 rfl) ?_
      refine va_mabs hx hb (hml.trans hl.1.symm) hown (hts (.methodLink RX1 55 Lib.Math.abs.name) (by decide +kernel)) (hts (.static Lib.Math.abs.name) (by decide +kernel)) (hts (.initialized "java/lang/Math") (by decide +kernel)) (hts (.code Lib.Math.abs.name Lib.Math.abs.code 1 (some .int)) (by decide +kernel)) (Nat.le_of_ble_eq_true rfl) (Nat.le_of_ble_eq_true rfl) (Nat.zero_le _) (Nat.zero_le _) dX1_findBestMove_107 ?_
      refine lv_isub hx hb dX1_findBestMove_110 ?_
      refine lv_topi (fun x7_111 ex7_111 => ?_)
      have hw := hw x7_111 ex7_111
      refine lv_istore (lv' := [(7, .int x7_111), (0, .ref (ad (256 + x0))), (1, .ref (ad 4)), (3, .int x3), (4, .int x4), (5, .int x5), (6, .int x6)]) hx hb dX1_findBestMove_111 hl (by decide) rfl (fun ls hl => ?_)
      refine lv_iload hx hb dX1_findBestMove_113 (lv_at hl 0 rfl) ?_
      refine lv_if_lt (tgt := 137) hx hb dX1_findBestMove_115 (by decide) (fun c115 => ?_) (fun c115 => ?_)
      · have hw := hw.1 c115
        exact kX1_findBestMove_137 X x0 x3 x4 x5 x6 x7_111 ih C _ _ ls hw h (lv_sub hl [1, 2, 3, 4, 5, 6, 0] rfl)
      · have hw := hw.2 c115
        refine lv_iload hx hb dX1_findBestMove_118 (lv_at hl 0 rfl) ?_
        refine lv_bipush (v := 8) hx hb dX1_findBestMove_120 (by decide) ?_
        refine lv_icmp_gt (tgt := 137) hx hb dX1_findBestMove_122 (by decide) (fun c122 => ?_) (fun c122 => ?_)
        · have hw := hw.1 c122
          exact kX1_findBestMove_137 X x0 x3 x4 x5 x6 x7_111 ih C _ _ ls hw h (lv_sub hl [1, 2, 3, 4, 5, 6, 0] rfl)
        · have hw := hw.2 c122
          refine lv_aload_n hx hb dX1_findBestMove_125 rfl (lv_at hl 1 rfl) ?_
          refine lv_aload_n hx hb dX1_findBestMove_126 rfl (lv_at hl 2 rfl) ?_
          refine lv_iload hx hb dX1_findBestMove_127 (lv_at hl 5 rfl) ?_
          refine lv_iload hx hb dX1_findBestMove_129 (lv_at hl 6 rfl) ?_
          refine lv_iload hx hb dX1_findBestMove_131 (lv_at hl 0 rfl) ?_
          refine lv_ineg hx hb dX1_findBestMove_133 ?_
          obtain ⟨hk9, hw⟩ := hw
          refine c_gov X h (c_runV (n := 4) X h (cids_m hk9.1 hk9.2) 10 ckind_m (by decide) rfl (qX1_tryMove l D cA n x0 x5 x6 (-x7_111) ad _ _ _ hw) gX1_findBestMove_X1_tryMove hl.1 dX1_findBestMove_134 rfl rfl rfl (by decide +kernel) ⟨Nat.le_of_ble_eq_true rfl, Nat.le_of_ble_eq_true rfl⟩ rfl rfl (Nat.le_of_ble_eq_true rfl) ⟨Nat.zero_le _, Nat.zero_le _⟩) (fun C134 H locs hw h => ?_)
          exact kX1_findBestMove_137 X x0 x3 x4 x5 x6 x7_111 ih C134 _ _ ls hw h (lv_sub hl [1, 2, 3, 4, 5, 6, 0] rfl)
set_option maxHeartbeats 4000000 in
set_option maxRecDepth 100000 in
theorem kX1_findBestMove_78 {n : Nat} {E172 : cM → Prop} (X : cX p s m args meth c D cA A cX1_findBestMove 8 wsX1_findBestMove RX1) (x0 : Nat) (x3 : Int32) (x4 : Int32)
    (hE172 : ∀ (C : cM) (H : Heap) (locs : List Loc) (ls : Array Slot), E172 C → cH D cA ad A s.heap C H locs → lv_has ls 8 [(0, .ref (ad (256 + x0))), (1, .ref (ad 4)), (3, .int x3), (4, .int x4)] → W p l e (headSpec wsX1_findBestMove rmX1_findBestMove).room s m args below meth c H locs 0 0 Z (F0 m 172 ls [])) :
    ∀ (k : Nat) (x5 : Int32) (C : cM) (H : Heap) (locs : List Loc) (ls : Array Slot), wpX1_findBestMove_78 n E172 x0 x3 x4 k x5 C → cH D cA ad A s.heap C H locs → lv_has ls 8 [(0, .ref (ad (256 + x0))), (1, .ref (ad 4)), (3, .int x3), (4, .int x4), (5, .int x5)] → W p l e (headSpec wsX1_findBestMove rmX1_findBestMove).room s m args below meth c H locs 0 0 Z (F0 m 78 ls []) := by
  intro k
  induction k with
  | zero => intro x5 C H locs ls hw; exact hw.elim
  | succ k ih =>
    intro x5 C H locs ls hw h hl
    rw [wpX1_findBestMove_78] at hw
    obtain ⟨⟨hx, hb, hml, hown, hts, hK, hA⟩, hN⟩ := id X
    refine lv_aload_n hx hb dX1_findBestMove_78 rfl (lv_at hl 0 rfl) ?_
    obtain ⟨hk7, hw⟩ := hw
    refine c_get X.1 h (cids_m hk7.1 hk7.2) 10 ckind_m (by decide) rfl inX1_findBestMove_X1 5 (by decide) (by decide +kernel) rfl rfl dX1_findBestMove_79 ?_
    refine lv_iload_n hx hb dX1_findBestMove_82 rfl (lv_at hl 2 rfl) ?_
    refine lv_icmp_ge (tgt := 172) hx hb dX1_findBestMove_83 (by decide) (fun c83 => ?_) (fun c83 => ?_)
    · have hw := hw.1 c83
      exact hE172 C _ _ ls hw h (lv_sub hl [0, 1, 2, 3] rfl)
    · have hw := hw.2 c83
      refine lv_iload hx hb dX1_findBestMove_86 (lv_at hl 4 rfl) ?_
      refine lv_iconst (v := 4) hx hb dX1_findBestMove_88 (by decide) ?_
      refine lv_icmp_ge (tgt := 172) hx hb dX1_findBestMove_89 (by decide) (fun c89 => ?_) (fun c89 => ?_)
      · have hw := hw.1 c89
        exact hE172 C _ _ ls hw h (lv_sub hl [0, 1, 2, 3] rfl)
      · have hw := hw.2 c89
        refine lv_bipush (v := (-8)) hx hb dX1_findBestMove_92 (by decide) ?_
        refine lv_istore (lv' := [(6, .int (-8)), (0, .ref (ad (256 + x0))), (1, .ref (ad 4)), (3, .int x3), (4, .int x4), (5, .int x5)]) hx hb dX1_findBestMove_94 hl (by decide) rfl (fun ls hl => ?_)
        refine kX1_findBestMove_96 X x0 x3 x4 x5 (fun C_96 H locs ls hw h hl => ?_) n (-8) C _ _ ls hw h (lv_sub hl [1, 2, 3, 4, 5, 0] rfl)
        obtain ⟨x5_166, ex5_166⟩ : ∃ z : Int32, z = x5 + 1 := ⟨_, rfl⟩
        have hw := hw x5_166 ex5_166
        refine lv_iinc (v := x5_166) (lv' := [(5, .int x5_166), (0, .ref (ad (256 + x0))), (1, .ref (ad 4)), (3, .int x3), (4, .int x4)]) hx hb dX1_findBestMove_166 hl (k := 4) rfl (by rw [ex5_166]; rfl) (by decide) rfl (fun ls hl => ?_)
        refine lv_goto (tgt := 78) hx hb dX1_findBestMove_169 (by decide) ?_
        exact ih x5_166 C_96 _ _ ls hw h (lv_sub hl [1, 2, 3, 4, 0] rfl)
set_option maxHeartbeats 4000000 in
set_option maxRecDepth 100000 in
theorem kX1_findBestMove_60 {n : Nat} {Q : cM → Prop} (X : cX p s m args meth c D cA A cX1_findBestMove 8 wsX1_findBestMove RX1) (x0 : Nat) (x3 : Int32)
    (hret : ∀ (C : cM) (H : Heap) (locs : List Loc) (pc : Nat) (ls : Array Slot), Q C → cH D cA ad A s.heap C H locs → decode cX1_findBestMove pc = .ok (.return_, 1) → W p l e (headSpec wsX1_findBestMove rmX1_findBestMove).room s m args below meth c H locs 0 0 Z (F0 m pc ls [])) :
    ∀ (k : Nat) (x4 : Int32) (C : cM) (H : Heap) (locs : List Loc) (ls : Array Slot), wpX1_findBestMove_60 n Q x0 x3 k x4 C → cH D cA ad A s.heap C H locs → lv_has ls 8 [(0, .ref (ad (256 + x0))), (1, .ref (ad 4)), (3, .int x3), (4, .int x4)] → W p l e (headSpec wsX1_findBestMove rmX1_findBestMove).room s m args below meth c H locs 0 0 Z (F0 m 60 ls []) := by
  intro k
  induction k with
  | zero => intro x4 C H locs ls hw; exact hw.elim
  | succ k ih =>
    intro x4 C H locs ls hw h hl
    rw [wpX1_findBestMove_60] at hw
    obtain ⟨⟨hx, hb, hml, hown, hts, hK, hA⟩, hN⟩ := id X
    refine lv_aload_n hx hb dX1_findBestMove_60 rfl (lv_at hl 0 rfl) ?_
    obtain ⟨hk6, hw⟩ := hw
    refine c_get X.1 h (cids_m hk6.1 hk6.2) 10 ckind_m (by decide) rfl inX1_findBestMove_X1 5 (by decide) (by decide +kernel) rfl rfl dX1_findBestMove_61 ?_
    refine lv_iload_n hx hb dX1_findBestMove_64 rfl (lv_at hl 2 rfl) ?_
    refine lv_icmp_ge (tgt := 178) hx hb dX1_findBestMove_65 (by decide) (fun c65 => ?_) (fun c65 => ?_)
    · have hw := hw.1 c65
      exact hret C _ _ _ ls hw h dX1_findBestMove_178
    · have hw := hw.2 c65
      refine lv_iload hx hb dX1_findBestMove_68 (lv_at hl 3 rfl) ?_
      refine lv_bipush (v := 16) hx hb dX1_findBestMove_70 (by decide) ?_
      refine lv_icmp_gt (tgt := 178) hx hb dX1_findBestMove_72 (by decide) (fun c72 => ?_) (fun c72 => ?_)
      · have hw := hw.1 c72
        exact hret C _ _ _ ls hw h dX1_findBestMove_178
      · have hw := hw.2 c72
        refine lv_iconst (v := 0) hx hb dX1_findBestMove_75 (by decide) ?_
        refine lv_istore (lv' := [(5, .int 0), (0, .ref (ad (256 + x0))), (1, .ref (ad 4)), (3, .int x3), (4, .int x4)]) hx hb dX1_findBestMove_76 hl (by decide) rfl (fun ls hl => ?_)
        refine kX1_findBestMove_78 X x0 x3 x4 (fun C_78 H locs ls hw h hl => ?_) n 0 C _ _ ls hw h (lv_sub hl [1, 2, 3, 4, 0] rfl)
        obtain ⟨x4_172, ex4_172⟩ : ∃ z : Int32, z = x4 + 1 := ⟨_, rfl⟩
        have hw := hw x4_172 ex4_172
        refine lv_iinc (v := x4_172) (lv' := [(4, .int x4_172), (0, .ref (ad (256 + x0))), (1, .ref (ad 4)), (3, .int x3)]) hx hb dX1_findBestMove_172 hl (k := 3) rfl (by rw [ex4_172]; rfl) (by decide) rfl (fun ls hl => ?_)
        refine lv_goto (tgt := 60) hx hb dX1_findBestMove_175 (by decide) ?_
        exact ih x4_172 C_78 _ _ ls hw h (lv_sub hl [1, 2, 3, 0] rfl)
set_option maxHeartbeats 4000000 in
set_option maxRecDepth 100000 in
theorem qX1_findBestMove (l : Launch) (D : va_G) (cA : Nat → ClassId) (n : Nat) (x0 : Nat) (x2 : Int32) : cMv l D cA yX1_findBestMove wsX1_findBestMove rmX1_findBestMove (fun ad => [.ref (ad (256 + x0)), .ref (ad 4), .int x2]) (wpX1_findBestMove n x0 x2) := by
  intro ad sz C Q hw
  unfold wpX1_findBestMove at hw
  refine c_enter (cc := cX1_findBestMove) (maxL := 8) (ret := none) (own := RX1) (by decide) rfl rfl (Nat.le_of_ble_eq_true rfl) ?_
  intro p e s m args below meth c hsz X hr hlocks h ls hl
  have hret := c_vret (p := p) (l := l) (e := e) (R := (headSpec wsX1_findBestMove rmX1_findBestMove).room) (s := s) (m := m) (args := args) (below := below) (meth := meth) (c := c) (cc := cX1_findBestMove) (D := D) (cA := cA) (ad := ad) (A := va_A (cws cA ad C) sz) (Q := Q) X.1.1 X.1.2.1 hr hlocks X.1.2.2.2.2.2.1
  obtain ⟨⟨hx, hb, hml, hown, hts, hK, hA⟩, hN⟩ := id X
  have hl : lv_has ls 8 [(0, .ref (ad (256 + x0))), (1, .ref (ad 4)), (2, .int x2)] := hl
  refine lv_aload_n hx hb dX1_findBestMove_0 rfl (lv_at hl 0 rfl) ?_
  refine lv_aload_n hx hb dX1_findBestMove_1 rfl (lv_at hl 0 rfl) ?_
  obtain ⟨hk1, hw⟩ := hw
  refine c_getT0 X.1 h hk1 inX1_findBestMove_X1 (by decide +kernel) dX1_findBestMove_2 ?_
  obtain ⟨hk2, hw⟩ := hw
  refine c_get X.1 h (cids_b0 hk2.1) 9 (ckind_b hk2.2) (by decide) rfl inX1_findBestMove_X0 7 (by decide) (by decide +kernel) rfl rfl dX1_findBestMove_5 ?_
  refine c_put X.1 h (cids_m hk1.1 hk1.2) 10 ckind_m (by decide) rfl inX1_findBestMove_X1 tyX1 tyX1_ok nmX1 2 (by decide) (by decide +kernel) rfl rfl rfl rfl (Nat.le_of_ble_eq_true rfl) (fun _ _ => rfl) dX1_findBestMove_8 (fun C8 eC8 H locs h => ?_)
  have hw := hw C8 eC8
  have hk1 : tok C8 x0 := by rw [eC8]; exact hk1
  have hk2 : bok C8 (x0 / 16) := by rw [eC8]; exact hk2
  refine lv_aload_n hx hb dX1_findBestMove_11 rfl (lv_at hl 0 rfl) ?_
  refine lv_aload_n hx hb dX1_findBestMove_12 rfl (lv_at hl 0 rfl) ?_
  refine c_getT1 X.1 h hk1 inX1_findBestMove_X1 (by decide +kernel) dX1_findBestMove_13 ?_
  obtain ⟨hk3, hw⟩ := hw
  refine c_get X.1 h (cids_b0 hk3.1) 9 (ckind_b hk3.2) (by decide) rfl inX1_findBestMove_X0 7 (by decide) (by decide +kernel) rfl rfl dX1_findBestMove_16 ?_
  refine c_put X.1 h (cids_m hk1.1 hk1.2) 10 ckind_m (by decide) rfl inX1_findBestMove_X1 tyX1 tyX1_ok nmX1 3 (by decide) (by decide +kernel) rfl rfl rfl rfl (Nat.le_of_ble_eq_true rfl) (fun _ _ => rfl) dX1_findBestMove_19 (fun C19 eC19 H locs h => ?_)
  have hw := hw C19 eC19
  have hk1 : tok C19 x0 := by rw [eC19]; exact hk1
  have hk2 : bok C19 (x0 / 16) := by rw [eC19]; exact hk2
  have hk3 : bok C19 (x0 % 16) := by rw [eC19]; exact hk3
  refine lv_aload_n hx hb dX1_findBestMove_22 rfl (lv_at hl 0 rfl) ?_
  refine lv_iload_n hx hb dX1_findBestMove_23 rfl (lv_at hl 2 rfl) ?_
  refine c_put X.1 h (cids_m hk1.1 hk1.2) 10 ckind_m (by decide) rfl inX1_findBestMove_X1 tyX1 tyX1_ok nmX1 4 (by decide) (by decide +kernel) rfl rfl rfl rfl (Nat.le_of_ble_eq_true rfl) (fun _ _ => rfl) dX1_findBestMove_24 (fun C24 eC24 H locs h => ?_)
  have hw := hw C24 eC24
  have hk1 : tok C24 x0 := by rw [eC24]; exact hk1
  have hk2 : bok C24 (x0 / 16) := by rw [eC24]; exact hk2
  have hk3 : bok C24 (x0 % 16) := by rw [eC24]; exact hk3
  refine lv_aload_n hx hb dX1_findBestMove_27 rfl (lv_at hl 0 rfl) ?_
  refine lv_iconst (v := (-1)) hx hb dX1_findBestMove_28 (by decide) ?_
  refine c_put X.1 h (cids_m hk1.1 hk1.2) 10 ckind_m (by decide) rfl inX1_findBestMove_X1 tyX1 tyX1_ok nmX1 5 (by decide) (by decide +kernel) rfl rfl rfl rfl (Nat.le_of_ble_eq_true rfl) (fun _ _ => rfl) dX1_findBestMove_29 (fun C29 eC29 H locs h => ?_)
  have hw := hw C29 eC29
  have hk1 : tok C29 x0 := by rw [eC29]; exact hk1
  have hk2 : bok C29 (x0 / 16) := by rw [eC29]; exact hk2
  have hk3 : bok C29 (x0 % 16) := by rw [eC29]; exact hk3
  refine lv_aload_n hx hb dX1_findBestMove_32 rfl (lv_at hl 1 rfl) ?_
  refine lv_aload_n hx hb dX1_findBestMove_33 rfl (lv_at hl 0 rfl) ?_
  refine c_getT0 X.1 h hk1 inX1_findBestMove_X1 (by decide +kernel) dX1_findBestMove_34 ?_
  refine lv_aload_n hx hb dX1_findBestMove_37 rfl (lv_at hl 0 rfl) ?_
  refine c_getT1 X.1 h hk1 inX1_findBestMove_X1 (by decide +kernel) dX1_findBestMove_38 ?_
  refine lv_iload_n hx hb dX1_findBestMove_41 rfl (lv_at hl 2 rfl) ?_
  refine c_gov X h (c_runV (n := 3) X h (cids_f (by decide)) 4 rfl (by decide) rfl (qX2_prepare l D cA n (x0 / 16) (x0 % 16) x2 ad _ _ _ hw) gX1_findBestMove_X2_prepare hl.1 dX1_findBestMove_42 rfl rfl rfl (by decide +kernel) ⟨Nat.le_of_ble_eq_true rfl, Nat.le_of_ble_eq_true rfl⟩ rfl rfl (Nat.le_of_ble_eq_true rfl) ⟨Nat.zero_le _, Nat.zero_le _⟩) (fun C42 H locs hw h => ?_)
  refine lv_aload_n hx hb dX1_findBestMove_45 rfl (lv_at hl 0 rfl) ?_
  obtain ⟨hk4, hw⟩ := hw
  refine c_getT0 X.1 h hk4 inX1_findBestMove_X1 (by decide +kernel) dX1_findBestMove_46 ?_
  refine lv_aload_n hx hb dX1_findBestMove_49 rfl (lv_at hl 0 rfl) ?_
  refine c_getT1 X.1 h hk4 inX1_findBestMove_X1 (by decide +kernel) dX1_findBestMove_50 ?_
  obtain ⟨hk5, hw⟩ := hw
  refine c_goi X h (c_runV (n := 1) X h (cids_b0 hk5.1) 9 (ckind_b hk5.2) (by decide) rfl (qX0_mostAgreeing l D cA n (x0 / 16) (x0 % 16) ad _ _ _ hw) gX1_findBestMove_X0_mostAgreeing hl.1 dX1_findBestMove_53 rfl rfl rfl (by decide +kernel) ⟨Nat.le_of_ble_eq_true rfl, Nat.le_of_ble_eq_true rfl⟩ rfl rfl (Nat.le_of_ble_eq_true rfl) ⟨Nat.zero_le _, Nat.zero_le _⟩) (fun r53 C53 H locs hw h => ?_)
  refine lv_istore_n (lv' := [(3, .int r53), (0, .ref (ad (256 + x0))), (1, .ref (ad 4)), (2, .int x2)]) hx hb dX1_findBestMove_56 rfl hl (by decide) rfl (fun ls hl => ?_)
  refine lv_iconst (v := 0) hx hb dX1_findBestMove_57 (by decide) ?_
  refine lv_istore (lv' := [(4, .int 0), (3, .int r53), (0, .ref (ad (256 + x0))), (1, .ref (ad 4)), (2, .int x2)]) hx hb dX1_findBestMove_58 hl (by decide) rfl (fun ls hl => ?_)
  exact kX1_findBestMove_60 X x0 r53 hret n 0 C53 _ _ ls hw h (lv_sub hl [2, 3, 1, 0] rfl)
def rmX1_fillMoved : Room := { frames := 2, cells := 0, slots := 0, locals := 42 }
theorem inX1_fillMoved_X1 : ∀ w ∈ wsX10, w ∈ wsX1_fillMoved := fun w h => List.mem_cons_of_mem _ (List.mem_append_left _ (List.mem_append_right _ h))
theorem inX1_fillMoved_X0 : ∀ w ∈ wsX00, w ∈ wsX1_fillMoved := fun w h => List.mem_cons_of_mem _ (List.mem_append_right _ h)
set_option maxHeartbeats 4000000 in
set_option maxRecDepth 100000 in
theorem kX1_fillMoved_8 {n : Nat} {E42 : Int32 → Int32 → cM → Prop} (X : cX p s m args meth c D cA A cX1_fillMoved 7 wsX1_fillMoved RX1) (x0 : Nat)
    (hE42 : ∀ (y3 : Int32) (y4 : Int32) (C : cM) (H : Heap) (locs : List Loc) (ls : Array Slot), E42 y3 y4 C → cH D cA ad A s.heap C H locs → lv_has ls 7 [(0, .ref (ad (256 + x0))), (3, .int y3), (4, .int y4)] → W p l e (headSpec wsX1_fillMoved rmX1_fillMoved).room s m args below meth c H locs 0 0 Z (F0 m 42 ls [])) :
    ∀ (k : Nat) (x3 : Int32) (x4 : Int32) (x5 : Int32) (C : cM) (H : Heap) (locs : List Loc) (ls : Array Slot), wpX1_fillMoved_8 n E42 x0 k x3 x4 x5 C → cH D cA ad A s.heap C H locs → lv_has ls 7 [(0, .ref (ad (256 + x0))), (3, .int x3), (4, .int x4), (5, .int x5)] → W p l e (headSpec wsX1_fillMoved rmX1_fillMoved).room s m args below meth c H locs 0 0 Z (F0 m 8 ls []) := by
  intro k
  induction k with
  | zero => intro x3 x4 x5 C H locs ls hw; exact hw.elim
  | succ k ih =>
    intro x3 x4 x5 C H locs ls hw h hl
    rw [wpX1_fillMoved_8] at hw
    obtain ⟨⟨hx, hb, hml, hown, hts, hK, hA⟩, hN⟩ := id X
    refine lv_iload hx hb dX1_fillMoved_8 (lv_at hl 3 rfl) ?_
    refine lv_aload_n hx hb dX1_fillMoved_10 rfl (lv_at hl 0 rfl) ?_
    obtain ⟨hk1, hw⟩ := hw
    refine c_get X.1 h (cids_m hk1.1 hk1.2) 10 ckind_m (by decide) rfl inX1_fillMoved_X1 6 (by decide) (by decide +kernel) rfl rfl dX1_fillMoved_11 ?_
    refine lv_icmp_ge (tgt := 42) hx hb dX1_fillMoved_14 (by decide) (fun c14 => ?_) (fun c14 => ?_)
    · have hw := hw.1 c14
      exact hE42 x3 x4 C _ _ ls hw h (lv_sub hl [0, 1, 2] rfl)
    · have hw := hw.2 c14
      refine lv_iload hx hb dX1_fillMoved_17 (lv_at hl 3 rfl) ?_
      refine lv_iconst (v := 4) hx hb dX1_fillMoved_19 (by decide) ?_
      refine lv_icmp_ge (tgt := 42) hx hb dX1_fillMoved_20 (by decide) (fun c20 => ?_) (fun c20 => ?_)
      · have hw := hw.1 c20
        exact hE42 x3 x4 C _ _ ls hw h (lv_sub hl [0, 1, 2] rfl)
      · have hw := hw.2 c20
        refine lv_iload_n hx hb dX1_fillMoved_23 rfl (lv_at hl 1 rfl) ?_
        refine lv_istore (lv' := [(6, .int x3), (0, .ref (ad (256 + x0))), (3, .int x3), (4, .int x4), (5, .int x5)]) hx hb dX1_fillMoved_24 hl (by decide) rfl (fun ls hl => ?_)
        refine lv_bipush (v := 23) hx hb dX1_fillMoved_26 (by decide) ?_
        refine lv_iload hx hb dX1_fillMoved_28 (lv_at hl 3 rfl) ?_
        refine lv_isub hx hb dX1_fillMoved_30 ?_
        refine lv_topi (fun x3_31 ex3_31 => ?_)
        have hw := hw x3_31 ex3_31
        refine lv_istore_n (lv' := [(3, .int x3_31), (6, .int x3), (0, .ref (ad (256 + x0))), (4, .int x4), (5, .int x5)]) hx hb dX1_fillMoved_31 rfl hl (by decide) rfl (fun ls hl => ?_)
        refine lv_iload hx hb dX1_fillMoved_32 (lv_at hl 1 rfl) ?_
        refine lv_istore (lv' := [(4, .int x3), (3, .int x3_31), (6, .int x3), (0, .ref (ad (256 + x0))), (5, .int x5)]) hx hb dX1_fillMoved_34 hl (by decide) rfl (fun ls hl => ?_)
        obtain ⟨x5_36, ex5_36⟩ : ∃ z : Int32, z = x5 + 1 := ⟨_, rfl⟩
        have hw := hw x5_36 ex5_36
        refine lv_iinc (v := x5_36) (lv' := [(5, .int x5_36), (4, .int x3), (3, .int x3_31), (6, .int x3), (0, .ref (ad (256 + x0)))]) hx hb dX1_fillMoved_36 hl (k := 4) rfl (by rw [ex5_36]; rfl) (by decide) rfl (fun ls hl => ?_)
        refine lv_goto (tgt := 8) hx hb dX1_fillMoved_39 (by decide) ?_
        exact ih x3_31 x3 x5_36 C _ _ ls hw h (lv_sub hl [4, 2, 1, 0] rfl)
set_option maxHeartbeats 4000000 in
set_option maxRecDepth 100000 in
theorem kX1_fillMoved_42 {n : Nat} {Q : Int32 → cM → Prop} (X : cX p s m args meth c D cA A cX1_fillMoved 7 wsX1_fillMoved RX1) (x0 : Nat) (x3 : Int32) (x4 : Int32)
    (hret : ∀ (r : Int32) (C : cM) (H : Heap) (locs : List Loc) (pc : Nat) (ls : Array Slot), bz r ∧ Q r C → cH D cA ad A s.heap C H locs → decode cX1_fillMoved pc = .ok (.ireturn, 1) → W p l e (headSpec wsX1_fillMoved rmX1_fillMoved).room s m args below meth c H locs 0 0 Z (F0 m pc ls [.int r])) :
    ∀ (C : cM) (H : Heap) (locs : List Loc) (ls : Array Slot), wpX1_fillMoved_42 n Q x0 x3 x4 C → cH D cA ad A s.heap C H locs → lv_has ls 7 [(0, .ref (ad (256 + x0))), (3, .int x3), (4, .int x4)] → W p l e (headSpec wsX1_fillMoved rmX1_fillMoved).room s m args below meth c H locs 0 0 Z (F0 m 42 ls []) := by
  intro C H locs ls hw h hl
  unfold wpX1_fillMoved_42 at hw
  obtain ⟨⟨hx, hb, hml, hown, hts, hK, hA⟩, hN⟩ := id X
  refine lv_iload_n hx hb dX1_fillMoved_42 rfl (lv_at hl 1 rfl) ?_
  refine lv_aload_n hx hb dX1_fillMoved_43 rfl (lv_at hl 0 rfl) ?_
  obtain ⟨hk2, hw⟩ := hw
  refine c_get X.1 h (cids_m hk2.1 hk2.2) 10 ckind_m (by decide) rfl inX1_fillMoved_X1 7 (by decide) (by decide +kernel) rfl rfl dX1_fillMoved_44 ?_
  refine lv_iadd hx hb dX1_fillMoved_47 ?_
  refine lv_topi (fun x3_48 ex3_48 => ?_)
  have hw := hw x3_48 ex3_48
  refine lv_istore_n (lv' := [(3, .int x3_48), (0, .ref (ad (256 + x0))), (4, .int x4)]) hx hb dX1_fillMoved_48 rfl hl (by decide) rfl (fun ls hl => ?_)
  refine lv_iload hx hb dX1_fillMoved_49 (lv_at hl 2 rfl) ?_
  refine lv_aload_n hx hb dX1_fillMoved_51 rfl (lv_at hl 1 rfl) ?_
  refine c_get X.1 h (cids_m hk2.1 hk2.2) 10 ckind_m (by decide) rfl inX1_fillMoved_X1 8 (by decide) (by decide +kernel) rfl rfl dX1_fillMoved_52 ?_
  refine lv_iadd hx hb dX1_fillMoved_55 ?_
  refine lv_topi (fun x4_56 ex4_56 => ?_)
  have hw := hw x4_56 ex4_56
  refine lv_istore (lv' := [(4, .int x4_56), (3, .int x3_48), (0, .ref (ad (256 + x0)))]) hx hb dX1_fillMoved_56 hl (by decide) rfl (fun ls hl => ?_)
  refine lv_iload_n hx hb dX1_fillMoved_58 rfl (lv_at hl 1 rfl) ?_
  refine c_goi X h (c_runSN (n := 1) X h (qX6_isOnBoard l D cA n x3_48 ad _ _ _ hw) hN.2.1 gX1_fillMoved_X6_isOnBoard_n77 (by decide +kernel) (by decide +kernel) hl.1 dX1_fillMoved_59 rfl rfl rfl (by decide +kernel) ⟨Nat.le_of_ble_eq_true rfl, Nat.le_of_ble_eq_true rfl⟩ rfl rfl (Nat.le_of_ble_eq_true rfl) ⟨Nat.zero_le _, Nat.zero_le _⟩) (fun r59 C59 H locs hw h => ?_)
  refine lv_if_eq (tgt := 90) hx hb dX1_fillMoved_62 (by decide) (fun c62 => ?_) (fun c62 => ?_)
  · have hw := hw.1 c62
    refine lv_iconst (v := 0) hx hb dX1_fillMoved_90 (by decide) ?_
    exact hret 0 C59 _ _ _ ls hw h dX1_fillMoved_91
  · have hw := hw.2 c62
    refine lv_iload hx hb dX1_fillMoved_65 (lv_at hl 0 rfl) ?_
    refine c_goi X h (c_runSN (n := 1) X h (qX6_isOnBoard l D cA n x4_56 ad _ _ _ hw) hN.2.1 gX1_fillMoved_X6_isOnBoard_n77 (by decide +kernel) (by decide +kernel) hl.1 dX1_fillMoved_67 rfl rfl rfl (by decide +kernel) ⟨Nat.le_of_ble_eq_true rfl, Nat.le_of_ble_eq_true rfl⟩ rfl rfl (Nat.le_of_ble_eq_true rfl) ⟨Nat.zero_le _, Nat.zero_le _⟩) (fun r67 C67 H locs hw h => ?_)
    refine lv_if_eq (tgt := 90) hx hb dX1_fillMoved_70 (by decide) (fun c70 => ?_) (fun c70 => ?_)
    · have hw := hw.1 c70
      refine lv_iconst (v := 0) hx hb dX1_fillMoved_90 (by decide) ?_
      exact hret 0 C67 _ _ _ ls hw h dX1_fillMoved_91
    · have hw := hw.2 c70
      refine lv_aload_n hx hb dX1_fillMoved_73 rfl (lv_at hl 2 rfl) ?_
      obtain ⟨hk3, hw⟩ := hw
      refine c_getT1 X.1 h hk3 inX1_fillMoved_X1 (by decide +kernel) dX1_fillMoved_74 ?_
      obtain ⟨hk4, hw⟩ := hw
      refine c_get X.1 h (cids_b0 hk4.1) 9 (ckind_b hk4.2) (by decide) rfl inX1_fillMoved_X0 0 (by decide) (by decide +kernel) rfl rfl dX1_fillMoved_77 ?_
      refine lv_iload hx hb dX1_fillMoved_80 (lv_at hl 0 rfl) ?_
      obtain ⟨hk5, hw⟩ := hw
      refine c_iald X.1 h (cids_b hk4.1 1 (by decide)) (ckind_ba hk4.2 (by decide) (by decide)) (n := 24) (ilen_ba (by decide)) hk5 dX1_fillMoved_82 ?_
      refine lv_iload_n hx hb dX1_fillMoved_83 rfl (lv_at hl 1 rfl) ?_
      refine lv_iushr (v := ush (cI C67 (64 + 8 * (x0 % 16) + 1) x4_56.toNatClampNeg) x3_48) hx hb dX1_fillMoved_84 rfl ?_
      refine lv_iconst (v := 1) hx hb dX1_fillMoved_85 (by decide) ?_
      refine lv_iand hx hb dX1_fillMoved_86 ?_
      refine lv_if_eq (tgt := 92) hx hb dX1_fillMoved_87 (by decide) (fun c87 => ?_) (fun c87 => ?_)
      · have hw := hw.1 c87
        refine lv_aload_n hx hb dX1_fillMoved_92 rfl (lv_at hl 2 rfl) ?_
        refine c_getT1 X.1 h hk3 inX1_fillMoved_X1 (by decide +kernel) dX1_fillMoved_93 ?_
        refine lv_iload hx hb dX1_fillMoved_96 (lv_at hl 0 rfl) ?_
        refine lv_aload_n hx hb dX1_fillMoved_98 rfl (lv_at hl 2 rfl) ?_
        refine c_getT1 X.1 h hk3 inX1_fillMoved_X1 (by decide +kernel) dX1_fillMoved_99 ?_
        refine c_get X.1 h (cids_b0 hk4.1) 9 (ckind_b hk4.2) (by decide) rfl inX1_fillMoved_X0 0 (by decide) (by decide +kernel) rfl rfl dX1_fillMoved_102 ?_
        refine lv_iload hx hb dX1_fillMoved_105 (lv_at hl 0 rfl) ?_
        refine c_iald X.1 h (cids_b hk4.1 1 (by decide)) (ckind_ba hk4.2 (by decide) (by decide)) (n := 24) (ilen_ba (by decide)) hk5 dX1_fillMoved_107 ?_
        refine lv_iconst (v := 1) hx hb dX1_fillMoved_108 (by decide) ?_
        refine lv_iload_n hx hb dX1_fillMoved_109 rfl (lv_at hl 1 rfl) ?_
        refine lv_ishl hx hb dX1_fillMoved_110 ?_
        refine lv_ior hx hb dX1_fillMoved_111 ?_
        refine c_gov X h (c_runV (n := 2) X h (cids_b0 hk4.1) 9 (ckind_b hk4.2) (by decide) rfl (qX0_tell l D cA n (x0 % 16) x4_56 ((cI C67 (64 + 8 * (x0 % 16) + 1) x4_56.toNatClampNeg) ||| (1 <<< (x3_48 &&& 31))) ad _ _ _ hw) gX1_fillMoved_X0_tell hl.1 dX1_fillMoved_112 rfl rfl rfl (by decide +kernel) ⟨Nat.le_of_ble_eq_true rfl, Nat.le_of_ble_eq_true rfl⟩ rfl rfl (Nat.le_of_ble_eq_true rfl) ⟨Nat.zero_le _, Nat.zero_le _⟩) (fun C112 H locs hw h => ?_)
        refine lv_iconst (v := 1) hx hb dX1_fillMoved_115 (by decide) ?_
        exact hret 1 C112 _ _ _ ls hw h dX1_fillMoved_116
      · have hw := hw.2 c87
        refine lv_iconst (v := 0) hx hb dX1_fillMoved_90 (by decide) ?_
        exact hret 0 C67 _ _ _ ls hw h dX1_fillMoved_91
set_option maxHeartbeats 4000000 in
set_option maxRecDepth 100000 in
theorem qX1_fillMoved (l : Launch) (D : va_G) (cA : Nat → ClassId) (n : Nat) (x0 : Nat) (x1 : Int32) (x2 : Int32) : cMi l D cA yX1_fillMoved wsX1_fillMoved rmX1_fillMoved (fun ad => [.ref (ad (256 + x0)), .int x1, .int x2]) (wpX1_fillMoved n x0 x1 x2) := by
  intro ad sz C Q hw
  unfold wpX1_fillMoved at hw
  refine c_enter (cc := cX1_fillMoved) (maxL := 7) (ret := some .boolean) (own := RX1) (by decide) rfl rfl (Nat.le_of_ble_eq_true rfl) ?_
  intro p e s m args below meth c hsz X hr hlocks h ls hl
  have hret := c_zret (p := p) (l := l) (e := e) (R := (headSpec wsX1_fillMoved rmX1_fillMoved).room) (s := s) (m := m) (args := args) (below := below) (meth := meth) (c := c) (cc := cX1_fillMoved) (D := D) (cA := cA) (ad := ad) (A := va_A (cws cA ad C) sz) (Q := Q) X.1.1 X.1.2.1 hr hlocks X.1.2.2.2.2.2.1
  obtain ⟨⟨hx, hb, hml, hown, hts, hK, hA⟩, hN⟩ := id X
  have hl : lv_has ls 7 [(0, .ref (ad (256 + x0))), (1, .int x1), (2, .int x2)] := hl
  refine lv_iload_n hx hb dX1_fillMoved_0 rfl (lv_at hl 1 rfl) ?_
  refine lv_istore_n (lv' := [(3, .int x1), (0, .ref (ad (256 + x0))), (1, .int x1), (2, .int x2)]) hx hb dX1_fillMoved_1 rfl hl (by decide) rfl (fun ls hl => ?_)
  refine lv_iload_n hx hb dX1_fillMoved_2 rfl (lv_at hl 3 rfl) ?_
  refine lv_istore (lv' := [(4, .int x2), (3, .int x1), (0, .ref (ad (256 + x0))), (1, .int x1), (2, .int x2)]) hx hb dX1_fillMoved_3 hl (by decide) rfl (fun ls hl => ?_)
  refine lv_iconst (v := 0) hx hb dX1_fillMoved_5 (by decide) ?_
  refine lv_istore (lv' := [(5, .int 0), (4, .int x2), (3, .int x1), (0, .ref (ad (256 + x0))), (1, .int x1), (2, .int x2)]) hx hb dX1_fillMoved_6 hl (by decide) rfl (fun ls hl => ?_)
  refine kX1_fillMoved_8 X x0 (fun y3_8 y4_8 C_8 H locs ls hw h hl => ?_) n x1 x2 0 C _ _ ls hw h (lv_sub hl [3, 2, 1, 0] rfl)
  exact kX1_fillMoved_42 X x0 y3_8 y4_8 hret C_8 _ _ ls hw h (lv_sub hl [0, 1, 2] rfl)
def rmX1_bringTogether : Room := { frames := 3, cells := 0, slots := 0, locals := 68 }
theorem inX1_bringTogether_X1 : ∀ w ∈ wsX10, w ∈ wsX1_bringTogether := fun w h => List.mem_cons_of_mem _ (List.mem_append_left _ (List.mem_append_right _ h))
theorem inX1_bringTogether_X0 : ∀ w ∈ wsX00, w ∈ wsX1_bringTogether := fun w h => List.mem_cons_of_mem _ (List.mem_append_right _ h)
set_option maxHeartbeats 4000000 in
set_option maxRecDepth 100000 in
theorem kX1_bringTogether_23 {n : Nat} {E62 : Int32 → cM → Prop} (X : cX p s m args meth c D cA A cX1_bringTogether 5 wsX1_bringTogether RX1) (x0 : Nat) (x2 : Int32) (x3 : Int32)
    (hE62 : ∀ (y1 : Int32) (C : cM) (H : Heap) (locs : List Loc) (ls : Array Slot), E62 y1 C → cH D cA ad A s.heap C H locs → lv_has ls 5 [(0, .ref (ad (256 + x0))), (1, .int y1), (2, .int x2)] → W p l e (headSpec wsX1_bringTogether rmX1_bringTogether).room s m args below meth c H locs 0 0 Z (F0 m 62 ls [])) :
    ∀ (k : Nat) (x1 : Int32) (x4 : Int32) (C : cM) (H : Heap) (locs : List Loc) (ls : Array Slot), wpX1_bringTogether_23 n E62 x0 x2 x3 k x1 x4 C → cH D cA ad A s.heap C H locs → lv_has ls 5 [(0, .ref (ad (256 + x0))), (1, .int x1), (2, .int x2), (3, .int x3), (4, .int x4)] → W p l e (headSpec wsX1_bringTogether rmX1_bringTogether).room s m args below meth c H locs 0 0 Z (F0 m 23 ls []) := by
  intro k
  induction k with
  | zero => intro x1 x4 C H locs ls hw; exact hw.elim
  | succ k ih =>
    intro x1 x4 C H locs ls hw h hl
    rw [wpX1_bringTogether_23] at hw
    obtain ⟨⟨hx, hb, hml, hown, hts, hK, hA⟩, hN⟩ := id X
    refine lv_iload_n hx hb dX1_bringTogether_23 rfl (lv_at hl 3 rfl) ?_
    refine lv_if_eq (tgt := 62) hx hb dX1_bringTogether_24 (by decide) (fun c24 => ?_) (fun c24 => ?_)
    · have hw := hw.1 c24
      exact hE62 x1 C _ _ ls hw h (lv_sub hl [0, 1, 2] rfl)
    · have hw := hw.2 c24
      refine lv_iload hx hb dX1_bringTogether_27 (lv_at hl 4 rfl) ?_
      refine lv_bipush (v := 24) hx hb dX1_bringTogether_29 (by decide) ?_
      refine lv_icmp_ge (tgt := 62) hx hb dX1_bringTogether_31 (by decide) (fun c31 => ?_) (fun c31 => ?_)
      · have hw := hw.1 c31
        exact hE62 x1 C _ _ ls hw h (lv_sub hl [0, 1, 2] rfl)
      · have hw := hw.2 c31
        refine lv_iload_n hx hb dX1_bringTogether_34 rfl (lv_at hl 3 rfl) ?_
        refine lv_iload hx hb dX1_bringTogether_35 (lv_at hl 4 rfl) ?_
        refine lv_iushr (v := ush x3 x4) hx hb dX1_bringTogether_37 rfl ?_
        refine lv_iconst (v := 1) hx hb dX1_bringTogether_38 (by decide) ?_
        refine lv_iand hx hb dX1_bringTogether_39 ?_
        refine lv_if_eq (tgt := 56) hx hb dX1_bringTogether_40 (by decide) (fun c40 => ?_) (fun c40 => ?_)
        · have hw := hw.1 c40
          obtain ⟨x4_56, ex4_56⟩ : ∃ z : Int32, z = x4 + 1 := ⟨_, rfl⟩
          have hw := hw x4_56 ex4_56
          refine lv_iinc (v := x4_56) (lv' := [(4, .int x4_56), (0, .ref (ad (256 + x0))), (1, .int x1), (2, .int x2), (3, .int x3)]) hx hb dX1_bringTogether_56 hl (k := 4) rfl (by rw [ex4_56]; rfl) (by decide) rfl (fun ls hl => ?_)
          refine lv_goto (tgt := 23) hx hb dX1_bringTogether_59 (by decide) ?_
          exact ih x1 x4_56 C _ _ ls hw h (lv_sub hl [1, 2, 3, 4, 0] rfl)
        · have hw := hw.2 c40
          refine lv_aload_n hx hb dX1_bringTogether_43 rfl (lv_at hl 0 rfl) ?_
          refine lv_iload hx hb dX1_bringTogether_44 (lv_at hl 4 rfl) ?_
          refine lv_iload_n hx hb dX1_bringTogether_46 rfl (lv_at hl 2 rfl) ?_
          obtain ⟨hk4, hw⟩ := hw
          refine c_goi X h (c_runV (n := 2) X h (cids_m hk4.1 hk4.2) 10 ckind_m (by decide) rfl (qX1_fillMoved l D cA n x0 x4 x2 ad _ _ _ hw) gX1_bringTogether_X1_fillMoved hl.1 dX1_bringTogether_47 rfl rfl rfl (by decide +kernel) ⟨Nat.le_of_ble_eq_true rfl, Nat.le_of_ble_eq_true rfl⟩ rfl rfl (Nat.le_of_ble_eq_true rfl) ⟨Nat.zero_le _, Nat.zero_le _⟩) (fun r47 C47 H locs hw h => ?_)
          refine lv_if_eq (tgt := 56) hx hb dX1_bringTogether_50 (by decide) (fun c50 => ?_) (fun c50 => ?_)
          · have hw := hw.1 c50
            obtain ⟨x4_56, ex4_56⟩ : ∃ z : Int32, z = x4 + 1 := ⟨_, rfl⟩
            have hw := hw x4_56 ex4_56
            refine lv_iinc (v := x4_56) (lv' := [(4, .int x4_56), (0, .ref (ad (256 + x0))), (1, .int x1), (2, .int x2), (3, .int x3)]) hx hb dX1_bringTogether_56 hl (k := 4) rfl (by rw [ex4_56]; rfl) (by decide) rfl (fun ls hl => ?_)
            refine lv_goto (tgt := 23) hx hb dX1_bringTogether_59 (by decide) ?_
            exact ih x1 x4_56 C47 _ _ ls hw h (lv_sub hl [1, 2, 3, 4, 0] rfl)
          · have hw := hw.2 c50
            obtain ⟨x1_53, ex1_53⟩ : ∃ z : Int32, z = x1 + 1 := ⟨_, rfl⟩
            have hw := hw x1_53 ex1_53
            refine lv_iinc (v := x1_53) (lv' := [(1, .int x1_53), (0, .ref (ad (256 + x0))), (2, .int x2), (3, .int x3), (4, .int x4)]) hx hb dX1_bringTogether_53 hl (k := 1) rfl (by rw [ex1_53]; rfl) (by decide) rfl (fun ls hl => ?_)
            obtain ⟨x4_56, ex4_56⟩ : ∃ z : Int32, z = x4 + 1 := ⟨_, rfl⟩
            have hw := hw x4_56 ex4_56
            refine lv_iinc (v := x4_56) (lv' := [(4, .int x4_56), (1, .int x1_53), (0, .ref (ad (256 + x0))), (2, .int x2), (3, .int x3)]) hx hb dX1_bringTogether_56 hl (k := 4) rfl (by rw [ex4_56]; rfl) (by decide) rfl (fun ls hl => ?_)
            refine lv_goto (tgt := 23) hx hb dX1_bringTogether_59 (by decide) ?_
            exact ih x1_53 x4_56 C47 _ _ ls hw h (lv_sub hl [2, 1, 3, 4, 0] rfl)
set_option maxHeartbeats 4000000 in
set_option maxRecDepth 100000 in
theorem kX1_bringTogether_4 {n : Nat} {Q : Int32 → cM → Prop} (X : cX p s m args meth c D cA A cX1_bringTogether 5 wsX1_bringTogether RX1) (x0 : Nat)
    (hret : ∀ (r : Int32) (C : cM) (H : Heap) (locs : List Loc) (pc : Nat) (ls : Array Slot), Q r C → cH D cA ad A s.heap C H locs → decode cX1_bringTogether pc = .ok (.ireturn, 1) → W p l e (headSpec wsX1_bringTogether rmX1_bringTogether).room s m args below meth c H locs 0 0 Z (F0 m pc ls [.int r])) :
    ∀ (k : Nat) (x1 : Int32) (x2 : Int32) (C : cM) (H : Heap) (locs : List Loc) (ls : Array Slot), wpX1_bringTogether_4 n Q x0 k x1 x2 C → cH D cA ad A s.heap C H locs → lv_has ls 5 [(0, .ref (ad (256 + x0))), (1, .int x1), (2, .int x2)] → W p l e (headSpec wsX1_bringTogether rmX1_bringTogether).room s m args below meth c H locs 0 0 Z (F0 m 4 ls []) := by
  intro k
  induction k with
  | zero => intro x1 x2 C H locs ls hw; exact hw.elim
  | succ k ih =>
    intro x1 x2 C H locs ls hw h hl
    rw [wpX1_bringTogether_4] at hw
    obtain ⟨⟨hx, hb, hml, hown, hts, hK, hA⟩, hN⟩ := id X
    refine lv_iload_n hx hb dX1_bringTogether_4 rfl (lv_at hl 2 rfl) ?_
    refine lv_bipush (v := 24) hx hb dX1_bringTogether_5 (by decide) ?_
    refine lv_icmp_ge (tgt := 68) hx hb dX1_bringTogether_7 (by decide) (fun c7 => ?_) (fun c7 => ?_)
    · have hw := hw.1 c7
      refine lv_iload_n hx hb dX1_bringTogether_68 rfl (lv_at hl 1 rfl) ?_
      exact hret x1 C _ _ _ ls hw h dX1_bringTogether_69
    · have hw := hw.2 c7
      refine lv_aload_n hx hb dX1_bringTogether_10 rfl (lv_at hl 0 rfl) ?_
      obtain ⟨hk1, hw⟩ := hw
      refine c_getT0 X.1 h hk1 inX1_bringTogether_X1 (by decide +kernel) dX1_bringTogether_11 ?_
      obtain ⟨hk2, hw⟩ := hw
      refine c_get X.1 h (cids_b0 hk2.1) 9 (ckind_b hk2.2) (by decide) rfl inX1_bringTogether_X0 0 (by decide) (by decide +kernel) rfl rfl dX1_bringTogether_14 ?_
      refine lv_iload_n hx hb dX1_bringTogether_17 rfl (lv_at hl 2 rfl) ?_
      obtain ⟨hk3, hw⟩ := hw
      refine c_iald X.1 h (cids_b hk2.1 1 (by decide)) (ckind_ba hk2.2 (by decide) (by decide)) (n := 24) (ilen_ba (by decide)) hk3 dX1_bringTogether_18 ?_
      refine lv_topi (fun x3_19 ex3_19 => ?_)
      have hw := hw x3_19 ex3_19
      refine lv_istore_n (lv' := [(3, .int x3_19), (0, .ref (ad (256 + x0))), (1, .int x1), (2, .int x2)]) hx hb dX1_bringTogether_19 rfl hl (by decide) rfl (fun ls hl => ?_)
      refine lv_iconst (v := 0) hx hb dX1_bringTogether_20 (by decide) ?_
      refine lv_istore (lv' := [(4, .int 0), (3, .int x3_19), (0, .ref (ad (256 + x0))), (1, .int x1), (2, .int x2)]) hx hb dX1_bringTogether_21 hl (by decide) rfl (fun ls hl => ?_)
      refine kX1_bringTogether_23 X x0 x2 x3_19 (fun y1_23 C_23 H locs ls hw h hl => ?_) n x1 0 C _ _ ls hw h (lv_sub hl [2, 3, 4, 1, 0] rfl)
      obtain ⟨x2_62, ex2_62⟩ : ∃ z : Int32, z = x2 + 1 := ⟨_, rfl⟩
      have hw := hw x2_62 ex2_62
      refine lv_iinc (v := x2_62) (lv' := [(2, .int x2_62), (0, .ref (ad (256 + x0))), (1, .int y1_23)]) hx hb dX1_bringTogether_62 hl (k := 2) rfl (by rw [ex2_62]; rfl) (by decide) rfl (fun ls hl => ?_)
      refine lv_goto (tgt := 4) hx hb dX1_bringTogether_65 (by decide) ?_
      exact ih y1_23 x2_62 C_23 _ _ ls hw h (lv_sub hl [1, 2, 0] rfl)
set_option maxHeartbeats 4000000 in
set_option maxRecDepth 100000 in
theorem qX1_bringTogether (l : Launch) (D : va_G) (cA : Nat → ClassId) (n : Nat) (x0 : Nat) : cMi l D cA yX1_bringTogether wsX1_bringTogether rmX1_bringTogether (fun ad => [.ref (ad (256 + x0))]) (wpX1_bringTogether n x0) := by
  intro ad sz C Q hw
  unfold wpX1_bringTogether at hw
  refine c_enter (cc := cX1_bringTogether) (maxL := 5) (ret := some .int) (own := RX1) (by decide) rfl rfl (Nat.le_of_ble_eq_true rfl) ?_
  intro p e s m args below meth c hsz X hr hlocks h ls hl
  have hret := c_iret (p := p) (l := l) (e := e) (R := (headSpec wsX1_bringTogether rmX1_bringTogether).room) (s := s) (m := m) (args := args) (below := below) (meth := meth) (c := c) (cc := cX1_bringTogether) (D := D) (cA := cA) (ad := ad) (A := va_A (cws cA ad C) sz) (Q := Q) X.1.1 X.1.2.1 hr hlocks X.1.2.2.2.2.2.1
  obtain ⟨⟨hx, hb, hml, hown, hts, hK, hA⟩, hN⟩ := id X
  have hl : lv_has ls 5 [(0, .ref (ad (256 + x0)))] := hl
  refine lv_iconst (v := 0) hx hb dX1_bringTogether_0 (by decide) ?_
  refine lv_istore_n (lv' := [(1, .int 0), (0, .ref (ad (256 + x0)))]) hx hb dX1_bringTogether_1 rfl hl (by decide) rfl (fun ls hl => ?_)
  refine lv_iconst (v := 0) hx hb dX1_bringTogether_2 (by decide) ?_
  refine lv_istore_n (lv' := [(2, .int 0), (1, .int 0), (0, .ref (ad (256 + x0)))]) hx hb dX1_bringTogether_3 rfl hl (by decide) rfl (fun ls hl => ?_)
  exact kX1_bringTogether_4 X x0 hret n 0 0 C _ _ ls hw h (lv_sub hl [2, 1, 0] rfl)
end KC
