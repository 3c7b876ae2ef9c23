section KC
variable {p : Program} {l : Launch} {e : Env} {s : State} {m : MethodId} {args : Array Value} {below : List Frame} {meth : Method} {c : Code} {Z : State → Prop} {D : va_G} {cA : Nat → ClassId} {A : Nat → Prop} {ad : Nat → Nat}
def rmX5_takeAway : Room := { frames := 2, cells := 0, slots := 0, locals := 47 }
theorem inX5_takeAway_X5 : ∀ w ∈ wsX50, w ∈ wsX5_takeAway := fun w h => List.mem_cons_of_mem _ (List.mem_append_left _ (List.mem_append_left _ (List.mem_append_right _ h)))
theorem inX5_takeAway_X3 : ∀ w ∈ wsX30, w ∈ wsX5_takeAway := fun w h => List.mem_cons_of_mem _ (List.mem_append_left _ (List.mem_append_right _ h))
theorem inX5_takeAway_X4 : ∀ w ∈ wsX40, w ∈ wsX5_takeAway := fun w h => List.mem_cons_of_mem _ (List.mem_append_right _ h)
set_option maxHeartbeats 4000000 in
set_option maxRecDepth 100000 in
theorem kX5_takeAway_5 {n : Nat} {E53 : Int32 → cM → Prop} (X : cX p s m args meth c D cA A cX5_takeAway 5 wsX5_takeAway RX5) (x1 : Nat) (x2 : Int32)
    (hE53 : ∀ (y3 : Int32) (C : cM) (H : Heap) (locs : List Loc) (ls : Array Slot), E53 y3 C → cH D cA ad A s.heap C H locs → lv_has ls 5 [(0, .ref (ad 3)), (1, .ref (ad (64 + 8 * x1 + 2))), (3, .int y3)] → W p l e (headSpec wsX5_takeAway rmX5_takeAway).room s m args below meth c H locs 0 0 Z (F0 m 53 ls [])) :
    ∀ (k : Nat) (x3 : Int32) (x4 : Int32) (C : cM) (H : Heap) (locs : List Loc) (ls : Array Slot), wpX5_takeAway_5 n E53 x1 x2 k x3 x4 C → cH D cA ad A s.heap C H locs → lv_has ls 5 [(0, .ref (ad 3)), (1, .ref (ad (64 + 8 * x1 + 2))), (2, .int x2), (3, .int x3), (4, .int x4)] → W p l e (headSpec wsX5_takeAway rmX5_takeAway).room s m args below meth c H locs 0 0 Z (F0 m 5 ls []) := by
  intro k
  induction k with
  | zero => intro x3 x4 C H locs ls hw; exact hw.elim
  | succ k ih =>
    intro x3 x4 C H locs ls hw h hl
    rw [wpX5_takeAway_5] at hw
    obtain ⟨⟨hx, hb, hml, hown, hts, hK, hA⟩, hN⟩ := id X
    refine lv_iload hx hb dX5_takeAway_5 (lv_at hl 4 rfl) ?_
    refine lv_bipush (v := 24) hx hb dX5_takeAway_7 (by decide) ?_
    refine lv_icmp_ge (tgt := 53) hx hb dX5_takeAway_9 (by decide) (fun c9 => ?_) (fun c9 => ?_)
    · have hw := hw.1 c9
      exact hE53 x3 C _ _ ls hw h (lv_sub hl [0, 1, 3] rfl)
    · have hw := hw.2 c9
      refine lv_aload_n hx hb dX5_takeAway_12 rfl (lv_at hl 0 rfl) ?_
      refine c_get X.1 h (cids_f (by decide)) 3 rfl (by decide) rfl inX5_takeAway_X5 0 (by decide) (by decide +kernel) rfl rfl dX5_takeAway_13 ?_
      refine lv_aload_n hx hb dX5_takeAway_16 rfl (lv_at hl 1 rfl) ?_
      refine lv_iload hx hb dX5_takeAway_17 (lv_at hl 4 rfl) ?_
      refine c_gov X h (c_runV (n := 2) X h (cids_f (by decide)) 6 rfl (by decide) rfl (qX3_look l D cA n x1 x4 ad _ _ _ hw) gX5_takeAway_X3_look hl.1 dX5_takeAway_19 rfl rfl rfl (by decide +kernel) ⟨Nat.le_of_ble_eq_true rfl, Nat.le_of_ble_eq_true rfl⟩ rfl rfl (Nat.le_of_ble_eq_true rfl) ⟨Nat.zero_le _, Nat.zero_le _⟩) (fun C19 H locs hw h => ?_)
      refine lv_aload_n hx hb dX5_takeAway_22 rfl (lv_at hl 0 rfl) ?_
      refine c_get X.1 h (cids_f (by decide)) 3 rfl (by decide) rfl inX5_takeAway_X5 1 (by decide) (by decide +kernel) rfl rfl dX5_takeAway_23 ?_
      refine lv_iload hx hb dX5_takeAway_26 (lv_at hl 4 rfl) ?_
      refine lv_aload_n hx hb dX5_takeAway_28 rfl (lv_at hl 0 rfl) ?_
      refine c_get X.1 h (cids_f (by decide)) 3 rfl (by decide) rfl inX5_takeAway_X5 0 (by decide) (by decide +kernel) rfl rfl dX5_takeAway_29 ?_
      refine lv_iload_n hx hb dX5_takeAway_32 rfl (lv_at hl 2 rfl) ?_
      refine c_goi X h (c_runV (n := 1) X h (cids_f (by decide)) 6 rfl (by decide) rfl (qX3_takenInPass l D cA n x2 ad _ _ _ hw) gX5_takeAway_X3_takenInPass hl.1 dX5_takeAway_33 rfl rfl rfl (by decide +kernel) ⟨Nat.le_of_ble_eq_true rfl, Nat.le_of_ble_eq_true rfl⟩ rfl rfl (Nat.le_of_ble_eq_true rfl) ⟨Nat.zero_le _, Nat.zero_le _⟩) (fun r33 C33 H locs hw h => ?_)
      obtain ⟨hk1, hw⟩ := hw
      refine c_iast X.1 h (cids_f (by decide)) rfl (n := 24) rfl hk1 dX5_takeAway_36 (fun C36 eC36 H locs h => ?_)
      have hw := hw C36 eC36
      refine lv_iload_n hx hb dX5_takeAway_37 rfl (lv_at hl 3 rfl) ?_
      refine lv_aload_n hx hb dX5_takeAway_38 rfl (lv_at hl 0 rfl) ?_
      refine c_get X.1 h (cids_f (by decide)) 3 rfl (by decide) rfl inX5_takeAway_X5 1 (by decide) (by decide +kernel) rfl rfl dX5_takeAway_39 ?_
      refine lv_iload hx hb dX5_takeAway_42 (lv_at hl 4 rfl) ?_
      refine c_iald X.1 h (cids_f (by decide)) rfl (n := 24) rfl hk1 dX5_takeAway_44 ?_
      refine lv_ior hx hb dX5_takeAway_45 ?_
      refine lv_topi (fun x3_46 ex3_46 => ?_)
      have hw := hw x3_46 ex3_46
      refine lv_istore_n (lv' := [(3, .int x3_46), (0, .ref (ad 3)), (1, .ref (ad (64 + 8 * x1 + 2))), (2, .int x2), (4, .int x4)]) hx hb dX5_takeAway_46 rfl hl (by decide) rfl (fun ls hl => ?_)
      obtain ⟨x4_47, ex4_47⟩ : ∃ z : Int32, z = x4 + 1 := ⟨_, rfl⟩
      have hw := hw x4_47 ex4_47
      refine lv_iinc (v := x4_47) (lv' := [(4, .int x4_47), (3, .int x3_46), (0, .ref (ad 3)), (1, .ref (ad (64 + 8 * x1 + 2))), (2, .int x2)]) hx hb dX5_takeAway_47 hl (k := 4) rfl (by rw [ex4_47]; rfl) (by decide) rfl (fun ls hl => ?_)
      refine lv_goto (tgt := 5) hx hb dX5_takeAway_50 (by decide) ?_
      exact ih x3_46 x4_47 C36 _ _ ls hw h (lv_sub hl [2, 3, 4, 1, 0] rfl)
set_option maxHeartbeats 4000000 in
set_option maxRecDepth 100000 in
theorem kX5_takeAway_56 {n : Nat} {E92 : cM → Prop} (X : cX p s m args meth c D cA A cX5_takeAway 5 wsX5_takeAway RX5) (x1 : Nat) (x3 : Int32)
    (hE92 : ∀ (C : cM) (H : Heap) (locs : List Loc) (ls : Array Slot), E92 C → cH D cA ad A s.heap C H locs → lv_has ls 5 [(3, .int x3)] → W p l e (headSpec wsX5_takeAway rmX5_takeAway).room s m args below meth c H locs 0 0 Z (F0 m 92 ls [])) :
    ∀ (k : Nat) (x4 : Int32) (C : cM) (H : Heap) (locs : List Loc) (ls : Array Slot), wpX5_takeAway_56 n E92 x1 x3 k x4 C → cH D cA ad A s.heap C H locs → lv_has ls 5 [(0, .ref (ad 3)), (1, .ref (ad (64 + 8 * x1 + 2))), (3, .int x3), (4, .int x4)] → W p l e (headSpec wsX5_takeAway rmX5_takeAway).room s m args below meth c H locs 0 0 Z (F0 m 56 ls []) := by
  intro k
  induction k with
  | zero => intro x4 C H locs ls hw; exact hw.elim
  | succ k ih =>
    intro x4 C H locs ls hw h hl
    rw [wpX5_takeAway_56] at hw
    obtain ⟨⟨hx, hb, hml, hown, hts, hK, hA⟩, hN⟩ := id X
    refine lv_iload hx hb dX5_takeAway_56 (lv_at hl 3 rfl) ?_
    refine lv_bipush (v := 24) hx hb dX5_takeAway_58 (by decide) ?_
    refine lv_icmp_ge (tgt := 92) hx hb dX5_takeAway_60 (by decide) (fun c60 => ?_) (fun c60 => ?_)
    · have hw := hw.1 c60
      exact hE92 C _ _ ls hw h (lv_sub hl [2] rfl)
    · have hw := hw.2 c60
      refine lv_iload hx hb dX5_takeAway_63 (lv_at hl 3 rfl) ?_
      refine lv_aload_n hx hb dX5_takeAway_65 rfl (lv_at hl 1 rfl) ?_
      obtain ⟨hk2, hw⟩ := hw
      refine c_alenI X.1 h (cids_b hk2.1 2 (by decide)) (ckind_ba hk2.2 (by decide) (by decide)) (v := 24) (by rw [ilen_ba (by decide)]; rfl) dX5_takeAway_66 ?_
      refine lv_icmp_ge (tgt := 92) hx hb dX5_takeAway_67 (by decide) (fun c67 => ?_) (fun c67 => ?_)
      · have hw := hw.1 c67
        exact hE92 C _ _ ls hw h (lv_sub hl [2] rfl)
      · have hw := hw.2 c67
        refine lv_aload_n hx hb dX5_takeAway_70 rfl (lv_at hl 1 rfl) ?_
        refine lv_iload hx hb dX5_takeAway_71 (lv_at hl 3 rfl) ?_
        refine lv_dup2_11 hx hb dX5_takeAway_73 rfl rfl ?_
        obtain ⟨hk3, hw⟩ := hw
        refine c_iald X.1 h (cids_b hk2.1 2 (by decide)) (ckind_ba hk2.2 (by decide) (by decide)) (n := 24) (ilen_ba (by decide)) hk3 dX5_takeAway_74 ?_
        refine lv_aload_n hx hb dX5_takeAway_75 rfl (lv_at hl 0 rfl) ?_
        refine c_get X.1 h (cids_f (by decide)) 3 rfl (by decide) rfl inX5_takeAway_X5 1 (by decide) (by decide +kernel) rfl rfl dX5_takeAway_76 ?_
        refine lv_iload hx hb dX5_takeAway_79 (lv_at hl 3 rfl) ?_
        refine c_iald X.1 h (cids_f (by decide)) rfl (n := 24) rfl hk3 dX5_takeAway_81 ?_
        refine lv_iconst (v := (-1)) hx hb dX5_takeAway_82 (by decide) ?_
        refine lv_ixor hx hb dX5_takeAway_83 ?_
        refine lv_iand hx hb dX5_takeAway_84 ?_
        refine c_iast X.1 h (cids_b hk2.1 2 (by decide)) (ckind_ba hk2.2 (by decide) (by decide)) (n := 24) (ilen_ba (by decide)) hk3 dX5_takeAway_85 (fun C85 eC85 H locs h => ?_)
        have hw := hw C85 eC85
        have hk2 : bok C85 x1 := by rw [eC85]; exact hk2
        obtain ⟨x4_86, ex4_86⟩ : ∃ z : Int32, z = x4 + 1 := ⟨_, rfl⟩
        have hw := hw x4_86 ex4_86
        refine lv_iinc (v := x4_86) (lv' := [(4, .int x4_86), (0, .ref (ad 3)), (1, .ref (ad (64 + 8 * x1 + 2))), (3, .int x3)]) hx hb dX5_takeAway_86 hl (k := 3) rfl (by rw [ex4_86]; rfl) (by decide) rfl (fun ls hl => ?_)
        refine lv_goto (tgt := 56) hx hb dX5_takeAway_89 (by decide) ?_
        exact ih x4_86 C85 _ _ ls hw h (lv_sub hl [1, 2, 3, 0] rfl)
set_option maxHeartbeats 4000000 in
set_option maxRecDepth 100000 in
theorem kX5_takeAway_92 {n : Nat} {Q : Int32 → cM → Prop} (X : cX p s m args meth c D cA A cX5_takeAway 5 wsX5_takeAway RX5) (x3 : Int32)
    (hret : ∀ (r : Int32) (C : cM) (H : Heap) (locs : List Loc) (pc : Nat) (ls : Array Slot), bz r ∧ Q r C → cH D cA ad A s.heap C H locs → decode cX5_takeAway pc = .ok (.ireturn, 1) → W p l e (headSpec wsX5_takeAway rmX5_takeAway).room s m args below meth c H locs 0 0 Z (F0 m pc ls [.int r])) :
    ∀ (C : cM) (H : Heap) (locs : List Loc) (ls : Array Slot), wpX5_takeAway_92 n Q x3 C → cH D cA ad A s.heap C H locs → lv_has ls 5 [(3, .int x3)] → W p l e (headSpec wsX5_takeAway rmX5_takeAway).room s m args below meth c H locs 0 0 Z (F0 m 92 ls []) := by
  intro C H locs ls hw h hl
  unfold wpX5_takeAway_92 at hw
  obtain ⟨⟨hx, hb, hml, hown, hts, hK, hA⟩, hN⟩ := id X
  refine lv_iload_n hx hb dX5_takeAway_92 rfl (lv_at hl 0 rfl) ?_
  refine lv_if_eq (tgt := 100) hx hb dX5_takeAway_93 (by decide) (fun c93 => ?_) (fun c93 => ?_)
  · have hw := hw.1 c93
    refine lv_iconst (v := 0) hx hb dX5_takeAway_100 (by decide) ?_
    exact hret 0 C _ _ _ ls hw h dX5_takeAway_101
  · have hw := hw.2 c93
    refine lv_iconst (v := 1) hx hb dX5_takeAway_96 (by decide) ?_
    refine lv_goto (tgt := 101) hx hb dX5_takeAway_97 (by decide) ?_
    exact hret 1 C _ _ _ ls hw h dX5_takeAway_101
set_option maxHeartbeats 4000000 in
set_option maxRecDepth 100000 in
theorem qX5_takeAway (l : Launch) (D : va_G) (cA : Nat → ClassId) (n : Nat) (x1 : Nat) (x2 : Int32) : cMi l D cA yX5_takeAway wsX5_takeAway rmX5_takeAway (fun ad => [.ref (ad 3), .ref (ad (64 + 8 * x1 + 2)), .int x2]) (wpX5_takeAway n x1 x2) := by
  intro ad sz C Q hw
  unfold wpX5_takeAway at hw
  refine c_enter (cc := cX5_takeAway) (maxL := 5) (ret := some .boolean) (own := RX5) (by decide) rfl rfl (Nat.le_of_ble_eq_true rfl) ?_
  intro p e s m args below meth c hsz X hr hlocks h ls hl
  have hret := c_zret (p := p) (l := l) (e := e) (R := (headSpec wsX5_takeAway rmX5_takeAway).room) (s := s) (m := m) (args := args) (below := below) (meth := meth) (c := c) (cc := cX5_takeAway) (D := D) (cA := cA) (ad := ad) (A := va_A (cws cA ad C) sz) (Q := Q) X.1.1 X.1.2.1 hr hlocks X.1.2.2.2.2.2.1
  obtain ⟨⟨hx, hb, hml, hown, hts, hK, hA⟩, hN⟩ := id X
  have hl : lv_has ls 5 [(0, .ref (ad 3)), (1, .ref (ad (64 + 8 * x1 + 2))), (2, .int x2)] := hl
  refine lv_iconst (v := 0) hx hb dX5_takeAway_0 (by decide) ?_
  refine lv_istore_n (lv' := [(3, .int 0), (0, .ref (ad 3)), (1, .ref (ad (64 + 8 * x1 + 2))), (2, .int x2)]) hx hb dX5_takeAway_1 rfl hl (by decide) rfl (fun ls hl => ?_)
  refine lv_iconst (v := 0) hx hb dX5_takeAway_2 (by decide) ?_
  refine lv_istore (lv' := [(4, .int 0), (3, .int 0), (0, .ref (ad 3)), (1, .ref (ad (64 + 8 * x1 + 2))), (2, .int x2)]) hx hb dX5_takeAway_3 hl (by decide) rfl (fun ls hl => ?_)
  refine kX5_takeAway_5 X x1 x2 (fun y3_5 C_5 H locs ls hw h hl => ?_) n 0 0 C _ _ ls hw h (lv_sub hl [2, 3, 4, 1, 0] rfl)
  refine lv_iconst (v := 0) hx hb dX5_takeAway_53 (by decide) ?_
  refine lv_istore (lv' := [(4, .int 0), (0, .ref (ad 3)), (1, .ref (ad (64 + 8 * x1 + 2))), (3, .int y3_5)]) hx hb dX5_takeAway_54 hl (by decide) rfl (fun ls hl => ?_)
  refine kX5_takeAway_56 X x1 y3_5 (fun C_56 H locs ls hw h hl => ?_) n 0 C_5 _ _ ls hw h (lv_sub hl [1, 2, 3, 0] rfl)
  exact kX5_takeAway_92 X y3_5 hret C_56 _ _ ls hw h (lv_sub hl [0] rfl)
def rmX5_listMarks : Room := { frames := 2, cells := 0, slots := 0, locals := 47 }
theorem inX5_listMarks_X5 : ∀ w ∈ wsX50, w ∈ wsX5_listMarks := fun w h => List.mem_cons_of_mem _ (List.mem_append_left _ (List.mem_append_left _ (List.mem_append_left _ (List.mem_append_right _ h))))
theorem inX5_listMarks_X0 : ∀ w ∈ wsX00, w ∈ wsX5_listMarks := fun w h => List.mem_cons_of_mem _ (List.mem_append_left _ (List.mem_append_left _ (List.mem_append_right _ h)))
theorem inX5_listMarks_X3 : ∀ w ∈ wsX30, w ∈ wsX5_listMarks := fun w h => List.mem_cons_of_mem _ (List.mem_append_left _ (List.mem_append_right _ h))
theorem inX5_listMarks_X4 : ∀ w ∈ wsX40, w ∈ wsX5_listMarks := fun w h => List.mem_cons_of_mem _ (List.mem_append_right _ h)
set_option maxHeartbeats 4000000 in
set_option maxRecDepth 100000 in
theorem kX5_listMarks_44 {n : Nat} {E111 : cM → Prop} (X : cX p s m args meth c D cA A cX5_listMarks 6 wsX5_listMarks RX5) (x1 : Nat) (x2 : Int32) (x3 : Int32) (x4 : Int32)
    (hE111 : ∀ (C : cM) (H : Heap) (locs : List Loc) (ls : Array Slot), E111 C → cH D cA ad A s.heap C H locs → lv_has ls 6 [(0, .ref (ad 3)), (1, .ref (ad (64 + 8 * x1))), (2, .int x2)] → W p l e (headSpec wsX5_listMarks rmX5_listMarks).room s m args below meth c H locs 0 0 Z (F0 m 111 ls [])) :
    ∀ (k : Nat) (x5 : Int32) (C : cM) (H : Heap) (locs : List Loc) (ls : Array Slot), wpX5_listMarks_44 n E111 x1 x2 x3 x4 k x5 C → cH D cA ad A s.heap C H locs → lv_has ls 6 [(0, .ref (ad 3)), (1, .ref (ad (64 + 8 * x1))), (2, .int x2), (3, .int x3), (4, .int x4), (5, .int x5)] → W p l e (headSpec wsX5_listMarks rmX5_listMarks).room s m args below meth c H locs 0 0 Z (F0 m 44 ls []) := by
  intro k
  induction k with
  | zero => intro x5 C H locs ls hw; exact hw.elim
  | succ k ih =>
    intro x5 C H locs ls hw h hl
    rw [wpX5_listMarks_44] at hw
    obtain ⟨⟨hx, hb, hml, hown, hts, hK, hA⟩, hN⟩ := id X
    refine lv_iload_n hx hb dX5_listMarks_44 rfl (lv_at hl 3 rfl) ?_
    refine lv_iload hx hb dX5_listMarks_45 (lv_at hl 4 rfl) ?_
    refine lv_ior hx hb dX5_listMarks_47 ?_
    refine lv_if_eq (tgt := 111) hx hb dX5_listMarks_48 (by decide) (fun c48 => ?_) (fun c48 => ?_)
    · have hw := hw.1 c48
      exact hE111 C _ _ ls hw h (lv_sub hl [0, 1, 2] rfl)
    · have hw := hw.2 c48
      refine lv_iload hx hb dX5_listMarks_51 (lv_at hl 5 rfl) ?_
      refine lv_bipush (v := 23) hx hb dX5_listMarks_53 (by decide) ?_
      refine lv_icmp_ge (tgt := 111) hx hb dX5_listMarks_55 (by decide) (fun c55 => ?_) (fun c55 => ?_)
      · have hw := hw.1 c55
        exact hE111 C _ _ ls hw h (lv_sub hl [0, 1, 2] rfl)
      · have hw := hw.2 c55
        refine lv_iload_n hx hb dX5_listMarks_58 rfl (lv_at hl 3 rfl) ?_
        refine lv_iload hx hb dX5_listMarks_59 (lv_at hl 5 rfl) ?_
        refine lv_iushr (v := ush x3 x5) hx hb dX5_listMarks_61 rfl ?_
        refine lv_iconst (v := 1) hx hb dX5_listMarks_62 (by decide) ?_
        refine lv_iand hx hb dX5_listMarks_63 ?_
        refine lv_if_eq (tgt := 86) hx hb dX5_listMarks_64 (by decide) (fun c64 => ?_) (fun c64 => ?_)
        · have hw := hw.1 c64
          refine lv_iload hx hb dX5_listMarks_86 (lv_at hl 4 rfl) ?_
          refine lv_iload hx hb dX5_listMarks_88 (lv_at hl 5 rfl) ?_
          refine lv_iushr (v := ush x4 x5) hx hb dX5_listMarks_90 rfl ?_
          refine lv_iconst (v := 1) hx hb dX5_listMarks_91 (by decide) ?_
          refine lv_iand hx hb dX5_listMarks_92 ?_
          refine lv_if_eq (tgt := 105) hx hb dX5_listMarks_93 (by decide) (fun c93 => ?_) (fun c93 => ?_)
          · have hw := hw.1 c93
            obtain ⟨x5_105, ex5_105⟩ : ∃ z : Int32, z = x5 + 1 := ⟨_, rfl⟩
            have hw := hw x5_105 ex5_105
            refine lv_iinc (v := x5_105) (lv' := [(5, .int x5_105), (0, .ref (ad 3)), (1, .ref (ad (64 + 8 * x1))), (2, .int x2), (3, .int x3), (4, .int x4)]) hx hb dX5_listMarks_105 hl (k := 5) rfl (by rw [ex5_105]; rfl) (by decide) rfl (fun ls hl => ?_)
            refine lv_goto (tgt := 44) hx hb dX5_listMarks_108 (by decide) ?_
            exact ih x5_105 C _ _ ls hw h (lv_sub hl [1, 2, 3, 4, 5, 0] rfl)
          · have hw := hw.2 c93
            refine lv_aload_n hx hb dX5_listMarks_96 rfl (lv_at hl 1 rfl) ?_
            refine lv_iload hx hb dX5_listMarks_97 (lv_at hl 5 rfl) ?_
            refine lv_iload_n hx hb dX5_listMarks_99 rfl (lv_at hl 2 rfl) ?_
            refine lv_bipush (v := 8) hx hb dX5_listMarks_100 (by decide) ?_
            obtain ⟨hk3, hw⟩ := hw
            refine c_gov X h (c_runV (n := 3) X h (cids_b0 hk3.1) 9 (ckind_b hk3.2) (by decide) rfl (qX0_addMark l D cA n x1 x5 x2 8 ad _ _ _ hw) gX5_listMarks_X0_addMark hl.1 dX5_listMarks_102 rfl rfl rfl (by decide +kernel) ⟨Nat.le_of_ble_eq_true rfl, Nat.le_of_ble_eq_true rfl⟩ rfl rfl (Nat.le_of_ble_eq_true rfl) ⟨Nat.zero_le _, Nat.zero_le _⟩) (fun C102 H locs hw h => ?_)
            obtain ⟨x5_105, ex5_105⟩ : ∃ z : Int32, z = x5 + 1 := ⟨_, rfl⟩
            have hw := hw x5_105 ex5_105
            refine lv_iinc (v := x5_105) (lv' := [(5, .int x5_105), (0, .ref (ad 3)), (1, .ref (ad (64 + 8 * x1))), (2, .int x2), (3, .int x3), (4, .int x4)]) hx hb dX5_listMarks_105 hl (k := 5) rfl (by rw [ex5_105]; rfl) (by decide) rfl (fun ls hl => ?_)
            refine lv_goto (tgt := 44) hx hb dX5_listMarks_108 (by decide) ?_
            exact ih x5_105 C102 _ _ ls hw h (lv_sub hl [1, 2, 3, 4, 5, 0] rfl)
        · have hw := hw.2 c64
          refine lv_aload_n hx hb dX5_listMarks_67 rfl (lv_at hl 1 rfl) ?_
          refine lv_iload hx hb dX5_listMarks_68 (lv_at hl 5 rfl) ?_
          refine lv_iload_n hx hb dX5_listMarks_70 rfl (lv_at hl 2 rfl) ?_
          refine lv_aload_n hx hb dX5_listMarks_71 rfl (lv_at hl 0 rfl) ?_
          refine c_get X.1 h (cids_f (by decide)) 3 rfl (by decide) rfl inX5_listMarks_X5 0 (by decide) (by decide +kernel) rfl rfl dX5_listMarks_72 ?_
          refine lv_iload hx hb dX5_listMarks_75 (lv_at hl 5 rfl) ?_
          refine c_goi X h (c_runV (n := 1) X h (cids_f (by decide)) 6 rfl (by decide) rfl (qX3_directionOfEnd l D cA n x5 ad _ _ _ hw) gX5_listMarks_X3_directionOfEnd hl.1 dX5_listMarks_77 rfl rfl rfl (by decide +kernel) ⟨Nat.le_of_ble_eq_true rfl, Nat.le_of_ble_eq_true rfl⟩ rfl rfl (Nat.le_of_ble_eq_true rfl) ⟨Nat.zero_le _, Nat.zero_le _⟩) (fun r77 C77 H locs hw h => ?_)
          obtain ⟨hk4, hw⟩ := hw
          refine c_gov X h (c_runV (n := 3) X h (cids_b0 hk4.1) 9 (ckind_b hk4.2) (by decide) rfl (qX0_addMark l D cA n x1 x5 x2 r77 ad _ _ _ hw) gX5_listMarks_X0_addMark hl.1 dX5_listMarks_80 rfl rfl rfl (by decide +kernel) ⟨Nat.le_of_ble_eq_true rfl, Nat.le_of_ble_eq_true rfl⟩ rfl rfl (Nat.le_of_ble_eq_true rfl) ⟨Nat.zero_le _, Nat.zero_le _⟩) (fun C80 H locs hw h => ?_)
          refine lv_goto (tgt := 105) hx hb dX5_listMarks_83 (by decide) ?_
          obtain ⟨x5_105, ex5_105⟩ : ∃ z : Int32, z = x5 + 1 := ⟨_, rfl⟩
          have hw := hw x5_105 ex5_105
          refine lv_iinc (v := x5_105) (lv' := [(5, .int x5_105), (0, .ref (ad 3)), (1, .ref (ad (64 + 8 * x1))), (2, .int x2), (3, .int x3), (4, .int x4)]) hx hb dX5_listMarks_105 hl (k := 5) rfl (by rw [ex5_105]; rfl) (by decide) rfl (fun ls hl => ?_)
          refine lv_goto (tgt := 44) hx hb dX5_listMarks_108 (by decide) ?_
          exact ih x5_105 C80 _ _ ls hw h (lv_sub hl [1, 2, 3, 4, 5, 0] rfl)
set_option maxHeartbeats 4000000 in
set_option maxRecDepth 100000 in
theorem kX5_listMarks_6 {n : Nat} {Q : cM → Prop} (X : cX p s m args meth c D cA A cX5_listMarks 6 wsX5_listMarks RX5) (x1 : Nat)
    (hret : ∀ (C : cM) (H : Heap) (locs : List Loc) (pc : Nat) (ls : Array Slot), Q C → cH D cA ad A s.heap C H locs → decode cX5_listMarks pc = .ok (.return_, 1) → W p l e (headSpec wsX5_listMarks rmX5_listMarks).room s m args below meth c H locs 0 0 Z (F0 m pc ls [])) :
    ∀ (k : Nat) (x2 : Int32) (C : cM) (H : Heap) (locs : List Loc) (ls : Array Slot), wpX5_listMarks_6 n Q x1 k x2 C → cH D cA ad A s.heap C H locs → lv_has ls 6 [(0, .ref (ad 3)), (1, .ref (ad (64 + 8 * x1))), (2, .int x2)] → W p l e (headSpec wsX5_listMarks rmX5_listMarks).room s m args below meth c H locs 0 0 Z (F0 m 6 ls []) := by
  intro k
  induction k with
  | zero => intro x2 C H locs ls hw; exact hw.elim
  | succ k ih =>
    intro x2 C H locs ls hw h hl
    rw [wpX5_listMarks_6] at hw
    obtain ⟨⟨hx, hb, hml, hown, hts, hK, hA⟩, hN⟩ := id X
    refine lv_iload_n hx hb dX5_listMarks_6 rfl (lv_at hl 2 rfl) ?_
    refine lv_bipush (v := 23) hx hb dX5_listMarks_7 (by decide) ?_
    refine lv_icmp_ge (tgt := 117) hx hb dX5_listMarks_9 (by decide) (fun c9 => ?_) (fun c9 => ?_)
    · have hw := hw.1 c9
      exact hret C _ _ _ ls hw h dX5_listMarks_117
    · have hw := hw.2 c9
      refine lv_aload_n hx hb dX5_listMarks_12 rfl (lv_at hl 0 rfl) ?_
      refine c_get X.1 h (cids_f (by decide)) 3 rfl (by decide) rfl inX5_listMarks_X5 0 (by decide) (by decide +kernel) rfl rfl dX5_listMarks_13 ?_
      refine lv_aload_n hx hb dX5_listMarks_16 rfl (lv_at hl 1 rfl) ?_
      obtain ⟨hk2, hw⟩ := hw
      refine c_get X.1 h (cids_b0 hk2.1) 9 (ckind_b hk2.2) (by decide) rfl inX5_listMarks_X0 1 (by decide) (by decide +kernel) rfl rfl dX5_listMarks_17 ?_
      refine lv_iload_n hx hb dX5_listMarks_20 rfl (lv_at hl 2 rfl) ?_
      refine c_gov X h (c_runV (n := 2) X h (cids_f (by decide)) 6 rfl (by decide) rfl (qX3_look l D cA n x1 x2 ad _ _ _ hw) gX5_listMarks_X3_look hl.1 dX5_listMarks_21 rfl rfl rfl (by decide +kernel) ⟨Nat.le_of_ble_eq_true rfl, Nat.le_of_ble_eq_true rfl⟩ rfl rfl (Nat.le_of_ble_eq_true rfl) ⟨Nat.zero_le _, Nat.zero_le _⟩) (fun C21 H locs hw h => ?_)
      refine lv_aload_n hx hb dX5_listMarks_24 rfl (lv_at hl 0 rfl) ?_
      refine c_get X.1 h (cids_f (by decide)) 3 rfl (by decide) rfl inX5_listMarks_X5 0 (by decide) (by decide +kernel) rfl rfl dX5_listMarks_25 ?_
      refine c_goi X h (c_runV (n := 0) X h (cids_f (by decide)) 6 rfl (by decide) rfl (qX3_ends l D cA n ad _ _ _ hw) gX5_listMarks_X3_ends hl.1 dX5_listMarks_28 rfl rfl rfl (by decide +kernel) ⟨Nat.le_of_ble_eq_true rfl, Nat.le_of_ble_eq_true rfl⟩ rfl rfl (Nat.le_of_ble_eq_true rfl) ⟨Nat.zero_le _, Nat.zero_le _⟩) (fun r28 C28 H locs hw h => ?_)
      refine lv_istore_n (lv' := [(3, .int r28), (0, .ref (ad 3)), (1, .ref (ad (64 + 8 * x1))), (2, .int x2)]) hx hb dX5_listMarks_31 rfl hl (by decide) rfl (fun ls hl => ?_)
      refine lv_aload_n hx hb dX5_listMarks_32 rfl (lv_at hl 1 rfl) ?_
      refine c_get X.1 h (cids_f (by decide)) 3 rfl (by decide) rfl inX5_listMarks_X5 0 (by decide) (by decide +kernel) rfl rfl dX5_listMarks_33 ?_
      refine c_goi X h (c_runV (n := 0) X h (cids_f (by decide)) 6 rfl (by decide) rfl (qX3_forks l D cA n ad _ _ _ hw) gX5_listMarks_X3_forks hl.1 dX5_listMarks_36 rfl rfl rfl (by decide +kernel) ⟨Nat.le_of_ble_eq_true rfl, Nat.le_of_ble_eq_true rfl⟩ rfl rfl (Nat.le_of_ble_eq_true rfl) ⟨Nat.zero_le _, Nat.zero_le _⟩) (fun r36 C36 H locs hw h => ?_)
      refine lv_istore (lv' := [(4, .int r36), (3, .int r28), (0, .ref (ad 3)), (1, .ref (ad (64 + 8 * x1))), (2, .int x2)]) hx hb dX5_listMarks_39 hl (by decide) rfl (fun ls hl => ?_)
      refine lv_iconst (v := 1) hx hb dX5_listMarks_41 (by decide) ?_
      refine lv_istore (lv' := [(5, .int 1), (4, .int r36), (3, .int r28), (0, .ref (ad 3)), (1, .ref (ad (64 + 8 * x1))), (2, .int x2)]) hx hb dX5_listMarks_42 hl (by decide) rfl (fun ls hl => ?_)
      refine kX5_listMarks_44 X x1 x2 r28 r36 (fun C_44 H locs ls hw h hl => ?_) n 1 C36 _ _ ls hw h (lv_sub hl [3, 4, 5, 2, 1, 0] rfl)
      obtain ⟨x2_111, ex2_111⟩ : ∃ z : Int32, z = x2 + 1 := ⟨_, rfl⟩
      have hw := hw x2_111 ex2_111
      refine lv_iinc (v := x2_111) (lv' := [(2, .int x2_111), (0, .ref (ad 3)), (1, .ref (ad (64 + 8 * x1)))]) hx hb dX5_listMarks_111 hl (k := 2) rfl (by rw [ex2_111]; rfl) (by decide) rfl (fun ls hl => ?_)
      refine lv_goto (tgt := 6) hx hb dX5_listMarks_114 (by decide) ?_
      exact ih x2_111 C_44 _ _ ls hw h (lv_sub hl [1, 2, 0] rfl)
set_option maxHeartbeats 4000000 in
set_option maxRecDepth 100000 in
theorem qX5_listMarks (l : Launch) (D : va_G) (cA : Nat → ClassId) (n : Nat) (x1 : Nat) : cMv l D cA yX5_listMarks wsX5_listMarks rmX5_listMarks (fun ad => [.ref (ad 3), .ref (ad (64 + 8 * x1))]) (wpX5_listMarks n x1) := by
  intro ad sz C Q hw
  unfold wpX5_listMarks at hw
  refine c_enter (cc := cX5_listMarks) (maxL := 6) (ret := none) (own := RX5) (by decide) rfl rfl (Nat.le_of_ble_eq_true rfl) ?_
  intro p e s m args below meth c hsz X hr hlocks h ls hl
  have hret := c_vret (p := p) (l := l) (e := e) (R := (headSpec wsX5_listMarks rmX5_listMarks).room) (s := s) (m := m) (args := args) (below := below) (meth := meth) (c := c) (cc := cX5_listMarks) (D := D) (cA := cA) (ad := ad) (A := va_A (cws cA ad C) sz) (Q := Q) X.1.1 X.1.2.1 hr hlocks X.1.2.2.2.2.2.1
  obtain ⟨⟨hx, hb, hml, hown, hts, hK, hA⟩, hN⟩ := id X
  have hl : lv_has ls 6 [(0, .ref (ad 3)), (1, .ref (ad (64 + 8 * x1)))] := hl
  refine lv_aload_n hx hb dX5_listMarks_0 rfl (lv_at hl 1 rfl) ?_
  obtain ⟨hk1, hw⟩ := hw
  refine c_gov X h (c_runV (n := 0) X h (cids_b0 hk1.1) 9 (ckind_b hk1.2) (by decide) rfl (qX0_clearMarks l D cA n x1 ad _ _ _ hw) gX5_listMarks_X0_clearMarks hl.1 dX5_listMarks_1 rfl rfl rfl (by decide +kernel) ⟨Nat.le_of_ble_eq_true rfl, Nat.le_of_ble_eq_true rfl⟩ rfl rfl (Nat.le_of_ble_eq_true rfl) ⟨Nat.zero_le _, Nat.zero_le _⟩) (fun C1 H locs hw h => ?_)
  refine lv_iconst (v := 1) hx hb dX5_listMarks_4 (by decide) ?_
  refine lv_istore_n (lv' := [(2, .int 1), (0, .ref (ad 3)), (1, .ref (ad (64 + 8 * x1)))]) hx hb dX5_listMarks_5 rfl hl (by decide) rfl (fun ls hl => ?_)
  exact kX5_listMarks_6 X x1 hret n 1 C1 _ _ ls hw h (lv_sub hl [1, 2, 0] rfl)
def rmX5_refresh : Room := { frames := 3, cells := 0, slots := 0, locals := 72 }
theorem inX5_refresh_X0 : ∀ w ∈ wsX00, w ∈ wsX5_refresh := fun w h => List.mem_cons_of_mem _ (List.mem_append_left _ (List.mem_append_left _ (List.mem_append_left _ (List.mem_append_right _ h))))
theorem inX5_refresh_X5 : ∀ w ∈ wsX50, w ∈ wsX5_refresh := fun w h => List.mem_cons_of_mem _ (List.mem_append_left _ (List.mem_append_left _ (List.mem_append_right _ h)))
theorem inX5_refresh_X3 : ∀ w ∈ wsX30, w ∈ wsX5_refresh := fun w h => List.mem_cons_of_mem _ (List.mem_append_left _ (List.mem_append_right _ h))
theorem inX5_refresh_X4 : ∀ w ∈ wsX40, w ∈ wsX5_refresh := fun w h => List.mem_cons_of_mem _ (List.mem_append_right _ h)
set_option maxHeartbeats 4000000 in
set_option maxRecDepth 100000 in
theorem kX5_refresh_67 {n : Nat} {R : Int32 → Int32 → cM → Prop} (X : cX p s m args meth c D cA A cX5_refresh 6 wsX5_refresh RX5) (x1 : Nat) (x3 : Int32)
    (hR : ∀ (y2 : Int32) (y3 : Int32) (C : cM) (H : Heap) (locs : List Loc) (ls : Array Slot), R y2 y3 C → cH D cA ad A s.heap C H locs → lv_has ls 6 [(0, .ref (ad 3)), (1, .ref (ad (64 + 8 * x1))), (2, .int y2), (3, .int y3)] → W p l e (headSpec wsX5_refresh rmX5_refresh).room s m args below meth c H locs 0 0 Z (F0 m 19 ls [])) :
    ∀ (s0 : Int32) (C : cM) (H : Heap) (locs : List Loc) (ls : Array Slot), wpX5_refresh_67 n R x1 x3 s0 C → cH D cA ad A s.heap C H locs → lv_has ls 6 [(0, .ref (ad 3)), (1, .ref (ad (64 + 8 * x1))), (3, .int x3)] → W p l e (headSpec wsX5_refresh rmX5_refresh).room s m args below meth c H locs 0 0 Z (F0 m 67 ls [.int s0]) := by
  intro s0 C H locs ls hw h hl
  unfold wpX5_refresh_67 at hw
  obtain ⟨⟨hx, hb, hml, hown, hts, hK, hA⟩, hN⟩ := id X
  refine lv_istore_n (lv' := [(2, .int s0), (0, .ref (ad 3)), (1, .ref (ad (64 + 8 * x1))), (3, .int x3)]) hx hb dX5_refresh_67 rfl hl (by decide) rfl (fun ls hl => ?_)
  obtain ⟨x3_68, ex3_68⟩ : ∃ z : Int32, z = x3 + 1 := ⟨_, rfl⟩
  have hw := hw x3_68 ex3_68
  refine lv_iinc (v := x3_68) (lv' := [(3, .int x3_68), (2, .int s0), (0, .ref (ad 3)), (1, .ref (ad (64 + 8 * x1)))]) hx hb dX5_refresh_68 hl (k := 3) rfl (by rw [ex3_68]; rfl) (by decide) rfl (fun ls hl => ?_)
  refine lv_goto (tgt := 19) hx hb dX5_refresh_71 (by decide) ?_
  exact hR s0 x3_68 C _ _ ls hw h (lv_sub hl [2, 3, 1, 0] rfl)
set_option maxHeartbeats 4000000 in
set_option maxRecDepth 100000 in
theorem kX5_refresh_19 {n : Nat} {E74 : cM → Prop} (X : cX p s m args meth c D cA A cX5_refresh 6 wsX5_refresh RX5) (x1 : Nat)
    (hE74 : ∀ (C : cM) (H : Heap) (locs : List Loc) (ls : Array Slot), E74 C → cH D cA ad A s.heap C H locs → lv_has ls 6 [(0, .ref (ad 3)), (1, .ref (ad (64 + 8 * x1)))] → W p l e (headSpec wsX5_refresh rmX5_refresh).room s m args below meth c H locs 0 0 Z (F0 m 74 ls [])) :
    ∀ (k : Nat) (x2 : Int32) (x3 : Int32) (C : cM) (H : Heap) (locs : List Loc) (ls : Array Slot), wpX5_refresh_19 n E74 x1 k x2 x3 C → cH D cA ad A s.heap C H locs → lv_has ls 6 [(0, .ref (ad 3)), (1, .ref (ad (64 + 8 * x1))), (2, .int x2), (3, .int x3)] → W p l e (headSpec wsX5_refresh rmX5_refresh).room s m args below meth c H locs 0 0 Z (F0 m 19 ls []) := by
  intro k
  induction k with
  | zero => intro x2 x3 C H locs ls hw; exact hw.elim
  | succ k ih =>
    intro x2 x3 C H locs ls hw h hl
    rw [wpX5_refresh_19] at hw
    obtain ⟨⟨hx, hb, hml, hown, hts, hK, hA⟩, hN⟩ := id X
    refine lv_iload_n hx hb dX5_refresh_19 rfl (lv_at hl 2 rfl) ?_
    refine lv_if_eq (tgt := 74) hx hb dX5_refresh_20 (by decide) (fun c20 => ?_) (fun c20 => ?_)
    · have hw := hw.1 c20
      exact hE74 C _ _ ls hw h (lv_sub hl [0, 1] rfl)
    · have hw := hw.2 c20
      refine lv_iload_n hx hb dX5_refresh_23 rfl (lv_at hl 3 rfl) ?_
      refine lv_sipush (v := 576) hx hb dX5_refresh_24 (by decide) ?_
      refine lv_icmp_gt (tgt := 74) hx hb dX5_refresh_27 (by decide) (fun c27 => ?_) (fun c27 => ?_)
      · have hw := hw.1 c27
        exact hE74 C _ _ ls hw h (lv_sub hl [0, 1] rfl)
      · have hw := hw.2 c27
        refine lv_aload_n hx hb dX5_refresh_30 rfl (lv_at hl 0 rfl) ?_
        refine lv_aload_n hx hb dX5_refresh_31 rfl (lv_at hl 1 rfl) ?_
        obtain ⟨hk2, hw⟩ := hw
        refine c_get X.1 h (cids_b0 hk2.1) 9 (ckind_b hk2.2) (by decide) rfl inX5_refresh_X0 1 (by decide) (by decide +kernel) rfl rfl dX5_refresh_32 ?_
        refine lv_iconst (v := 1) hx hb dX5_refresh_35 (by decide) ?_
        refine c_goi X h (c_runV (n := 2) X h (cids_f (by decide)) 3 rfl (by decide) rfl (qX5_takeAway l D cA n x1 1 ad _ _ _ hw) gX5_refresh_X5_takeAway hl.1 dX5_refresh_36 rfl rfl rfl (by decide +kernel) ⟨Nat.le_of_ble_eq_true rfl, Nat.le_of_ble_eq_true rfl⟩ rfl rfl (Nat.le_of_ble_eq_true rfl) ⟨Nat.zero_le _, Nat.zero_le _⟩) (fun r36 C36 H locs hw h => ?_)
        refine lv_istore (lv' := [(4, .int r36), (0, .ref (ad 3)), (1, .ref (ad (64 + 8 * x1))), (2, .int x2), (3, .int x3)]) hx hb dX5_refresh_39 hl (by decide) rfl (fun ls hl => ?_)
        refine lv_aload_n hx hb dX5_refresh_41 rfl (lv_at hl 1 rfl) ?_
        refine lv_aload_n hx hb dX5_refresh_42 rfl (lv_at hl 2 rfl) ?_
        obtain ⟨hk3, hw⟩ := hw
        refine c_get X.1 h (cids_b0 hk3.1) 9 (ckind_b hk3.2) (by decide) rfl inX5_refresh_X0 1 (by decide) (by decide +kernel) rfl rfl dX5_refresh_43 ?_
        refine lv_iconst (v := 0) hx hb dX5_refresh_46 (by decide) ?_
        refine c_goi X h (c_runV (n := 2) X h (cids_f (by decide)) 3 rfl (by decide) rfl (qX5_takeAway l D cA n x1 0 ad _ _ _ hw) gX5_refresh_X5_takeAway hl.1 dX5_refresh_47 rfl rfl rfl (by decide +kernel) ⟨Nat.le_of_ble_eq_true rfl, Nat.le_of_ble_eq_true rfl⟩ rfl rfl (Nat.le_of_ble_eq_true rfl) ⟨Nat.zero_le _, Nat.zero_le _⟩) (fun r47 C47 H locs hw h => ?_)
        refine lv_istore (lv' := [(5, .int r47), (4, .int r36), (0, .ref (ad 3)), (1, .ref (ad (64 + 8 * x1))), (2, .int x2), (3, .int x3)]) hx hb dX5_refresh_50 hl (by decide) rfl (fun ls hl => ?_)
        refine lv_iload hx hb dX5_refresh_52 (lv_at hl 1 rfl) ?_
        refine lv_if_ne (tgt := 62) hx hb dX5_refresh_54 (by decide) (fun c54 => ?_) (fun c54 => ?_)
        · have hw := hw.1 c54
          refine lv_iconst (v := 1) hx hb dX5_refresh_62 (by decide) ?_
          refine lv_goto (tgt := 67) hx hb dX5_refresh_63 (by decide) ?_
          exact kX5_refresh_67 X x1 x3 ih 1 C47 _ _ ls hw h (lv_sub hl [2, 3, 5] rfl)
        · have hw := hw.2 c54
          refine lv_iload hx hb dX5_refresh_57 (lv_at hl 0 rfl) ?_
          refine lv_if_eq (tgt := 66) hx hb dX5_refresh_59 (by decide) (fun c59 => ?_) (fun c59 => ?_)
          · have hw := hw.1 c59
            refine lv_iconst (v := 0) hx hb dX5_refresh_66 (by decide) ?_
            exact kX5_refresh_67 X x1 x3 ih 0 C47 _ _ ls hw h (lv_sub hl [2, 3, 5] rfl)
          · have hw := hw.2 c59
            refine lv_iconst (v := 1) hx hb dX5_refresh_62 (by decide) ?_
            refine lv_goto (tgt := 67) hx hb dX5_refresh_63 (by decide) ?_
            exact kX5_refresh_67 X x1 x3 ih 1 C47 _ _ ls hw h (lv_sub hl [2, 3, 5] rfl)
set_option maxHeartbeats 4000000 in
set_option maxRecDepth 100000 in
theorem kX5_refresh_74 {n : Nat} {Q : cM → Prop} (X : cX p s m args meth c D cA A cX5_refresh 6 wsX5_refresh RX5) (x1 : Nat)
    (hret : ∀ (C : cM) (H : Heap) (locs : List Loc) (pc : Nat) (ls : Array Slot), Q C → cH D cA ad A s.heap C H locs → decode cX5_refresh pc = .ok (.return_, 1) → W p l e (headSpec wsX5_refresh rmX5_refresh).room s m args below meth c H locs 0 0 Z (F0 m pc ls [])) :
    ∀ (C : cM) (H : Heap) (locs : List Loc) (ls : Array Slot), wpX5_refresh_74 n Q x1 C → cH D cA ad A s.heap C H locs → lv_has ls 6 [(0, .ref (ad 3)), (1, .ref (ad (64 + 8 * x1)))] → W p l e (headSpec wsX5_refresh rmX5_refresh).room s m args below meth c H locs 0 0 Z (F0 m 74 ls []) := by
  intro C H locs ls hw h hl
  unfold wpX5_refresh_74 at hw
  obtain ⟨⟨hx, hb, hml, hown, hts, hK, hA⟩, hN⟩ := id X
  refine lv_aload_n hx hb dX5_refresh_74 rfl (lv_at hl 0 rfl) ?_
  refine lv_aload_n hx hb dX5_refresh_75 rfl (lv_at hl 1 rfl) ?_
  refine c_gov X h (c_runV (n := 1) X h (cids_f (by decide)) 3 rfl (by decide) rfl (qX5_listMarks l D cA n x1 ad _ _ _ hw) gX5_refresh_X5_listMarks hl.1 dX5_refresh_76 rfl rfl rfl (by decide +kernel) ⟨Nat.le_of_ble_eq_true rfl, Nat.le_of_ble_eq_true rfl⟩ rfl rfl (Nat.le_of_ble_eq_true rfl) ⟨Nat.zero_le _, Nat.zero_le _⟩) (fun C76 H locs hw h => ?_)
  refine lv_aload_n hx hb dX5_refresh_79 rfl (lv_at hl 1 rfl) ?_
  refine lv_iconst (v := 0) hx hb dX5_refresh_80 (by decide) ?_
  obtain ⟨hk4, hw⟩ := hw
  refine c_put X.1 h (cids_b0 hk4.1) 9 (ckind_b hk4.2) (by decide) rfl inX5_refresh_X0 tyX0 tyX0_ok nmX0 8 (by decide) (by decide +kernel) rfl rfl rfl rfl (Nat.le_of_ble_eq_true rfl) (fun _ _ => rfl) dX5_refresh_81 (fun C81 eC81 H locs h => ?_)
  have hw := hw C81 eC81
  have hk4 : bok C81 x1 := by rw [eC81]; exact hk4
  exact hret C81 _ _ _ ls hw h dX5_refresh_84
set_option maxHeartbeats 4000000 in
set_option maxRecDepth 100000 in
theorem qX5_refresh (l : Launch) (D : va_G) (cA : Nat → ClassId) (n : Nat) (x1 : Nat) : cMv l D cA yX5_refresh wsX5_refresh rmX5_refresh (fun ad => [.ref (ad 3), .ref (ad (64 + 8 * x1))]) (wpX5_refresh n x1) := by
  intro ad sz C Q hw
  unfold wpX5_refresh at hw
  refine c_enter (cc := cX5_refresh) (maxL := 6) (ret := none) (own := RX5) (by decide) rfl rfl (Nat.le_of_ble_eq_true rfl) ?_
  intro p e s m args below meth c hsz X hr hlocks h ls hl
  have hret := c_vret (p := p) (l := l) (e := e) (R := (headSpec wsX5_refresh rmX5_refresh).room) (s := s) (m := m) (args := args) (below := below) (meth := meth) (c := c) (cc := cX5_refresh) (D := D) (cA := cA) (ad := ad) (A := va_A (cws cA ad C) sz) (Q := Q) X.1.1 X.1.2.1 hr hlocks X.1.2.2.2.2.2.1
  obtain ⟨⟨hx, hb, hml, hown, hts, hK, hA⟩, hN⟩ := id X
  have hl : lv_has ls 6 [(0, .ref (ad 3)), (1, .ref (ad (64 + 8 * x1)))] := hl
  refine lv_aload_n hx hb dX5_refresh_0 rfl (lv_at hl 1 rfl) ?_
  obtain ⟨hk1, hw⟩ := hw
  refine c_get X.1 h (cids_b0 hk1.1) 9 (ckind_b hk1.2) (by decide) rfl inX5_refresh_X0 0 (by decide) (by decide +kernel) rfl rfl dX5_refresh_1 ?_
  refine lv_iconst (v := 0) hx hb dX5_refresh_4 (by decide) ?_
  refine lv_aload_n hx hb dX5_refresh_5 rfl (lv_at hl 1 rfl) ?_
  refine c_get X.1 h (cids_b0 hk1.1) 9 (ckind_b hk1.2) (by decide) rfl inX5_refresh_X0 1 (by decide) (by decide +kernel) rfl rfl dX5_refresh_6 ?_
  refine lv_iconst (v := 0) hx hb dX5_refresh_9 (by decide) ?_
  refine lv_bipush (v := 24) hx hb dX5_refresh_10 (by decide) ?_
  refine c_copy X.1 h hk1 hl.1 (by decide +kernel) (by decide +kernel) (by decide +kernel) (by decide +kernel) (Nat.le_of_ble_eq_true rfl) (Nat.le_of_ble_eq_true rfl) dX5_refresh_12 (fun C12 eC12 H locs h => ?_)
  have hw := hw C12 eC12
  have hk1 : bok C12 x1 := by rw [eC12]; exact hk1
  refine lv_iconst (v := 1) hx hb dX5_refresh_15 (by decide) ?_
  refine lv_istore_n (lv' := [(2, .int 1), (0, .ref (ad 3)), (1, .ref (ad (64 + 8 * x1)))]) hx hb dX5_refresh_16 rfl hl (by decide) rfl (fun ls hl => ?_)
  refine lv_iconst (v := 0) hx hb dX5_refresh_17 (by decide) ?_
  refine lv_istore_n (lv' := [(3, .int 0), (2, .int 1), (0, .ref (ad 3)), (1, .ref (ad (64 + 8 * x1)))]) hx hb dX5_refresh_18 rfl hl (by decide) rfl (fun ls hl => ?_)
  refine kX5_refresh_19 X x1 (fun C_19 H locs ls hw h hl => ?_) n 1 0 C12 _ _ ls hw h (lv_sub hl [2, 3, 1, 0] rfl)
  exact kX5_refresh_74 X x1 hret C_19 _ _ ls hw h (lv_sub hl [0, 1] rfl)
end KC
