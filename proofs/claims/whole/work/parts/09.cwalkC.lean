section KC
variable {p : Program} {l : Launch} {e : Env} {s : State} {m : MethodId} {args : Array Value} {below : List Frame} {meth : Method} {c : Code} {Z : State → Prop} {D : va_G} {cA : Nat → ClassId} {A : Nat → Prop} {ad : Nat → Nat}
def rmX2_clear : Room := { frames := 0, cells := 0, slots := 0, locals := 0 }
set_option maxHeartbeats 4000000 in
set_option maxRecDepth 100000 in
theorem kX2_clear_2 {n : Nat} {Q : cM → Prop} (X : cX p s m args meth c D cA A cX2_clear 2 wsX2_clear RX2) (x0 : Nat)
    (hret : ∀ (C : cM) (H : Heap) (locs : List Loc) (pc : Nat) (ls : Array Slot), Q C → cH D cA ad A s.heap C H locs → decode cX2_clear pc = .ok (.return_, 1) → W p l e (headSpec wsX2_clear rmX2_clear).room s m args below meth c H locs 0 0 Z (F0 m pc ls [])) :
    ∀ (k : Nat) (x1 : Int32) (C : cM) (H : Heap) (locs : List Loc) (ls : Array Slot), wpX2_clear_2 n Q x0 k x1 C → cH D cA ad A s.heap C H locs → lv_has ls 2 [(0, .ref (ad x0)), (1, .int x1)] → W p l e (headSpec wsX2_clear rmX2_clear).room s m args below meth c H locs 0 0 Z (F0 m 2 ls []) := by
  intro k
  induction k with
  | zero => intro x1 C H locs ls hw; exact hw.elim
  | succ k ih =>
    intro x1 C H locs ls hw h hl
    rw [wpX2_clear_2] at hw
    obtain ⟨⟨hx, hb, hml, hown, hts, hK, hA⟩, hN⟩ := id X
    refine lv_iload_n hx hb dX2_clear_2 rfl (lv_at hl 1 rfl) ?_
    refine lv_aload_n hx hb dX2_clear_3 rfl (lv_at hl 0 rfl) ?_
    obtain ⟨hk1, hw⟩ := hw
    refine c_alenL X.1 h (lar_in hk1) (lar_k hk1) rfl dX2_clear_4 ?_
    refine lv_icmp_ge (tgt := 18) hx hb dX2_clear_5 (by decide) (fun c5 => ?_) (fun c5 => ?_)
    · have hw := hw.1 c5
      exact hret C _ _ _ ls hw h dX2_clear_18
    · have hw := hw.2 c5
      refine lv_aload_n hx hb dX2_clear_8 rfl (lv_at hl 0 rfl) ?_
      refine lv_iload_n hx hb dX2_clear_9 rfl (lv_at hl 1 rfl) ?_
      refine lv_lconst (v := 0) hx hb dX2_clear_10 (by decide) ?_
      obtain ⟨hk2, hw⟩ := hw
      refine c_last X.1 h (lar_in hk1) (lar_k hk1) (n := (llen x0)) rfl hk2 dX2_clear_11 (fun C11 eC11 H locs h => ?_)
      have hw := hw C11 eC11
      obtain ⟨x1_12, ex1_12⟩ : ∃ z : Int32, z = x1 + 1 := ⟨_, rfl⟩
      have hw := hw x1_12 ex1_12
      refine lv_iinc (v := x1_12) (lv' := [(1, .int x1_12), (0, .ref (ad x0))]) hx hb dX2_clear_12 hl (k := 1) rfl (by rw [ex1_12]; rfl) (by decide) rfl (fun ls hl => ?_)
      refine lv_goto (tgt := 2) hx hb dX2_clear_15 (by decide) ?_
      exact ih x1_12 C11 _ _ ls hw h (lv_sub hl [1, 0] rfl)
set_option maxHeartbeats 4000000 in
set_option maxRecDepth 100000 in
theorem qX2_clear (l : Launch) (D : va_G) (cA : Nat → ClassId) (n : Nat) (x0 : Nat) : cMv l D cA yX2_clear wsX2_clear rmX2_clear (fun ad => [.ref (ad x0)]) (wpX2_clear n x0) := by
  intro ad sz C Q hw
  unfold wpX2_clear at hw
  refine c_enter (cc := cX2_clear) (maxL := 2) (ret := none) (own := RX2) (by decide) rfl rfl (Nat.le_of_ble_eq_true rfl) ?_
  intro p e s m args below meth c hsz X hr hlocks h ls hl
  have hret := c_vret (p := p) (l := l) (e := e) (R := (headSpec wsX2_clear rmX2_clear).room) (s := s) (m := m) (args := args) (below := below) (meth := meth) (c := c) (cc := cX2_clear) (D := D) (cA := cA) (ad := ad) (A := va_A (cws cA ad C) sz) (Q := Q) X.1.1 X.1.2.1 hr hlocks X.1.2.2.2.2.2.1
  obtain ⟨⟨hx, hb, hml, hown, hts, hK, hA⟩, hN⟩ := id X
  have hl : lv_has ls 2 [(0, .ref (ad x0))] := hl
  refine lv_iconst (v := 0) hx hb dX2_clear_0 (by decide) ?_
  refine lv_istore_n (lv' := [(1, .int 0), (0, .ref (ad x0))]) hx hb dX2_clear_1 rfl hl (by decide) rfl (fun ls hl => ?_)
  exact kX2_clear_2 X x0 hret n 0 C _ _ ls hw h (lv_sub hl [1, 0] rfl)
def rmX2_turnMarks : Room := { frames := 0, cells := 0, slots := 0, locals := 0 }
theorem inX2_turnMarks_X2 : ∀ w ∈ wsX20, w ∈ wsX2_turnMarks := fun w h => List.mem_cons_of_mem _ (List.mem_append_left _ (List.mem_append_right _ h))
theorem inX2_turnMarks_X0 : ∀ w ∈ wsX00, w ∈ wsX2_turnMarks := fun w h => List.mem_cons_of_mem _ (List.mem_append_right _ h)
set_option maxHeartbeats 4000000 in
set_option maxRecDepth 100000 in
theorem kX2_turnMarks_109 {n : Nat} {R : Int32 → Int32 → Int32 → Int32 → cM → Prop} (X : cX p s m args meth c D cA A cX2_turnMarks 9 wsX2_turnMarks RX2) (x1 : Nat) (x2 : Int32) (x3 : Int32) (x4 : Int32) (x6 : Int32)
    (hR : ∀ (y3 : Int32) (y4 : Int32) (y5 : Int32) (y6 : Int32) (C : cM) (H : Heap) (locs : List Loc) (ls : Array Slot), R y3 y4 y5 y6 C → cH D cA ad A s.heap C H locs → lv_has ls 9 [(0, .ref (ad 4)), (1, .ref (ad (64 + 8 * x1))), (2, .int x2), (3, .int y3), (4, .int y4), (5, .int y5), (6, .int y6)] → W p l e (headSpec wsX2_turnMarks rmX2_turnMarks).room s m args below meth c H locs 0 0 Z (F0 m 36 ls [])) :
    ∀ (s0 : Int32) (C : cM) (H : Heap) (locs : List Loc) (ls : Array Slot), wpX2_turnMarks_109 n R x1 x2 x3 x4 x6 s0 C → cH D cA ad A s.heap C H locs → lv_has ls 9 [(0, .ref (ad 4)), (1, .ref (ad (64 + 8 * x1))), (2, .int x2), (3, .int x3), (4, .int x4), (6, .int x6)] → W p l e (headSpec wsX2_turnMarks rmX2_turnMarks).room s m args below meth c H locs 0 0 Z (F0 m 109 ls [.int s0]) := by
  intro s0 C H locs ls hw h hl
  unfold wpX2_turnMarks_109 at hw
  obtain ⟨⟨hx, hb, hml, hown, hts, hK, hA⟩, hN⟩ := id X
  refine lv_istore (lv' := [(5, .int s0), (0, .ref (ad 4)), (1, .ref (ad (64 + 8 * x1))), (2, .int x2), (3, .int x3), (4, .int x4), (6, .int x6)]) hx hb dX2_turnMarks_109 hl (by decide) rfl (fun ls hl => ?_)
  obtain ⟨x6_111, ex6_111⟩ : ∃ z : Int32, z = x6 + 1 := ⟨_, rfl⟩
  have hw := hw x6_111 ex6_111
  refine lv_iinc (v := x6_111) (lv' := [(6, .int x6_111), (5, .int s0), (0, .ref (ad 4)), (1, .ref (ad (64 + 8 * x1))), (2, .int x2), (3, .int x3), (4, .int x4)]) hx hb dX2_turnMarks_111 hl (k := 6) rfl (by rw [ex6_111]; rfl) (by decide) rfl (fun ls hl => ?_)
  refine lv_goto (tgt := 36) hx hb dX2_turnMarks_114 (by decide) ?_
  exact hR x3 x4 s0 x6_111 C _ _ ls hw h (lv_sub hl [2, 3, 4, 5, 6, 1, 0] rfl)
set_option maxHeartbeats 4000000 in
set_option maxRecDepth 100000 in
theorem kX2_turnMarks_36 {n : Nat} {E117 : cM → Prop} (X : cX p s m args meth c D cA A cX2_turnMarks 9 wsX2_turnMarks RX2) (x1 : Nat) (x2 : Int32)
    (hE117 : ∀ (C : cM) (H : Heap) (locs : List Loc) (ls : Array Slot), E117 C → cH D cA ad A s.heap C H locs → lv_has ls 9 [(0, .ref (ad 4)), (1, .ref (ad (64 + 8 * x1))), (2, .int x2)] → W p l e (headSpec wsX2_turnMarks rmX2_turnMarks).room s m args below meth c H locs 0 0 Z (F0 m 117 ls [])) :
    ∀ (k : Nat) (x3 : Int32) (x4 : Int32) (x5 : Int32) (x6 : Int32) (C : cM) (H : Heap) (locs : List Loc) (ls : Array Slot), wpX2_turnMarks_36 n E117 x1 x2 k x3 x4 x5 x6 C → cH D cA ad A s.heap C H locs → lv_has ls 9 [(0, .ref (ad 4)), (1, .ref (ad (64 + 8 * x1))), (2, .int x2), (3, .int x3), (4, .int x4), (5, .int x5), (6, .int x6)] → W p l e (headSpec wsX2_turnMarks rmX2_turnMarks).room s m args below meth c H locs 0 0 Z (F0 m 36 ls []) := by
  intro k
  induction k with
  | zero => intro x3 x4 x5 x6 C H locs ls hw; exact hw.elim
  | succ k ih =>
    intro x3 x4 x5 x6 C H locs ls hw h hl
    rw [wpX2_turnMarks_36] at hw
    obtain ⟨⟨hx, hb, hml, hown, hts, hK, hA⟩, hN⟩ := id X
    refine lv_iload hx hb dX2_turnMarks_36 (lv_at hl 6 rfl) ?_
    refine lv_iconst (v := 4) hx hb dX2_turnMarks_38 (by decide) ?_
    refine lv_icmp_ge (tgt := 117) hx hb dX2_turnMarks_39 (by decide) (fun c39 => ?_) (fun c39 => ?_)
    · have hw := hw.1 c39
      exact hE117 C _ _ ls hw h (lv_sub hl [0, 1, 2] rfl)
    · have hw := hw.2 c39
      refine lv_iload hx hb dX2_turnMarks_42 (lv_at hl 6 rfl) ?_
      refine lv_bipush (v := 40) hx hb dX2_turnMarks_44 (by decide) ?_
      refine lv_imul hx hb dX2_turnMarks_46 ?_
      refine lv_iload_n hx hb dX2_turnMarks_47 rfl (lv_at hl 2 rfl) ?_
      refine lv_iadd hx hb dX2_turnMarks_48 ?_
      refine lv_topi (fun x7_49 ex7_49 => ?_)
      have hw := hw x7_49 ex7_49
      refine lv_istore (lv' := [(7, .int x7_49), (0, .ref (ad 4)), (1, .ref (ad (64 + 8 * x1))), (2, .int x2), (3, .int x3), (4, .int x4), (5, .int x5), (6, .int x6)]) hx hb dX2_turnMarks_49 hl (by decide) rfl (fun ls hl => ?_)
      refine lv_aload_n hx hb dX2_turnMarks_51 rfl (lv_at hl 1 rfl) ?_
      refine c_get X.1 h (cids_f (by decide)) 4 rfl (by decide) rfl inX2_turnMarks_X2 0 (by decide) (by decide +kernel) rfl rfl dX2_turnMarks_52 ?_
      refine lv_iload hx hb dX2_turnMarks_55 (lv_at hl 0 rfl) ?_
      refine lv_iload_n hx hb dX2_turnMarks_57 rfl (lv_at hl 4 rfl) ?_
      obtain ⟨hk3, hw⟩ := hw
      refine c_iast X.1 h (cids_f (by decide)) rfl (n := 160) rfl hk3 dX2_turnMarks_58 (fun C58 eC58 H locs h => ?_)
      have hw := hw C58 eC58
      refine lv_aload_n hx hb dX2_turnMarks_59 rfl (lv_at hl 1 rfl) ?_
      refine c_get X.1 h (cids_f (by decide)) 4 rfl (by decide) rfl inX2_turnMarks_X2 1 (by decide) (by decide +kernel) rfl rfl dX2_turnMarks_60 ?_
      refine lv_iload hx hb dX2_turnMarks_63 (lv_at hl 0 rfl) ?_
      refine lv_iload hx hb dX2_turnMarks_65 (lv_at hl 5 rfl) ?_
      refine c_iast X.1 h (cids_f (by decide)) rfl (n := 160) rfl hk3 dX2_turnMarks_67 (fun C67 eC67 H locs h => ?_)
      have hw := hw C67 eC67
      refine lv_aload_n hx hb dX2_turnMarks_68 rfl (lv_at hl 1 rfl) ?_
      refine c_get X.1 h (cids_f (by decide)) 4 rfl (by decide) rfl inX2_turnMarks_X2 2 (by decide) (by decide +kernel) rfl rfl dX2_turnMarks_69 ?_
      refine lv_iload hx hb dX2_turnMarks_72 (lv_at hl 0 rfl) ?_
      refine lv_iload hx hb dX2_turnMarks_74 (lv_at hl 6 rfl) ?_
      refine c_iast X.1 h (cids_f (by decide)) rfl (n := 160) rfl hk3 dX2_turnMarks_76 (fun C76 eC76 H locs h => ?_)
      have hw := hw C76 eC76
      refine lv_iload_n hx hb dX2_turnMarks_77 rfl (lv_at hl 4 rfl) ?_
      refine lv_istore (lv' := [(8, .int x3), (7, .int x7_49), (0, .ref (ad 4)), (1, .ref (ad (64 + 8 * x1))), (2, .int x2), (3, .int x3), (4, .int x4), (5, .int x5), (6, .int x6)]) hx hb dX2_turnMarks_78 hl (by decide) rfl (fun ls hl => ?_)
      refine lv_bipush (v := 23) hx hb dX2_turnMarks_80 (by decide) ?_
      refine lv_iload hx hb dX2_turnMarks_82 (lv_at hl 6 rfl) ?_
      refine lv_isub hx hb dX2_turnMarks_84 ?_
      refine lv_topi (fun x3_85 ex3_85 => ?_)
      have hw := hw x3_85 ex3_85
      refine lv_istore_n (lv' := [(3, .int x3_85), (8, .int x3), (7, .int x7_49), (0, .ref (ad 4)), (1, .ref (ad (64 + 8 * x1))), (2, .int x2), (4, .int x4), (5, .int x5), (6, .int x6)]) hx hb dX2_turnMarks_85 rfl hl (by decide) rfl (fun ls hl => ?_)
      refine lv_iload hx hb dX2_turnMarks_86 (lv_at hl 1 rfl) ?_
      refine lv_istore (lv' := [(4, .int x3), (3, .int x3_85), (8, .int x3), (7, .int x7_49), (0, .ref (ad 4)), (1, .ref (ad (64 + 8 * x1))), (2, .int x2), (5, .int x5), (6, .int x6)]) hx hb dX2_turnMarks_88 hl (by decide) rfl (fun ls hl => ?_)
      refine lv_iload hx hb dX2_turnMarks_90 (lv_at hl 7 rfl) ?_
      refine lv_bipush (v := 8) hx hb dX2_turnMarks_92 (by decide) ?_
      refine lv_icmp_ne (tgt := 102) hx hb dX2_turnMarks_94 (by decide) (fun c94 => ?_) (fun c94 => ?_)
      · have hw := hw.1 c94
        refine lv_iload hx hb dX2_turnMarks_102 (lv_at hl 7 rfl) ?_
        refine lv_iconst (v := 2) hx hb dX2_turnMarks_104 (by decide) ?_
        refine lv_iadd hx hb dX2_turnMarks_105 ?_
        refine lv_bipush (v := 7) hx hb dX2_turnMarks_106 (by decide) ?_
        refine lv_iand hx hb dX2_turnMarks_108 ?_
        exact kX2_turnMarks_109 X x1 x2 x3_85 x3 x6 ih ((x5 + 2) &&& 7) C76 _ _ ls hw h (lv_sub hl [4, 5, 6, 1, 0, 8] rfl)
      · have hw := hw.2 c94
        refine lv_bipush (v := 8) hx hb dX2_turnMarks_97 (by decide) ?_
        refine lv_goto (tgt := 109) hx hb dX2_turnMarks_99 (by decide) ?_
        exact kX2_turnMarks_109 X x1 x2 x3_85 x3 x6 ih 8 C76 _ _ ls hw h (lv_sub hl [4, 5, 6, 1, 0, 8] rfl)
set_option maxHeartbeats 4000000 in
set_option maxRecDepth 100000 in
theorem kX2_turnMarks_2 {n : Nat} {Q : cM → Prop} (X : cX p s m args meth c D cA A cX2_turnMarks 9 wsX2_turnMarks RX2) (x1 : Nat)
    (hret : ∀ (C : cM) (H : Heap) (locs : List Loc) (pc : Nat) (ls : Array Slot), Q C → cH D cA ad A s.heap C H locs → decode cX2_turnMarks pc = .ok (.return_, 1) → W p l e (headSpec wsX2_turnMarks rmX2_turnMarks).room s m args below meth c H locs 0 0 Z (F0 m pc ls [])) :
    ∀ (k : Nat) (x2 : Int32) (C : cM) (H : Heap) (locs : List Loc) (ls : Array Slot), wpX2_turnMarks_2 n Q x1 k x2 C → cH D cA ad A s.heap C H locs → lv_has ls 9 [(0, .ref (ad 4)), (1, .ref (ad (64 + 8 * x1))), (2, .int x2)] → W p l e (headSpec wsX2_turnMarks rmX2_turnMarks).room s m args below meth c H locs 0 0 Z (F0 m 2 ls []) := by
  intro k
  induction k with
  | zero => intro x2 C H locs ls hw; exact hw.elim
  | succ k ih =>
    intro x2 C H locs ls hw h hl
    rw [wpX2_turnMarks_2] at hw
    obtain ⟨⟨hx, hb, hml, hown, hts, hK, hA⟩, hN⟩ := id X
    refine lv_iload_n hx hb dX2_turnMarks_2 rfl (lv_at hl 2 rfl) ?_
    refine lv_aload_n hx hb dX2_turnMarks_3 rfl (lv_at hl 0 rfl) ?_
    refine c_get X.1 h (cids_f (by decide)) 4 rfl (by decide) rfl inX2_turnMarks_X2 11 (by decide) (by decide +kernel) rfl rfl dX2_turnMarks_4 ?_
    refine lv_icmp_ge (tgt := 123) hx hb dX2_turnMarks_7 (by decide) (fun c7 => ?_) (fun c7 => ?_)
    · have hw := hw.1 c7
      exact hret C _ _ _ ls hw h dX2_turnMarks_123
    · have hw := hw.2 c7
      refine lv_aload_n hx hb dX2_turnMarks_10 rfl (lv_at hl 1 rfl) ?_
      obtain ⟨hk1, hw⟩ := hw
      refine c_get X.1 h (cids_b0 hk1.1) 9 (ckind_b hk1.2) (by decide) rfl inX2_turnMarks_X0 2 (by decide) (by decide +kernel) rfl rfl dX2_turnMarks_11 ?_
      refine lv_iload_n hx hb dX2_turnMarks_14 rfl (lv_at hl 2 rfl) ?_
      obtain ⟨hk2, hw⟩ := hw
      refine c_iald X.1 h (cids_b hk1.1 3 (by decide)) (ckind_ba hk1.2 (by decide) (by decide)) (n := 40) (ilen_ba (by decide)) hk2 dX2_turnMarks_15 ?_
      refine lv_topi (fun x3_16 ex3_16 => ?_)
      have hw := hw x3_16 ex3_16
      refine lv_istore_n (lv' := [(3, .int x3_16), (0, .ref (ad 4)), (1, .ref (ad (64 + 8 * x1))), (2, .int x2)]) hx hb dX2_turnMarks_16 rfl hl (by decide) rfl (fun ls hl => ?_)
      refine lv_aload_n hx hb dX2_turnMarks_17 rfl (lv_at hl 2 rfl) ?_
      refine c_get X.1 h (cids_b0 hk1.1) 9 (ckind_b hk1.2) (by decide) rfl inX2_turnMarks_X0 3 (by decide) (by decide +kernel) rfl rfl dX2_turnMarks_18 ?_
      refine lv_iload_n hx hb dX2_turnMarks_21 rfl (lv_at hl 3 rfl) ?_
      refine c_iald X.1 h (cids_b hk1.1 4 (by decide)) (ckind_ba hk1.2 (by decide) (by decide)) (n := 40) (ilen_ba (by decide)) hk2 dX2_turnMarks_22 ?_
      refine lv_topi (fun x4_23 ex4_23 => ?_)
      have hw := hw x4_23 ex4_23
      refine lv_istore (lv' := [(4, .int x4_23), (3, .int x3_16), (0, .ref (ad 4)), (1, .ref (ad (64 + 8 * x1))), (2, .int x2)]) hx hb dX2_turnMarks_23 hl (by decide) rfl (fun ls hl => ?_)
      refine lv_aload_n hx hb dX2_turnMarks_25 rfl (lv_at hl 3 rfl) ?_
      refine c_get X.1 h (cids_b0 hk1.1) 9 (ckind_b hk1.2) (by decide) rfl inX2_turnMarks_X0 4 (by decide) (by decide +kernel) rfl rfl dX2_turnMarks_26 ?_
      refine lv_iload_n hx hb dX2_turnMarks_29 rfl (lv_at hl 4 rfl) ?_
      refine c_iald X.1 h (cids_b hk1.1 5 (by decide)) (ckind_ba hk1.2 (by decide) (by decide)) (n := 40) (ilen_ba (by decide)) hk2 dX2_turnMarks_30 ?_
      refine lv_topi (fun x5_31 ex5_31 => ?_)
      have hw := hw x5_31 ex5_31
      refine lv_istore (lv' := [(5, .int x5_31), (4, .int x4_23), (3, .int x3_16), (0, .ref (ad 4)), (1, .ref (ad (64 + 8 * x1))), (2, .int x2)]) hx hb dX2_turnMarks_31 hl (by decide) rfl (fun ls hl => ?_)
      refine lv_iconst (v := 0) hx hb dX2_turnMarks_33 (by decide) ?_
      refine lv_istore (lv' := [(6, .int 0), (5, .int x5_31), (4, .int x4_23), (3, .int x3_16), (0, .ref (ad 4)), (1, .ref (ad (64 + 8 * x1))), (2, .int x2)]) hx hb dX2_turnMarks_34 hl (by decide) rfl (fun ls hl => ?_)
      refine kX2_turnMarks_36 X x1 x2 (fun C_36 H locs ls hw h hl => ?_) n x3_16 x4_23 x5_31 0 C _ _ ls hw h (lv_sub hl [4, 5, 6, 3, 2, 1, 0] rfl)
      obtain ⟨x2_117, ex2_117⟩ : ∃ z : Int32, z = x2 + 1 := ⟨_, rfl⟩
      have hw := hw x2_117 ex2_117
      refine lv_iinc (v := x2_117) (lv' := [(2, .int x2_117), (0, .ref (ad 4)), (1, .ref (ad (64 + 8 * x1)))]) hx hb dX2_turnMarks_117 hl (k := 2) rfl (by rw [ex2_117]; rfl) (by decide) rfl (fun ls hl => ?_)
      refine lv_goto (tgt := 2) hx hb dX2_turnMarks_120 (by decide) ?_
      exact ih x2_117 C_36 _ _ ls hw h (lv_sub hl [1, 2, 0] rfl)
set_option maxHeartbeats 4000000 in
set_option maxRecDepth 100000 in
theorem qX2_turnMarks (l : Launch) (D : va_G) (cA : Nat → ClassId) (n : Nat) (x1 : Nat) : cMv l D cA yX2_turnMarks wsX2_turnMarks rmX2_turnMarks (fun ad => [.ref (ad 4), .ref (ad (64 + 8 * x1))]) (wpX2_turnMarks n x1) := by
  intro ad sz C Q hw
  unfold wpX2_turnMarks at hw
  refine c_enter (cc := cX2_turnMarks) (maxL := 9) (ret := none) (own := RX2) (by decide) rfl rfl (Nat.le_of_ble_eq_true rfl) ?_
  intro p e s m args below meth c hsz X hr hlocks h ls hl
  have hret := c_vret (p := p) (l := l) (e := e) (R := (headSpec wsX2_turnMarks rmX2_turnMarks).room) (s := s) (m := m) (args := args) (below := below) (meth := meth) (c := c) (cc := cX2_turnMarks) (D := D) (cA := cA) (ad := ad) (A := va_A (cws cA ad C) sz) (Q := Q) X.1.1 X.1.2.1 hr hlocks X.1.2.2.2.2.2.1
  obtain ⟨⟨hx, hb, hml, hown, hts, hK, hA⟩, hN⟩ := id X
  have hl : lv_has ls 9 [(0, .ref (ad 4)), (1, .ref (ad (64 + 8 * x1)))] := hl
  refine lv_iconst (v := 0) hx hb dX2_turnMarks_0 (by decide) ?_
  refine lv_istore_n (lv' := [(2, .int 0), (0, .ref (ad 4)), (1, .ref (ad (64 + 8 * x1)))]) hx hb dX2_turnMarks_1 rfl hl (by decide) rfl (fun ls hl => ?_)
  exact kX2_turnMarks_2 X x1 hret n 0 C _ _ ls hw h (lv_sub hl [1, 2, 0] rfl)
def rmX2_setAround : Room := { frames := 0, cells := 0, slots := 0, locals := 0 }
set_option maxHeartbeats 4000000 in
set_option maxRecDepth 100000 in
theorem kX2_setAround_8 {n : Nat} {Q : cM → Prop} (X : cX p s m args meth c D cA A cX2_setAround 6 wsX2_setAround RX2) (x0 : Nat) (x1 : Int32) (x2 : Int32) (x3 : Int64)
    (hret : ∀ (C : cM) (H : Heap) (locs : List Loc) (pc : Nat) (ls : Array Slot), Q C → cH D cA ad A s.heap C H locs → decode cX2_setAround pc = .ok (.return_, 1) → W p l e (headSpec wsX2_setAround rmX2_setAround).room s m args below meth c H locs 0 0 Z (F0 m pc ls [])) :
    ∀ (k : Nat) (x5 : Int32) (C : cM) (H : Heap) (locs : List Loc) (ls : Array Slot), wpX2_setAround_8 n Q x0 x1 x2 x3 k x5 C → cH D cA ad A s.heap C H locs → lv_has ls 6 [(0, .ref (ad x0)), (1, .int x1), (2, .int x2), (3, .long x3), (5, .int x5)] → W p l e (headSpec wsX2_setAround rmX2_setAround).room s m args below meth c H locs 0 0 Z (F0 m 8 ls []) := by
  intro k
  induction k with
  | zero => intro x5 C H locs ls hw; exact hw.elim
  | succ k ih =>
    intro x5 C H locs ls hw h hl
    rw [wpX2_setAround_8] at hw
    obtain ⟨⟨hx, hb, hml, hown, hts, hK, hA⟩, hN⟩ := id X
    refine lv_iload hx hb dX2_setAround_8 (lv_at hl 4 rfl) ?_
    refine lv_iload_n hx hb dX2_setAround_10 rfl (lv_at hl 1 rfl) ?_
    refine lv_iload_n hx hb dX2_setAround_11 rfl (lv_at hl 2 rfl) ?_
    refine lv_iadd hx hb dX2_setAround_12 ?_
    refine lv_bipush (v := 8) hx hb dX2_setAround_13 (by decide) ?_
    refine lv_iadd hx hb dX2_setAround_15 ?_
    refine lv_icmp_gt (tgt := 45) hx hb dX2_setAround_16 (by decide) (fun c16 => ?_) (fun c16 => ?_)
    · have hw := hw.1 c16
      exact hret C _ _ _ ls hw h dX2_setAround_45
    · have hw := hw.2 c16
      refine lv_iload hx hb dX2_setAround_19 (lv_at hl 4 rfl) ?_
      refine lv_if_lt (tgt := 39) hx hb dX2_setAround_21 (by decide) (fun c21 => ?_) (fun c21 => ?_)
      · have hw := hw.1 c21
        obtain ⟨x5_39, ex5_39⟩ : ∃ z : Int32, z = x5 + 1 := ⟨_, rfl⟩
        have hw := hw x5_39 ex5_39
        refine lv_iinc (v := x5_39) (lv' := [(5, .int x5_39), (0, .ref (ad x0)), (1, .int x1), (2, .int x2), (3, .long x3)]) hx hb dX2_setAround_39 hl (k := 4) rfl (by rw [ex5_39]; rfl) (by decide) rfl (fun ls hl => ?_)
        refine lv_goto (tgt := 8) hx hb dX2_setAround_42 (by decide) ?_
        exact ih x5_39 C _ _ ls hw h (lv_sub hl [1, 2, 3, 4, 0] rfl)
      · have hw := hw.2 c21
        refine lv_iload hx hb dX2_setAround_24 (lv_at hl 4 rfl) ?_
        refine lv_aload_n hx hb dX2_setAround_26 rfl (lv_at hl 0 rfl) ?_
        obtain ⟨hk1, hw⟩ := hw
        refine c_alenL X.1 h (lar_in hk1) (lar_k hk1) rfl dX2_setAround_27 ?_
        refine lv_icmp_ge (tgt := 39) hx hb dX2_setAround_28 (by decide) (fun c28 => ?_) (fun c28 => ?_)
        · have hw := hw.1 c28
          obtain ⟨x5_39, ex5_39⟩ : ∃ z : Int32, z = x5 + 1 := ⟨_, rfl⟩
          have hw := hw x5_39 ex5_39
          refine lv_iinc (v := x5_39) (lv' := [(5, .int x5_39), (0, .ref (ad x0)), (1, .int x1), (2, .int x2), (3, .long x3)]) hx hb dX2_setAround_39 hl (k := 4) rfl (by rw [ex5_39]; rfl) (by decide) rfl (fun ls hl => ?_)
          refine lv_goto (tgt := 8) hx hb dX2_setAround_42 (by decide) ?_
          exact ih x5_39 C _ _ ls hw h (lv_sub hl [1, 2, 3, 4, 0] rfl)
        · have hw := hw.2 c28
          refine lv_aload_n hx hb dX2_setAround_31 rfl (lv_at hl 0 rfl) ?_
          refine lv_iload hx hb dX2_setAround_32 (lv_at hl 4 rfl) ?_
          refine lv_dup2_11 hx hb dX2_setAround_34 rfl rfl ?_
          obtain ⟨hk2, hw⟩ := hw
          refine c_lald X.1 h (lar_in hk1) (lar_k hk1) (n := (llen x0)) rfl hk2 dX2_setAround_35 ?_
          refine lv_lload_n hx hb dX2_setAround_36 rfl (lv_at hl 3 rfl) ?_
          refine lv_lor hx hb dX2_setAround_37 ?_
          refine c_last X.1 h (lar_in hk1) (lar_k hk1) (n := (llen x0)) rfl hk2 dX2_setAround_38 (fun C38 eC38 H locs h => ?_)
          have hw := hw C38 eC38
          obtain ⟨x5_39, ex5_39⟩ : ∃ z : Int32, z = x5 + 1 := ⟨_, rfl⟩
          have hw := hw x5_39 ex5_39
          refine lv_iinc (v := x5_39) (lv' := [(5, .int x5_39), (0, .ref (ad x0)), (1, .int x1), (2, .int x2), (3, .long x3)]) hx hb dX2_setAround_39 hl (k := 4) rfl (by rw [ex5_39]; rfl) (by decide) rfl (fun ls hl => ?_)
          refine lv_goto (tgt := 8) hx hb dX2_setAround_42 (by decide) ?_
          exact ih x5_39 C38 _ _ ls hw h (lv_sub hl [1, 2, 3, 4, 0] rfl)
set_option maxHeartbeats 4000000 in
set_option maxRecDepth 100000 in
theorem qX2_setAround (l : Launch) (D : va_G) (cA : Nat → ClassId) (n : Nat) (x0 : Nat) (x1 : Int32) (x2 : Int32) (x3 : Int64) : cMv l D cA yX2_setAround wsX2_setAround rmX2_setAround (fun ad => [.ref (ad x0), .int x1, .int x2, .long x3]) (wpX2_setAround n x0 x1 x2 x3) := by
  intro ad sz C Q hw
  unfold wpX2_setAround at hw
  refine c_enter (cc := cX2_setAround) (maxL := 6) (ret := none) (own := RX2) (by decide) rfl rfl (Nat.le_of_ble_eq_true rfl) ?_
  intro p e s m args below meth c hsz X hr hlocks h ls hl
  have hret := c_vret (p := p) (l := l) (e := e) (R := (headSpec wsX2_setAround rmX2_setAround).room) (s := s) (m := m) (args := args) (below := below) (meth := meth) (c := c) (cc := cX2_setAround) (D := D) (cA := cA) (ad := ad) (A := va_A (cws cA ad C) sz) (Q := Q) X.1.1 X.1.2.1 hr hlocks X.1.2.2.2.2.2.1
  obtain ⟨⟨hx, hb, hml, hown, hts, hK, hA⟩, hN⟩ := id X
  have hl : lv_has ls 6 [(0, .ref (ad x0)), (1, .int x1), (2, .int x2), (3, .long x3)] := hl
  refine lv_iload_n hx hb dX2_setAround_0 rfl (lv_at hl 1 rfl) ?_
  refine lv_iload_n hx hb dX2_setAround_1 rfl (lv_at hl 2 rfl) ?_
  refine lv_isub hx hb dX2_setAround_2 ?_
  refine lv_bipush (v := 8) hx hb dX2_setAround_3 (by decide) ?_
  refine lv_iadd hx hb dX2_setAround_5 ?_
  refine lv_topi (fun x5_6 ex5_6 => ?_)
  have hw := hw x5_6 ex5_6
  refine lv_istore (lv' := [(5, .int x5_6), (0, .ref (ad x0)), (1, .int x1), (2, .int x2), (3, .long x3)]) hx hb dX2_setAround_6 hl (by decide) rfl (fun ls hl => ?_)
  exact kX2_setAround_8 X x0 x1 x2 x3 hret n x5_6 C _ _ ls hw h (lv_sub hl [1, 2, 3, 4, 0] rfl)
def rmX2_setAlike : Room := { frames := 0, cells := 0, slots := 0, locals := 0 }
theorem inX2_setAlike_X2 : ∀ w ∈ wsX20, w ∈ wsX2_setAlike := fun w h => List.mem_cons_of_mem _ (List.mem_append_right _ h)
set_option maxHeartbeats 4000000 in
set_option maxRecDepth 100000 in
theorem kX2_setAlike_21 {n : Nat} {Q : cM → Prop} (X : cX p s m args meth c D cA A cX2_setAlike 5 wsX2_setAlike RX2) (x1 : Int32) (x2 : Int64)
    (hret : ∀ (C : cM) (H : Heap) (locs : List Loc) (pc : Nat) (ls : Array Slot), Q C → cH D cA ad A s.heap C H locs → decode cX2_setAlike pc = .ok (.return_, 1) → W p l e (headSpec wsX2_setAlike rmX2_setAlike).room s m args below meth c H locs 0 0 Z (F0 m pc ls [])) :
    ∀ (k : Nat) (x4 : Int32) (C : cM) (H : Heap) (locs : List Loc) (ls : Array Slot), wpX2_setAlike_21 n Q x1 x2 k x4 C → cH D cA ad A s.heap C H locs → lv_has ls 5 [(0, .ref (ad 4)), (1, .int x1), (2, .long x2), (4, .int x4)] → W p l e (headSpec wsX2_setAlike rmX2_setAlike).room s m args below meth c H locs 0 0 Z (F0 m 21 ls []) := by
  intro k
  induction k with
  | zero => intro x4 C H locs ls hw; exact hw.elim
  | succ k ih =>
    intro x4 C H locs ls hw h hl
    rw [wpX2_setAlike_21] at hw
    obtain ⟨⟨hx, hb, hml, hown, hts, hK, hA⟩, hN⟩ := id X
    refine lv_iload hx hb dX2_setAlike_21 (lv_at hl 3 rfl) ?_
    refine lv_iconst (v := 1) hx hb dX2_setAlike_23 (by decide) ?_
    refine lv_icmp_gt (tgt := 49) hx hb dX2_setAlike_24 (by decide) (fun c24 => ?_) (fun c24 => ?_)
    · have hw := hw.1 c24
      exact hret C _ _ _ ls hw h dX2_setAlike_49
    · have hw := hw.2 c24
      refine lv_aload_n hx hb dX2_setAlike_27 rfl (lv_at hl 0 rfl) ?_
      refine c_get X.1 h (cids_f (by decide)) 4 rfl (by decide) rfl inX2_setAlike_X2 5 (by decide) (by decide +kernel) rfl rfl dX2_setAlike_28 ?_
      refine lv_iload_n hx hb dX2_setAlike_31 rfl (lv_at hl 1 rfl) ?_
      refine lv_iload hx hb dX2_setAlike_32 (lv_at hl 3 rfl) ?_
      refine lv_iadd hx hb dX2_setAlike_34 ?_
      refine lv_bipush (v := 7) hx hb dX2_setAlike_35 (by decide) ?_
      refine lv_iand hx hb dX2_setAlike_37 ?_
      refine lv_dup2_11 hx hb dX2_setAlike_38 rfl rfl ?_
      obtain ⟨hk1, hw⟩ := hw
      refine c_lald X.1 h (cids_f (by decide)) rfl (n := 9) rfl hk1 dX2_setAlike_39 ?_
      refine lv_lload_n hx hb dX2_setAlike_40 rfl (lv_at hl 2 rfl) ?_
      refine lv_lor hx hb dX2_setAlike_41 ?_
      refine c_last X.1 h (cids_f (by decide)) rfl (n := 9) rfl hk1 dX2_setAlike_42 (fun C42 eC42 H locs h => ?_)
      have hw := hw C42 eC42
      obtain ⟨x4_43, ex4_43⟩ : ∃ z : Int32, z = x4 + 1 := ⟨_, rfl⟩
      have hw := hw x4_43 ex4_43
      refine lv_iinc (v := x4_43) (lv' := [(4, .int x4_43), (0, .ref (ad 4)), (1, .int x1), (2, .long x2)]) hx hb dX2_setAlike_43 hl (k := 3) rfl (by rw [ex4_43]; rfl) (by decide) rfl (fun ls hl => ?_)
      refine lv_goto (tgt := 21) hx hb dX2_setAlike_46 (by decide) ?_
      exact ih x4_43 C42 _ _ ls hw h (lv_sub hl [1, 2, 3, 0] rfl)
set_option maxHeartbeats 4000000 in
set_option maxRecDepth 100000 in
theorem qX2_setAlike (l : Launch) (D : va_G) (cA : Nat → ClassId) (n : Nat) (x1 : Int32) (x2 : Int64) : cMv l D cA yX2_setAlike wsX2_setAlike rmX2_setAlike (fun ad => [.ref (ad 4), .int x1, .long x2]) (wpX2_setAlike n x1 x2) := by
  intro ad sz C Q hw
  unfold wpX2_setAlike at hw
  refine c_enter (cc := cX2_setAlike) (maxL := 5) (ret := none) (own := RX2) (by decide) rfl rfl (Nat.le_of_ble_eq_true rfl) ?_
  intro p e s m args below meth c hsz X hr hlocks h ls hl
  have hret := c_vret (p := p) (l := l) (e := e) (R := (headSpec wsX2_setAlike rmX2_setAlike).room) (s := s) (m := m) (args := args) (below := below) (meth := meth) (c := c) (cc := cX2_setAlike) (D := D) (cA := cA) (ad := ad) (A := va_A (cws cA ad C) sz) (Q := Q) X.1.1 X.1.2.1 hr hlocks X.1.2.2.2.2.2.1
  obtain ⟨⟨hx, hb, hml, hown, hts, hK, hA⟩, hN⟩ := id X
  have hl : lv_has ls 5 [(0, .ref (ad 4)), (1, .int x1), (2, .long x2)] := hl
  refine lv_iload_n hx hb dX2_setAlike_0 rfl (lv_at hl 1 rfl) ?_
  refine lv_bipush (v := 8) hx hb dX2_setAlike_1 (by decide) ?_
  refine lv_icmp_ne (tgt := 18) hx hb dX2_setAlike_3 (by decide) (fun c3 => ?_) (fun c3 => ?_)
  · have hw := hw.1 c3
    refine lv_iconst (v := (-1)) hx hb dX2_setAlike_18 (by decide) ?_
    refine lv_istore (lv' := [(4, .int (-1)), (0, .ref (ad 4)), (1, .int x1), (2, .long x2)]) hx hb dX2_setAlike_19 hl (by decide) rfl (fun ls hl => ?_)
    exact kX2_setAlike_21 X x1 x2 hret n (-1) C _ _ ls hw h (lv_sub hl [1, 2, 3, 0] rfl)
  · have hw := hw.2 c3
    refine lv_aload_n hx hb dX2_setAlike_6 rfl (lv_at hl 0 rfl) ?_
    refine c_get X.1 h (cids_f (by decide)) 4 rfl (by decide) rfl inX2_setAlike_X2 5 (by decide) (by decide +kernel) rfl rfl dX2_setAlike_7 ?_
    refine lv_bipush (v := 8) hx hb dX2_setAlike_10 (by decide) ?_
    refine lv_dup2_11 hx hb dX2_setAlike_12 rfl rfl ?_
    refine c_lald X.1 h (cids_f (by decide)) rfl (n := 9) rfl (show vp_in 8 9 by unfold vp_in; decide) dX2_setAlike_13 ?_
    refine lv_lload_n hx hb dX2_setAlike_14 rfl (lv_at hl 2 rfl) ?_
    refine lv_lor hx hb dX2_setAlike_15 ?_
    refine c_last X.1 h (cids_f (by decide)) rfl (n := 9) rfl (show vp_in 8 9 by unfold vp_in; decide) dX2_setAlike_16 (fun C16 eC16 H locs h => ?_)
    have hw := hw C16 eC16
    exact hret C16 _ _ _ ls hw h dX2_setAlike_17
def rmX2_prepare : Room := { frames := 1, cells := 0, slots := 0, locals := 28 }
theorem inX2_prepare_X0 : ∀ w ∈ wsX00, w ∈ wsX2_prepare := fun w h => List.mem_cons_of_mem _ (List.mem_append_left _ (List.mem_append_right _ h))
theorem inX2_prepare_X2 : ∀ w ∈ wsX20, w ∈ wsX2_prepare := fun w h => List.mem_cons_of_mem _ (List.mem_append_right _ h)
set_option maxHeartbeats 4000000 in
set_option maxRecDepth 100000 in
theorem kX2_prepare_42 {n : Nat} {Q : cM → Prop} (X : cX p s m args meth c D cA A cX2_prepare 7 wsX2_prepare RX2) (x2 : Nat) (x3 : Int32)
    (hret : ∀ (C : cM) (H : Heap) (locs : List Loc) (pc : Nat) (ls : Array Slot), Q C → cH D cA ad A s.heap C H locs → decode cX2_prepare pc = .ok (.return_, 1) → W p l e (headSpec wsX2_prepare rmX2_prepare).room s m args below meth c H locs 0 0 Z (F0 m pc ls [])) :
    ∀ (k : Nat) (x4 : Int32) (C : cM) (H : Heap) (locs : List Loc) (ls : Array Slot), wpX2_prepare_42 n Q x2 x3 k x4 C → cH D cA ad A s.heap C H locs → lv_has ls 7 [(0, .ref (ad 4)), (2, .ref (ad (64 + 8 * x2))), (3, .int x3), (4, .int x4)] → W p l e (headSpec wsX2_prepare rmX2_prepare).room s m args below meth c H locs 0 0 Z (F0 m 42 ls []) := by
  intro k
  induction k with
  | zero => intro x4 C H locs ls hw; exact hw.elim
  | succ k ih =>
    intro x4 C H locs ls hw h hl
    rw [wpX2_prepare_42] at hw
    obtain ⟨⟨hx, hb, hml, hown, hts, hK, hA⟩, hN⟩ := id X
    refine lv_iload hx hb dX2_prepare_42 (lv_at hl 3 rfl) ?_
    refine lv_aload_n hx hb dX2_prepare_44 rfl (lv_at hl 1 rfl) ?_
    obtain ⟨hk2, hw⟩ := hw
    refine c_get X.1 h (cids_b0 hk2.1) 9 (ckind_b hk2.2) (by decide) rfl inX2_prepare_X0 5 (by decide) (by decide +kernel) rfl rfl dX2_prepare_45 ?_
    refine lv_icmp_ge (tgt := 117) hx hb dX2_prepare_48 (by decide) (fun c48 => ?_) (fun c48 => ?_)
    · have hw := hw.1 c48
      exact hret C _ _ _ ls hw h dX2_prepare_117
    · have hw := hw.2 c48
      refine lv_iload hx hb dX2_prepare_51 (lv_at hl 3 rfl) ?_
      refine lv_bipush (v := 40) hx hb dX2_prepare_53 (by decide) ?_
      refine lv_icmp_ge (tgt := 117) hx hb dX2_prepare_55 (by decide) (fun c55 => ?_) (fun c55 => ?_)
      · have hw := hw.1 c55
        exact hret C _ _ _ ls hw h dX2_prepare_117
      · have hw := hw.2 c55
        refine lv_lconst (v := 1) hx hb dX2_prepare_58 (by decide) ?_
        refine lv_iload hx hb dX2_prepare_59 (lv_at hl 3 rfl) ?_
        refine lv_lshl hx hb dX2_prepare_61 rfl ?_
        refine lv_topl (fun x5_62 ex5_62 => ?_)
        have hw := hw x5_62 ex5_62
        refine lv_lstore (lv' := [(5, .long x5_62), (0, .ref (ad 4)), (2, .ref (ad (64 + 8 * x2))), (3, .int x3), (4, .int x4)]) hx hb dX2_prepare_62 hl (by decide) rfl (fun ls hl => ?_)
        refine lv_aload_n hx hb dX2_prepare_64 rfl (lv_at hl 1 rfl) ?_
        refine c_get X.1 h (cids_f (by decide)) 4 rfl (by decide) rfl inX2_prepare_X2 3 (by decide) (by decide +kernel) rfl rfl dX2_prepare_65 ?_
        refine lv_aload_n hx hb dX2_prepare_68 rfl (lv_at hl 2 rfl) ?_
        refine c_get X.1 h (cids_b0 hk2.1) 9 (ckind_b hk2.2) (by decide) rfl inX2_prepare_X0 2 (by decide) (by decide +kernel) rfl rfl dX2_prepare_69 ?_
        refine lv_iload hx hb dX2_prepare_72 (lv_at hl 4 rfl) ?_
        obtain ⟨hk3, hw⟩ := hw
        refine c_iald X.1 h (cids_b hk2.1 3 (by decide)) (ckind_ba hk2.2 (by decide) (by decide)) (n := 40) (ilen_ba (by decide)) hk3 dX2_prepare_74 ?_
        refine lv_iload_n hx hb dX2_prepare_75 rfl (lv_at hl 3 rfl) ?_
        refine lv_lload hx hb dX2_prepare_76 (lv_at hl 0 rfl) ?_
        refine c_gov X h (c_runS (n := 4) X h (qX2_setAround l D cA n 23 (cI C (64 + 8 * x2 + 3) x4.toNatClampNeg) x3 x5_62 ad _ _ _ hw) gX2_prepare_X2_setAround hl.1 dX2_prepare_78 rfl rfl rfl (by decide +kernel) ⟨Nat.le_of_ble_eq_true rfl, Nat.le_of_ble_eq_true rfl⟩ rfl rfl (Nat.le_of_ble_eq_true rfl) ⟨Nat.zero_le _, Nat.zero_le _⟩) (fun C78 H locs hw h => ?_)
        refine lv_aload_n hx hb dX2_prepare_81 rfl (lv_at hl 1 rfl) ?_
        refine c_get X.1 h (cids_f (by decide)) 4 rfl (by decide) rfl inX2_prepare_X2 4 (by decide) (by decide +kernel) rfl rfl dX2_prepare_82 ?_
        refine lv_aload_n hx hb dX2_prepare_85 rfl (lv_at hl 2 rfl) ?_
        obtain ⟨hk4, hw⟩ := hw
        refine c_get X.1 h (cids_b0 hk4.1) 9 (ckind_b hk4.2) (by decide) rfl inX2_prepare_X0 3 (by decide) (by decide +kernel) rfl rfl dX2_prepare_86 ?_
        refine lv_iload hx hb dX2_prepare_89 (lv_at hl 4 rfl) ?_
        refine c_iald X.1 h (cids_b hk4.1 4 (by decide)) (ckind_ba hk4.2 (by decide) (by decide)) (n := 40) (ilen_ba (by decide)) hk3 dX2_prepare_91 ?_
        refine lv_iload_n hx hb dX2_prepare_92 rfl (lv_at hl 3 rfl) ?_
        refine lv_lload hx hb dX2_prepare_93 (lv_at hl 0 rfl) ?_
        refine c_gov X h (c_runS (n := 4) X h (qX2_setAround l D cA n 24 (cI C78 (64 + 8 * x2 + 4) x4.toNatClampNeg) x3 x5_62 ad _ _ _ hw) gX2_prepare_X2_setAround hl.1 dX2_prepare_95 rfl rfl rfl (by decide +kernel) ⟨Nat.le_of_ble_eq_true rfl, Nat.le_of_ble_eq_true rfl⟩ rfl rfl (Nat.le_of_ble_eq_true rfl) ⟨Nat.zero_le _, Nat.zero_le _⟩) (fun C95 H locs hw h => ?_)
        refine lv_aload_n hx hb dX2_prepare_98 rfl (lv_at hl 1 rfl) ?_
        refine lv_aload_n hx hb dX2_prepare_99 rfl (lv_at hl 2 rfl) ?_
        obtain ⟨hk5, hw⟩ := hw
        refine c_get X.1 h (cids_b0 hk5.1) 9 (ckind_b hk5.2) (by decide) rfl inX2_prepare_X0 4 (by decide) (by decide +kernel) rfl rfl dX2_prepare_100 ?_
        refine lv_iload hx hb dX2_prepare_103 (lv_at hl 4 rfl) ?_
        refine c_iald X.1 h (cids_b hk5.1 5 (by decide)) (ckind_ba hk5.2 (by decide) (by decide)) (n := 40) (ilen_ba (by decide)) hk3 dX2_prepare_105 ?_
        refine lv_lload hx hb dX2_prepare_106 (lv_at hl 0 rfl) ?_
        refine c_gov X h (c_runV (n := 2) X h (cids_f (by decide)) 4 rfl (by decide) rfl (qX2_setAlike l D cA n (cI C95 (64 + 8 * x2 + 5) x4.toNatClampNeg) x5_62 ad _ _ _ hw) gX2_prepare_X2_setAlike hl.1 dX2_prepare_108 rfl rfl rfl (by decide +kernel) ⟨Nat.le_of_ble_eq_true rfl, Nat.le_of_ble_eq_true rfl⟩ rfl rfl (Nat.le_of_ble_eq_true rfl) ⟨Nat.zero_le _, Nat.zero_le _⟩) (fun C108 H locs hw h => ?_)
        obtain ⟨x4_111, ex4_111⟩ : ∃ z : Int32, z = x4 + 1 := ⟨_, rfl⟩
        have hw := hw x4_111 ex4_111
        refine lv_iinc (v := x4_111) (lv' := [(4, .int x4_111), (5, .long x5_62), (0, .ref (ad 4)), (2, .ref (ad (64 + 8 * x2))), (3, .int x3)]) hx hb dX2_prepare_111 hl (k := 4) rfl (by rw [ex4_111]; rfl) (by decide) rfl (fun ls hl => ?_)
        refine lv_goto (tgt := 42) hx hb dX2_prepare_114 (by decide) ?_
        exact ih x4_111 C108 _ _ ls hw h (lv_sub hl [2, 3, 4, 0] rfl)
set_option maxHeartbeats 4000000 in
set_option maxRecDepth 100000 in
theorem qX2_prepare (l : Launch) (D : va_G) (cA : Nat → ClassId) (n : Nat) (x1 : Nat) (x2 : Nat) (x3 : Int32) : cMv l D cA yX2_prepare wsX2_prepare rmX2_prepare (fun ad => [.ref (ad 4), .ref (ad (64 + 8 * x1)), .ref (ad (64 + 8 * x2)), .int x3]) (wpX2_prepare n x1 x2 x3) := by
  intro ad sz C Q hw
  unfold wpX2_prepare at hw
  refine c_enter (cc := cX2_prepare) (maxL := 7) (ret := none) (own := RX2) (by decide) rfl rfl (Nat.le_of_ble_eq_true rfl) ?_
  intro p e s m args below meth c hsz X hr hlocks h ls hl
  have hret := c_vret (p := p) (l := l) (e := e) (R := (headSpec wsX2_prepare rmX2_prepare).room) (s := s) (m := m) (args := args) (below := below) (meth := meth) (c := c) (cc := cX2_prepare) (D := D) (cA := cA) (ad := ad) (A := va_A (cws cA ad C) sz) (Q := Q) X.1.1 X.1.2.1 hr hlocks X.1.2.2.2.2.2.1
  obtain ⟨⟨hx, hb, hml, hown, hts, hK, hA⟩, hN⟩ := id X
  have hl : lv_has ls 7 [(0, .ref (ad 4)), (1, .ref (ad (64 + 8 * x1))), (2, .ref (ad (64 + 8 * x2))), (3, .int x3)] := hl
  refine lv_aload_n hx hb dX2_prepare_0 rfl (lv_at hl 0 rfl) ?_
  refine lv_aload_n hx hb dX2_prepare_1 rfl (lv_at hl 1 rfl) ?_
  obtain ⟨hk1, hw⟩ := hw
  refine c_get X.1 h (cids_b0 hk1.1) 9 (ckind_b hk1.2) (by decide) rfl inX2_prepare_X0 5 (by decide) (by decide +kernel) rfl rfl dX2_prepare_2 ?_
  refine lv_bipush (v := 40) hx hb dX2_prepare_5 (by decide) ?_
  refine va_mmin hx hb (hml.trans hl.1.symm) hown (hts (.methodLink RX2 59 Lib.Math.min.name) (by decide +kernel)) (hts (.static Lib.Math.min.name) (by decide +kernel)) (hts (.initialized "java/lang/Math") (by decide +kernel)) (hts (.code Lib.Math.min.name Lib.Math.min.code 2 (some .int)) (by decide +kernel)) (Nat.le_of_ble_eq_true rfl) (Nat.le_of_ble_eq_true rfl) (Nat.zero_le _) (Nat.zero_le _) dX2_prepare_7 ?_
  refine c_put X.1 h (cids_f (by decide)) 4 rfl (by decide) rfl inX2_prepare_X2 tyX2 tyX2_ok nmX2 11 (by decide) (by decide +kernel) rfl rfl rfl rfl (Nat.le_of_ble_eq_true rfl) (fun _ _ => rfl) dX2_prepare_10 (fun C10 eC10 H locs h => ?_)
  have hw := hw C10 eC10
  have hk1 : bok C10 x1 := by rw [eC10]; exact hk1
  refine lv_aload_n hx hb dX2_prepare_13 rfl (lv_at hl 0 rfl) ?_
  refine lv_aload_n hx hb dX2_prepare_14 rfl (lv_at hl 1 rfl) ?_
  refine c_gov X h (c_runV (n := 1) X h (cids_f (by decide)) 4 rfl (by decide) rfl (qX2_turnMarks l D cA n x1 ad _ _ _ hw) gX2_prepare_X2_turnMarks hl.1 dX2_prepare_15 rfl rfl rfl (by decide +kernel) ⟨Nat.le_of_ble_eq_true rfl, Nat.le_of_ble_eq_true rfl⟩ rfl rfl (Nat.le_of_ble_eq_true rfl) ⟨Nat.zero_le _, Nat.zero_le _⟩) (fun C15 H locs hw h => ?_)
  refine lv_aload_n hx hb dX2_prepare_18 rfl (lv_at hl 0 rfl) ?_
  refine c_get X.1 h (cids_f (by decide)) 4 rfl (by decide) rfl inX2_prepare_X2 3 (by decide) (by decide +kernel) rfl rfl dX2_prepare_19 ?_
  refine c_gov X h (c_runS (n := 1) X h (qX2_clear l D cA n 23 ad _ _ _ hw) gX2_prepare_X2_clear hl.1 dX2_prepare_22 rfl rfl rfl (by decide +kernel) ⟨Nat.le_of_ble_eq_true rfl, Nat.le_of_ble_eq_true rfl⟩ rfl rfl (Nat.le_of_ble_eq_true rfl) ⟨Nat.zero_le _, Nat.zero_le _⟩) (fun C22 H locs hw h => ?_)
  refine lv_aload_n hx hb dX2_prepare_25 rfl (lv_at hl 0 rfl) ?_
  refine c_get X.1 h (cids_f (by decide)) 4 rfl (by decide) rfl inX2_prepare_X2 4 (by decide) (by decide +kernel) rfl rfl dX2_prepare_26 ?_
  refine c_gov X h (c_runS (n := 1) X h (qX2_clear l D cA n 24 ad _ _ _ hw) gX2_prepare_X2_clear hl.1 dX2_prepare_29 rfl rfl rfl (by decide +kernel) ⟨Nat.le_of_ble_eq_true rfl, Nat.le_of_ble_eq_true rfl⟩ rfl rfl (Nat.le_of_ble_eq_true rfl) ⟨Nat.zero_le _, Nat.zero_le _⟩) (fun C29 H locs hw h => ?_)
  refine lv_aload_n hx hb dX2_prepare_32 rfl (lv_at hl 0 rfl) ?_
  refine c_get X.1 h (cids_f (by decide)) 4 rfl (by decide) rfl inX2_prepare_X2 5 (by decide) (by decide +kernel) rfl rfl dX2_prepare_33 ?_
  refine c_gov X h (c_runS (n := 1) X h (qX2_clear l D cA n 25 ad _ _ _ hw) gX2_prepare_X2_clear hl.1 dX2_prepare_36 rfl rfl rfl (by decide +kernel) ⟨Nat.le_of_ble_eq_true rfl, Nat.le_of_ble_eq_true rfl⟩ rfl rfl (Nat.le_of_ble_eq_true rfl) ⟨Nat.zero_le _, Nat.zero_le _⟩) (fun C36 H locs hw h => ?_)
  refine lv_iconst (v := 0) hx hb dX2_prepare_39 (by decide) ?_
  refine lv_istore (lv' := [(4, .int 0), (0, .ref (ad 4)), (1, .ref (ad (64 + 8 * x1))), (2, .ref (ad (64 + 8 * x2))), (3, .int x3)]) hx hb dX2_prepare_40 hl (by decide) rfl (fun ls hl => ?_)
  exact kX2_prepare_42 X x2 x3 hret n 0 C36 _ _ ls hw h (lv_sub hl [1, 3, 4, 0] rfl)
def rmX2_gatherChoices : Room := { frames := 1, cells := 0, slots := 0, locals := 21 }
theorem inX2_gatherChoices_X2 : ∀ w ∈ wsX20, w ∈ wsX2_gatherChoices := fun w h => List.mem_cons_of_mem _ (List.mem_append_right _ h)
set_option maxHeartbeats 4000000 in
set_option maxRecDepth 100000 in
theorem kX2_gatherChoices_192 {n : Nat} {R : Int32 → Int64 → Int32 → cM → Prop} (X : cX p s m args meth c D cA A cX2_gatherChoices 14 wsX2_gatherChoices RX2) (x1 : Int32) (x2 : Int32) (x3 : Int32) (x5 : Int64) (x7 : Int32)
    (hR : ∀ (y4 : Int32) (y5 : Int64) (y7 : Int32) (C : cM) (H : Heap) (locs : List Loc) (ls : Array Slot), R y4 y5 y7 C → cH D cA ad A s.heap C H locs → lv_has ls 14 [(0, .ref (ad 4)), (1, .int x1), (2, .int x2), (3, .int x3), (4, .int y4), (5, .long y5), (7, .int y7)] → W p l e (headSpec wsX2_gatherChoices rmX2_gatherChoices).room s m args below meth c H locs 0 0 Z (F0 m 9 ls [])) :
    ∀ (s0 : Int32) (s1 : Int32) (C : cM) (H : Heap) (locs : List Loc) (ls : Array Slot), wpX2_gatherChoices_192 n R x1 x2 x3 x5 x7 s0 s1 C → cH D cA ad A s.heap C H locs → lv_has ls 14 [(0, .ref (ad 4)), (1, .int x1), (2, .int x2), (3, .int x3), (5, .long x5), (7, .int x7)] → W p l e (headSpec wsX2_gatherChoices rmX2_gatherChoices).room s m args below meth c H locs 0 0 Z (F0 m 192 ls [.int s0, .int s1]) := by
  intro s0 s1 C H locs ls hw h hl
  unfold wpX2_gatherChoices_192 at hw
  obtain ⟨⟨hx, hb, hml, hown, hts, hK, hA⟩, hN⟩ := id X
  refine lv_iadd hx hb dX2_gatherChoices_192 ?_
  refine lv_topi (fun x4_193 ex4_193 => ?_)
  have hw := hw x4_193 ex4_193
  refine lv_istore (lv' := [(4, .int x4_193), (0, .ref (ad 4)), (1, .int x1), (2, .int x2), (3, .int x3), (5, .long x5), (7, .int x7)]) hx hb dX2_gatherChoices_193 hl (by decide) rfl (fun ls hl => ?_)
  obtain ⟨x7_195, ex7_195⟩ : ∃ z : Int32, z = x7 + 1 := ⟨_, rfl⟩
  have hw := hw x7_195 ex7_195
  refine lv_iinc (v := x7_195) (lv' := [(7, .int x7_195), (4, .int x4_193), (0, .ref (ad 4)), (1, .int x1), (2, .int x2), (3, .int x3), (5, .long x5)]) hx hb dX2_gatherChoices_195 hl (k := 6) rfl (by rw [ex7_195]; rfl) (by decide) rfl (fun ls hl => ?_)
  refine lv_goto (tgt := 9) hx hb dX2_gatherChoices_198 (by decide) ?_
  exact hR x4_193 x5 x7_195 C _ _ ls hw h (lv_sub hl [2, 3, 4, 5, 1, 6, 0] rfl)
set_option maxHeartbeats 4000000 in
set_option maxRecDepth 100000 in
theorem kX2_gatherChoices_160 {n : Nat} {R : Int32 → Int64 → Int32 → cM → Prop} (X : cX p s m args meth c D cA A cX2_gatherChoices 14 wsX2_gatherChoices RX2) (x1 : Int32) (x2 : Int32) (x3 : Int32) (x4 : Int32) (x5 : Int64) (x7 : Int32)
    (hR : ∀ (y4 : Int32) (y5 : Int64) (y7 : Int32) (C : cM) (H : Heap) (locs : List Loc) (ls : Array Slot), R y4 y5 y7 C → cH D cA ad A s.heap C H locs → lv_has ls 14 [(0, .ref (ad 4)), (1, .int x1), (2, .int x2), (3, .int x3), (4, .int y4), (5, .long y5), (7, .int y7)] → W p l e (headSpec wsX2_gatherChoices rmX2_gatherChoices).room s m args below meth c H locs 0 0 Z (F0 m 9 ls [])) :
    ∀ (s0 : Int64) (C : cM) (H : Heap) (locs : List Loc) (ls : Array Slot), wpX2_gatherChoices_160 n R x1 x2 x3 x4 x5 x7 s0 C → cH D cA ad A s.heap C H locs → lv_has ls 14 [(0, .ref (ad 4)), (1, .int x1), (2, .int x2), (3, .int x3), (4, .int x4), (5, .long x5), (7, .int x7)] → W p l e (headSpec wsX2_gatherChoices rmX2_gatherChoices).room s m args below meth c H locs 0 0 Z (F0 m 160 ls [.long s0, .int x7, .ref (ad 26)]) := by
  intro s0 C H locs ls hw h hl
  unfold wpX2_gatherChoices_160 at hw
  obtain ⟨⟨hx, hb, hml, hown, hts, hK, hA⟩, hN⟩ := id X
  obtain ⟨hk2, hw⟩ := hw
  refine c_last X.1 h (cids_f (by decide)) rfl (n := 40) rfl hk2 dX2_gatherChoices_160 (fun C160 eC160 H locs h => ?_)
  have hw := hw C160 eC160
  refine lv_lload hx hb dX2_gatherChoices_161 (lv_at hl 5 rfl) ?_
  refine lv_aload_n hx hb dX2_gatherChoices_163 rfl (lv_at hl 0 rfl) ?_
  refine c_get X.1 h (cids_f (by decide)) 4 rfl (by decide) rfl inX2_gatherChoices_X2 6 (by decide) (by decide +kernel) rfl rfl dX2_gatherChoices_164 ?_
  refine lv_iload hx hb dX2_gatherChoices_167 (lv_at hl 6 rfl) ?_
  refine c_lald X.1 h (cids_f (by decide)) rfl (n := 40) rfl hk2 dX2_gatherChoices_169 ?_
  refine lv_lor hx hb dX2_gatherChoices_170 ?_
  refine lv_topl (fun x5_171 ex5_171 => ?_)
  have hw := hw x5_171 ex5_171
  refine lv_lstore (lv' := [(5, .long x5_171), (0, .ref (ad 4)), (1, .int x1), (2, .int x2), (3, .int x3), (4, .int x4), (7, .int x7)]) hx hb dX2_gatherChoices_171 hl (by decide) rfl (fun ls hl => ?_)
  refine lv_iload hx hb dX2_gatherChoices_173 (lv_at hl 5 rfl) ?_
  refine lv_aload_n hx hb dX2_gatherChoices_175 rfl (lv_at hl 1 rfl) ?_
  refine c_get X.1 h (cids_f (by decide)) 4 rfl (by decide) rfl inX2_gatherChoices_X2 6 (by decide) (by decide +kernel) rfl rfl dX2_gatherChoices_176 ?_
  refine lv_iload hx hb dX2_gatherChoices_179 (lv_at hl 6 rfl) ?_
  refine c_lald X.1 h (cids_f (by decide)) rfl (n := 40) rfl hk2 dX2_gatherChoices_181 ?_
  refine lv_lconst (v := 0) hx hb dX2_gatherChoices_182 (by decide) ?_
  refine W.lcmp hx hb dX2_gatherChoices_183 ?_
  refine lv_if_eq (tgt := 191) hx hb dX2_gatherChoices_184 (by decide) (fun c184 => ?_) (fun c184 => ?_)
  · have hw := hw.1 c184
    refine lv_iconst (v := 0) hx hb dX2_gatherChoices_191 (by decide) ?_
    exact kX2_gatherChoices_192 X x1 x2 x3 x5_171 x7 hR 0 x4 C160 _ _ ls hw h (lv_sub hl [1, 2, 3, 4, 0, 6] rfl)
  · have hw := hw.2 c184
    refine lv_iconst (v := 1) hx hb dX2_gatherChoices_187 (by decide) ?_
    refine lv_goto (tgt := 192) hx hb dX2_gatherChoices_188 (by decide) ?_
    exact kX2_gatherChoices_192 X x1 x2 x3 x5_171 x7 hR 1 x4 C160 _ _ ls hw h (lv_sub hl [1, 2, 3, 4, 0, 6] rfl)
set_option maxHeartbeats 4000000 in
set_option maxRecDepth 100000 in
theorem kX2_gatherChoices_115 {n : Nat} {R : Int32 → Int64 → Int32 → cM → Prop} (X : cX p s m args meth c D cA A cX2_gatherChoices 14 wsX2_gatherChoices RX2) (x1 : Int32) (x2 : Int32) (x3 : Int32) (x4 : Int32) (x5 : Int64) (x7 : Int32) (x9 : Int32) (x10 : Int32) (x11 : Int32) (x12 : Int32)
    (hR : ∀ (y4 : Int32) (y5 : Int64) (y7 : Int32) (C : cM) (H : Heap) (locs : List Loc) (ls : Array Slot), R y4 y5 y7 C → cH D cA ad A s.heap C H locs → lv_has ls 14 [(0, .ref (ad 4)), (1, .int x1), (2, .int x2), (3, .int x3), (4, .int y4), (5, .long y5), (7, .int y7)] → W p l e (headSpec wsX2_gatherChoices rmX2_gatherChoices).room s m args below meth c H locs 0 0 Z (F0 m 9 ls [])) :
    ∀ (s0 : Int32) (C : cM) (H : Heap) (locs : List Loc) (ls : Array Slot), wpX2_gatherChoices_115 n R x1 x2 x3 x4 x5 x7 x9 x10 x11 x12 s0 C → cH D cA ad A s.heap C H locs → lv_has ls 14 [(0, .ref (ad 4)), (1, .int x1), (2, .int x2), (3, .int x3), (4, .int x4), (5, .long x5), (7, .int x7), (9, .int x9), (10, .int x10), (11, .int x11), (12, .int x12)] → W p l e (headSpec wsX2_gatherChoices rmX2_gatherChoices).room s m args below meth c H locs 0 0 Z (F0 m 115 ls [.int s0]) := by
  intro s0 C H locs ls hw h hl
  unfold wpX2_gatherChoices_115 at hw
  obtain ⟨⟨hx, hb, hml, hown, hts, hK, hA⟩, hN⟩ := id X
  refine lv_istore (lv' := [(13, .int s0), (0, .ref (ad 4)), (1, .int x1), (2, .int x2), (3, .int x3), (4, .int x4), (5, .long x5), (7, .int x7), (9, .int x9), (10, .int x10), (11, .int x11), (12, .int x12)]) hx hb dX2_gatherChoices_115 hl (by decide) rfl (fun ls hl => ?_)
  refine lv_aload_n hx hb dX2_gatherChoices_117 rfl (lv_at hl 1 rfl) ?_
  refine c_get X.1 h (cids_f (by decide)) 4 rfl (by decide) rfl inX2_gatherChoices_X2 6 (by decide) (by decide +kernel) rfl rfl dX2_gatherChoices_118 ?_
  refine lv_iload hx hb dX2_gatherChoices_121 (lv_at hl 7 rfl) ?_
  refine lv_iload hx hb dX2_gatherChoices_123 (lv_at hl 11 rfl) ?_
  refine lv_if_eq (tgt := 159) hx hb dX2_gatherChoices_125 (by decide) (fun c125 => ?_) (fun c125 => ?_)
  · have hw := hw.1 c125
    refine lv_lconst (v := 0) hx hb dX2_gatherChoices_159 (by decide) ?_
    exact kX2_gatherChoices_160 X x1 x2 x3 x4 x5 x7 hR 0 C _ _ ls hw h (lv_sub hl [1, 2, 3, 4, 5, 6, 7] rfl)
  · have hw := hw.2 c125
    refine lv_iload hx hb dX2_gatherChoices_128 (lv_at hl 0 rfl) ?_
    refine lv_if_eq (tgt := 159) hx hb dX2_gatherChoices_130 (by decide) (fun c130 => ?_) (fun c130 => ?_)
    · have hw := hw.1 c130
      refine lv_lconst (v := 0) hx hb dX2_gatherChoices_159 (by decide) ?_
      exact kX2_gatherChoices_160 X x1 x2 x3 x4 x5 x7 hR 0 C _ _ ls hw h (lv_sub hl [1, 2, 3, 4, 5, 6, 7] rfl)
    · have hw := hw.2 c130
      refine lv_aload_n hx hb dX2_gatherChoices_133 rfl (lv_at hl 1 rfl) ?_
      refine c_get X.1 h (cids_f (by decide)) 4 rfl (by decide) rfl inX2_gatherChoices_X2 5 (by decide) (by decide +kernel) rfl rfl dX2_gatherChoices_134 ?_
      refine lv_iload hx hb dX2_gatherChoices_137 (lv_at hl 10 rfl) ?_
      obtain ⟨hk3, hw⟩ := hw
      refine c_lald X.1 h (cids_f (by decide)) rfl (n := 9) rfl hk3 dX2_gatherChoices_139 ?_
      refine lv_aload_n hx hb dX2_gatherChoices_140 rfl (lv_at hl 1 rfl) ?_
      refine c_get X.1 h (cids_f (by decide)) 4 rfl (by decide) rfl inX2_gatherChoices_X2 3 (by decide) (by decide +kernel) rfl rfl dX2_gatherChoices_141 ?_
      refine lv_iload hx hb dX2_gatherChoices_144 (lv_at hl 8 rfl) ?_
      obtain ⟨hk4, hw⟩ := hw
      refine c_lald X.1 h (cids_f (by decide)) rfl (n := 40) rfl hk4 dX2_gatherChoices_146 ?_
      refine lv_land hx hb dX2_gatherChoices_147 ?_
      refine lv_aload_n hx hb dX2_gatherChoices_148 rfl (lv_at hl 1 rfl) ?_
      refine c_get X.1 h (cids_f (by decide)) 4 rfl (by decide) rfl inX2_gatherChoices_X2 4 (by decide) (by decide +kernel) rfl rfl dX2_gatherChoices_149 ?_
      refine lv_iload hx hb dX2_gatherChoices_152 (lv_at hl 9 rfl) ?_
      obtain ⟨hk5, hw⟩ := hw
      refine c_lald X.1 h (cids_f (by decide)) rfl (n := 40) rfl hk5 dX2_gatherChoices_154 ?_
      refine lv_land hx hb dX2_gatherChoices_155 ?_
      refine lv_goto (tgt := 160) hx hb dX2_gatherChoices_156 (by decide) ?_
      exact kX2_gatherChoices_160 X x1 x2 x3 x4 x5 x7 hR (((cL C 25 x11.toNatClampNeg) &&& (cL C 23 x9.toNatClampNeg)) &&& (cL C 24 x10.toNatClampNeg)) C _ _ ls hw h (lv_sub hl [1, 2, 3, 4, 5, 6, 7] rfl)
set_option maxHeartbeats 4000000 in
set_option maxRecDepth 100000 in
theorem kX2_gatherChoices_93 {n : Nat} {R : Int32 → Int64 → Int32 → cM → Prop} (X : cX p s m args meth c D cA A cX2_gatherChoices 14 wsX2_gatherChoices RX2) (x1 : Int32) (x2 : Int32) (x3 : Int32) (x4 : Int32) (x5 : Int64) (x7 : Int32) (x9 : Int32) (x10 : Int32) (x11 : Int32)
    (hR : ∀ (y4 : Int32) (y5 : Int64) (y7 : Int32) (C : cM) (H : Heap) (locs : List Loc) (ls : Array Slot), R y4 y5 y7 C → cH D cA ad A s.heap C H locs → lv_has ls 14 [(0, .ref (ad 4)), (1, .int x1), (2, .int x2), (3, .int x3), (4, .int y4), (5, .long y5), (7, .int y7)] → W p l e (headSpec wsX2_gatherChoices rmX2_gatherChoices).room s m args below meth c H locs 0 0 Z (F0 m 9 ls [])) :
    ∀ (s0 : Int32) (C : cM) (H : Heap) (locs : List Loc) (ls : Array Slot), wpX2_gatherChoices_93 n R x1 x2 x3 x4 x5 x7 x9 x10 x11 s0 C → cH D cA ad A s.heap C H locs → lv_has ls 14 [(0, .ref (ad 4)), (1, .int x1), (2, .int x2), (3, .int x3), (4, .int x4), (5, .long x5), (7, .int x7), (9, .int x9), (10, .int x10), (11, .int x11)] → W p l e (headSpec wsX2_gatherChoices rmX2_gatherChoices).room s m args below meth c H locs 0 0 Z (F0 m 93 ls [.int s0]) := by
  intro s0 C H locs ls hw h hl
  unfold wpX2_gatherChoices_93 at hw
  obtain ⟨⟨hx, hb, hml, hown, hts, hK, hA⟩, hN⟩ := id X
  refine lv_istore (lv' := [(12, .int s0), (0, .ref (ad 4)), (1, .int x1), (2, .int x2), (3, .int x3), (4, .int x4), (5, .long x5), (7, .int x7), (9, .int x9), (10, .int x10), (11, .int x11)]) hx hb dX2_gatherChoices_93 hl (by decide) rfl (fun ls hl => ?_)
  refine lv_iload hx hb dX2_gatherChoices_95 (lv_at hl 10 rfl) ?_
  refine lv_if_lt (tgt := 114) hx hb dX2_gatherChoices_97 (by decide) (fun c97 => ?_) (fun c97 => ?_)
  · have hw := hw.1 c97
    refine lv_iconst (v := 0) hx hb dX2_gatherChoices_114 (by decide) ?_
    exact kX2_gatherChoices_115 X x1 x2 x3 x4 x5 x7 x9 x10 x11 s0 hR 0 C _ _ ls hw h (lv_sub hl [1, 2, 3, 4, 5, 6, 7, 8, 9, 10, 0] rfl)
  · have hw := hw.2 c97
    refine lv_iload hx hb dX2_gatherChoices_100 (lv_at hl 10 rfl) ?_
    refine lv_aload_n hx hb dX2_gatherChoices_102 rfl (lv_at hl 1 rfl) ?_
    refine c_get X.1 h (cids_f (by decide)) 4 rfl (by decide) rfl inX2_gatherChoices_X2 5 (by decide) (by decide +kernel) rfl rfl dX2_gatherChoices_103 ?_
    refine c_alenL X.1 h (cids_f (by decide)) rfl (v := 9) rfl dX2_gatherChoices_106 ?_
    refine lv_icmp_ge (tgt := 114) hx hb dX2_gatherChoices_107 (by decide) (fun c107 => ?_) (fun c107 => ?_)
    · have hw := hw.1 c107
      refine lv_iconst (v := 0) hx hb dX2_gatherChoices_114 (by decide) ?_
      exact kX2_gatherChoices_115 X x1 x2 x3 x4 x5 x7 x9 x10 x11 s0 hR 0 C _ _ ls hw h (lv_sub hl [1, 2, 3, 4, 5, 6, 7, 8, 9, 10, 0] rfl)
    · have hw := hw.2 c107
      refine lv_iconst (v := 1) hx hb dX2_gatherChoices_110 (by decide) ?_
      refine lv_goto (tgt := 115) hx hb dX2_gatherChoices_111 (by decide) ?_
      exact kX2_gatherChoices_115 X x1 x2 x3 x4 x5 x7 x9 x10 x11 s0 hR 1 C _ _ ls hw h (lv_sub hl [1, 2, 3, 4, 5, 6, 7, 8, 9, 10, 0] rfl)
set_option maxHeartbeats 4000000 in
set_option maxRecDepth 100000 in
theorem kX2_gatherChoices_9 {n : Nat} {E201 : Int32 → Int64 → cM → Prop} (X : cX p s m args meth c D cA A cX2_gatherChoices 14 wsX2_gatherChoices RX2) (x1 : Int32) (x2 : Int32) (x3 : Int32)
    (hE201 : ∀ (y4 : Int32) (y5 : Int64) (C : cM) (H : Heap) (locs : List Loc) (ls : Array Slot), E201 y4 y5 C → cH D cA ad A s.heap C H locs → lv_has ls 14 [(4, .int y4), (5, .long y5)] → W p l e (headSpec wsX2_gatherChoices rmX2_gatherChoices).room s m args below meth c H locs 0 0 Z (F0 m 201 ls [])) :
    ∀ (k : Nat) (x4 : Int32) (x5 : Int64) (x7 : Int32) (C : cM) (H : Heap) (locs : List Loc) (ls : Array Slot), wpX2_gatherChoices_9 n E201 x1 x2 x3 k x4 x5 x7 C → cH D cA ad A s.heap C H locs → lv_has ls 14 [(0, .ref (ad 4)), (1, .int x1), (2, .int x2), (3, .int x3), (4, .int x4), (5, .long x5), (7, .int x7)] → W p l e (headSpec wsX2_gatherChoices rmX2_gatherChoices).room s m args below meth c H locs 0 0 Z (F0 m 9 ls []) := by
  intro k
  induction k with
  | zero => intro x4 x5 x7 C H locs ls hw; exact hw.elim
  | succ k ih =>
    intro x4 x5 x7 C H locs ls hw h hl
    rw [wpX2_gatherChoices_9] at hw
    obtain ⟨⟨hx, hb, hml, hown, hts, hK, hA⟩, hN⟩ := id X
    refine lv_iload hx hb dX2_gatherChoices_9 (lv_at hl 6 rfl) ?_
    refine lv_aload_n hx hb dX2_gatherChoices_11 rfl (lv_at hl 0 rfl) ?_
    refine c_get X.1 h (cids_f (by decide)) 4 rfl (by decide) rfl inX2_gatherChoices_X2 11 (by decide) (by decide +kernel) rfl rfl dX2_gatherChoices_12 ?_
    refine lv_icmp_ge (tgt := 201) hx hb dX2_gatherChoices_15 (by decide) (fun c15 => ?_) (fun c15 => ?_)
    · have hw := hw.1 c15
      exact hE201 x4 x5 C _ _ ls hw h (lv_sub hl [4, 5] rfl)
    · have hw := hw.2 c15
      refine lv_iload_n hx hb dX2_gatherChoices_18 rfl (lv_at hl 1 rfl) ?_
      refine lv_bipush (v := 40) hx hb dX2_gatherChoices_19 (by decide) ?_
      refine lv_imul hx hb dX2_gatherChoices_21 ?_
      refine lv_iload hx hb dX2_gatherChoices_22 (lv_at hl 6 rfl) ?_
      refine lv_iadd hx hb dX2_gatherChoices_24 ?_
      refine lv_topi (fun x8_25 ex8_25 => ?_)
      have hw := hw x8_25 ex8_25
      refine lv_istore (lv' := [(8, .int x8_25), (0, .ref (ad 4)), (1, .int x1), (2, .int x2), (3, .int x3), (4, .int x4), (5, .long x5), (7, .int x7)]) hx hb dX2_gatherChoices_25 hl (by decide) rfl (fun ls hl => ?_)
      refine lv_aload_n hx hb dX2_gatherChoices_27 rfl (lv_at hl 1 rfl) ?_
      refine c_get X.1 h (cids_f (by decide)) 4 rfl (by decide) rfl inX2_gatherChoices_X2 0 (by decide) (by decide +kernel) rfl rfl dX2_gatherChoices_28 ?_
      refine lv_iload hx hb dX2_gatherChoices_31 (lv_at hl 0 rfl) ?_
      obtain ⟨hk1, hw⟩ := hw
      refine c_iald X.1 h (cids_f (by decide)) rfl (n := 160) rfl hk1 dX2_gatherChoices_33 ?_
      refine lv_iload_n hx hb dX2_gatherChoices_34 rfl (lv_at hl 3 rfl) ?_
      refine lv_iadd hx hb dX2_gatherChoices_35 ?_
      refine lv_bipush (v := 8) hx hb dX2_gatherChoices_36 (by decide) ?_
      refine lv_iadd hx hb dX2_gatherChoices_38 ?_
      refine lv_topi (fun x9_39 ex9_39 => ?_)
      have hw := hw x9_39 ex9_39
      refine lv_istore (lv' := [(9, .int x9_39), (8, .int x8_25), (0, .ref (ad 4)), (1, .int x1), (2, .int x2), (3, .int x3), (4, .int x4), (5, .long x5), (7, .int x7)]) hx hb dX2_gatherChoices_39 hl (by decide) rfl (fun ls hl => ?_)
      refine lv_aload_n hx hb dX2_gatherChoices_41 rfl (lv_at hl 2 rfl) ?_
      refine c_get X.1 h (cids_f (by decide)) 4 rfl (by decide) rfl inX2_gatherChoices_X2 1 (by decide) (by decide +kernel) rfl rfl dX2_gatherChoices_42 ?_
      refine lv_iload hx hb dX2_gatherChoices_45 (lv_at hl 1 rfl) ?_
      refine c_iald X.1 h (cids_f (by decide)) rfl (n := 160) rfl hk1 dX2_gatherChoices_47 ?_
      refine lv_iload_n hx hb dX2_gatherChoices_48 rfl (lv_at hl 5 rfl) ?_
      refine lv_iadd hx hb dX2_gatherChoices_49 ?_
      refine lv_bipush (v := 8) hx hb dX2_gatherChoices_50 (by decide) ?_
      refine lv_iadd hx hb dX2_gatherChoices_52 ?_
      refine lv_topi (fun x10_53 ex10_53 => ?_)
      have hw := hw x10_53 ex10_53
      refine lv_istore (lv' := [(10, .int x10_53), (9, .int x9_39), (8, .int x8_25), (0, .ref (ad 4)), (1, .int x1), (2, .int x2), (3, .int x3), (4, .int x4), (5, .long x5), (7, .int x7)]) hx hb dX2_gatherChoices_53 hl (by decide) rfl (fun ls hl => ?_)
      refine lv_aload_n hx hb dX2_gatherChoices_55 rfl (lv_at hl 3 rfl) ?_
      refine c_get X.1 h (cids_f (by decide)) 4 rfl (by decide) rfl inX2_gatherChoices_X2 2 (by decide) (by decide +kernel) rfl rfl dX2_gatherChoices_56 ?_
      refine lv_iload hx hb dX2_gatherChoices_59 (lv_at hl 2 rfl) ?_
      refine c_iald X.1 h (cids_f (by decide)) rfl (n := 160) rfl hk1 dX2_gatherChoices_61 ?_
      refine lv_topi (fun x11_62 ex11_62 => ?_)
      have hw := hw x11_62 ex11_62
      refine lv_istore (lv' := [(11, .int x11_62), (10, .int x10_53), (9, .int x9_39), (8, .int x8_25), (0, .ref (ad 4)), (1, .int x1), (2, .int x2), (3, .int x3), (4, .int x4), (5, .long x5), (7, .int x7)]) hx hb dX2_gatherChoices_62 hl (by decide) rfl (fun ls hl => ?_)
      refine lv_iload hx hb dX2_gatherChoices_64 (lv_at hl 2 rfl) ?_
      refine lv_if_lt (tgt := 92) hx hb dX2_gatherChoices_66 (by decide) (fun c66 => ?_) (fun c66 => ?_)
      · have hw := hw.1 c66
        refine lv_iconst (v := 0) hx hb dX2_gatherChoices_92 (by decide) ?_
        exact kX2_gatherChoices_93 X x1 x2 x3 x4 x5 x7 x9_39 x10_53 x11_62 ih 0 C _ _ ls hw h (lv_sub hl [4, 5, 6, 7, 8, 9, 10, 2, 1, 0] rfl)
      · have hw := hw.2 c66
        refine lv_iload hx hb dX2_gatherChoices_69 (lv_at hl 2 rfl) ?_
        refine lv_bipush (v := 40) hx hb dX2_gatherChoices_71 (by decide) ?_
        refine lv_icmp_ge (tgt := 92) hx hb dX2_gatherChoices_73 (by decide) (fun c73 => ?_) (fun c73 => ?_)
        · have hw := hw.1 c73
          refine lv_iconst (v := 0) hx hb dX2_gatherChoices_92 (by decide) ?_
          exact kX2_gatherChoices_93 X x1 x2 x3 x4 x5 x7 x9_39 x10_53 x11_62 ih 0 C _ _ ls hw h (lv_sub hl [4, 5, 6, 7, 8, 9, 10, 2, 1, 0] rfl)
        · have hw := hw.2 c73
          refine lv_iload hx hb dX2_gatherChoices_76 (lv_at hl 1 rfl) ?_
          refine lv_if_lt (tgt := 92) hx hb dX2_gatherChoices_78 (by decide) (fun c78 => ?_) (fun c78 => ?_)
          · have hw := hw.1 c78
            refine lv_iconst (v := 0) hx hb dX2_gatherChoices_92 (by decide) ?_
            exact kX2_gatherChoices_93 X x1 x2 x3 x4 x5 x7 x9_39 x10_53 x11_62 ih 0 C _ _ ls hw h (lv_sub hl [4, 5, 6, 7, 8, 9, 10, 2, 1, 0] rfl)
          · have hw := hw.2 c78
            refine lv_iload hx hb dX2_gatherChoices_81 (lv_at hl 1 rfl) ?_
            refine lv_bipush (v := 40) hx hb dX2_gatherChoices_83 (by decide) ?_
            refine lv_icmp_ge (tgt := 92) hx hb dX2_gatherChoices_85 (by decide) (fun c85 => ?_) (fun c85 => ?_)
            · have hw := hw.1 c85
              refine lv_iconst (v := 0) hx hb dX2_gatherChoices_92 (by decide) ?_
              exact kX2_gatherChoices_93 X x1 x2 x3 x4 x5 x7 x9_39 x10_53 x11_62 ih 0 C _ _ ls hw h (lv_sub hl [4, 5, 6, 7, 8, 9, 10, 2, 1, 0] rfl)
            · have hw := hw.2 c85
              refine lv_iconst (v := 1) hx hb dX2_gatherChoices_88 (by decide) ?_
              refine lv_goto (tgt := 93) hx hb dX2_gatherChoices_89 (by decide) ?_
              exact kX2_gatherChoices_93 X x1 x2 x3 x4 x5 x7 x9_39 x10_53 x11_62 ih 1 C _ _ ls hw h (lv_sub hl [4, 5, 6, 7, 8, 9, 10, 2, 1, 0] rfl)
set_option maxHeartbeats 4000000 in
set_option maxRecDepth 100000 in
theorem qX2_gatherChoices (l : Launch) (D : va_G) (cA : Nat → ClassId) (n : Nat) (x1 : Int32) (x2 : Int32) (x3 : Int32) : cMi l D cA yX2_gatherChoices wsX2_gatherChoices rmX2_gatherChoices (fun ad => [.ref (ad 4), .int x1, .int x2, .int x3]) (wpX2_gatherChoices n x1 x2 x3) := by
  intro ad sz C Q hw
  unfold wpX2_gatherChoices at hw
  refine c_enter (cc := cX2_gatherChoices) (maxL := 14) (ret := some .int) (own := RX2) (by decide) rfl rfl (Nat.le_of_ble_eq_true rfl) ?_
  intro p e s m args below meth c hsz X hr hlocks h ls hl
  have hret := c_iret (p := p) (l := l) (e := e) (R := (headSpec wsX2_gatherChoices rmX2_gatherChoices).room) (s := s) (m := m) (args := args) (below := below) (meth := meth) (c := c) (cc := cX2_gatherChoices) (D := D) (cA := cA) (ad := ad) (A := va_A (cws cA ad C) sz) (Q := Q) X.1.1 X.1.2.1 hr hlocks X.1.2.2.2.2.2.1
  obtain ⟨⟨hx, hb, hml, hown, hts, hK, hA⟩, hN⟩ := id X
  have hl : lv_has ls 14 [(0, .ref (ad 4)), (1, .int x1), (2, .int x2), (3, .int x3)] := hl
  refine lv_iconst (v := 0) hx hb dX2_gatherChoices_0 (by decide) ?_
  refine lv_istore (lv' := [(4, .int 0), (0, .ref (ad 4)), (1, .int x1), (2, .int x2), (3, .int x3)]) hx hb dX2_gatherChoices_1 hl (by decide) rfl (fun ls hl => ?_)
  refine lv_lconst (v := 0) hx hb dX2_gatherChoices_3 (by decide) ?_
  refine lv_lstore (lv' := [(5, .long 0), (4, .int 0), (0, .ref (ad 4)), (1, .int x1), (2, .int x2), (3, .int x3)]) hx hb dX2_gatherChoices_4 hl (by decide) rfl (fun ls hl => ?_)
  refine lv_iconst (v := 0) hx hb dX2_gatherChoices_6 (by decide) ?_
  refine lv_istore (lv' := [(7, .int 0), (5, .long 0), (4, .int 0), (0, .ref (ad 4)), (1, .int x1), (2, .int x2), (3, .int x3)]) hx hb dX2_gatherChoices_7 hl (by decide) rfl (fun ls hl => ?_)
  refine kX2_gatherChoices_9 X x1 x2 x3 (fun y4_9 y5_9 C_9 H locs ls hw h hl => ?_) n 0 0 0 C _ _ ls hw h (lv_sub hl [3, 4, 5, 6, 2, 1, 0] rfl)
  refine lv_iload hx hb dX2_gatherChoices_201 (lv_at hl 0 rfl) ?_
  refine lv_lload hx hb dX2_gatherChoices_203 (lv_at hl 1 rfl) ?_
  refine c_goi X h (c_runS (n := 1) X h (qJ13_bitCount_95d88 l D cA n y5_9 ad _ _ _ hw) gX2_gatherChoices_J13_bitCount_95d88 hl.1 dX2_gatherChoices_205 rfl rfl rfl (by decide +kernel) ⟨Nat.le_of_ble_eq_true rfl, Nat.le_of_ble_eq_true rfl⟩ rfl rfl (Nat.le_of_ble_eq_true rfl) ⟨Nat.zero_le _, Nat.zero_le _⟩) (fun r205 C205 H locs hw h => ?_)
  refine va_mmin hx hb (hml.trans hl.1.symm) hown (hts (.methodLink RX2 59 Lib.Math.min.name) (by decide +kernel)) (hts (.static Lib.Math.min.name) (by decide +kernel)) (hts (.initialized "java/lang/Math") (by decide +kernel)) (hts (.code Lib.Math.min.name Lib.Math.min.code 2 (some .int)) (by decide +kernel)) (Nat.le_of_ble_eq_true rfl) (Nat.le_of_ble_eq_true rfl) (Nat.zero_le _) (Nat.zero_le _) dX2_gatherChoices_208 ?_
  exact hret (imin y4_9 r205) C205 _ _ _ ls hw h dX2_gatherChoices_211
def rmX2_lowest : Room := { frames := 1, cells := 0, slots := 0, locals := 21 }
set_option maxHeartbeats 4000000 in
set_option maxRecDepth 100000 in
theorem qX2_lowest (l : Launch) (D : va_G) (cA : Nat → ClassId) (n : Nat) (x0 : Int64) : cMi l D cA yX2_lowest wsX2_lowest rmX2_lowest (fun _ => [.long x0]) (wpX2_lowest n x0) := by
  intro ad sz C Q hw
  unfold wpX2_lowest at hw
  refine c_enter (cc := cX2_lowest) (maxL := 2) (ret := some .int) (own := RX2) (by decide) rfl rfl (Nat.le_of_ble_eq_true rfl) ?_
  intro p e s m args below meth c hsz X hr hlocks h ls hl
  have hret := c_iret (p := p) (l := l) (e := e) (R := (headSpec wsX2_lowest rmX2_lowest).room) (s := s) (m := m) (args := args) (below := below) (meth := meth) (c := c) (cc := cX2_lowest) (D := D) (cA := cA) (ad := ad) (A := va_A (cws cA ad C) sz) (Q := Q) X.1.1 X.1.2.1 hr hlocks X.1.2.2.2.2.2.1
  obtain ⟨⟨hx, hb, hml, hown, hts, hK, hA⟩, hN⟩ := id X
  have hl : lv_has ls 2 [(0, .long x0)] := hl
  refine lv_lload_n hx hb dX2_lowest_0 rfl (lv_at hl 0 rfl) ?_
  refine lv_lload_n hx hb dX2_lowest_1 rfl (lv_at hl 0 rfl) ?_
  refine lv_lneg hx hb dX2_lowest_2 ?_
  refine lv_land hx hb dX2_lowest_3 ?_
  refine lv_lconst (v := 1) hx hb dX2_lowest_4 (by decide) ?_
  refine lv_lsub hx hb dX2_lowest_5 ?_
  refine c_goi X h (c_runS (n := 1) X h (qJ13_bitCount_95d88 l D cA n ((x0 &&& (-x0)) - 1) ad _ _ _ hw) gX2_lowest_J13_bitCount_95d88 hl.1 dX2_lowest_6 rfl rfl rfl (by decide +kernel) ⟨Nat.le_of_ble_eq_true rfl, Nat.le_of_ble_eq_true rfl⟩ rfl rfl (Nat.le_of_ble_eq_true rfl) ⟨Nat.zero_le _, Nat.zero_le _⟩) (fun r6 C6 H locs hw h => ?_)
  refine lv_bipush (v := 39) hx hb dX2_lowest_9 (by decide) ?_
  refine va_mmin hx hb (hml.trans hl.1.symm) hown (hts (.methodLink RX2 59 Lib.Math.min.name) (by decide +kernel)) (hts (.static Lib.Math.min.name) (by decide +kernel)) (hts (.initialized "java/lang/Math") (by decide +kernel)) (hts (.code Lib.Math.min.name Lib.Math.min.code 2 (some .int)) (by decide +kernel)) (Nat.le_of_ble_eq_true rfl) (Nat.le_of_ble_eq_true rfl) (Nat.zero_le _) (Nat.zero_le _) dX2_lowest_11 ?_
  exact hret (imin r6 39) C6 _ _ _ ls hw h dX2_lowest_14
def rmX2_pairAlong : Room := { frames := 0, cells := 0, slots := 0, locals := 0 }
theorem inX2_pairAlong_X2 : ∀ w ∈ wsX20, w ∈ wsX2_pairAlong := fun w h => List.mem_cons_of_mem _ (List.mem_append_right _ h)
set_option maxHeartbeats 4000000 in
set_option maxRecDepth 100000 in
theorem kX2_pairAlong_20 {n : Nat} {Q : cM → Prop} (X : cX p s m args meth c D cA A cX2_pairAlong 7 wsX2_pairAlong RX2)
    (hret : ∀ (C : cM) (H : Heap) (locs : List Loc) (pc : Nat) (ls : Array Slot), Q C → cH D cA ad A s.heap C H locs → decode cX2_pairAlong pc = .ok (.return_, 1) → W p l e (headSpec wsX2_pairAlong rmX2_pairAlong).room s m args below meth c H locs 0 0 Z (F0 m pc ls [])) :
    ∀ (k : Nat) (x3 : Int32) (x4 : Int32) (x5 : Int32) (C : cM) (H : Heap) (locs : List Loc) (ls : Array Slot), wpX2_pairAlong_20 n Q k x3 x4 x5 C → cH D cA ad A s.heap C H locs → lv_has ls 7 [(0, .ref (ad 4)), (3, .int x3), (4, .int x4), (5, .int x5)] → W p l e (headSpec wsX2_pairAlong rmX2_pairAlong).room s m args below meth c H locs 0 0 Z (F0 m 20 ls []) := by
  intro k
  induction k with
  | zero => intro x3 x4 x5 C H locs ls hw; exact hw.elim
  | succ k ih =>
    intro x3 x4 x5 C H locs ls hw h hl
    rw [wpX2_pairAlong_20] at hw
    obtain ⟨⟨hx, hb, hml, hown, hts, hK, hA⟩, hN⟩ := id X
    refine lv_iload hx hb dX2_pairAlong_20 (lv_at hl 3 rfl) ?_
    refine lv_bipush (v := 40) hx hb dX2_pairAlong_22 (by decide) ?_
    refine lv_icmp_ge (tgt := 99) hx hb dX2_pairAlong_24 (by decide) (fun c24 => ?_) (fun c24 => ?_)
    · have hw := hw.1 c24
      exact hret C _ _ _ ls hw h dX2_pairAlong_99
    · have hw := hw.2 c24
      refine lv_iload_n hx hb dX2_pairAlong_27 rfl (lv_at hl 1 rfl) ?_
      refine lv_if_lt (tgt := 49) hx hb dX2_pairAlong_28 (by decide) (fun c28 => ?_) (fun c28 => ?_)
      · have hw := hw.1 c28
        exact hret C _ _ _ ls hw h dX2_pairAlong_49
      · have hw := hw.2 c28
        refine lv_iload_n hx hb dX2_pairAlong_31 rfl (lv_at hl 1 rfl) ?_
        refine lv_bipush (v := 40) hx hb dX2_pairAlong_32 (by decide) ?_
        refine lv_icmp_ge (tgt := 49) hx hb dX2_pairAlong_34 (by decide) (fun c34 => ?_) (fun c34 => ?_)
        · have hw := hw.1 c34
          exact hret C _ _ _ ls hw h dX2_pairAlong_49
        · have hw := hw.2 c34
          refine lv_iload hx hb dX2_pairAlong_37 (lv_at hl 2 rfl) ?_
          refine lv_if_lt (tgt := 49) hx hb dX2_pairAlong_39 (by decide) (fun c39 => ?_) (fun c39 => ?_)
          · have hw := hw.1 c39
            exact hret C _ _ _ ls hw h dX2_pairAlong_49
          · have hw := hw.2 c39
            refine lv_iload hx hb dX2_pairAlong_42 (lv_at hl 2 rfl) ?_
            refine lv_bipush (v := 40) hx hb dX2_pairAlong_44 (by decide) ?_
            refine lv_icmp_lt (tgt := 50) hx hb dX2_pairAlong_46 (by decide) (fun c46 => ?_) (fun c46 => ?_)
            · have hw := hw.1 c46
              refine lv_aload_n hx hb dX2_pairAlong_50 rfl (lv_at hl 0 rfl) ?_
              refine c_get X.1 h (cids_f (by decide)) 4 rfl (by decide) rfl inX2_pairAlong_X2 7 (by decide) (by decide +kernel) rfl rfl dX2_pairAlong_51 ?_
              refine lv_iload_n hx hb dX2_pairAlong_54 rfl (lv_at hl 1 rfl) ?_
              obtain ⟨hk1, hw⟩ := hw
              refine c_iald X.1 h (cids_f (by decide)) rfl (n := 40) rfl hk1 dX2_pairAlong_55 ?_
              refine lv_topi (fun x6_56 ex6_56 => ?_)
              have hw := hw x6_56 ex6_56
              refine lv_istore (lv' := [(6, .int x6_56), (0, .ref (ad 4)), (3, .int x3), (4, .int x4), (5, .int x5)]) hx hb dX2_pairAlong_56 hl (by decide) rfl (fun ls hl => ?_)
              refine lv_aload_n hx hb dX2_pairAlong_58 rfl (lv_at hl 1 rfl) ?_
              refine c_get X.1 h (cids_f (by decide)) 4 rfl (by decide) rfl inX2_pairAlong_X2 7 (by decide) (by decide +kernel) rfl rfl dX2_pairAlong_59 ?_
              refine lv_iload_n hx hb dX2_pairAlong_62 rfl (lv_at hl 2 rfl) ?_
              refine lv_iload hx hb dX2_pairAlong_63 (lv_at hl 3 rfl) ?_
              refine c_iast X.1 h (cids_f (by decide)) rfl (n := 40) rfl hk1 dX2_pairAlong_65 (fun C65 eC65 H locs h => ?_)
              have hw := hw C65 eC65
              refine lv_aload_n hx hb dX2_pairAlong_66 rfl (lv_at hl 1 rfl) ?_
              refine c_get X.1 h (cids_f (by decide)) 4 rfl (by decide) rfl inX2_pairAlong_X2 8 (by decide) (by decide +kernel) rfl rfl dX2_pairAlong_67 ?_
              refine lv_iload hx hb dX2_pairAlong_70 (lv_at hl 3 rfl) ?_
              refine lv_iload_n hx hb dX2_pairAlong_72 rfl (lv_at hl 2 rfl) ?_
              obtain ⟨hk2, hw⟩ := hw
              refine c_iast X.1 h (cids_f (by decide)) rfl (n := 40) rfl hk2 dX2_pairAlong_73 (fun C73 eC73 H locs h => ?_)
              have hw := hw C73 eC73
              refine lv_iload hx hb dX2_pairAlong_74 (lv_at hl 0 rfl) ?_
              refine lv_iconst (v := (-1)) hx hb dX2_pairAlong_76 (by decide) ?_
              refine lv_icmp_ne (tgt := 81) hx hb dX2_pairAlong_77 (by decide) (fun c77 => ?_) (fun c77 => ?_)
              · have hw := hw.1 c77
                refine lv_iload hx hb dX2_pairAlong_81 (lv_at hl 0 rfl) ?_
                refine lv_istore (lv' := [(4, .int x6_56), (6, .int x6_56), (0, .ref (ad 4)), (3, .int x3), (5, .int x5)]) hx hb dX2_pairAlong_83 hl (by decide) rfl (fun ls hl => ?_)
                refine lv_aload_n hx hb dX2_pairAlong_85 rfl (lv_at hl 2 rfl) ?_
                refine c_get X.1 h (cids_f (by decide)) 4 rfl (by decide) rfl inX2_pairAlong_X2 9 (by decide) (by decide +kernel) rfl rfl dX2_pairAlong_86 ?_
                refine lv_iload hx hb dX2_pairAlong_89 (lv_at hl 0 rfl) ?_
                obtain ⟨hk3, hw⟩ := hw
                refine c_iald X.1 h (cids_f (by decide)) rfl (n := 40) rfl hk3 dX2_pairAlong_91 ?_
                refine lv_topi (fun x3_92 ex3_92 => ?_)
                have hw := hw x3_92 ex3_92
                refine lv_istore_n (lv' := [(3, .int x3_92), (4, .int x6_56), (6, .int x6_56), (0, .ref (ad 4)), (5, .int x5)]) hx hb dX2_pairAlong_92 rfl hl (by decide) rfl (fun ls hl => ?_)
                obtain ⟨x5_93, ex5_93⟩ : ∃ z : Int32, z = x5 + 1 := ⟨_, rfl⟩
                have hw := hw x5_93 ex5_93
                refine lv_iinc (v := x5_93) (lv' := [(5, .int x5_93), (3, .int x3_92), (4, .int x6_56), (6, .int x6_56), (0, .ref (ad 4))]) hx hb dX2_pairAlong_93 hl (k := 4) rfl (by rw [ex5_93]; rfl) (by decide) rfl (fun ls hl => ?_)
                refine lv_goto (tgt := 20) hx hb dX2_pairAlong_96 (by decide) ?_
                exact ih x3_92 x6_56 x5_93 C73 _ _ ls hw h (lv_sub hl [4, 1, 2, 0] rfl)
              · have hw := hw.2 c77
                exact hret C73 _ _ _ ls hw h dX2_pairAlong_80
            · have hw := hw.2 c46
              exact hret C _ _ _ ls hw h dX2_pairAlong_49
set_option maxHeartbeats 4000000 in
set_option maxRecDepth 100000 in
theorem qX2_pairAlong (l : Launch) (D : va_G) (cA : Nat → ClassId) (n : Nat) (x1 : Int32) (x2 : Int32) : cMv l D cA yX2_pairAlong wsX2_pairAlong rmX2_pairAlong (fun ad => [.ref (ad 4), .int x1, .int x2]) (wpX2_pairAlong n x1 x2) := by
  intro ad sz C Q hw
  unfold wpX2_pairAlong at hw
  refine c_enter (cc := cX2_pairAlong) (maxL := 7) (ret := none) (own := RX2) (by decide) rfl rfl (Nat.le_of_ble_eq_true rfl) ?_
  intro p e s m args below meth c hsz X hr hlocks h ls hl
  have hret := c_vret (p := p) (l := l) (e := e) (R := (headSpec wsX2_pairAlong rmX2_pairAlong).room) (s := s) (m := m) (args := args) (below := below) (meth := meth) (c := c) (cc := cX2_pairAlong) (D := D) (cA := cA) (ad := ad) (A := va_A (cws cA ad C) sz) (Q := Q) X.1.1 X.1.2.1 hr hlocks X.1.2.2.2.2.2.1
  obtain ⟨⟨hx, hb, hml, hown, hts, hK, hA⟩, hN⟩ := id X
  have hl : lv_has ls 7 [(0, .ref (ad 4)), (1, .int x1), (2, .int x2)] := hl
  refine lv_aload_n hx hb dX2_pairAlong_0 rfl (lv_at hl 0 rfl) ?_
  refine lv_dup hx hb dX2_pairAlong_1 rfl ?_
  refine c_get X.1 h (cids_f (by decide)) 4 rfl (by decide) rfl inX2_pairAlong_X2 12 (by decide) (by decide +kernel) rfl rfl dX2_pairAlong_2 ?_
  refine lv_lconst (v := 1) hx hb dX2_pairAlong_5 (by decide) ?_
  refine lv_iload_n hx hb dX2_pairAlong_6 rfl (lv_at hl 2 rfl) ?_
  refine lv_lshl hx hb dX2_pairAlong_7 rfl ?_
  refine lv_lor hx hb dX2_pairAlong_8 ?_
  refine c_putL X.1 h (cids_f (by decide)) 4 rfl (by decide) rfl inX2_pairAlong_X2 tyX2 tyX2_ok nmX2 12 (by decide) (by decide +kernel) rfl rfl rfl rfl (Nat.le_of_ble_eq_true rfl) (fun _ _ => rfl) dX2_pairAlong_9 (fun C9 eC9 H locs h => ?_)
  have hw := hw C9 eC9
  refine lv_iload_n hx hb dX2_pairAlong_12 rfl (lv_at hl 1 rfl) ?_
  refine lv_istore_n (lv' := [(3, .int x1), (0, .ref (ad 4)), (1, .int x1), (2, .int x2)]) hx hb dX2_pairAlong_13 rfl hl (by decide) rfl (fun ls hl => ?_)
  refine lv_iload_n hx hb dX2_pairAlong_14 rfl (lv_at hl 3 rfl) ?_
  refine lv_istore (lv' := [(4, .int x2), (3, .int x1), (0, .ref (ad 4)), (1, .int x1), (2, .int x2)]) hx hb dX2_pairAlong_15 hl (by decide) rfl (fun ls hl => ?_)
  refine lv_iconst (v := 0) hx hb dX2_pairAlong_17 (by decide) ?_
  refine lv_istore (lv' := [(5, .int 0), (4, .int x2), (3, .int x1), (0, .ref (ad 4)), (1, .int x1), (2, .int x2)]) hx hb dX2_pairAlong_18 hl (by decide) rfl (fun ls hl => ?_)
  exact kX2_pairAlong_20 X hret n x1 x2 0 C9 _ _ ls hw h (lv_sub hl [3, 2, 1, 0] rfl)
def rmX2_findMate : Room := { frames := 2, cells := 0, slots := 0, locals := 42 }
theorem inX2_findMate_X2 : ∀ w ∈ wsX20, w ∈ wsX2_findMate := fun w h => List.mem_cons_of_mem _ (List.mem_append_right _ h)
set_option maxHeartbeats 4000000 in
set_option maxRecDepth 100000 in
theorem kX2_findMate_117 {n : Nat} {E177 : Int32 → cM → Prop} (X : cX p s m args meth c D cA A cX2_findMate 13 wsX2_findMate RX2) (x2 : Int64) (x5 : Int32) (x6 : Int32)
    (hE177 : ∀ (y4 : Int32) (C : cM) (H : Heap) (locs : List Loc) (ls : Array Slot), E177 y4 C → cH D cA ad A s.heap C H locs → lv_has ls 13 [(0, .ref (ad 4)), (2, .long x2), (4, .int y4), (5, .int x5)] → W p l e (headSpec wsX2_findMate rmX2_findMate).room s m args below meth c H locs 0 0 Z (F0 m 177 ls [])) :
    ∀ (k : Nat) (x4 : Int32) (x9 : Int64) (x11 : Int32) (C : cM) (H : Heap) (locs : List Loc) (ls : Array Slot), wpX2_findMate_117 n E177 x2 x5 x6 k x4 x9 x11 C → cH D cA ad A s.heap C H locs → lv_has ls 13 [(0, .ref (ad 4)), (2, .long x2), (4, .int x4), (5, .int x5), (6, .int x6), (9, .long x9), (11, .int x11)] → W p l e (headSpec wsX2_findMate rmX2_findMate).room s m args below meth c H locs 0 0 Z (F0 m 117 ls []) := by
  intro k
  induction k with
  | zero => intro x4 x9 x11 C H locs ls hw; exact hw.elim
  | succ k ih =>
    intro x4 x9 x11 C H locs ls hw h hl
    rw [wpX2_findMate_117] at hw
    obtain ⟨⟨hx, hb, hml, hown, hts, hK, hA⟩, hN⟩ := id X
    refine lv_iload hx hb dX2_findMate_117 (lv_at hl 6 rfl) ?_
    refine lv_if_le (tgt := 177) hx hb dX2_findMate_119 (by decide) (fun c119 => ?_) (fun c119 => ?_)
    · have hw := hw.1 c119
      exact hE177 x4 C _ _ ls hw h (lv_sub hl [0, 1, 2, 3] rfl)
    · have hw := hw.2 c119
      refine lv_iload hx hb dX2_findMate_122 (lv_at hl 2 rfl) ?_
      refine lv_bipush (v := 40) hx hb dX2_findMate_124 (by decide) ?_
      refine lv_icmp_ge (tgt := 177) hx hb dX2_findMate_126 (by decide) (fun c126 => ?_) (fun c126 => ?_)
      · have hw := hw.1 c126
        exact hE177 x4 C _ _ ls hw h (lv_sub hl [0, 1, 2, 3] rfl)
      · have hw := hw.2 c126
        refine lv_lload hx hb dX2_findMate_129 (lv_at hl 5 rfl) ?_
        refine c_goi X h (c_runS (n := 1) X h (qX2_lowest l D cA n x9 ad _ _ _ hw) gX2_findMate_X2_lowest hl.1 dX2_findMate_131 rfl rfl rfl (by decide +kernel) ⟨Nat.le_of_ble_eq_true rfl, Nat.le_of_ble_eq_true rfl⟩ rfl rfl (Nat.le_of_ble_eq_true rfl) ⟨Nat.zero_le _, Nat.zero_le _⟩) (fun r131 C131 H locs hw h => ?_)
        refine lv_istore (lv' := [(12, .int r131), (0, .ref (ad 4)), (2, .long x2), (4, .int x4), (5, .int x5), (6, .int x6), (9, .long x9), (11, .int x11)]) hx hb dX2_findMate_134 hl (by decide) rfl (fun ls hl => ?_)
        refine lv_lload hx hb dX2_findMate_136 (lv_at hl 6 rfl) ?_
        refine lv_lload hx hb dX2_findMate_138 (lv_at hl 6 rfl) ?_
        refine lv_lconst (v := 1) hx hb dX2_findMate_140 (by decide) ?_
        refine lv_lsub hx hb dX2_findMate_141 ?_
        refine lv_land hx hb dX2_findMate_142 ?_
        refine lv_topl (fun x9_143 ex9_143 => ?_)
        have hw := hw x9_143 ex9_143
        refine lv_lstore (lv' := [(9, .long x9_143), (12, .int r131), (0, .ref (ad 4)), (2, .long x2), (4, .int x4), (5, .int x5), (6, .int x6), (11, .int x11)]) hx hb dX2_findMate_143 hl (by decide) rfl (fun ls hl => ?_)
        refine lv_aload_n hx hb dX2_findMate_145 rfl (lv_at hl 2 rfl) ?_
        refine c_get X.1 h (cids_f (by decide)) 4 rfl (by decide) rfl inX2_findMate_X2 9 (by decide) (by decide +kernel) rfl rfl dX2_findMate_146 ?_
        refine lv_iload hx hb dX2_findMate_149 (lv_at hl 1 rfl) ?_
        refine lv_iload hx hb dX2_findMate_151 (lv_at hl 6 rfl) ?_
        obtain ⟨hk3, hw⟩ := hw
        refine c_iast X.1 h (cids_f (by decide)) rfl (n := 40) rfl hk3 dX2_findMate_153 (fun C153 eC153 H locs h => ?_)
        have hw := hw C153 eC153
        refine lv_aload_n hx hb dX2_findMate_154 rfl (lv_at hl 2 rfl) ?_
        refine c_get X.1 h (cids_f (by decide)) 4 rfl (by decide) rfl inX2_findMate_X2 10 (by decide) (by decide +kernel) rfl rfl dX2_findMate_155 ?_
        refine lv_iload hx hb dX2_findMate_158 (lv_at hl 4 rfl) ?_
        refine lv_aload_n hx hb dX2_findMate_160 rfl (lv_at hl 2 rfl) ?_
        refine c_get X.1 h (cids_f (by decide)) 4 rfl (by decide) rfl inX2_findMate_X2 8 (by decide) (by decide +kernel) rfl rfl dX2_findMate_161 ?_
        refine lv_iload hx hb dX2_findMate_164 (lv_at hl 1 rfl) ?_
        refine c_iald X.1 h (cids_f (by decide)) rfl (n := 40) rfl hk3 dX2_findMate_166 ?_
        obtain ⟨hk4, hw⟩ := hw
        refine c_iast X.1 h (cids_f (by decide)) rfl (n := 40) rfl hk4 dX2_findMate_167 (fun C167 eC167 H locs h => ?_)
        have hw := hw C167 eC167
        obtain ⟨x4_168, ex4_168⟩ : ∃ z : Int32, z = x4 + 1 := ⟨_, rfl⟩
        have hw := hw x4_168 ex4_168
        refine lv_iinc (v := x4_168) (lv' := [(4, .int x4_168), (9, .long x9_143), (12, .int r131), (0, .ref (ad 4)), (2, .long x2), (5, .int x5), (6, .int x6), (11, .int x11)]) hx hb dX2_findMate_168 hl (k := 4) rfl (by rw [ex4_168]; rfl) (by decide) rfl (fun ls hl => ?_)
        obtain ⟨x11_171, ex11_171⟩ : ∃ z : Int32, z = x11 + (-1) := ⟨_, rfl⟩
        have hw := hw x11_171 ex11_171
        refine lv_iinc (v := x11_171) (lv' := [(11, .int x11_171), (4, .int x4_168), (9, .long x9_143), (12, .int r131), (0, .ref (ad 4)), (2, .long x2), (5, .int x5), (6, .int x6)]) hx hb dX2_findMate_171 hl (k := 7) rfl (by rw [ex11_171]; rfl) (by decide) rfl (fun ls hl => ?_)
        refine lv_goto (tgt := 117) hx hb dX2_findMate_174 (by decide) ?_
        exact ih x4_168 x9_143 x11_171 C167 _ _ ls hw h (lv_sub hl [4, 5, 1, 6, 7, 2, 0] rfl)
set_option maxHeartbeats 4000000 in
set_option maxRecDepth 100000 in
theorem kX2_findMate_15 {n : Nat} {Q : Int32 → cM → Prop} {E77 : Int32 → Int64 → cM → Prop} (X : cX p s m args meth c D cA A cX2_findMate 13 wsX2_findMate RX2)
    (hret : ∀ (r : Int32) (C : cM) (H : Heap) (locs : List Loc) (pc : Nat) (ls : Array Slot), bz r ∧ Q r C → cH D cA ad A s.heap C H locs → decode cX2_findMate pc = .ok (.ireturn, 1) → W p l e (headSpec wsX2_findMate rmX2_findMate).room s m args below meth c H locs 0 0 Z (F0 m pc ls [.int r]))
    (hE77 : ∀ (y6 : Int32) (y7 : Int64) (C : cM) (H : Heap) (locs : List Loc) (ls : Array Slot), E77 y6 y7 C → cH D cA ad A s.heap C H locs → lv_has ls 13 [(0, .ref (ad 4)), (6, .int y6), (7, .long y7)] → W p l e (headSpec wsX2_findMate rmX2_findMate).room s m args below meth c H locs 0 0 Z (F0 m 77 ls [])) :
    ∀ (k : Nat) (x2 : Int64) (x4 : Int32) (x5 : Int32) (C : cM) (H : Heap) (locs : List Loc) (ls : Array Slot), wpX2_findMate_15 n Q E77 k x2 x4 x5 C → cH D cA ad A s.heap C H locs → lv_has ls 13 [(0, .ref (ad 4)), (2, .long x2), (4, .int x4), (5, .int x5)] → W p l e (headSpec wsX2_findMate rmX2_findMate).room s m args below meth c H locs 0 0 Z (F0 m 15 ls []) := by
  intro k
  induction k with
  | zero => intro x2 x4 x5 C H locs ls hw; exact hw.elim
  | succ k ih =>
    intro x2 x4 x5 C H locs ls hw h hl
    rw [wpX2_findMate_15] at hw
    obtain ⟨⟨hx, hb, hml, hown, hts, hK, hA⟩, hN⟩ := id X
    refine lv_iload hx hb dX2_findMate_15 (lv_at hl 3 rfl) ?_
    refine lv_iload hx hb dX2_findMate_17 (lv_at hl 2 rfl) ?_
    refine lv_icmp_ge (tgt := 183) hx hb dX2_findMate_19 (by decide) (fun c19 => ?_) (fun c19 => ?_)
    · have hw := hw.1 c19
      refine lv_iconst (v := 0) hx hb dX2_findMate_183 (by decide) ?_
      exact hret 0 C _ _ _ ls hw h dX2_findMate_184
    · have hw := hw.2 c19
      refine lv_iload hx hb dX2_findMate_22 (lv_at hl 3 rfl) ?_
      refine lv_bipush (v := 40) hx hb dX2_findMate_24 (by decide) ?_
      refine lv_icmp_ge (tgt := 183) hx hb dX2_findMate_26 (by decide) (fun c26 => ?_) (fun c26 => ?_)
      · have hw := hw.1 c26
        refine lv_iconst (v := 0) hx hb dX2_findMate_183 (by decide) ?_
        exact hret 0 C _ _ _ ls hw h dX2_findMate_184
      · have hw := hw.2 c26
        refine lv_aload_n hx hb dX2_findMate_29 rfl (lv_at hl 0 rfl) ?_
        refine c_get X.1 h (cids_f (by decide)) 4 rfl (by decide) rfl inX2_findMate_X2 10 (by decide) (by decide +kernel) rfl rfl dX2_findMate_30 ?_
        refine lv_iload hx hb dX2_findMate_33 (lv_at hl 3 rfl) ?_
        obtain ⟨hk1, hw⟩ := hw
        refine c_iald X.1 h (cids_f (by decide)) rfl (n := 40) rfl hk1 dX2_findMate_35 ?_
        refine lv_topi (fun x6_36 ex6_36 => ?_)
        have hw := hw x6_36 ex6_36
        refine lv_istore (lv' := [(6, .int x6_36), (0, .ref (ad 4)), (2, .long x2), (4, .int x4), (5, .int x5)]) hx hb dX2_findMate_36 hl (by decide) rfl (fun ls hl => ?_)
        refine lv_iload hx hb dX2_findMate_38 (lv_at hl 0 rfl) ?_
        refine lv_if_lt (tgt := 50) hx hb dX2_findMate_40 (by decide) (fun c40 => ?_) (fun c40 => ?_)
        · have hw := hw.1 c40
          refine lv_iconst (v := 0) hx hb dX2_findMate_50 (by decide) ?_
          exact hret 0 C _ _ _ ls hw h dX2_findMate_51
        · have hw := hw.2 c40
          refine lv_iload hx hb dX2_findMate_43 (lv_at hl 0 rfl) ?_
          refine lv_bipush (v := 40) hx hb dX2_findMate_45 (by decide) ?_
          refine lv_icmp_lt (tgt := 52) hx hb dX2_findMate_47 (by decide) (fun c47 => ?_) (fun c47 => ?_)
          · have hw := hw.1 c47
            refine lv_aload_n hx hb dX2_findMate_52 rfl (lv_at hl 1 rfl) ?_
            refine c_get X.1 h (cids_f (by decide)) 4 rfl (by decide) rfl inX2_findMate_X2 6 (by decide) (by decide +kernel) rfl rfl dX2_findMate_53 ?_
            refine lv_iload hx hb dX2_findMate_56 (lv_at hl 0 rfl) ?_
            obtain ⟨hk2, hw⟩ := hw
            refine c_lald X.1 h (cids_f (by decide)) rfl (n := 40) rfl hk2 dX2_findMate_58 ?_
            refine lv_aload_n hx hb dX2_findMate_59 rfl (lv_at hl 1 rfl) ?_
            refine c_get X.1 h (cids_f (by decide)) 4 rfl (by decide) rfl inX2_findMate_X2 12 (by decide) (by decide +kernel) rfl rfl dX2_findMate_60 ?_
            refine lv_ldc2 (v := (-1)) hx hb hown (hts (.constantLong RX2 104 (-1)) (by decide +kernel)) dX2_findMate_63 ?_
            refine lv_lxor hx hb dX2_findMate_66 ?_
            refine lv_land hx hb dX2_findMate_67 ?_
            refine lv_topl (fun x7_68 ex7_68 => ?_)
            have hw := hw x7_68 ex7_68
            refine lv_lstore (lv' := [(7, .long x7_68), (6, .int x6_36), (0, .ref (ad 4)), (2, .long x2), (4, .int x4), (5, .int x5)]) hx hb dX2_findMate_68 hl (by decide) rfl (fun ls hl => ?_)
            refine lv_lload hx hb dX2_findMate_70 (lv_at hl 0 rfl) ?_
            refine lv_lconst (v := 0) hx hb dX2_findMate_72 (by decide) ?_
            refine W.lcmp hx hb dX2_findMate_73 ?_
            refine lv_if_eq (tgt := 90) hx hb dX2_findMate_74 (by decide) (fun c74 => ?_) (fun c74 => ?_)
            · have hw := hw.1 c74
              refine lv_aload_n hx hb dX2_findMate_90 rfl (lv_at hl 2 rfl) ?_
              refine c_get X.1 h (cids_f (by decide)) 4 rfl (by decide) rfl inX2_findMate_X2 6 (by decide) (by decide +kernel) rfl rfl dX2_findMate_91 ?_
              refine lv_iload hx hb dX2_findMate_94 (lv_at hl 1 rfl) ?_
              refine c_lald X.1 h (cids_f (by decide)) rfl (n := 40) rfl hk2 dX2_findMate_96 ?_
              refine lv_lload_n hx hb dX2_findMate_97 rfl (lv_at hl 3 rfl) ?_
              refine lv_ldc2 (v := (-1)) hx hb hown (hts (.constantLong RX2 104 (-1)) (by decide +kernel)) dX2_findMate_98 ?_
              refine lv_lxor hx hb dX2_findMate_101 ?_
              refine lv_land hx hb dX2_findMate_102 ?_
              refine lv_topl (fun x9_103 ex9_103 => ?_)
              have hw := hw x9_103 ex9_103
              refine lv_lstore (lv' := [(9, .long x9_103), (7, .long x7_68), (6, .int x6_36), (0, .ref (ad 4)), (2, .long x2), (4, .int x4), (5, .int x5)]) hx hb dX2_findMate_103 hl (by decide) rfl (fun ls hl => ?_)
              refine lv_lload_n hx hb dX2_findMate_105 rfl (lv_at hl 4 rfl) ?_
              refine lv_lload hx hb dX2_findMate_106 (lv_at hl 0 rfl) ?_
              refine lv_lor hx hb dX2_findMate_108 ?_
              refine lv_topl (fun x2_109 ex2_109 => ?_)
              have hw := hw x2_109 ex2_109
              refine lv_lstore_n (lv' := [(2, .long x2_109), (9, .long x9_103), (7, .long x7_68), (6, .int x6_36), (0, .ref (ad 4)), (4, .int x4), (5, .int x5)]) hx hb dX2_findMate_109 rfl hl (by decide) rfl (fun ls hl => ?_)
              refine lv_lload hx hb dX2_findMate_110 (lv_at hl 1 rfl) ?_
              refine c_goi X h (c_runS (n := 1) X h (qJ13_bitCount_95d88 l D cA n x9_103 ad _ _ _ hw) gX2_findMate_J13_bitCount_95d88 hl.1 dX2_findMate_112 rfl rfl rfl (by decide +kernel) ⟨Nat.le_of_ble_eq_true rfl, Nat.le_of_ble_eq_true rfl⟩ rfl rfl (Nat.le_of_ble_eq_true rfl) ⟨Nat.zero_le _, Nat.zero_le _⟩) (fun r112 C112 H locs hw h => ?_)
              refine lv_istore (lv' := [(11, .int r112), (2, .long x2_109), (9, .long x9_103), (7, .long x7_68), (6, .int x6_36), (0, .ref (ad 4)), (4, .int x4), (5, .int x5)]) hx hb dX2_findMate_115 hl (by decide) rfl (fun ls hl => ?_)
              refine kX2_findMate_117 X x2_109 x5 x6_36 (fun y4_117 C_117 H locs ls hw h hl => ?_) n x4 x9_103 r112 C112 _ _ ls hw h (lv_sub hl [5, 1, 6, 7, 4, 2, 0] rfl)
              obtain ⟨x5_177, ex5_177⟩ : ∃ z : Int32, z = x5 + 1 := ⟨_, rfl⟩
              have hw := hw x5_177 ex5_177
              refine lv_iinc (v := x5_177) (lv' := [(5, .int x5_177), (0, .ref (ad 4)), (2, .long x2_109), (4, .int y4_117)]) hx hb dX2_findMate_177 hl (k := 3) rfl (by rw [ex5_177]; rfl) (by decide) rfl (fun ls hl => ?_)
              refine lv_goto (tgt := 15) hx hb dX2_findMate_180 (by decide) ?_
              exact ih x2_109 y4_117 x5_177 C_117 _ _ ls hw h (lv_sub hl [1, 2, 3, 0] rfl)
            · have hw := hw.2 c74
              exact hE77 x6_36 x7_68 C _ _ ls hw h (lv_sub hl [2, 1, 0] rfl)
          · have hw := hw.2 c47
            refine lv_iconst (v := 0) hx hb dX2_findMate_50 (by decide) ?_
            exact hret 0 C _ _ _ ls hw h dX2_findMate_51
set_option maxHeartbeats 4000000 in
set_option maxRecDepth 100000 in
theorem qX2_findMate (l : Launch) (D : va_G) (cA : Nat → ClassId) (n : Nat) (x1 : Int32) : cMi l D cA yX2_findMate wsX2_findMate rmX2_findMate (fun ad => [.ref (ad 4), .int x1]) (wpX2_findMate n x1) := by
  intro ad sz C Q hw
  unfold wpX2_findMate at hw
  refine c_enter (cc := cX2_findMate) (maxL := 13) (ret := some .boolean) (own := RX2) (by decide) rfl rfl (Nat.le_of_ble_eq_true rfl) ?_
  intro p e s m args below meth c hsz X hr hlocks h ls hl
  have hret := c_zret (p := p) (l := l) (e := e) (R := (headSpec wsX2_findMate rmX2_findMate).room) (s := s) (m := m) (args := args) (below := below) (meth := meth) (c := c) (cc := cX2_findMate) (D := D) (cA := cA) (ad := ad) (A := va_A (cws cA ad C) sz) (Q := Q) X.1.1 X.1.2.1 hr hlocks X.1.2.2.2.2.2.1
  obtain ⟨⟨hx, hb, hml, hown, hts, hK, hA⟩, hN⟩ := id X
  have hl : lv_has ls 13 [(0, .ref (ad 4)), (1, .int x1)] := hl
  refine lv_lconst (v := 0) hx hb dX2_findMate_0 (by decide) ?_
  refine lv_lstore_n (lv' := [(2, .long 0), (0, .ref (ad 4)), (1, .int x1)]) hx hb dX2_findMate_1 rfl hl (by decide) rfl (fun ls hl => ?_)
  refine lv_iconst (v := 1) hx hb dX2_findMate_2 (by decide) ?_
  refine lv_istore (lv' := [(4, .int 1), (2, .long 0), (0, .ref (ad 4)), (1, .int x1)]) hx hb dX2_findMate_3 hl (by decide) rfl (fun ls hl => ?_)
  refine lv_aload_n hx hb dX2_findMate_5 rfl (lv_at hl 2 rfl) ?_
  refine c_get X.1 h (cids_f (by decide)) 4 rfl (by decide) rfl inX2_findMate_X2 10 (by decide) (by decide +kernel) rfl rfl dX2_findMate_6 ?_
  refine lv_iconst (v := 0) hx hb dX2_findMate_9 (by decide) ?_
  refine lv_iload_n hx hb dX2_findMate_10 rfl (lv_at hl 3 rfl) ?_
  refine c_iast X.1 h (cids_f (by decide)) rfl (n := 40) rfl (show vp_in 0 40 by unfold vp_in; decide) dX2_findMate_11 (fun C11 eC11 H locs h => ?_)
  have hw := hw C11 eC11
  refine lv_iconst (v := 0) hx hb dX2_findMate_12 (by decide) ?_
  refine lv_istore (lv' := [(5, .int 0), (4, .int 1), (2, .long 0), (0, .ref (ad 4)), (1, .int x1)]) hx hb dX2_findMate_13 hl (by decide) rfl (fun ls hl => ?_)
  refine kX2_findMate_15 X hret (fun y6_15 y7_15 C_15 H locs ls hw h hl => ?_) n 0 1 0 C11 _ _ ls hw h (lv_sub hl [3, 2, 1, 0] rfl)
  refine lv_aload_n hx hb dX2_findMate_77 rfl (lv_at hl 0 rfl) ?_
  refine lv_iload hx hb dX2_findMate_78 (lv_at hl 1 rfl) ?_
  refine lv_lload hx hb dX2_findMate_80 (lv_at hl 2 rfl) ?_
  refine c_goi X h (c_runS (n := 1) X h (qX2_lowest l D cA n y7_15 ad _ _ _ hw) gX2_findMate_X2_lowest hl.1 dX2_findMate_82 rfl rfl rfl (by decide +kernel) ⟨Nat.le_of_ble_eq_true rfl, Nat.le_of_ble_eq_true rfl⟩ rfl rfl (Nat.le_of_ble_eq_true rfl) ⟨Nat.zero_le _, Nat.zero_le _⟩) (fun r82 C82 H locs hw h => ?_)
  refine c_gov X h (c_runV (n := 2) X h (cids_f (by decide)) 4 rfl (by decide) rfl (qX2_pairAlong l D cA n y6_15 r82 ad _ _ _ hw) gX2_findMate_X2_pairAlong hl.1 dX2_findMate_85 rfl rfl rfl (by decide +kernel) ⟨Nat.le_of_ble_eq_true rfl, Nat.le_of_ble_eq_true rfl⟩ rfl rfl (Nat.le_of_ble_eq_true rfl) ⟨Nat.zero_le _, Nat.zero_le _⟩) (fun C85 H locs hw h => ?_)
  refine lv_iconst (v := 1) hx hb dX2_findMate_88 (by decide) ?_
  exact hret 1 C85 _ _ _ ls hw h dX2_findMate_89
def rmX2_mostPairs : Room := { frames := 3, cells := 0, slots := 0, locals := 74 }
theorem inX2_mostPairs_X2 : ∀ w ∈ wsX20, w ∈ wsX2_mostPairs := fun w h => List.mem_cons_of_mem _ (List.mem_append_right _ h)
set_option maxHeartbeats 4000000 in
set_option maxRecDepth 100000 in
theorem kX2_mostPairs_27 {n : Nat} {E50 : cM → Prop} (X : cX p s m args meth c D cA A cX2_mostPairs 8 wsX2_mostPairs RX2)
    (hE50 : ∀ (C : cM) (H : Heap) (locs : List Loc) (ls : Array Slot), E50 C → cH D cA ad A s.heap C H locs → lv_has ls 8 [(0, .ref (ad 4))] → W p l e (headSpec wsX2_mostPairs rmX2_mostPairs).room s m args below meth c H locs 0 0 Z (F0 m 50 ls [])) :
    ∀ (k : Nat) (x6 : Int32) (C : cM) (H : Heap) (locs : List Loc) (ls : Array Slot), wpX2_mostPairs_27 n E50 k x6 C → cH D cA ad A s.heap C H locs → lv_has ls 8 [(0, .ref (ad 4)), (6, .int x6)] → W p l e (headSpec wsX2_mostPairs rmX2_mostPairs).room s m args below meth c H locs 0 0 Z (F0 m 27 ls []) := by
  intro k
  induction k with
  | zero => intro x6 C H locs ls hw; exact hw.elim
  | succ k ih =>
    intro x6 C H locs ls hw h hl
    rw [wpX2_mostPairs_27] at hw
    obtain ⟨⟨hx, hb, hml, hown, hts, hK, hA⟩, hN⟩ := id X
    refine lv_iload hx hb dX2_mostPairs_27 (lv_at hl 1 rfl) ?_
    refine lv_aload_n hx hb dX2_mostPairs_29 rfl (lv_at hl 0 rfl) ?_
    refine c_get X.1 h (cids_f (by decide)) 4 rfl (by decide) rfl inX2_mostPairs_X2 11 (by decide) (by decide +kernel) rfl rfl dX2_mostPairs_30 ?_
    refine lv_icmp_ge (tgt := 50) hx hb dX2_mostPairs_33 (by decide) (fun c33 => ?_) (fun c33 => ?_)
    · have hw := hw.1 c33
      exact hE50 C _ _ ls hw h (lv_sub hl [0] rfl)
    · have hw := hw.2 c33
      refine lv_aload_n hx hb dX2_mostPairs_36 rfl (lv_at hl 0 rfl) ?_
      refine c_get X.1 h (cids_f (by decide)) 4 rfl (by decide) rfl inX2_mostPairs_X2 7 (by decide) (by decide +kernel) rfl rfl dX2_mostPairs_37 ?_
      refine lv_iload hx hb dX2_mostPairs_40 (lv_at hl 1 rfl) ?_
      refine lv_iconst (v := (-1)) hx hb dX2_mostPairs_42 (by decide) ?_
      obtain ⟨hk1, hw⟩ := hw
      refine c_iast X.1 h (cids_f (by decide)) rfl (n := 40) rfl hk1 dX2_mostPairs_43 (fun C43 eC43 H locs h => ?_)
      have hw := hw C43 eC43
      obtain ⟨x6_44, ex6_44⟩ : ∃ z : Int32, z = x6 + 1 := ⟨_, rfl⟩
      have hw := hw x6_44 ex6_44
      refine lv_iinc (v := x6_44) (lv' := [(6, .int x6_44), (0, .ref (ad 4))]) hx hb dX2_mostPairs_44 hl (k := 1) rfl (by rw [ex6_44]; rfl) (by decide) rfl (fun ls hl => ?_)
      refine lv_goto (tgt := 27) hx hb dX2_mostPairs_47 (by decide) ?_
      exact ih x6_44 C43 _ _ ls hw h (lv_sub hl [1, 0] rfl)
set_option maxHeartbeats 4000000 in
set_option maxRecDepth 100000 in
theorem kX2_mostPairs_56 {n : Nat} {Q : Int32 → cM → Prop} (X : cX p s m args meth c D cA A cX2_mostPairs 8 wsX2_mostPairs RX2)
    (hret : ∀ (r : Int32) (C : cM) (H : Heap) (locs : List Loc) (pc : Nat) (ls : Array Slot), Q r C → cH D cA ad A s.heap C H locs → decode cX2_mostPairs pc = .ok (.ireturn, 1) → W p l e (headSpec wsX2_mostPairs rmX2_mostPairs).room s m args below meth c H locs 0 0 Z (F0 m pc ls [.int r])) :
    ∀ (k : Nat) (x6 : Int32) (x7 : Int32) (C : cM) (H : Heap) (locs : List Loc) (ls : Array Slot), wpX2_mostPairs_56 n Q k x6 x7 C → cH D cA ad A s.heap C H locs → lv_has ls 8 [(0, .ref (ad 4)), (6, .int x6), (7, .int x7)] → W p l e (headSpec wsX2_mostPairs rmX2_mostPairs).room s m args below meth c H locs 0 0 Z (F0 m 56 ls []) := by
  intro k
  induction k with
  | zero => intro x6 x7 C H locs ls hw; exact hw.elim
  | succ k ih =>
    intro x6 x7 C H locs ls hw h hl
    rw [wpX2_mostPairs_56] at hw
    obtain ⟨⟨hx, hb, hml, hown, hts, hK, hA⟩, hN⟩ := id X
    refine lv_iload hx hb dX2_mostPairs_56 (lv_at hl 2 rfl) ?_
    refine lv_aload_n hx hb dX2_mostPairs_58 rfl (lv_at hl 0 rfl) ?_
    refine c_get X.1 h (cids_f (by decide)) 4 rfl (by decide) rfl inX2_mostPairs_X2 11 (by decide) (by decide +kernel) rfl rfl dX2_mostPairs_59 ?_
    refine lv_icmp_ge (tgt := 95) hx hb dX2_mostPairs_62 (by decide) (fun c62 => ?_) (fun c62 => ?_)
    · have hw := hw.1 c62
      refine lv_iload hx hb dX2_mostPairs_95 (lv_at hl 1 rfl) ?_
      exact hret x6 C _ _ _ ls hw h dX2_mostPairs_97
    · have hw := hw.2 c62
      refine lv_aload_n hx hb dX2_mostPairs_65 rfl (lv_at hl 0 rfl) ?_
      refine c_get X.1 h (cids_f (by decide)) 4 rfl (by decide) rfl inX2_mostPairs_X2 6 (by decide) (by decide +kernel) rfl rfl dX2_mostPairs_66 ?_
      refine lv_iload hx hb dX2_mostPairs_69 (lv_at hl 2 rfl) ?_
      obtain ⟨hk2, hw⟩ := hw
      refine c_lald X.1 h (cids_f (by decide)) rfl (n := 40) rfl hk2 dX2_mostPairs_71 ?_
      refine lv_lconst (v := 0) hx hb dX2_mostPairs_72 (by decide) ?_
      refine W.lcmp hx hb dX2_mostPairs_73 ?_
      refine lv_if_eq (tgt := 89) hx hb dX2_mostPairs_74 (by decide) (fun c74 => ?_) (fun c74 => ?_)
      · have hw := hw.1 c74
        obtain ⟨x7_89, ex7_89⟩ : ∃ z : Int32, z = x7 + 1 := ⟨_, rfl⟩
        have hw := hw x7_89 ex7_89
        refine lv_iinc (v := x7_89) (lv' := [(7, .int x7_89), (0, .ref (ad 4)), (6, .int x6)]) hx hb dX2_mostPairs_89 hl (k := 2) rfl (by rw [ex7_89]; rfl) (by decide) rfl (fun ls hl => ?_)
        refine lv_goto (tgt := 56) hx hb dX2_mostPairs_92 (by decide) ?_
        exact ih x6 x7_89 C _ _ ls hw h (lv_sub hl [1, 2, 0] rfl)
      · have hw := hw.2 c74
        refine lv_aload_n hx hb dX2_mostPairs_77 rfl (lv_at hl 0 rfl) ?_
        refine lv_iload hx hb dX2_mostPairs_78 (lv_at hl 2 rfl) ?_
        refine c_goi X h (c_runV (n := 1) X h (cids_f (by decide)) 4 rfl (by decide) rfl (qX2_findMate l D cA n x7 ad _ _ _ hw) gX2_mostPairs_X2_findMate hl.1 dX2_mostPairs_80 rfl rfl rfl (by decide +kernel) ⟨Nat.le_of_ble_eq_true rfl, Nat.le_of_ble_eq_true rfl⟩ rfl rfl (Nat.le_of_ble_eq_true rfl) ⟨Nat.zero_le _, Nat.zero_le _⟩) (fun r80 C80 H locs hw h => ?_)
        refine lv_if_eq (tgt := 89) hx hb dX2_mostPairs_83 (by decide) (fun c83 => ?_) (fun c83 => ?_)
        · have hw := hw.1 c83
          obtain ⟨x7_89, ex7_89⟩ : ∃ z : Int32, z = x7 + 1 := ⟨_, rfl⟩
          have hw := hw x7_89 ex7_89
          refine lv_iinc (v := x7_89) (lv' := [(7, .int x7_89), (0, .ref (ad 4)), (6, .int x6)]) hx hb dX2_mostPairs_89 hl (k := 2) rfl (by rw [ex7_89]; rfl) (by decide) rfl (fun ls hl => ?_)
          refine lv_goto (tgt := 56) hx hb dX2_mostPairs_92 (by decide) ?_
          exact ih x6 x7_89 C80 _ _ ls hw h (lv_sub hl [1, 2, 0] rfl)
        · have hw := hw.2 c83
          obtain ⟨x6_86, ex6_86⟩ : ∃ z : Int32, z = x6 + 1 := ⟨_, rfl⟩
          have hw := hw x6_86 ex6_86
          refine lv_iinc (v := x6_86) (lv' := [(6, .int x6_86), (0, .ref (ad 4)), (7, .int x7)]) hx hb dX2_mostPairs_86 hl (k := 1) rfl (by rw [ex6_86]; rfl) (by decide) rfl (fun ls hl => ?_)
          obtain ⟨x7_89, ex7_89⟩ : ∃ z : Int32, z = x7 + 1 := ⟨_, rfl⟩
          have hw := hw x7_89 ex7_89
          refine lv_iinc (v := x7_89) (lv' := [(7, .int x7_89), (6, .int x6_86), (0, .ref (ad 4))]) hx hb dX2_mostPairs_89 hl (k := 2) rfl (by rw [ex7_89]; rfl) (by decide) rfl (fun ls hl => ?_)
          refine lv_goto (tgt := 56) hx hb dX2_mostPairs_92 (by decide) ?_
          exact ih x6_86 x7_89 C80 _ _ ls hw h (lv_sub hl [2, 1, 0] rfl)
set_option maxHeartbeats 4000000 in
set_option maxRecDepth 100000 in
theorem qX2_mostPairs (l : Launch) (D : va_G) (cA : Nat → ClassId) (n : Nat) (x1 : Int32) (x2 : Int32) (x3 : Int32) (x4 : Int32) : cMi l D cA yX2_mostPairs wsX2_mostPairs rmX2_mostPairs (fun ad => [.ref (ad 4), .int x1, .int x2, .int x3, .int x4]) (wpX2_mostPairs n x1 x2 x3 x4) := by
  intro ad sz C Q hw
  unfold wpX2_mostPairs at hw
  refine c_enter (cc := cX2_mostPairs) (maxL := 8) (ret := some .int) (own := RX2) (by decide) rfl rfl (Nat.le_of_ble_eq_true rfl) ?_
  intro p e s m args below meth c hsz X hr hlocks h ls hl
  have hret := c_iret (p := p) (l := l) (e := e) (R := (headSpec wsX2_mostPairs rmX2_mostPairs).room) (s := s) (m := m) (args := args) (below := below) (meth := meth) (c := c) (cc := cX2_mostPairs) (D := D) (cA := cA) (ad := ad) (A := va_A (cws cA ad C) sz) (Q := Q) X.1.1 X.1.2.1 hr hlocks X.1.2.2.2.2.2.1
  obtain ⟨⟨hx, hb, hml, hown, hts, hK, hA⟩, hN⟩ := id X
  have hl : lv_has ls 8 [(0, .ref (ad 4)), (1, .int x1), (2, .int x2), (3, .int x3), (4, .int x4)] := hl
  refine lv_aload_n hx hb dX2_mostPairs_0 rfl (lv_at hl 0 rfl) ?_
  refine lv_iload_n hx hb dX2_mostPairs_1 rfl (lv_at hl 1 rfl) ?_
  refine lv_iload_n hx hb dX2_mostPairs_2 rfl (lv_at hl 2 rfl) ?_
  refine lv_iload_n hx hb dX2_mostPairs_3 rfl (lv_at hl 3 rfl) ?_
  refine c_goi X h (c_runV (n := 3) X h (cids_f (by decide)) 4 rfl (by decide) rfl (qX2_gatherChoices l D cA n x1 x2 x3 ad _ _ _ hw) gX2_mostPairs_X2_gatherChoices hl.1 dX2_mostPairs_4 rfl rfl rfl (by decide +kernel) ⟨Nat.le_of_ble_eq_true rfl, Nat.le_of_ble_eq_true rfl⟩ rfl rfl (Nat.le_of_ble_eq_true rfl) ⟨Nat.zero_le _, Nat.zero_le _⟩) (fun r4 C4 H locs hw h => ?_)
  refine lv_istore (lv' := [(5, .int r4), (0, .ref (ad 4)), (1, .int x1), (2, .int x2), (3, .int x3), (4, .int x4)]) hx hb dX2_mostPairs_7 hl (by decide) rfl (fun ls hl => ?_)
  refine lv_iload hx hb dX2_mostPairs_9 (lv_at hl 0 rfl) ?_
  refine lv_iload hx hb dX2_mostPairs_11 (lv_at hl 5 rfl) ?_
  refine lv_icmp_gt (tgt := 19) hx hb dX2_mostPairs_13 (by decide) (fun c13 => ?_) (fun c13 => ?_)
  · have hw := hw.1 c13
    refine lv_aload_n hx hb dX2_mostPairs_19 rfl (lv_at hl 1 rfl) ?_
    refine lv_lconst (v := 0) hx hb dX2_mostPairs_20 (by decide) ?_
    refine c_putL X.1 h (cids_f (by decide)) 4 rfl (by decide) rfl inX2_mostPairs_X2 tyX2 tyX2_ok nmX2 12 (by decide) (by decide +kernel) rfl rfl rfl rfl (Nat.le_of_ble_eq_true rfl) (fun _ _ => rfl) dX2_mostPairs_21 (fun C21 eC21 H locs h => ?_)
    have hw := hw C21 eC21
    refine lv_iconst (v := 0) hx hb dX2_mostPairs_24 (by decide) ?_
    refine lv_istore (lv' := [(6, .int 0), (5, .int r4), (0, .ref (ad 4)), (1, .int x1), (2, .int x2), (3, .int x3), (4, .int x4)]) hx hb dX2_mostPairs_25 hl (by decide) rfl (fun ls hl => ?_)
    refine kX2_mostPairs_27 X (fun C_27 H locs ls hw h hl => ?_) n 0 C21 _ _ ls hw h (lv_sub hl [2, 0] rfl)
    refine lv_iconst (v := 0) hx hb dX2_mostPairs_50 (by decide) ?_
    refine lv_istore (lv' := [(6, .int 0), (0, .ref (ad 4))]) hx hb dX2_mostPairs_51 hl (by decide) rfl (fun ls hl => ?_)
    refine lv_iconst (v := 0) hx hb dX2_mostPairs_53 (by decide) ?_
    refine lv_istore (lv' := [(7, .int 0), (6, .int 0), (0, .ref (ad 4))]) hx hb dX2_mostPairs_54 hl (by decide) rfl (fun ls hl => ?_)
    exact kX2_mostPairs_56 X hret n 0 0 C_27 _ _ ls hw h (lv_sub hl [2, 1, 0] rfl)
  · have hw := hw.2 c13
    refine lv_iload hx hb dX2_mostPairs_16 (lv_at hl 0 rfl) ?_
    exact hret r4 C4 _ _ _ ls hw h dX2_mostPairs_18
end KC
