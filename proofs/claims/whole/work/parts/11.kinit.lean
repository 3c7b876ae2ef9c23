section KK
def rmX4_init : Room := { frames := 1, cells := 0, slots := 0, locals := 12 }
theorem inX4_init_X4 : ∀ w ∈ wsX40, w ∈ wsX4_init := fun w h => List.mem_cons_of_mem _ (List.mem_append_right _ h)
def kwX4 (cA : Nat → ClassId) (h0 : Nat) (u : Nat → Nat) : va_W := [(h0, .inr (4, [.int 0, .int 0, .int 0]))]
set_option maxHeartbeats 4000000 in
set_option maxRecDepth 100000 in
theorem kX4_init (l : Launch) (D : va_G) (cA : Nat → ClassId) (h0 : Nat) : kM l D cA yX4_init wsX4_init rmX4_init [.ref h0] [(h0, .inr (4, [.int 0, .int 0, .int 0]))] (kwX4 cA h0) 0 0 := by
  refine k_enter (cc := cX4_init) (maxL := 1) (own := RX4) (by decide) rfl rfl rfl (Nat.le_of_ble_eq_true rfl) ?_
  intro p e s m args below meth c A X hret h ls hl
  obtain ⟨⟨hx, hb, hml, hown, hts, hK, hA⟩, hN, hin⟩ := id X
  have hl : lv_has ls 1 [(0, .ref h0)] := hl
  refine lv_aload_n hx hb dX4_init_0 rfl (lv_at hl 0 rfl) ?_
  refine n_obj X.1 (by decide +kernel) (by decide +kernel) (by decide +kernel) hl.1 (Nat.le_of_ble_eq_true rfl) (Nat.le_of_ble_eq_true rfl) dX4_init_1 ?_
  refine lv_aload_n hx hb dX4_init_4 rfl (lv_at hl 0 rfl) ?_
  refine lv_iconst (v := 0) hx hb dX4_init_5 (by decide) ?_
  refine n_put X.1 h 0 4 rfl rfl inX4_init_X4 tyX4 tyX4_ok nmX4 0 (by decide) (by decide +kernel) rfl rfl rfl rfl (Nat.le_of_ble_eq_true rfl) dX4_init_6 (fun H locs h => ?_)
  have h : gH D A s.heap [(h0, .inr (4, [.int 0, .int 0, .int 0]))] H _ := h
  refine lv_aload_n hx hb dX4_init_9 rfl (lv_at hl 0 rfl) ?_
  refine lv_iconst (v := 0) hx hb dX4_init_10 (by decide) ?_
  refine n_put X.1 h 0 4 rfl rfl inX4_init_X4 tyX4 tyX4_ok nmX4 1 (by decide) (by decide +kernel) rfl rfl rfl rfl (Nat.le_of_ble_eq_true rfl) dX4_init_11 (fun H locs h => ?_)
  have h : gH D A s.heap [(h0, .inr (4, [.int 0, .int 0, .int 0]))] H _ := h
  refine lv_aload_n hx hb dX4_init_14 rfl (lv_at hl 0 rfl) ?_
  refine lv_iconst (v := 0) hx hb dX4_init_15 (by decide) ?_
  refine n_put X.1 h 0 4 rfl rfl inX4_init_X4 tyX4 tyX4_ok nmX4 2 (by decide) (by decide +kernel) rfl rfl rfl rfl (Nat.le_of_ble_eq_true rfl) dX4_init_16 (fun H locs h => ?_)
  have h : gH D A s.heap [(h0, .inr (4, [.int 0, .int 0, .int 0]))] H _ := h
  have h : gH D A s.heap (kwX4 cA h0 (fun j => match j with  | _ => 0)) H _ := ⟨h.1.sub [0] rfl, h.2.1.sub [0] (by decide) rfl, h.2.2⟩
  exact hret _ _ _ _ ls h dX4_init_19
def rmX3_init : Room := { frames := 2, cells := 4, slots := 17, locals := 32 }
theorem inX3_init_X3 : ∀ w ∈ wsX30, w ∈ wsX3_init := fun w h => List.mem_cons_of_mem _ (List.mem_append_left _ (List.mem_append_right _ h))
theorem inX3_init_X4 : ∀ w ∈ wsX40, w ∈ wsX3_init := fun w h => List.mem_cons_of_mem _ (List.mem_append_right _ h)
def kwX3 (cA : Nat → ClassId) (h0 : Nat) (u : Nat → Nat) : va_W := [(h0, .inr (3, [.ref (u 1), .ref (u 2), .ref (u 3), .ref (u 4), .int 0])), ((u 1), .inl (cA 0, 8, .inl (fun _ => 0))), ((u 2), .inr (4, [.int 0, .int 0, .int 0])), ((u 3), .inr (4, [.int 0, .int 0, .int 0])), ((u 4), .inr (4, [.int 0, .int 0, .int 0]))]
set_option maxHeartbeats 4000000 in
set_option maxRecDepth 100000 in
theorem kX3_init (l : Launch) (D : va_G) (cA : Nat → ClassId) (h0 : Nat) : kM l D cA yX3_init wsX3_init rmX3_init [.ref h0] [(h0, .inr (3, [.null, .null, .null, .null, .int 0]))] (kwX3 cA h0) 4 17 := by
  refine k_enter (cc := cX3_init) (maxL := 1) (own := RX3) (by decide) rfl rfl rfl (Nat.le_of_ble_eq_true rfl) ?_
  intro p e s m args below meth c A X hret h ls hl
  obtain ⟨⟨hx, hb, hml, hown, hts, hK, hA⟩, hN, hin⟩ := id X
  have hl : lv_has ls 1 [(0, .ref h0)] := hl
  refine lv_aload_n hx hb dX3_init_0 rfl (lv_at hl 0 rfl) ?_
  refine n_obj X.1 (by decide +kernel) (by decide +kernel) (by decide +kernel) hl.1 (Nat.le_of_ble_eq_true rfl) (Nat.le_of_ble_eq_true rfl) dX3_init_1 ?_
  refine lv_aload_n hx hb dX3_init_4 rfl (lv_at hl 0 rfl) ?_
  refine lv_bipush (v := 8) hx hb dX3_init_5 (by decide) ?_
  refine n_newI X.1 h (by decide +kernel) (by decide) (N := 8) (by decide) (by decide +kernel) (Nat.le_of_ble_eq_true rfl) (Nat.le_of_ble_eq_true rfl) dX3_init_7 (fun q7 H h => ?_)
  have h : gH D A s.heap [(h0, .inr (3, [.null, .null, .null, .null, .int 0])), (q7, .inl (cA 0, 8, .inl (fun _ => 0)))] H _ := h
  refine W.widen (k := 1) (n := 8) (Nat.le_refl _) (Nat.le_refl _) ?_
  refine n_putF X h 0 3 rfl rfl inX3_init_X3 tyX3 tyX3_ok nmX3 0 (by decide) (by decide +kernel) rfl rfl rfl rfl (Nat.le_of_ble_eq_true rfl) dX3_init_9 (fun H locs h => ?_)
  have h : gH D A s.heap [(h0, .inr (3, [.ref q7, .null, .null, .null, .int 0])), (q7, .inl (cA 0, 8, .inl (fun _ => 0)))] H _ := h
  refine lv_aload_n hx hb dX3_init_12 rfl (lv_at hl 0 rfl) ?_
  refine n_new X.1 h 4 (fs := [.int 0, .int 0, .int 0]) rfl inX3_init_X4 tyX4 tyX4_ok (by decide +kernel) (by decide +kernel) (by decide +kernel) (fun j hj => by rcases (show j = 0 ∨ j = 1 ∨ j = 2 by omega) with rfl | rfl | rfl <;> rfl) (Nat.le_of_ble_eq_true rfl) (Nat.le_of_ble_eq_true rfl) dX3_init_13 (fun q13 H h => ?_)
  have h : gH D A s.heap [(h0, .inr (3, [.ref q7, .null, .null, .null, .int 0])), (q7, .inl (cA 0, 8, .inl (fun _ => 0))), (q13, .inr (4, [.int 0, .int 0, .int 0]))] H _ := h
  refine W.widen (k := 2) (n := 11) (Nat.le_refl _) (Nat.le_refl _) ?_
  refine lv_dup hx hb dX3_init_16 rfl ?_
  refine n_init (wr := [(h0, .inr (3, [.ref q7, .null, .null, .null, .int 0])), (q7, .inl (cA 0, 8, .inl (fun _ => 0)))]) X.1 hN h (kX4_init l D cA q13) [2] [0, 1] rfl rfl (by decide) (by decide) (fun hM hp => va_runIN (As := []) (rest := [.ref q13, .ref h0]) ⟨hx, hb, hml, hown, hts⟩ hM ⟨va_cnB 0 hts gX3_init_X4_init_n17 rfl rfl rfl hN.1.2.2.1 (hts _ (by decide +kernel)) (by decide +kernel) ⟨Nat.le_of_ble_eq_true rfl, Nat.le_of_ble_eq_true rfl⟩, rfl, hts _ (by decide +kernel)⟩ hp rfl rfl hl.1 rfl (lv_room (Nat.le_of_ble_eq_true rfl)) dX3_init_17 ⟨Nat.le_of_ble_eq_true rfl, Nat.le_of_ble_eq_true rfl⟩) (fun u17 H locs h => ?_)
  have h : gH D A s.heap [(h0, .inr (3, [.ref q7, .null, .null, .null, .int 0])), (q7, .inl (cA 0, 8, .inl (fun _ => 0))), (q13, .inr (4, [.int 0, .int 0, .int 0]))] H _ := h
  refine W.widen (k := 2) (n := 11) (Nat.le_refl _) (Nat.le_refl _) ?_
  refine n_putF X h 0 3 rfl rfl inX3_init_X3 tyX3 tyX3_ok nmX3 1 (by decide) (by decide +kernel) rfl rfl rfl rfl (Nat.le_of_ble_eq_true rfl) dX3_init_20 (fun H locs h => ?_)
  have h : gH D A s.heap [(h0, .inr (3, [.ref q7, .ref q13, .null, .null, .int 0])), (q7, .inl (cA 0, 8, .inl (fun _ => 0))), (q13, .inr (4, [.int 0, .int 0, .int 0]))] H _ := h
  refine lv_aload_n hx hb dX3_init_23 rfl (lv_at hl 0 rfl) ?_
  refine n_new X.1 h 4 (fs := [.int 0, .int 0, .int 0]) rfl inX3_init_X4 tyX4 tyX4_ok (by decide +kernel) (by decide +kernel) (by decide +kernel) (fun j hj => by rcases (show j = 0 ∨ j = 1 ∨ j = 2 by omega) with rfl | rfl | rfl <;> rfl) (Nat.le_of_ble_eq_true rfl) (Nat.le_of_ble_eq_true rfl) dX3_init_24 (fun q24 H h => ?_)
  have h : gH D A s.heap [(h0, .inr (3, [.ref q7, .ref q13, .null, .null, .int 0])), (q7, .inl (cA 0, 8, .inl (fun _ => 0))), (q13, .inr (4, [.int 0, .int 0, .int 0])), (q24, .inr (4, [.int 0, .int 0, .int 0]))] H _ := h
  refine W.widen (k := 3) (n := 14) (Nat.le_refl _) (Nat.le_refl _) ?_
  refine lv_dup hx hb dX3_init_27 rfl ?_
  refine n_init (wr := [(h0, .inr (3, [.ref q7, .ref q13, .null, .null, .int 0])), (q7, .inl (cA 0, 8, .inl (fun _ => 0))), (q13, .inr (4, [.int 0, .int 0, .int 0]))]) X.1 hN h (kX4_init l D cA q24) [3] [0, 1, 2] rfl rfl (by decide) (by decide) (fun hM hp => va_runIN (As := []) (rest := [.ref q24, .ref h0]) ⟨hx, hb, hml, hown, hts⟩ hM ⟨va_cnB 0 hts gX3_init_X4_init_n17 rfl rfl rfl hN.1.2.2.1 (hts _ (by decide +kernel)) (by decide +kernel) ⟨Nat.le_of_ble_eq_true rfl, Nat.le_of_ble_eq_true rfl⟩, rfl, hts _ (by decide +kernel)⟩ hp rfl rfl hl.1 rfl (lv_room (Nat.le_of_ble_eq_true rfl)) dX3_init_28 ⟨Nat.le_of_ble_eq_true rfl, Nat.le_of_ble_eq_true rfl⟩) (fun u28 H locs h => ?_)
  have h : gH D A s.heap [(h0, .inr (3, [.ref q7, .ref q13, .null, .null, .int 0])), (q7, .inl (cA 0, 8, .inl (fun _ => 0))), (q13, .inr (4, [.int 0, .int 0, .int 0])), (q24, .inr (4, [.int 0, .int 0, .int 0]))] H _ := h
  refine W.widen (k := 3) (n := 14) (Nat.le_refl _) (Nat.le_refl _) ?_
  refine n_putF X h 0 3 rfl rfl inX3_init_X3 tyX3 tyX3_ok nmX3 2 (by decide) (by decide +kernel) rfl rfl rfl rfl (Nat.le_of_ble_eq_true rfl) dX3_init_31 (fun H locs h => ?_)
  have h : gH D A s.heap [(h0, .inr (3, [.ref q7, .ref q13, .ref q24, .null, .int 0])), (q7, .inl (cA 0, 8, .inl (fun _ => 0))), (q13, .inr (4, [.int 0, .int 0, .int 0])), (q24, .inr (4, [.int 0, .int 0, .int 0]))] H _ := h
  refine lv_aload_n hx hb dX3_init_34 rfl (lv_at hl 0 rfl) ?_
  refine n_new X.1 h 4 (fs := [.int 0, .int 0, .int 0]) rfl inX3_init_X4 tyX4 tyX4_ok (by decide +kernel) (by decide +kernel) (by decide +kernel) (fun j hj => by rcases (show j = 0 ∨ j = 1 ∨ j = 2 by omega) with rfl | rfl | rfl <;> rfl) (Nat.le_of_ble_eq_true rfl) (Nat.le_of_ble_eq_true rfl) dX3_init_35 (fun q35 H h => ?_)
  have h : gH D A s.heap [(h0, .inr (3, [.ref q7, .ref q13, .ref q24, .null, .int 0])), (q7, .inl (cA 0, 8, .inl (fun _ => 0))), (q13, .inr (4, [.int 0, .int 0, .int 0])), (q24, .inr (4, [.int 0, .int 0, .int 0])), (q35, .inr (4, [.int 0, .int 0, .int 0]))] H _ := h
  refine W.widen (k := 4) (n := 17) (Nat.le_refl _) (Nat.le_refl _) ?_
  refine lv_dup hx hb dX3_init_38 rfl ?_
  refine n_init (wr := [(h0, .inr (3, [.ref q7, .ref q13, .ref q24, .null, .int 0])), (q7, .inl (cA 0, 8, .inl (fun _ => 0))), (q13, .inr (4, [.int 0, .int 0, .int 0])), (q24, .inr (4, [.int 0, .int 0, .int 0]))]) X.1 hN h (kX4_init l D cA q35) [4] [0, 1, 2, 3] rfl rfl (by decide) (by decide) (fun hM hp => va_runIN (As := []) (rest := [.ref q35, .ref h0]) ⟨hx, hb, hml, hown, hts⟩ hM ⟨va_cnB 0 hts gX3_init_X4_init_n17 rfl rfl rfl hN.1.2.2.1 (hts _ (by decide +kernel)) (by decide +kernel) ⟨Nat.le_of_ble_eq_true rfl, Nat.le_of_ble_eq_true rfl⟩, rfl, hts _ (by decide +kernel)⟩ hp rfl rfl hl.1 rfl (lv_room (Nat.le_of_ble_eq_true rfl)) dX3_init_39 ⟨Nat.le_of_ble_eq_true rfl, Nat.le_of_ble_eq_true rfl⟩) (fun u39 H locs h => ?_)
  have h : gH D A s.heap [(h0, .inr (3, [.ref q7, .ref q13, .ref q24, .null, .int 0])), (q7, .inl (cA 0, 8, .inl (fun _ => 0))), (q13, .inr (4, [.int 0, .int 0, .int 0])), (q24, .inr (4, [.int 0, .int 0, .int 0])), (q35, .inr (4, [.int 0, .int 0, .int 0]))] H _ := h
  refine W.widen (k := 4) (n := 17) (Nat.le_refl _) (Nat.le_refl _) ?_
  refine n_putF X h 0 3 rfl rfl inX3_init_X3 tyX3 tyX3_ok nmX3 3 (by decide) (by decide +kernel) rfl rfl rfl rfl (Nat.le_of_ble_eq_true rfl) dX3_init_42 (fun H locs h => ?_)
  have h : gH D A s.heap [(h0, .inr (3, [.ref q7, .ref q13, .ref q24, .ref q35, .int 0])), (q7, .inl (cA 0, 8, .inl (fun _ => 0))), (q13, .inr (4, [.int 0, .int 0, .int 0])), (q24, .inr (4, [.int 0, .int 0, .int 0])), (q35, .inr (4, [.int 0, .int 0, .int 0]))] H _ := h
  refine lv_aload_n hx hb dX3_init_45 rfl (lv_at hl 0 rfl) ?_
  refine lv_iconst (v := 0) hx hb dX3_init_46 (by decide) ?_
  refine n_put X.1 h 0 3 rfl rfl inX3_init_X3 tyX3 tyX3_ok nmX3 4 (by decide) (by decide +kernel) rfl rfl rfl rfl (Nat.le_of_ble_eq_true rfl) dX3_init_47 (fun H locs h => ?_)
  have h : gH D A s.heap [(h0, .inr (3, [.ref q7, .ref q13, .ref q24, .ref q35, .int 0])), (q7, .inl (cA 0, 8, .inl (fun _ => 0))), (q13, .inr (4, [.int 0, .int 0, .int 0])), (q24, .inr (4, [.int 0, .int 0, .int 0])), (q35, .inr (4, [.int 0, .int 0, .int 0]))] H _ := h
  have h : gH D A s.heap (kwX3 cA h0 (fun j => match j with | 1 => q7 | 2 => q13 | 3 => q24 | 4 => q35 | _ => 0)) H _ := ⟨h.1.sub [0, 1, 2, 3, 4] rfl, h.2.1.sub [0, 1, 2, 3, 4] (by decide) rfl, h.2.2⟩
  exact hret _ _ _ _ ls h dX3_init_50
def rmX5_init : Room := { frames := 3, cells := 6, slots := 46, locals := 52 }
theorem inX5_init_X3 : ∀ w ∈ wsX30, w ∈ wsX5_init := fun w h => List.mem_cons_of_mem _ (List.mem_append_left _ (List.mem_append_left _ (List.mem_append_right _ h)))
theorem inX5_init_X5 : ∀ w ∈ wsX50, w ∈ wsX5_init := fun w h => List.mem_cons_of_mem _ (List.mem_append_left _ (List.mem_append_right _ h))
theorem inX5_init_X4 : ∀ w ∈ wsX40, w ∈ wsX5_init := fun w h => List.mem_cons_of_mem _ (List.mem_append_right _ h)
def kwX5 (cA : Nat → ClassId) (h0 : Nat) (u : Nat → Nat) : va_W := [(h0, .inr (5, [.ref (u 1), .ref (u 6)])), ((u 1), .inr (3, [.ref (u 2), .ref (u 3), .ref (u 4), .ref (u 5), .int 0])), ((u 2), .inl (cA 0, 8, .inl (fun _ => 0))), ((u 3), .inr (4, [.int 0, .int 0, .int 0])), ((u 4), .inr (4, [.int 0, .int 0, .int 0])), ((u 5), .inr (4, [.int 0, .int 0, .int 0])), ((u 6), .inl (cA 0, 24, .inl (fun _ => 0)))]
set_option maxHeartbeats 4000000 in
set_option maxRecDepth 100000 in
theorem kX5_init (l : Launch) (D : va_G) (cA : Nat → ClassId) (h0 : Nat) : kM l D cA yX5_init wsX5_init rmX5_init [.ref h0] [(h0, .inr (5, [.null, .null]))] (kwX5 cA h0) 6 46 := by
  refine k_enter (cc := cX5_init) (maxL := 1) (own := RX5) (by decide) rfl rfl rfl (Nat.le_of_ble_eq_true rfl) ?_
  intro p e s m args below meth c A X hret h ls hl
  obtain ⟨⟨hx, hb, hml, hown, hts, hK, hA⟩, hN, hin⟩ := id X
  have hl : lv_has ls 1 [(0, .ref h0)] := hl
  refine lv_aload_n hx hb dX5_init_0 rfl (lv_at hl 0 rfl) ?_
  refine n_obj X.1 (by decide +kernel) (by decide +kernel) (by decide +kernel) hl.1 (Nat.le_of_ble_eq_true rfl) (Nat.le_of_ble_eq_true rfl) dX5_init_1 ?_
  refine lv_aload_n hx hb dX5_init_4 rfl (lv_at hl 0 rfl) ?_
  refine n_new X.1 h 3 (fs := [.null, .null, .null, .null, .int 0]) rfl inX5_init_X3 tyX3 tyX3_ok (by decide +kernel) (by decide +kernel) (by decide +kernel) (fun j hj => by rcases (show j = 0 ∨ j = 1 ∨ j = 2 ∨ j = 3 ∨ j = 4 by omega) with rfl | rfl | rfl | rfl | rfl <;> rfl) (Nat.le_of_ble_eq_true rfl) (Nat.le_of_ble_eq_true rfl) dX5_init_5 (fun q5 H h => ?_)
  have h : gH D A s.heap [(h0, .inr (5, [.null, .null])), (q5, .inr (3, [.null, .null, .null, .null, .int 0]))] H _ := h
  refine W.widen (k := 1) (n := 5) (Nat.le_refl _) (Nat.le_refl _) ?_
  refine lv_dup hx hb dX5_init_8 rfl ?_
  refine n_init (wr := [(h0, .inr (5, [.null, .null]))]) X.1 hN h (kX3_init l D cA q5) [1] [0] rfl rfl (by decide) (by decide) (fun hM hp => va_runIN (As := []) (rest := [.ref q5, .ref h0]) ⟨hx, hb, hml, hown, hts⟩ hM ⟨va_cnB 0 hts gX5_init_X3_init_n11 rfl rfl rfl hN.1.2.2.2 (hts _ (by decide +kernel)) (by decide +kernel) ⟨Nat.le_of_ble_eq_true rfl, Nat.le_of_ble_eq_true rfl⟩, rfl, hts _ (by decide +kernel)⟩ hp rfl rfl hl.1 rfl (lv_room (Nat.le_of_ble_eq_true rfl)) dX5_init_9 ⟨Nat.le_of_ble_eq_true rfl, Nat.le_of_ble_eq_true rfl⟩) (fun u9 H locs h => ?_)
  have h : gH D A s.heap [(h0, .inr (5, [.null, .null])), (q5, .inr (3, [.ref (u9 1), .ref (u9 2), .ref (u9 3), .ref (u9 4), .int 0])), ((u9 1), .inl (cA 0, 8, .inl (fun _ => 0))), ((u9 2), .inr (4, [.int 0, .int 0, .int 0])), ((u9 3), .inr (4, [.int 0, .int 0, .int 0])), ((u9 4), .inr (4, [.int 0, .int 0, .int 0]))] H _ := h
  refine W.widen (k := 5) (n := 22) (Nat.le_refl _) (Nat.le_refl _) ?_
  refine n_putF X h 0 5 rfl rfl inX5_init_X5 tyX5 tyX5_ok nmX5 0 (by decide) (by decide +kernel) rfl rfl rfl rfl (Nat.le_of_ble_eq_true rfl) dX5_init_12 (fun H locs h => ?_)
  have h : gH D A s.heap [(h0, .inr (5, [.ref q5, .null])), (q5, .inr (3, [.ref (u9 1), .ref (u9 2), .ref (u9 3), .ref (u9 4), .int 0])), ((u9 1), .inl (cA 0, 8, .inl (fun _ => 0))), ((u9 2), .inr (4, [.int 0, .int 0, .int 0])), ((u9 3), .inr (4, [.int 0, .int 0, .int 0])), ((u9 4), .inr (4, [.int 0, .int 0, .int 0]))] H _ := h
  refine lv_aload_n hx hb dX5_init_15 rfl (lv_at hl 0 rfl) ?_
  refine lv_bipush (v := 24) hx hb dX5_init_16 (by decide) ?_
  refine n_newI X.1 h (by decide +kernel) (by decide) (N := 24) (by decide) (by decide +kernel) (Nat.le_of_ble_eq_true rfl) (Nat.le_of_ble_eq_true rfl) dX5_init_18 (fun q18 H h => ?_)
  have h : gH D A s.heap [(h0, .inr (5, [.ref q5, .null])), (q5, .inr (3, [.ref (u9 1), .ref (u9 2), .ref (u9 3), .ref (u9 4), .int 0])), ((u9 1), .inl (cA 0, 8, .inl (fun _ => 0))), ((u9 2), .inr (4, [.int 0, .int 0, .int 0])), ((u9 3), .inr (4, [.int 0, .int 0, .int 0])), ((u9 4), .inr (4, [.int 0, .int 0, .int 0])), (q18, .inl (cA 0, 24, .inl (fun _ => 0)))] H _ := h
  refine W.widen (k := 6) (n := 46) (Nat.le_refl _) (Nat.le_refl _) ?_
  refine n_putF X h 0 5 rfl rfl inX5_init_X5 tyX5 tyX5_ok nmX5 1 (by decide) (by decide +kernel) rfl rfl rfl rfl (Nat.le_of_ble_eq_true rfl) dX5_init_20 (fun H locs h => ?_)
  have h : gH D A s.heap [(h0, .inr (5, [.ref q5, .ref q18])), (q5, .inr (3, [.ref (u9 1), .ref (u9 2), .ref (u9 3), .ref (u9 4), .int 0])), ((u9 1), .inl (cA 0, 8, .inl (fun _ => 0))), ((u9 2), .inr (4, [.int 0, .int 0, .int 0])), ((u9 3), .inr (4, [.int 0, .int 0, .int 0])), ((u9 4), .inr (4, [.int 0, .int 0, .int 0])), (q18, .inl (cA 0, 24, .inl (fun _ => 0)))] H _ := h
  have h : gH D A s.heap (kwX5 cA h0 (fun j => match j with | 1 => q5 | 2 => (u9 1) | 3 => (u9 2) | 4 => (u9 3) | 5 => (u9 4) | 6 => q18 | _ => 0)) H _ := ⟨h.1.sub [0, 1, 2, 3, 4, 5, 6] rfl, h.2.1.sub [0, 1, 2, 3, 4, 5, 6] (by decide) rfl, h.2.2⟩
  exact hret _ _ _ _ ls h dX5_init_23
def rmX2_init : Room := { frames := 1, cells := 11, slots := 769, locals := 12 }
theorem inX2_init_X2 : ∀ w ∈ wsX20, w ∈ wsX2_init := fun w h => List.mem_cons_of_mem _ (List.mem_append_right _ h)
def kwX2 (cA : Nat → ClassId) (h0 : Nat) (u : Nat → Nat) : va_W := [(h0, .inr (2, [.ref (u 1), .ref (u 2), .ref (u 3), .ref (u 4), .ref (u 5), .ref (u 6), .ref (u 7), .ref (u 8), .ref (u 9), .ref (u 10), .ref (u 11), .int 0, .long 0])), ((u 1), .inl (cA 0, 160, .inl (fun _ => 0))), ((u 2), .inl (cA 0, 160, .inl (fun _ => 0))), ((u 3), .inl (cA 0, 160, .inl (fun _ => 0))), ((u 4), .inl (cA 1, 40, .inr (.inl (fun _ => 0)))), ((u 5), .inl (cA 1, 40, .inr (.inl (fun _ => 0)))), ((u 6), .inl (cA 1, 9, .inr (.inl (fun _ => 0)))), ((u 7), .inl (cA 1, 40, .inr (.inl (fun _ => 0)))), ((u 8), .inl (cA 0, 40, .inl (fun _ => 0))), ((u 9), .inl (cA 0, 40, .inl (fun _ => 0))), ((u 10), .inl (cA 0, 40, .inl (fun _ => 0))), ((u 11), .inl (cA 0, 40, .inl (fun _ => 0)))]
set_option maxHeartbeats 4000000 in
set_option maxRecDepth 100000 in
theorem kX2_init (l : Launch) (D : va_G) (cA : Nat → ClassId) (h0 : Nat) : kM l D cA yX2_init wsX2_init rmX2_init [.ref h0] [(h0, .inr (2, [.null, .null, .null, .null, .null, .null, .null, .null, .null, .null, .null, .int 0, .long 0]))] (kwX2 cA h0) 11 769 := by
  refine k_enter (cc := cX2_init) (maxL := 1) (own := RX2) (by decide) rfl rfl rfl (Nat.le_of_ble_eq_true rfl) ?_
  intro p e s m args below meth c A X hret h ls hl
  obtain ⟨⟨hx, hb, hml, hown, hts, hK, hA⟩, hN, hin⟩ := id X
  have hl : lv_has ls 1 [(0, .ref h0)] := hl
  refine lv_aload_n hx hb dX2_init_0 rfl (lv_at hl 0 rfl) ?_
  refine n_obj X.1 (by decide +kernel) (by decide +kernel) (by decide +kernel) hl.1 (Nat.le_of_ble_eq_true rfl) (Nat.le_of_ble_eq_true rfl) dX2_init_1 ?_
  refine lv_aload_n hx hb dX2_init_4 rfl (lv_at hl 0 rfl) ?_
  refine lv_sipush (v := 160) hx hb dX2_init_5 (by decide) ?_
  refine n_newI X.1 h (by decide +kernel) (by decide) (N := 160) (by decide) (by decide +kernel) (Nat.le_of_ble_eq_true rfl) (Nat.le_of_ble_eq_true rfl) dX2_init_8 (fun q8 H h => ?_)
  have h : gH D A s.heap [(h0, .inr (2, [.null, .null, .null, .null, .null, .null, .null, .null, .null, .null, .null, .int 0, .long 0])), (q8, .inl (cA 0, 160, .inl (fun _ => 0)))] H _ := h
  refine W.widen (k := 1) (n := 160) (Nat.le_refl _) (Nat.le_refl _) ?_
  refine n_putF X h 0 2 rfl rfl inX2_init_X2 tyX2 tyX2_ok nmX2 0 (by decide) (by decide +kernel) rfl rfl rfl rfl (Nat.le_of_ble_eq_true rfl) dX2_init_10 (fun H locs h => ?_)
  have h : gH D A s.heap [(h0, .inr (2, [.ref q8, .null, .null, .null, .null, .null, .null, .null, .null, .null, .null, .int 0, .long 0])), (q8, .inl (cA 0, 160, .inl (fun _ => 0)))] H _ := h
  refine lv_aload_n hx hb dX2_init_13 rfl (lv_at hl 0 rfl) ?_
  refine lv_sipush (v := 160) hx hb dX2_init_14 (by decide) ?_
  refine n_newI X.1 h (by decide +kernel) (by decide) (N := 160) (by decide) (by decide +kernel) (Nat.le_of_ble_eq_true rfl) (Nat.le_of_ble_eq_true rfl) dX2_init_17 (fun q17 H h => ?_)
  have h : gH D A s.heap [(h0, .inr (2, [.ref q8, .null, .null, .null, .null, .null, .null, .null, .null, .null, .null, .int 0, .long 0])), (q8, .inl (cA 0, 160, .inl (fun _ => 0))), (q17, .inl (cA 0, 160, .inl (fun _ => 0)))] H _ := h
  refine W.widen (k := 2) (n := 320) (Nat.le_refl _) (Nat.le_refl _) ?_
  refine n_putF X h 0 2 rfl rfl inX2_init_X2 tyX2 tyX2_ok nmX2 1 (by decide) (by decide +kernel) rfl rfl rfl rfl (Nat.le_of_ble_eq_true rfl) dX2_init_19 (fun H locs h => ?_)
  have h : gH D A s.heap [(h0, .inr (2, [.ref q8, .ref q17, .null, .null, .null, .null, .null, .null, .null, .null, .null, .int 0, .long 0])), (q8, .inl (cA 0, 160, .inl (fun _ => 0))), (q17, .inl (cA 0, 160, .inl (fun _ => 0)))] H _ := h
  refine lv_aload_n hx hb dX2_init_22 rfl (lv_at hl 0 rfl) ?_
  refine lv_sipush (v := 160) hx hb dX2_init_23 (by decide) ?_
  refine n_newI X.1 h (by decide +kernel) (by decide) (N := 160) (by decide) (by decide +kernel) (Nat.le_of_ble_eq_true rfl) (Nat.le_of_ble_eq_true rfl) dX2_init_26 (fun q26 H h => ?_)
  have h : gH D A s.heap [(h0, .inr (2, [.ref q8, .ref q17, .null, .null, .null, .null, .null, .null, .null, .null, .null, .int 0, .long 0])), (q8, .inl (cA 0, 160, .inl (fun _ => 0))), (q17, .inl (cA 0, 160, .inl (fun _ => 0))), (q26, .inl (cA 0, 160, .inl (fun _ => 0)))] H _ := h
  refine W.widen (k := 3) (n := 480) (Nat.le_refl _) (Nat.le_refl _) ?_
  refine n_putF X h 0 2 rfl rfl inX2_init_X2 tyX2 tyX2_ok nmX2 2 (by decide) (by decide +kernel) rfl rfl rfl rfl (Nat.le_of_ble_eq_true rfl) dX2_init_28 (fun H locs h => ?_)
  have h : gH D A s.heap [(h0, .inr (2, [.ref q8, .ref q17, .ref q26, .null, .null, .null, .null, .null, .null, .null, .null, .int 0, .long 0])), (q8, .inl (cA 0, 160, .inl (fun _ => 0))), (q17, .inl (cA 0, 160, .inl (fun _ => 0))), (q26, .inl (cA 0, 160, .inl (fun _ => 0)))] H _ := h
  refine lv_aload_n hx hb dX2_init_31 rfl (lv_at hl 0 rfl) ?_
  refine lv_bipush (v := 40) hx hb dX2_init_32 (by decide) ?_
  refine n_newJ X.1 h (by decide +kernel) (by decide) (N := 40) (by decide) (by decide +kernel) (Nat.le_of_ble_eq_true rfl) (Nat.le_of_ble_eq_true rfl) dX2_init_34 (fun q34 H h => ?_)
  have h : gH D A s.heap [(h0, .inr (2, [.ref q8, .ref q17, .ref q26, .null, .null, .null, .null, .null, .null, .null, .null, .int 0, .long 0])), (q8, .inl (cA 0, 160, .inl (fun _ => 0))), (q17, .inl (cA 0, 160, .inl (fun _ => 0))), (q26, .inl (cA 0, 160, .inl (fun _ => 0))), (q34, .inl (cA 1, 40, .inr (.inl (fun _ => 0))))] H _ := h
  refine W.widen (k := 4) (n := 520) (Nat.le_refl _) (Nat.le_refl _) ?_
  refine n_putF X h 0 2 rfl rfl inX2_init_X2 tyX2 tyX2_ok nmX2 3 (by decide) (by decide +kernel) rfl rfl rfl rfl (Nat.le_of_ble_eq_true rfl) dX2_init_36 (fun H locs h => ?_)
  have h : gH D A s.heap [(h0, .inr (2, [.ref q8, .ref q17, .ref q26, .ref q34, .null, .null, .null, .null, .null, .null, .null, .int 0, .long 0])), (q8, .inl (cA 0, 160, .inl (fun _ => 0))), (q17, .inl (cA 0, 160, .inl (fun _ => 0))), (q26, .inl (cA 0, 160, .inl (fun _ => 0))), (q34, .inl (cA 1, 40, .inr (.inl (fun _ => 0))))] H _ := h
  refine lv_aload_n hx hb dX2_init_39 rfl (lv_at hl 0 rfl) ?_
  refine lv_bipush (v := 40) hx hb dX2_init_40 (by decide) ?_
  refine n_newJ X.1 h (by decide +kernel) (by decide) (N := 40) (by decide) (by decide +kernel) (Nat.le_of_ble_eq_true rfl) (Nat.le_of_ble_eq_true rfl) dX2_init_42 (fun q42 H h => ?_)
  have h : gH D A s.heap [(h0, .inr (2, [.ref q8, .ref q17, .ref q26, .ref q34, .null, .null, .null, .null, .null, .null, .null, .int 0, .long 0])), (q8, .inl (cA 0, 160, .inl (fun _ => 0))), (q17, .inl (cA 0, 160, .inl (fun _ => 0))), (q26, .inl (cA 0, 160, .inl (fun _ => 0))), (q34, .inl (cA 1, 40, .inr (.inl (fun _ => 0)))), (q42, .inl (cA 1, 40, .inr (.inl (fun _ => 0))))] H _ := h
  refine W.widen (k := 5) (n := 560) (Nat.le_refl _) (Nat.le_refl _) ?_
  refine n_putF X h 0 2 rfl rfl inX2_init_X2 tyX2 tyX2_ok nmX2 4 (by decide) (by decide +kernel) rfl rfl rfl rfl (Nat.le_of_ble_eq_true rfl) dX2_init_44 (fun H locs h => ?_)
  have h : gH D A s.heap [(h0, .inr (2, [.ref q8, .ref q17, .ref q26, .ref q34, .ref q42, .null, .null, .null, .null, .null, .null, .int 0, .long 0])), (q8, .inl (cA 0, 160, .inl (fun _ => 0))), (q17, .inl (cA 0, 160, .inl (fun _ => 0))), (q26, .inl (cA 0, 160, .inl (fun _ => 0))), (q34, .inl (cA 1, 40, .inr (.inl (fun _ => 0)))), (q42, .inl (cA 1, 40, .inr (.inl (fun _ => 0))))] H _ := h
  refine lv_aload_n hx hb dX2_init_47 rfl (lv_at hl 0 rfl) ?_
  refine lv_bipush (v := 9) hx hb dX2_init_48 (by decide) ?_
  refine n_newJ X.1 h (by decide +kernel) (by decide) (N := 9) (by decide) (by decide +kernel) (Nat.le_of_ble_eq_true rfl) (Nat.le_of_ble_eq_true rfl) dX2_init_50 (fun q50 H h => ?_)
  have h : gH D A s.heap [(h0, .inr (2, [.ref q8, .ref q17, .ref q26, .ref q34, .ref q42, .null, .null, .null, .null, .null, .null, .int 0, .long 0])), (q8, .inl (cA 0, 160, .inl (fun _ => 0))), (q17, .inl (cA 0, 160, .inl (fun _ => 0))), (q26, .inl (cA 0, 160, .inl (fun _ => 0))), (q34, .inl (cA 1, 40, .inr (.inl (fun _ => 0)))), (q42, .inl (cA 1, 40, .inr (.inl (fun _ => 0)))), (q50, .inl (cA 1, 9, .inr (.inl (fun _ => 0))))] H _ := h
  refine W.widen (k := 6) (n := 569) (Nat.le_refl _) (Nat.le_refl _) ?_
  refine n_putF X h 0 2 rfl rfl inX2_init_X2 tyX2 tyX2_ok nmX2 5 (by decide) (by decide +kernel) rfl rfl rfl rfl (Nat.le_of_ble_eq_true rfl) dX2_init_52 (fun H locs h => ?_)
  have h : gH D A s.heap [(h0, .inr (2, [.ref q8, .ref q17, .ref q26, .ref q34, .ref q42, .ref q50, .null, .null, .null, .null, .null, .int 0, .long 0])), (q8, .inl (cA 0, 160, .inl (fun _ => 0))), (q17, .inl (cA 0, 160, .inl (fun _ => 0))), (q26, .inl (cA 0, 160, .inl (fun _ => 0))), (q34, .inl (cA 1, 40, .inr (.inl (fun _ => 0)))), (q42, .inl (cA 1, 40, .inr (.inl (fun _ => 0)))), (q50, .inl (cA 1, 9, .inr (.inl (fun _ => 0))))] H _ := h
  refine lv_aload_n hx hb dX2_init_55 rfl (lv_at hl 0 rfl) ?_
  refine lv_bipush (v := 40) hx hb dX2_init_56 (by decide) ?_
  refine n_newJ X.1 h (by decide +kernel) (by decide) (N := 40) (by decide) (by decide +kernel) (Nat.le_of_ble_eq_true rfl) (Nat.le_of_ble_eq_true rfl) dX2_init_58 (fun q58 H h => ?_)
  have h : gH D A s.heap [(h0, .inr (2, [.ref q8, .ref q17, .ref q26, .ref q34, .ref q42, .ref q50, .null, .null, .null, .null, .null, .int 0, .long 0])), (q8, .inl (cA 0, 160, .inl (fun _ => 0))), (q17, .inl (cA 0, 160, .inl (fun _ => 0))), (q26, .inl (cA 0, 160, .inl (fun _ => 0))), (q34, .inl (cA 1, 40, .inr (.inl (fun _ => 0)))), (q42, .inl (cA 1, 40, .inr (.inl (fun _ => 0)))), (q50, .inl (cA 1, 9, .inr (.inl (fun _ => 0)))), (q58, .inl (cA 1, 40, .inr (.inl (fun _ => 0))))] H _ := h
  refine W.widen (k := 7) (n := 609) (Nat.le_refl _) (Nat.le_refl _) ?_
  refine n_putF X h 0 2 rfl rfl inX2_init_X2 tyX2 tyX2_ok nmX2 6 (by decide) (by decide +kernel) rfl rfl rfl rfl (Nat.le_of_ble_eq_true rfl) dX2_init_60 (fun H locs h => ?_)
  have h : gH D A s.heap [(h0, .inr (2, [.ref q8, .ref q17, .ref q26, .ref q34, .ref q42, .ref q50, .ref q58, .null, .null, .null, .null, .int 0, .long 0])), (q8, .inl (cA 0, 160, .inl (fun _ => 0))), (q17, .inl (cA 0, 160, .inl (fun _ => 0))), (q26, .inl (cA 0, 160, .inl (fun _ => 0))), (q34, .inl (cA 1, 40, .inr (.inl (fun _ => 0)))), (q42, .inl (cA 1, 40, .inr (.inl (fun _ => 0)))), (q50, .inl (cA 1, 9, .inr (.inl (fun _ => 0)))), (q58, .inl (cA 1, 40, .inr (.inl (fun _ => 0))))] H _ := h
  refine lv_aload_n hx hb dX2_init_63 rfl (lv_at hl 0 rfl) ?_
  refine lv_bipush (v := 40) hx hb dX2_init_64 (by decide) ?_
  refine n_newI X.1 h (by decide +kernel) (by decide) (N := 40) (by decide) (by decide +kernel) (Nat.le_of_ble_eq_true rfl) (Nat.le_of_ble_eq_true rfl) dX2_init_66 (fun q66 H h => ?_)
  have h : gH D A s.heap [(h0, .inr (2, [.ref q8, .ref q17, .ref q26, .ref q34, .ref q42, .ref q50, .ref q58, .null, .null, .null, .null, .int 0, .long 0])), (q8, .inl (cA 0, 160, .inl (fun _ => 0))), (q17, .inl (cA 0, 160, .inl (fun _ => 0))), (q26, .inl (cA 0, 160, .inl (fun _ => 0))), (q34, .inl (cA 1, 40, .inr (.inl (fun _ => 0)))), (q42, .inl (cA 1, 40, .inr (.inl (fun _ => 0)))), (q50, .inl (cA 1, 9, .inr (.inl (fun _ => 0)))), (q58, .inl (cA 1, 40, .inr (.inl (fun _ => 0)))), (q66, .inl (cA 0, 40, .inl (fun _ => 0)))] H _ := h
  refine W.widen (k := 8) (n := 649) (Nat.le_refl _) (Nat.le_refl _) ?_
  refine n_putF X h 0 2 rfl rfl inX2_init_X2 tyX2 tyX2_ok nmX2 7 (by decide) (by decide +kernel) rfl rfl rfl rfl (Nat.le_of_ble_eq_true rfl) dX2_init_68 (fun H locs h => ?_)
  have h : gH D A s.heap [(h0, .inr (2, [.ref q8, .ref q17, .ref q26, .ref q34, .ref q42, .ref q50, .ref q58, .ref q66, .null, .null, .null, .int 0, .long 0])), (q8, .inl (cA 0, 160, .inl (fun _ => 0))), (q17, .inl (cA 0, 160, .inl (fun _ => 0))), (q26, .inl (cA 0, 160, .inl (fun _ => 0))), (q34, .inl (cA 1, 40, .inr (.inl (fun _ => 0)))), (q42, .inl (cA 1, 40, .inr (.inl (fun _ => 0)))), (q50, .inl (cA 1, 9, .inr (.inl (fun _ => 0)))), (q58, .inl (cA 1, 40, .inr (.inl (fun _ => 0)))), (q66, .inl (cA 0, 40, .inl (fun _ => 0)))] H _ := h
  refine lv_aload_n hx hb dX2_init_71 rfl (lv_at hl 0 rfl) ?_
  refine lv_bipush (v := 40) hx hb dX2_init_72 (by decide) ?_
  refine n_newI X.1 h (by decide +kernel) (by decide) (N := 40) (by decide) (by decide +kernel) (Nat.le_of_ble_eq_true rfl) (Nat.le_of_ble_eq_true rfl) dX2_init_74 (fun q74 H h => ?_)
  have h : gH D A s.heap [(h0, .inr (2, [.ref q8, .ref q17, .ref q26, .ref q34, .ref q42, .ref q50, .ref q58, .ref q66, .null, .null, .null, .int 0, .long 0])), (q8, .inl (cA 0, 160, .inl (fun _ => 0))), (q17, .inl (cA 0, 160, .inl (fun _ => 0))), (q26, .inl (cA 0, 160, .inl (fun _ => 0))), (q34, .inl (cA 1, 40, .inr (.inl (fun _ => 0)))), (q42, .inl (cA 1, 40, .inr (.inl (fun _ => 0)))), (q50, .inl (cA 1, 9, .inr (.inl (fun _ => 0)))), (q58, .inl (cA 1, 40, .inr (.inl (fun _ => 0)))), (q66, .inl (cA 0, 40, .inl (fun _ => 0))), (q74, .inl (cA 0, 40, .inl (fun _ => 0)))] H _ := h
  refine W.widen (k := 9) (n := 689) (Nat.le_refl _) (Nat.le_refl _) ?_
  refine n_putF X h 0 2 rfl rfl inX2_init_X2 tyX2 tyX2_ok nmX2 8 (by decide) (by decide +kernel) rfl rfl rfl rfl (Nat.le_of_ble_eq_true rfl) dX2_init_76 (fun H locs h => ?_)
  have h : gH D A s.heap [(h0, .inr (2, [.ref q8, .ref q17, .ref q26, .ref q34, .ref q42, .ref q50, .ref q58, .ref q66, .ref q74, .null, .null, .int 0, .long 0])), (q8, .inl (cA 0, 160, .inl (fun _ => 0))), (q17, .inl (cA 0, 160, .inl (fun _ => 0))), (q26, .inl (cA 0, 160, .inl (fun _ => 0))), (q34, .inl (cA 1, 40, .inr (.inl (fun _ => 0)))), (q42, .inl (cA 1, 40, .inr (.inl (fun _ => 0)))), (q50, .inl (cA 1, 9, .inr (.inl (fun _ => 0)))), (q58, .inl (cA 1, 40, .inr (.inl (fun _ => 0)))), (q66, .inl (cA 0, 40, .inl (fun _ => 0))), (q74, .inl (cA 0, 40, .inl (fun _ => 0)))] H _ := h
  refine lv_aload_n hx hb dX2_init_79 rfl (lv_at hl 0 rfl) ?_
  refine lv_bipush (v := 40) hx hb dX2_init_80 (by decide) ?_
  refine n_newI X.1 h (by decide +kernel) (by decide) (N := 40) (by decide) (by decide +kernel) (Nat.le_of_ble_eq_true rfl) (Nat.le_of_ble_eq_true rfl) dX2_init_82 (fun q82 H h => ?_)
  have h : gH D A s.heap [(h0, .inr (2, [.ref q8, .ref q17, .ref q26, .ref q34, .ref q42, .ref q50, .ref q58, .ref q66, .ref q74, .null, .null, .int 0, .long 0])), (q8, .inl (cA 0, 160, .inl (fun _ => 0))), (q17, .inl (cA 0, 160, .inl (fun _ => 0))), (q26, .inl (cA 0, 160, .inl (fun _ => 0))), (q34, .inl (cA 1, 40, .inr (.inl (fun _ => 0)))), (q42, .inl (cA 1, 40, .inr (.inl (fun _ => 0)))), (q50, .inl (cA 1, 9, .inr (.inl (fun _ => 0)))), (q58, .inl (cA 1, 40, .inr (.inl (fun _ => 0)))), (q66, .inl (cA 0, 40, .inl (fun _ => 0))), (q74, .inl (cA 0, 40, .inl (fun _ => 0))), (q82, .inl (cA 0, 40, .inl (fun _ => 0)))] H _ := h
  refine W.widen (k := 10) (n := 729) (Nat.le_refl _) (Nat.le_refl _) ?_
  refine n_putF X h 0 2 rfl rfl inX2_init_X2 tyX2 tyX2_ok nmX2 9 (by decide) (by decide +kernel) rfl rfl rfl rfl (Nat.le_of_ble_eq_true rfl) dX2_init_84 (fun H locs h => ?_)
  have h : gH D A s.heap [(h0, .inr (2, [.ref q8, .ref q17, .ref q26, .ref q34, .ref q42, .ref q50, .ref q58, .ref q66, .ref q74, .ref q82, .null, .int 0, .long 0])), (q8, .inl (cA 0, 160, .inl (fun _ => 0))), (q17, .inl (cA 0, 160, .inl (fun _ => 0))), (q26, .inl (cA 0, 160, .inl (fun _ => 0))), (q34, .inl (cA 1, 40, .inr (.inl (fun _ => 0)))), (q42, .inl (cA 1, 40, .inr (.inl (fun _ => 0)))), (q50, .inl (cA 1, 9, .inr (.inl (fun _ => 0)))), (q58, .inl (cA 1, 40, .inr (.inl (fun _ => 0)))), (q66, .inl (cA 0, 40, .inl (fun _ => 0))), (q74, .inl (cA 0, 40, .inl (fun _ => 0))), (q82, .inl (cA 0, 40, .inl (fun _ => 0)))] H _ := h
  refine lv_aload_n hx hb dX2_init_87 rfl (lv_at hl 0 rfl) ?_
  refine lv_bipush (v := 40) hx hb dX2_init_88 (by decide) ?_
  refine n_newI X.1 h (by decide +kernel) (by decide) (N := 40) (by decide) (by decide +kernel) (Nat.le_of_ble_eq_true rfl) (Nat.le_of_ble_eq_true rfl) dX2_init_90 (fun q90 H h => ?_)
  have h : gH D A s.heap [(h0, .inr (2, [.ref q8, .ref q17, .ref q26, .ref q34, .ref q42, .ref q50, .ref q58, .ref q66, .ref q74, .ref q82, .null, .int 0, .long 0])), (q8, .inl (cA 0, 160, .inl (fun _ => 0))), (q17, .inl (cA 0, 160, .inl (fun _ => 0))), (q26, .inl (cA 0, 160, .inl (fun _ => 0))), (q34, .inl (cA 1, 40, .inr (.inl (fun _ => 0)))), (q42, .inl (cA 1, 40, .inr (.inl (fun _ => 0)))), (q50, .inl (cA 1, 9, .inr (.inl (fun _ => 0)))), (q58, .inl (cA 1, 40, .inr (.inl (fun _ => 0)))), (q66, .inl (cA 0, 40, .inl (fun _ => 0))), (q74, .inl (cA 0, 40, .inl (fun _ => 0))), (q82, .inl (cA 0, 40, .inl (fun _ => 0))), (q90, .inl (cA 0, 40, .inl (fun _ => 0)))] H _ := h
  refine W.widen (k := 11) (n := 769) (Nat.le_refl _) (Nat.le_refl _) ?_
  refine n_putF X h 0 2 rfl rfl inX2_init_X2 tyX2 tyX2_ok nmX2 10 (by decide) (by decide +kernel) rfl rfl rfl rfl (Nat.le_of_ble_eq_true rfl) dX2_init_92 (fun H locs h => ?_)
  have h : gH D A s.heap [(h0, .inr (2, [.ref q8, .ref q17, .ref q26, .ref q34, .ref q42, .ref q50, .ref q58, .ref q66, .ref q74, .ref q82, .ref q90, .int 0, .long 0])), (q8, .inl (cA 0, 160, .inl (fun _ => 0))), (q17, .inl (cA 0, 160, .inl (fun _ => 0))), (q26, .inl (cA 0, 160, .inl (fun _ => 0))), (q34, .inl (cA 1, 40, .inr (.inl (fun _ => 0)))), (q42, .inl (cA 1, 40, .inr (.inl (fun _ => 0)))), (q50, .inl (cA 1, 9, .inr (.inl (fun _ => 0)))), (q58, .inl (cA 1, 40, .inr (.inl (fun _ => 0)))), (q66, .inl (cA 0, 40, .inl (fun _ => 0))), (q74, .inl (cA 0, 40, .inl (fun _ => 0))), (q82, .inl (cA 0, 40, .inl (fun _ => 0))), (q90, .inl (cA 0, 40, .inl (fun _ => 0)))] H _ := h
  refine lv_aload_n hx hb dX2_init_95 rfl (lv_at hl 0 rfl) ?_
  refine lv_iconst (v := 0) hx hb dX2_init_96 (by decide) ?_
  refine n_put X.1 h 0 2 rfl rfl inX2_init_X2 tyX2 tyX2_ok nmX2 11 (by decide) (by decide +kernel) rfl rfl rfl rfl (Nat.le_of_ble_eq_true rfl) dX2_init_97 (fun H locs h => ?_)
  have h : gH D A s.heap [(h0, .inr (2, [.ref q8, .ref q17, .ref q26, .ref q34, .ref q42, .ref q50, .ref q58, .ref q66, .ref q74, .ref q82, .ref q90, .int 0, .long 0])), (q8, .inl (cA 0, 160, .inl (fun _ => 0))), (q17, .inl (cA 0, 160, .inl (fun _ => 0))), (q26, .inl (cA 0, 160, .inl (fun _ => 0))), (q34, .inl (cA 1, 40, .inr (.inl (fun _ => 0)))), (q42, .inl (cA 1, 40, .inr (.inl (fun _ => 0)))), (q50, .inl (cA 1, 9, .inr (.inl (fun _ => 0)))), (q58, .inl (cA 1, 40, .inr (.inl (fun _ => 0)))), (q66, .inl (cA 0, 40, .inl (fun _ => 0))), (q74, .inl (cA 0, 40, .inl (fun _ => 0))), (q82, .inl (cA 0, 40, .inl (fun _ => 0))), (q90, .inl (cA 0, 40, .inl (fun _ => 0)))] H _ := h
  refine lv_aload_n hx hb dX2_init_100 rfl (lv_at hl 0 rfl) ?_
  refine lv_lconst (v := 0) hx hb dX2_init_101 (by decide) ?_
  refine n_put X.1 h 0 2 rfl rfl inX2_init_X2 tyX2 tyX2_ok nmX2 12 (by decide) (by decide +kernel) rfl rfl rfl rfl (Nat.le_of_ble_eq_true rfl) dX2_init_102 (fun H locs h => ?_)
  have h : gH D A s.heap [(h0, .inr (2, [.ref q8, .ref q17, .ref q26, .ref q34, .ref q42, .ref q50, .ref q58, .ref q66, .ref q74, .ref q82, .ref q90, .int 0, .long 0])), (q8, .inl (cA 0, 160, .inl (fun _ => 0))), (q17, .inl (cA 0, 160, .inl (fun _ => 0))), (q26, .inl (cA 0, 160, .inl (fun _ => 0))), (q34, .inl (cA 1, 40, .inr (.inl (fun _ => 0)))), (q42, .inl (cA 1, 40, .inr (.inl (fun _ => 0)))), (q50, .inl (cA 1, 9, .inr (.inl (fun _ => 0)))), (q58, .inl (cA 1, 40, .inr (.inl (fun _ => 0)))), (q66, .inl (cA 0, 40, .inl (fun _ => 0))), (q74, .inl (cA 0, 40, .inl (fun _ => 0))), (q82, .inl (cA 0, 40, .inl (fun _ => 0))), (q90, .inl (cA 0, 40, .inl (fun _ => 0)))] H _ := h
  have h : gH D A s.heap (kwX2 cA h0 (fun j => match j with | 1 => q8 | 2 => q17 | 3 => q26 | 4 => q34 | 5 => q42 | 6 => q50 | 7 => q58 | 8 => q66 | 9 => q74 | 10 => q82 | 11 => q90 | _ => 0)) H _ := ⟨h.1.sub [0, 1, 2, 3, 4, 5, 6, 7, 8, 9, 10, 11] rfl, h.2.1.sub [0, 1, 2, 3, 4, 5, 6, 7, 8, 9, 10, 11] (by decide) rfl, h.2.2⟩
  exact hret _ _ _ _ ls h dX2_init_105
def rmX0_init : Room := { frames := 1, cells := 5, slots := 168, locals := 12 }
theorem inX0_init_X0 : ∀ w ∈ wsX00, w ∈ wsX0_init := fun w h => List.mem_cons_of_mem _ (List.mem_append_right _ h)
def kwX0 (cA : Nat → ClassId) (h0 : Nat) (u : Nat → Nat) : va_W := [(h0, .inr (0, [.ref (u 1), .ref (u 2), .ref (u 3), .ref (u 4), .ref (u 5), .int 0, .int 0, .int 0, .int 0])), ((u 1), .inl (cA 0, 24, .inl (fun _ => 0))), ((u 2), .inl (cA 0, 24, .inl (fun _ => 0))), ((u 3), .inl (cA 0, 40, .inl (fun _ => 0))), ((u 4), .inl (cA 0, 40, .inl (fun _ => 0))), ((u 5), .inl (cA 0, 40, .inl (fun _ => 0)))]
set_option maxHeartbeats 4000000 in
set_option maxRecDepth 100000 in
theorem kX0_init (l : Launch) (D : va_G) (cA : Nat → ClassId) (h0 : Nat) : kM l D cA yX0_init wsX0_init rmX0_init [.ref h0] [(h0, .inr (0, [.null, .null, .null, .null, .null, .int 0, .int 0, .int 0, .int 0]))] (kwX0 cA h0) 5 168 := by
  refine k_enter (cc := cX0_init) (maxL := 1) (own := RX0) (by decide) rfl rfl rfl (Nat.le_of_ble_eq_true rfl) ?_
  intro p e s m args below meth c A X hret h ls hl
  obtain ⟨⟨hx, hb, hml, hown, hts, hK, hA⟩, hN, hin⟩ := id X
  have hl : lv_has ls 1 [(0, .ref h0)] := hl
  refine lv_aload_n hx hb dX0_init_0 rfl (lv_at hl 0 rfl) ?_
  refine n_obj X.1 (by decide +kernel) (by decide +kernel) (by decide +kernel) hl.1 (Nat.le_of_ble_eq_true rfl) (Nat.le_of_ble_eq_true rfl) dX0_init_1 ?_
  refine lv_aload_n hx hb dX0_init_4 rfl (lv_at hl 0 rfl) ?_
  refine lv_bipush (v := 24) hx hb dX0_init_5 (by decide) ?_
  refine n_newI X.1 h (by decide +kernel) (by decide) (N := 24) (by decide) (by decide +kernel) (Nat.le_of_ble_eq_true rfl) (Nat.le_of_ble_eq_true rfl) dX0_init_7 (fun q7 H h => ?_)
  have h : gH D A s.heap [(h0, .inr (0, [.null, .null, .null, .null, .null, .int 0, .int 0, .int 0, .int 0])), (q7, .inl (cA 0, 24, .inl (fun _ => 0)))] H _ := h
  refine W.widen (k := 1) (n := 24) (Nat.le_refl _) (Nat.le_refl _) ?_
  refine n_putF X h 0 0 rfl rfl inX0_init_X0 tyX0 tyX0_ok nmX0 0 (by decide) (by decide +kernel) rfl rfl rfl rfl (Nat.le_of_ble_eq_true rfl) dX0_init_9 (fun H locs h => ?_)
  have h : gH D A s.heap [(h0, .inr (0, [.ref q7, .null, .null, .null, .null, .int 0, .int 0, .int 0, .int 0])), (q7, .inl (cA 0, 24, .inl (fun _ => 0)))] H _ := h
  refine lv_aload_n hx hb dX0_init_12 rfl (lv_at hl 0 rfl) ?_
  refine lv_bipush (v := 24) hx hb dX0_init_13 (by decide) ?_
  refine n_newI X.1 h (by decide +kernel) (by decide) (N := 24) (by decide) (by decide +kernel) (Nat.le_of_ble_eq_true rfl) (Nat.le_of_ble_eq_true rfl) dX0_init_15 (fun q15 H h => ?_)
  have h : gH D A s.heap [(h0, .inr (0, [.ref q7, .null, .null, .null, .null, .int 0, .int 0, .int 0, .int 0])), (q7, .inl (cA 0, 24, .inl (fun _ => 0))), (q15, .inl (cA 0, 24, .inl (fun _ => 0)))] H _ := h
  refine W.widen (k := 2) (n := 48) (Nat.le_refl _) (Nat.le_refl _) ?_
  refine n_putF X h 0 0 rfl rfl inX0_init_X0 tyX0 tyX0_ok nmX0 1 (by decide) (by decide +kernel) rfl rfl rfl rfl (Nat.le_of_ble_eq_true rfl) dX0_init_17 (fun H locs h => ?_)
  have h : gH D A s.heap [(h0, .inr (0, [.ref q7, .ref q15, .null, .null, .null, .int 0, .int 0, .int 0, .int 0])), (q7, .inl (cA 0, 24, .inl (fun _ => 0))), (q15, .inl (cA 0, 24, .inl (fun _ => 0)))] H _ := h
  refine lv_aload_n hx hb dX0_init_20 rfl (lv_at hl 0 rfl) ?_
  refine lv_bipush (v := 40) hx hb dX0_init_21 (by decide) ?_
  refine n_newI X.1 h (by decide +kernel) (by decide) (N := 40) (by decide) (by decide +kernel) (Nat.le_of_ble_eq_true rfl) (Nat.le_of_ble_eq_true rfl) dX0_init_23 (fun q23 H h => ?_)
  have h : gH D A s.heap [(h0, .inr (0, [.ref q7, .ref q15, .null, .null, .null, .int 0, .int 0, .int 0, .int 0])), (q7, .inl (cA 0, 24, .inl (fun _ => 0))), (q15, .inl (cA 0, 24, .inl (fun _ => 0))), (q23, .inl (cA 0, 40, .inl (fun _ => 0)))] H _ := h
  refine W.widen (k := 3) (n := 88) (Nat.le_refl _) (Nat.le_refl _) ?_
  refine n_putF X h 0 0 rfl rfl inX0_init_X0 tyX0 tyX0_ok nmX0 2 (by decide) (by decide +kernel) rfl rfl rfl rfl (Nat.le_of_ble_eq_true rfl) dX0_init_25 (fun H locs h => ?_)
  have h : gH D A s.heap [(h0, .inr (0, [.ref q7, .ref q15, .ref q23, .null, .null, .int 0, .int 0, .int 0, .int 0])), (q7, .inl (cA 0, 24, .inl (fun _ => 0))), (q15, .inl (cA 0, 24, .inl (fun _ => 0))), (q23, .inl (cA 0, 40, .inl (fun _ => 0)))] H _ := h
  refine lv_aload_n hx hb dX0_init_28 rfl (lv_at hl 0 rfl) ?_
  refine lv_bipush (v := 40) hx hb dX0_init_29 (by decide) ?_
  refine n_newI X.1 h (by decide +kernel) (by decide) (N := 40) (by decide) (by decide +kernel) (Nat.le_of_ble_eq_true rfl) (Nat.le_of_ble_eq_true rfl) dX0_init_31 (fun q31 H h => ?_)
  have h : gH D A s.heap [(h0, .inr (0, [.ref q7, .ref q15, .ref q23, .null, .null, .int 0, .int 0, .int 0, .int 0])), (q7, .inl (cA 0, 24, .inl (fun _ => 0))), (q15, .inl (cA 0, 24, .inl (fun _ => 0))), (q23, .inl (cA 0, 40, .inl (fun _ => 0))), (q31, .inl (cA 0, 40, .inl (fun _ => 0)))] H _ := h
  refine W.widen (k := 4) (n := 128) (Nat.le_refl _) (Nat.le_refl _) ?_
  refine n_putF X h 0 0 rfl rfl inX0_init_X0 tyX0 tyX0_ok nmX0 3 (by decide) (by decide +kernel) rfl rfl rfl rfl (Nat.le_of_ble_eq_true rfl) dX0_init_33 (fun H locs h => ?_)
  have h : gH D A s.heap [(h0, .inr (0, [.ref q7, .ref q15, .ref q23, .ref q31, .null, .int 0, .int 0, .int 0, .int 0])), (q7, .inl (cA 0, 24, .inl (fun _ => 0))), (q15, .inl (cA 0, 24, .inl (fun _ => 0))), (q23, .inl (cA 0, 40, .inl (fun _ => 0))), (q31, .inl (cA 0, 40, .inl (fun _ => 0)))] H _ := h
  refine lv_aload_n hx hb dX0_init_36 rfl (lv_at hl 0 rfl) ?_
  refine lv_bipush (v := 40) hx hb dX0_init_37 (by decide) ?_
  refine n_newI X.1 h (by decide +kernel) (by decide) (N := 40) (by decide) (by decide +kernel) (Nat.le_of_ble_eq_true rfl) (Nat.le_of_ble_eq_true rfl) dX0_init_39 (fun q39 H h => ?_)
  have h : gH D A s.heap [(h0, .inr (0, [.ref q7, .ref q15, .ref q23, .ref q31, .null, .int 0, .int 0, .int 0, .int 0])), (q7, .inl (cA 0, 24, .inl (fun _ => 0))), (q15, .inl (cA 0, 24, .inl (fun _ => 0))), (q23, .inl (cA 0, 40, .inl (fun _ => 0))), (q31, .inl (cA 0, 40, .inl (fun _ => 0))), (q39, .inl (cA 0, 40, .inl (fun _ => 0)))] H _ := h
  refine W.widen (k := 5) (n := 168) (Nat.le_refl _) (Nat.le_refl _) ?_
  refine n_putF X h 0 0 rfl rfl inX0_init_X0 tyX0 tyX0_ok nmX0 4 (by decide) (by decide +kernel) rfl rfl rfl rfl (Nat.le_of_ble_eq_true rfl) dX0_init_41 (fun H locs h => ?_)
  have h : gH D A s.heap [(h0, .inr (0, [.ref q7, .ref q15, .ref q23, .ref q31, .ref q39, .int 0, .int 0, .int 0, .int 0])), (q7, .inl (cA 0, 24, .inl (fun _ => 0))), (q15, .inl (cA 0, 24, .inl (fun _ => 0))), (q23, .inl (cA 0, 40, .inl (fun _ => 0))), (q31, .inl (cA 0, 40, .inl (fun _ => 0))), (q39, .inl (cA 0, 40, .inl (fun _ => 0)))] H _ := h
  refine lv_aload_n hx hb dX0_init_44 rfl (lv_at hl 0 rfl) ?_
  refine lv_iconst (v := 0) hx hb dX0_init_45 (by decide) ?_
  refine n_put X.1 h 0 0 rfl rfl inX0_init_X0 tyX0 tyX0_ok nmX0 5 (by decide) (by decide +kernel) rfl rfl rfl rfl (Nat.le_of_ble_eq_true rfl) dX0_init_46 (fun H locs h => ?_)
  have h : gH D A s.heap [(h0, .inr (0, [.ref q7, .ref q15, .ref q23, .ref q31, .ref q39, .int 0, .int 0, .int 0, .int 0])), (q7, .inl (cA 0, 24, .inl (fun _ => 0))), (q15, .inl (cA 0, 24, .inl (fun _ => 0))), (q23, .inl (cA 0, 40, .inl (fun _ => 0))), (q31, .inl (cA 0, 40, .inl (fun _ => 0))), (q39, .inl (cA 0, 40, .inl (fun _ => 0)))] H _ := h
  refine lv_aload_n hx hb dX0_init_49 rfl (lv_at hl 0 rfl) ?_
  refine lv_iconst (v := 0) hx hb dX0_init_50 (by decide) ?_
  refine n_put X.1 h 0 0 rfl rfl inX0_init_X0 tyX0 tyX0_ok nmX0 6 (by decide) (by decide +kernel) rfl rfl rfl rfl (Nat.le_of_ble_eq_true rfl) dX0_init_51 (fun H locs h => ?_)
  have h : gH D A s.heap [(h0, .inr (0, [.ref q7, .ref q15, .ref q23, .ref q31, .ref q39, .int 0, .int 0, .int 0, .int 0])), (q7, .inl (cA 0, 24, .inl (fun _ => 0))), (q15, .inl (cA 0, 24, .inl (fun _ => 0))), (q23, .inl (cA 0, 40, .inl (fun _ => 0))), (q31, .inl (cA 0, 40, .inl (fun _ => 0))), (q39, .inl (cA 0, 40, .inl (fun _ => 0)))] H _ := h
  refine lv_aload_n hx hb dX0_init_54 rfl (lv_at hl 0 rfl) ?_
  refine lv_iconst (v := 0) hx hb dX0_init_55 (by decide) ?_
  refine n_put X.1 h 0 0 rfl rfl inX0_init_X0 tyX0 tyX0_ok nmX0 7 (by decide) (by decide +kernel) rfl rfl rfl rfl (Nat.le_of_ble_eq_true rfl) dX0_init_56 (fun H locs h => ?_)
  have h : gH D A s.heap [(h0, .inr (0, [.ref q7, .ref q15, .ref q23, .ref q31, .ref q39, .int 0, .int 0, .int 0, .int 0])), (q7, .inl (cA 0, 24, .inl (fun _ => 0))), (q15, .inl (cA 0, 24, .inl (fun _ => 0))), (q23, .inl (cA 0, 40, .inl (fun _ => 0))), (q31, .inl (cA 0, 40, .inl (fun _ => 0))), (q39, .inl (cA 0, 40, .inl (fun _ => 0)))] H _ := h
  refine lv_aload_n hx hb dX0_init_59 rfl (lv_at hl 0 rfl) ?_
  refine lv_iconst (v := 0) hx hb dX0_init_60 (by decide) ?_
  refine n_put X.1 h 0 0 rfl rfl inX0_init_X0 tyX0 tyX0_ok nmX0 8 (by decide) (by decide +kernel) rfl rfl rfl rfl (Nat.le_of_ble_eq_true rfl) dX0_init_61 (fun H locs h => ?_)
  have h : gH D A s.heap [(h0, .inr (0, [.ref q7, .ref q15, .ref q23, .ref q31, .ref q39, .int 0, .int 0, .int 0, .int 0])), (q7, .inl (cA 0, 24, .inl (fun _ => 0))), (q15, .inl (cA 0, 24, .inl (fun _ => 0))), (q23, .inl (cA 0, 40, .inl (fun _ => 0))), (q31, .inl (cA 0, 40, .inl (fun _ => 0))), (q39, .inl (cA 0, 40, .inl (fun _ => 0)))] H _ := h
  have h : gH D A s.heap (kwX0 cA h0 (fun j => match j with | 1 => q7 | 2 => q15 | 3 => q23 | 4 => q31 | 5 => q39 | _ => 0)) H _ := ⟨h.1.sub [0, 1, 2, 3, 4, 5] rfl, h.2.1.sub [0, 1, 2, 3, 4, 5] (by decide) rfl, h.2.2⟩
  exact hret _ _ _ _ ls h dX0_init_64
def rmX1_init : Room := { frames := 1, cells := 0, slots := 0, locals := 12 }
theorem inX1_init_X1 : ∀ w ∈ wsX10, w ∈ wsX1_init := fun w h => List.mem_cons_of_mem _ (List.mem_append_right _ h)
def kwX1 (cA : Nat → ClassId) (h0 : Nat) (a1 a2 : Nat) (u : Nat → Nat) : va_W := [(h0, .inr (1, [.ref a1, .ref a2, .int (-1), .int (-1), .int (-1), .int (-1), .int 0, .int 0, .int 0]))]
set_option maxHeartbeats 4000000 in
set_option maxRecDepth 100000 in
theorem kX1_init (l : Launch) (D : va_G) (cA : Nat → ClassId) (h0 : Nat) (a1 a2 : Nat) : kM l D cA yX1_init wsX1_init rmX1_init [.ref h0, .ref a1, .ref a2] [(h0, .inr (1, [.null, .null, .int 0, .int 0, .int 0, .int 0, .int 0, .int 0, .int 0]))] (kwX1 cA h0 a1 a2) 0 0 := by
  refine k_enter (cc := cX1_init) (maxL := 3) (own := RX1) (by decide) rfl rfl rfl (Nat.le_of_ble_eq_true rfl) ?_
  intro p e s m args below meth c A X hret h ls hl
  obtain ⟨⟨hx, hb, hml, hown, hts, hK, hA⟩, hN, hin⟩ := id X
  have hl : lv_has ls 3 [(0, .ref h0), (1, .ref a1), (2, .ref a2)] := hl
  refine lv_aload_n hx hb dX1_init_0 rfl (lv_at hl 0 rfl) ?_
  refine n_obj X.1 (by decide +kernel) (by decide +kernel) (by decide +kernel) hl.1 (Nat.le_of_ble_eq_true rfl) (Nat.le_of_ble_eq_true rfl) dX1_init_1 ?_
  refine lv_aload_n hx hb dX1_init_4 rfl (lv_at hl 0 rfl) ?_
  refine lv_iconst (v := (-1)) hx hb dX1_init_5 (by decide) ?_
  refine n_put X.1 h 0 1 rfl rfl inX1_init_X1 tyX1 tyX1_ok nmX1 2 (by decide) (by decide +kernel) rfl rfl rfl rfl (Nat.le_of_ble_eq_true rfl) dX1_init_6 (fun H locs h => ?_)
  have h : gH D A s.heap [(h0, .inr (1, [.null, .null, .int (-1), .int 0, .int 0, .int 0, .int 0, .int 0, .int 0]))] H _ := h
  refine lv_aload_n hx hb dX1_init_9 rfl (lv_at hl 0 rfl) ?_
  refine lv_iconst (v := (-1)) hx hb dX1_init_10 (by decide) ?_
  refine n_put X.1 h 0 1 rfl rfl inX1_init_X1 tyX1 tyX1_ok nmX1 3 (by decide) (by decide +kernel) rfl rfl rfl rfl (Nat.le_of_ble_eq_true rfl) dX1_init_11 (fun H locs h => ?_)
  have h : gH D A s.heap [(h0, .inr (1, [.null, .null, .int (-1), .int (-1), .int 0, .int 0, .int 0, .int 0, .int 0]))] H _ := h
  refine lv_aload_n hx hb dX1_init_14 rfl (lv_at hl 0 rfl) ?_
  refine lv_iconst (v := (-1)) hx hb dX1_init_15 (by decide) ?_
  refine n_put X.1 h 0 1 rfl rfl inX1_init_X1 tyX1 tyX1_ok nmX1 4 (by decide) (by decide +kernel) rfl rfl rfl rfl (Nat.le_of_ble_eq_true rfl) dX1_init_16 (fun H locs h => ?_)
  have h : gH D A s.heap [(h0, .inr (1, [.null, .null, .int (-1), .int (-1), .int (-1), .int 0, .int 0, .int 0, .int 0]))] H _ := h
  refine lv_aload_n hx hb dX1_init_19 rfl (lv_at hl 0 rfl) ?_
  refine lv_iconst (v := (-1)) hx hb dX1_init_20 (by decide) ?_
  refine n_put X.1 h 0 1 rfl rfl inX1_init_X1 tyX1 tyX1_ok nmX1 5 (by decide) (by decide +kernel) rfl rfl rfl rfl (Nat.le_of_ble_eq_true rfl) dX1_init_21 (fun H locs h => ?_)
  have h : gH D A s.heap [(h0, .inr (1, [.null, .null, .int (-1), .int (-1), .int (-1), .int (-1), .int 0, .int 0, .int 0]))] H _ := h
  refine lv_aload_n hx hb dX1_init_24 rfl (lv_at hl 0 rfl) ?_
  refine lv_iconst (v := 0) hx hb dX1_init_25 (by decide) ?_
  refine n_put X.1 h 0 1 rfl rfl inX1_init_X1 tyX1 tyX1_ok nmX1 6 (by decide) (by decide +kernel) rfl rfl rfl rfl (Nat.le_of_ble_eq_true rfl) dX1_init_26 (fun H locs h => ?_)
  have h : gH D A s.heap [(h0, .inr (1, [.null, .null, .int (-1), .int (-1), .int (-1), .int (-1), .int 0, .int 0, .int 0]))] H _ := h
  refine lv_aload_n hx hb dX1_init_29 rfl (lv_at hl 0 rfl) ?_
  refine lv_iconst (v := 0) hx hb dX1_init_30 (by decide) ?_
  refine n_put X.1 h 0 1 rfl rfl inX1_init_X1 tyX1 tyX1_ok nmX1 7 (by decide) (by decide +kernel) rfl rfl rfl rfl (Nat.le_of_ble_eq_true rfl) dX1_init_31 (fun H locs h => ?_)
  have h : gH D A s.heap [(h0, .inr (1, [.null, .null, .int (-1), .int (-1), .int (-1), .int (-1), .int 0, .int 0, .int 0]))] H _ := h
  refine lv_aload_n hx hb dX1_init_34 rfl (lv_at hl 0 rfl) ?_
  refine lv_iconst (v := 0) hx hb dX1_init_35 (by decide) ?_
  refine n_put X.1 h 0 1 rfl rfl inX1_init_X1 tyX1 tyX1_ok nmX1 8 (by decide) (by decide +kernel) rfl rfl rfl rfl (Nat.le_of_ble_eq_true rfl) dX1_init_36 (fun H locs h => ?_)
  have h : gH D A s.heap [(h0, .inr (1, [.null, .null, .int (-1), .int (-1), .int (-1), .int (-1), .int 0, .int 0, .int 0]))] H _ := h
  refine lv_aload_n hx hb dX1_init_39 rfl (lv_at hl 0 rfl) ?_
  refine lv_aload_n hx hb dX1_init_40 rfl (lv_at hl 1 rfl) ?_
  refine n_putF X h 0 1 rfl rfl inX1_init_X1 tyX1 tyX1_ok nmX1 0 (by decide) (by decide +kernel) rfl rfl rfl rfl (Nat.le_of_ble_eq_true rfl) dX1_init_41 (fun H locs h => ?_)
  have h : gH D A s.heap [(h0, .inr (1, [.ref a1, .null, .int (-1), .int (-1), .int (-1), .int (-1), .int 0, .int 0, .int 0]))] H _ := h
  refine lv_aload_n hx hb dX1_init_44 rfl (lv_at hl 0 rfl) ?_
  refine lv_aload_n hx hb dX1_init_45 rfl (lv_at hl 2 rfl) ?_
  refine n_putF X h 0 1 rfl rfl inX1_init_X1 tyX1 tyX1_ok nmX1 1 (by decide) (by decide +kernel) rfl rfl rfl rfl (Nat.le_of_ble_eq_true rfl) dX1_init_46 (fun H locs h => ?_)
  have h : gH D A s.heap [(h0, .inr (1, [.ref a1, .ref a2, .int (-1), .int (-1), .int (-1), .int (-1), .int 0, .int 0, .int 0]))] H _ := h
  have h : gH D A s.heap (kwX1 cA h0 a1 a2 (fun j => match j with  | _ => 0)) H _ := ⟨h.1.sub [0] rfl, h.2.1.sub [0] (by decide) rfl, h.2.2⟩
  exact hret _ _ _ _ ls h dX1_init_49
end KK
