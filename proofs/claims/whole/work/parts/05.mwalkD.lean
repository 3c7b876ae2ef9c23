section KM
variable {p : Program} {l : Launch} {e : Env} {s : State} {m : MethodId} {args : Array Value} {below : List Frame} {meth : Method} {c : Code} {Z : State → Prop} {D : va_G} {cA : Nat → ClassId} {A : Nat → Prop} {ad : Nat → Nat}
def rmX7_pairs : Room := { frames := 6, cells := 0, slots := 0, locals := 148 }
theorem inX7_pairs : ∀ w ∈ wsX70, w ∈ wsX7_pairs := fun w h => List.mem_cons_of_mem _ (List.mem_append_right _ h)
set_option maxHeartbeats 4000000 in
set_option maxRecDepth 100000 in
theorem qX7_pairs (l : Launch) (D : va_G) (cA : Nat → ClassId) (n : Nat) (x1 : Int32) (x2 : Int32) (x3 : Int32) (x4 : Int32) (x5 : Int32) : mMi l D cA yX7_pairs wsX7_pairs rmX7_pairs (fun ad => [.ref (ad 0), .int x1, .int x2, .int x3, .int x4, .int x5]) (wpX7_pairs n x1 x2 x3 x4 x5) := by
  intro ad sz M Q hw
  unfold wpX7_pairs at hw
  refine m_enter (cc := cX7_pairs) (maxL := 6) (ret := some .int) (own := RX7) (by decide) rfl rfl (Nat.le_of_ble_eq_true rfl) ?_
  intro p e s m args below meth c hsz X hr hlocks h ls hl
  have hret := @m_iret p l e (headSpec wsX7_pairs rmX7_pairs).room s m args below meth c cX7_pairs D cA ad (va_A (mws cA ad M) sz) Q X.1 X.2.1 hr hlocks X.2.2.2.2.2.1
  obtain ⟨hx, hb, hml, hown, hts, hK, hA⟩ := id X
  have hl : lv_has ls 6 [(0, .ref (ad 0)), (1, .int x1), (2, .int x2), (3, .int x3), (4, .int x4), (5, .int x5)] := hl
  refine lv_aload_n hx hb dX7_pairs_0 rfl (lv_at hl 0 rfl) ?_
  refine lv_iconst (v := 0) hx hb dX7_pairs_1 (by decide) ?_
  refine m_put X inX7_pairs h 0 (by decide) (by decide +kernel) rfl rfl rfl rfl dX7_pairs_2 (fun M2 eM2 H locs h => ?_)
  have hw := hw M2 eM2
  refine lv_aload_n hx hb dX7_pairs_5 rfl (lv_at hl 0 rfl) ?_
  refine lv_iload_n hx hb dX7_pairs_6 rfl (lv_at hl 1 rfl) ?_
  refine m_calli (n := 1) X h (qX7_isPrint l D cA n x1) gX7_pairs_X7_isPrint hw hl.1 dX7_pairs_7 rfl rfl rfl (by decide +kernel) ⟨Nat.le_of_ble_eq_true rfl, Nat.le_of_ble_eq_true rfl⟩ rfl rfl (Nat.le_of_ble_eq_true rfl) (fun r7 M7 H locs hw h => ?_)
  refine lv_if_eq (tgt := 63) hx hb dX7_pairs_10 (by decide) (fun c10 => ?_) (fun c10 => ?_)
  · have hw := hw.1 c10
    refine lv_iconst (v := (-1)) hx hb dX7_pairs_63 (by decide) ?_
    exact hret (-1) M7 _ _ _ ls hw h dX7_pairs_64
  · have hw := hw.2 c10
    refine lv_aload_n hx hb dX7_pairs_13 rfl (lv_at hl 0 rfl) ?_
    refine lv_iload_n hx hb dX7_pairs_14 rfl (lv_at hl 2 rfl) ?_
    refine m_calli (n := 1) X h (qX7_isPrint l D cA n x2) gX7_pairs_X7_isPrint hw hl.1 dX7_pairs_15 rfl rfl rfl (by decide +kernel) ⟨Nat.le_of_ble_eq_true rfl, Nat.le_of_ble_eq_true rfl⟩ rfl rfl (Nat.le_of_ble_eq_true rfl) (fun r15 M15 H locs hw h => ?_)
    refine lv_if_eq (tgt := 63) hx hb dX7_pairs_18 (by decide) (fun c18 => ?_) (fun c18 => ?_)
    · have hw := hw.1 c18
      refine lv_iconst (v := (-1)) hx hb dX7_pairs_63 (by decide) ?_
      exact hret (-1) M15 _ _ _ ls hw h dX7_pairs_64
    · have hw := hw.2 c18
      refine lv_iload_n hx hb dX7_pairs_21 rfl (lv_at hl 3 rfl) ?_
      refine lv_i2l hx hb dX7_pairs_22 rfl ?_
      refine lv_lconst (v := 0) hx hb dX7_pairs_23 (by decide) ?_
      refine lv_ldc2 (v := 3) hx hb hown (hts (.constantLong RX7 111 (3)) (by decide +kernel)) dX7_pairs_24 ?_
      refine m_callS (n := 3) X h (qX7_in l D cA n (x3.toInt64) 0 3) gX7_pairs_X7_in hw hl.1 dX7_pairs_27 rfl rfl rfl (by decide +kernel) ⟨Nat.le_of_ble_eq_true rfl, Nat.le_of_ble_eq_true rfl⟩ rfl rfl (Nat.le_of_ble_eq_true rfl) (fun r27 M27 H locs hw h => ?_)
      refine lv_if_eq (tgt := 63) hx hb dX7_pairs_30 (by decide) (fun c30 => ?_) (fun c30 => ?_)
      · have hw := hw.1 c30
        refine lv_iconst (v := (-1)) hx hb dX7_pairs_63 (by decide) ?_
        exact hret (-1) M27 _ _ _ ls hw h dX7_pairs_64
      · have hw := hw.2 c30
        refine lv_iload hx hb dX7_pairs_33 (lv_at hl 4 rfl) ?_
        refine lv_i2l hx hb dX7_pairs_35 rfl ?_
        refine lv_ldc2 (v := (-8)) hx hb hown (hts (.constantLong RX7 121 (-8)) (by decide +kernel)) dX7_pairs_36 ?_
        refine lv_ldc2 (v := 8) hx hb hown (hts (.constantLong RX7 123 (8)) (by decide +kernel)) dX7_pairs_39 ?_
        refine m_callS (n := 3) X h (qX7_in l D cA n (x4.toInt64) (-8) 8) gX7_pairs_X7_in hw hl.1 dX7_pairs_42 rfl rfl rfl (by decide +kernel) ⟨Nat.le_of_ble_eq_true rfl, Nat.le_of_ble_eq_true rfl⟩ rfl rfl (Nat.le_of_ble_eq_true rfl) (fun r42 M42 H locs hw h => ?_)
        refine lv_if_eq (tgt := 63) hx hb dX7_pairs_45 (by decide) (fun c45 => ?_) (fun c45 => ?_)
        · have hw := hw.1 c45
          refine lv_iconst (v := (-1)) hx hb dX7_pairs_63 (by decide) ?_
          exact hret (-1) M42 _ _ _ ls hw h dX7_pairs_64
        · have hw := hw.2 c45
          refine lv_iload hx hb dX7_pairs_48 (lv_at hl 5 rfl) ?_
          refine lv_i2l hx hb dX7_pairs_50 rfl ?_
          refine lv_ldc2 (v := (-8)) hx hb hown (hts (.constantLong RX7 121 (-8)) (by decide +kernel)) dX7_pairs_51 ?_
          refine lv_ldc2 (v := 8) hx hb hown (hts (.constantLong RX7 123 (8)) (by decide +kernel)) dX7_pairs_54 ?_
          refine m_callS (n := 3) X h (qX7_in l D cA n (x5.toInt64) (-8) 8) gX7_pairs_X7_in hw hl.1 dX7_pairs_57 rfl rfl rfl (by decide +kernel) ⟨Nat.le_of_ble_eq_true rfl, Nat.le_of_ble_eq_true rfl⟩ rfl rfl (Nat.le_of_ble_eq_true rfl) (fun r57 M57 H locs hw h => ?_)
          refine lv_if_ne (tgt := 65) hx hb dX7_pairs_60 (by decide) (fun c60 => ?_) (fun c60 => ?_)
          · have hw := hw.1 c60
            refine lv_aload_n hx hb dX7_pairs_65 rfl (lv_at hl 0 rfl) ?_
            refine lv_iload_n hx hb dX7_pairs_66 rfl (lv_at hl 1 rfl) ?_
            refine m_callv (n := 1) X h (qX7_findMarks l D cA n x1) gX7_pairs_X7_findMarks hw hl.1 dX7_pairs_67 rfl rfl rfl (by decide +kernel) ⟨Nat.le_of_ble_eq_true rfl, Nat.le_of_ble_eq_true rfl⟩ rfl rfl (Nat.le_of_ble_eq_true rfl) (fun M67 H locs hw h => ?_)
            refine lv_aload_n hx hb dX7_pairs_70 rfl (lv_at hl 0 rfl) ?_
            refine lv_iload_n hx hb dX7_pairs_71 rfl (lv_at hl 2 rfl) ?_
            refine m_callv (n := 1) X h (qX7_findMarks l D cA n x2) gX7_pairs_X7_findMarks hw hl.1 dX7_pairs_72 rfl rfl rfl (by decide +kernel) ⟨Nat.le_of_ble_eq_true rfl, Nat.le_of_ble_eq_true rfl⟩ rfl rfl (Nat.le_of_ble_eq_true rfl) (fun M72 H locs hw h => ?_)
            refine lv_aload_n hx hb dX7_pairs_75 rfl (lv_at hl 0 rfl) ?_
            refine lv_iload_n hx hb dX7_pairs_76 rfl (lv_at hl 1 rfl) ?_
            refine lv_iload_n hx hb dX7_pairs_77 rfl (lv_at hl 2 rfl) ?_
            refine lv_iload_n hx hb dX7_pairs_78 rfl (lv_at hl 3 rfl) ?_
            refine lv_iload hx hb dX7_pairs_79 (lv_at hl 4 rfl) ?_
            refine lv_iload hx hb dX7_pairs_81 (lv_at hl 5 rfl) ?_
            refine m_calli (n := 5) X h (qX7_agree l D cA n x1 x2 x3 x4 x5) gX7_pairs_X7_agree hw hl.1 dX7_pairs_83 rfl rfl rfl (by decide +kernel) ⟨Nat.le_of_ble_eq_true rfl, Nat.le_of_ble_eq_true rfl⟩ rfl rfl (Nat.le_of_ble_eq_true rfl) (fun r83 M83 H locs hw h => ?_)
            refine lv_pop hx hb dX7_pairs_86 rfl ?_
            refine lv_aload_n hx hb dX7_pairs_87 rfl (lv_at hl 0 rfl) ?_
            refine lv_iload_n hx hb dX7_pairs_88 rfl (lv_at hl 1 rfl) ?_
            refine lv_iload_n hx hb dX7_pairs_89 rfl (lv_at hl 2 rfl) ?_
            refine m_calli (n := 2) X h (qX7_matched l D cA n x1 x2) gX7_pairs_X7_matched hw hl.1 dX7_pairs_90 rfl rfl rfl (by decide +kernel) ⟨Nat.le_of_ble_eq_true rfl, Nat.le_of_ble_eq_true rfl⟩ rfl rfl (Nat.le_of_ble_eq_true rfl) (fun r90 M90 H locs hw h => ?_)
            exact hret r90 M90 _ _ _ ls hw h dX7_pairs_93
          · have hw := hw.2 c60
            refine lv_iconst (v := (-1)) hx hb dX7_pairs_63 (by decide) ?_
            exact hret (-1) M57 _ _ _ ls hw h dX7_pairs_64
def rmX7_findBest : Room := { frames := 3, cells := 0, slots := 0, locals := 77 }
theorem inX7_findBest : ∀ w ∈ wsX70, w ∈ wsX7_findBest := fun w h => List.mem_cons_of_mem _ (List.mem_append_right _ h)
set_option maxHeartbeats 4000000 in
set_option maxRecDepth 100000 in
theorem kX7_findBest_80 {n : Nat} {R : Int32 → mM → Prop} (X : gX p s m args meth c D cA A cX7_findBest 9 wsX7_findBest RX7) (x1 : Int32) (x2 : Int32) (x3 : Int32) (x4 : Int32) (x5 : Int32) (x6 : Int32)
    (hR : ∀ (y6 : Int32) (M : mM) (H : Heap) (locs : List Loc) (ls : Array Slot), R y6 M → mH D cA ad A s.heap M H locs → lv_has ls 9 [(0, .ref (ad 0)), (1, .int x1), (2, .int x2), (3, .int x3), (4, .int x4), (5, .int x5), (6, .int y6)] → W p l e (headSpec wsX7_findBest rmX7_findBest).room s m args below meth c H locs 0 0 Z (F0 m 37 ls [])) :
    ∀ (s0 : Int32) (M : mM) (H : Heap) (locs : List Loc) (ls : Array Slot), wpX7_findBest_80 n R x1 x2 x3 x4 x5 x6 s0 M → mH D cA ad A s.heap M H locs → lv_has ls 9 [(0, .ref (ad 0)), (1, .int x1), (2, .int x2), (3, .int x3), (4, .int x4), (5, .int x5), (6, .int x6)] → W p l e (headSpec wsX7_findBest rmX7_findBest).room s m args below meth c H locs 0 0 Z (F0 m 80 ls [.int s0]) := by
  intro s0 M H locs ls hw h hl
  unfold wpX7_findBest_80 at hw
  obtain ⟨hx, hb, hml, hown, hts, hK, hA⟩ := id X
  refine lv_istore (lv' := [(7, .int s0), (0, .ref (ad 0)), (1, .int x1), (2, .int x2), (3, .int x3), (4, .int x4), (5, .int x5), (6, .int x6)]) hx hb dX7_findBest_80 hl (by decide) rfl (fun ls hl => ?_)
  refine lv_iload hx hb dX7_findBest_82 (lv_at hl 0 rfl) ?_
  refine lv_if_eq (tgt := 147) hx hb dX7_findBest_84 (by decide) (fun c84 => ?_) (fun c84 => ?_)
  · have hw := hw.1 c84
    obtain ⟨x6_147, ex6_147⟩ : ∃ z : Int32, z = x6 + 1 := ⟨_, rfl⟩
    have hw := hw x6_147 ex6_147
    refine lv_iinc (v := x6_147) (lv' := [(6, .int x6_147), (7, .int s0), (0, .ref (ad 0)), (1, .int x1), (2, .int x2), (3, .int x3), (4, .int x4), (5, .int x5)]) hx hb dX7_findBest_147 hl (k := 7) rfl (by rw [ex6_147]; rfl) (by decide) rfl (fun ls hl => ?_)
    refine lv_goto (tgt := 37) hx hb dX7_findBest_150 (by decide) ?_
    exact hR x6_147 M _ _ ls hw h (lv_sub hl [2, 3, 4, 5, 6, 7, 0] rfl)
  · have hw := hw.2 c84
    refine lv_aload_n hx hb dX7_findBest_87 rfl (lv_at hl 1 rfl) ?_
    refine lv_iload_n hx hb dX7_findBest_88 rfl (lv_at hl 2 rfl) ?_
    refine lv_iload_n hx hb dX7_findBest_89 rfl (lv_at hl 3 rfl) ?_
    refine lv_iload hx hb dX7_findBest_90 (lv_at hl 5 rfl) ?_
    refine lv_iload hx hb dX7_findBest_92 (lv_at hl 6 rfl) ?_
    refine lv_iload hx hb dX7_findBest_94 (lv_at hl 7 rfl) ?_
    refine m_calli (n := 5) X h (qX7_agree l D cA n x1 x2 x4 x5 x6) gX7_findBest_X7_agree hw hl.1 dX7_findBest_96 rfl rfl rfl (by decide +kernel) ⟨Nat.le_of_ble_eq_true rfl, Nat.le_of_ble_eq_true rfl⟩ rfl rfl (Nat.le_of_ble_eq_true rfl) (fun r96 M96 H locs hw h => ?_)
    refine lv_aload_n hx hb dX7_findBest_99 rfl (lv_at hl 1 rfl) ?_
    refine m_get X inX7_findBest h 16 (by decide) (by decide +kernel) rfl rfl dX7_findBest_100 ?_
    refine lv_icmp_le (tgt := 147) hx hb dX7_findBest_103 (by decide) (fun c103 => ?_) (fun c103 => ?_)
    · have hw := hw.1 c103
      obtain ⟨x6_147, ex6_147⟩ : ∃ z : Int32, z = x6 + 1 := ⟨_, rfl⟩
      have hw := hw x6_147 ex6_147
      refine lv_iinc (v := x6_147) (lv' := [(6, .int x6_147), (7, .int s0), (0, .ref (ad 0)), (1, .int x1), (2, .int x2), (3, .int x3), (4, .int x4), (5, .int x5)]) hx hb dX7_findBest_147 hl (k := 7) rfl (by rw [ex6_147]; rfl) (by decide) rfl (fun ls hl => ?_)
      refine lv_goto (tgt := 37) hx hb dX7_findBest_150 (by decide) ?_
      exact hR x6_147 M96 _ _ ls hw h (lv_sub hl [2, 3, 4, 5, 6, 7, 0] rfl)
    · have hw := hw.2 c103
      refine lv_aload_n hx hb dX7_findBest_106 rfl (lv_at hl 1 rfl) ?_
      refine lv_iload_n hx hb dX7_findBest_107 rfl (lv_at hl 2 rfl) ?_
      refine lv_iload_n hx hb dX7_findBest_108 rfl (lv_at hl 3 rfl) ?_
      refine m_calli (n := 2) X h (qX7_matched l D cA n x1 x2) gX7_findBest_X7_matched hw hl.1 dX7_findBest_109 rfl rfl rfl (by decide +kernel) ⟨Nat.le_of_ble_eq_true rfl, Nat.le_of_ble_eq_true rfl⟩ rfl rfl (Nat.le_of_ble_eq_true rfl) (fun r109 M109 H locs hw h => ?_)
      refine lv_istore (lv' := [(8, .int r109), (7, .int s0), (0, .ref (ad 0)), (1, .int x1), (2, .int x2), (3, .int x3), (4, .int x4), (5, .int x5), (6, .int x6)]) hx hb dX7_findBest_112 hl (by decide) rfl (fun ls hl => ?_)
      refine lv_iload hx hb dX7_findBest_114 (lv_at hl 0 rfl) ?_
      refine lv_aload_n hx hb dX7_findBest_116 rfl (lv_at hl 2 rfl) ?_
      refine m_get X inX7_findBest h 16 (by decide) (by decide +kernel) rfl rfl dX7_findBest_117 ?_
      refine lv_icmp_le (tgt := 147) hx hb dX7_findBest_120 (by decide) (fun c120 => ?_) (fun c120 => ?_)
      · have hw := hw.1 c120
        obtain ⟨x6_147, ex6_147⟩ : ∃ z : Int32, z = x6 + 1 := ⟨_, rfl⟩
        have hw := hw x6_147 ex6_147
        refine lv_iinc (v := x6_147) (lv' := [(6, .int x6_147), (8, .int r109), (7, .int s0), (0, .ref (ad 0)), (1, .int x1), (2, .int x2), (3, .int x3), (4, .int x4), (5, .int x5)]) hx hb dX7_findBest_147 hl (k := 8) rfl (by rw [ex6_147]; rfl) (by decide) rfl (fun ls hl => ?_)
        refine lv_goto (tgt := 37) hx hb dX7_findBest_150 (by decide) ?_
        exact hR x6_147 M109 _ _ ls hw h (lv_sub hl [3, 4, 5, 6, 7, 8, 0] rfl)
      · have hw := hw.2 c120
        refine lv_aload_n hx hb dX7_findBest_123 rfl (lv_at hl 2 rfl) ?_
        refine lv_iload hx hb dX7_findBest_124 (lv_at hl 0 rfl) ?_
        refine m_put X inX7_findBest h 16 (by decide) (by decide +kernel) rfl rfl rfl rfl dX7_findBest_126 (fun M126 eM126 H locs h => ?_)
        have hw := hw M126 eM126
        refine lv_aload_n hx hb dX7_findBest_129 rfl (lv_at hl 2 rfl) ?_
        refine lv_iload hx hb dX7_findBest_130 (lv_at hl 6 rfl) ?_
        refine m_put X inX7_findBest h 17 (by decide) (by decide +kernel) rfl rfl rfl rfl dX7_findBest_132 (fun M132 eM132 H locs h => ?_)
        have hw := hw M132 eM132
        refine lv_aload_n hx hb dX7_findBest_135 rfl (lv_at hl 2 rfl) ?_
        refine lv_iload hx hb dX7_findBest_136 (lv_at hl 7 rfl) ?_
        refine m_put X inX7_findBest h 18 (by decide) (by decide +kernel) rfl rfl rfl rfl dX7_findBest_138 (fun M138 eM138 H locs h => ?_)
        have hw := hw M138 eM138
        refine lv_aload_n hx hb dX7_findBest_141 rfl (lv_at hl 2 rfl) ?_
        refine lv_iload hx hb dX7_findBest_142 (lv_at hl 8 rfl) ?_
        refine m_put X inX7_findBest h 19 (by decide) (by decide +kernel) rfl rfl rfl rfl dX7_findBest_144 (fun M144 eM144 H locs h => ?_)
        have hw := hw M144 eM144
        obtain ⟨x6_147, ex6_147⟩ : ∃ z : Int32, z = x6 + 1 := ⟨_, rfl⟩
        have hw := hw x6_147 ex6_147
        refine lv_iinc (v := x6_147) (lv' := [(6, .int x6_147), (8, .int r109), (7, .int s0), (0, .ref (ad 0)), (1, .int x1), (2, .int x2), (3, .int x3), (4, .int x4), (5, .int x5)]) hx hb dX7_findBest_147 hl (k := 8) rfl (by rw [ex6_147]; rfl) (by decide) rfl (fun ls hl => ?_)
        refine lv_goto (tgt := 37) hx hb dX7_findBest_150 (by decide) ?_
        exact hR x6_147 M144 _ _ ls hw h (lv_sub hl [3, 4, 5, 6, 7, 8, 0] rfl)
set_option maxHeartbeats 4000000 in
set_option maxRecDepth 100000 in
theorem kX7_findBest_70 {n : Nat} {R : Int32 → mM → Prop} (X : gX p s m args meth c D cA A cX7_findBest 9 wsX7_findBest RX7) (x1 : Int32) (x2 : Int32) (x3 : Int32) (x4 : Int32) (x5 : Int32) (x6 : Int32)
    (hR : ∀ (y6 : Int32) (M : mM) (H : Heap) (locs : List Loc) (ls : Array Slot), R y6 M → mH D cA ad A s.heap M H locs → lv_has ls 9 [(0, .ref (ad 0)), (1, .int x1), (2, .int x2), (3, .int x3), (4, .int x4), (5, .int x5), (6, .int y6)] → W p l e (headSpec wsX7_findBest rmX7_findBest).room s m args below meth c H locs 0 0 Z (F0 m 37 ls [])) :
    ∀ (s0 : Int32) (s1 : Int32) (M : mM) (H : Heap) (locs : List Loc) (ls : Array Slot), wpX7_findBest_70 n R x1 x2 x3 x4 x5 x6 s0 s1 M → mH D cA ad A s.heap M H locs → lv_has ls 9 [(0, .ref (ad 0)), (1, .int x1), (2, .int x2), (3, .int x3), (4, .int x4), (5, .int x5), (6, .int x6)] → W p l e (headSpec wsX7_findBest rmX7_findBest).room s m args below meth c H locs 0 0 Z (F0 m 70 ls [.int s0, .int s1]) := by
  intro s0 s1 M H locs ls hw h hl
  unfold wpX7_findBest_70 at hw
  obtain ⟨hx, hb, hml, hown, hts, hK, hA⟩ := id X
  refine lv_iadd hx hb dX7_findBest_70 ?_
  refine lv_iload_n hx hb dX7_findBest_71 rfl (lv_at hl 3 rfl) ?_
  refine lv_icmp_ne (tgt := 79) hx hb dX7_findBest_72 (by decide) (fun c72 => ?_) (fun c72 => ?_)
  · have hw := hw.1 c72
    refine lv_iconst (v := 0) hx hb dX7_findBest_79 (by decide) ?_
    exact kX7_findBest_80 X x1 x2 x3 x4 x5 x6 hR 0 M _ _ ls hw h (lv_sub hl [0, 1, 2, 3, 4, 5, 6] rfl)
  · have hw := hw.2 c72
    refine lv_iconst (v := 1) hx hb dX7_findBest_75 (by decide) ?_
    refine lv_goto (tgt := 80) hx hb dX7_findBest_76 (by decide) ?_
    exact kX7_findBest_80 X x1 x2 x3 x4 x5 x6 hR 1 M _ _ ls hw h (lv_sub hl [0, 1, 2, 3, 4, 5, 6] rfl)
set_option maxHeartbeats 4000000 in
set_option maxRecDepth 100000 in
theorem kX7_findBest_57 {n : Nat} {R : Int32 → mM → Prop} (X : gX p s m args meth c D cA A cX7_findBest 9 wsX7_findBest RX7) (x1 : Int32) (x2 : Int32) (x3 : Int32) (x4 : Int32) (x5 : Int32) (x6 : Int32)
    (hR : ∀ (y6 : Int32) (M : mM) (H : Heap) (locs : List Loc) (ls : Array Slot), R y6 M → mH D cA ad A s.heap M H locs → lv_has ls 9 [(0, .ref (ad 0)), (1, .int x1), (2, .int x2), (3, .int x3), (4, .int x4), (5, .int x5), (6, .int y6)] → W p l e (headSpec wsX7_findBest rmX7_findBest).room s m args below meth c H locs 0 0 Z (F0 m 37 ls [])) :
    ∀ (s0 : Int32) (M : mM) (H : Heap) (locs : List Loc) (ls : Array Slot), wpX7_findBest_57 n R x1 x2 x3 x4 x5 x6 s0 M → mH D cA ad A s.heap M H locs → lv_has ls 9 [(0, .ref (ad 0)), (1, .int x1), (2, .int x2), (3, .int x3), (4, .int x4), (5, .int x5), (6, .int x6)] → W p l e (headSpec wsX7_findBest rmX7_findBest).room s m args below meth c H locs 0 0 Z (F0 m 57 ls [.int s0]) := by
  intro s0 M H locs ls hw h hl
  unfold wpX7_findBest_57 at hw
  obtain ⟨hx, hb, hml, hown, hts, hK, hA⟩ := id X
  refine lv_iload hx hb dX7_findBest_57 (lv_at hl 6 rfl) ?_
  refine lv_if_ge (tgt := 68) hx hb dX7_findBest_59 (by decide) (fun c59 => ?_) (fun c59 => ?_)
  · have hw := hw.1 c59
    refine lv_iload hx hb dX7_findBest_68 (lv_at hl 6 rfl) ?_
    exact kX7_findBest_70 X x1 x2 x3 x4 x5 x6 hR x6 s0 M _ _ ls hw h (lv_sub hl [0, 1, 2, 3, 4, 5, 6] rfl)
  · have hw := hw.2 c59
    refine lv_iload hx hb dX7_findBest_62 (lv_at hl 6 rfl) ?_
    refine lv_ineg hx hb dX7_findBest_64 ?_
    refine lv_goto (tgt := 70) hx hb dX7_findBest_65 (by decide) ?_
    exact kX7_findBest_70 X x1 x2 x3 x4 x5 x6 hR (-x6) s0 M _ _ ls hw h (lv_sub hl [0, 1, 2, 3, 4, 5, 6] rfl)
set_option maxHeartbeats 4000000 in
set_option maxRecDepth 100000 in
theorem kX7_findBest_37 {n : Nat} {E153 : mM → Prop} (X : gX p s m args meth c D cA A cX7_findBest 9 wsX7_findBest RX7) (x1 : Int32) (x2 : Int32) (x3 : Int32) (x4 : Int32) (x5 : Int32)
    (hE153 : ∀ (M : mM) (H : Heap) (locs : List Loc) (ls : Array Slot), E153 M → mH D cA ad A s.heap M H locs → lv_has ls 9 [(0, .ref (ad 0)), (1, .int x1), (2, .int x2), (3, .int x3), (4, .int x4), (5, .int x5)] → W p l e (headSpec wsX7_findBest rmX7_findBest).room s m args below meth c H locs 0 0 Z (F0 m 153 ls [])) :
    ∀ (k : Nat) (x6 : Int32) (M : mM) (H : Heap) (locs : List Loc) (ls : Array Slot), wpX7_findBest_37 n E153 x1 x2 x3 x4 x5 k x6 M → mH D cA ad A s.heap M H locs → lv_has ls 9 [(0, .ref (ad 0)), (1, .int x1), (2, .int x2), (3, .int x3), (4, .int x4), (5, .int x5), (6, .int x6)] → W p l e (headSpec wsX7_findBest rmX7_findBest).room s m args below meth c H locs 0 0 Z (F0 m 37 ls []) := by
  intro k
  induction k with
  | zero => intro x6 M H locs ls hw; exact hw.elim
  | succ k ih =>
    intro x6 M H locs ls hw h hl
    rw [wpX7_findBest_37] at hw
    obtain ⟨hx, hb, hml, hown, hts, hK, hA⟩ := id X
    refine lv_iload hx hb dX7_findBest_37 (lv_at hl 6 rfl) ?_
    refine lv_bipush (v := 8) hx hb dX7_findBest_39 (by decide) ?_
    refine lv_icmp_gt (tgt := 153) hx hb dX7_findBest_41 (by decide) (fun c41 => ?_) (fun c41 => ?_)
    · have hw := hw.1 c41
      exact hE153 M _ _ ls hw h (lv_sub hl [0, 1, 2, 3, 4, 5] rfl)
    · have hw := hw.2 c41
      refine lv_iload hx hb dX7_findBest_44 (lv_at hl 5 rfl) ?_
      refine lv_if_ge (tgt := 55) hx hb dX7_findBest_46 (by decide) (fun c46 => ?_) (fun c46 => ?_)
      · have hw := hw.1 c46
        refine lv_iload hx hb dX7_findBest_55 (lv_at hl 5 rfl) ?_
        exact kX7_findBest_57 X x1 x2 x3 x4 x5 x6 ih x5 M _ _ ls hw h (lv_sub hl [0, 1, 2, 3, 4, 5, 6] rfl)
      · have hw := hw.2 c46
        refine lv_iload hx hb dX7_findBest_49 (lv_at hl 5 rfl) ?_
        refine lv_ineg hx hb dX7_findBest_51 ?_
        refine lv_goto (tgt := 57) hx hb dX7_findBest_52 (by decide) ?_
        exact kX7_findBest_57 X x1 x2 x3 x4 x5 x6 ih (-x5) M _ _ ls hw h (lv_sub hl [0, 1, 2, 3, 4, 5, 6] rfl)
set_option maxHeartbeats 4000000 in
set_option maxRecDepth 100000 in
theorem kX7_findBest_26 {n : Nat} {E159 : mM → Prop} (X : gX p s m args meth c D cA A cX7_findBest 9 wsX7_findBest RX7) (x1 : Int32) (x2 : Int32) (x3 : Int32) (x4 : Int32)
    (hE159 : ∀ (M : mM) (H : Heap) (locs : List Loc) (ls : Array Slot), E159 M → mH D cA ad A s.heap M H locs → lv_has ls 9 [(0, .ref (ad 0)), (1, .int x1), (2, .int x2), (3, .int x3), (4, .int x4)] → W p l e (headSpec wsX7_findBest rmX7_findBest).room s m args below meth c H locs 0 0 Z (F0 m 159 ls [])) :
    ∀ (k : Nat) (x5 : Int32) (M : mM) (H : Heap) (locs : List Loc) (ls : Array Slot), wpX7_findBest_26 n E159 x1 x2 x3 x4 k x5 M → mH D cA ad A s.heap M H locs → lv_has ls 9 [(0, .ref (ad 0)), (1, .int x1), (2, .int x2), (3, .int x3), (4, .int x4), (5, .int x5)] → W p l e (headSpec wsX7_findBest rmX7_findBest).room s m args below meth c H locs 0 0 Z (F0 m 26 ls []) := by
  intro k
  induction k with
  | zero => intro x5 M H locs ls hw; exact hw.elim
  | succ k ih =>
    intro x5 M H locs ls hw h hl
    rw [wpX7_findBest_26] at hw
    obtain ⟨hx, hb, hml, hown, hts, hK, hA⟩ := id X
    refine lv_iload hx hb dX7_findBest_26 (lv_at hl 5 rfl) ?_
    refine lv_bipush (v := 8) hx hb dX7_findBest_28 (by decide) ?_
    refine lv_icmp_gt (tgt := 159) hx hb dX7_findBest_30 (by decide) (fun c30 => ?_) (fun c30 => ?_)
    · have hw := hw.1 c30
      exact hE159 M _ _ ls hw h (lv_sub hl [0, 1, 2, 3, 4] rfl)
    · have hw := hw.2 c30
      refine lv_bipush (v := (-8)) hx hb dX7_findBest_33 (by decide) ?_
      refine lv_istore (lv' := [(6, .int (-8)), (0, .ref (ad 0)), (1, .int x1), (2, .int x2), (3, .int x3), (4, .int x4), (5, .int x5)]) hx hb dX7_findBest_35 hl (by decide) rfl (fun ls hl => ?_)
      refine kX7_findBest_37 X x1 x2 x3 x4 x5 (fun M_37 H locs ls hw h hl => ?_) n (-8) M _ _ ls hw h (lv_sub hl [1, 2, 3, 4, 5, 6, 0] rfl)
      obtain ⟨x5_153, ex5_153⟩ : ∃ z : Int32, z = x5 + 1 := ⟨_, rfl⟩
      have hw := hw x5_153 ex5_153
      refine lv_iinc (v := x5_153) (lv' := [(5, .int x5_153), (0, .ref (ad 0)), (1, .int x1), (2, .int x2), (3, .int x3), (4, .int x4)]) hx hb dX7_findBest_153 hl (k := 5) rfl (by rw [ex5_153]; rfl) (by decide) rfl (fun ls hl => ?_)
      refine lv_goto (tgt := 26) hx hb dX7_findBest_156 (by decide) ?_
      exact ih x5_153 M_37 _ _ ls hw h (lv_sub hl [1, 2, 3, 4, 5, 0] rfl)
set_option maxHeartbeats 4000000 in
set_option maxRecDepth 100000 in
theorem kX7_findBest_16 {n : Nat} {E165 : mM → Prop} (X : gX p s m args meth c D cA A cX7_findBest 9 wsX7_findBest RX7) (x1 : Int32) (x2 : Int32) (x3 : Int32)
    (hE165 : ∀ (M : mM) (H : Heap) (locs : List Loc) (ls : Array Slot), E165 M → mH D cA ad A s.heap M H locs → lv_has ls 9 [(0, .ref (ad 0)), (1, .int x1), (2, .int x2), (3, .int x3)] → W p l e (headSpec wsX7_findBest rmX7_findBest).room s m args below meth c H locs 0 0 Z (F0 m 165 ls [])) :
    ∀ (k : Nat) (x4 : Int32) (M : mM) (H : Heap) (locs : List Loc) (ls : Array Slot), wpX7_findBest_16 n E165 x1 x2 x3 k x4 M → mH D cA ad A s.heap M H locs → lv_has ls 9 [(0, .ref (ad 0)), (1, .int x1), (2, .int x2), (3, .int x3), (4, .int x4)] → W p l e (headSpec wsX7_findBest rmX7_findBest).room s m args below meth c H locs 0 0 Z (F0 m 16 ls []) := by
  intro k
  induction k with
  | zero => intro x4 M H locs ls hw; exact hw.elim
  | succ k ih =>
    intro x4 M H locs ls hw h hl
    rw [wpX7_findBest_16] at hw
    obtain ⟨hx, hb, hml, hown, hts, hK, hA⟩ := id X
    refine lv_iload hx hb dX7_findBest_16 (lv_at hl 4 rfl) ?_
    refine lv_iconst (v := 4) hx hb dX7_findBest_18 (by decide) ?_
    refine lv_icmp_ge (tgt := 165) hx hb dX7_findBest_19 (by decide) (fun c19 => ?_) (fun c19 => ?_)
    · have hw := hw.1 c19
      exact hE165 M _ _ ls hw h (lv_sub hl [0, 1, 2, 3] rfl)
    · have hw := hw.2 c19
      refine lv_bipush (v := (-8)) hx hb dX7_findBest_22 (by decide) ?_
      refine lv_istore (lv' := [(5, .int (-8)), (0, .ref (ad 0)), (1, .int x1), (2, .int x2), (3, .int x3), (4, .int x4)]) hx hb dX7_findBest_24 hl (by decide) rfl (fun ls hl => ?_)
      refine kX7_findBest_26 X x1 x2 x3 x4 (fun M_26 H locs ls hw h hl => ?_) n (-8) M _ _ ls hw h (lv_sub hl [1, 2, 3, 4, 5, 0] rfl)
      obtain ⟨x4_159, ex4_159⟩ : ∃ z : Int32, z = x4 + 1 := ⟨_, rfl⟩
      have hw := hw x4_159 ex4_159
      refine lv_iinc (v := x4_159) (lv' := [(4, .int x4_159), (0, .ref (ad 0)), (1, .int x1), (2, .int x2), (3, .int x3)]) hx hb dX7_findBest_159 hl (k := 4) rfl (by rw [ex4_159]; rfl) (by decide) rfl (fun ls hl => ?_)
      refine lv_goto (tgt := 16) hx hb dX7_findBest_162 (by decide) ?_
      exact ih x4_159 M_26 _ _ ls hw h (lv_sub hl [1, 2, 3, 4, 0] rfl)
set_option maxHeartbeats 4000000 in
set_option maxRecDepth 100000 in
theorem kX7_findBest_7 {n : Nat} {Q : mM → Prop} (X : gX p s m args meth c D cA A cX7_findBest 9 wsX7_findBest RX7) (x1 : Int32) (x2 : Int32)
    (hret : ∀ (M : mM) (H : Heap) (locs : List Loc) (pc : Nat) (ls : Array Slot), Q M → mH D cA ad A s.heap M H locs → decode cX7_findBest pc = .ok (.return_, 1) → W p l e (headSpec wsX7_findBest rmX7_findBest).room s m args below meth c H locs 0 0 Z (F0 m pc ls [])) :
    ∀ (k : Nat) (x3 : Int32) (M : mM) (H : Heap) (locs : List Loc) (ls : Array Slot), wpX7_findBest_7 n Q x1 x2 k x3 M → mH D cA ad A s.heap M H locs → lv_has ls 9 [(0, .ref (ad 0)), (1, .int x1), (2, .int x2), (3, .int x3)] → W p l e (headSpec wsX7_findBest rmX7_findBest).room s m args below meth c H locs 0 0 Z (F0 m 7 ls []) := by
  intro k
  induction k with
  | zero => intro x3 M H locs ls hw; exact hw.elim
  | succ k ih =>
    intro x3 M H locs ls hw h hl
    rw [wpX7_findBest_7] at hw
    obtain ⟨hx, hb, hml, hown, hts, hK, hA⟩ := id X
    refine lv_iload_n hx hb dX7_findBest_7 rfl (lv_at hl 3 rfl) ?_
    refine lv_bipush (v := 16) hx hb dX7_findBest_8 (by decide) ?_
    refine lv_icmp_gt (tgt := 171) hx hb dX7_findBest_10 (by decide) (fun c10 => ?_) (fun c10 => ?_)
    · have hw := hw.1 c10
      exact hret M _ _ _ ls hw h dX7_findBest_171
    · have hw := hw.2 c10
      refine lv_iconst (v := 0) hx hb dX7_findBest_13 (by decide) ?_
      refine lv_istore (lv' := [(4, .int 0), (0, .ref (ad 0)), (1, .int x1), (2, .int x2), (3, .int x3)]) hx hb dX7_findBest_14 hl (by decide) rfl (fun ls hl => ?_)
      refine kX7_findBest_16 X x1 x2 x3 (fun M_16 H locs ls hw h hl => ?_) n 0 M _ _ ls hw h (lv_sub hl [1, 2, 3, 4, 0] rfl)
      obtain ⟨x3_165, ex3_165⟩ : ∃ z : Int32, z = x3 + 1 := ⟨_, rfl⟩
      have hw := hw x3_165 ex3_165
      refine lv_iinc (v := x3_165) (lv' := [(3, .int x3_165), (0, .ref (ad 0)), (1, .int x1), (2, .int x2)]) hx hb dX7_findBest_165 hl (k := 3) rfl (by rw [ex3_165]; rfl) (by decide) rfl (fun ls hl => ?_)
      refine lv_goto (tgt := 7) hx hb dX7_findBest_168 (by decide) ?_
      exact ih x3_165 M_16 _ _ ls hw h (lv_sub hl [1, 2, 3, 0] rfl)
set_option maxHeartbeats 4000000 in
set_option maxRecDepth 100000 in
theorem qX7_findBest (l : Launch) (D : va_G) (cA : Nat → ClassId) (n : Nat) (x1 : Int32) (x2 : Int32) : mMv l D cA yX7_findBest wsX7_findBest rmX7_findBest (fun ad => [.ref (ad 0), .int x1, .int x2]) (wpX7_findBest n x1 x2) := by
  intro ad sz M Q hw
  unfold wpX7_findBest at hw
  refine m_enter (cc := cX7_findBest) (maxL := 9) (ret := none) (own := RX7) (by decide) rfl rfl (Nat.le_of_ble_eq_true rfl) ?_
  intro p e s m args below meth c hsz X hr hlocks h ls hl
  have hret := @m_vret p l e (headSpec wsX7_findBest rmX7_findBest).room s m args below meth c cX7_findBest D cA ad (va_A (mws cA ad M) sz) Q X.1 X.2.1 hr hlocks X.2.2.2.2.2.1
  obtain ⟨hx, hb, hml, hown, hts, hK, hA⟩ := id X
  have hl : lv_has ls 9 [(0, .ref (ad 0)), (1, .int x1), (2, .int x2)] := hl
  refine lv_aload_n hx hb dX7_findBest_0 rfl (lv_at hl 0 rfl) ?_
  refine lv_iconst (v := (-1)) hx hb dX7_findBest_1 (by decide) ?_
  refine m_put X inX7_findBest h 16 (by decide) (by decide +kernel) rfl rfl rfl rfl dX7_findBest_2 (fun M2 eM2 H locs h => ?_)
  have hw := hw M2 eM2
  refine lv_iconst (v := 0) hx hb dX7_findBest_5 (by decide) ?_
  refine lv_istore_n (lv' := [(3, .int 0), (0, .ref (ad 0)), (1, .int x1), (2, .int x2)]) hx hb dX7_findBest_6 rfl hl (by decide) rfl (fun ls hl => ?_)
  exact kX7_findBest_7 X x1 x2 hret n 0 M2 _ _ ls hw h (lv_sub hl [1, 2, 3, 0] rfl)
def rmX7_best : Room := { frames := 6, cells := 0, slots := 0, locals := 148 }
theorem inX7_best : ∀ w ∈ wsX70, w ∈ wsX7_best := fun w h => List.mem_cons_of_mem _ (List.mem_append_right _ h)
set_option maxHeartbeats 4000000 in
set_option maxRecDepth 100000 in
theorem qX7_best (l : Launch) (D : va_G) (cA : Nat → ClassId) (n : Nat) (x1 : Int32) (x2 : Int32) (x3 : Int32) : mMi l D cA yX7_best wsX7_best rmX7_best (fun ad => [.ref (ad 0), .int x1, .int x2, .int x3]) (wpX7_best n x1 x2 x3) := by
  intro ad sz M Q hw
  unfold wpX7_best at hw
  refine m_enter (cc := cX7_best) (maxL := 4) (ret := some .int) (own := RX7) (by decide) rfl rfl (Nat.le_of_ble_eq_true rfl) ?_
  intro p e s m args below meth c hsz X hr hlocks h ls hl
  have hret := @m_iret p l e (headSpec wsX7_best rmX7_best).room s m args below meth c cX7_best D cA ad (va_A (mws cA ad M) sz) Q X.1 X.2.1 hr hlocks X.2.2.2.2.2.1
  obtain ⟨hx, hb, hml, hown, hts, hK, hA⟩ := id X
  have hl : lv_has ls 4 [(0, .ref (ad 0)), (1, .int x1), (2, .int x2), (3, .int x3)] := hl
  refine lv_aload_n hx hb dX7_best_0 rfl (lv_at hl 0 rfl) ?_
  refine lv_iconst (v := 0) hx hb dX7_best_1 (by decide) ?_
  refine m_put X inX7_best h 0 (by decide) (by decide +kernel) rfl rfl rfl rfl dX7_best_2 (fun M2 eM2 H locs h => ?_)
  have hw := hw M2 eM2
  refine lv_aload_n hx hb dX7_best_5 rfl (lv_at hl 0 rfl) ?_
  refine lv_iload_n hx hb dX7_best_6 rfl (lv_at hl 1 rfl) ?_
  refine m_calli (n := 1) X h (qX7_isPrint l D cA n x1) gX7_best_X7_isPrint hw hl.1 dX7_best_7 rfl rfl rfl (by decide +kernel) ⟨Nat.le_of_ble_eq_true rfl, Nat.le_of_ble_eq_true rfl⟩ rfl rfl (Nat.le_of_ble_eq_true rfl) (fun r7 M7 H locs hw h => ?_)
  refine lv_if_eq (tgt := 33) hx hb dX7_best_10 (by decide) (fun c10 => ?_) (fun c10 => ?_)
  · have hw := hw.1 c10
    refine lv_bipush (v := (-100)) hx hb dX7_best_33 (by decide) ?_
    exact hret (-100) M7 _ _ _ ls hw h dX7_best_35
  · have hw := hw.2 c10
    refine lv_aload_n hx hb dX7_best_13 rfl (lv_at hl 0 rfl) ?_
    refine lv_iload_n hx hb dX7_best_14 rfl (lv_at hl 2 rfl) ?_
    refine m_calli (n := 1) X h (qX7_isPrint l D cA n x2) gX7_best_X7_isPrint hw hl.1 dX7_best_15 rfl rfl rfl (by decide +kernel) ⟨Nat.le_of_ble_eq_true rfl, Nat.le_of_ble_eq_true rfl⟩ rfl rfl (Nat.le_of_ble_eq_true rfl) (fun r15 M15 H locs hw h => ?_)
    refine lv_if_eq (tgt := 33) hx hb dX7_best_18 (by decide) (fun c18 => ?_) (fun c18 => ?_)
    · have hw := hw.1 c18
      refine lv_bipush (v := (-100)) hx hb dX7_best_33 (by decide) ?_
      exact hret (-100) M15 _ _ _ ls hw h dX7_best_35
    · have hw := hw.2 c18
      refine lv_iload_n hx hb dX7_best_21 rfl (lv_at hl 3 rfl) ?_
      refine lv_i2l hx hb dX7_best_22 rfl ?_
      refine lv_lconst (v := 0) hx hb dX7_best_23 (by decide) ?_
      refine lv_ldc2 (v := 3) hx hb hown (hts (.constantLong RX7 111 (3)) (by decide +kernel)) dX7_best_24 ?_
      refine m_callS (n := 3) X h (qX7_in l D cA n (x3.toInt64) 0 3) gX7_best_X7_in hw hl.1 dX7_best_27 rfl rfl rfl (by decide +kernel) ⟨Nat.le_of_ble_eq_true rfl, Nat.le_of_ble_eq_true rfl⟩ rfl rfl (Nat.le_of_ble_eq_true rfl) (fun r27 M27 H locs hw h => ?_)
      refine lv_if_ne (tgt := 36) hx hb dX7_best_30 (by decide) (fun c30 => ?_) (fun c30 => ?_)
      · have hw := hw.1 c30
        refine lv_aload_n hx hb dX7_best_36 rfl (lv_at hl 0 rfl) ?_
        refine lv_iload_n hx hb dX7_best_37 rfl (lv_at hl 1 rfl) ?_
        refine m_callv (n := 1) X h (qX7_findMarks l D cA n x1) gX7_best_X7_findMarks hw hl.1 dX7_best_38 rfl rfl rfl (by decide +kernel) ⟨Nat.le_of_ble_eq_true rfl, Nat.le_of_ble_eq_true rfl⟩ rfl rfl (Nat.le_of_ble_eq_true rfl) (fun M38 H locs hw h => ?_)
        refine lv_aload_n hx hb dX7_best_41 rfl (lv_at hl 0 rfl) ?_
        refine lv_iload_n hx hb dX7_best_42 rfl (lv_at hl 2 rfl) ?_
        refine m_callv (n := 1) X h (qX7_findMarks l D cA n x2) gX7_best_X7_findMarks hw hl.1 dX7_best_43 rfl rfl rfl (by decide +kernel) ⟨Nat.le_of_ble_eq_true rfl, Nat.le_of_ble_eq_true rfl⟩ rfl rfl (Nat.le_of_ble_eq_true rfl) (fun M43 H locs hw h => ?_)
        refine lv_aload_n hx hb dX7_best_46 rfl (lv_at hl 0 rfl) ?_
        refine lv_iload_n hx hb dX7_best_47 rfl (lv_at hl 1 rfl) ?_
        refine lv_iload_n hx hb dX7_best_48 rfl (lv_at hl 2 rfl) ?_
        refine m_callv (n := 2) X h (qX7_findBest l D cA n x1 x2) gX7_best_X7_findBest hw hl.1 dX7_best_49 rfl rfl rfl (by decide +kernel) ⟨Nat.le_of_ble_eq_true rfl, Nat.le_of_ble_eq_true rfl⟩ rfl rfl (Nat.le_of_ble_eq_true rfl) (fun M49 H locs hw h => ?_)
        refine lv_iload_n hx hb dX7_best_52 rfl (lv_at hl 3 rfl) ?_
        refine lv_if_ne (tgt := 63) hx hb dX7_best_53 (by decide) (fun c53 => ?_) (fun c53 => ?_)
        · have hw := hw.1 c53
          refine lv_iload_n hx hb dX7_best_63 rfl (lv_at hl 3 rfl) ?_
          refine lv_iconst (v := 1) hx hb dX7_best_64 (by decide) ?_
          refine lv_icmp_ne (tgt := 75) hx hb dX7_best_65 (by decide) (fun c65 => ?_) (fun c65 => ?_)
          · have hw := hw.1 c65
            refine lv_iload_n hx hb dX7_best_75 rfl (lv_at hl 3 rfl) ?_
            refine lv_iconst (v := 2) hx hb dX7_best_76 (by decide) ?_
            refine lv_icmp_ne (tgt := 87) hx hb dX7_best_77 (by decide) (fun c77 => ?_) (fun c77 => ?_)
            · have hw := hw.1 c77
              refine lv_aload_n hx hb dX7_best_87 rfl (lv_at hl 0 rfl) ?_
              refine m_get X inX7_best h 19 (by decide) (by decide +kernel) rfl rfl dX7_best_88 ?_
              exact hret (M49 0 19) M49 _ _ _ ls hw h dX7_best_91
            · have hw := hw.2 c77
              refine lv_aload_n hx hb dX7_best_80 rfl (lv_at hl 0 rfl) ?_
              refine m_get X inX7_best h 18 (by decide) (by decide +kernel) rfl rfl dX7_best_81 ?_
              refine lv_goto (tgt := 91) hx hb dX7_best_84 (by decide) ?_
              exact hret (M49 0 18) M49 _ _ _ ls hw h dX7_best_91
          · have hw := hw.2 c65
            refine lv_aload_n hx hb dX7_best_68 rfl (lv_at hl 0 rfl) ?_
            refine m_get X inX7_best h 17 (by decide) (by decide +kernel) rfl rfl dX7_best_69 ?_
            refine lv_goto (tgt := 91) hx hb dX7_best_72 (by decide) ?_
            exact hret (M49 0 17) M49 _ _ _ ls hw h dX7_best_91
        · have hw := hw.2 c53
          refine lv_aload_n hx hb dX7_best_56 rfl (lv_at hl 0 rfl) ?_
          refine m_get X inX7_best h 16 (by decide) (by decide +kernel) rfl rfl dX7_best_57 ?_
          refine lv_goto (tgt := 91) hx hb dX7_best_60 (by decide) ?_
          exact hret (M49 0 16) M49 _ _ _ ls hw h dX7_best_91
      · have hw := hw.2 c30
        refine lv_bipush (v := (-100)) hx hb dX7_best_33 (by decide) ?_
        exact hret (-100) M27 _ _ _ ls hw h dX7_best_35
def rmX7_boundOf : Room := { frames := 1, cells := 0, slots := 0, locals := 23 }
theorem inX7_boundOf : ∀ w ∈ wsX70, w ∈ wsX7_boundOf := fun w h => List.mem_cons_of_mem _ (List.mem_append_right _ h)
set_option maxHeartbeats 4000000 in
set_option maxRecDepth 100000 in
theorem kX7_boundOf_26 {n : Nat} {Q : Int32 → mM → Prop} (X : gX p s m args meth c D cA A cX7_boundOf 6 wsX7_boundOf RX7) (x1 : Int32) (x2 : Int32)
    (hret : ∀ (r : Int32) (M : mM) (H : Heap) (locs : List Loc) (pc : Nat) (ls : Array Slot), Q r M → mH D cA ad A s.heap M H locs → decode cX7_boundOf pc = .ok (.ireturn, 1) → W p l e (headSpec wsX7_boundOf rmX7_boundOf).room s m args below meth c H locs 0 0 Z (F0 m pc ls [.int r])) :
    ∀ (s0 : Int32) (M : mM) (H : Heap) (locs : List Loc) (ls : Array Slot), wpX7_boundOf_26 n Q x1 x2 s0 M → mH D cA ad A s.heap M H locs → lv_has ls 6 [(0, .ref (ad 0)), (1, .int x1), (2, .int x2)] → W p l e (headSpec wsX7_boundOf rmX7_boundOf).room s m args below meth c H locs 0 0 Z (F0 m 26 ls [.int s0]) := by
  intro s0 M H locs ls hw h hl
  unfold wpX7_boundOf_26 at hw
  obtain ⟨hx, hb, hml, hown, hts, hK, hA⟩ := id X
  refine lv_istore_n (lv' := [(3, .int s0), (0, .ref (ad 0)), (1, .int x1), (2, .int x2)]) hx hb dX7_boundOf_26 rfl hl (by decide) rfl (fun ls hl => ?_)
  refine lv_aload_n hx hb dX7_boundOf_27 rfl (lv_at hl 1 rfl) ?_
  refine m_get X inX7_boundOf h 8 (by decide) (by decide +kernel) rfl rfl dX7_boundOf_28 ?_
  refine lv_iload_n hx hb dX7_boundOf_31 rfl (lv_at hl 2 rfl) ?_
  obtain ⟨hk1, hw⟩ := hw
  refine m_iald X h 8 (by decide) (by decide) rfl (n := 16) rfl hk1 dX7_boundOf_32 ?_
  refine lv_aload_n hx hb dX7_boundOf_33 rfl (lv_at hl 1 rfl) ?_
  refine lv_iload_n hx hb dX7_boundOf_34 rfl (lv_at hl 2 rfl) ?_
  refine m_calli (n := 1) X h (qX7_endsOf l D cA n x1) gX7_boundOf_X7_endsOf hw hl.1 dX7_boundOf_35 rfl rfl rfl (by decide +kernel) ⟨Nat.le_of_ble_eq_true rfl, Nat.le_of_ble_eq_true rfl⟩ rfl rfl (Nat.le_of_ble_eq_true rfl) (fun r35 M35 H locs hw h => ?_)
  refine lv_isub hx hb dX7_boundOf_38 ?_
  refine lv_topi (fun x4_39 ex4_39 => ?_)
  have hw := hw x4_39 ex4_39
  refine lv_istore (lv' := [(4, .int x4_39), (3, .int s0), (0, .ref (ad 0)), (1, .int x1), (2, .int x2)]) hx hb dX7_boundOf_39 hl (by decide) rfl (fun ls hl => ?_)
  refine lv_aload_n hx hb dX7_boundOf_41 rfl (lv_at hl 2 rfl) ?_
  refine m_get X inX7_boundOf h 8 (by decide) (by decide +kernel) rfl rfl dX7_boundOf_42 ?_
  refine lv_iload_n hx hb dX7_boundOf_45 rfl (lv_at hl 4 rfl) ?_
  obtain ⟨hk2, hw⟩ := hw
  refine m_iald X h 8 (by decide) (by decide) rfl (n := 16) rfl hk2 dX7_boundOf_46 ?_
  refine lv_aload_n hx hb dX7_boundOf_47 rfl (lv_at hl 2 rfl) ?_
  refine lv_iload_n hx hb dX7_boundOf_48 rfl (lv_at hl 4 rfl) ?_
  refine m_calli (n := 1) X h (qX7_endsOf l D cA n x2) gX7_boundOf_X7_endsOf hw hl.1 dX7_boundOf_49 rfl rfl rfl (by decide +kernel) ⟨Nat.le_of_ble_eq_true rfl, Nat.le_of_ble_eq_true rfl⟩ rfl rfl (Nat.le_of_ble_eq_true rfl) (fun r49 M49 H locs hw h => ?_)
  refine lv_isub hx hb dX7_boundOf_52 ?_
  refine lv_topi (fun x5_53 ex5_53 => ?_)
  have hw := hw x5_53 ex5_53
  refine lv_istore (lv' := [(5, .int x5_53), (4, .int x4_39), (3, .int s0), (0, .ref (ad 0)), (1, .int x1), (2, .int x2)]) hx hb dX7_boundOf_53 hl (by decide) rfl (fun ls hl => ?_)
  refine lv_iload_n hx hb dX7_boundOf_55 rfl (lv_at hl 2 rfl) ?_
  refine lv_iload hx hb dX7_boundOf_56 (lv_at hl 1 rfl) ?_
  refine lv_iload hx hb dX7_boundOf_58 (lv_at hl 0 rfl) ?_
  refine lv_icmp_ge (tgt := 68) hx hb dX7_boundOf_60 (by decide) (fun c60 => ?_) (fun c60 => ?_)
  · have hw := hw.1 c60
    refine lv_iload hx hb dX7_boundOf_68 (lv_at hl 0 rfl) ?_
    refine lv_iadd hx hb dX7_boundOf_70 ?_
    exact hret (s0 + x5_53) M49 _ _ _ ls hw h dX7_boundOf_71
  · have hw := hw.2 c60
    refine lv_iload hx hb dX7_boundOf_63 (lv_at hl 1 rfl) ?_
    refine lv_goto (tgt := 70) hx hb dX7_boundOf_65 (by decide) ?_
    refine lv_iadd hx hb dX7_boundOf_70 ?_
    exact hret (s0 + x4_39) M49 _ _ _ ls hw h dX7_boundOf_71
set_option maxHeartbeats 4000000 in
set_option maxRecDepth 100000 in
theorem qX7_boundOf (l : Launch) (D : va_G) (cA : Nat → ClassId) (n : Nat) (x1 : Int32) (x2 : Int32) : mMi l D cA yX7_boundOf wsX7_boundOf rmX7_boundOf (fun ad => [.ref (ad 0), .int x1, .int x2]) (wpX7_boundOf n x1 x2) := by
  intro ad sz M Q hw
  unfold wpX7_boundOf at hw
  refine m_enter (cc := cX7_boundOf) (maxL := 6) (ret := some .int) (own := RX7) (by decide) rfl rfl (Nat.le_of_ble_eq_true rfl) ?_
  intro p e s m args below meth c hsz X hr hlocks h ls hl
  have hret := @m_iret p l e (headSpec wsX7_boundOf rmX7_boundOf).room s m args below meth c cX7_boundOf D cA ad (va_A (mws cA ad M) sz) Q X.1 X.2.1 hr hlocks X.2.2.2.2.2.1
  obtain ⟨hx, hb, hml, hown, hts, hK, hA⟩ := id X
  have hl : lv_has ls 6 [(0, .ref (ad 0)), (1, .int x1), (2, .int x2)] := hl
  refine lv_aload_n hx hb dX7_boundOf_0 rfl (lv_at hl 0 rfl) ?_
  refine lv_iload_n hx hb dX7_boundOf_1 rfl (lv_at hl 1 rfl) ?_
  refine m_calli (n := 1) X h (qX7_endsOf l D cA n x1) gX7_boundOf_X7_endsOf hw hl.1 dX7_boundOf_2 rfl rfl rfl (by decide +kernel) ⟨Nat.le_of_ble_eq_true rfl, Nat.le_of_ble_eq_true rfl⟩ rfl rfl (Nat.le_of_ble_eq_true rfl) (fun r2 M2 H locs hw h => ?_)
  refine lv_aload_n hx hb dX7_boundOf_5 rfl (lv_at hl 0 rfl) ?_
  refine lv_iload_n hx hb dX7_boundOf_6 rfl (lv_at hl 2 rfl) ?_
  refine m_calli (n := 1) X h (qX7_endsOf l D cA n x2) gX7_boundOf_X7_endsOf hw hl.1 dX7_boundOf_7 rfl rfl rfl (by decide +kernel) ⟨Nat.le_of_ble_eq_true rfl, Nat.le_of_ble_eq_true rfl⟩ rfl rfl (Nat.le_of_ble_eq_true rfl) (fun r7 M7 H locs hw h => ?_)
  refine lv_icmp_ge (tgt := 21) hx hb dX7_boundOf_10 (by decide) (fun c10 => ?_) (fun c10 => ?_)
  · have hw := hw.1 c10
    refine lv_aload_n hx hb dX7_boundOf_21 rfl (lv_at hl 0 rfl) ?_
    refine lv_iload_n hx hb dX7_boundOf_22 rfl (lv_at hl 2 rfl) ?_
    refine m_calli (n := 1) X h (qX7_endsOf l D cA n x2) gX7_boundOf_X7_endsOf hw hl.1 dX7_boundOf_23 rfl rfl rfl (by decide +kernel) ⟨Nat.le_of_ble_eq_true rfl, Nat.le_of_ble_eq_true rfl⟩ rfl rfl (Nat.le_of_ble_eq_true rfl) (fun r23 M23 H locs hw h => ?_)
    exact kX7_boundOf_26 X x1 x2 hret r23 M23 _ _ ls hw h (lv_sub hl [0, 1, 2] rfl)
  · have hw := hw.2 c10
    refine lv_aload_n hx hb dX7_boundOf_13 rfl (lv_at hl 0 rfl) ?_
    refine lv_iload_n hx hb dX7_boundOf_14 rfl (lv_at hl 1 rfl) ?_
    refine m_calli (n := 1) X h (qX7_endsOf l D cA n x1) gX7_boundOf_X7_endsOf hw hl.1 dX7_boundOf_15 rfl rfl rfl (by decide +kernel) ⟨Nat.le_of_ble_eq_true rfl, Nat.le_of_ble_eq_true rfl⟩ rfl rfl (Nat.le_of_ble_eq_true rfl) (fun r15 M15 H locs hw h => ?_)
    refine lv_goto (tgt := 26) hx hb dX7_boundOf_18 (by decide) ?_
    exact kX7_boundOf_26 X x1 x2 hret r15 M15 _ _ ls hw h (lv_sub hl [0, 1, 2] rfl)
def rmX7_bound : Room := { frames := 6, cells := 0, slots := 0, locals := 148 }
theorem inX7_bound : ∀ w ∈ wsX70, w ∈ wsX7_bound := fun w h => List.mem_cons_of_mem _ (List.mem_append_right _ h)
set_option maxHeartbeats 4000000 in
set_option maxRecDepth 100000 in
theorem qX7_bound (l : Launch) (D : va_G) (cA : Nat → ClassId) (n : Nat) (x1 : Int32) (x2 : Int32) : mMi l D cA yX7_bound wsX7_bound rmX7_bound (fun ad => [.ref (ad 0), .int x1, .int x2]) (wpX7_bound n x1 x2) := by
  intro ad sz M Q hw
  unfold wpX7_bound at hw
  refine m_enter (cc := cX7_bound) (maxL := 3) (ret := some .int) (own := RX7) (by decide) rfl rfl (Nat.le_of_ble_eq_true rfl) ?_
  intro p e s m args below meth c hsz X hr hlocks h ls hl
  have hret := @m_iret p l e (headSpec wsX7_bound rmX7_bound).room s m args below meth c cX7_bound D cA ad (va_A (mws cA ad M) sz) Q X.1 X.2.1 hr hlocks X.2.2.2.2.2.1
  obtain ⟨hx, hb, hml, hown, hts, hK, hA⟩ := id X
  have hl : lv_has ls 3 [(0, .ref (ad 0)), (1, .int x1), (2, .int x2)] := hl
  refine lv_aload_n hx hb dX7_bound_0 rfl (lv_at hl 0 rfl) ?_
  refine lv_iconst (v := 0) hx hb dX7_bound_1 (by decide) ?_
  refine m_put X inX7_bound h 0 (by decide) (by decide +kernel) rfl rfl rfl rfl dX7_bound_2 (fun M2 eM2 H locs h => ?_)
  have hw := hw M2 eM2
  refine lv_aload_n hx hb dX7_bound_5 rfl (lv_at hl 0 rfl) ?_
  refine lv_iload_n hx hb dX7_bound_6 rfl (lv_at hl 1 rfl) ?_
  refine m_calli (n := 1) X h (qX7_isPrint l D cA n x1) gX7_bound_X7_isPrint hw hl.1 dX7_bound_7 rfl rfl rfl (by decide +kernel) ⟨Nat.le_of_ble_eq_true rfl, Nat.le_of_ble_eq_true rfl⟩ rfl rfl (Nat.le_of_ble_eq_true rfl) (fun r7 M7 H locs hw h => ?_)
  refine lv_if_eq (tgt := 21) hx hb dX7_bound_10 (by decide) (fun c10 => ?_) (fun c10 => ?_)
  · have hw := hw.1 c10
    refine lv_iconst (v := (-1)) hx hb dX7_bound_21 (by decide) ?_
    exact hret (-1) M7 _ _ _ ls hw h dX7_bound_22
  · have hw := hw.2 c10
    refine lv_aload_n hx hb dX7_bound_13 rfl (lv_at hl 0 rfl) ?_
    refine lv_iload_n hx hb dX7_bound_14 rfl (lv_at hl 2 rfl) ?_
    refine m_calli (n := 1) X h (qX7_isPrint l D cA n x2) gX7_bound_X7_isPrint hw hl.1 dX7_bound_15 rfl rfl rfl (by decide +kernel) ⟨Nat.le_of_ble_eq_true rfl, Nat.le_of_ble_eq_true rfl⟩ rfl rfl (Nat.le_of_ble_eq_true rfl) (fun r15 M15 H locs hw h => ?_)
    refine lv_if_ne (tgt := 23) hx hb dX7_bound_18 (by decide) (fun c18 => ?_) (fun c18 => ?_)
    · have hw := hw.1 c18
      refine lv_aload_n hx hb dX7_bound_23 rfl (lv_at hl 0 rfl) ?_
      refine lv_iload_n hx hb dX7_bound_24 rfl (lv_at hl 1 rfl) ?_
      refine m_callv (n := 1) X h (qX7_findMarks l D cA n x1) gX7_bound_X7_findMarks hw hl.1 dX7_bound_25 rfl rfl rfl (by decide +kernel) ⟨Nat.le_of_ble_eq_true rfl, Nat.le_of_ble_eq_true rfl⟩ rfl rfl (Nat.le_of_ble_eq_true rfl) (fun M25 H locs hw h => ?_)
      refine lv_aload_n hx hb dX7_bound_28 rfl (lv_at hl 0 rfl) ?_
      refine lv_iload_n hx hb dX7_bound_29 rfl (lv_at hl 2 rfl) ?_
      refine m_callv (n := 1) X h (qX7_findMarks l D cA n x2) gX7_bound_X7_findMarks hw hl.1 dX7_bound_30 rfl rfl rfl (by decide +kernel) ⟨Nat.le_of_ble_eq_true rfl, Nat.le_of_ble_eq_true rfl⟩ rfl rfl (Nat.le_of_ble_eq_true rfl) (fun M30 H locs hw h => ?_)
      refine lv_aload_n hx hb dX7_bound_33 rfl (lv_at hl 0 rfl) ?_
      refine lv_iload_n hx hb dX7_bound_34 rfl (lv_at hl 1 rfl) ?_
      refine lv_iload_n hx hb dX7_bound_35 rfl (lv_at hl 2 rfl) ?_
      refine m_calli (n := 2) X h (qX7_boundOf l D cA n x1 x2) gX7_bound_X7_boundOf hw hl.1 dX7_bound_36 rfl rfl rfl (by decide +kernel) ⟨Nat.le_of_ble_eq_true rfl, Nat.le_of_ble_eq_true rfl⟩ rfl rfl (Nat.le_of_ble_eq_true rfl) (fun r36 M36 H locs hw h => ?_)
      exact hret r36 M36 _ _ _ ls hw h dX7_bound_39
    · have hw := hw.2 c18
      refine lv_iconst (v := (-1)) hx hb dX7_bound_21 (by decide) ?_
      exact hret (-1) M15 _ _ _ ls hw h dX7_bound_22
def rmX7_seek : Room := { frames := 6, cells := 0, slots := 0, locals := 148 }
theorem inX7_seek : ∀ w ∈ wsX70, w ∈ wsX7_seek := fun w h => List.mem_cons_of_mem _ (List.mem_append_right _ h)
set_option maxHeartbeats 4000000 in
set_option maxRecDepth 100000 in
theorem kX7_seek_66 {n : Nat} {R : Int32 → mM → Prop} (X : gX p s m args meth c D cA A cX7_seek 9 wsX7_seek RX7) (x1 : Int32) (x2 : Int32) (x3 : Int32)
    (hR : ∀ (y3 : Int32) (M : mM) (H : Heap) (locs : List Loc) (ls : Array Slot), R y3 M → mH D cA ad A s.heap M H locs → lv_has ls 9 [(0, .ref (ad 0)), (1, .int x1), (2, .int x2), (3, .int y3)] → W p l e (headSpec wsX7_seek rmX7_seek).room s m args below meth c H locs 0 0 Z (F0 m 29 ls [])) :
    ∀ (s0 : Int32) (M : mM) (H : Heap) (locs : List Loc) (ls : Array Slot), wpX7_seek_66 n R x1 x2 x3 s0 M → mH D cA ad A s.heap M H locs → lv_has ls 9 [(0, .ref (ad 0)), (1, .int x1), (2, .int x2), (3, .int x3)] → W p l e (headSpec wsX7_seek rmX7_seek).room s m args below meth c H locs 0 0 Z (F0 m 66 ls [.int s0, .int x3, .ref (ad 20)]) := by
  intro s0 M H locs ls hw h hl
  unfold wpX7_seek_66 at hw
  obtain ⟨hx, hb, hml, hown, hts, hK, hA⟩ := id X
  obtain ⟨hk1, hw⟩ := hw
  obtain ⟨hk2, hw⟩ := hw
  refine m_zast X h 20 (by decide) (by decide) rfl (n := 16) rfl hk1 hk2 dX7_seek_66 (fun M66 eM66 H locs h => ?_)
  have hw := hw M66 eM66
  obtain ⟨x3_67, ex3_67⟩ : ∃ z : Int32, z = x3 + 1 := ⟨_, rfl⟩
  have hw := hw x3_67 ex3_67
  refine lv_iinc (v := x3_67) (lv' := [(3, .int x3_67), (0, .ref (ad 0)), (1, .int x1), (2, .int x2)]) hx hb dX7_seek_67 hl (k := 3) rfl (by rw [ex3_67]; rfl) (by decide) rfl (fun ls hl => ?_)
  refine lv_goto (tgt := 29) hx hb dX7_seek_70 (by decide) ?_
  exact hR x3_67 M66 _ _ ls hw h (lv_sub hl [1, 2, 3, 0] rfl)
set_option maxHeartbeats 4000000 in
set_option maxRecDepth 100000 in
theorem kX7_seek_29 {n : Nat} {E73 : mM → Prop} (X : gX p s m args meth c D cA A cX7_seek 9 wsX7_seek RX7) (x1 : Int32) (x2 : Int32)
    (hE73 : ∀ (M : mM) (H : Heap) (locs : List Loc) (ls : Array Slot), E73 M → mH D cA ad A s.heap M H locs → lv_has ls 9 [(0, .ref (ad 0)), (1, .int x1), (2, .int x2)] → W p l e (headSpec wsX7_seek rmX7_seek).room s m args below meth c H locs 0 0 Z (F0 m 73 ls [])) :
    ∀ (k : Nat) (x3 : Int32) (M : mM) (H : Heap) (locs : List Loc) (ls : Array Slot), wpX7_seek_29 n E73 x1 x2 k x3 M → mH D cA ad A s.heap M H locs → lv_has ls 9 [(0, .ref (ad 0)), (1, .int x1), (2, .int x2), (3, .int x3)] → W p l e (headSpec wsX7_seek rmX7_seek).room s m args below meth c H locs 0 0 Z (F0 m 29 ls []) := by
  intro k
  induction k with
  | zero => intro x3 M H locs ls hw; exact hw.elim
  | succ k ih =>
    intro x3 M H locs ls hw h hl
    rw [wpX7_seek_29] at hw
    obtain ⟨hx, hb, hml, hown, hts, hK, hA⟩ := id X
    refine lv_iload_n hx hb dX7_seek_29 rfl (lv_at hl 3 rfl) ?_
    refine lv_aload_n hx hb dX7_seek_30 rfl (lv_at hl 0 rfl) ?_
    refine m_get X inX7_seek h 2 (by decide) (by decide +kernel) rfl rfl dX7_seek_31 ?_
    refine lv_icmp_ge (tgt := 73) hx hb dX7_seek_34 (by decide) (fun c34 => ?_) (fun c34 => ?_)
    · have hw := hw.1 c34
      exact hE73 M _ _ ls hw h (lv_sub hl [0, 1, 2] rfl)
    · have hw := hw.2 c34
      refine lv_aload_n hx hb dX7_seek_37 rfl (lv_at hl 0 rfl) ?_
      refine lv_iload_n hx hb dX7_seek_38 rfl (lv_at hl 3 rfl) ?_
      refine m_callv (n := 1) X h (qX7_findMarks l D cA n x3) gX7_seek_X7_findMarks hw hl.1 dX7_seek_39 rfl rfl rfl (by decide +kernel) ⟨Nat.le_of_ble_eq_true rfl, Nat.le_of_ble_eq_true rfl⟩ rfl rfl (Nat.le_of_ble_eq_true rfl) (fun M39 H locs hw h => ?_)
      refine lv_aload_n hx hb dX7_seek_42 rfl (lv_at hl 0 rfl) ?_
      refine m_get X inX7_seek h 20 (by decide) (by decide +kernel) rfl rfl dX7_seek_43 ?_
      refine lv_iload_n hx hb dX7_seek_46 rfl (lv_at hl 3 rfl) ?_
      refine lv_iload_n hx hb dX7_seek_47 rfl (lv_at hl 3 rfl) ?_
      refine lv_iload_n hx hb dX7_seek_48 rfl (lv_at hl 1 rfl) ?_
      refine lv_icmp_eq (tgt := 61) hx hb dX7_seek_49 (by decide) (fun c49 => ?_) (fun c49 => ?_)
      · have hw := hw.1 c49
        refine lv_iconst (v := 1) hx hb dX7_seek_61 (by decide) ?_
        refine lv_goto (tgt := 66) hx hb dX7_seek_62 (by decide) ?_
        exact kX7_seek_66 X x1 x2 x3 ih 1 M39 _ _ ls hw h (lv_sub hl [0, 1, 2, 3] rfl)
      · have hw := hw.2 c49
        refine lv_aload_n hx hb dX7_seek_52 rfl (lv_at hl 0 rfl) ?_
        refine m_get X inX7_seek h 8 (by decide) (by decide +kernel) rfl rfl dX7_seek_53 ?_
        refine lv_iload_n hx hb dX7_seek_56 rfl (lv_at hl 3 rfl) ?_
        obtain ⟨hk3, hw⟩ := hw
        refine m_iald X h 8 (by decide) (by decide) rfl (n := 16) rfl hk3 dX7_seek_57 ?_
        refine lv_if_ne (tgt := 65) hx hb dX7_seek_58 (by decide) (fun c58 => ?_) (fun c58 => ?_)
        · have hw := hw.1 c58
          refine lv_iconst (v := 0) hx hb dX7_seek_65 (by decide) ?_
          exact kX7_seek_66 X x1 x2 x3 ih 0 M39 _ _ ls hw h (lv_sub hl [0, 1, 2, 3] rfl)
        · have hw := hw.2 c58
          refine lv_iconst (v := 1) hx hb dX7_seek_61 (by decide) ?_
          refine lv_goto (tgt := 66) hx hb dX7_seek_62 (by decide) ?_
          exact kX7_seek_66 X x1 x2 x3 ih 1 M39 _ _ ls hw h (lv_sub hl [0, 1, 2, 3] rfl)
set_option maxHeartbeats 4000000 in
set_option maxRecDepth 100000 in
theorem kX7_seek_143 {n : Nat} {R : Int32 → Int32 → mM → Prop} (X : gX p s m args meth c D cA A cX7_seek 9 wsX7_seek RX7) (x1 : Int32) (x2 : Int32) (x3 : Int32) (x4 : Int32) (x5 : Int32) (x8 : Int32)
    (hR : ∀ (y7 : Int32) (y8 : Int32) (M : mM) (H : Heap) (locs : List Loc) (ls : Array Slot), R y7 y8 M → mH D cA ad A s.heap M H locs → lv_has ls 9 [(0, .ref (ad 0)), (1, .int x1), (2, .int x2), (3, .int x3), (4, .int x4), (5, .int x5), (7, .int y7), (8, .int y8)] → W p l e (headSpec wsX7_seek rmX7_seek).room s m args below meth c H locs 0 0 Z (F0 m 95 ls [])) :
    ∀ (s0 : Int32) (M : mM) (H : Heap) (locs : List Loc) (ls : Array Slot), wpX7_seek_143 n R x1 x2 x3 x4 x5 x8 s0 M → mH D cA ad A s.heap M H locs → lv_has ls 9 [(0, .ref (ad 0)), (1, .int x1), (2, .int x2), (3, .int x3), (4, .int x4), (5, .int x5), (8, .int x8)] → W p l e (headSpec wsX7_seek rmX7_seek).room s m args below meth c H locs 0 0 Z (F0 m 143 ls [.int s0]) := by
  intro s0 M H locs ls hw h hl
  unfold wpX7_seek_143 at hw
  obtain ⟨hx, hb, hml, hown, hts, hK, hA⟩ := id X
  refine lv_istore (lv' := [(7, .int s0), (0, .ref (ad 0)), (1, .int x1), (2, .int x2), (3, .int x3), (4, .int x4), (5, .int x5), (8, .int x8)]) hx hb dX7_seek_143 hl (by decide) rfl (fun ls hl => ?_)
  obtain ⟨x8_145, ex8_145⟩ : ∃ z : Int32, z = x8 + 1 := ⟨_, rfl⟩
  have hw := hw x8_145 ex8_145
  refine lv_iinc (v := x8_145) (lv' := [(8, .int x8_145), (7, .int s0), (0, .ref (ad 0)), (1, .int x1), (2, .int x2), (3, .int x3), (4, .int x4), (5, .int x5)]) hx hb dX7_seek_145 hl (k := 7) rfl (by rw [ex8_145]; rfl) (by decide) rfl (fun ls hl => ?_)
  refine lv_goto (tgt := 95) hx hb dX7_seek_148 (by decide) ?_
  exact hR s0 x8_145 M _ _ ls hw h (lv_sub hl [2, 3, 4, 5, 6, 7, 1, 0] rfl)
set_option maxHeartbeats 4000000 in
set_option maxRecDepth 100000 in
theorem kX7_seek_95 {n : Nat} {E151 : Int32 → mM → Prop} (X : gX p s m args meth c D cA A cX7_seek 9 wsX7_seek RX7) (x1 : Int32) (x2 : Int32) (x3 : Int32) (x4 : Int32) (x5 : Int32)
    (hE151 : ∀ (y7 : Int32) (M : mM) (H : Heap) (locs : List Loc) (ls : Array Slot), E151 y7 M → mH D cA ad A s.heap M H locs → lv_has ls 9 [(0, .ref (ad 0)), (1, .int x1), (2, .int x2), (3, .int x3), (4, .int x4), (5, .int x5), (7, .int y7)] → W p l e (headSpec wsX7_seek rmX7_seek).room s m args below meth c H locs 0 0 Z (F0 m 151 ls [])) :
    ∀ (k : Nat) (x7 : Int32) (x8 : Int32) (M : mM) (H : Heap) (locs : List Loc) (ls : Array Slot), wpX7_seek_95 n E151 x1 x2 x3 x4 x5 k x7 x8 M → mH D cA ad A s.heap M H locs → lv_has ls 9 [(0, .ref (ad 0)), (1, .int x1), (2, .int x2), (3, .int x3), (4, .int x4), (5, .int x5), (7, .int x7), (8, .int x8)] → W p l e (headSpec wsX7_seek rmX7_seek).room s m args below meth c H locs 0 0 Z (F0 m 95 ls []) := by
  intro k
  induction k with
  | zero => intro x7 x8 M H locs ls hw; exact hw.elim
  | succ k ih =>
    intro x7 x8 M H locs ls hw h hl
    rw [wpX7_seek_95] at hw
    obtain ⟨hx, hb, hml, hown, hts, hK, hA⟩ := id X
    refine lv_iload hx hb dX7_seek_95 (lv_at hl 7 rfl) ?_
    refine lv_aload_n hx hb dX7_seek_97 rfl (lv_at hl 0 rfl) ?_
    refine m_get X inX7_seek h 2 (by decide) (by decide +kernel) rfl rfl dX7_seek_98 ?_
    refine lv_icmp_ge (tgt := 151) hx hb dX7_seek_101 (by decide) (fun c101 => ?_) (fun c101 => ?_)
    · have hw := hw.1 c101
      exact hE151 x7 M _ _ ls hw h (lv_sub hl [0, 1, 2, 3, 4, 5, 6] rfl)
    · have hw := hw.2 c101
      refine lv_aload_n hx hb dX7_seek_104 rfl (lv_at hl 0 rfl) ?_
      refine m_get X inX7_seek h 20 (by decide) (by decide +kernel) rfl rfl dX7_seek_105 ?_
      refine lv_iload hx hb dX7_seek_108 (lv_at hl 7 rfl) ?_
      obtain ⟨hk4, hw⟩ := hw
      refine m_zald X h 20 (by decide) (by decide) rfl (n := 16) rfl hk4 dX7_seek_110 ?_
      refine lv_if_ne (tgt := 141) hx hb dX7_seek_111 (by decide) (fun c111 => ?_) (fun c111 => ?_)
      · have hw := hw.1 c111
        refine lv_iload hx hb dX7_seek_141 (lv_at hl 6 rfl) ?_
        exact kX7_seek_143 X x1 x2 x3 x4 x5 x8 ih x7 M _ _ ls hw h (lv_sub hl [0, 1, 2, 3, 4, 5, 7] rfl)
      · have hw := hw.2 c111
        refine lv_iload hx hb dX7_seek_114 (lv_at hl 6 rfl) ?_
        refine lv_if_lt (tgt := 136) hx hb dX7_seek_116 (by decide) (fun c116 => ?_) (fun c116 => ?_)
        · have hw := hw.1 c116
          refine lv_iload hx hb dX7_seek_136 (lv_at hl 7 rfl) ?_
          refine lv_goto (tgt := 143) hx hb dX7_seek_138 (by decide) ?_
          exact kX7_seek_143 X x1 x2 x3 x4 x5 x8 ih x8 M _ _ ls hw h (lv_sub hl [0, 1, 2, 3, 4, 5, 7] rfl)
        · have hw := hw.2 c116
          refine lv_aload_n hx hb dX7_seek_119 rfl (lv_at hl 0 rfl) ?_
          refine lv_iload_n hx hb dX7_seek_120 rfl (lv_at hl 1 rfl) ?_
          refine lv_iload hx hb dX7_seek_121 (lv_at hl 7 rfl) ?_
          refine m_calli (n := 2) X h (qX7_boundOf l D cA n x1 x8) gX7_seek_X7_boundOf hw hl.1 dX7_seek_123 rfl rfl rfl (by decide +kernel) ⟨Nat.le_of_ble_eq_true rfl, Nat.le_of_ble_eq_true rfl⟩ rfl rfl (Nat.le_of_ble_eq_true rfl) (fun r123 M123 H locs hw h => ?_)
          refine lv_aload_n hx hb dX7_seek_126 rfl (lv_at hl 0 rfl) ?_
          refine lv_iload_n hx hb dX7_seek_127 rfl (lv_at hl 1 rfl) ?_
          refine lv_iload hx hb dX7_seek_128 (lv_at hl 6 rfl) ?_
          refine m_calli (n := 2) X h (qX7_boundOf l D cA n x1 x7) gX7_seek_X7_boundOf hw hl.1 dX7_seek_130 rfl rfl rfl (by decide +kernel) ⟨Nat.le_of_ble_eq_true rfl, Nat.le_of_ble_eq_true rfl⟩ rfl rfl (Nat.le_of_ble_eq_true rfl) (fun r130 M130 H locs hw h => ?_)
          refine lv_icmp_le (tgt := 141) hx hb dX7_seek_133 (by decide) (fun c133 => ?_) (fun c133 => ?_)
          · have hw := hw.1 c133
            refine lv_iload hx hb dX7_seek_141 (lv_at hl 6 rfl) ?_
            exact kX7_seek_143 X x1 x2 x3 x4 x5 x8 ih x7 M130 _ _ ls hw h (lv_sub hl [0, 1, 2, 3, 4, 5, 7] rfl)
          · have hw := hw.2 c133
            refine lv_iload hx hb dX7_seek_136 (lv_at hl 7 rfl) ?_
            refine lv_goto (tgt := 143) hx hb dX7_seek_138 (by decide) ?_
            exact kX7_seek_143 X x1 x2 x3 x4 x5 x8 ih x8 M130 _ _ ls hw h (lv_sub hl [0, 1, 2, 3, 4, 5, 7] rfl)
set_option maxHeartbeats 4000000 in
set_option maxRecDepth 100000 in
theorem kX7_seek_244 {n : Nat} {R : Int32 → Int32 → Int32 → Int32 → mM → Prop} (X : gX p s m args meth c D cA A cX7_seek 9 wsX7_seek RX7) (x1 : Int32) (x2 : Int32) (x5 : Int32) (x6 : Int32) (x7 : Int32)
    (hR : ∀ (y3 : Int32) (y4 : Int32) (y5 : Int32) (y6 : Int32) (M : mM) (H : Heap) (locs : List Loc) (ls : Array Slot), R y3 y4 y5 y6 M → mH D cA ad A s.heap M H locs → lv_has ls 9 [(0, .ref (ad 0)), (1, .int x1), (2, .int x2), (3, .int y3), (4, .int y4), (5, .int y5), (6, .int y6)] → W p l e (headSpec wsX7_seek rmX7_seek).room s m args below meth c H locs 0 0 Z (F0 m 84 ls [])) :
    ∀ (M : mM) (H : Heap) (locs : List Loc) (ls : Array Slot), wpX7_seek_244 n R x1 x2 x5 x6 x7 M → mH D cA ad A s.heap M H locs → lv_has ls 9 [(0, .ref (ad 0)), (1, .int x1), (2, .int x2), (5, .int x5), (6, .int x6), (7, .int x7)] → W p l e (headSpec wsX7_seek rmX7_seek).room s m args below meth c H locs 0 0 Z (F0 m 244 ls []) := by
  intro M H locs ls hw h hl
  unfold wpX7_seek_244 at hw
  obtain ⟨hx, hb, hml, hown, hts, hK, hA⟩ := id X
  refine lv_aload_n hx hb dX7_seek_244 rfl (lv_at hl 0 rfl) ?_
  refine m_get X inX7_seek h 16 (by decide) (by decide +kernel) rfl rfl dX7_seek_245 ?_
  refine lv_topi (fun x4_248 ex4_248 => ?_)
  have hw := hw x4_248 ex4_248
  refine lv_istore (lv' := [(4, .int x4_248), (0, .ref (ad 0)), (1, .int x1), (2, .int x2), (5, .int x5), (6, .int x6), (7, .int x7)]) hx hb dX7_seek_248 hl (by decide) rfl (fun ls hl => ?_)
  refine lv_iload hx hb dX7_seek_250 (lv_at hl 6 rfl) ?_
  refine lv_istore_n (lv' := [(3, .int x7), (4, .int x4_248), (0, .ref (ad 0)), (1, .int x1), (2, .int x2), (5, .int x5), (6, .int x6), (7, .int x7)]) hx hb dX7_seek_252 rfl hl (by decide) rfl (fun ls hl => ?_)
  refine lv_goto (tgt := 84) hx hb dX7_seek_253 (by decide) ?_
  exact hR x7 x4_248 x5 x6 M _ _ ls hw h (lv_sub hl [2, 3, 4, 0, 1, 5, 6] rfl)
set_option maxHeartbeats 4000000 in
set_option maxRecDepth 100000 in
theorem kX7_seek_195 {n : Nat} {R : Int32 → Int32 → Int32 → Int32 → mM → Prop} (X : gX p s m args meth c D cA A cX7_seek 9 wsX7_seek RX7) (x1 : Int32) (x2 : Int32) (x3 : Int32) (x4 : Int32) (x5 : Int32) (x7 : Int32)
    (hR : ∀ (y3 : Int32) (y4 : Int32) (y5 : Int32) (y6 : Int32) (M : mM) (H : Heap) (locs : List Loc) (ls : Array Slot), R y3 y4 y5 y6 M → mH D cA ad A s.heap M H locs → lv_has ls 9 [(0, .ref (ad 0)), (1, .int x1), (2, .int x2), (3, .int y3), (4, .int y4), (5, .int y5), (6, .int y6)] → W p l e (headSpec wsX7_seek rmX7_seek).room s m args below meth c H locs 0 0 Z (F0 m 84 ls [])) :
    ∀ (s0 : Int32) (M : mM) (H : Heap) (locs : List Loc) (ls : Array Slot), wpX7_seek_195 n R x1 x2 x3 x4 x5 x7 s0 M → mH D cA ad A s.heap M H locs → lv_has ls 9 [(0, .ref (ad 0)), (1, .int x1), (2, .int x2), (3, .int x3), (4, .int x4), (5, .int x5), (7, .int x7)] → W p l e (headSpec wsX7_seek rmX7_seek).room s m args below meth c H locs 0 0 Z (F0 m 195 ls [.int s0]) := by
  intro s0 M H locs ls hw h hl
  unfold wpX7_seek_195 at hw
  obtain ⟨hx, hb, hml, hown, hts, hK, hA⟩ := id X
  refine lv_istore (lv' := [(6, .int s0), (0, .ref (ad 0)), (1, .int x1), (2, .int x2), (3, .int x3), (4, .int x4), (5, .int x5), (7, .int x7)]) hx hb dX7_seek_195 hl (by decide) rfl (fun ls hl => ?_)
  refine lv_iload hx hb dX7_seek_197 (lv_at hl 0 rfl) ?_
  refine lv_if_eq (tgt := 253) hx hb dX7_seek_199 (by decide) (fun c199 => ?_) (fun c199 => ?_)
  · have hw := hw.1 c199
    refine lv_goto (tgt := 84) hx hb dX7_seek_253 (by decide) ?_
    exact hR x3 x4 x5 s0 M _ _ ls hw h (lv_sub hl [1, 2, 3, 4, 5, 6, 0] rfl)
  · have hw := hw.2 c199
    refine lv_aload_n hx hb dX7_seek_202 rfl (lv_at hl 1 rfl) ?_
    refine m_get X inX7_seek h 20 (by decide) (by decide +kernel) rfl rfl dX7_seek_203 ?_
    refine lv_iload hx hb dX7_seek_206 (lv_at hl 7 rfl) ?_
    refine lv_iconst (v := 1) hx hb dX7_seek_208 (by decide) ?_
    obtain ⟨hk5, hw⟩ := hw
    refine m_zast X h 20 (by decide) (by decide) rfl (n := 16) rfl hk5 (Or.inr rfl) dX7_seek_209 (fun M209 eM209 H locs h => ?_)
    have hw := hw M209 eM209
    obtain ⟨x5_210, ex5_210⟩ : ∃ z : Int32, z = x5 + 1 := ⟨_, rfl⟩
    have hw := hw x5_210 ex5_210
    refine lv_iinc (v := x5_210) (lv' := [(5, .int x5_210), (6, .int s0), (0, .ref (ad 0)), (1, .int x1), (2, .int x2), (3, .int x3), (4, .int x4), (7, .int x7)]) hx hb dX7_seek_210 hl (k := 6) rfl (by rw [ex5_210]; rfl) (by decide) rfl (fun ls hl => ?_)
    refine lv_aload_n hx hb dX7_seek_213 rfl (lv_at hl 2 rfl) ?_
    refine lv_iload_n hx hb dX7_seek_214 rfl (lv_at hl 3 rfl) ?_
    refine lv_iload hx hb dX7_seek_215 (lv_at hl 7 rfl) ?_
    refine m_callv (n := 2) X h (qX7_findBest l D cA n x1 x7) gX7_seek_X7_findBest hw hl.1 dX7_seek_217 rfl rfl rfl (by decide +kernel) ⟨Nat.le_of_ble_eq_true rfl, Nat.le_of_ble_eq_true rfl⟩ rfl rfl (Nat.le_of_ble_eq_true rfl) (fun M217 H locs hw h => ?_)
    refine lv_aload_n hx hb dX7_seek_220 rfl (lv_at hl 2 rfl) ?_
    refine m_get X inX7_seek h 16 (by decide) (by decide +kernel) rfl rfl dX7_seek_221 ?_
    refine lv_iload hx hb dX7_seek_224 (lv_at hl 6 rfl) ?_
    refine lv_icmp_gt (tgt := 244) hx hb dX7_seek_226 (by decide) (fun c226 => ?_) (fun c226 => ?_)
    · have hw := hw.1 c226
      exact kX7_seek_244 X x1 x2 x5_210 s0 x7 hR M217 _ _ ls hw h (lv_sub hl [2, 3, 4, 0, 1, 7] rfl)
    · have hw := hw.2 c226
      refine lv_aload_n hx hb dX7_seek_229 rfl (lv_at hl 2 rfl) ?_
      refine m_get X inX7_seek h 16 (by decide) (by decide +kernel) rfl rfl dX7_seek_230 ?_
      refine lv_iload hx hb dX7_seek_233 (lv_at hl 6 rfl) ?_
      refine lv_icmp_ne (tgt := 253) hx hb dX7_seek_235 (by decide) (fun c235 => ?_) (fun c235 => ?_)
      · have hw := hw.1 c235
        refine lv_goto (tgt := 84) hx hb dX7_seek_253 (by decide) ?_
        exact hR x3 x4 x5_210 s0 M217 _ _ ls hw h (lv_sub hl [2, 3, 4, 5, 6, 0, 1] rfl)
      · have hw := hw.2 c235
        refine lv_iload hx hb dX7_seek_238 (lv_at hl 7 rfl) ?_
        refine lv_iload_n hx hb dX7_seek_240 rfl (lv_at hl 5 rfl) ?_
        refine lv_icmp_ge (tgt := 253) hx hb dX7_seek_241 (by decide) (fun c241 => ?_) (fun c241 => ?_)
        · have hw := hw.1 c241
          refine lv_goto (tgt := 84) hx hb dX7_seek_253 (by decide) ?_
          exact hR x3 x4 x5_210 s0 M217 _ _ ls hw h (lv_sub hl [2, 3, 4, 5, 6, 0, 1] rfl)
        · have hw := hw.2 c241
          exact kX7_seek_244 X x1 x2 x5_210 s0 x7 hR M217 _ _ ls hw h (lv_sub hl [2, 3, 4, 0, 1, 7] rfl)
set_option maxHeartbeats 4000000 in
set_option maxRecDepth 100000 in
theorem kX7_seek_168 {n : Nat} {R : Int32 → Int32 → Int32 → Int32 → mM → Prop} (X : gX p s m args meth c D cA A cX7_seek 9 wsX7_seek RX7) (x1 : Int32) (x2 : Int32) (x3 : Int32) (x4 : Int32) (x5 : Int32) (x7 : Int32)
    (hR : ∀ (y3 : Int32) (y4 : Int32) (y5 : Int32) (y6 : Int32) (M : mM) (H : Heap) (locs : List Loc) (ls : Array Slot), R y3 y4 y5 y6 M → mH D cA ad A s.heap M H locs → lv_has ls 9 [(0, .ref (ad 0)), (1, .int x1), (2, .int x2), (3, .int y3), (4, .int y4), (5, .int y5), (6, .int y6)] → W p l e (headSpec wsX7_seek rmX7_seek).room s m args below meth c H locs 0 0 Z (F0 m 84 ls [])) :
    ∀ (s0 : Int32) (M : mM) (H : Heap) (locs : List Loc) (ls : Array Slot), wpX7_seek_168 n R x1 x2 x3 x4 x5 x7 s0 M → mH D cA ad A s.heap M H locs → lv_has ls 9 [(0, .ref (ad 0)), (1, .int x1), (2, .int x2), (3, .int x3), (4, .int x4), (5, .int x5), (7, .int x7)] → W p l e (headSpec wsX7_seek rmX7_seek).room s m args below meth c H locs 0 0 Z (F0 m 168 ls [.int s0]) := by
  intro s0 M H locs ls hw h hl
  unfold wpX7_seek_168 at hw
  obtain ⟨hx, hb, hml, hown, hts, hK, hA⟩ := id X
  refine lv_istore (lv' := [(8, .int s0), (0, .ref (ad 0)), (1, .int x1), (2, .int x2), (3, .int x3), (4, .int x4), (5, .int x5), (7, .int x7)]) hx hb dX7_seek_168 hl (by decide) rfl (fun ls hl => ?_)
  refine lv_iload hx hb dX7_seek_170 (lv_at hl 0 rfl) ?_
  refine lv_iload hx hb dX7_seek_172 (lv_at hl 5 rfl) ?_
  refine lv_icmp_gt (tgt := 190) hx hb dX7_seek_174 (by decide) (fun c174 => ?_) (fun c174 => ?_)
  · have hw := hw.1 c174
    refine lv_iconst (v := 1) hx hb dX7_seek_190 (by decide) ?_
    refine lv_goto (tgt := 195) hx hb dX7_seek_191 (by decide) ?_
    exact kX7_seek_195 X x1 x2 x3 x4 x5 x7 hR 1 M _ _ ls hw h (lv_sub hl [1, 2, 3, 4, 5, 6, 7] rfl)
  · have hw := hw.2 c174
    refine lv_iload hx hb dX7_seek_177 (lv_at hl 0 rfl) ?_
    refine lv_iload hx hb dX7_seek_179 (lv_at hl 5 rfl) ?_
    refine lv_icmp_ne (tgt := 194) hx hb dX7_seek_181 (by decide) (fun c181 => ?_) (fun c181 => ?_)
    · have hw := hw.1 c181
      refine lv_iconst (v := 0) hx hb dX7_seek_194 (by decide) ?_
      exact kX7_seek_195 X x1 x2 x3 x4 x5 x7 hR 0 M _ _ ls hw h (lv_sub hl [1, 2, 3, 4, 5, 6, 7] rfl)
    · have hw := hw.2 c181
      refine lv_iload hx hb dX7_seek_184 (lv_at hl 7 rfl) ?_
      refine lv_iload_n hx hb dX7_seek_186 rfl (lv_at hl 4 rfl) ?_
      refine lv_icmp_ge (tgt := 194) hx hb dX7_seek_187 (by decide) (fun c187 => ?_) (fun c187 => ?_)
      · have hw := hw.1 c187
        refine lv_iconst (v := 0) hx hb dX7_seek_194 (by decide) ?_
        exact kX7_seek_195 X x1 x2 x3 x4 x5 x7 hR 0 M _ _ ls hw h (lv_sub hl [1, 2, 3, 4, 5, 6, 7] rfl)
      · have hw := hw.2 c187
        refine lv_iconst (v := 1) hx hb dX7_seek_190 (by decide) ?_
        refine lv_goto (tgt := 195) hx hb dX7_seek_191 (by decide) ?_
        exact kX7_seek_195 X x1 x2 x3 x4 x5 x7 hR 1 M _ _ ls hw h (lv_sub hl [1, 2, 3, 4, 5, 6, 7] rfl)
set_option maxHeartbeats 4000000 in
set_option maxRecDepth 100000 in
theorem kX7_seek_84 {n : Nat} {E256 : Int32 → Int32 → Int32 → mM → Prop} (X : gX p s m args meth c D cA A cX7_seek 9 wsX7_seek RX7) (x1 : Int32) (x2 : Int32)
    (hE256 : ∀ (y3 : Int32) (y4 : Int32) (y5 : Int32) (M : mM) (H : Heap) (locs : List Loc) (ls : Array Slot), E256 y3 y4 y5 M → mH D cA ad A s.heap M H locs → lv_has ls 9 [(2, .int x2), (3, .int y3), (4, .int y4), (5, .int y5)] → W p l e (headSpec wsX7_seek rmX7_seek).room s m args below meth c H locs 0 0 Z (F0 m 256 ls [])) :
    ∀ (k : Nat) (x3 : Int32) (x4 : Int32) (x5 : Int32) (x6 : Int32) (M : mM) (H : Heap) (locs : List Loc) (ls : Array Slot), wpX7_seek_84 n E256 x1 x2 k x3 x4 x5 x6 M → mH D cA ad A s.heap M H locs → lv_has ls 9 [(0, .ref (ad 0)), (1, .int x1), (2, .int x2), (3, .int x3), (4, .int x4), (5, .int x5), (6, .int x6)] → W p l e (headSpec wsX7_seek rmX7_seek).room s m args below meth c H locs 0 0 Z (F0 m 84 ls []) := by
  intro k
  induction k with
  | zero => intro x3 x4 x5 x6 M H locs ls hw; exact hw.elim
  | succ k ih =>
    intro x3 x4 x5 x6 M H locs ls hw h hl
    rw [wpX7_seek_84] at hw
    obtain ⟨hx, hb, hml, hown, hts, hK, hA⟩ := id X
    refine lv_iload hx hb dX7_seek_84 (lv_at hl 6 rfl) ?_
    refine lv_if_eq (tgt := 256) hx hb dX7_seek_86 (by decide) (fun c86 => ?_) (fun c86 => ?_)
    · have hw := hw.1 c86
      exact hE256 x3 x4 x5 M _ _ ls hw h (lv_sub hl [2, 3, 4, 5] rfl)
    · have hw := hw.2 c86
      refine lv_iconst (v := (-1)) hx hb dX7_seek_89 (by decide) ?_
      refine lv_istore (lv' := [(7, .int (-1)), (0, .ref (ad 0)), (1, .int x1), (2, .int x2), (3, .int x3), (4, .int x4), (5, .int x5), (6, .int x6)]) hx hb dX7_seek_90 hl (by decide) rfl (fun ls hl => ?_)
      refine lv_iconst (v := 0) hx hb dX7_seek_92 (by decide) ?_
      refine lv_istore (lv' := [(8, .int 0), (7, .int (-1)), (0, .ref (ad 0)), (1, .int x1), (2, .int x2), (3, .int x3), (4, .int x4), (5, .int x5), (6, .int x6)]) hx hb dX7_seek_93 hl (by decide) rfl (fun ls hl => ?_)
      refine kX7_seek_95 X x1 x2 x3 x4 x5 (fun y7_95 M_95 H locs ls hw h hl => ?_) n (-1) 0 M _ _ ls hw h (lv_sub hl [2, 3, 4, 5, 6, 7, 1, 0] rfl)
      refine lv_iload hx hb dX7_seek_151 (lv_at hl 6 rfl) ?_
      refine lv_if_ge (tgt := 161) hx hb dX7_seek_153 (by decide) (fun c153 => ?_) (fun c153 => ?_)
      · have hw := hw.1 c153
        refine lv_aload_n hx hb dX7_seek_161 rfl (lv_at hl 0 rfl) ?_
        refine lv_iload_n hx hb dX7_seek_162 rfl (lv_at hl 1 rfl) ?_
        refine lv_iload hx hb dX7_seek_163 (lv_at hl 6 rfl) ?_
        refine m_calli (n := 2) X h (qX7_boundOf l D cA n x1 y7_95) gX7_seek_X7_boundOf hw hl.1 dX7_seek_165 rfl rfl rfl (by decide +kernel) ⟨Nat.le_of_ble_eq_true rfl, Nat.le_of_ble_eq_true rfl⟩ rfl rfl (Nat.le_of_ble_eq_true rfl) (fun r165 M165 H locs hw h => ?_)
        exact kX7_seek_168 X x1 x2 x3 x4 x5 y7_95 ih r165 M165 _ _ ls hw h (lv_sub hl [0, 1, 2, 3, 4, 5, 6] rfl)
      · have hw := hw.2 c153
        refine lv_bipush (v := (-2)) hx hb dX7_seek_156 (by decide) ?_
        refine lv_goto (tgt := 168) hx hb dX7_seek_158 (by decide) ?_
        exact kX7_seek_168 X x1 x2 x3 x4 x5 y7_95 ih (-2) M_95 _ _ ls hw h (lv_sub hl [0, 1, 2, 3, 4, 5, 6] rfl)
set_option maxHeartbeats 4000000 in
set_option maxRecDepth 100000 in
theorem qX7_seek (l : Launch) (D : va_G) (cA : Nat → ClassId) (n : Nat) (x1 : Int32) (x2 : Int32) : mMi l D cA yX7_seek wsX7_seek rmX7_seek (fun ad => [.ref (ad 0), .int x1, .int x2]) (wpX7_seek n x1 x2) := by
  intro ad sz M Q hw
  unfold wpX7_seek at hw
  refine m_enter (cc := cX7_seek) (maxL := 9) (ret := some .int) (own := RX7) (by decide) rfl rfl (Nat.le_of_ble_eq_true rfl) ?_
  intro p e s m args below meth c hsz X hr hlocks h ls hl
  have hret := @m_iret p l e (headSpec wsX7_seek rmX7_seek).room s m args below meth c cX7_seek D cA ad (va_A (mws cA ad M) sz) Q X.1 X.2.1 hr hlocks X.2.2.2.2.2.1
  obtain ⟨hx, hb, hml, hown, hts, hK, hA⟩ := id X
  have hl : lv_has ls 9 [(0, .ref (ad 0)), (1, .int x1), (2, .int x2)] := hl
  refine lv_aload_n hx hb dX7_seek_0 rfl (lv_at hl 0 rfl) ?_
  refine lv_iconst (v := 0) hx hb dX7_seek_1 (by decide) ?_
  refine m_put X inX7_seek h 0 (by decide) (by decide +kernel) rfl rfl rfl rfl dX7_seek_2 (fun M2 eM2 H locs h => ?_)
  have hw := hw M2 eM2
  refine lv_aload_n hx hb dX7_seek_5 rfl (lv_at hl 0 rfl) ?_
  refine lv_iload_n hx hb dX7_seek_6 rfl (lv_at hl 1 rfl) ?_
  refine m_calli (n := 1) X h (qX7_isPrint l D cA n x1) gX7_seek_X7_isPrint hw hl.1 dX7_seek_7 rfl rfl rfl (by decide +kernel) ⟨Nat.le_of_ble_eq_true rfl, Nat.le_of_ble_eq_true rfl⟩ rfl rfl (Nat.le_of_ble_eq_true rfl) (fun r7 M7 H locs hw h => ?_)
  refine lv_if_eq (tgt := 25) hx hb dX7_seek_10 (by decide) (fun c10 => ?_) (fun c10 => ?_)
  · have hw := hw.1 c10
    refine lv_iconst (v := (-1)) hx hb dX7_seek_25 (by decide) ?_
    exact hret (-1) M7 _ _ _ ls hw h dX7_seek_26
  · have hw := hw.2 c10
    refine lv_iload_n hx hb dX7_seek_13 rfl (lv_at hl 2 rfl) ?_
    refine lv_i2l hx hb dX7_seek_14 rfl ?_
    refine lv_lconst (v := 0) hx hb dX7_seek_15 (by decide) ?_
    refine lv_ldc2 (v := 2) hx hb hown (hts (.constantLong RX7 103 (2)) (by decide +kernel)) dX7_seek_16 ?_
    refine m_callS (n := 3) X h (qX7_in l D cA n (x2.toInt64) 0 2) gX7_seek_X7_in hw hl.1 dX7_seek_19 rfl rfl rfl (by decide +kernel) ⟨Nat.le_of_ble_eq_true rfl, Nat.le_of_ble_eq_true rfl⟩ rfl rfl (Nat.le_of_ble_eq_true rfl) (fun r19 M19 H locs hw h => ?_)
    refine lv_if_ne (tgt := 27) hx hb dX7_seek_22 (by decide) (fun c22 => ?_) (fun c22 => ?_)
    · have hw := hw.1 c22
      refine lv_iconst (v := 0) hx hb dX7_seek_27 (by decide) ?_
      refine lv_istore_n (lv' := [(3, .int 0), (0, .ref (ad 0)), (1, .int x1), (2, .int x2)]) hx hb dX7_seek_28 rfl hl (by decide) rfl (fun ls hl => ?_)
      refine kX7_seek_29 X x1 x2 (fun M_29 H locs ls hw h hl => ?_) n 0 M19 _ _ ls hw h (lv_sub hl [1, 2, 3, 0] rfl)
      refine lv_iconst (v := (-1)) hx hb dX7_seek_73 (by decide) ?_
      refine lv_istore_n (lv' := [(3, .int (-1)), (0, .ref (ad 0)), (1, .int x1), (2, .int x2)]) hx hb dX7_seek_74 rfl hl (by decide) rfl (fun ls hl => ?_)
      refine lv_iconst (v := (-1)) hx hb dX7_seek_75 (by decide) ?_
      refine lv_istore (lv' := [(4, .int (-1)), (3, .int (-1)), (0, .ref (ad 0)), (1, .int x1), (2, .int x2)]) hx hb dX7_seek_76 hl (by decide) rfl (fun ls hl => ?_)
      refine lv_iconst (v := 0) hx hb dX7_seek_78 (by decide) ?_
      refine lv_istore (lv' := [(5, .int 0), (4, .int (-1)), (3, .int (-1)), (0, .ref (ad 0)), (1, .int x1), (2, .int x2)]) hx hb dX7_seek_79 hl (by decide) rfl (fun ls hl => ?_)
      refine lv_iconst (v := 1) hx hb dX7_seek_81 (by decide) ?_
      refine lv_istore (lv' := [(6, .int 1), (5, .int 0), (4, .int (-1)), (3, .int (-1)), (0, .ref (ad 0)), (1, .int x1), (2, .int x2)]) hx hb dX7_seek_82 hl (by decide) rfl (fun ls hl => ?_)
      refine kX7_seek_84 X x1 x2 (fun y3_84 y4_84 y5_84 M_84 H locs ls hw h hl => ?_) n (-1) (-1) 0 1 M_29 _ _ ls hw h (lv_sub hl [4, 5, 6, 3, 2, 1, 0] rfl)
      refine lv_iload_n hx hb dX7_seek_256 rfl (lv_at hl 0 rfl) ?_
      refine lv_if_ne (tgt := 264) hx hb dX7_seek_257 (by decide) (fun c257 => ?_) (fun c257 => ?_)
      · have hw := hw.1 c257
        refine lv_iload_n hx hb dX7_seek_264 rfl (lv_at hl 0 rfl) ?_
        refine lv_iconst (v := 1) hx hb dX7_seek_265 (by decide) ?_
        refine lv_icmp_ne (tgt := 274) hx hb dX7_seek_266 (by decide) (fun c266 => ?_) (fun c266 => ?_)
        · have hw := hw.1 c266
          refine lv_iload hx hb dX7_seek_274 (lv_at hl 3 rfl) ?_
          exact hret y5_84 M_84 _ _ _ ls hw h dX7_seek_276
        · have hw := hw.2 c266
          refine lv_iload hx hb dX7_seek_269 (lv_at hl 2 rfl) ?_
          refine lv_goto (tgt := 276) hx hb dX7_seek_271 (by decide) ?_
          exact hret y4_84 M_84 _ _ _ ls hw h dX7_seek_276
      · have hw := hw.2 c257
        refine lv_iload_n hx hb dX7_seek_260 rfl (lv_at hl 1 rfl) ?_
        refine lv_goto (tgt := 276) hx hb dX7_seek_261 (by decide) ?_
        exact hret y3_84 M_84 _ _ _ ls hw h dX7_seek_276
    · have hw := hw.2 c22
      refine lv_iconst (v := (-1)) hx hb dX7_seek_25 (by decide) ?_
      exact hret (-1) M19 _ _ _ ls hw h dX7_seek_26
def rmX7_chance : Room := { frames := 1, cells := 0, slots := 0, locals := 25 }
theorem inX7_chance : ∀ w ∈ wsX70, w ∈ wsX7_chance := fun w h => List.mem_cons_of_mem _ (List.mem_append_right _ h)
set_option maxHeartbeats 4000000 in
set_option maxRecDepth 100000 in
theorem kX7_chance_92 {n : Nat} {R : Int64 → Int32 → mM → Prop} (X : gX p s m args meth c D cA A cX7_chance 12 wsX7_chance RX7) (x1 : Int32) (x2 : Int32) (x3 : Int32) (x4 : Int64) (x6 : Int64) (x8 : Int32) (x11 : Int32)
    (hR : ∀ (y9 : Int64) (y11 : Int32) (M : mM) (H : Heap) (locs : List Loc) (ls : Array Slot), R y9 y11 M → mH D cA ad A s.heap M H locs → lv_has ls 12 [(1, .int x1), (2, .int x2), (3, .int x3), (4, .long x4), (6, .long x6), (8, .int x8), (9, .long y9), (11, .int y11)] → W p l e (headSpec wsX7_chance rmX7_chance).room s m args below meth c H locs 0 0 Z (F0 m 67 ls [])) :
    ∀ (s0 : Int64) (s1 : Int64) (M : mM) (H : Heap) (locs : List Loc) (ls : Array Slot), wpX7_chance_92 n R x1 x2 x3 x4 x6 x8 x11 s0 s1 M → mH D cA ad A s.heap M H locs → lv_has ls 12 [(1, .int x1), (2, .int x2), (3, .int x3), (4, .long x4), (6, .long x6), (8, .int x8), (11, .int x11)] → W p l e (headSpec wsX7_chance rmX7_chance).room s m args below meth c H locs 0 0 Z (F0 m 92 ls [.long s0, .long s1]) := by
  intro s0 s1 M H locs ls hw h hl
  unfold wpX7_chance_92 at hw
  obtain ⟨hx, hb, hml, hown, hts, hK, hA⟩ := id X
  refine lv_lmul hx hb dX7_chance_92 ?_
  refine lv_topl (fun x9_93 ex9_93 => ?_)
  have hw := hw x9_93 ex9_93
  refine lv_lstore (lv' := [(9, .long x9_93), (1, .int x1), (2, .int x2), (3, .int x3), (4, .long x4), (6, .long x6), (8, .int x8), (11, .int x11)]) hx hb dX7_chance_93 hl (by decide) rfl (fun ls hl => ?_)
  obtain ⟨x11_95, ex11_95⟩ : ∃ z : Int32, z = x11 + 1 := ⟨_, rfl⟩
  have hw := hw x11_95 ex11_95
  refine lv_iinc (v := x11_95) (lv' := [(11, .int x11_95), (9, .long x9_93), (1, .int x1), (2, .int x2), (3, .int x3), (4, .long x4), (6, .long x6), (8, .int x8)]) hx hb dX7_chance_95 hl (k := 7) rfl (by rw [ex11_95]; rfl) (by decide) rfl (fun ls hl => ?_)
  refine lv_goto (tgt := 67) hx hb dX7_chance_98 (by decide) ?_
  exact hR x9_93 x11_95 M _ _ ls hw h (lv_sub hl [2, 3, 4, 5, 6, 7, 1, 0] rfl)
set_option maxHeartbeats 4000000 in
set_option maxRecDepth 100000 in
theorem kX7_chance_67 {n : Nat} {E101 : Int64 → mM → Prop} (X : gX p s m args meth c D cA A cX7_chance 12 wsX7_chance RX7) (x1 : Int32) (x2 : Int32) (x3 : Int32) (x4 : Int64) (x6 : Int64) (x8 : Int32)
    (hE101 : ∀ (y9 : Int64) (M : mM) (H : Heap) (locs : List Loc) (ls : Array Slot), E101 y9 M → mH D cA ad A s.heap M H locs → lv_has ls 12 [(1, .int x1), (2, .int x2), (3, .int x3), (4, .long x4), (6, .long x6), (8, .int x8), (9, .long y9)] → W p l e (headSpec wsX7_chance rmX7_chance).room s m args below meth c H locs 0 0 Z (F0 m 101 ls [])) :
    ∀ (k : Nat) (x9 : Int64) (x11 : Int32) (M : mM) (H : Heap) (locs : List Loc) (ls : Array Slot), wpX7_chance_67 n E101 x1 x2 x3 x4 x6 x8 k x9 x11 M → mH D cA ad A s.heap M H locs → lv_has ls 12 [(1, .int x1), (2, .int x2), (3, .int x3), (4, .long x4), (6, .long x6), (8, .int x8), (9, .long x9), (11, .int x11)] → W p l e (headSpec wsX7_chance rmX7_chance).room s m args below meth c H locs 0 0 Z (F0 m 67 ls []) := by
  intro k
  induction k with
  | zero => intro x9 x11 M H locs ls hw; exact hw.elim
  | succ k ih =>
    intro x9 x11 M H locs ls hw h hl
    rw [wpX7_chance_67] at hw
    obtain ⟨hx, hb, hml, hown, hts, hK, hA⟩ := id X
    refine lv_iload hx hb dX7_chance_67 (lv_at hl 7 rfl) ?_
    refine lv_iload_n hx hb dX7_chance_69 rfl (lv_at hl 0 rfl) ?_
    refine lv_icmp_ge (tgt := 101) hx hb dX7_chance_70 (by decide) (fun c70 => ?_) (fun c70 => ?_)
    · have hw := hw.1 c70
      exact hE101 x9 M _ _ ls hw h (lv_sub hl [0, 1, 2, 3, 4, 5, 6] rfl)
    · have hw := hw.2 c70
      refine lv_lload hx hb dX7_chance_73 (lv_at hl 6 rfl) ?_
      refine lv_iload hx hb dX7_chance_75 (lv_at hl 7 rfl) ?_
      refine lv_iload hx hb dX7_chance_77 (lv_at hl 5 rfl) ?_
      refine lv_icmp_ge (tgt := 87) hx hb dX7_chance_79 (by decide) (fun c79 => ?_) (fun c79 => ?_)
      · have hw := hw.1 c79
        refine lv_bipush (v := 16) hx hb dX7_chance_87 (by decide) ?_
        refine lv_iload_n hx hb dX7_chance_89 rfl (lv_at hl 2 rfl) ?_
        refine lv_isub hx hb dX7_chance_90 ?_
        refine lv_i2l hx hb dX7_chance_91 rfl ?_
        exact kX7_chance_92 X x1 x2 x3 x4 x6 x8 x11 ih ((16 - x3).toInt64) x9 M _ _ ls hw h (lv_sub hl [0, 1, 2, 3, 4, 5, 7] rfl)
      · have hw := hw.2 c79
        refine lv_iload_n hx hb dX7_chance_82 rfl (lv_at hl 2 rfl) ?_
        refine lv_i2l hx hb dX7_chance_83 rfl ?_
        refine lv_goto (tgt := 92) hx hb dX7_chance_84 (by decide) ?_
        exact kX7_chance_92 X x1 x2 x3 x4 x6 x8 x11 ih (x3.toInt64) x9 M _ _ ls hw h (lv_sub hl [0, 1, 2, 3, 4, 5, 7] rfl)
set_option maxHeartbeats 4000000 in
set_option maxRecDepth 100000 in
theorem kX7_chance_115 {n : Nat} {R : Int64 → Int64 → Int32 → mM → Prop} (X : gX p s m args meth c D cA A cX7_chance 12 wsX7_chance RX7) (x1 : Int32) (x2 : Int32) (x3 : Int32) (x6 : Int64) (x8 : Int32)
    (hR : ∀ (y4 : Int64) (y6 : Int64) (y8 : Int32) (M : mM) (H : Heap) (locs : List Loc) (ls : Array Slot), R y4 y6 y8 M → mH D cA ad A s.heap M H locs → lv_has ls 12 [(1, .int x1), (2, .int x2), (3, .int x3), (4, .long y4), (6, .long y6), (8, .int y8)] → W p l e (headSpec wsX7_chance rmX7_chance).room s m args below meth c H locs 0 0 Z (F0 m 54 ls [])) :
    ∀ (s0 : Int64) (s1 : Int64) (M : mM) (H : Heap) (locs : List Loc) (ls : Array Slot), wpX7_chance_115 n R x1 x2 x3 x6 x8 s0 s1 M → mH D cA ad A s.heap M H locs → lv_has ls 12 [(1, .int x1), (2, .int x2), (3, .int x3), (6, .long x6), (8, .int x8)] → W p l e (headSpec wsX7_chance rmX7_chance).room s m args below meth c H locs 0 0 Z (F0 m 115 ls [.long s0, .long s1]) := by
  intro s0 s1 M H locs ls hw h hl
  unfold wpX7_chance_115 at hw
  obtain ⟨hx, hb, hml, hown, hts, hK, hA⟩ := id X
  refine lv_ladd hx hb dX7_chance_115 ?_
  refine lv_topl (fun x4_116 ex4_116 => ?_)
  have hw := hw x4_116 ex4_116
  refine lv_lstore (lv' := [(4, .long x4_116), (1, .int x1), (2, .int x2), (3, .int x3), (6, .long x6), (8, .int x8)]) hx hb dX7_chance_116 hl (by decide) rfl (fun ls hl => ?_)
  refine lv_lload hx hb dX7_chance_118 (lv_at hl 4 rfl) ?_
  refine lv_iload_n hx hb dX7_chance_120 rfl (lv_at hl 1 rfl) ?_
  refine lv_iload hx hb dX7_chance_121 (lv_at hl 5 rfl) ?_
  refine lv_isub hx hb dX7_chance_123 ?_
  refine lv_i2l hx hb dX7_chance_124 rfl ?_
  refine lv_lmul hx hb dX7_chance_125 ?_
  refine lv_iload hx hb dX7_chance_126 (lv_at hl 5 rfl) ?_
  refine lv_iconst (v := 1) hx hb dX7_chance_128 (by decide) ?_
  refine lv_iadd hx hb dX7_chance_129 ?_
  refine lv_i2l hx hb dX7_chance_130 rfl ?_
  obtain ⟨hne, hw⟩ := hw
  refine lv_ldiv hx hb dX7_chance_131 hne ?_
  refine lv_topl (fun x6_132 ex6_132 => ?_)
  have hw := hw x6_132 ex6_132
  refine lv_lstore (lv' := [(6, .long x6_132), (4, .long x4_116), (1, .int x1), (2, .int x2), (3, .int x3), (8, .int x8)]) hx hb dX7_chance_132 hl (by decide) rfl (fun ls hl => ?_)
  obtain ⟨x8_134, ex8_134⟩ : ∃ z : Int32, z = x8 + 1 := ⟨_, rfl⟩
  have hw := hw x8_134 ex8_134
  refine lv_iinc (v := x8_134) (lv' := [(8, .int x8_134), (6, .long x6_132), (4, .long x4_116), (1, .int x1), (2, .int x2), (3, .int x3)]) hx hb dX7_chance_134 hl (k := 5) rfl (by rw [ex8_134]; rfl) (by decide) rfl (fun ls hl => ?_)
  refine lv_goto (tgt := 54) hx hb dX7_chance_137 (by decide) ?_
  exact hR x4_116 x6_132 x8_134 M _ _ ls hw h (lv_sub hl [3, 4, 5, 2, 1, 0] rfl)
set_option maxHeartbeats 4000000 in
set_option maxRecDepth 100000 in
theorem kX7_chance_54 {n : Nat} {Q : Int64 → mM → Prop} (X : gX p s m args meth c D cA A cX7_chance 12 wsX7_chance RX7) (x1 : Int32) (x2 : Int32) (x3 : Int32)
    (hret : ∀ (r : Int64) (M : mM) (H : Heap) (locs : List Loc) (pc : Nat) (ls : Array Slot), Q r M → mH D cA ad A s.heap M H locs → decode cX7_chance pc = .ok (.lreturn, 1) → W p l e (headSpec wsX7_chance rmX7_chance).room s m args below meth c H locs 0 0 Z (F0 m pc ls [.long r])) :
    ∀ (k : Nat) (x4 : Int64) (x6 : Int64) (x8 : Int32) (M : mM) (H : Heap) (locs : List Loc) (ls : Array Slot), wpX7_chance_54 n Q x1 x2 x3 k x4 x6 x8 M → mH D cA ad A s.heap M H locs → lv_has ls 12 [(1, .int x1), (2, .int x2), (3, .int x3), (4, .long x4), (6, .long x6), (8, .int x8)] → W p l e (headSpec wsX7_chance rmX7_chance).room s m args below meth c H locs 0 0 Z (F0 m 54 ls []) := by
  intro k
  induction k with
  | zero => intro x4 x6 x8 M H locs ls hw; exact hw.elim
  | succ k ih =>
    intro x4 x6 x8 M H locs ls hw h hl
    rw [wpX7_chance_54] at hw
    obtain ⟨hx, hb, hml, hown, hts, hK, hA⟩ := id X
    refine lv_iload hx hb dX7_chance_54 (lv_at hl 5 rfl) ?_
    refine lv_iload_n hx hb dX7_chance_56 rfl (lv_at hl 0 rfl) ?_
    refine lv_icmp_gt (tgt := 140) hx hb dX7_chance_57 (by decide) (fun c57 => ?_) (fun c57 => ?_)
    · have hw := hw.1 c57
      refine lv_lload hx hb dX7_chance_140 (lv_at hl 3 rfl) ?_
      exact hret x4 M _ _ _ ls hw h dX7_chance_142
    · have hw := hw.2 c57
      refine lv_lload hx hb dX7_chance_60 (lv_at hl 4 rfl) ?_
      refine lv_lstore (lv' := [(9, .long x6), (1, .int x1), (2, .int x2), (3, .int x3), (4, .long x4), (6, .long x6), (8, .int x8)]) hx hb dX7_chance_62 hl (by decide) rfl (fun ls hl => ?_)
      refine lv_iconst (v := 0) hx hb dX7_chance_64 (by decide) ?_
      refine lv_istore (lv' := [(11, .int 0), (9, .long x6), (1, .int x1), (2, .int x2), (3, .int x3), (4, .long x4), (6, .long x6), (8, .int x8)]) hx hb dX7_chance_65 hl (by decide) rfl (fun ls hl => ?_)
      refine kX7_chance_67 X x1 x2 x3 x4 x6 x8 (fun y9_67 M_67 H locs ls hw h hl => ?_) n x6 0 M _ _ ls hw h (lv_sub hl [2, 3, 4, 5, 6, 7, 1, 0] rfl)
      refine lv_lload hx hb dX7_chance_101 (lv_at hl 3 rfl) ?_
      refine lv_iload hx hb dX7_chance_103 (lv_at hl 5 rfl) ?_
      refine lv_iload_n hx hb dX7_chance_105 rfl (lv_at hl 1 rfl) ?_
      refine lv_icmp_lt (tgt := 114) hx hb dX7_chance_106 (by decide) (fun c106 => ?_) (fun c106 => ?_)
      · have hw := hw.1 c106
        refine lv_lconst (v := 0) hx hb dX7_chance_114 (by decide) ?_
        exact kX7_chance_115 X x1 x2 x3 x6 x8 ih 0 x4 M_67 _ _ ls hw h (lv_sub hl [0, 1, 2, 4, 5] rfl)
      · have hw := hw.2 c106
        refine lv_lload hx hb dX7_chance_109 (lv_at hl 6 rfl) ?_
        refine lv_goto (tgt := 115) hx hb dX7_chance_111 (by decide) ?_
        exact kX7_chance_115 X x1 x2 x3 x6 x8 ih y9_67 x4 M_67 _ _ ls hw h (lv_sub hl [0, 1, 2, 4, 5] rfl)
set_option maxHeartbeats 4000000 in
set_option maxRecDepth 100000 in
theorem qX7_chance (l : Launch) (D : va_G) (cA : Nat → ClassId) (n : Nat) (x1 : Int32) (x2 : Int32) (x3 : Int32) : mMl l D cA yX7_chance wsX7_chance rmX7_chance (fun ad => [.ref (ad 0), .int x1, .int x2, .int x3]) (wpX7_chance n x1 x2 x3) := by
  intro ad sz M Q hw
  unfold wpX7_chance at hw
  refine m_enter (cc := cX7_chance) (maxL := 12) (ret := some .long) (own := RX7) (by decide) rfl rfl (Nat.le_of_ble_eq_true rfl) ?_
  intro p e s m args below meth c hsz X hr hlocks h ls hl
  have hret := @m_lret p l e (headSpec wsX7_chance rmX7_chance).room s m args below meth c cX7_chance D cA ad (va_A (mws cA ad M) sz) Q X.1 X.2.1 hr hlocks X.2.2.2.2.2.1
  obtain ⟨hx, hb, hml, hown, hts, hK, hA⟩ := id X
  have hl : lv_has ls 12 [(0, .ref (ad 0)), (1, .int x1), (2, .int x2), (3, .int x3)] := hl
  refine lv_aload_n hx hb dX7_chance_0 rfl (lv_at hl 0 rfl) ?_
  refine lv_iconst (v := 0) hx hb dX7_chance_1 (by decide) ?_
  refine m_put X inX7_chance h 0 (by decide) (by decide +kernel) rfl rfl rfl rfl dX7_chance_2 (fun M2 eM2 H locs h => ?_)
  have hw := hw M2 eM2
  refine lv_iload_n hx hb dX7_chance_5 rfl (lv_at hl 1 rfl) ?_
  refine lv_i2l hx hb dX7_chance_6 rfl ?_
  refine lv_lconst (v := 0) hx hb dX7_chance_7 (by decide) ?_
  refine lv_ldc2 (v := 12) hx hb hown (hts (.constantLong RX7 150 (12)) (by decide +kernel)) dX7_chance_8 ?_
  refine m_callS (n := 3) X h (qX7_in l D cA n (x1.toInt64) 0 12) gX7_chance_X7_in hw hl.1 dX7_chance_11 rfl rfl rfl (by decide +kernel) ⟨Nat.le_of_ble_eq_true rfl, Nat.le_of_ble_eq_true rfl⟩ rfl rfl (Nat.le_of_ble_eq_true rfl) (fun r11 M11 H locs hw h => ?_)
  refine lv_if_eq (tgt := 41) hx hb dX7_chance_14 (by decide) (fun c14 => ?_) (fun c14 => ?_)
  · have hw := hw.1 c14
    refine lv_ldc2 (v := (-1)) hx hb hown (hts (.constantLong RX7 154 (-1)) (by decide +kernel)) dX7_chance_41 ?_
    exact hret (-1) M11 _ _ _ ls hw h dX7_chance_44
  · have hw := hw.2 c14
    refine lv_iload_n hx hb dX7_chance_17 rfl (lv_at hl 2 rfl) ?_
    refine lv_i2l hx hb dX7_chance_18 rfl ?_
    refine lv_lconst (v := 0) hx hb dX7_chance_19 (by decide) ?_
    refine lv_ldc2 (v := 12) hx hb hown (hts (.constantLong RX7 150 (12)) (by decide +kernel)) dX7_chance_20 ?_
    refine m_callS (n := 3) X h (qX7_in l D cA n (x2.toInt64) 0 12) gX7_chance_X7_in hw hl.1 dX7_chance_23 rfl rfl rfl (by decide +kernel) ⟨Nat.le_of_ble_eq_true rfl, Nat.le_of_ble_eq_true rfl⟩ rfl rfl (Nat.le_of_ble_eq_true rfl) (fun r23 M23 H locs hw h => ?_)
    refine lv_if_eq (tgt := 41) hx hb dX7_chance_26 (by decide) (fun c26 => ?_) (fun c26 => ?_)
    · have hw := hw.1 c26
      refine lv_ldc2 (v := (-1)) hx hb hown (hts (.constantLong RX7 154 (-1)) (by decide +kernel)) dX7_chance_41 ?_
      exact hret (-1) M23 _ _ _ ls hw h dX7_chance_44
    · have hw := hw.2 c26
      refine lv_iload_n hx hb dX7_chance_29 rfl (lv_at hl 3 rfl) ?_
      refine lv_i2l hx hb dX7_chance_30 rfl ?_
      refine lv_lconst (v := 0) hx hb dX7_chance_31 (by decide) ?_
      refine lv_ldc2 (v := 16) hx hb hown (hts (.constantLong RX7 152 (16)) (by decide +kernel)) dX7_chance_32 ?_
      refine m_callS (n := 3) X h (qX7_in l D cA n (x3.toInt64) 0 16) gX7_chance_X7_in hw hl.1 dX7_chance_35 rfl rfl rfl (by decide +kernel) ⟨Nat.le_of_ble_eq_true rfl, Nat.le_of_ble_eq_true rfl⟩ rfl rfl (Nat.le_of_ble_eq_true rfl) (fun r35 M35 H locs hw h => ?_)
      refine lv_if_ne (tgt := 45) hx hb dX7_chance_38 (by decide) (fun c38 => ?_) (fun c38 => ?_)
      · have hw := hw.1 c38
        refine lv_lconst (v := 0) hx hb dX7_chance_45 (by decide) ?_
        refine lv_lstore (lv' := [(4, .long 0), (0, .ref (ad 0)), (1, .int x1), (2, .int x2), (3, .int x3)]) hx hb dX7_chance_46 hl (by decide) rfl (fun ls hl => ?_)
        refine lv_lconst (v := 1) hx hb dX7_chance_48 (by decide) ?_
        refine lv_lstore (lv' := [(6, .long 1), (4, .long 0), (0, .ref (ad 0)), (1, .int x1), (2, .int x2), (3, .int x3)]) hx hb dX7_chance_49 hl (by decide) rfl (fun ls hl => ?_)
        refine lv_iconst (v := 0) hx hb dX7_chance_51 (by decide) ?_
        refine lv_istore (lv' := [(8, .int 0), (6, .long 1), (4, .long 0), (0, .ref (ad 0)), (1, .int x1), (2, .int x2), (3, .int x3)]) hx hb dX7_chance_52 hl (by decide) rfl (fun ls hl => ?_)
        exact kX7_chance_54 X x1 x2 x3 hret n 0 1 0 M35 _ _ ls hw h (lv_sub hl [4, 5, 6, 2, 1, 0] rfl)
      · have hw := hw.2 c38
        refine lv_ldc2 (v := (-1)) hx hb hown (hts (.constantLong RX7 154 (-1)) (by decide +kernel)) dX7_chance_41 ?_
        exact hret (-1) M35 _ _ _ ls hw h dX7_chance_44
def rmX7_join : Room := { frames := 6, cells := 0, slots := 0, locals := 148 }
theorem inX7_join : ∀ w ∈ wsX70, w ∈ wsX7_join := fun w h => List.mem_cons_of_mem _ (List.mem_append_right _ h)
set_option maxHeartbeats 4000000 in
set_option maxRecDepth 100000 in
theorem kX7_join_32 {n : Nat} {Q : Int32 → mM → Prop} (X : gX p s m args meth c D cA A cX7_join 10 wsX7_join RX7)
    (hret : ∀ (r : Int32) (M : mM) (H : Heap) (locs : List Loc) (pc : Nat) (ls : Array Slot), Q r M → mH D cA ad A s.heap M H locs → decode cX7_join pc = .ok (.ireturn, 1) → W p l e (headSpec wsX7_join rmX7_join).room s m args below meth c H locs 0 0 Z (F0 m pc ls [.int r])) :
    ∀ (M : mM) (H : Heap) (locs : List Loc) (ls : Array Slot), wpX7_join_32 n Q M → mH D cA ad A s.heap M H locs → lv_has ls 10 [(0, .ref (ad 0))] → W p l e (headSpec wsX7_join rmX7_join).room s m args below meth c H locs 0 0 Z (F0 m 32 ls []) := by
  intro M H locs ls hw h hl
  unfold wpX7_join_32 at hw
  obtain ⟨hx, hb, hml, hown, hts, hK, hA⟩ := id X
  refine lv_aload_n hx hb dX7_join_32 rfl (lv_at hl 0 rfl) ?_
  refine lv_bipush (v := (-2)) hx hb dX7_join_33 (by decide) ?_
  refine m_calli (n := 1) X h (qX7_told l D cA n (-2)) gX7_join_X7_told hw hl.1 dX7_join_35 rfl rfl rfl (by decide +kernel) ⟨Nat.le_of_ble_eq_true rfl, Nat.le_of_ble_eq_true rfl⟩ rfl rfl (Nat.le_of_ble_eq_true rfl) (fun r35 M35 H locs hw h => ?_)
  exact hret r35 M35 _ _ _ ls hw h dX7_join_38
set_option maxHeartbeats 4000000 in
set_option maxRecDepth 100000 in
theorem kX7_join_113 {n : Nat} {E143 : Int32 → Int32 → mM → Prop} (X : gX p s m args meth c D cA A cX7_join 10 wsX7_join RX7) (x1 : Int32) (x2 : Int32) (x3 : Int32) (x4 : Int32) (x7 : Int32)
    (hE143 : ∀ (y5 : Int32) (y6 : Int32) (M : mM) (H : Heap) (locs : List Loc) (ls : Array Slot), E143 y5 y6 M → mH D cA ad A s.heap M H locs → lv_has ls 10 [(0, .ref (ad 0)), (1, .int x1), (2, .int x2), (3, .int x3), (4, .int x4), (5, .int y5), (6, .int y6), (7, .int x7)] → W p l e (headSpec wsX7_join rmX7_join).room s m args below meth c H locs 0 0 Z (F0 m 143 ls [])) :
    ∀ (k : Nat) (x5 : Int32) (x6 : Int32) (x8 : Int32) (M : mM) (H : Heap) (locs : List Loc) (ls : Array Slot), wpX7_join_113 n E143 x1 x2 x3 x4 x7 k x5 x6 x8 M → mH D cA ad A s.heap M H locs → lv_has ls 10 [(0, .ref (ad 0)), (1, .int x1), (2, .int x2), (3, .int x3), (4, .int x4), (5, .int x5), (6, .int x6), (7, .int x7), (8, .int x8)] → W p l e (headSpec wsX7_join rmX7_join).room s m args below meth c H locs 0 0 Z (F0 m 113 ls []) := by
  intro k
  induction k with
  | zero => intro x5 x6 x8 M H locs ls hw; exact hw.elim
  | succ k ih =>
    intro x5 x6 x8 M H locs ls hw h hl
    rw [wpX7_join_113] at hw
    obtain ⟨hx, hb, hml, hown, hts, hK, hA⟩ := id X
    refine lv_iload hx hb dX7_join_113 (lv_at hl 8 rfl) ?_
    refine lv_aload_n hx hb dX7_join_115 rfl (lv_at hl 0 rfl) ?_
    refine m_get X inX7_join h 17 (by decide) (by decide +kernel) rfl rfl dX7_join_116 ?_
    refine lv_icmp_ge (tgt := 143) hx hb dX7_join_119 (by decide) (fun c119 => ?_) (fun c119 => ?_)
    · have hw := hw.1 c119
      exact hE143 x5 x6 M _ _ ls hw h (lv_sub hl [0, 1, 2, 3, 4, 5, 6, 7] rfl)
    · have hw := hw.2 c119
      refine lv_iload hx hb dX7_join_122 (lv_at hl 5 rfl) ?_
      refine lv_istore (lv' := [(9, .int x5), (0, .ref (ad 0)), (1, .int x1), (2, .int x2), (3, .int x3), (4, .int x4), (5, .int x5), (6, .int x6), (7, .int x7), (8, .int x8)]) hx hb dX7_join_124 hl (by decide) rfl (fun ls hl => ?_)
      refine lv_bipush (v := 23) hx hb dX7_join_126 (by decide) ?_
      refine lv_iload hx hb dX7_join_128 (lv_at hl 7 rfl) ?_
      refine lv_isub hx hb dX7_join_130 ?_
      refine lv_topi (fun x5_131 ex5_131 => ?_)
      have hw := hw x5_131 ex5_131
      refine lv_istore (lv' := [(5, .int x5_131), (9, .int x5), (0, .ref (ad 0)), (1, .int x1), (2, .int x2), (3, .int x3), (4, .int x4), (6, .int x6), (7, .int x7), (8, .int x8)]) hx hb dX7_join_131 hl (by decide) rfl (fun ls hl => ?_)
      refine lv_iload hx hb dX7_join_133 (lv_at hl 1 rfl) ?_
      refine lv_istore (lv' := [(6, .int x5), (5, .int x5_131), (9, .int x5), (0, .ref (ad 0)), (1, .int x1), (2, .int x2), (3, .int x3), (4, .int x4), (7, .int x7), (8, .int x8)]) hx hb dX7_join_135 hl (by decide) rfl (fun ls hl => ?_)
      obtain ⟨x8_137, ex8_137⟩ : ∃ z : Int32, z = x8 + 1 := ⟨_, rfl⟩
      have hw := hw x8_137 ex8_137
      refine lv_iinc (v := x8_137) (lv' := [(8, .int x8_137), (6, .int x5), (5, .int x5_131), (9, .int x5), (0, .ref (ad 0)), (1, .int x1), (2, .int x2), (3, .int x3), (4, .int x4), (7, .int x7)]) hx hb dX7_join_137 hl (k := 9) rfl (by rw [ex8_137]; rfl) (by decide) rfl (fun ls hl => ?_)
      refine lv_goto (tgt := 113) hx hb dX7_join_140 (by decide) ?_
      exact ih x5_131 x5 x8_137 M _ _ ls hw h (lv_sub hl [4, 5, 6, 7, 8, 2, 1, 9, 0] rfl)
set_option maxHeartbeats 4000000 in
set_option maxRecDepth 100000 in
theorem kX7_join_108 {n : Nat} {R : Int32 → Int32 → mM → Prop} (X : gX p s m args meth c D cA A cX7_join 10 wsX7_join RX7) (x1 : Int32) (x2 : Int32) (x3 : Int32) (x4 : Int32) (x5 : Int32) (x6 : Int32)
    (hR : ∀ (y3 : Int32) (y4 : Int32) (M : mM) (H : Heap) (locs : List Loc) (ls : Array Slot), R y3 y4 M → mH D cA ad A s.heap M H locs → lv_has ls 10 [(0, .ref (ad 0)), (1, .int x1), (2, .int x2), (3, .int y3), (4, .int y4)] → W p l e (headSpec wsX7_join rmX7_join).room s m args below meth c H locs 0 0 Z (F0 m 60 ls [])) :
    ∀ (s0 : Int32) (M : mM) (H : Heap) (locs : List Loc) (ls : Array Slot), wpX7_join_108 n R x1 x2 x3 x4 x5 x6 s0 M → mH D cA ad A s.heap M H locs → lv_has ls 10 [(0, .ref (ad 0)), (1, .int x1), (2, .int x2), (3, .int x3), (4, .int x4), (5, .int x5), (6, .int x6)] → W p l e (headSpec wsX7_join rmX7_join).room s m args below meth c H locs 0 0 Z (F0 m 108 ls [.int s0]) := by
  intro s0 M H locs ls hw h hl
  unfold wpX7_join_108 at hw
  obtain ⟨hx, hb, hml, hown, hts, hK, hA⟩ := id X
  refine lv_istore (lv' := [(7, .int s0), (0, .ref (ad 0)), (1, .int x1), (2, .int x2), (3, .int x3), (4, .int x4), (5, .int x5), (6, .int x6)]) hx hb dX7_join_108 hl (by decide) rfl (fun ls hl => ?_)
  refine lv_iconst (v := 0) hx hb dX7_join_110 (by decide) ?_
  refine lv_istore (lv' := [(8, .int 0), (7, .int s0), (0, .ref (ad 0)), (1, .int x1), (2, .int x2), (3, .int x3), (4, .int x4), (5, .int x5), (6, .int x6)]) hx hb dX7_join_111 hl (by decide) rfl (fun ls hl => ?_)
  refine kX7_join_113 X x1 x2 x3 x4 s0 (fun y5_113 y6_113 M_113 H locs ls hw h hl => ?_) n x5 x6 0 M _ _ ls hw h (lv_sub hl [2, 3, 4, 5, 6, 7, 8, 1, 0] rfl)
  refine lv_iload hx hb dX7_join_143 (lv_at hl 5 rfl) ?_
  refine lv_aload_n hx hb dX7_join_145 rfl (lv_at hl 0 rfl) ?_
  refine m_get X inX7_join h 18 (by decide) (by decide +kernel) rfl rfl dX7_join_146 ?_
  refine lv_iadd hx hb dX7_join_149 ?_
  refine lv_topi (fun x5_150 ex5_150 => ?_)
  have hw := hw x5_150 ex5_150
  refine lv_istore (lv' := [(5, .int x5_150), (0, .ref (ad 0)), (1, .int x1), (2, .int x2), (3, .int x3), (4, .int x4), (6, .int y6_113), (7, .int s0)]) hx hb dX7_join_150 hl (by decide) rfl (fun ls hl => ?_)
  refine lv_iload hx hb dX7_join_152 (lv_at hl 6 rfl) ?_
  refine lv_aload_n hx hb dX7_join_154 rfl (lv_at hl 1 rfl) ?_
  refine m_get X inX7_join h 19 (by decide) (by decide +kernel) rfl rfl dX7_join_155 ?_
  refine lv_iadd hx hb dX7_join_158 ?_
  refine lv_topi (fun x6_159 ex6_159 => ?_)
  have hw := hw x6_159 ex6_159
  refine lv_istore (lv' := [(6, .int x6_159), (5, .int x5_150), (0, .ref (ad 0)), (1, .int x1), (2, .int x2), (3, .int x3), (4, .int x4), (7, .int s0)]) hx hb dX7_join_159 hl (by decide) rfl (fun ls hl => ?_)
  refine lv_iload hx hb dX7_join_161 (lv_at hl 7 rfl) ?_
  refine lv_if_eq (tgt := 224) hx hb dX7_join_163 (by decide) (fun c163 => ?_) (fun c163 => ?_)
  · have hw := hw.1 c163
    obtain ⟨x4_224, ex4_224⟩ : ∃ z : Int32, z = x4 + 1 := ⟨_, rfl⟩
    have hw := hw x4_224 ex4_224
    refine lv_iinc (v := x4_224) (lv' := [(4, .int x4_224), (6, .int x6_159), (5, .int x5_150), (0, .ref (ad 0)), (1, .int x1), (2, .int x2), (3, .int x3), (7, .int s0)]) hx hb dX7_join_224 hl (k := 6) rfl (by rw [ex4_224]; rfl) (by decide) rfl (fun ls hl => ?_)
    refine lv_goto (tgt := 60) hx hb dX7_join_227 (by decide) ?_
    exact hR x3 x4_224 M_113 _ _ ls hw h (lv_sub hl [3, 4, 5, 6, 0] rfl)
  · have hw := hw.2 c163
    refine lv_iload hx hb dX7_join_166 (lv_at hl 1 rfl) ?_
    refine m_callS (n := 1) X h (qX7_isPlace l D cA n x5_150) gX7_join_X7_isPlace hw hl.1 dX7_join_168 rfl rfl rfl (by decide +kernel) ⟨Nat.le_of_ble_eq_true rfl, Nat.le_of_ble_eq_true rfl⟩ rfl rfl (Nat.le_of_ble_eq_true rfl) (fun r168 M168 H locs hw h => ?_)
    refine lv_if_eq (tgt := 224) hx hb dX7_join_171 (by decide) (fun c171 => ?_) (fun c171 => ?_)
    · have hw := hw.1 c171
      obtain ⟨x4_224, ex4_224⟩ : ∃ z : Int32, z = x4 + 1 := ⟨_, rfl⟩
      have hw := hw x4_224 ex4_224
      refine lv_iinc (v := x4_224) (lv' := [(4, .int x4_224), (6, .int x6_159), (5, .int x5_150), (0, .ref (ad 0)), (1, .int x1), (2, .int x2), (3, .int x3), (7, .int s0)]) hx hb dX7_join_224 hl (k := 6) rfl (by rw [ex4_224]; rfl) (by decide) rfl (fun ls hl => ?_)
      refine lv_goto (tgt := 60) hx hb dX7_join_227 (by decide) ?_
      exact hR x3 x4_224 M168 _ _ ls hw h (lv_sub hl [3, 4, 5, 6, 0] rfl)
    · have hw := hw.2 c171
      refine lv_iload hx hb dX7_join_174 (lv_at hl 0 rfl) ?_
      refine m_callS (n := 1) X h (qX7_isPlace l D cA n x6_159) gX7_join_X7_isPlace hw hl.1 dX7_join_176 rfl rfl rfl (by decide +kernel) ⟨Nat.le_of_ble_eq_true rfl, Nat.le_of_ble_eq_true rfl⟩ rfl rfl (Nat.le_of_ble_eq_true rfl) (fun r176 M176 H locs hw h => ?_)
      refine lv_if_eq (tgt := 224) hx hb dX7_join_179 (by decide) (fun c179 => ?_) (fun c179 => ?_)
      · have hw := hw.1 c179
        obtain ⟨x4_224, ex4_224⟩ : ∃ z : Int32, z = x4 + 1 := ⟨_, rfl⟩
        have hw := hw x4_224 ex4_224
        refine lv_iinc (v := x4_224) (lv' := [(4, .int x4_224), (6, .int x6_159), (5, .int x5_150), (0, .ref (ad 0)), (1, .int x1), (2, .int x2), (3, .int x3), (7, .int s0)]) hx hb dX7_join_224 hl (k := 6) rfl (by rw [ex4_224]; rfl) (by decide) rfl (fun ls hl => ?_)
        refine lv_goto (tgt := 60) hx hb dX7_join_227 (by decide) ?_
        exact hR x3 x4_224 M176 _ _ ls hw h (lv_sub hl [3, 4, 5, 6, 0] rfl)
      · have hw := hw.2 c179
        refine lv_aload_n hx hb dX7_join_182 rfl (lv_at hl 2 rfl) ?_
        refine m_get X inX7_join h 3 (by decide) (by decide +kernel) rfl rfl dX7_join_183 ?_
        refine lv_bipush (v := 24) hx hb dX7_join_186 (by decide) ?_
        refine lv_iload_n hx hb dX7_join_188 rfl (lv_at hl 4 rfl) ?_
        refine lv_imul hx hb dX7_join_189 ?_
        refine lv_iload hx hb dX7_join_190 (lv_at hl 0 rfl) ?_
        refine lv_iadd hx hb dX7_join_192 ?_
        obtain ⟨hk2, hw⟩ := hw
        refine m_iald X h 3 (by decide) (by decide) rfl (n := 384) rfl hk2 dX7_join_193 ?_
        refine lv_iload hx hb dX7_join_194 (lv_at hl 1 rfl) ?_
        refine lv_ishr hx hb dX7_join_196 ?_
        refine lv_iconst (v := 1) hx hb dX7_join_197 (by decide) ?_
        refine lv_iand hx hb dX7_join_198 ?_
        refine lv_if_ne (tgt := 224) hx hb dX7_join_199 (by decide) (fun c199 => ?_) (fun c199 => ?_)
        · have hw := hw.1 c199
          obtain ⟨x4_224, ex4_224⟩ : ∃ z : Int32, z = x4 + 1 := ⟨_, rfl⟩
          have hw := hw x4_224 ex4_224
          refine lv_iinc (v := x4_224) (lv' := [(4, .int x4_224), (6, .int x6_159), (5, .int x5_150), (0, .ref (ad 0)), (1, .int x1), (2, .int x2), (3, .int x3), (7, .int s0)]) hx hb dX7_join_224 hl (k := 6) rfl (by rw [ex4_224]; rfl) (by decide) rfl (fun ls hl => ?_)
          refine lv_goto (tgt := 60) hx hb dX7_join_227 (by decide) ?_
          exact hR x3 x4_224 M176 _ _ ls hw h (lv_sub hl [3, 4, 5, 6, 0] rfl)
        · have hw := hw.2 c199
          refine lv_aload_n hx hb dX7_join_202 rfl (lv_at hl 2 rfl) ?_
          refine m_get X inX7_join h 3 (by decide) (by decide +kernel) rfl rfl dX7_join_203 ?_
          refine lv_bipush (v := 24) hx hb dX7_join_206 (by decide) ?_
          refine lv_iload_n hx hb dX7_join_208 rfl (lv_at hl 4 rfl) ?_
          refine lv_imul hx hb dX7_join_209 ?_
          refine lv_iload hx hb dX7_join_210 (lv_at hl 0 rfl) ?_
          refine lv_iadd hx hb dX7_join_212 ?_
          refine lv_dup2_11 hx hb dX7_join_213 rfl rfl ?_
          refine m_iald X h 3 (by decide) (by decide) rfl (n := 384) rfl hk2 dX7_join_214 ?_
          refine lv_iconst (v := 1) hx hb dX7_join_215 (by decide) ?_
          refine lv_iload hx hb dX7_join_216 (lv_at hl 1 rfl) ?_
          refine lv_ishl hx hb dX7_join_218 ?_
          refine lv_ior hx hb dX7_join_219 ?_
          refine m_iast X h 3 (by decide) (by decide) rfl (n := 384) rfl hk2 dX7_join_220 (fun M220 eM220 H locs h => ?_)
          have hw := hw M220 eM220
          obtain ⟨x3_221, ex3_221⟩ : ∃ z : Int32, z = x3 + 1 := ⟨_, rfl⟩
          have hw := hw x3_221 ex3_221
          refine lv_iinc (v := x3_221) (lv' := [(3, .int x3_221), (6, .int x6_159), (5, .int x5_150), (0, .ref (ad 0)), (1, .int x1), (2, .int x2), (4, .int x4), (7, .int s0)]) hx hb dX7_join_221 hl (k := 5) rfl (by rw [ex3_221]; rfl) (by decide) rfl (fun ls hl => ?_)
          obtain ⟨x4_224, ex4_224⟩ : ∃ z : Int32, z = x4 + 1 := ⟨_, rfl⟩
          have hw := hw x4_224 ex4_224
          refine lv_iinc (v := x4_224) (lv' := [(4, .int x4_224), (3, .int x3_221), (6, .int x6_159), (5, .int x5_150), (0, .ref (ad 0)), (1, .int x1), (2, .int x2), (7, .int s0)]) hx hb dX7_join_224 hl (k := 6) rfl (by rw [ex4_224]; rfl) (by decide) rfl (fun ls hl => ?_)
          refine lv_goto (tgt := 60) hx hb dX7_join_227 (by decide) ?_
          exact hR x3_221 x4_224 M220 _ _ ls hw h (lv_sub hl [4, 5, 6, 1, 0] rfl)
set_option maxHeartbeats 4000000 in
set_option maxRecDepth 100000 in
theorem kX7_join_60 {n : Nat} {E230 : Int32 → mM → Prop} (X : gX p s m args meth c D cA A cX7_join 10 wsX7_join RX7) (x1 : Int32) (x2 : Int32)
    (hE230 : ∀ (y3 : Int32) (M : mM) (H : Heap) (locs : List Loc) (ls : Array Slot), E230 y3 M → mH D cA ad A s.heap M H locs → lv_has ls 10 [(0, .ref (ad 0)), (3, .int y3)] → W p l e (headSpec wsX7_join rmX7_join).room s m args below meth c H locs 0 0 Z (F0 m 230 ls [])) :
    ∀ (k : Nat) (x3 : Int32) (x4 : Int32) (M : mM) (H : Heap) (locs : List Loc) (ls : Array Slot), wpX7_join_60 n E230 x1 x2 k x3 x4 M → mH D cA ad A s.heap M H locs → lv_has ls 10 [(0, .ref (ad 0)), (1, .int x1), (2, .int x2), (3, .int x3), (4, .int x4)] → W p l e (headSpec wsX7_join rmX7_join).room s m args below meth c H locs 0 0 Z (F0 m 60 ls []) := by
  intro k
  induction k with
  | zero => intro x3 x4 M H locs ls hw; exact hw.elim
  | succ k ih =>
    intro x3 x4 M H locs ls hw h hl
    rw [wpX7_join_60] at hw
    obtain ⟨hx, hb, hml, hown, hts, hK, hA⟩ := id X
    refine lv_iload hx hb dX7_join_60 (lv_at hl 4 rfl) ?_
    refine lv_sipush (v := 576) hx hb dX7_join_62 (by decide) ?_
    refine lv_icmp_ge (tgt := 230) hx hb dX7_join_65 (by decide) (fun c65 => ?_) (fun c65 => ?_)
    · have hw := hw.1 c65
      exact hE230 x3 M _ _ ls hw h (lv_sub hl [0, 3] rfl)
    · have hw := hw.2 c65
      refine lv_iload hx hb dX7_join_68 (lv_at hl 4 rfl) ?_
      refine lv_bipush (v := 24) hx hb dX7_join_70 (by decide) ?_
      refine lv_irem hx hb dX7_join_72 (by decide) ?_
      refine lv_topi (fun x5_73 ex5_73 => ?_)
      have hw := hw x5_73 ex5_73
      refine lv_istore (lv' := [(5, .int x5_73), (0, .ref (ad 0)), (1, .int x1), (2, .int x2), (3, .int x3), (4, .int x4)]) hx hb dX7_join_73 hl (by decide) rfl (fun ls hl => ?_)
      refine lv_iload hx hb dX7_join_75 (lv_at hl 5 rfl) ?_
      refine lv_bipush (v := 24) hx hb dX7_join_77 (by decide) ?_
      refine lv_idiv hx hb dX7_join_79 (by decide) ?_
      refine lv_topi (fun x6_80 ex6_80 => ?_)
      have hw := hw x6_80 ex6_80
      refine lv_istore (lv' := [(6, .int x6_80), (5, .int x5_73), (0, .ref (ad 0)), (1, .int x1), (2, .int x2), (3, .int x3), (4, .int x4)]) hx hb dX7_join_80 hl (by decide) rfl (fun ls hl => ?_)
      refine lv_aload_n hx hb dX7_join_82 rfl (lv_at hl 2 rfl) ?_
      refine m_get X inX7_join h 3 (by decide) (by decide +kernel) rfl rfl dX7_join_83 ?_
      refine lv_bipush (v := 24) hx hb dX7_join_86 (by decide) ?_
      refine lv_iload_n hx hb dX7_join_88 rfl (lv_at hl 3 rfl) ?_
      refine lv_imul hx hb dX7_join_89 ?_
      refine lv_iload hx hb dX7_join_90 (lv_at hl 0 rfl) ?_
      refine lv_iadd hx hb dX7_join_92 ?_
      obtain ⟨hk1, hw⟩ := hw
      refine m_iald X h 3 (by decide) (by decide) rfl (n := 384) rfl hk1 dX7_join_93 ?_
      refine lv_iload hx hb dX7_join_94 (lv_at hl 1 rfl) ?_
      refine lv_ishr hx hb dX7_join_96 ?_
      refine lv_iconst (v := 1) hx hb dX7_join_97 (by decide) ?_
      refine lv_iand hx hb dX7_join_98 ?_
      refine lv_iconst (v := 1) hx hb dX7_join_99 (by decide) ?_
      refine lv_icmp_ne (tgt := 107) hx hb dX7_join_100 (by decide) (fun c100 => ?_) (fun c100 => ?_)
      · have hw := hw.1 c100
        refine lv_iconst (v := 0) hx hb dX7_join_107 (by decide) ?_
        exact kX7_join_108 X x1 x2 x3 x4 x5_73 x6_80 ih 0 M _ _ ls hw h (lv_sub hl [2, 3, 4, 5, 6, 1, 0] rfl)
      · have hw := hw.2 c100
        refine lv_iconst (v := 1) hx hb dX7_join_103 (by decide) ?_
        refine lv_goto (tgt := 108) hx hb dX7_join_104 (by decide) ?_
        exact kX7_join_108 X x1 x2 x3 x4 x5_73 x6_80 ih 1 M _ _ ls hw h (lv_sub hl [2, 3, 4, 5, 6, 1, 0] rfl)
set_option maxHeartbeats 4000000 in
set_option maxRecDepth 100000 in
theorem qX7_join (l : Launch) (D : va_G) (cA : Nat → ClassId) (n : Nat) (x1 : Int32) (x2 : Int32) : mMi l D cA yX7_join wsX7_join rmX7_join (fun ad => [.ref (ad 0), .int x1, .int x2]) (wpX7_join n x1 x2) := by
  intro ad sz M Q hw
  unfold wpX7_join at hw
  refine m_enter (cc := cX7_join) (maxL := 10) (ret := some .int) (own := RX7) (by decide) rfl rfl (Nat.le_of_ble_eq_true rfl) ?_
  intro p e s m args below meth c hsz X hr hlocks h ls hl
  have hret := @m_iret p l e (headSpec wsX7_join rmX7_join).room s m args below meth c cX7_join D cA ad (va_A (mws cA ad M) sz) Q X.1 X.2.1 hr hlocks X.2.2.2.2.2.1
  obtain ⟨hx, hb, hml, hown, hts, hK, hA⟩ := id X
  have hl : lv_has ls 10 [(0, .ref (ad 0)), (1, .int x1), (2, .int x2)] := hl
  refine lv_aload_n hx hb dX7_join_0 rfl (lv_at hl 0 rfl) ?_
  refine lv_iconst (v := 0) hx hb dX7_join_1 (by decide) ?_
  refine m_put X inX7_join h 0 (by decide) (by decide +kernel) rfl rfl rfl rfl dX7_join_2 (fun M2 eM2 H locs h => ?_)
  have hw := hw M2 eM2
  refine lv_iload_n hx hb dX7_join_5 rfl (lv_at hl 1 rfl) ?_
  refine lv_iload_n hx hb dX7_join_6 rfl (lv_at hl 2 rfl) ?_
  refine lv_icmp_ne (tgt := 16) hx hb dX7_join_7 (by decide) (fun c7 => ?_) (fun c7 => ?_)
  · have hw := hw.1 c7
    refine lv_aload_n hx hb dX7_join_16 rfl (lv_at hl 0 rfl) ?_
    refine lv_iload_n hx hb dX7_join_17 rfl (lv_at hl 1 rfl) ?_
    refine m_calli (n := 1) X h (qX7_isPrint l D cA n x1) gX7_join_X7_isPrint hw hl.1 dX7_join_18 rfl rfl rfl (by decide +kernel) ⟨Nat.le_of_ble_eq_true rfl, Nat.le_of_ble_eq_true rfl⟩ rfl rfl (Nat.le_of_ble_eq_true rfl) (fun r18 M18 H locs hw h => ?_)
    refine lv_if_eq (tgt := 32) hx hb dX7_join_21 (by decide) (fun c21 => ?_) (fun c21 => ?_)
    · have hw := hw.1 c21
      exact kX7_join_32 X hret M18 _ _ ls hw h (lv_sub hl [0] rfl)
    · have hw := hw.2 c21
      refine lv_aload_n hx hb dX7_join_24 rfl (lv_at hl 0 rfl) ?_
      refine lv_iload_n hx hb dX7_join_25 rfl (lv_at hl 2 rfl) ?_
      refine m_calli (n := 1) X h (qX7_isPrint l D cA n x2) gX7_join_X7_isPrint hw hl.1 dX7_join_26 rfl rfl rfl (by decide +kernel) ⟨Nat.le_of_ble_eq_true rfl, Nat.le_of_ble_eq_true rfl⟩ rfl rfl (Nat.le_of_ble_eq_true rfl) (fun r26 M26 H locs hw h => ?_)
      refine lv_if_ne (tgt := 39) hx hb dX7_join_29 (by decide) (fun c29 => ?_) (fun c29 => ?_)
      · have hw := hw.1 c29
        refine lv_aload_n hx hb dX7_join_39 rfl (lv_at hl 0 rfl) ?_
        refine lv_iload_n hx hb dX7_join_40 rfl (lv_at hl 1 rfl) ?_
        refine m_callv (n := 1) X h (qX7_findMarks l D cA n x1) gX7_join_X7_findMarks hw hl.1 dX7_join_41 rfl rfl rfl (by decide +kernel) ⟨Nat.le_of_ble_eq_true rfl, Nat.le_of_ble_eq_true rfl⟩ rfl rfl (Nat.le_of_ble_eq_true rfl) (fun M41 H locs hw h => ?_)
        refine lv_aload_n hx hb dX7_join_44 rfl (lv_at hl 0 rfl) ?_
        refine lv_iload_n hx hb dX7_join_45 rfl (lv_at hl 2 rfl) ?_
        refine m_callv (n := 1) X h (qX7_findMarks l D cA n x2) gX7_join_X7_findMarks hw hl.1 dX7_join_46 rfl rfl rfl (by decide +kernel) ⟨Nat.le_of_ble_eq_true rfl, Nat.le_of_ble_eq_true rfl⟩ rfl rfl (Nat.le_of_ble_eq_true rfl) (fun M46 H locs hw h => ?_)
        refine lv_aload_n hx hb dX7_join_49 rfl (lv_at hl 0 rfl) ?_
        refine lv_iload_n hx hb dX7_join_50 rfl (lv_at hl 1 rfl) ?_
        refine lv_iload_n hx hb dX7_join_51 rfl (lv_at hl 2 rfl) ?_
        refine m_callv (n := 2) X h (qX7_findBest l D cA n x1 x2) gX7_join_X7_findBest hw hl.1 dX7_join_52 rfl rfl rfl (by decide +kernel) ⟨Nat.le_of_ble_eq_true rfl, Nat.le_of_ble_eq_true rfl⟩ rfl rfl (Nat.le_of_ble_eq_true rfl) (fun M52 H locs hw h => ?_)
        refine lv_iconst (v := 0) hx hb dX7_join_55 (by decide) ?_
        refine lv_istore_n (lv' := [(3, .int 0), (0, .ref (ad 0)), (1, .int x1), (2, .int x2)]) hx hb dX7_join_56 rfl hl (by decide) rfl (fun ls hl => ?_)
        refine lv_iconst (v := 0) hx hb dX7_join_57 (by decide) ?_
        refine lv_istore (lv' := [(4, .int 0), (3, .int 0), (0, .ref (ad 0)), (1, .int x1), (2, .int x2)]) hx hb dX7_join_58 hl (by decide) rfl (fun ls hl => ?_)
        refine kX7_join_60 X x1 x2 (fun y3_60 M_60 H locs ls hw h hl => ?_) n 0 0 M52 _ _ ls hw h (lv_sub hl [2, 3, 4, 1, 0] rfl)
        refine lv_aload_n hx hb dX7_join_230 rfl (lv_at hl 0 rfl) ?_
        refine lv_iload_n hx hb dX7_join_231 rfl (lv_at hl 1 rfl) ?_
        refine m_calli (n := 1) X h (qX7_told l D cA n y3_60) gX7_join_X7_told hw hl.1 dX7_join_232 rfl rfl rfl (by decide +kernel) ⟨Nat.le_of_ble_eq_true rfl, Nat.le_of_ble_eq_true rfl⟩ rfl rfl (Nat.le_of_ble_eq_true rfl) (fun r232 M232 H locs hw h => ?_)
        exact hret r232 M232 _ _ _ ls hw h dX7_join_235
      · have hw := hw.2 c29
        exact kX7_join_32 X hret M26 _ _ ls hw h (lv_sub hl [0] rfl)
  · have hw := hw.2 c7
    refine lv_aload_n hx hb dX7_join_10 rfl (lv_at hl 0 rfl) ?_
    refine lv_iconst (v := (-1)) hx hb dX7_join_11 (by decide) ?_
    refine m_calli (n := 1) X h (qX7_told l D cA n (-1)) gX7_join_X7_told hw hl.1 dX7_join_12 rfl rfl rfl (by decide +kernel) ⟨Nat.le_of_ble_eq_true rfl, Nat.le_of_ble_eq_true rfl⟩ rfl rfl (Nat.le_of_ble_eq_true rfl) (fun r12 M12 H locs hw h => ?_)
    exact hret r12 M12 _ _ _ ls hw h dX7_join_15
def rmX7_count : Room := { frames := 0, cells := 0, slots := 0, locals := 0 }
theorem inX7_count : ∀ w ∈ wsX70, w ∈ wsX7_count := fun w h => List.mem_cons_of_mem _ (List.mem_append_right _ h)
set_option maxHeartbeats 4000000 in
set_option maxRecDepth 100000 in
theorem kX7_count_24 {n : Nat} {E51 : Int32 → mM → Prop} (X : gX p s m args meth c D cA A cX7_count 5 wsX7_count RX7) (x3 : Int32)
    (hE51 : ∀ (y2 : Int32) (M : mM) (H : Heap) (locs : List Loc) (ls : Array Slot), E51 y2 M → mH D cA ad A s.heap M H locs → lv_has ls 5 [(0, .ref (ad 0)), (2, .int y2), (3, .int x3)] → W p l e (headSpec wsX7_count rmX7_count).room s m args below meth c H locs 0 0 Z (F0 m 51 ls [])) :
    ∀ (k : Nat) (x2 : Int32) (x4 : Int32) (M : mM) (H : Heap) (locs : List Loc) (ls : Array Slot), wpX7_count_24 n E51 x3 k x2 x4 M → mH D cA ad A s.heap M H locs → lv_has ls 5 [(0, .ref (ad 0)), (2, .int x2), (3, .int x3), (4, .int x4)] → W p l e (headSpec wsX7_count rmX7_count).room s m args below meth c H locs 0 0 Z (F0 m 24 ls []) := by
  intro k
  induction k with
  | zero => intro x2 x4 M H locs ls hw; exact hw.elim
  | succ k ih =>
    intro x2 x4 M H locs ls hw h hl
    rw [wpX7_count_24] at hw
    obtain ⟨hx, hb, hml, hown, hts, hK, hA⟩ := id X
    refine lv_iload hx hb dX7_count_24 (lv_at hl 3 rfl) ?_
    refine lv_bipush (v := 24) hx hb dX7_count_26 (by decide) ?_
    refine lv_icmp_ge (tgt := 51) hx hb dX7_count_28 (by decide) (fun c28 => ?_) (fun c28 => ?_)
    · have hw := hw.1 c28
      exact hE51 x2 M _ _ ls hw h (lv_sub hl [0, 1, 2] rfl)
    · have hw := hw.2 c28
      refine lv_iload_n hx hb dX7_count_31 rfl (lv_at hl 1 rfl) ?_
      refine lv_aload_n hx hb dX7_count_32 rfl (lv_at hl 0 rfl) ?_
      refine m_get X inX7_count h 3 (by decide) (by decide +kernel) rfl rfl dX7_count_33 ?_
      refine lv_iload_n hx hb dX7_count_36 rfl (lv_at hl 2 rfl) ?_
      obtain ⟨hk1, hw⟩ := hw
      refine m_iald X h 3 (by decide) (by decide) rfl (n := 384) rfl hk1 dX7_count_37 ?_
      refine lv_iload hx hb dX7_count_38 (lv_at hl 3 rfl) ?_
      refine lv_ishr hx hb dX7_count_40 ?_
      refine lv_iconst (v := 1) hx hb dX7_count_41 (by decide) ?_
      refine lv_iand hx hb dX7_count_42 ?_
      refine lv_iadd hx hb dX7_count_43 ?_
      refine lv_topi (fun x2_44 ex2_44 => ?_)
      have hw := hw x2_44 ex2_44
      refine lv_istore_n (lv' := [(2, .int x2_44), (0, .ref (ad 0)), (3, .int x3), (4, .int x4)]) hx hb dX7_count_44 rfl hl (by decide) rfl (fun ls hl => ?_)
      obtain ⟨x4_45, ex4_45⟩ : ∃ z : Int32, z = x4 + 1 := ⟨_, rfl⟩
      have hw := hw x4_45 ex4_45
      refine lv_iinc (v := x4_45) (lv' := [(4, .int x4_45), (2, .int x2_44), (0, .ref (ad 0)), (3, .int x3)]) hx hb dX7_count_45 hl (k := 3) rfl (by rw [ex4_45]; rfl) (by decide) rfl (fun ls hl => ?_)
      refine lv_goto (tgt := 24) hx hb dX7_count_48 (by decide) ?_
      exact ih x2_44 x4_45 M _ _ ls hw h (lv_sub hl [2, 1, 3, 0] rfl)
set_option maxHeartbeats 4000000 in
set_option maxRecDepth 100000 in
theorem kX7_count_14 {n : Nat} {Q : Int32 → mM → Prop} (X : gX p s m args meth c D cA A cX7_count 5 wsX7_count RX7)
    (hret : ∀ (r : Int32) (M : mM) (H : Heap) (locs : List Loc) (pc : Nat) (ls : Array Slot), Q r M → mH D cA ad A s.heap M H locs → decode cX7_count pc = .ok (.ireturn, 1) → W p l e (headSpec wsX7_count rmX7_count).room s m args below meth c H locs 0 0 Z (F0 m pc ls [.int r])) :
    ∀ (k : Nat) (x2 : Int32) (x3 : Int32) (M : mM) (H : Heap) (locs : List Loc) (ls : Array Slot), wpX7_count_14 n Q k x2 x3 M → mH D cA ad A s.heap M H locs → lv_has ls 5 [(0, .ref (ad 0)), (2, .int x2), (3, .int x3)] → W p l e (headSpec wsX7_count rmX7_count).room s m args below meth c H locs 0 0 Z (F0 m 14 ls []) := by
  intro k
  induction k with
  | zero => intro x2 x3 M H locs ls hw; exact hw.elim
  | succ k ih =>
    intro x2 x3 M H locs ls hw h hl
    rw [wpX7_count_14] at hw
    obtain ⟨hx, hb, hml, hown, hts, hK, hA⟩ := id X
    refine lv_iload_n hx hb dX7_count_14 rfl (lv_at hl 2 rfl) ?_
    refine lv_sipush (v := 384) hx hb dX7_count_15 (by decide) ?_
    refine lv_icmp_ge (tgt := 57) hx hb dX7_count_18 (by decide) (fun c18 => ?_) (fun c18 => ?_)
    · have hw := hw.1 c18
      refine lv_iload_n hx hb dX7_count_57 rfl (lv_at hl 1 rfl) ?_
      exact hret x2 M _ _ _ ls hw h dX7_count_58
    · have hw := hw.2 c18
      refine lv_iconst (v := 0) hx hb dX7_count_21 (by decide) ?_
      refine lv_istore (lv' := [(4, .int 0), (0, .ref (ad 0)), (2, .int x2), (3, .int x3)]) hx hb dX7_count_22 hl (by decide) rfl (fun ls hl => ?_)
      refine kX7_count_24 X x3 (fun y2_24 M_24 H locs ls hw h hl => ?_) n x2 0 M _ _ ls hw h (lv_sub hl [1, 2, 3, 0] rfl)
      obtain ⟨x3_51, ex3_51⟩ : ∃ z : Int32, z = x3 + 1 := ⟨_, rfl⟩
      have hw := hw x3_51 ex3_51
      refine lv_iinc (v := x3_51) (lv' := [(3, .int x3_51), (0, .ref (ad 0)), (2, .int y2_24)]) hx hb dX7_count_51 hl (k := 2) rfl (by rw [ex3_51]; rfl) (by decide) rfl (fun ls hl => ?_)
      refine lv_goto (tgt := 14) hx hb dX7_count_54 (by decide) ?_
      exact ih y2_24 x3_51 M_24 _ _ ls hw h (lv_sub hl [1, 2, 0] rfl)
set_option maxHeartbeats 4000000 in
set_option maxRecDepth 100000 in
theorem qX7_count (l : Launch) (D : va_G) (cA : Nat → ClassId) (n : Nat) (x1 : Int32) : mMi l D cA yX7_count wsX7_count rmX7_count (fun ad => [.ref (ad 0), .int x1]) (wpX7_count n x1) := by
  intro ad sz M Q hw
  unfold wpX7_count at hw
  refine m_enter (cc := cX7_count) (maxL := 5) (ret := some .int) (own := RX7) (by decide) rfl rfl (Nat.le_of_ble_eq_true rfl) ?_
  intro p e s m args below meth c hsz X hr hlocks h ls hl
  have hret := @m_iret p l e (headSpec wsX7_count rmX7_count).room s m args below meth c cX7_count D cA ad (va_A (mws cA ad M) sz) Q X.1 X.2.1 hr hlocks X.2.2.2.2.2.1
  obtain ⟨hx, hb, hml, hown, hts, hK, hA⟩ := id X
  have hl : lv_has ls 5 [(0, .ref (ad 0)), (1, .int x1)] := hl
  refine lv_aload_n hx hb dX7_count_0 rfl (lv_at hl 0 rfl) ?_
  refine lv_iconst (v := 0) hx hb dX7_count_1 (by decide) ?_
  refine m_put X inX7_count h 0 (by decide) (by decide +kernel) rfl rfl rfl rfl dX7_count_2 (fun M2 eM2 H locs h => ?_)
  have hw := hw M2 eM2
  refine lv_iload_n hx hb dX7_count_5 rfl (lv_at hl 1 rfl) ?_
  refine lv_iconst (v := 1) hx hb dX7_count_6 (by decide) ?_
  refine lv_icmp_ne (tgt := 59) hx hb dX7_count_7 (by decide) (fun c7 => ?_) (fun c7 => ?_)
  · have hw := hw.1 c7
    refine lv_iload_n hx hb dX7_count_59 rfl (lv_at hl 1 rfl) ?_
    refine lv_if_ne (tgt := 70) hx hb dX7_count_60 (by decide) (fun c60 => ?_) (fun c60 => ?_)
    · have hw := hw.1 c60
      refine lv_iload_n hx hb dX7_count_70 rfl (lv_at hl 1 rfl) ?_
      refine lv_iconst (v := 2) hx hb dX7_count_71 (by decide) ?_
      refine lv_icmp_ne (tgt := 82) hx hb dX7_count_72 (by decide) (fun c72 => ?_) (fun c72 => ?_)
      · have hw := hw.1 c72
        refine lv_iconst (v := (-1)) hx hb dX7_count_82 (by decide) ?_
        exact hret (-1) M2 _ _ _ ls hw h dX7_count_83
      · have hw := hw.2 c72
        refine lv_aload_n hx hb dX7_count_75 rfl (lv_at hl 0 rfl) ?_
        refine m_get X inX7_count h 4 (by decide) (by decide +kernel) rfl rfl dX7_count_76 ?_
        refine lv_goto (tgt := 83) hx hb dX7_count_79 (by decide) ?_
        exact hret (M2 0 4) M2 _ _ _ ls hw h dX7_count_83
    · have hw := hw.2 c60
      refine lv_aload_n hx hb dX7_count_63 rfl (lv_at hl 0 rfl) ?_
      refine m_get X inX7_count h 2 (by decide) (by decide +kernel) rfl rfl dX7_count_64 ?_
      refine lv_goto (tgt := 83) hx hb dX7_count_67 (by decide) ?_
      exact hret (M2 0 2) M2 _ _ _ ls hw h dX7_count_83
  · have hw := hw.2 c7
    refine lv_iconst (v := 0) hx hb dX7_count_10 (by decide) ?_
    refine lv_istore_n (lv' := [(2, .int 0), (0, .ref (ad 0)), (1, .int x1)]) hx hb dX7_count_11 rfl hl (by decide) rfl (fun ls hl => ?_)
    refine lv_iconst (v := 0) hx hb dX7_count_12 (by decide) ?_
    refine lv_istore_n (lv' := [(3, .int 0), (2, .int 0), (0, .ref (ad 0)), (1, .int x1)]) hx hb dX7_count_13 rfl hl (by decide) rfl (fun ls hl => ?_)
    exact kX7_count_14 X hret n 0 0 M2 _ _ ls hw h (lv_sub hl [2, 1, 0] rfl)
def rmX7_status : Room := { frames := 0, cells := 0, slots := 0, locals := 0 }
theorem inX7_status : ∀ w ∈ wsX70, w ∈ wsX7_status := fun w h => List.mem_cons_of_mem _ (List.mem_append_right _ h)
set_option maxHeartbeats 4000000 in
set_option maxRecDepth 100000 in
theorem qX7_status (l : Launch) (D : va_G) (cA : Nat → ClassId) (n : Nat) : mMi l D cA yX7_status wsX7_status rmX7_status (fun ad => [.ref (ad 0)]) (wpX7_status n) := by
  intro ad sz M Q hw
  unfold wpX7_status at hw
  refine m_enter (cc := cX7_status) (maxL := 1) (ret := some .int) (own := RX7) (by decide) rfl rfl (Nat.le_of_ble_eq_true rfl) ?_
  intro p e s m args below meth c hsz X hr hlocks h ls hl
  have hret := @m_iret p l e (headSpec wsX7_status rmX7_status).room s m args below meth c cX7_status D cA ad (va_A (mws cA ad M) sz) Q X.1 X.2.1 hr hlocks X.2.2.2.2.2.1
  obtain ⟨hx, hb, hml, hown, hts, hK, hA⟩ := id X
  have hl : lv_has ls 1 [(0, .ref (ad 0))] := hl
  refine lv_aload_n hx hb dX7_status_0 rfl (lv_at hl 0 rfl) ?_
  refine lv_iconst (v := 0) hx hb dX7_status_1 (by decide) ?_
  refine m_put X inX7_status h 0 (by decide) (by decide +kernel) rfl rfl rfl rfl dX7_status_2 (fun M2 eM2 H locs h => ?_)
  have hw := hw M2 eM2
  refine lv_aload_n hx hb dX7_status_5 rfl (lv_at hl 0 rfl) ?_
  refine m_get X inX7_status h 1 (by decide) (by decide +kernel) rfl rfl dX7_status_6 ?_
  exact hret (M2 0 1) M2 _ _ _ ls hw h dX7_status_9
end KM
