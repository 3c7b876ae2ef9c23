section KM
variable {p : Program} {l : Launch} {e : Env} {s : State} {m : MethodId} {args : Array Value} {below : List Frame} {meth : Method} {c : Code} {Z : State → Prop} {D : va_G} {cA : Nat → ClassId} {A : Nat → Prop} {ad : Nat → Nat}
def rmX7_pass : Room := { frames := 3, cells := 0, slots := 0, locals := 71 }
theorem inX7_pass : ∀ w ∈ wsX70, w ∈ wsX7_pass := fun w h => List.mem_cons_of_mem _ (List.mem_append_right _ h)
set_option maxHeartbeats 4000000 in
set_option maxRecDepth 100000 in
theorem kX7_pass_201 {n : Nat} {R : Int32 → Int32 → mM → Prop} (X : gX p s m args meth c D cA A cX7_pass 10 wsX7_pass RX7) (x1 : Int32) (x3 : Int32)
    (hR : ∀ (y2 : Int32) (y3 : Int32) (M : mM) (H : Heap) (locs : List Loc) (ls : Array Slot), R y2 y3 M → mH D cA ad A s.heap M H locs → lv_has ls 10 [(0, .ref (ad 0)), (1, .int x1), (2, .int y2), (3, .int y3)] → W p l e (headSpec wsX7_pass rmX7_pass).room s m args below meth c H locs 0 0 Z (F0 m 4 ls [])) :
    ∀ (s0 : Int32) (M : mM) (H : Heap) (locs : List Loc) (ls : Array Slot), wpX7_pass_201 n R x1 x3 s0 M → mH D cA ad A s.heap M H locs → lv_has ls 10 [(0, .ref (ad 0)), (1, .int x1), (3, .int x3)] → W p l e (headSpec wsX7_pass rmX7_pass).room s m args below meth c H locs 0 0 Z (F0 m 201 ls [.int s0]) := by
  intro s0 M H locs ls hw h hl
  unfold wpX7_pass_201 at hw
  obtain ⟨hx, hb, hml, hown, hts, hK, hA⟩ := id X
  refine lv_istore_n (lv' := [(2, .int s0), (0, .ref (ad 0)), (1, .int x1), (3, .int x3)]) hx hb dX7_pass_201 rfl hl (by decide) rfl (fun ls hl => ?_)
  obtain ⟨x3_202, ex3_202⟩ : ∃ z : Int32, z = x3 + 1 := ⟨_, rfl⟩
  have hw := hw x3_202 ex3_202
  refine lv_iinc (v := x3_202) (lv' := [(3, .int x3_202), (2, .int s0), (0, .ref (ad 0)), (1, .int x1)]) hx hb dX7_pass_202 hl (k := 3) rfl (by rw [ex3_202]; rfl) (by decide) rfl (fun ls hl => ?_)
  refine lv_goto (tgt := 4) hx hb dX7_pass_205 (by decide) ?_
  exact hR s0 x3_202 M _ _ ls hw h (lv_sub hl [2, 3, 1, 0] rfl)
set_option maxHeartbeats 4000000 in
set_option maxRecDepth 100000 in
theorem kX7_pass_182 {n : Nat} {R : Int32 → Int32 → mM → Prop} (X : gX p s m args meth c D cA A cX7_pass 10 wsX7_pass RX7) (x1 : Int32) (x2 : Int32) (x3 : Int32)
    (hR : ∀ (y2 : Int32) (y3 : Int32) (M : mM) (H : Heap) (locs : List Loc) (ls : Array Slot), R y2 y3 M → mH D cA ad A s.heap M H locs → lv_has ls 10 [(0, .ref (ad 0)), (1, .int x1), (2, .int y2), (3, .int y3)] → W p l e (headSpec wsX7_pass rmX7_pass).room s m args below meth c H locs 0 0 Z (F0 m 4 ls [])) :
    ∀ (s0 : Int32) (M : mM) (H : Heap) (locs : List Loc) (ls : Array Slot), wpX7_pass_182 n R x1 x2 x3 s0 M → mH D cA ad A s.heap M H locs → lv_has ls 10 [(0, .ref (ad 0)), (1, .int x1), (2, .int x2), (3, .int x3)] → W p l e (headSpec wsX7_pass rmX7_pass).room s m args below meth c H locs 0 0 Z (F0 m 182 ls [.int s0, .int x3, .ref (ad 6)]) := by
  intro s0 M H locs ls hw h hl
  unfold wpX7_pass_182 at hw
  obtain ⟨hx, hb, hml, hown, hts, hK, hA⟩ := id X
  obtain ⟨hk2, hw⟩ := hw
  obtain ⟨hk3, hw⟩ := hw
  refine m_zast X h 6 (by decide) (by decide) rfl (n := 576) rfl hk2 hk3 dX7_pass_182 (fun M182 eM182 H locs h => ?_)
  have hw := hw M182 eM182
  refine lv_iload_n hx hb dX7_pass_183 rfl (lv_at hl 2 rfl) ?_
  refine lv_if_ne (tgt := 196) hx hb dX7_pass_184 (by decide) (fun c184 => ?_) (fun c184 => ?_)
  · have hw := hw.1 c184
    refine lv_iconst (v := 1) hx hb dX7_pass_196 (by decide) ?_
    refine lv_goto (tgt := 201) hx hb dX7_pass_197 (by decide) ?_
    exact kX7_pass_201 X x1 x3 hR 1 M182 _ _ ls hw h (lv_sub hl [0, 1, 3] rfl)
  · have hw := hw.2 c184
    refine lv_aload_n hx hb dX7_pass_187 rfl (lv_at hl 0 rfl) ?_
    refine m_get X inX7_pass h 6 (by decide) (by decide +kernel) rfl rfl dX7_pass_188 ?_
    refine lv_iload_n hx hb dX7_pass_191 rfl (lv_at hl 3 rfl) ?_
    refine m_zald X h 6 (by decide) (by decide) rfl (n := 576) rfl hk2 dX7_pass_192 ?_
    refine lv_if_eq (tgt := 200) hx hb dX7_pass_193 (by decide) (fun c193 => ?_) (fun c193 => ?_)
    · have hw := hw.1 c193
      refine lv_iconst (v := 0) hx hb dX7_pass_200 (by decide) ?_
      exact kX7_pass_201 X x1 x3 hR 0 M182 _ _ ls hw h (lv_sub hl [0, 1, 3] rfl)
    · have hw := hw.2 c193
      refine lv_iconst (v := 1) hx hb dX7_pass_196 (by decide) ?_
      refine lv_goto (tgt := 201) hx hb dX7_pass_197 (by decide) ?_
      exact kX7_pass_201 X x1 x3 hR 1 M182 _ _ ls hw h (lv_sub hl [0, 1, 3] rfl)
set_option maxHeartbeats 4000000 in
set_option maxRecDepth 100000 in
theorem kX7_pass_135 {n : Nat} {R : Int32 → Int32 → mM → Prop} (X : gX p s m args meth c D cA A cX7_pass 10 wsX7_pass RX7) (x1 : Int32) (x2 : Int32) (x3 : Int32) (x4 : Int32)
    (hR : ∀ (y2 : Int32) (y3 : Int32) (M : mM) (H : Heap) (locs : List Loc) (ls : Array Slot), R y2 y3 M → mH D cA ad A s.heap M H locs → lv_has ls 10 [(0, .ref (ad 0)), (1, .int x1), (2, .int y2), (3, .int y3)] → W p l e (headSpec wsX7_pass rmX7_pass).room s m args below meth c H locs 0 0 Z (F0 m 4 ls [])) :
    ∀ (s0 : Int32) (M : mM) (H : Heap) (locs : List Loc) (ls : Array Slot), wpX7_pass_135 n R x1 x2 x3 x4 s0 M → mH D cA ad A s.heap M H locs → lv_has ls 10 [(0, .ref (ad 0)), (1, .int x1), (2, .int x2), (3, .int x3), (4, .int x4)] → W p l e (headSpec wsX7_pass rmX7_pass).room s m args below meth c H locs 0 0 Z (F0 m 135 ls [.int s0]) := by
  intro s0 M H locs ls hw h hl
  unfold wpX7_pass_135 at hw
  obtain ⟨hx, hb, hml, hown, hts, hK, hA⟩ := id X
  refine lv_istore (lv' := [(9, .int s0), (0, .ref (ad 0)), (1, .int x1), (2, .int x2), (3, .int x3), (4, .int x4)]) hx hb dX7_pass_135 hl (by decide) rfl (fun ls hl => ?_)
  refine lv_aload_n hx hb dX7_pass_137 rfl (lv_at hl 1 rfl) ?_
  refine m_get X inX7_pass h 6 (by decide) (by decide +kernel) rfl rfl dX7_pass_138 ?_
  refine lv_iload_n hx hb dX7_pass_141 rfl (lv_at hl 4 rfl) ?_
  refine lv_aload_n hx hb dX7_pass_142 rfl (lv_at hl 1 rfl) ?_
  refine m_get X inX7_pass h 5 (by decide) (by decide +kernel) rfl rfl dX7_pass_143 ?_
  refine lv_iload_n hx hb dX7_pass_146 rfl (lv_at hl 4 rfl) ?_
  obtain ⟨hk1, hw⟩ := hw
  refine m_zald X h 5 (by decide) (by decide) rfl (n := 576) rfl hk1 dX7_pass_147 ?_
  refine lv_if_eq (tgt := 181) hx hb dX7_pass_148 (by decide) (fun c148 => ?_) (fun c148 => ?_)
  · have hw := hw.1 c148
    refine lv_iconst (v := 0) hx hb dX7_pass_181 (by decide) ?_
    exact kX7_pass_182 X x1 x2 x3 hR 0 M _ _ ls hw h (lv_sub hl [1, 2, 3, 4] rfl)
  · have hw := hw.2 c148
    refine lv_iload hx hb dX7_pass_151 (lv_at hl 5 rfl) ?_
    refine lv_iconst (v := 2) hx hb dX7_pass_153 (by decide) ?_
    refine lv_icmp_lt (tgt := 181) hx hb dX7_pass_154 (by decide) (fun c154 => ?_) (fun c154 => ?_)
    · have hw := hw.1 c154
      refine lv_iconst (v := 0) hx hb dX7_pass_181 (by decide) ?_
      exact kX7_pass_182 X x1 x2 x3 hR 0 M _ _ ls hw h (lv_sub hl [1, 2, 3, 4] rfl)
    · have hw := hw.2 c154
      refine lv_iload hx hb dX7_pass_157 (lv_at hl 5 rfl) ?_
      refine lv_bipush (v := 6) hx hb dX7_pass_159 (by decide) ?_
      refine lv_icmp_gt (tgt := 181) hx hb dX7_pass_161 (by decide) (fun c161 => ?_) (fun c161 => ?_)
      · have hw := hw.1 c161
        refine lv_iconst (v := 0) hx hb dX7_pass_181 (by decide) ?_
        exact kX7_pass_182 X x1 x2 x3 hR 0 M _ _ ls hw h (lv_sub hl [1, 2, 3, 4] rfl)
      · have hw := hw.2 c161
        refine lv_aload_n hx hb dX7_pass_164 rfl (lv_at hl 1 rfl) ?_
        refine m_calli (n := 0) X h (qX7_changes l D cA n) gX7_pass_X7_changes hw hl.1 dX7_pass_165 rfl rfl rfl (by decide +kernel) ⟨Nat.le_of_ble_eq_true rfl, Nat.le_of_ble_eq_true rfl⟩ rfl rfl (Nat.le_of_ble_eq_true rfl) (fun r165 M165 H locs hw h => ?_)
        refine lv_iconst (v := 1) hx hb dX7_pass_168 (by decide) ?_
        refine lv_icmp_ne (tgt := 181) hx hb dX7_pass_169 (by decide) (fun c169 => ?_) (fun c169 => ?_)
        · have hw := hw.1 c169
          refine lv_iconst (v := 0) hx hb dX7_pass_181 (by decide) ?_
          exact kX7_pass_182 X x1 x2 x3 hR 0 M165 _ _ ls hw h (lv_sub hl [1, 2, 3, 4] rfl)
        · have hw := hw.2 c169
          refine lv_iload hx hb dX7_pass_172 (lv_at hl 0 rfl) ?_
          refine lv_if_ne (tgt := 181) hx hb dX7_pass_174 (by decide) (fun c174 => ?_) (fun c174 => ?_)
          · have hw := hw.1 c174
            refine lv_iconst (v := 0) hx hb dX7_pass_181 (by decide) ?_
            exact kX7_pass_182 X x1 x2 x3 hR 0 M165 _ _ ls hw h (lv_sub hl [1, 2, 3, 4] rfl)
          · have hw := hw.2 c174
            refine lv_iconst (v := 1) hx hb dX7_pass_177 (by decide) ?_
            refine lv_goto (tgt := 182) hx hb dX7_pass_178 (by decide) ?_
            exact kX7_pass_182 X x1 x2 x3 hR 1 M165 _ _ ls hw h (lv_sub hl [1, 2, 3, 4] rfl)
set_option maxHeartbeats 4000000 in
set_option maxRecDepth 100000 in
theorem kX7_pass_115 {n : Nat} {R : Int32 → Int32 → mM → Prop} (X : gX p s m args meth c D cA A cX7_pass 10 wsX7_pass RX7) (x1 : Int32) (x2 : Int32) (x3 : Int32) (x4 : Int32) (x6 : Int32) (x7 : Int32) (x8 : Int32)
    (hR : ∀ (y2 : Int32) (y3 : Int32) (M : mM) (H : Heap) (locs : List Loc) (ls : Array Slot), R y2 y3 M → mH D cA ad A s.heap M H locs → lv_has ls 10 [(0, .ref (ad 0)), (1, .int x1), (2, .int y2), (3, .int y3)] → W p l e (headSpec wsX7_pass rmX7_pass).room s m args below meth c H locs 0 0 Z (F0 m 4 ls [])) :
    ∀ (M : mM) (H : Heap) (locs : List Loc) (ls : Array Slot), wpX7_pass_115 n R x1 x2 x3 x4 x6 x7 x8 M → mH D cA ad A s.heap M H locs → lv_has ls 10 [(0, .ref (ad 0)), (1, .int x1), (2, .int x2), (3, .int x3), (4, .int x4), (6, .int x6), (7, .int x7), (8, .int x8)] → W p l e (headSpec wsX7_pass rmX7_pass).room s m args below meth c H locs 0 0 Z (F0 m 115 ls []) := by
  intro M H locs ls hw h hl
  unfold wpX7_pass_115 at hw
  obtain ⟨hx, hb, hml, hown, hts, hK, hA⟩ := id X
  refine lv_iload hx hb dX7_pass_115 (lv_at hl 5 rfl) ?_
  refine lv_if_eq (tgt := 134) hx hb dX7_pass_117 (by decide) (fun c117 => ?_) (fun c117 => ?_)
  · have hw := hw.1 c117
    refine lv_iconst (v := 0) hx hb dX7_pass_134 (by decide) ?_
    exact kX7_pass_135 X x1 x2 x3 x4 hR 0 M _ _ ls hw h (lv_sub hl [0, 1, 2, 3, 4] rfl)
  · have hw := hw.2 c117
    refine lv_iload hx hb dX7_pass_120 (lv_at hl 7 rfl) ?_
    refine lv_if_eq (tgt := 134) hx hb dX7_pass_122 (by decide) (fun c122 => ?_) (fun c122 => ?_)
    · have hw := hw.1 c122
      refine lv_iconst (v := 0) hx hb dX7_pass_134 (by decide) ?_
      exact kX7_pass_135 X x1 x2 x3 x4 hR 0 M _ _ ls hw h (lv_sub hl [0, 1, 2, 3, 4] rfl)
    · have hw := hw.2 c122
      refine lv_iload hx hb dX7_pass_125 (lv_at hl 6 rfl) ?_
      refine lv_if_eq (tgt := 134) hx hb dX7_pass_127 (by decide) (fun c127 => ?_) (fun c127 => ?_)
      · have hw := hw.1 c127
        refine lv_iconst (v := 0) hx hb dX7_pass_134 (by decide) ?_
        exact kX7_pass_135 X x1 x2 x3 x4 hR 0 M _ _ ls hw h (lv_sub hl [0, 1, 2, 3, 4] rfl)
      · have hw := hw.2 c127
        refine lv_iconst (v := 1) hx hb dX7_pass_130 (by decide) ?_
        refine lv_goto (tgt := 135) hx hb dX7_pass_131 (by decide) ?_
        exact kX7_pass_135 X x1 x2 x3 x4 hR 1 M _ _ ls hw h (lv_sub hl [0, 1, 2, 3, 4] rfl)
set_option maxHeartbeats 4000000 in
set_option maxRecDepth 100000 in
theorem kX7_pass_77 {n : Nat} {R : Int32 → Int32 → mM → Prop} (X : gX p s m args meth c D cA A cX7_pass 10 wsX7_pass RX7) (x1 : Int32) (x2 : Int32) (x3 : Int32) (x4 : Int32) (x5 : Int32) (x7 : Int32) (x8 : Int32)
    (hR : ∀ (y2 : Int32) (y3 : Int32) (M : mM) (H : Heap) (locs : List Loc) (ls : Array Slot), R y2 y3 M → mH D cA ad A s.heap M H locs → lv_has ls 10 [(0, .ref (ad 0)), (1, .int x1), (2, .int y2), (3, .int y3)] → W p l e (headSpec wsX7_pass rmX7_pass).room s m args below meth c H locs 0 0 Z (F0 m 4 ls [])) :
    ∀ (M : mM) (H : Heap) (locs : List Loc) (ls : Array Slot), wpX7_pass_77 n R x1 x2 x3 x4 x5 x7 x8 M → mH D cA ad A s.heap M H locs → lv_has ls 10 [(0, .ref (ad 0)), (1, .int x1), (2, .int x2), (3, .int x3), (4, .int x4), (5, .int x5), (7, .int x7), (8, .int x8)] → W p l e (headSpec wsX7_pass rmX7_pass).room s m args below meth c H locs 0 0 Z (F0 m 77 ls []) := by
  intro M H locs ls hw h hl
  unfold wpX7_pass_77 at hw
  obtain ⟨hx, hb, hml, hown, hts, hK, hA⟩ := id X
  refine lv_iload hx hb dX7_pass_77 (lv_at hl 5 rfl) ?_
  refine lv_if_eq (tgt := 96) hx hb dX7_pass_79 (by decide) (fun c79 => ?_) (fun c79 => ?_)
  · have hw := hw.1 c79
    refine lv_iconst (v := 0) hx hb dX7_pass_96 (by decide) ?_
    refine lv_goto (tgt := 135) hx hb dX7_pass_97 (by decide) ?_
    exact kX7_pass_135 X x1 x2 x3 x4 hR 0 M _ _ ls hw h (lv_sub hl [0, 1, 2, 3, 4] rfl)
  · have hw := hw.2 c79
    refine lv_iload hx hb dX7_pass_82 (lv_at hl 7 rfl) ?_
    refine lv_if_eq (tgt := 96) hx hb dX7_pass_84 (by decide) (fun c84 => ?_) (fun c84 => ?_)
    · have hw := hw.1 c84
      refine lv_iconst (v := 0) hx hb dX7_pass_96 (by decide) ?_
      refine lv_goto (tgt := 135) hx hb dX7_pass_97 (by decide) ?_
      exact kX7_pass_135 X x1 x2 x3 x4 hR 0 M _ _ ls hw h (lv_sub hl [0, 1, 2, 3, 4] rfl)
    · have hw := hw.2 c84
      refine lv_iload hx hb dX7_pass_87 (lv_at hl 6 rfl) ?_
      refine lv_if_eq (tgt := 96) hx hb dX7_pass_89 (by decide) (fun c89 => ?_) (fun c89 => ?_)
      · have hw := hw.1 c89
        refine lv_iconst (v := 0) hx hb dX7_pass_96 (by decide) ?_
        refine lv_goto (tgt := 135) hx hb dX7_pass_97 (by decide) ?_
        exact kX7_pass_135 X x1 x2 x3 x4 hR 0 M _ _ ls hw h (lv_sub hl [0, 1, 2, 3, 4] rfl)
      · have hw := hw.2 c89
        refine lv_iconst (v := 1) hx hb dX7_pass_92 (by decide) ?_
        refine lv_goto (tgt := 135) hx hb dX7_pass_93 (by decide) ?_
        exact kX7_pass_135 X x1 x2 x3 x4 hR 1 M _ _ ls hw h (lv_sub hl [0, 1, 2, 3, 4] rfl)
set_option maxHeartbeats 4000000 in
set_option maxRecDepth 100000 in
theorem kX7_pass_4 {n : Nat} {E208 : Int32 → mM → Prop} (X : gX p s m args meth c D cA A cX7_pass 10 wsX7_pass RX7) (x1 : Int32)
    (hE208 : ∀ (y2 : Int32) (M : mM) (H : Heap) (locs : List Loc) (ls : Array Slot), E208 y2 M → mH D cA ad A s.heap M H locs → lv_has ls 10 [(0, .ref (ad 0)), (2, .int y2)] → W p l e (headSpec wsX7_pass rmX7_pass).room s m args below meth c H locs 0 0 Z (F0 m 208 ls [])) :
    ∀ (k : Nat) (x2 : Int32) (x3 : Int32) (M : mM) (H : Heap) (locs : List Loc) (ls : Array Slot), wpX7_pass_4 n E208 x1 k x2 x3 M → mH D cA ad A s.heap M H locs → lv_has ls 10 [(0, .ref (ad 0)), (1, .int x1), (2, .int x2), (3, .int x3)] → W p l e (headSpec wsX7_pass rmX7_pass).room s m args below meth c H locs 0 0 Z (F0 m 4 ls []) := by
  intro k
  induction k with
  | zero => intro x2 x3 M H locs ls hw; exact hw.elim
  | succ k ih =>
    intro x2 x3 M H locs ls hw h hl
    rw [wpX7_pass_4] at hw
    obtain ⟨hx, hb, hml, hown, hts, hK, hA⟩ := id X
    refine lv_iload_n hx hb dX7_pass_4 rfl (lv_at hl 3 rfl) ?_
    refine lv_sipush (v := 576) hx hb dX7_pass_5 (by decide) ?_
    refine lv_icmp_ge (tgt := 208) hx hb dX7_pass_8 (by decide) (fun c8 => ?_) (fun c8 => ?_)
    · have hw := hw.1 c8
      exact hE208 x2 M _ _ ls hw h (lv_sub hl [0, 2] rfl)
    · have hw := hw.2 c8
      refine lv_aload_n hx hb dX7_pass_11 rfl (lv_at hl 0 rfl) ?_
      refine lv_iload_n hx hb dX7_pass_12 rfl (lv_at hl 3 rfl) ?_
      refine lv_bipush (v := 24) hx hb dX7_pass_13 (by decide) ?_
      refine lv_irem hx hb dX7_pass_15 (by decide) ?_
      refine lv_iload_n hx hb dX7_pass_16 rfl (lv_at hl 3 rfl) ?_
      refine lv_bipush (v := 24) hx hb dX7_pass_17 (by decide) ?_
      refine lv_idiv hx hb dX7_pass_19 (by decide) ?_
      refine m_calli (n := 2) X h (qX7_look l D cA n (x3 - x3 / 24 * 24) (x3 / 24)) gX7_pass_X7_look hw hl.1 dX7_pass_20 rfl rfl rfl (by decide +kernel) ⟨Nat.le_of_ble_eq_true rfl, Nat.le_of_ble_eq_true rfl⟩ rfl rfl (Nat.le_of_ble_eq_true rfl) (fun r20 M20 H locs hw h => ?_)
      refine lv_istore (lv' := [(4, .int r20), (0, .ref (ad 0)), (1, .int x1), (2, .int x2), (3, .int x3)]) hx hb dX7_pass_23 hl (by decide) rfl (fun ls hl => ?_)
      refine lv_aload_n hx hb dX7_pass_25 rfl (lv_at hl 1 rfl) ?_
      refine m_get X inX7_pass h 7 (by decide) (by decide +kernel) rfl rfl dX7_pass_26 ?_
      refine lv_iconst (v := 0) hx hb dX7_pass_29 (by decide) ?_
      refine m_zald X h 7 (by decide) (by decide) rfl (n := 8) rfl (show vp_in 0 8 by unfold vp_in; decide) dX7_pass_30 ?_
      refine lv_topi (fun x5_31 ex5_31 => ?_)
      have hw := hw x5_31 ex5_31
      refine lv_istore (lv' := [(5, .int x5_31), (4, .int r20), (0, .ref (ad 0)), (1, .int x1), (2, .int x2), (3, .int x3)]) hx hb dX7_pass_31 hl (by decide) rfl (fun ls hl => ?_)
      refine lv_aload_n hx hb dX7_pass_33 rfl (lv_at hl 2 rfl) ?_
      refine m_get X inX7_pass h 7 (by decide) (by decide +kernel) rfl rfl dX7_pass_34 ?_
      refine lv_iconst (v := 2) hx hb dX7_pass_37 (by decide) ?_
      refine m_zald X h 7 (by decide) (by decide) rfl (n := 8) rfl (show vp_in 2 8 by unfold vp_in; decide) dX7_pass_38 ?_
      refine lv_topi (fun x6_39 ex6_39 => ?_)
      have hw := hw x6_39 ex6_39
      refine lv_istore (lv' := [(6, .int x6_39), (5, .int x5_31), (4, .int r20), (0, .ref (ad 0)), (1, .int x1), (2, .int x2), (3, .int x3)]) hx hb dX7_pass_39 hl (by decide) rfl (fun ls hl => ?_)
      refine lv_aload_n hx hb dX7_pass_41 rfl (lv_at hl 3 rfl) ?_
      refine m_get X inX7_pass h 7 (by decide) (by decide +kernel) rfl rfl dX7_pass_42 ?_
      refine lv_iconst (v := 4) hx hb dX7_pass_45 (by decide) ?_
      refine m_zald X h 7 (by decide) (by decide) rfl (n := 8) rfl (show vp_in 4 8 by unfold vp_in; decide) dX7_pass_46 ?_
      refine lv_topi (fun x7_47 ex7_47 => ?_)
      have hw := hw x7_47 ex7_47
      refine lv_istore (lv' := [(7, .int x7_47), (6, .int x6_39), (5, .int x5_31), (4, .int r20), (0, .ref (ad 0)), (1, .int x1), (2, .int x2), (3, .int x3)]) hx hb dX7_pass_47 hl (by decide) rfl (fun ls hl => ?_)
      refine lv_aload_n hx hb dX7_pass_49 rfl (lv_at hl 4 rfl) ?_
      refine m_get X inX7_pass h 7 (by decide) (by decide +kernel) rfl rfl dX7_pass_50 ?_
      refine lv_bipush (v := 6) hx hb dX7_pass_53 (by decide) ?_
      refine m_zald X h 7 (by decide) (by decide) rfl (n := 8) rfl (show vp_in 6 8 by unfold vp_in; decide) dX7_pass_55 ?_
      refine lv_topi (fun x8_56 ex8_56 => ?_)
      have hw := hw x8_56 ex8_56
      refine lv_istore (lv' := [(8, .int x8_56), (7, .int x7_47), (6, .int x6_39), (5, .int x5_31), (4, .int r20), (0, .ref (ad 0)), (1, .int x1), (2, .int x2), (3, .int x3)]) hx hb dX7_pass_56 hl (by decide) rfl (fun ls hl => ?_)
      refine lv_iload_n hx hb dX7_pass_58 rfl (lv_at hl 6 rfl) ?_
      refine lv_if_eq (tgt := 100) hx hb dX7_pass_59 (by decide) (fun c59 => ?_) (fun c59 => ?_)
      · have hw := hw.1 c59
        refine lv_iload hx hb dX7_pass_100 (lv_at hl 2 rfl) ?_
        refine lv_if_eq (tgt := 115) hx hb dX7_pass_102 (by decide) (fun c102 => ?_) (fun c102 => ?_)
        · have hw := hw.1 c102
          exact kX7_pass_115 X x1 x2 x3 r20 x6_39 x7_47 x8_56 ih M20 _ _ ls hw h (lv_sub hl [5, 6, 7, 8, 4, 2, 1, 0] rfl)
        · have hw := hw.2 c102
          refine lv_iload hx hb dX7_pass_105 (lv_at hl 3 rfl) ?_
          refine lv_if_eq (tgt := 115) hx hb dX7_pass_107 (by decide) (fun c107 => ?_) (fun c107 => ?_)
          · have hw := hw.1 c107
            exact kX7_pass_115 X x1 x2 x3 r20 x6_39 x7_47 x8_56 ih M20 _ _ ls hw h (lv_sub hl [5, 6, 7, 8, 4, 2, 1, 0] rfl)
          · have hw := hw.2 c107
            refine lv_iload hx hb dX7_pass_110 (lv_at hl 1 rfl) ?_
            refine lv_if_ne (tgt := 130) hx hb dX7_pass_112 (by decide) (fun c112 => ?_) (fun c112 => ?_)
            · have hw := hw.1 c112
              refine lv_iconst (v := 1) hx hb dX7_pass_130 (by decide) ?_
              refine lv_goto (tgt := 135) hx hb dX7_pass_131 (by decide) ?_
              exact kX7_pass_135 X x1 x2 x3 r20 ih 1 M20 _ _ ls hw h (lv_sub hl [5, 6, 7, 8, 4] rfl)
            · have hw := hw.2 c112
              exact kX7_pass_115 X x1 x2 x3 r20 x6_39 x7_47 x8_56 ih M20 _ _ ls hw h (lv_sub hl [5, 6, 7, 8, 4, 2, 1, 0] rfl)
      · have hw := hw.2 c59
        refine lv_iload hx hb dX7_pass_62 (lv_at hl 2 rfl) ?_
        refine lv_if_eq (tgt := 77) hx hb dX7_pass_64 (by decide) (fun c64 => ?_) (fun c64 => ?_)
        · have hw := hw.1 c64
          exact kX7_pass_77 X x1 x2 x3 r20 x5_31 x7_47 x8_56 ih M20 _ _ ls hw h (lv_sub hl [5, 6, 7, 8, 4, 3, 1, 0] rfl)
        · have hw := hw.2 c64
          refine lv_iload hx hb dX7_pass_67 (lv_at hl 3 rfl) ?_
          refine lv_if_eq (tgt := 77) hx hb dX7_pass_69 (by decide) (fun c69 => ?_) (fun c69 => ?_)
          · have hw := hw.1 c69
            exact kX7_pass_77 X x1 x2 x3 r20 x5_31 x7_47 x8_56 ih M20 _ _ ls hw h (lv_sub hl [5, 6, 7, 8, 4, 3, 1, 0] rfl)
          · have hw := hw.2 c69
            refine lv_iload hx hb dX7_pass_72 (lv_at hl 0 rfl) ?_
            refine lv_if_ne (tgt := 92) hx hb dX7_pass_74 (by decide) (fun c74 => ?_) (fun c74 => ?_)
            · have hw := hw.1 c74
              refine lv_iconst (v := 1) hx hb dX7_pass_92 (by decide) ?_
              refine lv_goto (tgt := 135) hx hb dX7_pass_93 (by decide) ?_
              exact kX7_pass_135 X x1 x2 x3 r20 ih 1 M20 _ _ ls hw h (lv_sub hl [5, 6, 7, 8, 4] rfl)
            · have hw := hw.2 c74
              exact kX7_pass_77 X x1 x2 x3 r20 x5_31 x7_47 x8_56 ih M20 _ _ ls hw h (lv_sub hl [5, 6, 7, 8, 4, 3, 1, 0] rfl)
set_option maxHeartbeats 4000000 in
set_option maxRecDepth 100000 in
theorem kX7_pass_245 {n : Nat} {R : Int32 → mM → Prop} (X : gX p s m args meth c D cA A cX7_pass 10 wsX7_pass RX7) (x2 : Int32) (x3 : Int32)
    (hR : ∀ (y3 : Int32) (M : mM) (H : Heap) (locs : List Loc) (ls : Array Slot), R y3 M → mH D cA ad A s.heap M H locs → lv_has ls 10 [(0, .ref (ad 0)), (2, .int x2), (3, .int y3)] → W p l e (headSpec wsX7_pass rmX7_pass).room s m args below meth c H locs 0 0 Z (F0 m 210 ls [])) :
    ∀ (s0 : Int32) (M : mM) (H : Heap) (locs : List Loc) (ls : Array Slot), wpX7_pass_245 n R x2 x3 s0 M → mH D cA ad A s.heap M H locs → lv_has ls 10 [(0, .ref (ad 0)), (2, .int x2), (3, .int x3)] → W p l e (headSpec wsX7_pass rmX7_pass).room s m args below meth c H locs 0 0 Z (F0 m 245 ls [.int s0, .int x3, .ref (ad 5)]) := by
  intro s0 M H locs ls hw h hl
  unfold wpX7_pass_245 at hw
  obtain ⟨hx, hb, hml, hown, hts, hK, hA⟩ := id X
  obtain ⟨hk5, hw⟩ := hw
  obtain ⟨hk6, hw⟩ := hw
  refine m_zast X h 5 (by decide) (by decide) rfl (n := 576) rfl hk5 hk6 dX7_pass_245 (fun M245 eM245 H locs h => ?_)
  have hw := hw M245 eM245
  obtain ⟨x3_246, ex3_246⟩ : ∃ z : Int32, z = x3 + 1 := ⟨_, rfl⟩
  have hw := hw x3_246 ex3_246
  refine lv_iinc (v := x3_246) (lv' := [(3, .int x3_246), (0, .ref (ad 0)), (2, .int x2)]) hx hb dX7_pass_246 hl (k := 2) rfl (by rw [ex3_246]; rfl) (by decide) rfl (fun ls hl => ?_)
  refine lv_goto (tgt := 210) hx hb dX7_pass_249 (by decide) ?_
  exact hR x3_246 M245 _ _ ls hw h (lv_sub hl [1, 2, 0] rfl)
set_option maxHeartbeats 4000000 in
set_option maxRecDepth 100000 in
theorem kX7_pass_210 {n : Nat} {Q : Int32 → mM → Prop} (X : gX p s m args meth c D cA A cX7_pass 10 wsX7_pass RX7) (x2 : Int32)
    (hret : ∀ (r : Int32) (M : mM) (H : Heap) (locs : List Loc) (pc : Nat) (ls : Array Slot), bz r ∧ Q r M → mH D cA ad A s.heap M H locs → decode cX7_pass pc = .ok (.ireturn, 1) → W p l e (headSpec wsX7_pass rmX7_pass).room s m args below meth c H locs 0 0 Z (F0 m pc ls [.int r])) :
    ∀ (k : Nat) (x3 : Int32) (M : mM) (H : Heap) (locs : List Loc) (ls : Array Slot), wpX7_pass_210 n Q x2 k x3 M → mH D cA ad A s.heap M H locs → lv_has ls 10 [(0, .ref (ad 0)), (2, .int x2), (3, .int x3)] → W p l e (headSpec wsX7_pass rmX7_pass).room s m args below meth c H locs 0 0 Z (F0 m 210 ls []) := by
  intro k
  induction k with
  | zero => intro x3 M H locs ls hw; exact hw.elim
  | succ k ih =>
    intro x3 M H locs ls hw h hl
    rw [wpX7_pass_210] at hw
    obtain ⟨hx, hb, hml, hown, hts, hK, hA⟩ := id X
    refine lv_iload_n hx hb dX7_pass_210 rfl (lv_at hl 2 rfl) ?_
    refine lv_sipush (v := 576) hx hb dX7_pass_211 (by decide) ?_
    refine lv_icmp_ge (tgt := 252) hx hb dX7_pass_214 (by decide) (fun c214 => ?_) (fun c214 => ?_)
    · have hw := hw.1 c214
      refine lv_iload_n hx hb dX7_pass_252 rfl (lv_at hl 1 rfl) ?_
      exact hret x2 M _ _ _ ls hw h dX7_pass_253
    · have hw := hw.2 c214
      refine lv_aload_n hx hb dX7_pass_217 rfl (lv_at hl 0 rfl) ?_
      refine m_get X inX7_pass h 5 (by decide) (by decide +kernel) rfl rfl dX7_pass_218 ?_
      refine lv_iload_n hx hb dX7_pass_221 rfl (lv_at hl 2 rfl) ?_
      refine lv_aload_n hx hb dX7_pass_222 rfl (lv_at hl 0 rfl) ?_
      refine m_get X inX7_pass h 5 (by decide) (by decide +kernel) rfl rfl dX7_pass_223 ?_
      refine lv_iload_n hx hb dX7_pass_226 rfl (lv_at hl 2 rfl) ?_
      obtain ⟨hk4, hw⟩ := hw
      refine m_zald X h 5 (by decide) (by decide) rfl (n := 576) rfl hk4 dX7_pass_227 ?_
      refine lv_if_eq (tgt := 244) hx hb dX7_pass_228 (by decide) (fun c228 => ?_) (fun c228 => ?_)
      · have hw := hw.1 c228
        refine lv_iconst (v := 0) hx hb dX7_pass_244 (by decide) ?_
        exact kX7_pass_245 X x2 x3 ih 0 M _ _ ls hw h (lv_sub hl [0, 1, 2] rfl)
      · have hw := hw.2 c228
        refine lv_aload_n hx hb dX7_pass_231 rfl (lv_at hl 0 rfl) ?_
        refine m_get X inX7_pass h 6 (by decide) (by decide +kernel) rfl rfl dX7_pass_232 ?_
        refine lv_iload_n hx hb dX7_pass_235 rfl (lv_at hl 2 rfl) ?_
        refine m_zald X h 6 (by decide) (by decide) rfl (n := 576) rfl hk4 dX7_pass_236 ?_
        refine lv_if_ne (tgt := 244) hx hb dX7_pass_237 (by decide) (fun c237 => ?_) (fun c237 => ?_)
        · have hw := hw.1 c237
          refine lv_iconst (v := 0) hx hb dX7_pass_244 (by decide) ?_
          exact kX7_pass_245 X x2 x3 ih 0 M _ _ ls hw h (lv_sub hl [0, 1, 2] rfl)
        · have hw := hw.2 c237
          refine lv_iconst (v := 1) hx hb dX7_pass_240 (by decide) ?_
          refine lv_goto (tgt := 245) hx hb dX7_pass_241 (by decide) ?_
          exact kX7_pass_245 X x2 x3 ih 1 M _ _ ls hw h (lv_sub hl [0, 1, 2] rfl)
set_option maxHeartbeats 4000000 in
set_option maxRecDepth 100000 in
theorem qX7_pass (l : Launch) (D : va_G) (cA : Nat → ClassId) (n : Nat) (x1 : Int32) : mMi l D cA yX7_pass wsX7_pass rmX7_pass (fun ad => [.ref (ad 0), .int x1]) (wpX7_pass n x1) := by
  intro ad sz M Q hw
  unfold wpX7_pass at hw
  refine m_enter (cc := cX7_pass) (maxL := 10) (ret := some .boolean) (own := RX7) (by decide) rfl rfl (Nat.le_of_ble_eq_true rfl) ?_
  intro p e s m args below meth c hsz X hr hlocks h ls hl
  have hret := @m_zret p l e (headSpec wsX7_pass rmX7_pass).room s m args below meth c cX7_pass D cA ad (va_A (mws cA ad M) sz) Q X.1 X.2.1 hr hlocks X.2.2.2.2.2.1
  obtain ⟨hx, hb, hml, hown, hts, hK, hA⟩ := id X
  have hl : lv_has ls 10 [(0, .ref (ad 0)), (1, .int x1)] := hl
  refine lv_iconst (v := 0) hx hb dX7_pass_0 (by decide) ?_
  refine lv_istore_n (lv' := [(2, .int 0), (0, .ref (ad 0)), (1, .int x1)]) hx hb dX7_pass_1 rfl hl (by decide) rfl (fun ls hl => ?_)
  refine lv_iconst (v := 0) hx hb dX7_pass_2 (by decide) ?_
  refine lv_istore_n (lv' := [(3, .int 0), (2, .int 0), (0, .ref (ad 0)), (1, .int x1)]) hx hb dX7_pass_3 rfl hl (by decide) rfl (fun ls hl => ?_)
  refine kX7_pass_4 X x1 (fun y2_4 M_4 H locs ls hw h hl => ?_) n 0 0 M _ _ ls hw h (lv_sub hl [2, 3, 1, 0] rfl)
  refine lv_iconst (v := 0) hx hb dX7_pass_208 (by decide) ?_
  refine lv_istore_n (lv' := [(3, .int 0), (0, .ref (ad 0)), (2, .int y2_4)]) hx hb dX7_pass_209 rfl hl (by decide) rfl (fun ls hl => ?_)
  exact kX7_pass_210 X y2_4 hret n 0 M_4 _ _ ls hw h (lv_sub hl [1, 2, 0] rfl)
def rmX7_thinOut : Room := { frames := 4, cells := 0, slots := 0, locals := 100 }
theorem inX7_thinOut : ∀ w ∈ wsX70, w ∈ wsX7_thinOut := fun w h => List.mem_cons_of_mem _ (List.mem_append_right _ h)
set_option maxHeartbeats 4000000 in
set_option maxRecDepth 100000 in
theorem kX7_thinOut_44 {n : Nat} {R : Int32 → mM → Prop} (X : gX p s m args meth c D cA A cX7_thinOut 3 wsX7_thinOut RX7) (x1 : Int32) (x2 : Int32)
    (hR : ∀ (y2 : Int32) (M : mM) (H : Heap) (locs : List Loc) (ls : Array Slot), R y2 M → mH D cA ad A s.heap M H locs → lv_has ls 3 [(0, .ref (ad 0)), (1, .int x1), (2, .int y2)] → W p l e (headSpec wsX7_thinOut rmX7_thinOut).room s m args below meth c H locs 0 0 Z (F0 m 2 ls [])) :
    ∀ (s0 : Int32) (M : mM) (H : Heap) (locs : List Loc) (ls : Array Slot), wpX7_thinOut_44 n R x1 x2 s0 M → mH D cA ad A s.heap M H locs → lv_has ls 3 [(0, .ref (ad 0)), (1, .int x1), (2, .int x2)] → W p l e (headSpec wsX7_thinOut rmX7_thinOut).room s m args below meth c H locs 0 0 Z (F0 m 44 ls [.int s0, .int x2, .ref (ad 5)]) := by
  intro s0 M H locs ls hw h hl
  unfold wpX7_thinOut_44 at hw
  obtain ⟨hx, hb, hml, hown, hts, hK, hA⟩ := id X
  obtain ⟨hk2, hw⟩ := hw
  obtain ⟨hk3, hw⟩ := hw
  refine m_zast X h 5 (by decide) (by decide) rfl (n := 576) rfl hk2 hk3 dX7_thinOut_44 (fun M44 eM44 H locs h => ?_)
  have hw := hw M44 eM44
  obtain ⟨x2_45, ex2_45⟩ : ∃ z : Int32, z = x2 + 1 := ⟨_, rfl⟩
  have hw := hw x2_45 ex2_45
  refine lv_iinc (v := x2_45) (lv' := [(2, .int x2_45), (0, .ref (ad 0)), (1, .int x1)]) hx hb dX7_thinOut_45 hl (k := 2) rfl (by rw [ex2_45]; rfl) (by decide) rfl (fun ls hl => ?_)
  refine lv_goto (tgt := 2) hx hb dX7_thinOut_48 (by decide) ?_
  exact hR x2_45 M44 _ _ ls hw h (lv_sub hl [1, 2, 0] rfl)
set_option maxHeartbeats 4000000 in
set_option maxRecDepth 100000 in
theorem kX7_thinOut_2 {n : Nat} {E51 : mM → Prop} (X : gX p s m args meth c D cA A cX7_thinOut 3 wsX7_thinOut RX7) (x1 : Int32)
    (hE51 : ∀ (M : mM) (H : Heap) (locs : List Loc) (ls : Array Slot), E51 M → mH D cA ad A s.heap M H locs → lv_has ls 3 [(0, .ref (ad 0))] → W p l e (headSpec wsX7_thinOut rmX7_thinOut).room s m args below meth c H locs 0 0 Z (F0 m 51 ls [])) :
    ∀ (k : Nat) (x2 : Int32) (M : mM) (H : Heap) (locs : List Loc) (ls : Array Slot), wpX7_thinOut_2 n E51 x1 k x2 M → mH D cA ad A s.heap M H locs → lv_has ls 3 [(0, .ref (ad 0)), (1, .int x1), (2, .int x2)] → W p l e (headSpec wsX7_thinOut rmX7_thinOut).room s m args below meth c H locs 0 0 Z (F0 m 2 ls []) := by
  intro k
  induction k with
  | zero => intro x2 M H locs ls hw; exact hw.elim
  | succ k ih =>
    intro x2 M H locs ls hw h hl
    rw [wpX7_thinOut_2] at hw
    obtain ⟨hx, hb, hml, hown, hts, hK, hA⟩ := id X
    refine lv_iload_n hx hb dX7_thinOut_2 rfl (lv_at hl 2 rfl) ?_
    refine lv_sipush (v := 576) hx hb dX7_thinOut_3 (by decide) ?_
    refine lv_icmp_ge (tgt := 51) hx hb dX7_thinOut_6 (by decide) (fun c6 => ?_) (fun c6 => ?_)
    · have hw := hw.1 c6
      exact hE51 M _ _ ls hw h (lv_sub hl [0] rfl)
    · have hw := hw.2 c6
      refine lv_aload_n hx hb dX7_thinOut_9 rfl (lv_at hl 0 rfl) ?_
      refine m_get X inX7_thinOut h 5 (by decide) (by decide +kernel) rfl rfl dX7_thinOut_10 ?_
      refine lv_iload_n hx hb dX7_thinOut_13 rfl (lv_at hl 2 rfl) ?_
      refine lv_aload_n hx hb dX7_thinOut_14 rfl (lv_at hl 0 rfl) ?_
      refine m_get X inX7_thinOut h 3 (by decide) (by decide +kernel) rfl rfl dX7_thinOut_15 ?_
      refine lv_bipush (v := 24) hx hb dX7_thinOut_18 (by decide) ?_
      refine lv_iload_n hx hb dX7_thinOut_20 rfl (lv_at hl 1 rfl) ?_
      refine lv_imul hx hb dX7_thinOut_21 ?_
      refine lv_iload_n hx hb dX7_thinOut_22 rfl (lv_at hl 2 rfl) ?_
      refine lv_bipush (v := 24) hx hb dX7_thinOut_23 (by decide) ?_
      refine lv_idiv hx hb dX7_thinOut_25 (by decide) ?_
      refine lv_iadd hx hb dX7_thinOut_26 ?_
      obtain ⟨hk1, hw⟩ := hw
      refine m_iald X h 3 (by decide) (by decide) rfl (n := 384) rfl hk1 dX7_thinOut_27 ?_
      refine lv_iload_n hx hb dX7_thinOut_28 rfl (lv_at hl 2 rfl) ?_
      refine lv_bipush (v := 24) hx hb dX7_thinOut_29 (by decide) ?_
      refine lv_irem hx hb dX7_thinOut_31 (by decide) ?_
      refine lv_ishr hx hb dX7_thinOut_32 ?_
      refine lv_iconst (v := 1) hx hb dX7_thinOut_33 (by decide) ?_
      refine lv_iand hx hb dX7_thinOut_34 ?_
      refine lv_iconst (v := 1) hx hb dX7_thinOut_35 (by decide) ?_
      refine lv_icmp_ne (tgt := 43) hx hb dX7_thinOut_36 (by decide) (fun c36 => ?_) (fun c36 => ?_)
      · have hw := hw.1 c36
        refine lv_iconst (v := 0) hx hb dX7_thinOut_43 (by decide) ?_
        exact kX7_thinOut_44 X x1 x2 ih 0 M _ _ ls hw h (lv_sub hl [0, 1, 2] rfl)
      · have hw := hw.2 c36
        refine lv_iconst (v := 1) hx hb dX7_thinOut_39 (by decide) ?_
        refine lv_goto (tgt := 44) hx hb dX7_thinOut_40 (by decide) ?_
        exact kX7_thinOut_44 X x1 x2 ih 1 M _ _ ls hw h (lv_sub hl [0, 1, 2] rfl)
set_option maxHeartbeats 4000000 in
set_option maxRecDepth 100000 in
theorem kX7_thinOut_53 {n : Nat} {Q : mM → Prop} (X : gX p s m args meth c D cA A cX7_thinOut 3 wsX7_thinOut RX7)
    (hret : ∀ (M : mM) (H : Heap) (locs : List Loc) (pc : Nat) (ls : Array Slot), Q M → mH D cA ad A s.heap M H locs → decode cX7_thinOut pc = .ok (.return_, 1) → W p l e (headSpec wsX7_thinOut rmX7_thinOut).room s m args below meth c H locs 0 0 Z (F0 m pc ls [])) :
    ∀ (k : Nat) (x2 : Int32) (M : mM) (H : Heap) (locs : List Loc) (ls : Array Slot), wpX7_thinOut_53 n Q k x2 M → mH D cA ad A s.heap M H locs → lv_has ls 3 [(0, .ref (ad 0)), (2, .int x2)] → W p l e (headSpec wsX7_thinOut rmX7_thinOut).room s m args below meth c H locs 0 0 Z (F0 m 53 ls []) := by
  intro k
  induction k with
  | zero => intro x2 M H locs ls hw; exact hw.elim
  | succ k ih =>
    intro x2 M H locs ls hw h hl
    rw [wpX7_thinOut_53] at hw
    obtain ⟨hx, hb, hml, hown, hts, hK, hA⟩ := id X
    refine lv_iload_n hx hb dX7_thinOut_53 rfl (lv_at hl 1 rfl) ?_
    refine lv_if_eq (tgt := 84) hx hb dX7_thinOut_54 (by decide) (fun c54 => ?_) (fun c54 => ?_)
    · have hw := hw.1 c54
      exact hret M _ _ _ ls hw h dX7_thinOut_84
    · have hw := hw.2 c54
      refine lv_aload_n hx hb dX7_thinOut_57 rfl (lv_at hl 0 rfl) ?_
      refine lv_iconst (v := 1) hx hb dX7_thinOut_58 (by decide) ?_
      refine m_calli (n := 1) X h (qX7_pass l D cA n 1) gX7_thinOut_X7_pass hw hl.1 dX7_thinOut_59 rfl rfl rfl (by decide +kernel) ⟨Nat.le_of_ble_eq_true rfl, Nat.le_of_ble_eq_true rfl⟩ rfl rfl (Nat.le_of_ble_eq_true rfl) (fun r59 M59 H locs hw h => ?_)
      refine lv_istore_n (lv' := [(2, .int r59), (0, .ref (ad 0))]) hx hb dX7_thinOut_62 rfl hl (by decide) rfl (fun ls hl => ?_)
      refine lv_aload_n hx hb dX7_thinOut_63 rfl (lv_at hl 1 rfl) ?_
      refine lv_iconst (v := 0) hx hb dX7_thinOut_64 (by decide) ?_
      refine m_calli (n := 1) X h (qX7_pass l D cA n 0) gX7_thinOut_X7_pass hw hl.1 dX7_thinOut_65 rfl rfl rfl (by decide +kernel) ⟨Nat.le_of_ble_eq_true rfl, Nat.le_of_ble_eq_true rfl⟩ rfl rfl (Nat.le_of_ble_eq_true rfl) (fun r65 M65 H locs hw h => ?_)
      refine lv_if_ne (tgt := 75) hx hb dX7_thinOut_68 (by decide) (fun c68 => ?_) (fun c68 => ?_)
      · have hw := hw.1 c68
        refine lv_iconst (v := 1) hx hb dX7_thinOut_75 (by decide) ?_
        refine lv_goto (tgt := 80) hx hb dX7_thinOut_76 (by decide) ?_
        refine lv_istore_n (lv' := [(2, .int 1), (0, .ref (ad 0))]) hx hb dX7_thinOut_80 rfl hl (by decide) rfl (fun ls hl => ?_)
        refine lv_goto (tgt := 53) hx hb dX7_thinOut_81 (by decide) ?_
        exact ih 1 M65 _ _ ls hw h (lv_sub hl [1, 0] rfl)
      · have hw := hw.2 c68
        refine lv_iload_n hx hb dX7_thinOut_71 rfl (lv_at hl 0 rfl) ?_
        refine lv_if_eq (tgt := 79) hx hb dX7_thinOut_72 (by decide) (fun c72 => ?_) (fun c72 => ?_)
        · have hw := hw.1 c72
          refine lv_iconst (v := 0) hx hb dX7_thinOut_79 (by decide) ?_
          refine lv_istore_n (lv' := [(2, .int 0), (0, .ref (ad 0))]) hx hb dX7_thinOut_80 rfl hl (by decide) rfl (fun ls hl => ?_)
          refine lv_goto (tgt := 53) hx hb dX7_thinOut_81 (by decide) ?_
          exact ih 0 M65 _ _ ls hw h (lv_sub hl [1, 0] rfl)
        · have hw := hw.2 c72
          refine lv_iconst (v := 1) hx hb dX7_thinOut_75 (by decide) ?_
          refine lv_goto (tgt := 80) hx hb dX7_thinOut_76 (by decide) ?_
          refine lv_istore_n (lv' := [(2, .int 1), (0, .ref (ad 0))]) hx hb dX7_thinOut_80 rfl hl (by decide) rfl (fun ls hl => ?_)
          refine lv_goto (tgt := 53) hx hb dX7_thinOut_81 (by decide) ?_
          exact ih 1 M65 _ _ ls hw h (lv_sub hl [1, 0] rfl)
set_option maxHeartbeats 4000000 in
set_option maxRecDepth 100000 in
theorem qX7_thinOut (l : Launch) (D : va_G) (cA : Nat → ClassId) (n : Nat) (x1 : Int32) : mMv l D cA yX7_thinOut wsX7_thinOut rmX7_thinOut (fun ad => [.ref (ad 0), .int x1]) (wpX7_thinOut n x1) := by
  intro ad sz M Q hw
  unfold wpX7_thinOut at hw
  refine m_enter (cc := cX7_thinOut) (maxL := 3) (ret := none) (own := RX7) (by decide) rfl rfl (Nat.le_of_ble_eq_true rfl) ?_
  intro p e s m args below meth c hsz X hr hlocks h ls hl
  have hret := @m_vret p l e (headSpec wsX7_thinOut rmX7_thinOut).room s m args below meth c cX7_thinOut D cA ad (va_A (mws cA ad M) sz) Q X.1 X.2.1 hr hlocks X.2.2.2.2.2.1
  obtain ⟨hx, hb, hml, hown, hts, hK, hA⟩ := id X
  have hl : lv_has ls 3 [(0, .ref (ad 0)), (1, .int x1)] := hl
  refine lv_iconst (v := 0) hx hb dX7_thinOut_0 (by decide) ?_
  refine lv_istore_n (lv' := [(2, .int 0), (0, .ref (ad 0)), (1, .int x1)]) hx hb dX7_thinOut_1 rfl hl (by decide) rfl (fun ls hl => ?_)
  refine kX7_thinOut_2 X x1 (fun M_2 H locs ls hw h hl => ?_) n 0 M _ _ ls hw h (lv_sub hl [1, 2, 0] rfl)
  refine lv_iconst (v := 1) hx hb dX7_thinOut_51 (by decide) ?_
  refine lv_istore_n (lv' := [(2, .int 1), (0, .ref (ad 0))]) hx hb dX7_thinOut_52 rfl hl (by decide) rfl (fun ls hl => ?_)
  exact kX7_thinOut_53 X hret n 1 M_2 _ _ ls hw h (lv_sub hl [1, 0] rfl)
def rmX7_cell : Room := { frames := 5, cells := 0, slots := 0, locals := 122 }
theorem inX7_cell : ∀ w ∈ wsX70, w ∈ wsX7_cell := fun w h => List.mem_cons_of_mem _ (List.mem_append_right _ h)
set_option maxHeartbeats 4000000 in
set_option maxRecDepth 100000 in
theorem qX7_cell (l : Launch) (D : va_G) (cA : Nat → ClassId) (n : Nat) (x1 : Int32) (x2 : Int32) (x3 : Int32) (x4 : Int32) : mMi l D cA yX7_cell wsX7_cell rmX7_cell (fun ad => [.ref (ad 0), .int x1, .int x2, .int x3, .int x4]) (wpX7_cell n x1 x2 x3 x4) := by
  intro ad sz M Q hw
  unfold wpX7_cell at hw
  refine m_enter (cc := cX7_cell) (maxL := 5) (ret := some .int) (own := RX7) (by decide) rfl rfl (Nat.le_of_ble_eq_true rfl) ?_
  intro p e s m args below meth c hsz X hr hlocks h ls hl
  have hret := @m_iret p l e (headSpec wsX7_cell rmX7_cell).room s m args below meth c cX7_cell D cA ad (va_A (mws cA ad M) sz) Q X.1 X.2.1 hr hlocks X.2.2.2.2.2.1
  obtain ⟨hx, hb, hml, hown, hts, hK, hA⟩ := id X
  have hl : lv_has ls 5 [(0, .ref (ad 0)), (1, .int x1), (2, .int x2), (3, .int x3), (4, .int x4)] := hl
  refine lv_aload_n hx hb dX7_cell_0 rfl (lv_at hl 0 rfl) ?_
  refine lv_iconst (v := 0) hx hb dX7_cell_1 (by decide) ?_
  refine m_put X inX7_cell h 0 (by decide) (by decide +kernel) rfl rfl rfl rfl dX7_cell_2 (fun M2 eM2 H locs h => ?_)
  have hw := hw M2 eM2
  refine lv_aload_n hx hb dX7_cell_5 rfl (lv_at hl 0 rfl) ?_
  refine lv_iload_n hx hb dX7_cell_6 rfl (lv_at hl 1 rfl) ?_
  refine m_calli (n := 1) X h (qX7_isPrint l D cA n x1) gX7_cell_X7_isPrint hw hl.1 dX7_cell_7 rfl rfl rfl (by decide +kernel) ⟨Nat.le_of_ble_eq_true rfl, Nat.le_of_ble_eq_true rfl⟩ rfl rfl (Nat.le_of_ble_eq_true rfl) (fun r7 M7 H locs hw h => ?_)
  refine lv_if_eq (tgt := 38) hx hb dX7_cell_10 (by decide) (fun c10 => ?_) (fun c10 => ?_)
  · have hw := hw.1 c10
    refine lv_iconst (v := (-1)) hx hb dX7_cell_38 (by decide) ?_
    exact hret (-1) M7 _ _ _ ls hw h dX7_cell_39
  · have hw := hw.2 c10
    refine lv_iload_n hx hb dX7_cell_13 rfl (lv_at hl 2 rfl) ?_
    refine m_callS (n := 1) X h (qX7_isPlace l D cA n x2) gX7_cell_X7_isPlace hw hl.1 dX7_cell_14 rfl rfl rfl (by decide +kernel) ⟨Nat.le_of_ble_eq_true rfl, Nat.le_of_ble_eq_true rfl⟩ rfl rfl (Nat.le_of_ble_eq_true rfl) (fun r14 M14 H locs hw h => ?_)
    refine lv_if_eq (tgt := 38) hx hb dX7_cell_17 (by decide) (fun c17 => ?_) (fun c17 => ?_)
    · have hw := hw.1 c17
      refine lv_iconst (v := (-1)) hx hb dX7_cell_38 (by decide) ?_
      exact hret (-1) M14 _ _ _ ls hw h dX7_cell_39
    · have hw := hw.2 c17
      refine lv_iload_n hx hb dX7_cell_20 rfl (lv_at hl 3 rfl) ?_
      refine m_callS (n := 1) X h (qX7_isPlace l D cA n x3) gX7_cell_X7_isPlace hw hl.1 dX7_cell_21 rfl rfl rfl (by decide +kernel) ⟨Nat.le_of_ble_eq_true rfl, Nat.le_of_ble_eq_true rfl⟩ rfl rfl (Nat.le_of_ble_eq_true rfl) (fun r21 M21 H locs hw h => ?_)
      refine lv_if_eq (tgt := 38) hx hb dX7_cell_24 (by decide) (fun c24 => ?_) (fun c24 => ?_)
      · have hw := hw.1 c24
        refine lv_iconst (v := (-1)) hx hb dX7_cell_38 (by decide) ?_
        exact hret (-1) M21 _ _ _ ls hw h dX7_cell_39
      · have hw := hw.2 c24
        refine lv_iload hx hb dX7_cell_27 (lv_at hl 4 rfl) ?_
        refine lv_i2l hx hb dX7_cell_29 rfl ?_
        refine lv_lconst (v := 0) hx hb dX7_cell_30 (by decide) ?_
        refine lv_lconst (v := 1) hx hb dX7_cell_31 (by decide) ?_
        refine m_callS (n := 3) X h (qX7_in l D cA n (x4.toInt64) 0 1) gX7_cell_X7_in hw hl.1 dX7_cell_32 rfl rfl rfl (by decide +kernel) ⟨Nat.le_of_ble_eq_true rfl, Nat.le_of_ble_eq_true rfl⟩ rfl rfl (Nat.le_of_ble_eq_true rfl) (fun r32 M32 H locs hw h => ?_)
        refine lv_if_ne (tgt := 40) hx hb dX7_cell_35 (by decide) (fun c35 => ?_) (fun c35 => ?_)
        · have hw := hw.1 c35
          refine lv_iload hx hb dX7_cell_40 (lv_at hl 4 rfl) ?_
          refine lv_if_ne (tgt := 61) hx hb dX7_cell_42 (by decide) (fun c42 => ?_) (fun c42 => ?_)
          · have hw := hw.1 c42
            refine lv_aload_n hx hb dX7_cell_61 rfl (lv_at hl 0 rfl) ?_
            refine lv_iload_n hx hb dX7_cell_62 rfl (lv_at hl 1 rfl) ?_
            refine m_callv (n := 1) X h (qX7_thinOut l D cA n x1) gX7_cell_X7_thinOut hw hl.1 dX7_cell_63 rfl rfl rfl (by decide +kernel) ⟨Nat.le_of_ble_eq_true rfl, Nat.le_of_ble_eq_true rfl⟩ rfl rfl (Nat.le_of_ble_eq_true rfl) (fun M63 H locs hw h => ?_)
            refine lv_aload_n hx hb dX7_cell_66 rfl (lv_at hl 0 rfl) ?_
            refine m_get X inX7_cell h 5 (by decide) (by decide +kernel) rfl rfl dX7_cell_67 ?_
            refine lv_bipush (v := 24) hx hb dX7_cell_70 (by decide) ?_
            refine lv_iload_n hx hb dX7_cell_72 rfl (lv_at hl 3 rfl) ?_
            refine lv_imul hx hb dX7_cell_73 ?_
            refine lv_iload_n hx hb dX7_cell_74 rfl (lv_at hl 2 rfl) ?_
            refine lv_iadd hx hb dX7_cell_75 ?_
            obtain ⟨hk1, hw⟩ := hw
            refine m_zald X h 5 (by decide) (by decide) rfl (n := 576) rfl hk1 dX7_cell_76 ?_
            refine lv_if_eq (tgt := 84) hx hb dX7_cell_77 (by decide) (fun c77 => ?_) (fun c77 => ?_)
            · have hw := hw.1 c77
              refine lv_iconst (v := 0) hx hb dX7_cell_84 (by decide) ?_
              exact hret 0 M63 _ _ _ ls hw h dX7_cell_85
            · have hw := hw.2 c77
              refine lv_iconst (v := 1) hx hb dX7_cell_80 (by decide) ?_
              refine lv_goto (tgt := 85) hx hb dX7_cell_81 (by decide) ?_
              exact hret 1 M63 _ _ _ ls hw h dX7_cell_85
          · have hw := hw.2 c42
            refine lv_aload_n hx hb dX7_cell_45 rfl (lv_at hl 0 rfl) ?_
            refine m_get X inX7_cell h 3 (by decide) (by decide +kernel) rfl rfl dX7_cell_46 ?_
            refine lv_bipush (v := 24) hx hb dX7_cell_49 (by decide) ?_
            refine lv_iload_n hx hb dX7_cell_51 rfl (lv_at hl 1 rfl) ?_
            refine lv_imul hx hb dX7_cell_52 ?_
            refine lv_iload_n hx hb dX7_cell_53 rfl (lv_at hl 3 rfl) ?_
            refine lv_iadd hx hb dX7_cell_54 ?_
            obtain ⟨hk2, hw⟩ := hw
            refine m_iald X h 3 (by decide) (by decide) rfl (n := 384) rfl hk2 dX7_cell_55 ?_
            refine lv_iload_n hx hb dX7_cell_56 rfl (lv_at hl 2 rfl) ?_
            refine lv_ishr hx hb dX7_cell_57 ?_
            refine lv_iconst (v := 1) hx hb dX7_cell_58 (by decide) ?_
            refine lv_iand hx hb dX7_cell_59 ?_
            exact hret (((M32 3 ((24 * x1) + x3).toNatClampNeg) >>> (x2 &&& 31)) &&& 1) M32 _ _ _ ls hw h dX7_cell_60
        · have hw := hw.2 c35
          refine lv_iconst (v := (-1)) hx hb dX7_cell_38 (by decide) ?_
          exact hret (-1) M32 _ _ _ ls hw h dX7_cell_39
def rmX7_thin : Room := { frames := 5, cells := 0, slots := 0, locals := 122 }
theorem inX7_thin : ∀ w ∈ wsX70, w ∈ wsX7_thin := fun w h => List.mem_cons_of_mem _ (List.mem_append_right _ h)
set_option maxHeartbeats 4000000 in
set_option maxRecDepth 100000 in
theorem kX7_thin_63 {n : Nat} {R : Int32 → Int32 → mM → Prop} (X : gX p s m args meth c D cA A cX7_thin 5 wsX7_thin RX7) (x2 : Int32) (x4 : Int32)
    (hR : ∀ (y3 : Int32) (y4 : Int32) (M : mM) (H : Heap) (locs : List Loc) (ls : Array Slot), R y3 y4 M → mH D cA ad A s.heap M H locs → lv_has ls 5 [(0, .ref (ad 0)), (2, .int x2), (3, .int y3), (4, .int y4)] → W p l e (headSpec wsX7_thin rmX7_thin).room s m args below meth c H locs 0 0 Z (F0 m 32 ls [])) :
    ∀ (s0 : Int32) (s1 : Int32) (M : mM) (H : Heap) (locs : List Loc) (ls : Array Slot), wpX7_thin_63 n R x2 x4 s0 s1 M → mH D cA ad A s.heap M H locs → lv_has ls 5 [(0, .ref (ad 0)), (2, .int x2), (4, .int x4)] → W p l e (headSpec wsX7_thin rmX7_thin).room s m args below meth c H locs 0 0 Z (F0 m 63 ls [.int s0, .int s1]) := by
  intro s0 s1 M H locs ls hw h hl
  unfold wpX7_thin_63 at hw
  obtain ⟨hx, hb, hml, hown, hts, hK, hA⟩ := id X
  refine lv_ior hx hb dX7_thin_63 ?_
  refine lv_topi (fun x3_64 ex3_64 => ?_)
  have hw := hw x3_64 ex3_64
  refine lv_istore_n (lv' := [(3, .int x3_64), (0, .ref (ad 0)), (2, .int x2), (4, .int x4)]) hx hb dX7_thin_64 rfl hl (by decide) rfl (fun ls hl => ?_)
  obtain ⟨x4_65, ex4_65⟩ : ∃ z : Int32, z = x4 + 1 := ⟨_, rfl⟩
  have hw := hw x4_65 ex4_65
  refine lv_iinc (v := x4_65) (lv' := [(4, .int x4_65), (3, .int x3_64), (0, .ref (ad 0)), (2, .int x2)]) hx hb dX7_thin_65 hl (k := 3) rfl (by rw [ex4_65]; rfl) (by decide) rfl (fun ls hl => ?_)
  refine lv_goto (tgt := 32) hx hb dX7_thin_68 (by decide) ?_
  exact hR x3_64 x4_65 M _ _ ls hw h (lv_sub hl [2, 3, 1, 0] rfl)
set_option maxHeartbeats 4000000 in
set_option maxRecDepth 100000 in
theorem kX7_thin_32 {n : Nat} {Q : Int32 → mM → Prop} (X : gX p s m args meth c D cA A cX7_thin 5 wsX7_thin RX7) (x2 : Int32)
    (hret : ∀ (r : Int32) (M : mM) (H : Heap) (locs : List Loc) (pc : Nat) (ls : Array Slot), Q r M → mH D cA ad A s.heap M H locs → decode cX7_thin pc = .ok (.ireturn, 1) → W p l e (headSpec wsX7_thin rmX7_thin).room s m args below meth c H locs 0 0 Z (F0 m pc ls [.int r])) :
    ∀ (k : Nat) (x3 : Int32) (x4 : Int32) (M : mM) (H : Heap) (locs : List Loc) (ls : Array Slot), wpX7_thin_32 n Q x2 k x3 x4 M → mH D cA ad A s.heap M H locs → lv_has ls 5 [(0, .ref (ad 0)), (2, .int x2), (3, .int x3), (4, .int x4)] → W p l e (headSpec wsX7_thin rmX7_thin).room s m args below meth c H locs 0 0 Z (F0 m 32 ls []) := by
  intro k
  induction k with
  | zero => intro x3 x4 M H locs ls hw; exact hw.elim
  | succ k ih =>
    intro x3 x4 M H locs ls hw h hl
    rw [wpX7_thin_32] at hw
    obtain ⟨hx, hb, hml, hown, hts, hK, hA⟩ := id X
    refine lv_iload hx hb dX7_thin_32 (lv_at hl 3 rfl) ?_
    refine lv_bipush (v := 24) hx hb dX7_thin_34 (by decide) ?_
    refine lv_icmp_ge (tgt := 71) hx hb dX7_thin_36 (by decide) (fun c36 => ?_) (fun c36 => ?_)
    · have hw := hw.1 c36
      refine lv_iload_n hx hb dX7_thin_71 rfl (lv_at hl 2 rfl) ?_
      exact hret x3 M _ _ _ ls hw h dX7_thin_72
    · have hw := hw.2 c36
      refine lv_iload_n hx hb dX7_thin_39 rfl (lv_at hl 2 rfl) ?_
      refine lv_aload_n hx hb dX7_thin_40 rfl (lv_at hl 0 rfl) ?_
      refine m_get X inX7_thin h 5 (by decide) (by decide +kernel) rfl rfl dX7_thin_41 ?_
      refine lv_bipush (v := 24) hx hb dX7_thin_44 (by decide) ?_
      refine lv_iload_n hx hb dX7_thin_46 rfl (lv_at hl 1 rfl) ?_
      refine lv_imul hx hb dX7_thin_47 ?_
      refine lv_iload hx hb dX7_thin_48 (lv_at hl 3 rfl) ?_
      refine lv_iadd hx hb dX7_thin_50 ?_
      obtain ⟨hk1, hw⟩ := hw
      refine m_zald X h 5 (by decide) (by decide) rfl (n := 576) rfl hk1 dX7_thin_51 ?_
      refine lv_if_eq (tgt := 62) hx hb dX7_thin_52 (by decide) (fun c52 => ?_) (fun c52 => ?_)
      · have hw := hw.1 c52
        refine lv_iconst (v := 0) hx hb dX7_thin_62 (by decide) ?_
        exact kX7_thin_63 X x2 x4 ih 0 x3 M _ _ ls hw h (lv_sub hl [0, 1, 3] rfl)
      · have hw := hw.2 c52
        refine lv_iconst (v := 1) hx hb dX7_thin_55 (by decide) ?_
        refine lv_iload hx hb dX7_thin_56 (lv_at hl 3 rfl) ?_
        refine lv_ishl hx hb dX7_thin_58 ?_
        refine lv_goto (tgt := 63) hx hb dX7_thin_59 (by decide) ?_
        exact kX7_thin_63 X x2 x4 ih (1 <<< (x4 &&& 31)) x3 M _ _ ls hw h (lv_sub hl [0, 1, 3] rfl)
set_option maxHeartbeats 4000000 in
set_option maxRecDepth 100000 in
theorem qX7_thin (l : Launch) (D : va_G) (cA : Nat → ClassId) (n : Nat) (x1 : Int32) (x2 : Int32) : mMi l D cA yX7_thin wsX7_thin rmX7_thin (fun ad => [.ref (ad 0), .int x1, .int x2]) (wpX7_thin n x1 x2) := by
  intro ad sz M Q hw
  unfold wpX7_thin at hw
  refine m_enter (cc := cX7_thin) (maxL := 5) (ret := some .int) (own := RX7) (by decide) rfl rfl (Nat.le_of_ble_eq_true rfl) ?_
  intro p e s m args below meth c hsz X hr hlocks h ls hl
  have hret := @m_iret p l e (headSpec wsX7_thin rmX7_thin).room s m args below meth c cX7_thin D cA ad (va_A (mws cA ad M) sz) Q X.1 X.2.1 hr hlocks X.2.2.2.2.2.1
  obtain ⟨hx, hb, hml, hown, hts, hK, hA⟩ := id X
  have hl : lv_has ls 5 [(0, .ref (ad 0)), (1, .int x1), (2, .int x2)] := hl
  refine lv_aload_n hx hb dX7_thin_0 rfl (lv_at hl 0 rfl) ?_
  refine lv_iconst (v := 0) hx hb dX7_thin_1 (by decide) ?_
  refine m_put X inX7_thin h 0 (by decide) (by decide +kernel) rfl rfl rfl rfl dX7_thin_2 (fun M2 eM2 H locs h => ?_)
  have hw := hw M2 eM2
  refine lv_aload_n hx hb dX7_thin_5 rfl (lv_at hl 0 rfl) ?_
  refine lv_iload_n hx hb dX7_thin_6 rfl (lv_at hl 1 rfl) ?_
  refine m_calli (n := 1) X h (qX7_isPrint l D cA n x1) gX7_thin_X7_isPrint hw hl.1 dX7_thin_7 rfl rfl rfl (by decide +kernel) ⟨Nat.le_of_ble_eq_true rfl, Nat.le_of_ble_eq_true rfl⟩ rfl rfl (Nat.le_of_ble_eq_true rfl) (fun r7 M7 H locs hw h => ?_)
  refine lv_if_eq (tgt := 20) hx hb dX7_thin_10 (by decide) (fun c10 => ?_) (fun c10 => ?_)
  · have hw := hw.1 c10
    refine lv_iconst (v := 0) hx hb dX7_thin_20 (by decide) ?_
    exact hret 0 M7 _ _ _ ls hw h dX7_thin_21
  · have hw := hw.2 c10
    refine lv_iload_n hx hb dX7_thin_13 rfl (lv_at hl 2 rfl) ?_
    refine m_callS (n := 1) X h (qX7_isPlace l D cA n x2) gX7_thin_X7_isPlace hw hl.1 dX7_thin_14 rfl rfl rfl (by decide +kernel) ⟨Nat.le_of_ble_eq_true rfl, Nat.le_of_ble_eq_true rfl⟩ rfl rfl (Nat.le_of_ble_eq_true rfl) (fun r14 M14 H locs hw h => ?_)
    refine lv_if_ne (tgt := 22) hx hb dX7_thin_17 (by decide) (fun c17 => ?_) (fun c17 => ?_)
    · have hw := hw.1 c17
      refine lv_aload_n hx hb dX7_thin_22 rfl (lv_at hl 0 rfl) ?_
      refine lv_iload_n hx hb dX7_thin_23 rfl (lv_at hl 1 rfl) ?_
      refine m_callv (n := 1) X h (qX7_thinOut l D cA n x1) gX7_thin_X7_thinOut hw hl.1 dX7_thin_24 rfl rfl rfl (by decide +kernel) ⟨Nat.le_of_ble_eq_true rfl, Nat.le_of_ble_eq_true rfl⟩ rfl rfl (Nat.le_of_ble_eq_true rfl) (fun M24 H locs hw h => ?_)
      refine lv_iconst (v := 0) hx hb dX7_thin_27 (by decide) ?_
      refine lv_istore_n (lv' := [(3, .int 0), (0, .ref (ad 0)), (1, .int x1), (2, .int x2)]) hx hb dX7_thin_28 rfl hl (by decide) rfl (fun ls hl => ?_)
      refine lv_iconst (v := 0) hx hb dX7_thin_29 (by decide) ?_
      refine lv_istore (lv' := [(4, .int 0), (3, .int 0), (0, .ref (ad 0)), (1, .int x1), (2, .int x2)]) hx hb dX7_thin_30 hl (by decide) rfl (fun ls hl => ?_)
      exact kX7_thin_32 X x2 hret n 0 0 M24 _ _ ls hw h (lv_sub hl [2, 4, 1, 0] rfl)
    · have hw := hw.2 c17
      refine lv_iconst (v := 0) hx hb dX7_thin_20 (by decide) ?_
      exact hret 0 M14 _ _ _ ls hw h dX7_thin_21
def rmX7_findMarks : Room := { frames := 5, cells := 0, slots := 0, locals := 122 }
theorem inX7_findMarks : ∀ w ∈ wsX70, w ∈ wsX7_findMarks := fun w h => List.mem_cons_of_mem _ (List.mem_append_right _ h)
set_option maxHeartbeats 4000000 in
set_option maxRecDepth 100000 in
theorem kX7_findMarks_90 {n : Nat} {E112 : Int32 → mM → Prop} (X : gX p s m args meth c D cA A cX7_findMarks 7 wsX7_findMarks RX7) (x1 : Int32) (x2 : Int32) (x3 : Int32) (x4 : Int32)
    (hE112 : ∀ (y5 : Int32) (M : mM) (H : Heap) (locs : List Loc) (ls : Array Slot), E112 y5 M → mH D cA ad A s.heap M H locs → lv_has ls 7 [(0, .ref (ad 0)), (1, .int x1), (2, .int x2), (3, .int x3), (5, .int y5)] → W p l e (headSpec wsX7_findMarks rmX7_findMarks).room s m args below meth c H locs 0 0 Z (F0 m 112 ls [])) :
    ∀ (k : Nat) (x5 : Int32) (M : mM) (H : Heap) (locs : List Loc) (ls : Array Slot), wpX7_findMarks_90 n E112 x1 x2 x3 x4 k x5 M → mH D cA ad A s.heap M H locs → lv_has ls 7 [(0, .ref (ad 0)), (1, .int x1), (2, .int x2), (3, .int x3), (4, .int x4), (5, .int x5)] → W p l e (headSpec wsX7_findMarks rmX7_findMarks).room s m args below meth c H locs 0 0 Z (F0 m 90 ls []) := by
  intro k
  induction k with
  | zero => intro x5 M H locs ls hw; exact hw.elim
  | succ k ih =>
    intro x5 M H locs ls hw h hl
    rw [wpX7_findMarks_90] at hw
    obtain ⟨hx, hb, hml, hown, hts, hK, hA⟩ := id X
    refine lv_iload hx hb dX7_findMarks_90 (lv_at hl 4 rfl) ?_
    refine lv_iconst (v := 1) hx hb dX7_findMarks_92 (by decide) ?_
    refine lv_icmp_ne (tgt := 112) hx hb dX7_findMarks_93 (by decide) (fun c93 => ?_) (fun c93 => ?_)
    · have hw := hw.1 c93
      exact hE112 x5 M _ _ ls hw h (lv_sub hl [0, 1, 2, 3, 5] rfl)
    · have hw := hw.2 c93
      refine lv_aload_n hx hb dX7_findMarks_96 rfl (lv_at hl 0 rfl) ?_
      refine m_get X inX7_findMarks h 7 (by decide) (by decide +kernel) rfl rfl dX7_findMarks_97 ?_
      refine lv_iload hx hb dX7_findMarks_100 (lv_at hl 5 rfl) ?_
      obtain ⟨hk4, hw⟩ := hw
      refine m_zald X h 7 (by decide) (by decide) rfl (n := 8) rfl hk4 dX7_findMarks_102 ?_
      refine lv_if_ne (tgt := 112) hx hb dX7_findMarks_103 (by decide) (fun c103 => ?_) (fun c103 => ?_)
      · have hw := hw.1 c103
        exact hE112 x5 M _ _ ls hw h (lv_sub hl [0, 1, 2, 3, 5] rfl)
      · have hw := hw.2 c103
        obtain ⟨x5_106, ex5_106⟩ : ∃ z : Int32, z = x5 + 1 := ⟨_, rfl⟩
        have hw := hw x5_106 ex5_106
        refine lv_iinc (v := x5_106) (lv' := [(5, .int x5_106), (0, .ref (ad 0)), (1, .int x1), (2, .int x2), (3, .int x3), (4, .int x4)]) hx hb dX7_findMarks_106 hl (k := 5) rfl (by rw [ex5_106]; rfl) (by decide) rfl (fun ls hl => ?_)
        refine lv_goto (tgt := 90) hx hb dX7_findMarks_109 (by decide) ?_
        exact ih x5_106 M _ _ ls hw h (lv_sub hl [1, 2, 3, 4, 5, 0] rfl)
set_option maxHeartbeats 4000000 in
set_option maxRecDepth 100000 in
theorem kX7_findMarks_112 {n : Nat} {R : Int32 → mM → Prop} (X : gX p s m args meth c D cA A cX7_findMarks 7 wsX7_findMarks RX7) (x1 : Int32) (x2 : Int32) (x3 : Int32) (x5 : Int32)
    (hR : ∀ (y3 : Int32) (M : mM) (H : Heap) (locs : List Loc) (ls : Array Slot), R y3 M → mH D cA ad A s.heap M H locs → lv_has ls 7 [(0, .ref (ad 0)), (1, .int x1), (2, .int x2), (3, .int y3)] → W p l e (headSpec wsX7_findMarks rmX7_findMarks).room s m args below meth c H locs 0 0 Z (F0 m 22 ls [])) :
    ∀ (M : mM) (H : Heap) (locs : List Loc) (ls : Array Slot), wpX7_findMarks_112 n R x1 x2 x3 x5 M → mH D cA ad A s.heap M H locs → lv_has ls 7 [(0, .ref (ad 0)), (1, .int x1), (2, .int x2), (3, .int x3), (5, .int x5)] → W p l e (headSpec wsX7_findMarks rmX7_findMarks).room s m args below meth c H locs 0 0 Z (F0 m 112 ls []) := by
  intro M H locs ls hw h hl
  unfold wpX7_findMarks_112 at hw
  obtain ⟨hx, hb, hml, hown, hts, hK, hA⟩ := id X
  refine lv_iload hx hb dX7_findMarks_112 (lv_at hl 4 rfl) ?_
  refine lv_iconst (v := (-1)) hx hb dX7_findMarks_114 (by decide) ?_
  refine lv_icmp_eq (tgt := 166) hx hb dX7_findMarks_115 (by decide) (fun c115 => ?_) (fun c115 => ?_)
  · have hw := hw.1 c115
    obtain ⟨x3_166, ex3_166⟩ : ∃ z : Int32, z = x3 + 1 := ⟨_, rfl⟩
    have hw := hw x3_166 ex3_166
    refine lv_iinc (v := x3_166) (lv' := [(3, .int x3_166), (0, .ref (ad 0)), (1, .int x1), (2, .int x2), (5, .int x5)]) hx hb dX7_findMarks_166 hl (k := 3) rfl (by rw [ex3_166]; rfl) (by decide) rfl (fun ls hl => ?_)
    refine lv_goto (tgt := 22) hx hb dX7_findMarks_169 (by decide) ?_
    exact hR x3_166 M _ _ ls hw h (lv_sub hl [1, 2, 3, 0] rfl)
  · have hw := hw.2 c115
    refine lv_bipush (v := 40) hx hb dX7_findMarks_118 (by decide) ?_
    refine lv_iload_n hx hb dX7_findMarks_120 rfl (lv_at hl 1 rfl) ?_
    refine lv_imul hx hb dX7_findMarks_121 ?_
    refine lv_aload_n hx hb dX7_findMarks_122 rfl (lv_at hl 0 rfl) ?_
    refine m_get X inX7_findMarks h 8 (by decide) (by decide +kernel) rfl rfl dX7_findMarks_123 ?_
    refine lv_iload_n hx hb dX7_findMarks_126 rfl (lv_at hl 1 rfl) ?_
    obtain ⟨hk5, hw⟩ := hw
    refine m_iald X h 8 (by decide) (by decide) rfl (n := 16) rfl hk5 dX7_findMarks_127 ?_
    refine lv_iadd hx hb dX7_findMarks_128 ?_
    refine lv_topi (fun x6_129 ex6_129 => ?_)
    have hw := hw x6_129 ex6_129
    refine lv_istore (lv' := [(6, .int x6_129), (0, .ref (ad 0)), (1, .int x1), (2, .int x2), (3, .int x3), (5, .int x5)]) hx hb dX7_findMarks_129 hl (by decide) rfl (fun ls hl => ?_)
    refine lv_aload_n hx hb dX7_findMarks_131 rfl (lv_at hl 1 rfl) ?_
    refine m_get X inX7_findMarks h 9 (by decide) (by decide +kernel) rfl rfl dX7_findMarks_132 ?_
    refine lv_iload hx hb dX7_findMarks_135 (lv_at hl 0 rfl) ?_
    refine lv_iload_n hx hb dX7_findMarks_137 rfl (lv_at hl 4 rfl) ?_
    obtain ⟨hk6, hw⟩ := hw
    refine m_iast X h 9 (by decide) (by decide) rfl (n := 640) rfl hk6 dX7_findMarks_138 (fun M138 eM138 H locs h => ?_)
    have hw := hw M138 eM138
    refine lv_aload_n hx hb dX7_findMarks_139 rfl (lv_at hl 1 rfl) ?_
    refine m_get X inX7_findMarks h 10 (by decide) (by decide +kernel) rfl rfl dX7_findMarks_140 ?_
    refine lv_iload hx hb dX7_findMarks_143 (lv_at hl 0 rfl) ?_
    refine lv_iload_n hx hb dX7_findMarks_145 rfl (lv_at hl 3 rfl) ?_
    refine m_iast X h 10 (by decide) (by decide) rfl (n := 640) rfl hk6 dX7_findMarks_146 (fun M146 eM146 H locs h => ?_)
    have hw := hw M146 eM146
    refine lv_aload_n hx hb dX7_findMarks_147 rfl (lv_at hl 1 rfl) ?_
    refine m_get X inX7_findMarks h 11 (by decide) (by decide +kernel) rfl rfl dX7_findMarks_148 ?_
    refine lv_iload hx hb dX7_findMarks_151 (lv_at hl 0 rfl) ?_
    refine lv_iload hx hb dX7_findMarks_153 (lv_at hl 5 rfl) ?_
    refine m_iast X h 11 (by decide) (by decide) rfl (n := 640) rfl hk6 dX7_findMarks_155 (fun M155 eM155 H locs h => ?_)
    have hw := hw M155 eM155
    refine lv_aload_n hx hb dX7_findMarks_156 rfl (lv_at hl 1 rfl) ?_
    refine m_get X inX7_findMarks h 8 (by decide) (by decide +kernel) rfl rfl dX7_findMarks_157 ?_
    refine lv_iload_n hx hb dX7_findMarks_160 rfl (lv_at hl 2 rfl) ?_
    refine lv_dup2_11 hx hb dX7_findMarks_161 rfl rfl ?_
    refine m_iald X h 8 (by decide) (by decide) rfl (n := 16) rfl hk5 dX7_findMarks_162 ?_
    refine lv_iconst (v := 1) hx hb dX7_findMarks_163 (by decide) ?_
    refine lv_iadd hx hb dX7_findMarks_164 ?_
    refine m_iast X h 8 (by decide) (by decide) rfl (n := 16) rfl hk5 dX7_findMarks_165 (fun M165 eM165 H locs h => ?_)
    have hw := hw M165 eM165
    obtain ⟨x3_166, ex3_166⟩ : ∃ z : Int32, z = x3 + 1 := ⟨_, rfl⟩
    have hw := hw x3_166 ex3_166
    refine lv_iinc (v := x3_166) (lv' := [(3, .int x3_166), (6, .int x6_129), (0, .ref (ad 0)), (1, .int x1), (2, .int x2), (5, .int x5)]) hx hb dX7_findMarks_166 hl (k := 4) rfl (by rw [ex3_166]; rfl) (by decide) rfl (fun ls hl => ?_)
    refine lv_goto (tgt := 22) hx hb dX7_findMarks_169 (by decide) ?_
    exact hR x3_166 M165 _ _ ls hw h (lv_sub hl [2, 3, 4, 0] rfl)
set_option maxHeartbeats 4000000 in
set_option maxRecDepth 100000 in
theorem kX7_findMarks_22 {n : Nat} {E172 : mM → Prop} (X : gX p s m args meth c D cA A cX7_findMarks 7 wsX7_findMarks RX7) (x1 : Int32) (x2 : Int32)
    (hE172 : ∀ (M : mM) (H : Heap) (locs : List Loc) (ls : Array Slot), E172 M → mH D cA ad A s.heap M H locs → lv_has ls 7 [(0, .ref (ad 0)), (1, .int x1), (2, .int x2)] → W p l e (headSpec wsX7_findMarks rmX7_findMarks).room s m args below meth c H locs 0 0 Z (F0 m 172 ls [])) :
    ∀ (k : Nat) (x3 : Int32) (M : mM) (H : Heap) (locs : List Loc) (ls : Array Slot), wpX7_findMarks_22 n E172 x1 x2 k x3 M → mH D cA ad A s.heap M H locs → lv_has ls 7 [(0, .ref (ad 0)), (1, .int x1), (2, .int x2), (3, .int x3)] → W p l e (headSpec wsX7_findMarks rmX7_findMarks).room s m args below meth c H locs 0 0 Z (F0 m 22 ls []) := by
  intro k
  induction k with
  | zero => intro x3 M H locs ls hw; exact hw.elim
  | succ k ih =>
    intro x3 M H locs ls hw h hl
    rw [wpX7_findMarks_22] at hw
    obtain ⟨hx, hb, hml, hown, hts, hK, hA⟩ := id X
    refine lv_iload_n hx hb dX7_findMarks_22 rfl (lv_at hl 3 rfl) ?_
    refine lv_bipush (v := 23) hx hb dX7_findMarks_23 (by decide) ?_
    refine lv_icmp_ge (tgt := 172) hx hb dX7_findMarks_25 (by decide) (fun c25 => ?_) (fun c25 => ?_)
    · have hw := hw.1 c25
      exact hE172 M _ _ ls hw h (lv_sub hl [0, 1, 2] rfl)
    · have hw := hw.2 c25
      refine lv_aload_n hx hb dX7_findMarks_28 rfl (lv_at hl 0 rfl) ?_
      refine m_get X inX7_findMarks h 5 (by decide) (by decide +kernel) rfl rfl dX7_findMarks_29 ?_
      refine lv_bipush (v := 24) hx hb dX7_findMarks_32 (by decide) ?_
      refine lv_iload_n hx hb dX7_findMarks_34 rfl (lv_at hl 2 rfl) ?_
      refine lv_imul hx hb dX7_findMarks_35 ?_
      refine lv_iload_n hx hb dX7_findMarks_36 rfl (lv_at hl 3 rfl) ?_
      refine lv_iadd hx hb dX7_findMarks_37 ?_
      obtain ⟨hk2, hw⟩ := hw
      refine m_zald X h 5 (by decide) (by decide) rfl (n := 576) rfl hk2 dX7_findMarks_38 ?_
      refine lv_if_eq (tgt := 166) hx hb dX7_findMarks_39 (by decide) (fun c39 => ?_) (fun c39 => ?_)
      · have hw := hw.1 c39
        obtain ⟨x3_166, ex3_166⟩ : ∃ z : Int32, z = x3 + 1 := ⟨_, rfl⟩
        have hw := hw x3_166 ex3_166
        refine lv_iinc (v := x3_166) (lv' := [(3, .int x3_166), (0, .ref (ad 0)), (1, .int x1), (2, .int x2)]) hx hb dX7_findMarks_166 hl (k := 3) rfl (by rw [ex3_166]; rfl) (by decide) rfl (fun ls hl => ?_)
        refine lv_goto (tgt := 22) hx hb dX7_findMarks_169 (by decide) ?_
        exact ih x3_166 M _ _ ls hw h (lv_sub hl [1, 2, 3, 0] rfl)
      · have hw := hw.2 c39
        refine lv_aload_n hx hb dX7_findMarks_42 rfl (lv_at hl 0 rfl) ?_
        refine m_get X inX7_findMarks h 8 (by decide) (by decide +kernel) rfl rfl dX7_findMarks_43 ?_
        refine lv_iload_n hx hb dX7_findMarks_46 rfl (lv_at hl 1 rfl) ?_
        obtain ⟨hk3, hw⟩ := hw
        refine m_iald X h 8 (by decide) (by decide) rfl (n := 16) rfl hk3 dX7_findMarks_47 ?_
        refine lv_bipush (v := 40) hx hb dX7_findMarks_48 (by decide) ?_
        refine lv_icmp_ne (tgt := 56) hx hb dX7_findMarks_50 (by decide) (fun c50 => ?_) (fun c50 => ?_)
        · have hw := hw.1 c50
          refine lv_aload_n hx hb dX7_findMarks_56 rfl (lv_at hl 0 rfl) ?_
          refine lv_iload_n hx hb dX7_findMarks_57 rfl (lv_at hl 3 rfl) ?_
          refine lv_iload_n hx hb dX7_findMarks_58 rfl (lv_at hl 2 rfl) ?_
          refine m_calli (n := 2) X h (qX7_look l D cA n x3 x2) gX7_findMarks_X7_look hw hl.1 dX7_findMarks_59 rfl rfl rfl (by decide +kernel) ⟨Nat.le_of_ble_eq_true rfl, Nat.le_of_ble_eq_true rfl⟩ rfl rfl (Nat.le_of_ble_eq_true rfl) (fun r59 M59 H locs hw h => ?_)
          refine lv_istore (lv' := [(4, .int r59), (0, .ref (ad 0)), (1, .int x1), (2, .int x2), (3, .int x3)]) hx hb dX7_findMarks_62 hl (by decide) rfl (fun ls hl => ?_)
          refine lv_iload hx hb dX7_findMarks_64 (lv_at hl 0 rfl) ?_
          refine lv_iconst (v := 1) hx hb dX7_findMarks_66 (by decide) ?_
          refine lv_icmp_ne (tgt := 74) hx hb dX7_findMarks_67 (by decide) (fun c67 => ?_) (fun c67 => ?_)
          · have hw := hw.1 c67
            refine lv_aload_n hx hb dX7_findMarks_74 rfl (lv_at hl 1 rfl) ?_
            refine m_calli (n := 0) X h (qX7_changes l D cA n) gX7_findMarks_X7_changes hw hl.1 dX7_findMarks_75 rfl rfl rfl (by decide +kernel) ⟨Nat.le_of_ble_eq_true rfl, Nat.le_of_ble_eq_true rfl⟩ rfl rfl (Nat.le_of_ble_eq_true rfl) (fun r75 M75 H locs hw h => ?_)
            refine lv_iconst (v := 3) hx hb dX7_findMarks_78 (by decide) ?_
            refine lv_icmp_lt (tgt := 87) hx hb dX7_findMarks_79 (by decide) (fun c79 => ?_) (fun c79 => ?_)
            · have hw := hw.1 c79
              refine lv_iconst (v := (-1)) hx hb dX7_findMarks_87 (by decide) ?_
              refine lv_istore (lv' := [(5, .int (-1)), (4, .int r59), (0, .ref (ad 0)), (1, .int x1), (2, .int x2), (3, .int x3)]) hx hb dX7_findMarks_88 hl (by decide) rfl (fun ls hl => ?_)
              refine kX7_findMarks_90 X x1 x2 x3 r59 (fun y5_90 M_90 H locs ls hw h hl => ?_) n (-1) M75 _ _ ls hw h (lv_sub hl [2, 3, 4, 5, 1, 0] rfl)
              exact kX7_findMarks_112 X x1 x2 x3 y5_90 ih M_90 _ _ ls hw h (lv_sub hl [0, 1, 2, 3, 4] rfl)
            · have hw := hw.2 c79
              refine lv_bipush (v := 8) hx hb dX7_findMarks_82 (by decide) ?_
              refine lv_goto (tgt := 88) hx hb dX7_findMarks_84 (by decide) ?_
              refine lv_istore (lv' := [(5, .int 8), (4, .int r59), (0, .ref (ad 0)), (1, .int x1), (2, .int x2), (3, .int x3)]) hx hb dX7_findMarks_88 hl (by decide) rfl (fun ls hl => ?_)
              refine kX7_findMarks_90 X x1 x2 x3 r59 (fun y5_90 M_90 H locs ls hw h hl => ?_) n 8 M75 _ _ ls hw h (lv_sub hl [2, 3, 4, 5, 1, 0] rfl)
              exact kX7_findMarks_112 X x1 x2 x3 y5_90 ih M_90 _ _ ls hw h (lv_sub hl [0, 1, 2, 3, 4] rfl)
          · have hw := hw.2 c67
            refine lv_iconst (v := 0) hx hb dX7_findMarks_70 (by decide) ?_
            refine lv_goto (tgt := 88) hx hb dX7_findMarks_71 (by decide) ?_
            refine lv_istore (lv' := [(5, .int 0), (4, .int r59), (0, .ref (ad 0)), (1, .int x1), (2, .int x2), (3, .int x3)]) hx hb dX7_findMarks_88 hl (by decide) rfl (fun ls hl => ?_)
            refine kX7_findMarks_90 X x1 x2 x3 r59 (fun y5_90 M_90 H locs ls hw h hl => ?_) n 0 M59 _ _ ls hw h (lv_sub hl [2, 3, 4, 5, 1, 0] rfl)
            exact kX7_findMarks_112 X x1 x2 x3 y5_90 ih M_90 _ _ ls hw h (lv_sub hl [0, 1, 2, 3, 4] rfl)
        · have hw := hw.2 c50
          refine lv_goto (tgt := 166) hx hb dX7_findMarks_53 (by decide) ?_
          obtain ⟨x3_166, ex3_166⟩ : ∃ z : Int32, z = x3 + 1 := ⟨_, rfl⟩
          have hw := hw x3_166 ex3_166
          refine lv_iinc (v := x3_166) (lv' := [(3, .int x3_166), (0, .ref (ad 0)), (1, .int x1), (2, .int x2)]) hx hb dX7_findMarks_166 hl (k := 3) rfl (by rw [ex3_166]; rfl) (by decide) rfl (fun ls hl => ?_)
          refine lv_goto (tgt := 22) hx hb dX7_findMarks_169 (by decide) ?_
          exact ih x3_166 M _ _ ls hw h (lv_sub hl [1, 2, 3, 0] rfl)
set_option maxHeartbeats 4000000 in
set_option maxRecDepth 100000 in
theorem kX7_findMarks_14 {n : Nat} {Q : mM → Prop} (X : gX p s m args meth c D cA A cX7_findMarks 7 wsX7_findMarks RX7) (x1 : Int32)
    (hret : ∀ (M : mM) (H : Heap) (locs : List Loc) (pc : Nat) (ls : Array Slot), Q M → mH D cA ad A s.heap M H locs → decode cX7_findMarks pc = .ok (.return_, 1) → W p l e (headSpec wsX7_findMarks rmX7_findMarks).room s m args below meth c H locs 0 0 Z (F0 m pc ls [])) :
    ∀ (k : Nat) (x2 : Int32) (M : mM) (H : Heap) (locs : List Loc) (ls : Array Slot), wpX7_findMarks_14 n Q x1 k x2 M → mH D cA ad A s.heap M H locs → lv_has ls 7 [(0, .ref (ad 0)), (1, .int x1), (2, .int x2)] → W p l e (headSpec wsX7_findMarks rmX7_findMarks).room s m args below meth c H locs 0 0 Z (F0 m 14 ls []) := by
  intro k
  induction k with
  | zero => intro x2 M H locs ls hw; exact hw.elim
  | succ k ih =>
    intro x2 M H locs ls hw h hl
    rw [wpX7_findMarks_14] at hw
    obtain ⟨hx, hb, hml, hown, hts, hK, hA⟩ := id X
    refine lv_iload_n hx hb dX7_findMarks_14 rfl (lv_at hl 2 rfl) ?_
    refine lv_bipush (v := 23) hx hb dX7_findMarks_15 (by decide) ?_
    refine lv_icmp_ge (tgt := 178) hx hb dX7_findMarks_17 (by decide) (fun c17 => ?_) (fun c17 => ?_)
    · have hw := hw.1 c17
      exact hret M _ _ _ ls hw h dX7_findMarks_178
    · have hw := hw.2 c17
      refine lv_iconst (v := 1) hx hb dX7_findMarks_20 (by decide) ?_
      refine lv_istore_n (lv' := [(3, .int 1), (0, .ref (ad 0)), (1, .int x1), (2, .int x2)]) hx hb dX7_findMarks_21 rfl hl (by decide) rfl (fun ls hl => ?_)
      refine kX7_findMarks_22 X x1 x2 (fun M_22 H locs ls hw h hl => ?_) n 1 M _ _ ls hw h (lv_sub hl [1, 2, 3, 0] rfl)
      obtain ⟨x2_172, ex2_172⟩ : ∃ z : Int32, z = x2 + 1 := ⟨_, rfl⟩
      have hw := hw x2_172 ex2_172
      refine lv_iinc (v := x2_172) (lv' := [(2, .int x2_172), (0, .ref (ad 0)), (1, .int x1)]) hx hb dX7_findMarks_172 hl (k := 2) rfl (by rw [ex2_172]; rfl) (by decide) rfl (fun ls hl => ?_)
      refine lv_goto (tgt := 14) hx hb dX7_findMarks_175 (by decide) ?_
      exact ih x2_172 M_22 _ _ ls hw h (lv_sub hl [1, 2, 0] rfl)
set_option maxHeartbeats 4000000 in
set_option maxRecDepth 100000 in
theorem qX7_findMarks (l : Launch) (D : va_G) (cA : Nat → ClassId) (n : Nat) (x1 : Int32) : mMv l D cA yX7_findMarks wsX7_findMarks rmX7_findMarks (fun ad => [.ref (ad 0), .int x1]) (wpX7_findMarks n x1) := by
  intro ad sz M Q hw
  unfold wpX7_findMarks at hw
  refine m_enter (cc := cX7_findMarks) (maxL := 7) (ret := none) (own := RX7) (by decide) rfl rfl (Nat.le_of_ble_eq_true rfl) ?_
  intro p e s m args below meth c hsz X hr hlocks h ls hl
  have hret := @m_vret p l e (headSpec wsX7_findMarks rmX7_findMarks).room s m args below meth c cX7_findMarks D cA ad (va_A (mws cA ad M) sz) Q X.1 X.2.1 hr hlocks X.2.2.2.2.2.1
  obtain ⟨hx, hb, hml, hown, hts, hK, hA⟩ := id X
  have hl : lv_has ls 7 [(0, .ref (ad 0)), (1, .int x1)] := hl
  refine lv_aload_n hx hb dX7_findMarks_0 rfl (lv_at hl 0 rfl) ?_
  refine lv_iload_n hx hb dX7_findMarks_1 rfl (lv_at hl 1 rfl) ?_
  refine m_callv (n := 1) X h (qX7_thinOut l D cA n x1) gX7_findMarks_X7_thinOut hw hl.1 dX7_findMarks_2 rfl rfl rfl (by decide +kernel) ⟨Nat.le_of_ble_eq_true rfl, Nat.le_of_ble_eq_true rfl⟩ rfl rfl (Nat.le_of_ble_eq_true rfl) (fun M2 H locs hw h => ?_)
  refine lv_aload_n hx hb dX7_findMarks_5 rfl (lv_at hl 0 rfl) ?_
  refine m_get X inX7_findMarks h 8 (by decide) (by decide +kernel) rfl rfl dX7_findMarks_6 ?_
  refine lv_iload_n hx hb dX7_findMarks_9 rfl (lv_at hl 1 rfl) ?_
  refine lv_iconst (v := 0) hx hb dX7_findMarks_10 (by decide) ?_
  obtain ⟨hk1, hw⟩ := hw
  refine m_iast X h 8 (by decide) (by decide) rfl (n := 16) rfl hk1 dX7_findMarks_11 (fun M11 eM11 H locs h => ?_)
  have hw := hw M11 eM11
  refine lv_iconst (v := 1) hx hb dX7_findMarks_12 (by decide) ?_
  refine lv_istore_n (lv' := [(2, .int 1), (0, .ref (ad 0)), (1, .int x1)]) hx hb dX7_findMarks_13 rfl hl (by decide) rfl (fun ls hl => ?_)
  exact kX7_findMarks_14 X x1 hret n 1 M11 _ _ ls hw h (lv_sub hl [1, 2, 0] rfl)
def rmX7_endsOf : Room := { frames := 0, cells := 0, slots := 0, locals := 0 }
theorem inX7_endsOf : ∀ w ∈ wsX70, w ∈ wsX7_endsOf := fun w h => List.mem_cons_of_mem _ (List.mem_append_right _ h)
set_option maxHeartbeats 4000000 in
set_option maxRecDepth 100000 in
theorem kX7_endsOf_36 {n : Nat} {R : Int32 → Int32 → mM → Prop} (X : gX p s m args meth c D cA A cX7_endsOf 4 wsX7_endsOf RX7) (x1 : Int32) (x3 : Int32)
    (hR : ∀ (y2 : Int32) (y3 : Int32) (M : mM) (H : Heap) (locs : List Loc) (ls : Array Slot), R y2 y3 M → mH D cA ad A s.heap M H locs → lv_has ls 4 [(0, .ref (ad 0)), (1, .int x1), (2, .int y2), (3, .int y3)] → W p l e (headSpec wsX7_endsOf rmX7_endsOf).room s m args below meth c H locs 0 0 Z (F0 m 4 ls [])) :
    ∀ (s0 : Int32) (s1 : Int32) (M : mM) (H : Heap) (locs : List Loc) (ls : Array Slot), wpX7_endsOf_36 n R x1 x3 s0 s1 M → mH D cA ad A s.heap M H locs → lv_has ls 4 [(0, .ref (ad 0)), (1, .int x1), (3, .int x3)] → W p l e (headSpec wsX7_endsOf rmX7_endsOf).room s m args below meth c H locs 0 0 Z (F0 m 36 ls [.int s0, .int s1]) := by
  intro s0 s1 M H locs ls hw h hl
  unfold wpX7_endsOf_36 at hw
  obtain ⟨hx, hb, hml, hown, hts, hK, hA⟩ := id X
  refine lv_iadd hx hb dX7_endsOf_36 ?_
  refine lv_topi (fun x2_37 ex2_37 => ?_)
  have hw := hw x2_37 ex2_37
  refine lv_istore_n (lv' := [(2, .int x2_37), (0, .ref (ad 0)), (1, .int x1), (3, .int x3)]) hx hb dX7_endsOf_37 rfl hl (by decide) rfl (fun ls hl => ?_)
  obtain ⟨x3_38, ex3_38⟩ : ∃ z : Int32, z = x3 + 1 := ⟨_, rfl⟩
  have hw := hw x3_38 ex3_38
  refine lv_iinc (v := x3_38) (lv' := [(3, .int x3_38), (2, .int x2_37), (0, .ref (ad 0)), (1, .int x1)]) hx hb dX7_endsOf_38 hl (k := 3) rfl (by rw [ex3_38]; rfl) (by decide) rfl (fun ls hl => ?_)
  refine lv_goto (tgt := 4) hx hb dX7_endsOf_41 (by decide) ?_
  exact hR x2_37 x3_38 M _ _ ls hw h (lv_sub hl [2, 3, 1, 0] rfl)
set_option maxHeartbeats 4000000 in
set_option maxRecDepth 100000 in
theorem kX7_endsOf_4 {n : Nat} {Q : Int32 → mM → Prop} (X : gX p s m args meth c D cA A cX7_endsOf 4 wsX7_endsOf RX7) (x1 : Int32)
    (hret : ∀ (r : Int32) (M : mM) (H : Heap) (locs : List Loc) (pc : Nat) (ls : Array Slot), Q r M → mH D cA ad A s.heap M H locs → decode cX7_endsOf pc = .ok (.ireturn, 1) → W p l e (headSpec wsX7_endsOf rmX7_endsOf).room s m args below meth c H locs 0 0 Z (F0 m pc ls [.int r])) :
    ∀ (k : Nat) (x2 : Int32) (x3 : Int32) (M : mM) (H : Heap) (locs : List Loc) (ls : Array Slot), wpX7_endsOf_4 n Q x1 k x2 x3 M → mH D cA ad A s.heap M H locs → lv_has ls 4 [(0, .ref (ad 0)), (1, .int x1), (2, .int x2), (3, .int x3)] → W p l e (headSpec wsX7_endsOf rmX7_endsOf).room s m args below meth c H locs 0 0 Z (F0 m 4 ls []) := by
  intro k
  induction k with
  | zero => intro x2 x3 M H locs ls hw; exact hw.elim
  | succ k ih =>
    intro x2 x3 M H locs ls hw h hl
    rw [wpX7_endsOf_4] at hw
    obtain ⟨hx, hb, hml, hown, hts, hK, hA⟩ := id X
    refine lv_iload_n hx hb dX7_endsOf_4 rfl (lv_at hl 3 rfl) ?_
    refine lv_aload_n hx hb dX7_endsOf_5 rfl (lv_at hl 0 rfl) ?_
    refine m_get X inX7_endsOf h 8 (by decide) (by decide +kernel) rfl rfl dX7_endsOf_6 ?_
    refine lv_iload_n hx hb dX7_endsOf_9 rfl (lv_at hl 1 rfl) ?_
    obtain ⟨hk1, hw⟩ := hw
    refine m_iald X h 8 (by decide) (by decide) rfl (n := 16) rfl hk1 dX7_endsOf_10 ?_
    refine lv_icmp_ge (tgt := 44) hx hb dX7_endsOf_11 (by decide) (fun c11 => ?_) (fun c11 => ?_)
    · have hw := hw.1 c11
      refine lv_iload_n hx hb dX7_endsOf_44 rfl (lv_at hl 2 rfl) ?_
      exact hret x2 M _ _ _ ls hw h dX7_endsOf_45
    · have hw := hw.2 c11
      refine lv_iload_n hx hb dX7_endsOf_14 rfl (lv_at hl 2 rfl) ?_
      refine lv_aload_n hx hb dX7_endsOf_15 rfl (lv_at hl 0 rfl) ?_
      refine m_get X inX7_endsOf h 11 (by decide) (by decide +kernel) rfl rfl dX7_endsOf_16 ?_
      refine lv_bipush (v := 40) hx hb dX7_endsOf_19 (by decide) ?_
      refine lv_iload_n hx hb dX7_endsOf_21 rfl (lv_at hl 1 rfl) ?_
      refine lv_imul hx hb dX7_endsOf_22 ?_
      refine lv_iload_n hx hb dX7_endsOf_23 rfl (lv_at hl 3 rfl) ?_
      refine lv_iadd hx hb dX7_endsOf_24 ?_
      obtain ⟨hk2, hw⟩ := hw
      refine m_iald X h 11 (by decide) (by decide) rfl (n := 640) rfl hk2 dX7_endsOf_25 ?_
      refine lv_bipush (v := 8) hx hb dX7_endsOf_26 (by decide) ?_
      refine lv_icmp_ge (tgt := 35) hx hb dX7_endsOf_28 (by decide) (fun c28 => ?_) (fun c28 => ?_)
      · have hw := hw.1 c28
        refine lv_iconst (v := 0) hx hb dX7_endsOf_35 (by decide) ?_
        exact kX7_endsOf_36 X x1 x3 ih 0 x2 M _ _ ls hw h (lv_sub hl [0, 1, 3] rfl)
      · have hw := hw.2 c28
        refine lv_iconst (v := 1) hx hb dX7_endsOf_31 (by decide) ?_
        refine lv_goto (tgt := 36) hx hb dX7_endsOf_32 (by decide) ?_
        exact kX7_endsOf_36 X x1 x3 ih 1 x2 M _ _ ls hw h (lv_sub hl [0, 1, 3] rfl)
set_option maxHeartbeats 4000000 in
set_option maxRecDepth 100000 in
theorem qX7_endsOf (l : Launch) (D : va_G) (cA : Nat → ClassId) (n : Nat) (x1 : Int32) : mMi l D cA yX7_endsOf wsX7_endsOf rmX7_endsOf (fun ad => [.ref (ad 0), .int x1]) (wpX7_endsOf n x1) := by
  intro ad sz M Q hw
  unfold wpX7_endsOf at hw
  refine m_enter (cc := cX7_endsOf) (maxL := 4) (ret := some .int) (own := RX7) (by decide) rfl rfl (Nat.le_of_ble_eq_true rfl) ?_
  intro p e s m args below meth c hsz X hr hlocks h ls hl
  have hret := @m_iret p l e (headSpec wsX7_endsOf rmX7_endsOf).room s m args below meth c cX7_endsOf D cA ad (va_A (mws cA ad M) sz) Q X.1 X.2.1 hr hlocks X.2.2.2.2.2.1
  obtain ⟨hx, hb, hml, hown, hts, hK, hA⟩ := id X
  have hl : lv_has ls 4 [(0, .ref (ad 0)), (1, .int x1)] := hl
  refine lv_iconst (v := 0) hx hb dX7_endsOf_0 (by decide) ?_
  refine lv_istore_n (lv' := [(2, .int 0), (0, .ref (ad 0)), (1, .int x1)]) hx hb dX7_endsOf_1 rfl hl (by decide) rfl (fun ls hl => ?_)
  refine lv_iconst (v := 0) hx hb dX7_endsOf_2 (by decide) ?_
  refine lv_istore_n (lv' := [(3, .int 0), (2, .int 0), (0, .ref (ad 0)), (1, .int x1)]) hx hb dX7_endsOf_3 rfl hl (by decide) rfl (fun ls hl => ?_)
  exact kX7_endsOf_4 X x1 hret n 0 0 M _ _ ls hw h (lv_sub hl [2, 3, 1, 0] rfl)
def rmX7_mark : Room := { frames := 6, cells := 0, slots := 0, locals := 148 }
theorem inX7_mark : ∀ w ∈ wsX70, w ∈ wsX7_mark := fun w h => List.mem_cons_of_mem _ (List.mem_append_right _ h)
set_option maxHeartbeats 4000000 in
set_option maxRecDepth 100000 in
theorem qX7_mark (l : Launch) (D : va_G) (cA : Nat → ClassId) (n : Nat) (x1 : Int32) (x2 : Int32) (x3 : Int32) : mMi l D cA yX7_mark wsX7_mark rmX7_mark (fun ad => [.ref (ad 0), .int x1, .int x2, .int x3]) (wpX7_mark n x1 x2 x3) := by
  intro ad sz M Q hw
  unfold wpX7_mark at hw
  refine m_enter (cc := cX7_mark) (maxL := 5) (ret := some .int) (own := RX7) (by decide) rfl rfl (Nat.le_of_ble_eq_true rfl) ?_
  intro p e s m args below meth c hsz X hr hlocks h ls hl
  have hret := @m_iret p l e (headSpec wsX7_mark rmX7_mark).room s m args below meth c cX7_mark D cA ad (va_A (mws cA ad M) sz) Q X.1 X.2.1 hr hlocks X.2.2.2.2.2.1
  obtain ⟨hx, hb, hml, hown, hts, hK, hA⟩ := id X
  have hl : lv_has ls 5 [(0, .ref (ad 0)), (1, .int x1), (2, .int x2), (3, .int x3)] := hl
  refine lv_aload_n hx hb dX7_mark_0 rfl (lv_at hl 0 rfl) ?_
  refine lv_iconst (v := 0) hx hb dX7_mark_1 (by decide) ?_
  refine m_put X inX7_mark h 0 (by decide) (by decide +kernel) rfl rfl rfl rfl dX7_mark_2 (fun M2 eM2 H locs h => ?_)
  have hw := hw M2 eM2
  refine lv_aload_n hx hb dX7_mark_5 rfl (lv_at hl 0 rfl) ?_
  refine lv_iload_n hx hb dX7_mark_6 rfl (lv_at hl 1 rfl) ?_
  refine m_calli (n := 1) X h (qX7_isPrint l D cA n x1) gX7_mark_X7_isPrint hw hl.1 dX7_mark_7 rfl rfl rfl (by decide +kernel) ⟨Nat.le_of_ble_eq_true rfl, Nat.le_of_ble_eq_true rfl⟩ rfl rfl (Nat.le_of_ble_eq_true rfl) (fun r7 M7 H locs hw h => ?_)
  refine lv_if_eq (tgt := 25) hx hb dX7_mark_10 (by decide) (fun c10 => ?_) (fun c10 => ?_)
  · have hw := hw.1 c10
    refine lv_iconst (v := (-1)) hx hb dX7_mark_25 (by decide) ?_
    exact hret (-1) M7 _ _ _ ls hw h dX7_mark_26
  · have hw := hw.2 c10
    refine lv_iload_n hx hb dX7_mark_13 rfl (lv_at hl 3 rfl) ?_
    refine lv_i2l hx hb dX7_mark_14 rfl ?_
    refine lv_lconst (v := 0) hx hb dX7_mark_15 (by decide) ?_
    refine lv_ldc2 (v := 2) hx hb hown (hts (.constantLong RX7 103 (2)) (by decide +kernel)) dX7_mark_16 ?_
    refine m_callS (n := 3) X h (qX7_in l D cA n (x3.toInt64) 0 2) gX7_mark_X7_in hw hl.1 dX7_mark_19 rfl rfl rfl (by decide +kernel) ⟨Nat.le_of_ble_eq_true rfl, Nat.le_of_ble_eq_true rfl⟩ rfl rfl (Nat.le_of_ble_eq_true rfl) (fun r19 M19 H locs hw h => ?_)
    refine lv_if_ne (tgt := 27) hx hb dX7_mark_22 (by decide) (fun c22 => ?_) (fun c22 => ?_)
    · have hw := hw.1 c22
      refine lv_aload_n hx hb dX7_mark_27 rfl (lv_at hl 0 rfl) ?_
      refine lv_iload_n hx hb dX7_mark_28 rfl (lv_at hl 1 rfl) ?_
      refine m_callv (n := 1) X h (qX7_findMarks l D cA n x1) gX7_mark_X7_findMarks hw hl.1 dX7_mark_29 rfl rfl rfl (by decide +kernel) ⟨Nat.le_of_ble_eq_true rfl, Nat.le_of_ble_eq_true rfl⟩ rfl rfl (Nat.le_of_ble_eq_true rfl) (fun M29 H locs hw h => ?_)
      refine lv_iload_n hx hb dX7_mark_32 rfl (lv_at hl 2 rfl) ?_
      refine lv_iconst (v := (-1)) hx hb dX7_mark_33 (by decide) ?_
      refine lv_icmp_ne (tgt := 76) hx hb dX7_mark_34 (by decide) (fun c34 => ?_) (fun c34 => ?_)
      · have hw := hw.1 c34
        refine lv_bipush (v := 40) hx hb dX7_mark_76 (by decide) ?_
        refine lv_iload_n hx hb dX7_mark_78 rfl (lv_at hl 1 rfl) ?_
        refine lv_imul hx hb dX7_mark_79 ?_
        refine lv_iload_n hx hb dX7_mark_80 rfl (lv_at hl 2 rfl) ?_
        refine lv_iadd hx hb dX7_mark_81 ?_
        refine lv_topi (fun x4_82 ex4_82 => ?_)
        have hw := hw x4_82 ex4_82
        refine lv_istore (lv' := [(4, .int x4_82), (0, .ref (ad 0)), (1, .int x1), (2, .int x2), (3, .int x3)]) hx hb dX7_mark_82 hl (by decide) rfl (fun ls hl => ?_)
        refine lv_iload_n hx hb dX7_mark_84 rfl (lv_at hl 3 rfl) ?_
        refine lv_i2l hx hb dX7_mark_85 rfl ?_
        refine lv_lconst (v := 0) hx hb dX7_mark_86 (by decide) ?_
        refine lv_aload_n hx hb dX7_mark_87 rfl (lv_at hl 1 rfl) ?_
        refine m_get X inX7_mark h 8 (by decide) (by decide +kernel) rfl rfl dX7_mark_88 ?_
        refine lv_iload_n hx hb dX7_mark_91 rfl (lv_at hl 2 rfl) ?_
        obtain ⟨hk1, hw⟩ := hw
        refine m_iald X h 8 (by decide) (by decide) rfl (n := 16) rfl hk1 dX7_mark_92 ?_
        refine lv_i2l hx hb dX7_mark_93 rfl ?_
        refine lv_lconst (v := 1) hx hb dX7_mark_94 (by decide) ?_
        refine lv_lsub hx hb dX7_mark_95 ?_
        refine m_callS (n := 3) X h (qX7_in l D cA n (x2.toInt64) 0 (((M29 8 x1.toNatClampNeg).toInt64) - 1)) gX7_mark_X7_in hw hl.1 dX7_mark_96 rfl rfl rfl (by decide +kernel) ⟨Nat.le_of_ble_eq_true rfl, Nat.le_of_ble_eq_true rfl⟩ rfl rfl (Nat.le_of_ble_eq_true rfl) (fun r96 M96 H locs hw h => ?_)
        refine lv_if_ne (tgt := 106) hx hb dX7_mark_99 (by decide) (fun c99 => ?_) (fun c99 => ?_)
        · have hw := hw.1 c99
          refine lv_iload_n hx hb dX7_mark_106 rfl (lv_at hl 4 rfl) ?_
          refine lv_if_ne (tgt := 120) hx hb dX7_mark_107 (by decide) (fun c107 => ?_) (fun c107 => ?_)
          · have hw := hw.1 c107
            refine lv_iload_n hx hb dX7_mark_120 rfl (lv_at hl 4 rfl) ?_
            refine lv_iconst (v := 1) hx hb dX7_mark_121 (by decide) ?_
            refine lv_icmp_ne (tgt := 135) hx hb dX7_mark_122 (by decide) (fun c122 => ?_) (fun c122 => ?_)
            · have hw := hw.1 c122
              refine lv_aload_n hx hb dX7_mark_135 rfl (lv_at hl 1 rfl) ?_
              refine m_get X inX7_mark h 11 (by decide) (by decide +kernel) rfl rfl dX7_mark_136 ?_
              refine lv_iload hx hb dX7_mark_139 (lv_at hl 0 rfl) ?_
              obtain ⟨hk2, hw⟩ := hw
              refine m_iald X h 11 (by decide) (by decide) rfl (n := 640) rfl hk2 dX7_mark_141 ?_
              exact hret (M96 11 x4_82.toNatClampNeg) M96 _ _ _ ls hw h dX7_mark_142
            · have hw := hw.2 c122
              refine lv_aload_n hx hb dX7_mark_125 rfl (lv_at hl 1 rfl) ?_
              refine m_get X inX7_mark h 10 (by decide) (by decide +kernel) rfl rfl dX7_mark_126 ?_
              refine lv_iload hx hb dX7_mark_129 (lv_at hl 0 rfl) ?_
              obtain ⟨hk3, hw⟩ := hw
              refine m_iald X h 10 (by decide) (by decide) rfl (n := 640) rfl hk3 dX7_mark_131 ?_
              refine lv_goto (tgt := 142) hx hb dX7_mark_132 (by decide) ?_
              exact hret (M96 10 x4_82.toNatClampNeg) M96 _ _ _ ls hw h dX7_mark_142
          · have hw := hw.2 c107
            refine lv_aload_n hx hb dX7_mark_110 rfl (lv_at hl 1 rfl) ?_
            refine m_get X inX7_mark h 9 (by decide) (by decide +kernel) rfl rfl dX7_mark_111 ?_
            refine lv_iload hx hb dX7_mark_114 (lv_at hl 0 rfl) ?_
            obtain ⟨hk4, hw⟩ := hw
            refine m_iald X h 9 (by decide) (by decide) rfl (n := 640) rfl hk4 dX7_mark_116 ?_
            refine lv_goto (tgt := 142) hx hb dX7_mark_117 (by decide) ?_
            exact hret (M96 9 x4_82.toNatClampNeg) M96 _ _ _ ls hw h dX7_mark_142
        · have hw := hw.2 c99
          refine lv_iconst (v := (-1)) hx hb dX7_mark_102 (by decide) ?_
          refine lv_goto (tgt := 142) hx hb dX7_mark_103 (by decide) ?_
          exact hret (-1) M96 _ _ _ ls hw h dX7_mark_142
      · have hw := hw.2 c34
        refine lv_iload_n hx hb dX7_mark_37 rfl (lv_at hl 3 rfl) ?_
        refine lv_if_ne (tgt := 50) hx hb dX7_mark_38 (by decide) (fun c38 => ?_) (fun c38 => ?_)
        · have hw := hw.1 c38
          refine lv_iload_n hx hb dX7_mark_50 rfl (lv_at hl 3 rfl) ?_
          refine lv_iconst (v := 1) hx hb dX7_mark_51 (by decide) ?_
          refine lv_icmp_ne (tgt := 63) hx hb dX7_mark_52 (by decide) (fun c52 => ?_) (fun c52 => ?_)
          · have hw := hw.1 c52
            refine lv_aload_n hx hb dX7_mark_63 rfl (lv_at hl 0 rfl) ?_
            refine m_get X inX7_mark h 8 (by decide) (by decide +kernel) rfl rfl dX7_mark_64 ?_
            refine lv_iload_n hx hb dX7_mark_67 rfl (lv_at hl 1 rfl) ?_
            obtain ⟨hk5, hw⟩ := hw
            refine m_iald X h 8 (by decide) (by decide) rfl (n := 16) rfl hk5 dX7_mark_68 ?_
            refine lv_aload_n hx hb dX7_mark_69 rfl (lv_at hl 0 rfl) ?_
            refine lv_iload_n hx hb dX7_mark_70 rfl (lv_at hl 1 rfl) ?_
            refine m_calli (n := 1) X h (qX7_endsOf l D cA n x1) gX7_mark_X7_endsOf hw hl.1 dX7_mark_71 rfl rfl rfl (by decide +kernel) ⟨Nat.le_of_ble_eq_true rfl, Nat.le_of_ble_eq_true rfl⟩ rfl rfl (Nat.le_of_ble_eq_true rfl) (fun r71 M71 H locs hw h => ?_)
            refine lv_isub hx hb dX7_mark_74 ?_
            exact hret ((M29 8 x1.toNatClampNeg) - r71) M71 _ _ _ ls hw h dX7_mark_75
          · have hw := hw.2 c52
            refine lv_aload_n hx hb dX7_mark_55 rfl (lv_at hl 0 rfl) ?_
            refine lv_iload_n hx hb dX7_mark_56 rfl (lv_at hl 1 rfl) ?_
            refine m_calli (n := 1) X h (qX7_endsOf l D cA n x1) gX7_mark_X7_endsOf hw hl.1 dX7_mark_57 rfl rfl rfl (by decide +kernel) ⟨Nat.le_of_ble_eq_true rfl, Nat.le_of_ble_eq_true rfl⟩ rfl rfl (Nat.le_of_ble_eq_true rfl) (fun r57 M57 H locs hw h => ?_)
            refine lv_goto (tgt := 75) hx hb dX7_mark_60 (by decide) ?_
            exact hret r57 M57 _ _ _ ls hw h dX7_mark_75
        · have hw := hw.2 c38
          refine lv_aload_n hx hb dX7_mark_41 rfl (lv_at hl 0 rfl) ?_
          refine m_get X inX7_mark h 8 (by decide) (by decide +kernel) rfl rfl dX7_mark_42 ?_
          refine lv_iload_n hx hb dX7_mark_45 rfl (lv_at hl 1 rfl) ?_
          obtain ⟨hk6, hw⟩ := hw
          refine m_iald X h 8 (by decide) (by decide) rfl (n := 16) rfl hk6 dX7_mark_46 ?_
          refine lv_goto (tgt := 75) hx hb dX7_mark_47 (by decide) ?_
          exact hret (M29 8 x1.toNatClampNeg) M29 _ _ _ ls hw h dX7_mark_75
    · have hw := hw.2 c22
      refine lv_iconst (v := (-1)) hx hb dX7_mark_25 (by decide) ?_
      exact hret (-1) M19 _ _ _ ls hw h dX7_mark_26
def rmX7_within : Room := { frames := 1, cells := 0, slots := 0, locals := 25 }
theorem inX7_within : ∀ w ∈ wsX70, w ∈ wsX7_within := fun w h => List.mem_cons_of_mem _ (List.mem_append_right _ h)
set_option maxHeartbeats 4000000 in
set_option maxRecDepth 100000 in
theorem qX7_within (l : Launch) (D : va_G) (cA : Nat → ClassId) (n : Nat) (x1 : Int32) : mMi l D cA yX7_within wsX7_within rmX7_within (fun ad => [.ref (ad 0), .int x1]) (wpX7_within n x1) := by
  intro ad sz M Q hw
  unfold wpX7_within at hw
  refine m_enter (cc := cX7_within) (maxL := 3) (ret := some .int) (own := RX7) (by decide) rfl rfl (Nat.le_of_ble_eq_true rfl) ?_
  intro p e s m args below meth c hsz X hr hlocks h ls hl
  have hret := @m_iret p l e (headSpec wsX7_within rmX7_within).room s m args below meth c cX7_within D cA ad (va_A (mws cA ad M) sz) Q X.1 X.2.1 hr hlocks X.2.2.2.2.2.1
  obtain ⟨hx, hb, hml, hown, hts, hK, hA⟩ := id X
  have hl : lv_has ls 3 [(0, .ref (ad 0)), (1, .int x1)] := hl
  refine lv_aload_n hx hb dX7_within_0 rfl (lv_at hl 0 rfl) ?_
  refine lv_iconst (v := 0) hx hb dX7_within_1 (by decide) ?_
  refine m_put X inX7_within h 0 (by decide) (by decide +kernel) rfl rfl rfl rfl dX7_within_2 (fun M2 eM2 H locs h => ?_)
  have hw := hw M2 eM2
  refine lv_iload_n hx hb dX7_within_5 rfl (lv_at hl 1 rfl) ?_
  refine lv_i2l hx hb dX7_within_6 rfl ?_
  refine lv_lconst (v := 0) hx hb dX7_within_7 (by decide) ?_
  refine lv_ldc2 (v := 3) hx hb hown (hts (.constantLong RX7 111 (3)) (by decide +kernel)) dX7_within_8 ?_
  refine m_callS (n := 3) X h (qX7_in l D cA n (x1.toInt64) 0 3) gX7_within_X7_in hw hl.1 dX7_within_11 rfl rfl rfl (by decide +kernel) ⟨Nat.le_of_ble_eq_true rfl, Nat.le_of_ble_eq_true rfl⟩ rfl rfl (Nat.le_of_ble_eq_true rfl) (fun r11 M11 H locs hw h => ?_)
  refine lv_if_ne (tgt := 23) hx hb dX7_within_14 (by decide) (fun c14 => ?_) (fun c14 => ?_)
  · have hw := hw.1 c14
    refine lv_aload_n hx hb dX7_within_23 rfl (lv_at hl 0 rfl) ?_
    refine m_get X inX7_within h 4 (by decide) (by decide +kernel) rfl rfl dX7_within_24 ?_
    refine lv_topi (fun x2_27 ex2_27 => ?_)
    have hw := hw x2_27 ex2_27
    refine lv_istore_n (lv' := [(2, .int x2_27), (0, .ref (ad 0)), (1, .int x1)]) hx hb dX7_within_27 rfl hl (by decide) rfl (fun ls hl => ?_)
    refine lv_aload_n hx hb dX7_within_28 rfl (lv_at hl 1 rfl) ?_
    refine lv_iload_n hx hb dX7_within_29 rfl (lv_at hl 2 rfl) ?_
    refine m_put X inX7_within h 4 (by decide) (by decide +kernel) rfl rfl rfl rfl dX7_within_30 (fun M30 eM30 H locs h => ?_)
    have hw := hw M30 eM30
    refine lv_aload_n hx hb dX7_within_33 rfl (lv_at hl 1 rfl) ?_
    refine lv_iload_n hx hb dX7_within_34 rfl (lv_at hl 0 rfl) ?_
    refine m_calli (n := 1) X h (qX7_told l D cA n x2_27) gX7_within_X7_told hw hl.1 dX7_within_35 rfl rfl rfl (by decide +kernel) ⟨Nat.le_of_ble_eq_true rfl, Nat.le_of_ble_eq_true rfl⟩ rfl rfl (Nat.le_of_ble_eq_true rfl) (fun r35 M35 H locs hw h => ?_)
    exact hret r35 M35 _ _ _ ls hw h dX7_within_38
  · have hw := hw.2 c14
    refine lv_aload_n hx hb dX7_within_17 rfl (lv_at hl 0 rfl) ?_
    refine lv_iconst (v := (-1)) hx hb dX7_within_18 (by decide) ?_
    refine m_calli (n := 1) X h (qX7_told l D cA n (-1)) gX7_within_X7_told hw hl.1 dX7_within_19 rfl rfl rfl (by decide +kernel) ⟨Nat.le_of_ble_eq_true rfl, Nat.le_of_ble_eq_true rfl⟩ rfl rfl (Nat.le_of_ble_eq_true rfl) (fun r19 M19 H locs hw h => ?_)
    exact hret r19 M19 _ _ _ ls hw h dX7_within_22
end KM
