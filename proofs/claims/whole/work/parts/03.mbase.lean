/-! THE MODEL'S MEMORY: cell 0 is the object (its int fields by their slots), each other cell the array that the field of that slot holds -/
abbrev mM : Type := Nat → Nat → Int32
def st (M : mM) (c k : Nat) (v : Int32) : mM := va_up M c (upd (M c) k v)
def mbool : Nat → Bool
  | 5 => true
  | 6 => true
  | 7 => true
  | 12 => true
  | 20 => true
  | _ => false
def mlen : Nat → Nat
  | 3 => 384
  | 5 => 576
  | 6 => 576
  | 7 => 8
  | 8 => 16
  | 9 => 640
  | 10 => 640
  | 11 => 640
  | 12 => 1600
  | 13 => 40
  | 14 => 40
  | 15 => 41
  | 20 => 16
  | _ => 0
abbrev mids : List Nat := [0, 3, 5, 6, 7, 8, 9, 10, 11, 12, 13, 14, 15, 20]
def mfs (ad : Nat → Nat) (f : Nat → Int32) : List Value := [.int (f 0), .int (f 1), .int (f 2), .ref (ad 3), .int (f 4), .ref (ad 5), .ref (ad 6), .ref (ad 7), .ref (ad 8), .ref (ad 9), .ref (ad 10), .ref (ad 11), .ref (ad 12), .ref (ad 13), .ref (ad 14), .ref (ad 15), .int (f 16), .int (f 17), .int (f 18), .int (f 19), .ref (ad 20)]
def mct (cA : Nat → ClassId) (ad : Nat → Nat) (M : mM) (i : Nat) : va_E := if i = 0 then .inr (7, mfs ad (M 0)) else .inl (if mbool i then cA 2 else cA 0, mlen i, .inl (M i))
abbrev mws (cA : Nat → ClassId) (ad : Nat → Nat) (M : mM) : va_W := gw mids ad (mct cA ad M)
theorem mct_0 {cA : Nat → ClassId} {ad : Nat → Nat} {M : mM} : mct cA ad M 0 = .inr (7, mfs ad (M 0)) := rfl
theorem mct_i {cA : Nat → ClassId} {ad : Nat → Nat} {M : mM} {i : Nat} (h0 : i ≠ 0) (hb : mbool i = false) : mct cA ad M i = .inl (cA 0, mlen i, .inl (M i)) := by
  unfold mct; rw [if_neg h0, hb]; rfl
theorem mct_z {cA : Nat → ClassId} {ad : Nat → Nat} {M : mM} {i : Nat} (h0 : i ≠ 0) (hb : mbool i = true) : mct cA ad M i = .inl (cA 2, mlen i, .inl (M i)) := by
  unfold mct; rw [if_neg h0, hb]; rfl
theorem st_same (M : mM) (c k : Nat) (v : Int32) : st M c k v c = upd (M c) k v := by simp [st, va_up]
theorem st_ne (M : mM) {c d : Nat} (k : Nat) (v : Int32) (h : d ≠ c) : st M c k v d = M d := by simp [st, va_up, h]
theorem mct_up_i {cA : Nat → ClassId} {ad : Nat → Nat} {M : mM} {i k : Nat} {v : Int32} (h0 : i ≠ 0) (hb : mbool i = false) : va_up (mct cA ad M) i (.inl (cA 0, mlen i, .inl (upd (M i) k v))) = mct cA ad (st M i k v) := by
  funext j
  by_cases hj : j = i
  · subst hj
    rw [mct_i h0 hb, st_same]
    simp [va_up]
  · have h1 : va_up (mct cA ad M) i (.inl (cA 0, mlen i, .inl (upd (M i) k v))) j = mct cA ad M j := by simp [va_up, hj]
    rw [h1]
    unfold mct
    rw [st_ne M k v hj, st_ne M k v (Ne.symm h0)]
theorem mct_up_z {cA : Nat → ClassId} {ad : Nat → Nat} {M : mM} {i k : Nat} {v : Int32} (h0 : i ≠ 0) (hb : mbool i = true) : va_up (mct cA ad M) i (.inl (cA 2, mlen i, .inl (upd (M i) k v))) = mct cA ad (st M i k v) := by
  funext j
  by_cases hj : j = i
  · subst hj
    rw [mct_z h0 hb, st_same]
    simp [va_up]
  · have h1 : va_up (mct cA ad M) i (.inl (cA 2, mlen i, .inl (upd (M i) k v))) j = mct cA ad M j := by simp [va_up, hj]
    rw [h1]
    unfold mct
    rw [st_ne M k v hj, st_ne M k v (Ne.symm h0)]
theorem mct_up_f {cA : Nat → ClassId} {ad : Nat → Nat} {M : mM} {k : Nat} {v : Int32} (h : (mfs ad (M 0)).set k (.int v) = mfs ad (upd (M 0) k v)) : va_up (mct cA ad M) 0 (.inr (7, (mfs ad (M 0)).set k (.int v))) = mct cA ad (st M 0 k v) := by
  rw [h]
  funext j
  by_cases hj : j = 0
  · subst hj
    rw [mct_0, st_same]
    simp [va_up]
  · have h1 : va_up (mct cA ad M) 0 (.inr (7, mfs ad (upd (M 0) k v))) j = mct cA ad M j := by simp [va_up, hj]
    rw [h1]
    unfold mct
    rw [st_ne M k v hj, if_neg hj, if_neg hj]
def mH (D : va_G) (cA : Nat → ClassId) (ad : Nat → Nat) (A : Nat → Prop) (H0 : Heap) (M : mM) (H : Heap) (locs : List Loc) : Prop := gH D A H0 (mws cA ad M) H locs
/-- the world at a method's start and end -/
def mBd (D : va_G) (cA : Nat → ClassId) (ad : Nat → Nat) (A : Nat → Prop) (M : mM) (t : State) : Prop := va_P D vwCl (mws cA ad M) t.heap ∧ va_K D vwCl (tysA cA) t ∧ va_D A (mws cA ad M)
/-- contracts of the model's methods: what 'wp' grants holds behind the call; av: the arguments -/
def mPc (D : va_G) (cA : Nat → ClassId) (ad : Nat → Nat) (sz : Nat) (M : mM) (av : List Value) : Array Value → State → Prop := va_Pc av (fun U => U.heap.size = sz ∧ mBd D cA ad (fun _ => True) M U)
def mMi (l : Launch) (D : va_G) (cA : Nat → ClassId) (y : MethodName) (ws : List Cond) (rm : Room) (av : (Nat → Nat) → List Value) (wp : mM → (Int32 → mM → Prop) → Prop) : Prop :=
  ∀ (ad : Nat → Nat) (sz : Nat) (M : mM) (Q : Int32 → mM → Prop), wp M Q → Met l y ws rm (mPc D cA ad sz M (av ad)) (va_Qi Q (fun M' t => mBd D cA ad (va_A (mws cA ad M) sz) M' t) (va_A (mws cA ad M) sz)) 0 0 (va_A (mws cA ad M) sz)
def mMl (l : Launch) (D : va_G) (cA : Nat → ClassId) (y : MethodName) (ws : List Cond) (rm : Room) (av : (Nat → Nat) → List Value) (wp : mM → (Int64 → mM → Prop) → Prop) : Prop :=
  ∀ (ad : Nat → Nat) (sz : Nat) (M : mM) (Q : Int64 → mM → Prop), wp M Q → Met l y ws rm (mPc D cA ad sz M (av ad)) (va_Ql Q (fun M' t => mBd D cA ad (va_A (mws cA ad M) sz) M' t) (va_A (mws cA ad M) sz)) 0 0 (va_A (mws cA ad M) sz)
def mMv (l : Launch) (D : va_G) (cA : Nat → ClassId) (y : MethodName) (ws : List Cond) (rm : Room) (av : (Nat → Nat) → List Value) (wp : mM → (mM → Prop) → Prop) : Prop :=
  ∀ (ad : Nat → Nat) (sz : Nat) (M : mM) (Q : mM → Prop), wp M Q → Met l y ws rm (mPc D cA ad sz M (av ad)) (va_Qv Q (fun M' t => mBd D cA ad (va_A (mws cA ad M) sz) M' t) (va_A (mws cA ad M) sz)) 0 0 (va_A (mws cA ad M) sz)
section MR
variable {p : Program} {l : Launch} {e : Env} {R : Room} {s : State} {m : MethodId} {args : Array Value} {below : List Frame} {meth : Method} {c : Code} {H : Heap} {locs : List Loc} {Z : State → Prop} {pc : Nat} {ls : Array Slot} {rest : List Value} {cc : ByteArray} {nL : Nat} {Ts : List Cond} {own : String} {D : va_G} {cA : Nat → ClassId} {A : Nat → Prop} {ad : Nat → Nat} {M : mM}
theorem m_get (X : gX p s m args meth c D cA A cc nL Ts RX7) (hin : ∀ w ∈ wsX70, w ∈ Ts) (h : mH D cA ad A s.heap M H locs) {index : Nat} (k : Nat) (hk : k < 21) (hlink : Cond.fieldLink RX7 index RX7 (TX7 k).2.1 (TX7 k).2.2.1 ∈ Ts) (hsame : (TX7 k).1 = RX7) {v : Value} (hv : (mfs ad (M 0))[k]? = some v) (hdg : decode cc pc = .ok (.getfield index, 3))
    (kk : W p l e R s m args below meth c H locs 0 0 Z (F0 m (pc + 3) ls (v :: rest))) : W p l e R s m args below meth c H locs 0 0 Z (F0 m pc ls (.ref (ad 0) :: rest)) :=
  g_get X h (List.mem_cons_self) mct_0 rfl hin k hk hlink hsame hv hdg kk
theorem m_put (X : gX p s m args meth c D cA A cc nL Ts RX7) (hin : ∀ w ∈ wsX70, w ∈ Ts) (h : mH D cA ad A s.heap M H locs) {index : Nat} (k : Nat) (hk : k < 21) (hlink : Cond.fieldLink RX7 index RX7 (TX7 k).2.1 (TX7 k).2.2.1 ∈ Ts) (hsame : (TX7 k).1 = RX7) (hfin : (TX7 k).2.2.2 = false) (hty : tyX7 k = .int) {v : Int32} (hs : (mfs ad (M 0)).set k (.int v) = mfs ad (upd (M 0) k v)) (hdg : decode cc pc = .ok (.putfield index, 3))
    (kk : ∀ (M1 : mM), M1 = st M 0 k v → ∀ (H1 : Heap) (locs1 : List Loc), mH D cA ad A s.heap M1 H1 locs1 → W p l e R s m args below meth c H1 locs1 0 0 Z (F0 m (pc + 3) ls rest)) : W p l e R s m args below meth c H locs 0 0 Z (F0 m pc ls (.int v :: .ref (ad 0) :: rest)) := by
  refine g_put X h (List.mem_cons_self) mct_0 rfl hin tyX7 tyX7_ok nmX7 k hk hlink hsame hfin (by rw [hty]; rfl) (by rw [hty]; rfl) hk hdg (fun H1 locs1 h1 => ?_)
  rw [mct_up_f hs] at h1
  exact kk _ rfl H1 locs1 h1
theorem m_iald (X : gX p s m args meth c D cA A cc nL Ts own) (h : mH D cA ad A s.heap M H locs) (i : Nat) (hi : i ∈ mids) (h0 : i ≠ 0) (hb : mbool i = false) {n : Nat} (hn : mlen i = n) {j : Int32} (hj : vp_in j n) (hdg : decode cc pc = .ok (.iaload, 1))
    (kk : W p l e R s m args below meth c H locs 0 0 Z (F0 m (pc + 1) ls (.int (M i j.toNatClampNeg) :: rest))) : W p l e R s m args below meth c H locs 0 0 Z (F0 m pc ls (.int j :: .ref (ad i) :: rest)) :=
  g_iald X h hi (mct_i h0 hb) (by rw [hn]; exact hj) hdg kk
theorem m_zald (X : gX p s m args meth c D cA A cc nL Ts own) (h : mH D cA ad A s.heap M H locs) (i : Nat) (hi : i ∈ mids) (h0 : i ≠ 0) (hb : mbool i = true) {n : Nat} (hn : mlen i = n) {j : Int32} (hj : vp_in j n) (hdg : decode cc pc = .ok (.baload, 1))
    (kk : W p l e R s m args below meth c H locs 0 0 Z (F0 m (pc + 1) ls (.int (M i j.toNatClampNeg) :: rest))) : W p l e R s m args below meth c H locs 0 0 Z (F0 m pc ls (.int j :: .ref (ad i) :: rest)) :=
  g_zald X h hi (mct_z h0 hb) (by rw [hn]; exact hj) hdg kk
theorem m_iast (X : gX p s m args meth c D cA A cc nL Ts own) (h : mH D cA ad A s.heap M H locs) (i : Nat) (hi : i ∈ mids) (h0 : i ≠ 0) (hb : mbool i = false) {n : Nat} (hn : mlen i = n) {j x : Int32} (hj : vp_in j n) (hdg : decode cc pc = .ok (.iastore, 1))
    (kk : ∀ (M1 : mM), M1 = st M i j.toNatClampNeg x → ∀ (H1 : Heap) (locs1 : List Loc), mH D cA ad A s.heap M1 H1 locs1 → W p l e R s m args below meth c H1 locs1 0 0 Z (F0 m (pc + 1) ls rest)) : W p l e R s m args below meth c H locs 0 0 Z (F0 m pc ls (.int x :: .int j :: .ref (ad i) :: rest)) := by
  refine g_iast X h hi (mct_i h0 hb) (by rw [hn]; exact hj) hdg (fun H1 locs1 h1 => ?_)
  rw [mct_up_i h0 hb] at h1
  exact kk _ rfl H1 locs1 h1
theorem m_zast (X : gX p s m args meth c D cA A cc nL Ts own) (h : mH D cA ad A s.heap M H locs) (i : Nat) (hi : i ∈ mids) (h0 : i ≠ 0) (hb : mbool i = true) {n : Nat} (hn : mlen i = n) {j x : Int32} (hj : vp_in j n) (hz : bz x) (hdg : decode cc pc = .ok (.bastore, 1))
    (kk : ∀ (M1 : mM), M1 = st M i j.toNatClampNeg x → ∀ (H1 : Heap) (locs1 : List Loc), mH D cA ad A s.heap M1 H1 locs1 → W p l e R s m args below meth c H1 locs1 0 0 Z (F0 m (pc + 1) ls rest)) : W p l e R s m args below meth c H locs 0 0 Z (F0 m pc ls (.int x :: .int j :: .ref (ad i) :: rest)) := by
  refine g_zast X h hi (mct_z h0 hb) (by rw [hn]; exact hj) hz hdg (fun H1 locs1 h1 => ?_)
  rw [mct_up_z h0 hb] at h1
  exact kk _ rfl H1 locs1 h1
theorem m_free (X : gX p s m args meth c D cA A cc nL Ts own) (h : mH D cA ad A s.heap M H locs) : ∀ q, va_A (mws cA ad M) H.size q → A q := fun q hq => by
  obtain ⟨hx, hb, hml, hown, hts, hK, hA⟩ := X
  rcases hq with ⟨k, e, hk⟩ | hq
  · exact h.2.1.2 k (q, e) hk
  · exact hA q (Nat.le_trans h.2.2.1 hq)
theorem mPc_blind (D : va_G) (cA : Nat → ClassId) (ad : Nat → Nat) (sz : Nat) (M : mM) (av : List Value) : FrameBlind (mPc D cA ad sz M av) := fun a U g mk q => by
  obtain ⟨q0, q1, qP, qK, qD⟩ := q
  exact ⟨q0, q1, qP, va_K.moved (u := U) (U := U.calling g mk a) (Vm.Alike.refl U.vm) qK, qD⟩
theorem mPc_at (X : gX p s m args meth c D cA A cc nL Ts own) (h : mH D cA ad A s.heap M H locs) (av : List Value) : ∀ U : State, U.heap = H → s.WarmedH U.vm → mPc D cA ad H.size M av av.toArray U := fun U hU hW => by
  obtain ⟨hx, hb, hml, hown, hts, hK, hA⟩ := X
  exact ⟨rfl, by rw [hU], by rw [hU]; exact h.1, va_K.moved hW.alike hK, h.2.1.weaken (fun _ _ _ _ => trivial)⟩
theorem m_back {M' : mM} {t : State} {H1 : Heap} {locs1 : List Loc} (hF : ∀ q, va_A (mws cA ad M) H.size q → A q) (ht : t.heap = H1) (hB : mBd D cA ad (va_A (mws cA ad M) H.size) M' t) (hS : va_S A s.heap H1 locs1) : mH D cA ad A s.heap M' H1 locs1 :=
  ⟨by rw [← ht]; exact hB.1, hB.2.2.weaken (fun _ q _ hq => hF q.1 hq), hS⟩
section CALL
variable {y : MethodName} {ws ws' : List Cond} {rm : Room} {As st0 : List Value} {bytes : ByteArray} {maxL index n : Nat} {ret : Option FieldType}
theorem m_calli (X : gX p s m args meth c D cA A cc nL Ts RX7) (h : mH D cA ad A s.heap M H locs) {wp : mM → (Int32 → mM → Prop) → Prop} {K : Int32 → mM → Prop} (hC : mMi l D cA y ws rm (fun ad => .ref (ad 0) :: As) wp) (hT : GoodIn Ts (wsV RX7 index RX7 y ws)) (hw : wp M K) (hl : ls.size = nL) (hdg : decode cc pc = .ok (.invokevirtual index, 3)) (hw0 : ws = Cond.code y bytes maxL ret :: ws') (hrc : rm.cells = 0) (hrs : rm.slots = 0) (hd : y.cls = RX7 ∧ y.cls ≠ "java/lang/invoke/MethodHandle" ∧ y.cls ≠ "java/lang/invoke/VarHandle" ∧ (parseMethodDescriptor y.desc).map (fun d => d.parameters.length) = some n) (hR : rm.frames + 1 ≤ R.frames ∧ 8 + (maxL + 11) + rm.locals ≤ R.locals) (hn : As.length = n) (hst : st0 = As.reverse ++ .ref (ad 0) :: rest) (hcat : (rest.map fun v => v.category).sum ≤ 8)
    (kk : ∀ (r : Int32) (M1 : mM) (H1 : Heap) (locs1 : List Loc), K r M1 → mH D cA ad A s.heap M1 H1 locs1 → W p l e R s m args below meth c H1 locs1 0 0 Z (F0 m (pc + 3) ls (.int r :: rest))) : W p l e R s m args below meth c H locs 0 0 Z (F0 m pc ls st0) := by
  have hF := m_free X h
  have hp := mPc_at X h (.ref (ad 0) :: As)
  obtain ⟨hx, hb, hml, hown, hts, hK, hA⟩ := X
  exact va_calli (va_runV (As := As) (rest := rest) ⟨hx, hb, hml, hown, hts⟩ (hC ad H.size M K hw) (cwV n hts hT hw0 hrc hrs hd hR) ⟨mPc_blind _ _ _ _ _ _, va_recv hK h.1 (ci := 7) (q0 := 0) rfl (gw_get rfl), hp⟩ rfl hn hl hst (lv_room hcat) hdg ⟨Nat.zero_le _, Nat.zero_le _⟩) h.2.2 (fun q _ hq => hF q hq) hF (fun r u t H1 locs1 ht hvm hw hB hz1 hk1 hS => kk r u H1 locs1 hw (m_back hF ht hB hS))
theorem m_calll (X : gX p s m args meth c D cA A cc nL Ts RX7) (h : mH D cA ad A s.heap M H locs) {wp : mM → (Int64 → mM → Prop) → Prop} {K : Int64 → mM → Prop} (hC : mMl l D cA y ws rm (fun ad => .ref (ad 0) :: As) wp) (hT : GoodIn Ts (wsV RX7 index RX7 y ws)) (hw : wp M K) (hl : ls.size = nL) (hdg : decode cc pc = .ok (.invokevirtual index, 3)) (hw0 : ws = Cond.code y bytes maxL ret :: ws') (hrc : rm.cells = 0) (hrs : rm.slots = 0) (hd : y.cls = RX7 ∧ y.cls ≠ "java/lang/invoke/MethodHandle" ∧ y.cls ≠ "java/lang/invoke/VarHandle" ∧ (parseMethodDescriptor y.desc).map (fun d => d.parameters.length) = some n) (hR : rm.frames + 1 ≤ R.frames ∧ 8 + (maxL + 11) + rm.locals ≤ R.locals) (hn : As.length = n) (hst : st0 = As.reverse ++ .ref (ad 0) :: rest) (hcat : (rest.map fun v => v.category).sum ≤ 8)
    (kk : ∀ (r : Int64) (M1 : mM) (H1 : Heap) (locs1 : List Loc), K r M1 → mH D cA ad A s.heap M1 H1 locs1 → W p l e R s m args below meth c H1 locs1 0 0 Z (F0 m (pc + 3) ls (.long r :: rest))) : W p l e R s m args below meth c H locs 0 0 Z (F0 m pc ls st0) := by
  have hF := m_free X h
  have hp := mPc_at X h (.ref (ad 0) :: As)
  obtain ⟨hx, hb, hml, hown, hts, hK, hA⟩ := X
  exact va_calll (va_runV (As := As) (rest := rest) ⟨hx, hb, hml, hown, hts⟩ (hC ad H.size M K hw) (cwV n hts hT hw0 hrc hrs hd hR) ⟨mPc_blind _ _ _ _ _ _, va_recv hK h.1 (ci := 7) (q0 := 0) rfl (gw_get rfl), hp⟩ rfl hn hl hst (lv_room hcat) hdg ⟨Nat.zero_le _, Nat.zero_le _⟩) h.2.2 (fun q _ hq => hF q hq) hF (fun r u t H1 locs1 ht hvm hw hB hz1 hk1 hS => kk r u H1 locs1 hw (m_back hF ht hB hS))
theorem m_callv (X : gX p s m args meth c D cA A cc nL Ts RX7) (h : mH D cA ad A s.heap M H locs) {wp : mM → (mM → Prop) → Prop} {K : mM → Prop} (hC : mMv l D cA y ws rm (fun ad => .ref (ad 0) :: As) wp) (hT : GoodIn Ts (wsV RX7 index RX7 y ws)) (hw : wp M K) (hl : ls.size = nL) (hdg : decode cc pc = .ok (.invokevirtual index, 3)) (hw0 : ws = Cond.code y bytes maxL ret :: ws') (hrc : rm.cells = 0) (hrs : rm.slots = 0) (hd : y.cls = RX7 ∧ y.cls ≠ "java/lang/invoke/MethodHandle" ∧ y.cls ≠ "java/lang/invoke/VarHandle" ∧ (parseMethodDescriptor y.desc).map (fun d => d.parameters.length) = some n) (hR : rm.frames + 1 ≤ R.frames ∧ 8 + (maxL + 11) + rm.locals ≤ R.locals) (hn : As.length = n) (hst : st0 = As.reverse ++ .ref (ad 0) :: rest) (hcat : (rest.map fun v => v.category).sum ≤ 8)
    (kk : ∀ (M1 : mM) (H1 : Heap) (locs1 : List Loc), K M1 → mH D cA ad A s.heap M1 H1 locs1 → W p l e R s m args below meth c H1 locs1 0 0 Z (F0 m (pc + 3) ls rest)) : W p l e R s m args below meth c H locs 0 0 Z (F0 m pc ls st0) := by
  have hF := m_free X h
  have hp := mPc_at X h (.ref (ad 0) :: As)
  obtain ⟨hx, hb, hml, hown, hts, hK, hA⟩ := X
  exact va_callv (va_runV (As := As) (rest := rest) ⟨hx, hb, hml, hown, hts⟩ (hC ad H.size M K hw) (cwV n hts hT hw0 hrc hrs hd hR) ⟨mPc_blind _ _ _ _ _ _, va_recv hK h.1 (ci := 7) (q0 := 0) rfl (gw_get rfl), hp⟩ rfl hn hl hst (lv_room hcat) hdg ⟨Nat.zero_le _, Nat.zero_le _⟩) h.2.2 (fun q _ hq => hF q hq) hF (fun u t H1 locs1 ht hvm hw hB hz1 hk1 hS => kk u H1 locs1 hw (m_back hF ht hB hS))
theorem m_callS (X : gX p s m args meth c D cA A cc nL Ts RX7) (h : mH D cA ad A s.heap M H locs) {wp : mM → (Int32 → mM → Prop) → Prop} {K : Int32 → mM → Prop} (hC : mMi l D cA y ws rm (fun _ => As) wp) (hT : GoodIn Ts (va_wsS RX7 index y ws)) (hw : wp M K) (hl : ls.size = nL) (hdg : decode cc pc = .ok (.invokestatic index, 3)) (hw0 : ws = Cond.code y bytes maxL ret :: ws') (hrc : rm.cells = 0) (hrs : rm.slots = 0) (hd : y.cls = RX7 ∧ y.cls ≠ "java/lang/invoke/MethodHandle" ∧ y.cls ≠ "java/lang/invoke/VarHandle" ∧ (parseMethodDescriptor y.desc).map (fun d => d.parameters.length) = some n) (hR : rm.frames + 1 ≤ R.frames ∧ 8 + (maxL + 11) + rm.locals ≤ R.locals) (hn : As.length = n) (hst : st0 = As.reverse ++ rest) (hcat : (rest.map fun v => v.category).sum ≤ 8)
    (kk : ∀ (r : Int32) (M1 : mM) (H1 : Heap) (locs1 : List Loc), K r M1 → mH D cA ad A s.heap M1 H1 locs1 → W p l e R s m args below meth c H1 locs1 0 0 Z (F0 m (pc + 3) ls (.int r :: rest))) : W p l e R s m args below meth c H locs 0 0 Z (F0 m pc ls st0) := by
  have hF := m_free X h
  have hp := mPc_at X h As
  obtain ⟨hx, hb, hml, hown, hts, hK, hA⟩ := X
  have hT2 : GoodIn Ts (wsS RX7 index y ws) := by
    have e : wsS RX7 index y ws = va_wsS RX7 index y ws := by unfold wsS va_wsS; rw [hd.1]
    rw [e]; exact hT
  exact va_calli (va_runS (As := As) (rest := rest) ⟨hx, hb, hml, hown, hts⟩ (hC ad H.size M K hw) (cwS n hts hT2 hw0 hrc hrs hd hR) ⟨mPc_blind _ _ _ _ _ _, hp⟩ rfl hn hl hst (lv_room hcat) hdg ⟨Nat.zero_le _, Nat.zero_le _⟩) h.2.2 (fun q _ hq => hF q hq) hF (fun r u t H1 locs1 ht hvm hw hB hz1 hk1 hS => kk r u H1 locs1 hw (m_back hF ht hB hS))
end CALL
end MR
section ME
variable {l : Launch} {D : va_G} {cA : Nat → ClassId} {y : MethodName} {ws ws' : List Cond} {rm : Room} {av : List Value} {cc : ByteArray} {maxL sz : Nat} {ret : Option FieldType} {ad : Nat → Nat} {M : mM} {own : String}
/-- a method's entry: from its body's walk to its contract -/
theorem m_enter {Qc : Array Value → State → Outcome → State → Prop} (hy : plainName y.cls = true) (hcls : y.cls = own) (hws : ws = Cond.code y cc maxL ret :: ws') (hlen : (lg_sl av).length ≤ maxL)
    (body : ∀ (p : Program) (e : Env) (s : State) (m : MethodId) (args : Array Value) (below : List Frame) (meth : Method) (c : Code), s.heap.size = sz → gX p s m args meth c D cA (va_A (mws cA ad M) sz) cc maxL ws own → meth.sig.returnType = ret → meth.locks = false → mH D cA ad (va_A (mws cA ad M) sz) s.heap M s.heap [] → ∀ (ls : Array Slot), lv_has ls maxL (lv_args 0 av) → W p l e (headSpec ws rm).room s m args below meth c s.heap [] 0 0 (MQ below Qc args s 0 0 (va_A (mws cA ad M) sz)) (F0 m 0 ls [])) : Met l y ws rm (mPc D cA ad sz M av) Qc 0 0 (va_A (mws cA ad M) sz) := by
  refine Met.ofW (cc := cc) (maxL := maxL) (ret := ret) hy hws ?_
  intro p e s m args below meth c s₁ B hml hv
  obtain ⟨rfl, hsz, hP, hK, hD0⟩ := hv
  have hown : s.vm.findClass own = some m.cls := by rw [← hcls]; exact findClass_of_methodNamed B.named
  subst hsz
  rw [lg_entry_eq]
  exact body p e s m av.toArray below meth c rfl ⟨B.exec, B.bytes, hml, hown, atoms_spec (ws := ws) B.pre, hK, fun q h => Or.inr h⟩ B.returns B.notSynchronized ⟨hP, hD0.self, va_S.rf⟩ _ (lv_entry av hlen)
end ME
section MRET
variable {p : Program} {l : Launch} {e : Env} {R : Room} {s : State} {m : MethodId} {args : Array Value} {below : List Frame} {meth : Method} {c : Code} {cc : ByteArray} {D : va_G} {cA : Nat → ClassId} {ad : Nat → Nat} {A : Nat → Prop}
theorem m_iret {Q : Int32 → mM → Prop} (hx : p.tables.exec = Jvm.exec) (hb : c.code = cc) (hr : meth.sig.returnType = some .int) (hlocks : meth.locks = false) (hK : va_K D vwCl (tysA cA) s) : ∀ (r : Int32) (M : mM) (H : Heap) (locs : List Loc) (pc : Nat) (ls : Array Slot), Q r M → mH D cA ad A s.heap M H locs → decode cc pc = .ok (.ireturn, 1) → W p l e R s m args below meth c H locs 0 0 (MQ below (va_Qi Q (fun M' t => mBd D cA ad A M' t) A) args s 0 0 A) (F0 m pc ls [.int r]) := fun r M H locs pc ls hq h hdg =>
  W.iret (v := r) hx hb hr (fun t ht hW => ⟨⟨r, M, rfl, hq, by rw [ht]; exact h.1, va_K.moved hW.alike hK, h.2.1⟩, h.2.2.F ht⟩) h.2.2.2.2 hdg hlocks
theorem m_zret {Q : Int32 → mM → Prop} (hx : p.tables.exec = Jvm.exec) (hb : c.code = cc) (hr : meth.sig.returnType = some .boolean) (hlocks : meth.locks = false) (hK : va_K D vwCl (tysA cA) s) : ∀ (r : Int32) (M : mM) (H : Heap) (locs : List Loc) (pc : Nat) (ls : Array Slot), bz r ∧ Q r M → mH D cA ad A s.heap M H locs → decode cc pc = .ok (.ireturn, 1) → W p l e R s m args below meth c H locs 0 0 (MQ below (va_Qi Q (fun M' t => mBd D cA ad A M' t) A) args s 0 0 A) (F0 m pc ls [.int r]) := fun r M H locs pc ls hq h hdg =>
  W.zret (v := r) hx hb hr (bz_nar hq.1) (fun t ht hW => ⟨⟨r, M, rfl, hq.2, by rw [ht]; exact h.1, va_K.moved hW.alike hK, h.2.1⟩, h.2.2.F ht⟩) h.2.2.2.2 hdg hlocks
theorem m_lret {Q : Int64 → mM → Prop} (hx : p.tables.exec = Jvm.exec) (hb : c.code = cc) (hr : meth.sig.returnType = some .long) (hlocks : meth.locks = false) (hK : va_K D vwCl (tysA cA) s) : ∀ (r : Int64) (M : mM) (H : Heap) (locs : List Loc) (pc : Nat) (ls : Array Slot), Q r M → mH D cA ad A s.heap M H locs → decode cc pc = .ok (.lreturn, 1) → W p l e R s m args below meth c H locs 0 0 (MQ below (va_Ql Q (fun M' t => mBd D cA ad A M' t) A) args s 0 0 A) (F0 m pc ls [.long r]) := fun r M H locs pc ls hq h hdg =>
  W.lret (v := r) hx hb hr (fun t ht hW => ⟨⟨r, M, rfl, hq, by rw [ht]; exact h.1, va_K.moved hW.alike hK, h.2.1⟩, h.2.2.F ht⟩) h.2.2.2.2 hdg hlocks
theorem m_vret {Q : mM → Prop} (hx : p.tables.exec = Jvm.exec) (hb : c.code = cc) (hr : meth.sig.returnType = none) (hlocks : meth.locks = false) (hK : va_K D vwCl (tysA cA) s) : ∀ (M : mM) (H : Heap) (locs : List Loc) (pc : Nat) (ls : Array Slot), Q M → mH D cA ad A s.heap M H locs → decode cc pc = .ok (.return_, 1) → W p l e R s m args below meth c H locs 0 0 (MQ below (va_Qv Q (fun M' t => mBd D cA ad A M' t) A) args s 0 0 A) (F0 m pc ls []) := fun M H locs pc ls hq h hdg =>
  W.vret hx hb hr (fun t ht hW => ⟨⟨M, rfl, hq, by rw [ht]; exact h.1, va_K.moved hW.alike hK, h.2.1⟩, h.2.2.F ht⟩) h.2.2.2.2 hdg hlocks
end MRET
