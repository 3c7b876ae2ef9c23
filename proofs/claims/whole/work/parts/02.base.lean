/-! WORLDS BY CELL NUMBERS: a world is a list of cell numbers, each with its address and what it holds -/
def gw (ids : List Nat) (ad : Nat → Nat) (ct : Nat → va_E) : va_W := ids.map (fun i => (ad i, ct i))
theorem gw_get {ids : List Nat} {ad : Nat → Nat} {ct : Nat → va_E} {k i : Nat} (h : ids[k]? = some i) : (gw ids ad ct)[k]? = some (ad i, ct i) := by
  unfold gw
  rw [List.getElem?_map, h]
  rfl
theorem gw_set {A : Nat → Prop} {ids : List Nat} {ad : Nat → Nat} {ct : Nat → va_E} {k i : Nat} (hD : va_D A (gw ids ad ct)) (h : ids[k]? = some i) (e : va_E) : (gw ids ad ct).set k (ad i, e) = gw ids ad (va_up ct i e) := by
  have hk := (List.getElem?_eq_some_iff.mp h).1
  apply List.ext_getElem?
  intro j
  by_cases hj : j = k
  · subst hj
    rw [List.getElem?_set_self (by unfold gw; rw [List.length_map]; exact hk), gw_get h]
    simp [va_up]
  · rw [List.getElem?_set_ne (Ne.symm hj)]
    cases hi : ids[j]? with
    | none =>
      unfold gw
      rw [List.getElem?_map, List.getElem?_map, hi]
      rfl
    | some i2 =>
      rw [gw_get hi, gw_get hi]
      have hne : i2 ≠ i := fun z => hj (hD.1 j k _ _ (gw_get hi) (gw_get h) (by rw [z]))
      simp [va_up, hne]
/-- what holds of the heap in the middle of a method -/
def gH (D : va_G) (A : Nat → Prop) (H0 : Heap) (w : va_W) (H : Heap) (locs : List Loc) : Prop := va_P D vwCl w H ∧ va_D A w ∧ va_S A H0 H locs
/-- the classes of the arrays: int, long, boolean, boards, meetings -/
abbrev tysA (cA : Nat → ClassId) : List (ClassId × FieldType) := [(cA 0, .int), (cA 1, .long), (cA 2, .boolean), (cA 3, .object "RidgeBooks$Board"), (cA 4, .object "RidgeBooks$Meeting")]
/-- what doesn't change in a method: machine, code, words, tables -/
def gX (p : Program) (s : State) (m : MethodId) (args : Array Value) (meth : Method) (c : Code) (D : va_G) (cA : Nat → ClassId) (A : Nat → Prop) (cc : ByteArray) (nL : Nat) (Ts : List Cond) (own : String) : Prop :=
  p.tables.exec = Jvm.exec ∧ c.code = cc ∧ c.maxLocals = nL ∧ s.vm.findClass own = some m.cls ∧ (∀ w ∈ Ts, w.before args s = true) ∧ va_K D vwCl (tysA cA) s ∧ (∀ q, s.heap.size ≤ q → A q)
/-- a boolean -/
def bz (r : Int32) : Prop := r = 0 ∨ r = 1
theorem bz_nar {r : Int32} (h : bz r) : narrow .boolean (.int r) = .int r := by rcases h with rfl | rfl <;> rfl
theorem bz_fit {r : Int32} (h : bz r) : fits .boolean (.int r) = true := by rcases h with rfl | rfl <;> rfl
theorem bz_vp {r : Int32} (h : bz r) : vp_nar .boolean r = r := by rcases h with rfl | rfl <;> rfl
section GR
variable {p : Program} {l : Launch} {e : Env} {R : Room} {s : State} {m : MethodId} {args : Array Value} {below : List Frame} {meth : Method} {c : Code} {H : Heap} {locs : List Loc} {cells slots : Nat} {Q : State → Prop} {pc : Nat} {ls : Array Slot} {rest : List Value} {cc : ByteArray} {nL : Nat} {Ts : List Cond} {own : String} {D : va_G} {cA : Nat → ClassId} {A : Nat → Prop} {ids : List Nat} {ad : Nat → Nat} {ct : Nat → va_E} {i : Nat}
theorem g_get (X : gX p s m args meth c D cA A cc nL Ts own) (h : gH D A s.heap (gw ids ad ct) H locs) (hi : i ∈ ids) {ref C : String} {T : u_T} {N ci index : Nat} {fs : List Value} (he : ct i = .inr (ci, fs)) (hc : vwCl[ci]? = some (C, T, N)) (hin : ∀ w ∈ u_ws C T N, w ∈ Ts) (k : Nat) (hk : k < N) (hlink : Cond.fieldLink own index ref (T k).2.1 (T k).2.2.1 ∈ Ts) (hsame : (T k).1 = ref) {v : Value} (hv : fs[k]? = some v) (hdg : decode cc pc = .ok (.getfield index, 3))
    (kk : W p l e R s m args below meth c H locs cells slots Q (F0 m (pc + 3) ls (v :: rest))) : W p l e R s m args below meth c H locs cells slots Q (F0 m pc ls (.ref (ad i) :: rest)) := by
  obtain ⟨hx, hb, hml, hown, hts, hK, hA⟩ := X
  obtain ⟨q, hq⟩ := List.getElem?_of_mem hi
  exact va_get hx hb hts hin hown hK h.1 q (by rw [gw_get hq, he]) hc k hk (hts _ hlink) (fun x hx => by rw [← hsame]; exact hx) hv hdg kk
theorem g_put (X : gX p s m args meth c D cA A cc nL Ts own) (h : gH D A s.heap (gw ids ad ct) H locs) (hi : i ∈ ids) {ref C : String} {T : u_T} {N ci index : Nat} {fs : List Value} (he : ct i = .inr (ci, fs)) (hc : vwCl[ci]? = some (C, T, N)) (hin : ∀ w ∈ u_ws C T N, w ∈ Ts) (ty0 : Nat → FieldType) (hty : ∀ k, k < N → parseFieldDescriptor (T k).2.2.1 = some (ty0 k)) (hnm : ∀ a, a < N → ∀ b, b < N → a ≠ b → (T a).2.1 ≠ (T b).2.1) (k : Nat) (hk : k < N) (hlink : Cond.fieldLink own index ref (T k).2.1 (T k).2.2.1 ∈ Ts) (hsame : (T k).1 = ref) (hfin : (T k).2.2.2 = false) {v : Value} (hn : narrow (ty0 k) v = v) (hfit : fits (ty0 k) v = true) (hl : k < fs.length) (hdg : decode cc pc = .ok (.putfield index, 3))
    (kk : ∀ (H1 : Heap) (locs1 : List Loc), gH D A s.heap (gw ids ad (va_up ct i (.inr (ci, fs.set k v)))) H1 locs1 → W p l e R s m args below meth c H1 locs1 cells slots Q (F0 m (pc + 3) ls rest)) : W p l e R s m args below meth c H locs cells slots Q (F0 m pc ls (v :: .ref (ad i) :: rest)) := by
  obtain ⟨hx, hb, hml, hown, hts, hK, hA⟩ := X
  obtain ⟨q, hq⟩ := List.getElem?_of_mem hi
  obtain ⟨hP, hD, hS⟩ := h
  refine va_put hx hb hts hin ty0 hty hnm hown hK hP hD hS q (by rw [gw_get hq, he]) hc k hk (hts _ hlink) (fun x hx => by rw [← hsame]; exact hx) hfin (hty k hk) hn hfit hl hdg (fun H1 locs1 h1 h2 h3 => ?_)
  rw [gw_set hD hq] at h1 h2
  exact kk H1 locs1 ⟨h1, h2, h3⟩
theorem g_iald (X : gX p s m args meth c D cA A cc nL Ts own) (h : gH D A s.heap (gw ids ad ct) H locs) (hi : i ∈ ids) {n : Nat} {f : Nat → Int32} (he : ct i = .inl (cA 0, n, .inl f)) {j : Int32} (hin : vp_in j n) (hdg : decode cc pc = .ok (.iaload, 1))
    (kk : W p l e R s m args below meth c H locs cells slots Q (F0 m (pc + 1) ls (.int (f j.toNatClampNeg) :: rest))) : W p l e R s m args below meth c H locs cells slots Q (F0 m pc ls (.int j :: .ref (ad i) :: rest)) := by
  obtain ⟨hx, hb, hml, hown, hts, hK, hA⟩ := X
  obtain ⟨q, hq⟩ := List.getElem?_of_mem hi
  exact va_iald hx hb hK h.1 q 0 (by rw [gw_get hq, he]) rfl hin hdg kk
theorem g_zald (X : gX p s m args meth c D cA A cc nL Ts own) (h : gH D A s.heap (gw ids ad ct) H locs) (hi : i ∈ ids) {n : Nat} {f : Nat → Int32} (he : ct i = .inl (cA 2, n, .inl f)) {j : Int32} (hin : vp_in j n) (hdg : decode cc pc = .ok (.baload, 1))
    (kk : W p l e R s m args below meth c H locs cells slots Q (F0 m (pc + 1) ls (.int (f j.toNatClampNeg) :: rest))) : W p l e R s m args below meth c H locs cells slots Q (F0 m pc ls (.int j :: .ref (ad i) :: rest)) := by
  obtain ⟨hx, hb, hml, hown, hts, hK, hA⟩ := X
  obtain ⟨q, hq⟩ := List.getElem?_of_mem hi
  exact va_zald hx hb hK h.1 q 2 (by rw [gw_get hq, he]) rfl hin hdg kk
theorem g_lald (X : gX p s m args meth c D cA A cc nL Ts own) (h : gH D A s.heap (gw ids ad ct) H locs) (hi : i ∈ ids) {n : Nat} {f : Nat → Int64} (he : ct i = .inl (cA 1, n, .inr (.inl f))) {j : Int32} (hin : vp_in j n) (hdg : decode cc pc = .ok (.laload, 1))
    (kk : W p l e R s m args below meth c H locs cells slots Q (F0 m (pc + 1) ls (.long (f j.toNatClampNeg) :: rest))) : W p l e R s m args below meth c H locs cells slots Q (F0 m pc ls (.int j :: .ref (ad i) :: rest)) := by
  obtain ⟨hx, hb, hml, hown, hts, hK, hA⟩ := X
  obtain ⟨q, hq⟩ := List.getElem?_of_mem hi
  exact va_lald hx hb hK h.1 q 1 (by rw [gw_get hq, he]) rfl hin hdg kk
theorem g_iast (X : gX p s m args meth c D cA A cc nL Ts own) (h : gH D A s.heap (gw ids ad ct) H locs) (hi : i ∈ ids) {n : Nat} {f : Nat → Int32} (he : ct i = .inl (cA 0, n, .inl f)) {j x : Int32} (hin : vp_in j n) (hdg : decode cc pc = .ok (.iastore, 1))
    (kk : ∀ (H1 : Heap) (locs1 : List Loc), gH D A s.heap (gw ids ad (va_up ct i (.inl (cA 0, n, .inl (upd f j.toNatClampNeg x))))) H1 locs1 → W p l e R s m args below meth c H1 locs1 cells slots Q (F0 m (pc + 1) ls rest)) : W p l e R s m args below meth c H locs cells slots Q (F0 m pc ls (.int x :: .int j :: .ref (ad i) :: rest)) := by
  obtain ⟨hx, hb, hml, hown, hts, hK, hA⟩ := X
  obtain ⟨q, hq⟩ := List.getElem?_of_mem hi
  obtain ⟨hP, hD, hS⟩ := h
  refine va_iast hx hb hK hP hD hS q 0 (by rw [gw_get hq, he]) rfl hin hdg (fun H1 locs1 h1 h2 h3 => ?_)
  rw [gw_set hD hq] at h1 h2
  exact kk H1 locs1 ⟨h1, h2, h3⟩
theorem g_zast (X : gX p s m args meth c D cA A cc nL Ts own) (h : gH D A s.heap (gw ids ad ct) H locs) (hi : i ∈ ids) {n : Nat} {f : Nat → Int32} (he : ct i = .inl (cA 2, n, .inl f)) {j x : Int32} (hin : vp_in j n) (hz : bz x) (hdg : decode cc pc = .ok (.bastore, 1))
    (kk : ∀ (H1 : Heap) (locs1 : List Loc), gH D A s.heap (gw ids ad (va_up ct i (.inl (cA 2, n, .inl (upd f j.toNatClampNeg x))))) H1 locs1 → W p l e R s m args below meth c H1 locs1 cells slots Q (F0 m (pc + 1) ls rest)) : W p l e R s m args below meth c H locs cells slots Q (F0 m pc ls (.int x :: .int j :: .ref (ad i) :: rest)) := by
  obtain ⟨hx, hb, hml, hown, hts, hK, hA⟩ := X
  obtain ⟨q, hq⟩ := List.getElem?_of_mem hi
  obtain ⟨hP, hD, hS⟩ := h
  refine va_zast hx hb hK hP hD hS q 2 (by rw [gw_get hq, he]) rfl hin hdg (fun H1 locs1 h1 h2 h3 => ?_)
  rw [bz_vp hz, gw_set hD hq] at h1 h2
  exact kk H1 locs1 ⟨h1, h2, h3⟩
theorem g_last (X : gX p s m args meth c D cA A cc nL Ts own) (h : gH D A s.heap (gw ids ad ct) H locs) (hi : i ∈ ids) {n : Nat} {f : Nat → Int64} (he : ct i = .inl (cA 1, n, .inr (.inl f))) {j : Int32} {x : Int64} (hin : vp_in j n) (hdg : decode cc pc = .ok (.lastore, 1))
    (kk : ∀ (H1 : Heap) (locs1 : List Loc), gH D A s.heap (gw ids ad (va_up ct i (.inl (cA 1, n, .inr (.inl (vp_updL f j.toNatClampNeg x)))))) H1 locs1 → W p l e R s m args below meth c H1 locs1 cells slots Q (F0 m (pc + 1) ls rest)) : W p l e R s m args below meth c H locs cells slots Q (F0 m pc ls (.long x :: .int j :: .ref (ad i) :: rest)) := by
  obtain ⟨hx, hb, hml, hown, hts, hK, hA⟩ := X
  obtain ⟨q, hq⟩ := List.getElem?_of_mem hi
  obtain ⟨hP, hD, hS⟩ := h
  refine va_last hx hb hK hP hD hS q 1 (by rw [gw_get hq, he]) rfl hin hdg (fun H1 locs1 h1 h2 h3 => ?_)
  rw [gw_set hD hq] at h1 h2
  exact kk H1 locs1 ⟨h1, h2, h3⟩
theorem g_alen (X : gX p s m args meth c D cA A cc nL Ts own) (h : gH D A s.heap (gw ids ad ct) H locs) (hi : i ∈ ids) (t0 : Nat) {k : ClassId} {x : vp_A} {ty : FieldType} (he : ct i = .inl (k, x)) (ht : (tysA cA)[t0]? = some (k, ty)) {v : Int32} (hv : Int32.ofNat x.1 = v) (hdg : decode cc pc = .ok (.arraylength, 1))
    (kk : W p l e R s m args below meth c H locs cells slots Q (F0 m (pc + 1) ls (.int v :: rest))) : W p l e R s m args below meth c H locs cells slots Q (F0 m pc ls (.ref (ad i) :: rest)) := by
  obtain ⟨hx, hb, hml, hown, hts, hK, hA⟩ := X
  obtain ⟨q, hq⟩ := List.getElem?_of_mem hi
  exact va_alen hx hb hK h.1 q t0 (by rw [gw_get hq, he]) ht hv hdg kk
end GR
