/-! THE LAW: both worlds side by side; a call works on the left one and leaves it at the right -/
theorem nd_of {l : List Nat} (h : l.Nodup) : va_nd l = true := by
  induction l with
  | nil => rfl
  | cons a l ih =>
    have h2 := List.nodup_cons.mp h
    simp only [va_nd, Bool.and_eq_true, decide_eq_true_eq]
    exact ⟨h2.1, ih h2.2⟩
theorem apd_map (a b : va_W) : (List.range a.length).map (fun i => (a ++ b)[i]?) = a.map some := by
  apply List.ext_getElem?
  intro j
  rw [List.getElem?_map, List.getElem?_map]
  by_cases hj : j < a.length
  · rw [List.getElem?_range hj]
    show some ((a ++ b)[j]?) = _
    rw [List.getElem?_append_left hj]
    cases h : a[j]? with
    | none => exact absurd (List.getElem?_eq_none_iff.mp h) (by omega)
    | some y => rfl
  · rw [List.getElem?_eq_none (by rw [List.length_range]; omega), List.getElem?_eq_none (by omega)]
    rfl
theorem apd_map2 (a b : va_W) : ((List.range b.length).map (fun i => a.length + i)).map (fun i => (a ++ b)[i]?) = b.map some := by
  apply List.ext_getElem?
  intro j
  rw [List.getElem?_map, List.getElem?_map, List.getElem?_map]
  by_cases hj : j < b.length
  · rw [List.getElem?_range hj]
    show some ((a ++ b)[a.length + j]?) = _
    rw [List.getElem?_append_right (by omega), Nat.add_sub_cancel_left]
    cases h : b[j]? with
    | none => exact absurd (List.getElem?_eq_none_iff.mp h) (by omega)
    | some y => rfl
  · rw [List.getElem?_eq_none (by rw [List.length_range]; omega), List.getElem?_eq_none (by omega)]
    rfl
section LR
variable {p : Program} {l : Launch} {e : Env} {R : Room} {s : State} {m : MethodId} {args : Array Value} {below : List Frame} {meth : Method} {c : Code} {H : Heap} {locs : List Loc} {cells slots : Nat} {Z : State → Prop} {pc : Nat} {ls : Array Slot} {rest : List Value} {cc : ByteArray} {nL : Nat} {Ts : List Cond} {own : String} {D : va_G} {cA : Nat → ClassId} {A : Nat → Prop} {a b : va_W} {mc ms : Nat} {st0 : List Value} {arr : Array Value} {S : Type}
theorem l_free (h : gH D A s.heap (a ++ b) H locs) (hA : ∀ q, s.heap.size ≤ q → A q) : ∀ q, va_A a H.size q → A q := va_free h.2.1 h.2.2 hA (List.range a.length) (apd_map a b)
theorem l_join {a1 : va_W} {H1 : Heap} {locs1 : List Loc} (h : gH D A s.heap (a ++ b) H locs) (hA : ∀ q, s.heap.size ≤ q → A q) (hk : ∀ q : Nat, q < H.size → ¬ va_A a H.size q → H1[q]? = H[q]?) (hP1 : va_P D vwCl a1 H1) (hD1 : va_D (va_A a H.size) a1) (hS1 : va_S A s.heap H1 locs1) : gH D A s.heap (b ++ a1) H1 locs1 := by
  obtain ⟨g1, g2⟩ := va_join (wr := b) (w1 := a1) h.1 h.2.1 (List.range a.length) ((List.range b.length).map (fun i => a.length + i)) (apd_map a b) (apd_map2 a b) (nd_of (by
    show List.Pairwise (· ≠ ·) _
    exact List.pairwise_lt_range.map _ (fun x y hxy => by omega))) (fun i hi hz => by
    obtain ⟨j, hj, rfl⟩ := List.mem_map.mp hi
    have := List.mem_range.mp hz
    omega) hk (l_free h hA) hP1 hD1
  exact ⟨g1, g2, hS1⟩
theorem l_goi {post : Int32 → S → Prop} {B : S → State → Prop} (wa : S → va_W) (hA : ∀ q, s.heap.size ≤ q → A q) (h : gH D A s.heap (a ++ b) H locs) (hr : va_Run p l e R s m args below meth c H locs cells slots mc ms (F0 m pc ls st0) rest (va_Qi post B (va_A a H.size) arr) (va_A a H.size)) (hB : ∀ u t, B u t → va_P D vwCl (wa u) t.heap ∧ va_D (va_A a H.size) (wa u))
    (kk : ∀ (r : Int32) (u : S) (t : State) (H1 : Heap) (locs1 : List Loc), post r u → B u t → gH D A s.heap (b ++ wa u) H1 locs1 → W p l e R s m args below meth c H1 locs1 (cells + mc) (slots + ms) Z (F0 m (pc + 3) ls (.int r :: rest))) : W p l e R s m args below meth c H locs cells slots Z (F0 m pc ls st0) := by
  have hF := l_free h hA
  refine va_calli hr h.2.2 (fun q _ hq => hF q hq) hF (fun r u t H1 locs1 ht hvm hw hBu hz1 hk1 hS => ?_)
  obtain ⟨g1, g2⟩ := hB u t hBu
  rw [ht] at g1
  exact kk r u t H1 locs1 hw hBu (l_join h hA hk1 g1 g2 hS)
theorem l_gol {post : Int64 → S → Prop} {B : S → State → Prop} (wa : S → va_W) (hA : ∀ q, s.heap.size ≤ q → A q) (h : gH D A s.heap (a ++ b) H locs) (hr : va_Run p l e R s m args below meth c H locs cells slots mc ms (F0 m pc ls st0) rest (va_Ql post B (va_A a H.size) arr) (va_A a H.size)) (hB : ∀ u t, B u t → va_P D vwCl (wa u) t.heap ∧ va_D (va_A a H.size) (wa u))
    (kk : ∀ (r : Int64) (u : S) (t : State) (H1 : Heap) (locs1 : List Loc), post r u → B u t → gH D A s.heap (b ++ wa u) H1 locs1 → W p l e R s m args below meth c H1 locs1 (cells + mc) (slots + ms) Z (F0 m (pc + 3) ls (.long r :: rest))) : W p l e R s m args below meth c H locs cells slots Z (F0 m pc ls st0) := by
  have hF := l_free h hA
  refine va_calll hr h.2.2 (fun q _ hq => hF q hq) hF (fun r u t H1 locs1 ht hvm hw hBu hz1 hk1 hS => ?_)
  obtain ⟨g1, g2⟩ := hB u t hBu
  rw [ht] at g1
  exact kk r u t H1 locs1 hw hBu (l_join h hA hk1 g1 g2 hS)
theorem l_left (h : gH D A s.heap (a ++ b) H locs) : va_P D vwCl a H ∧ va_D (fun _ => True) a :=
  ⟨fun k q hk => h.1 k q (by rw [List.getElem?_append_left (List.getElem?_eq_some_iff.mp hk).1]; exact hk), (h.2.1.sub (List.range a.length) (nd_of List.nodup_range) (apd_map a b)).weaken (fun _ _ _ _ => trivial)⟩
variable {y : MethodName} {ws ws' : List Cond} {rm : Room} {As : List Value} {bytes : ByteArray} {maxL index n : Nat} {ret : Option FieldType} {Qc : Array Value → State → Outcome → State → Prop} {free : Addr → Prop} {ad : Nat → Nat} {C : cM} {M : mM}
theorem l_runC (X : gX p s m args meth c D cA A cc nL Ts own) (hN : cNw s) (h : gH D A s.heap (cws cA ad C ++ b) H locs) (hM : Met l y ws rm (cPc D cA ad H.size C (.ref (ad 0) :: As)) Qc mc ms free) (hT : GoodIn Ts (wsV own index RX6 y ws)) (hl : ls.size = nL) (hdg : decode cc pc = .ok (.invokevirtual index, 3)) (hw0 : ws = Cond.code y bytes maxL ret :: ws') (hrc : rm.cells = mc) (hrs : rm.slots = ms) (hd : y.cls = RX6 ∧ y.cls ≠ "java/lang/invoke/MethodHandle" ∧ y.cls ≠ "java/lang/invoke/VarHandle" ∧ (parseMethodDescriptor y.desc).map (fun d => d.parameters.length) = some n) (hR : rm.frames + 1 ≤ R.frames ∧ 8 + (maxL + 11) + rm.locals ≤ R.locals) (hn : As.length = n) (hst : st0 = As.reverse ++ .ref (ad 0) :: rest) (hcat : (rest.map fun v => v.category).sum ≤ 8) (hf : cells + mc ≤ R.cells ∧ slots + ms ≤ R.slots) : va_Run p l e R s m args below meth c H locs cells slots mc ms (F0 m pc ls st0) rest (Qc (Value.ref (ad 0) :: As).toArray) free := by
  obtain ⟨hx, hb, hml, hown, hts, hK, hA⟩ := X
  obtain ⟨q, hq⟩ := List.getElem?_of_mem (cids_f (C := C) (show 0 ∈ cfix by decide))
  obtain ⟨lP, lD⟩ := l_left h
  have hl0 : q < (cws cA ad C).length := (List.getElem?_eq_some_iff.mp (gw_get (ad := ad) (ct := cct cA ad C) hq)).1
  exact va_runV (As := As) (rest := rest) ⟨hx, hb, hml, hown, hts⟩ hM (cwV n hts hT hw0 hrc hrs hd hR) ⟨cPc_blind _ _ _ _ _ _, va_recv hK h.1 (ci := 6) (q0 := q) rfl (by rw [List.getElem?_append_left hl0, gw_get hq, cct_o (kd := 0) rfl (by decide)]; rfl), fun U hU hW => ⟨rfl, by rw [hU], ⟨by rw [hU]; exact lP, va_K.moved hW.alike hK, lD⟩, cNw.warm hW hN⟩⟩ rfl hn hl hst (lv_room hcat) hdg hf
theorem l_runM (X : gX p s m args meth c D cA A cc nL Ts own) (h : gH D A s.heap (mws cA ad M ++ b) H locs) (hM : Met l y ws rm (mPc D cA ad H.size M (.ref (ad 0) :: As)) Qc mc ms free) (hT : GoodIn Ts (wsV own index RX7 y ws)) (hl : ls.size = nL) (hdg : decode cc pc = .ok (.invokevirtual index, 3)) (hw0 : ws = Cond.code y bytes maxL ret :: ws') (hrc : rm.cells = mc) (hrs : rm.slots = ms) (hd : y.cls = RX7 ∧ y.cls ≠ "java/lang/invoke/MethodHandle" ∧ y.cls ≠ "java/lang/invoke/VarHandle" ∧ (parseMethodDescriptor y.desc).map (fun d => d.parameters.length) = some n) (hR : rm.frames + 1 ≤ R.frames ∧ 8 + (maxL + 11) + rm.locals ≤ R.locals) (hn : As.length = n) (hst : st0 = As.reverse ++ .ref (ad 0) :: rest) (hcat : (rest.map fun v => v.category).sum ≤ 8) (hf : cells + mc ≤ R.cells ∧ slots + ms ≤ R.slots) : va_Run p l e R s m args below meth c H locs cells slots mc ms (F0 m pc ls st0) rest (Qc (Value.ref (ad 0) :: As).toArray) free := by
  obtain ⟨hx, hb, hml, hown, hts, hK, hA⟩ := X
  obtain ⟨lP, lD⟩ := l_left h
  exact va_runV (As := As) (rest := rest) ⟨hx, hb, hml, hown, hts⟩ hM (cwV n hts hT hw0 hrc hrs hd hR) ⟨mPc_blind _ _ _ _ _ _, va_recv hK h.1 (ci := 7) (q0 := 0) rfl rfl, fun U hU hW => ⟨rfl, by rw [hU], by rw [hU]; exact lP, va_K.moved hW.alike hK, lD⟩⟩ rfl hn hl hst (lv_room hcat) hdg hf
end LR
