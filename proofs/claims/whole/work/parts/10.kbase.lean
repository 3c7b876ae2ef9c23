/-! CONSTRUCTORS: worlds are lists; every array's class is the one that the tables name -/
def kX (p : Program) (s : State) (m : MethodId) (args : Array Value) (meth : Method) (c : Code) (D : va_G) (cA : Nat → ClassId) (A : Nat → Prop) (cc : ByteArray) (nL : Nat) (Ts : List Cond) (own : String) : Prop := gX p s m args meth c D cA A cc nL Ts own ∧ kN s ∧ meth.name = "<init>"
def kPc (D : va_G) (cA : Nat → ClassId) (w : va_W) (sz : Nat) (av : List Value) : Array Value → State → Prop := va_Pc av (fun U => U.heap.size = sz ∧ (va_P D vwCl w U.heap ∧ va_K D vwCl (tysA cA) U ∧ va_D (fun _ => True) w) ∧ kN U)
def kQ (D : va_G) (cA : Nat → ClassId) (A : Nat → Prop) (w1 : (Nat → Nat) → va_W) (u : Nat → Nat) (t : State) : Prop := va_P D vwCl (w1 u) t.heap ∧ va_K D vwCl (tysA cA) t ∧ va_D A (w1 u)
/-- a constructor's contract: from the world w to the world w1, at addresses u -/
def kM (l : Launch) (D : va_G) (cA : Nat → ClassId) (y : MethodName) (ws : List Cond) (rm : Room) (av : List Value) (w : va_W) (w1 : (Nat → Nat) → va_W) (mc ms : Nat) : Prop :=
  ∀ sz : Nat, Met l y ws rm (kPc D cA w sz av) (va_Qv (fun _ => True) (kQ D cA (va_A w sz) w1) (va_A w sz)) mc ms (va_A w sz)
theorem arr_one {D : va_G} {cA : Nat → ClassId} {s : State} {c1 : ClassId} {ty : FieldType} (i : Nat) (hi : (tysA cA)[i]? = some (cA i, ty)) (hK : va_K D vwCl (tysA cA ++ [(c1, ty)]) s) (hf : ∀ U k, va_RA U k ty → U.vm.findClass ("[" ++ ty.toString) = some k) : c1 = cA i := by
  have a := (hK.2 i (cA i, ty) (by rw [List.getElem?_append_left (List.getElem?_eq_some_iff.mp hi).1]; exact hi)).2
  have b := (hK.2 5 (c1, ty) rfl).2
  exact Option.some.inj ((hf _ _ b).symm.trans (hf _ _ a))
section KR
variable {p : Program} {l : Launch} {e : Env} {R : Room} {s : State} {m : MethodId} {args : Array Value} {below : List Frame} {meth : Method} {c : Code} {H : Heap} {locs : List Loc} {cells slots : Nat} {Z : State → Prop} {pc : Nat} {ls : Array Slot} {rest : List Value} {cc : ByteArray} {nL : Nat} {Ts : List Cond} {own : String} {D : va_G} {cA : Nat → ClassId} {A : Nat → Prop} {w : va_W}
theorem n_newI (X : gX p s m args meth c D cA A cc nL Ts own) (h : gH D A s.heap w H locs) (harr : Cond.arrayClass .int ∈ Ts) {n : Int32} {N : Nat} (hn : ¬ n < 0) (hN : n.toNatClampNeg = N) (hbytes : N * componentBytes .int ≤ 536870912) (hcells : cells + 1 ≤ R.cells) (hslots : slots + N ≤ R.slots) (hdg : decode cc pc = .ok (.newarray .int, 2))
    (kk : ∀ (q : Nat) (H1 : Heap), gH D A s.heap (w ++ [(q, .inl (cA 0, N, .inl (fun _ => 0)))]) H1 locs → W p l e R s m args below meth c H1 locs (cells + 1) (slots + N) Z (F0 m (pc + 2) ls (.ref q :: rest))) : W p l e R s m args below meth c H locs cells slots Z (F0 m pc ls (.int n :: rest)) := by
  obtain ⟨hx, hb, hml, hown, hts, hK, hA⟩ := X
  refine va_newa (atype := .int) (a0 := (N, .inl (fun _ => 0))) hx hb (hts _ harr) rfl hK h.1 h.2.1 h.2.2 hA (fun _ => rfl) hn hN hbytes hcells hslots hdg (fun q c1 H1 k1 h1 h2 h3 => ?_)
  have e1 := arr_one 0 rfl k1 (fun _ _ z => z)
  rw [e1] at h1 h2
  exact kk q H1 ⟨h1, h2, h3⟩
theorem n_newJ (X : gX p s m args meth c D cA A cc nL Ts own) (h : gH D A s.heap w H locs) (harr : Cond.arrayClass .long ∈ Ts) {n : Int32} {N : Nat} (hn : ¬ n < 0) (hN : n.toNatClampNeg = N) (hbytes : N * componentBytes .long ≤ 536870912) (hcells : cells + 1 ≤ R.cells) (hslots : slots + N ≤ R.slots) (hdg : decode cc pc = .ok (.newarray .long, 2))
    (kk : ∀ (q : Nat) (H1 : Heap), gH D A s.heap (w ++ [(q, .inl (cA 1, N, .inr (.inl (fun _ => 0))))]) H1 locs → W p l e R s m args below meth c H1 locs (cells + 1) (slots + N) Z (F0 m (pc + 2) ls (.ref q :: rest))) : W p l e R s m args below meth c H locs cells slots Z (F0 m pc ls (.int n :: rest)) := by
  obtain ⟨hx, hb, hml, hown, hts, hK, hA⟩ := X
  refine va_newa (atype := .long) (a0 := (N, .inr (.inl (fun _ => 0)))) hx hb (hts _ harr) rfl hK h.1 h.2.1 h.2.2 hA (fun _ => rfl) hn hN hbytes hcells hslots hdg (fun q c1 H1 k1 h1 h2 h3 => ?_)
  have e1 := arr_one 1 rfl k1 (fun _ _ z => z)
  rw [e1] at h1 h2
  exact kk q H1 ⟨h1, h2, h3⟩
theorem n_newZ (X : gX p s m args meth c D cA A cc nL Ts own) (h : gH D A s.heap w H locs) (harr : Cond.arrayClass .boolean ∈ Ts) {n : Int32} {N : Nat} (hn : ¬ n < 0) (hN : n.toNatClampNeg = N) (hbytes : N * componentBytes .boolean ≤ 536870912) (hcells : cells + 1 ≤ R.cells) (hslots : slots + N ≤ R.slots) (hdg : decode cc pc = .ok (.newarray .boolean, 2))
    (kk : ∀ (q : Nat) (H1 : Heap), gH D A s.heap (w ++ [(q, .inl (cA 2, N, .inl (fun _ => 0)))]) H1 locs → W p l e R s m args below meth c H1 locs (cells + 1) (slots + N) Z (F0 m (pc + 2) ls (.ref q :: rest))) : W p l e R s m args below meth c H locs cells slots Z (F0 m pc ls (.int n :: rest)) := by
  obtain ⟨hx, hb, hml, hown, hts, hK, hA⟩ := X
  refine va_newa (atype := .boolean) (a0 := (N, .inl (fun _ => 0))) hx hb (hts _ harr) rfl hK h.1 h.2.1 h.2.2 hA (fun _ => rfl) hn hN hbytes hcells hslots hdg (fun q c1 H1 k1 h1 h2 h3 => ?_)
  have e1 := arr_one 2 rfl k1 (fun _ _ z => z)
  rw [e1] at h1 h2
  exact kk q H1 ⟨h1, h2, h3⟩
theorem n_newq (X : gX p s m args meth c D cA A cc nL Ts own) (h : gH D A s.heap w H locs) (i : Nat) {C : String} (hi : (tysA cA)[i]? = some (cA i, .object C)) (hover : va_AO C s) {index : Nat} (hlk : Cond.classLink own index C ∈ Ts) {n : Int32} {N : Nat} (hn : ¬ n < 0) (hN : n.toNatClampNeg = N) (hbytes : N * 4 ≤ 536870912) (hcells : cells + 1 ≤ R.cells) (hslots : slots + N ≤ R.slots) (hdg : decode cc pc = .ok (.anewarray index, 3))
    (kk : ∀ (q : Nat) (H1 : Heap), gH D A s.heap (w ++ [(q, .inl (cA i, N, .inr (.inr (.inr (.inr (fun _ => none))))))]) H1 locs → W p l e R s m args below meth c H1 locs (cells + 1) (slots + N) Z (F0 m (pc + 3) ls (.ref q :: rest))) : W p l e R s m args below meth c H locs cells slots Z (F0 m pc ls (.int n :: rest)) := by
  obtain ⟨hx, hb, hml, hown, hts, hK, hA⟩ := X
  refine va_newq hx hb hown (hts _ hlk) hover hK h.1 h.2.1 h.2.2 hA hn hN hbytes hcells hslots hdg (fun q c1 H1 k1 h1 h2 h3 => ?_)
  have e1 := arr_one i hi k1 (fun _ _ z => by obtain ⟨_, _, _, _, _, z⟩ := z; exact z)
  rw [e1] at h1 h2
  exact kk q H1 ⟨h1, h2, h3⟩
theorem n_new (X : gX p s m args meth c D cA A cc nL Ts own) (h : gH D A s.heap w H locs) (ci : Nat) {C : String} {T : u_T} {N index : Nat} (hc : vwCl[ci]? = some (C, T, N)) (hin : ∀ w ∈ u_ws C T N, w ∈ Ts) (ty : Nat → FieldType) (hty : ∀ k, k < N → parseFieldDescriptor (T k).2.2.1 = some (ty k)) (hcl : Cond.classLink own index C ∈ Ts) (hinst : Cond.instantiable C N ∈ Ts) (hini : Cond.initialized C ∈ Ts) {fs : List Value} (hfs : ∀ j, j < N → defaultValue (ty j) = vp_V fs j) (hcells : cells + 1 ≤ R.cells) (hslots : slots + N ≤ R.slots) (hdg : decode cc pc = .ok (.new index, 3))
    (kk : ∀ (q : Nat) (H1 : Heap), gH D A s.heap (w ++ [(q, .inr (ci, fs))]) H1 locs → W p l e R s m args below meth c H1 locs (cells + 1) (slots + N) Z (F0 m (pc + 3) ls (.ref q :: rest))) : W p l e R s m args below meth c H locs cells slots Z (F0 m pc ls rest) := by
  obtain ⟨hx, hb, hml, hown, hts, hK, hA⟩ := X
  exact va_new hx hb hts hin ty hty hown (hts _ hcl) (hts _ hinst) (hts _ hini) hK h.1 h.2.1 h.2.2 hA hc hfs hcells hslots hdg (fun q H1 h1 h2 h3 => kk q H1 ⟨h1, h2, h3⟩)
theorem n_put (X : gX p s m args meth c D cA A cc nL Ts own) (h : gH D A s.heap w H locs) (q0 ci : Nat) {ref C : String} {T : u_T} {N index a : Nat} {fs : List Value} (he : w[q0]? = some (a, .inr (ci, fs))) (hc : vwCl[ci]? = some (C, T, N)) (hin : ∀ w ∈ u_ws C T N, w ∈ Ts) (ty0 : Nat → FieldType) (hty : ∀ k, k < N → parseFieldDescriptor (T k).2.2.1 = some (ty0 k)) (hnm : ∀ a, a < N → ∀ b, b < N → a ≠ b → (T a).2.1 ≠ (T b).2.1) (k : Nat) (hk : k < N) (hlink : Cond.fieldLink own index ref (T k).2.1 (T k).2.2.1 ∈ Ts) (hsame : (T k).1 = ref) (hfin : (T k).2.2.2 = false) {v : Value} (hn : narrow (ty0 k) v = v) (hfit : fits (ty0 k) v = true) (hl : k < fs.length) (hdg : decode cc pc = .ok (.putfield index, 3))
    (kk : ∀ (H1 : Heap) (locs1 : List Loc), gH D A s.heap (w.set q0 (a, .inr (ci, fs.set k v))) H1 locs1 → W p l e R s m args below meth c H1 locs1 cells slots Z (F0 m (pc + 3) ls rest)) : W p l e R s m args below meth c H locs cells slots Z (F0 m pc ls (v :: .ref a :: rest)) := by
  obtain ⟨hx, hb, hml, hown, hts, hK, hA⟩ := X
  exact va_put hx hb hts hin ty0 hty hnm hown hK h.1 h.2.1 h.2.2 q0 he hc k hk (hts _ hlink) (fun x hx => by rw [← hsame]; exact hx) hfin (hty k hk) hn hfit hl hdg (fun H1 locs1 h1 h2 h3 => kk H1 locs1 ⟨h1, h2, h3⟩)
theorem n_putF (X : kX p s m args meth c D cA A cc nL Ts own) (h : gH D A s.heap w H locs) (q0 ci : Nat) {C : String} {T : u_T} {N index a : Nat} {fs : List Value} (he : w[q0]? = some (a, .inr (ci, fs))) (hc : vwCl[ci]? = some (C, T, N)) (hin : ∀ w ∈ u_ws C T N, w ∈ Ts) (ty0 : Nat → FieldType) (hty : ∀ k, k < N → parseFieldDescriptor (T k).2.2.1 = some (ty0 k)) (hnm : ∀ a, a < N → ∀ b, b < N → a ≠ b → (T a).2.1 ≠ (T b).2.1) (k : Nat) (hk : k < N) (hlink : Cond.fieldLink own index own (T k).2.1 (T k).2.2.1 ∈ Ts) (hsame : (T k).1 = own) (hfin : (T k).2.2.2 = true) {v : Value} (hn : narrow (ty0 k) v = v) (hfit : fits (ty0 k) v = true) (hl : k < fs.length) (hdg : decode cc pc = .ok (.putfield index, 3))
    (kk : ∀ (H1 : Heap) (locs1 : List Loc), gH D A s.heap (w.set q0 (a, .inr (ci, fs.set k v))) H1 locs1 → W p l e R s m args below meth c H1 locs1 cells slots Z (F0 m (pc + 3) ls rest)) : W p l e R s m args below meth c H locs cells slots Z (F0 m pc ls (v :: .ref a :: rest)) := by
  obtain ⟨⟨hx, hb, hml, hown, hts, hK, hA⟩, hN, hin2⟩ := X
  exact va_putF hx hb hts hin ty0 hty hnm hown hK h.1 h.2.1 h.2.2 q0 he hc k hk (hts _ hlink) (fun x hx => by rw [← hsame]; exact hx) hfin hin2 hsame (hty k hk) hn hfit hl hdg (fun H1 locs1 h1 h2 h3 => kk H1 locs1 ⟨h1, h2, h3⟩)
theorem n_obj (X : gX p s m args meth c D cA A cc nL Ts own) {index a : Nat} (hlk : Cond.methodLink own index objectInit ∈ Ts) (hin : Cond.instanceMethod objectInit ∈ Ts) (hco : Cond.code objectInit ⟨#[0xb1]⟩ 1 none ∈ Ts) (hl : ls.size = nL) (hfr : 1 ≤ R.frames) (hlo : (rest.map fun v => v.category).sum + 12 ≤ R.locals) (hdg : decode cc pc = .ok (.invokespecial index, 3))
    (kk : W p l e R s m args below meth c H locs cells slots Z (F0 m (pc + 3) ls rest)) : W p l e R s m args below meth c H locs cells slots Z (F0 m pc ls (.ref a :: rest)) := by
  obtain ⟨hx, hb, hml, hown, hts, hK, hA⟩ := X
  exact W.objInit hx hb hown (hts _ hlk) (hts _ hin) (hts _ hco) rfl (hl.trans hml.symm) rfl hdg hfr (by show 0 + (rest.map fun v => v.category).sum + 12 ≤ R.locals; rw [Nat.zero_add]; exact hlo) kk
theorem kPc_blind (D : va_G) (cA : Nat → ClassId) (w : va_W) (sz : Nat) (av : List Value) : FrameBlind (kPc D cA w sz av) := fun a U g mk q => by
  obtain ⟨q0, q1, ⟨qP, qK, qD⟩, qN⟩ := q
  exact ⟨q0, q1, ⟨qP, va_K.moved (u := U) (U := U.calling g mk a) (Vm.Alike.refl U.vm) qK, qD⟩, kN.same rfl qN⟩
/-- a constructor of a nest mate, called on the cell of place q0; the rest of the world stays -/
theorem n_init {y : MethodName} {ws : List Cond} {rm : Room} {mc ms b : Nat} {ev : va_E} {As st0 : List Value} {w1 : (Nat → Nat) → va_W} {wr : va_W} (hXg : gX p s m args meth c D cA A cc nL Ts own) (hN : kN s) (h : gH D A s.heap w H locs) (hM : kM l D cA y ws rm (.ref b :: As) [(b, ev)] w1 mc ms) (isC isR : List Nat) (hC : isC.map (fun i => w[i]?) = ([(b, ev)] : va_W).map some) (hR' : isR.map (fun i => w[i]?) = wr.map some) (hnd : va_nd isR = true) (hdis : ∀ i ∈ isR, i ∉ isC)
    (run : Met l y ws rm (kPc D cA [(b, ev)] H.size (.ref b :: As)) (va_Qv (fun _ => True) (kQ D cA (va_A [(b, ev)] H.size) w1) (va_A [(b, ev)] H.size)) mc ms (va_A [(b, ev)] H.size) → PreS s H (kPc D cA [(b, ev)] H.size (.ref b :: As)) (.ref b :: As) → va_Run p l e R s m args below meth c H locs cells slots mc ms (F0 m pc ls st0) rest (va_Qv (fun _ => True) (kQ D cA (va_A [(b, ev)] H.size) w1) (va_A [(b, ev)] H.size) (Value.ref b :: As).toArray) (va_A [(b, ev)] H.size))
    (kk : ∀ (u : Nat → Nat) (H1 : Heap) (locs1 : List Loc), gH D A s.heap (wr ++ w1 u) H1 locs1 → W p l e R s m args below meth c H1 locs1 (cells + mc) (slots + ms) Z (F0 m (pc + 3) ls rest)) : W p l e R s m args below meth c H locs cells slots Z (F0 m pc ls st0) := by
  obtain ⟨hx, hb, hml, hown, hts, hK, hA⟩ := hXg
  obtain ⟨hP, hD, hS⟩ := h
  have hPc : va_P D vwCl [(b, ev)] H := fun k q hk => by
    have h1 : (isC.map (fun i => w[i]?))[k]? = some (some q) := by rw [hC, List.getElem?_map, hk]; rfl
    rw [List.getElem?_map] at h1
    cases hi : isC[k]? with
    | none => rw [hi] at h1; cases h1
    | some i => rw [hi] at h1; exact hP i q (Option.some.inj h1)
  have hF := va_free (wc := [(b, ev)]) hD hS hA isC hC
  have hDc : va_D (fun _ => True) ([(b, ev)] : va_W) := ⟨fun i j p q hi hj _ => by
    have a1 : i < 1 := (List.getElem?_eq_some_iff.mp hi).1
    have a2 : j < 1 := (List.getElem?_eq_some_iff.mp hj).1
    omega, fun _ _ _ => trivial⟩
  refine va_callv (run (hM H.size) ⟨kPc_blind _ _ _ _ _, fun U hU hW => ⟨rfl, by rw [hU], ⟨by rw [hU]; exact hPc, va_K.moved hW.alike hK, hDc⟩, kN.warm hW hN⟩⟩) hS (fun q _ h => hF q h) hF (fun u t H1 locs1 ht hvm hw hB hz1 hk1 hS1 => ?_)
  obtain ⟨hP1, hK1, hD1⟩ := hB
  rw [ht] at hP1
  obtain ⟨g1, g2⟩ := va_join (wr := wr) (w1 := w1 u) hP hD isC isR hC hR' hnd hdis hk1 hF hP1 hD1
  exact kk u H1 locs1 ⟨g1, g2, hS1⟩
end KR
section KE
variable {l : Launch} {D : va_G} {cA : Nat → ClassId} {y : MethodName} {ws ws' : List Cond} {rm : Room} {av : List Value} {cc : ByteArray} {maxL mc ms : Nat} {w : va_W} {w1 : (Nat → Nat) → va_W} {own : String}
theorem k_enter (hy : plainName y.cls = true) (hcls : y.cls = own) (hnm : y.name = "<init>") (hws : ws = Cond.code y cc maxL none :: ws') (hlen : (lg_sl av).length ≤ maxL)
    (body : ∀ (p : Program) (e : Env) (s : State) (m : MethodId) (args : Array Value) (below : List Frame) (meth : Method) (c : Code) (A : Nat → Prop), kX p s m args meth c D cA A cc maxL ws own → (∀ (u : Nat → Nat) (H : Heap) (locs : List Loc) (pc : Nat) (ls : Array Slot), gH D A s.heap (w1 u) H locs → decode cc pc = .ok (.return_, 1) → W p l e (headSpec ws rm).room s m args below meth c H locs mc ms (MQ below (va_Qv (fun _ => True) (kQ D cA A w1) A) args s mc ms A) (F0 m pc ls [])) → gH D A s.heap w s.heap [] → ∀ (ls : Array Slot), lv_has ls maxL (lv_args 0 av) → W p l e (headSpec ws rm).room s m args below meth c s.heap [] 0 0 (MQ below (va_Qv (fun _ => True) (kQ D cA A w1) A) args s mc ms A) (F0 m 0 ls [])) : kM l D cA y ws rm av w w1 mc ms := by
  intro sz
  refine Met.ofW (cc := cc) (maxL := maxL) (ret := none) hy hws ?_
  intro p e s m args below meth c s₁ B hml hv
  obtain ⟨rfl, hsz, ⟨hP, hK, hD0⟩, hN⟩ := hv
  have hown : s.vm.findClass own = some m.cls := by rw [← hcls]; exact findClass_of_methodNamed B.named
  have hin : meth.name = "<init>" := by rw [← hnm]; exact (name_of_methodNamed B.named B.method).1
  subst hsz
  rw [lg_entry_eq]
  refine body p e s m av.toArray below meth c _ ⟨⟨B.exec, B.bytes, hml, hown, atoms_spec (ws := ws) B.pre, hK, fun q h => Or.inr h⟩, hN, hin⟩ ?_ ⟨hP, hD0.self, va_S.rf⟩ _ (lv_entry av hlen)
  intro u H locs pc ls h hdg
  exact W.vret B.exec B.bytes B.returns (fun t ht hW => ⟨⟨u, rfl, trivial, by rw [ht]; exact h.1, va_K.moved hW.alike hK, h.2.1⟩, h.2.2.F ht⟩) h.2.2.2.2 hdg B.notSynchronized
end KE
