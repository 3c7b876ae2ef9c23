/-- what the tables say beside the words: private constructors of nest mates, arrays of objects -/
def kN (U : State) : Prop := (va_Nw (.methodLinkNest RX6 23 yX5_init RX6) U ∧ va_Nw (.methodLinkNest RX6 30 yX2_init RX6) U ∧ va_Nw (.methodLinkNest RX3 17 yX4_init RX6) U ∧ va_Nw (.methodLinkNest RX5 11 yX3_init RX6) U) ∧ va_AO "RidgeBooks$Board" U ∧ va_AO "RidgeBooks$Meeting" U
theorem kN.warm {s U : State} (hW : s.WarmedH U.vm) (h : kN s) : kN U := ⟨⟨va_Nw.warmM hW h.1.1, va_Nw.warmM hW h.1.2.1, va_Nw.warmM hW h.1.2.2.1, va_Nw.warmM hW h.1.2.2.2⟩, va_AO.moved hW.alike h.2.1, va_AO.moved hW.alike h.2.2⟩
theorem kN.same {u U : State} (hv : u.vm = U.vm) (h : kN u) : kN U := ⟨⟨va_Nw.same rfl hv h.1.1, va_Nw.same rfl hv h.1.2.1, va_Nw.same rfl hv h.1.2.2.1, va_Nw.same rfl hv h.1.2.2.2⟩, va_AO.moved (by rw [hv]; exact Vm.Alike.refl _) h.2.1, va_AO.moved (by rw [hv]; exact Vm.Alike.refl _) h.2.2⟩
/-- calls of a nest mate's private methods: what the tables say of them -/
def cNw (U : State) : Prop := va_Nw (.methodLinkNest RX0 41 yX6_isOnBoard RX6) U ∧ va_Nw (.methodLinkNest RX1 77 yX6_isOnBoard RX6) U ∧ va_Nw (.methodLinkNest RX6 53 yX0_init RX6) U ∧ kN U
theorem cNw.warm {s U : State} (hW : s.WarmedH U.vm) (h : cNw s) : cNw U := ⟨va_Nw.warmM hW h.1, va_Nw.warmM hW h.2.1, va_Nw.warmM hW h.2.2.1, kN.warm hW h.2.2.2⟩
theorem cNw.same {u U : State} (hv : u.vm = U.vm) (h : cNw u) : cNw U := ⟨va_Nw.same rfl hv h.1, va_Nw.same rfl hv h.2.1, va_Nw.same rfl hv h.2.2.1, kN.same hv h.2.2.2⟩
/-- a reference to a board, to a meeting, or null -/
def bRef (ad : Nat → Nat) (o : Option Nat) : Value := va_rf (o.map (fun b => ad (64 + 8 * b)))
def tRef (ad : Nat → Nat) (o : Option Nat) : Value := va_rf (o.map (fun k => ad (256 + k)))
def cB (C : cM) (j : Nat) : Option Nat := if j < cN C then some j else none
def cT (C : cM) (k : Nat) : Option Nat := if cE C k = true then some k else none
theorem cBs_ref (ad : Nat → Nat) (C : cM) (j : Nat) : va_rf (cBs ad C j) = bRef ad (cB C j) := by
  unfold cBs bRef cB; split <;> rfl
theorem cMs_ref (ad : Nat → Nat) (C : cM) (j : Nat) : va_rf (cMs ad C j) = tRef ad (cT C j) := by
  unfold cMs tRef cT; split <;> rfl
theorem bRef_or (ad : Nat → Nat) (o : Option Nat) : bRef ad o = .null ∨ ∃ a, bRef ad o = .ref a := by
  cases o with
  | none => exact Or.inl rfl
  | some b => exact Or.inr ⟨_, rfl⟩
theorem tRef_or (ad : Nat → Nat) (o : Option Nat) : tRef ad o = .null ∨ ∃ a, tRef ad o = .ref a := by
  cases o with
  | none => exact Or.inl rfl
  | some b => exact Or.inr ⟨_, rfl⟩
/-- which boards and meetings there are; the tallies; the rows of longs that are handed on -/
def bok (C : cM) (b : Nat) : Prop := b < cN C ∧ b < 16
def tok (C : cM) (k : Nat) : Prop := k < 256 ∧ cE C k = true
def tal (a : Nat) : Prop := a = 9 ∨ a = 10 ∨ a = 11
def lar (a : Nat) : Prop := a = 23 ∨ a = 24 ∨ a = 25
theorem tal_in {C : cM} {a : Nat} (h : tal a) : a ∈ cids C := cids_f (by rcases h with rfl | rfl | rfl <;> decide)
theorem tal_k {a : Nat} (h : tal a) : ckind a = 8 := by rcases h with rfl | rfl | rfl <;> rfl
theorem lar_in {C : cM} {a : Nat} (h : lar a) : a ∈ cids C := cids_f (by rcases h with rfl | rfl | rfl <;> decide)
theorem lar_k {a : Nat} (h : lar a) : ckind a = 5 := by rcases h with rfl | rfl | rfl <;> rfl
def cX (p : Program) (s : State) (m : MethodId) (args : Array Value) (meth : Method) (c : Code) (D : va_G) (cA : Nat → ClassId) (A : Nat → Prop) (cc : ByteArray) (nL : Nat) (Ts : List Cond) (own : String) : Prop := gX p s m args meth c D cA A cc nL Ts own ∧ cNw s
def cBd (D : va_G) (cA : Nat → ClassId) (ad : Nat → Nat) (A : Nat → Prop) (C : cM) (t : State) : Prop := va_P D vwCl (cws cA ad C) t.heap ∧ va_K D vwCl (tysA cA) t ∧ va_D A (cws cA ad C)
def cPc (D : va_G) (cA : Nat → ClassId) (ad : Nat → Nat) (sz : Nat) (C : cM) (av : List Value) : Array Value → State → Prop := va_Pc av (fun U => U.heap.size = sz ∧ cBd D cA ad (fun _ => True) C U ∧ cNw U)
def cMi (l : Launch) (D : va_G) (cA : Nat → ClassId) (y : MethodName) (ws : List Cond) (rm : Room) (av : (Nat → Nat) → List Value) (wp : cM → (Int32 → cM → Prop) → Prop) : Prop :=
  ∀ (ad : Nat → Nat) (sz : Nat) (C : cM) (Q : Int32 → cM → Prop), wp C Q → Met l y ws rm (cPc D cA ad sz C (av ad)) (va_Qi Q (fun C' t => cBd D cA ad (va_A (cws cA ad C) sz) C' t) (va_A (cws cA ad C) sz)) 0 0 (va_A (cws cA ad C) sz)
def cMl (l : Launch) (D : va_G) (cA : Nat → ClassId) (y : MethodName) (ws : List Cond) (rm : Room) (av : (Nat → Nat) → List Value) (wp : cM → (Int64 → cM → Prop) → Prop) : Prop :=
  ∀ (ad : Nat → Nat) (sz : Nat) (C : cM) (Q : Int64 → cM → Prop), wp C Q → Met l y ws rm (cPc D cA ad sz C (av ad)) (va_Ql Q (fun C' t => cBd D cA ad (va_A (cws cA ad C) sz) C' t) (va_A (cws cA ad C) sz)) 0 0 (va_A (cws cA ad C) sz)
def cMv (l : Launch) (D : va_G) (cA : Nat → ClassId) (y : MethodName) (ws : List Cond) (rm : Room) (av : (Nat → Nat) → List Value) (wp : cM → (cM → Prop) → Prop) : Prop :=
  ∀ (ad : Nat → Nat) (sz : Nat) (C : cM) (Q : cM → Prop), wp C Q → Met l y ws rm (cPc D cA ad sz C (av ad)) (va_Qv Q (fun C' t => cBd D cA ad (va_A (cws cA ad C) sz) C' t) (va_A (cws cA ad C) sz)) 0 0 (va_A (cws cA ad C) sz)
/-- answers a board, or null -/
def cMb (l : Launch) (D : va_G) (cA : Nat → ClassId) (y : MethodName) (ws : List Cond) (rm : Room) (av : (Nat → Nat) → List Value) (wp : cM → (Option Nat → cM → Prop) → Prop) : Prop :=
  ∀ (ad : Nat → Nat) (sz : Nat) (C : cM) (Q : Option Nat → cM → Prop), wp C Q → Met l y ws rm (cPc D cA ad sz C (av ad)) (va_Qq (fun r (u : Option Nat × cM) => r = u.1.map (fun b => ad (64 + 8 * b)) ∧ Q u.1 u.2) (fun u t => cBd D cA ad (va_A (cws cA ad C) sz) u.2 t) (va_A (cws cA ad C) sz)) 0 0 (va_A (cws cA ad C) sz)
section CC
variable {p : Program} {l : Launch} {e : Env} {R : Room} {s : State} {m : MethodId} {args : Array Value} {below : List Frame} {meth : Method} {c : Code} {H : Heap} {locs : List Loc} {cells slots : Nat} {Z : State → Prop} {pc : Nat} {ls : Array Slot} {rest : List Value} {cc : ByteArray} {nL : Nat} {Ts : List Cond} {own : String} {D : va_G} {cA : Nat → ClassId} {A : Nat → Prop} {ad : Nat → Nat} {C : cM} {i : Nat}
theorem c_optB {o : Option Nat} (kn : o = none → W p l e R s m args below meth c H locs cells slots Z (F0 m pc ls (.null :: rest))) (ks : ∀ b : Nat, o = some b → W p l e R s m args below meth c H locs cells slots Z (F0 m pc ls (.ref (ad (64 + 8 * b)) :: rest))) : W p l e R s m args below meth c H locs cells slots Z (F0 m pc ls (bRef ad o :: rest)) := by
  cases o with
  | none => exact kn rfl
  | some b => exact ks b rfl
theorem c_optT {o : Option Nat} (kn : o = none → W p l e R s m args below meth c H locs cells slots Z (F0 m pc ls (.null :: rest))) (ks : ∀ b : Nat, o = some b → W p l e R s m args below meth c H locs cells slots Z (F0 m pc ls (.ref (ad (256 + b)) :: rest))) : W p l e R s m args below meth c H locs cells slots Z (F0 m pc ls (tRef ad o :: rest)) := by
  cases o with
  | none => exact kn rfl
  | some b => exact ks b rfl
theorem c_aldB (X : gX p s m args meth c D cA A cc nL Ts own) (h : cH D cA ad A s.heap C H locs) {j : Int32} (hj : vp_in j 16) (hdg : decode cc pc = .ok (.aaload, 1))
    (kk : W p l e R s m args below meth c H locs cells slots Z (F0 m (pc + 1) ls (bRef ad (cB C j.toNatClampNeg) :: rest))) : W p l e R s m args below meth c H locs cells slots Z (F0 m pc ls (.int j :: .ref (ad 1) :: rest)) := by
  obtain ⟨hx, hb, hml, hown, hts, hK, hA⟩ := X
  obtain ⟨q, hq⟩ := List.getElem?_of_mem (cids_f (C := C) (show 1 ∈ cfix by decide))
  refine va_aldq hx hb hK h.1 q 3 (C := "RidgeBooks$Board") (gw_get hq) rfl hj hdg ?_
  rw [cBs_ref]
  exact kk
theorem c_aldT (X : gX p s m args meth c D cA A cc nL Ts own) (h : cH D cA ad A s.heap C H locs) {j : Int32} (hj : vp_in j 256) (hdg : decode cc pc = .ok (.aaload, 1))
    (kk : W p l e R s m args below meth c H locs cells slots Z (F0 m (pc + 1) ls (tRef ad (cT C j.toNatClampNeg) :: rest))) : W p l e R s m args below meth c H locs cells slots Z (F0 m pc ls (.int j :: .ref (ad 2) :: rest)) := by
  obtain ⟨hx, hb, hml, hown, hts, hK, hA⟩ := X
  obtain ⟨q, hq⟩ := List.getElem?_of_mem (cids_f (C := C) (show 2 ∈ cfix by decide))
  refine va_aldq hx hb hK h.1 q 4 (C := "RidgeBooks$Meeting") (gw_get hq) rfl hj hdg ?_
  rw [cMs_ref]
  exact kk
/-- the meeting's two boards -/
theorem c_getT0 (X : gX p s m args meth c D cA A cc nL Ts own) (h : cH D cA ad A s.heap C H locs) {k : Nat} (hk : tok C k) {index : Nat} (hin : ∀ w ∈ wsX10, w ∈ Ts) (hlink : Cond.fieldLink own index RX1 (TX1 0).2.1 (TX1 0).2.2.1 ∈ Ts) (hdg : decode cc pc = .ok (.getfield index, 3))
    (kk : W p l e R s m args below meth c H locs cells slots Z (F0 m (pc + 3) ls (.ref (ad (64 + 8 * (k / 16))) :: rest))) : W p l e R s m args below meth c H locs cells slots Z (F0 m pc ls (.ref (ad (256 + k)) :: rest)) :=
  c_get X h (cids_m hk.1 hk.2) 10 ckind_m (by decide) rfl hin 0 (by decide) hlink rfl (v := .ref (ad (64 + 8 * (k / 16)))) (by show some (Value.ref (ad (64 + 8 * ((256 + k - 256) / 16)))) = _; rw [Nat.add_sub_cancel_left]) hdg kk
theorem c_getT1 (X : gX p s m args meth c D cA A cc nL Ts own) (h : cH D cA ad A s.heap C H locs) {k : Nat} (hk : tok C k) {index : Nat} (hin : ∀ w ∈ wsX10, w ∈ Ts) (hlink : Cond.fieldLink own index RX1 (TX1 1).2.1 (TX1 1).2.2.1 ∈ Ts) (hdg : decode cc pc = .ok (.getfield index, 3))
    (kk : W p l e R s m args below meth c H locs cells slots Z (F0 m (pc + 3) ls (.ref (ad (64 + 8 * (k % 16))) :: rest))) : W p l e R s m args below meth c H locs cells slots Z (F0 m pc ls (.ref (ad (256 + k)) :: rest)) :=
  c_get X h (cids_m hk.1 hk.2) 10 ckind_m (by decide) rfl hin 1 (by decide) hlink rfl (v := .ref (ad (64 + 8 * (k % 16)))) (by show some (Value.ref (ad (64 + 8 * ((256 + k - 256) % 16)))) = _; rw [Nat.add_sub_cancel_left]) hdg kk
/-- the told rows, copied over the thinned ones -/
def ccpy (C : cM) (b : Nat) : cM := (va_up C.1 (64 + 8 * b + 2) (va_cpy (C.1 (64 + 8 * b + 1)) (C.1 (64 + 8 * b + 2)) 0 0 24), C.2.1, C.2.2.1, C.2.2.2)
theorem c_copy (X : gX p s m args meth c D cA A cc nL Ts own) (h : cH D cA ad A s.heap C H locs) {b : Nat} (hbk : bok C b) (hls : ls.size = nL) {index : Nat} (hlink : Cond.methodLink own index arraycopyName ∈ Ts) (hnat : Cond.native arraycopyName ∈ Ts) (hstat : Cond.static arraycopyName ∈ Ts) (hini : Cond.initialized "java/lang/System" ∈ Ts) (hfr : 1 ≤ R.frames) (hlo : nativeFrameWords "java/lang/System" "arraycopy" 5 + 11 ≤ R.locals) (hdg : decode cc pc = .ok (.invokestatic index, 3))
    (kk : ∀ (C1 : cM), C1 = ccpy C b → ∀ (H1 : Heap) (locs1 : List Loc), cH D cA ad A s.heap C1 H1 locs1 → W p l e R s m args below meth c H1 locs1 cells slots Z (F0 m (pc + 3) ls [])) : W p l e R s m args below meth c H locs cells slots Z (F0 m pc ls [.int 24, .int 0, .ref (ad (64 + 8 * b + 2)), .int 0, .ref (ad (64 + 8 * b + 1))]) := by
  obtain ⟨hx, hb, hml, hown, hts, hK, hA⟩ := X
  obtain ⟨q0, hq0⟩ := List.getElem?_of_mem (cids_b hbk.1 1 (by decide))
  obtain ⟨q1, hq1⟩ := List.getElem?_of_mem (cids_b hbk.1 2 (by decide))
  obtain ⟨hP, hD, hS⟩ := h
  have k1 : ckind (64 + 8 * b + 1) = 7 := ckind_ba hbk.2 (by decide) (by decide)
  have k2 : ckind (64 + 8 * b + 2) = 7 := ckind_ba hbk.2 (by decide) (by decide)
  have l1 : ilen (64 + 8 * b + 1) = 24 := ilen_ba (by decide)
  have l2 : ilen (64 + 8 * b + 2) = 24 := ilen_ba (by decide)
  refine va_copyi (ty := .int) hx hb (hml.trans hls.symm) hown (hts _ hlink) (hts _ hnat) (hts _ hstat) (hts _ hini) hK hP hD hS q0 q1 0 0 (by rw [gw_get hq0, cct_i k1]) (by rw [gw_get hq1, cct_i k2]) rfl rfl rfl (by decide) (by decide) (by decide) (by rw [l1]; decide) (by rw [l2]; decide) (fun _ _ => rfl) hfr (by show 0 + _ ≤ _; rw [Nat.zero_add]; exact hlo) hdg (fun H1 locs1 h1 h2 h3 => ?_)
  have e1 : cct cA ad (ccpy C b) (64 + 8 * b + 2) = .inl (cA 0, ilen (64 + 8 * b + 2), .inl (va_cpy (cI C (64 + 8 * b + 1)) (cI C (64 + 8 * b + 2)) (0 : Int32).toNatClampNeg (0 : Int32).toNatClampNeg (24 : Int32).toNatClampNeg)) := by
    rw [cct_i k2]
    simp only [cI, ccpy, va_up, if_true]
    rfl
  rw [gw_set hD hq1, cct_up (C := C) (C' := ccpy C b) e1 (fun j hj => by simp [cI, ccpy, va_up, hj]) (fun _ _ => rfl) rfl rfl] at h1 h2
  exact kk _ rfl H1 locs1 ⟨h1, h2, h3⟩
theorem c_free (X : gX p s m args meth c D cA A cc nL Ts own) (h : cH D cA ad A s.heap C H locs) : ∀ q, va_A (cws cA ad C) H.size q → A q := fun q hq => by
  obtain ⟨hx, hb, hml, hown, hts, hK, hA⟩ := X
  rcases hq with ⟨k, e, hk⟩ | hq
  · exact h.2.1.2 k (q, e) hk
  · exact hA q (Nat.le_trans h.2.2.1 hq)
theorem cPc_blind (D : va_G) (cA : Nat → ClassId) (ad : Nat → Nat) (sz : Nat) (C : cM) (av : List Value) : FrameBlind (cPc D cA ad sz C av) := fun a U g mk q => by
  obtain ⟨q0, q1, ⟨qP, qK, qD⟩, qN⟩ := q
  exact ⟨q0, q1, ⟨qP, va_K.moved (u := U) (U := U.calling g mk a) (Vm.Alike.refl U.vm) qK, qD⟩, cNw.same rfl qN⟩
theorem cPc_at (X : cX p s m args meth c D cA A cc nL Ts own) (h : cH D cA ad A s.heap C H locs) (av : List Value) : ∀ U : State, U.heap = H → s.WarmedH U.vm → cPc D cA ad H.size C av av.toArray U := fun U hU hW => by
  obtain ⟨⟨hx, hb, hml, hown, hts, hK, hA⟩, hN⟩ := X
  exact ⟨rfl, by rw [hU], ⟨by rw [hU]; exact h.1, va_K.moved hW.alike hK, h.2.1.weaken (fun _ _ _ _ => trivial)⟩, cNw.warm hW hN⟩
theorem c_back {C' : cM} {t : State} {H1 : Heap} {locs1 : List Loc} (hF : ∀ q, va_A (cws cA ad C) H.size q → A q) (ht : t.heap = H1) (hB : cBd D cA ad (va_A (cws cA ad C) H.size) C' t) (hS : va_S A s.heap H1 locs1) : cH D cA ad A s.heap C' H1 locs1 :=
  ⟨by rw [← ht]; exact hB.1, hB.2.2.weaken (fun _ q _ hq => hF q.1 hq), hS⟩
section CALL
variable {y : MethodName} {ws ws' : List Cond} {rm : Room} {As st0 : List Value} {bytes : ByteArray} {maxL index n mc ms : Nat} {ret : Option FieldType} {Qc : Array Value → State → Outcome → State → Prop} {free : Addr → Prop}
theorem c_runV (X : cX p s m args meth c D cA A cc nL Ts own) (h : cH D cA ad A s.heap C H locs) (hi : i ∈ cids C) (kd : Nat) (hk : ckind i = kd) (h2 : kd = 0 ∨ kd = 3 ∨ kd = 4 ∨ kd = 6 ∨ kd = 8 ∨ kd = 9 ∨ kd = 10) {cl : String} {T : u_T} {N : Nat} (hc : vwCl[cci kd]? = some (cl, T, N)) (hM : Met l y ws rm (cPc D cA ad H.size C (.ref (ad i) :: As)) Qc mc ms free) (hT : GoodIn Ts (wsV own index cl y ws)) (hl : ls.size = nL) (hdg : decode cc pc = .ok (.invokevirtual index, 3)) (hw0 : ws = Cond.code y bytes maxL ret :: ws') (hrc : rm.cells = mc) (hrs : rm.slots = ms) (hd : y.cls = cl ∧ y.cls ≠ "java/lang/invoke/MethodHandle" ∧ y.cls ≠ "java/lang/invoke/VarHandle" ∧ (parseMethodDescriptor y.desc).map (fun d => d.parameters.length) = some n) (hR : rm.frames + 1 ≤ R.frames ∧ 8 + (maxL + 11) + rm.locals ≤ R.locals) (hn : As.length = n) (hst : st0 = As.reverse ++ .ref (ad i) :: rest) (hcat : (rest.map fun v => v.category).sum ≤ 8) (hf : cells + mc ≤ R.cells ∧ slots + ms ≤ R.slots) : va_Run p l e R s m args below meth c H locs cells slots mc ms (F0 m pc ls st0) rest (Qc (Value.ref (ad i) :: As).toArray) free := by
  have hp := cPc_at X h (.ref (ad i) :: As)
  obtain ⟨⟨hx, hb, hml, hown, hts, hK, hA⟩, hN⟩ := X
  obtain ⟨q, hq⟩ := List.getElem?_of_mem hi
  exact va_runV (As := As) (rest := rest) ⟨hx, hb, hml, hown, hts⟩ hM (cwV n hts hT hw0 hrc hrs hd hR) ⟨cPc_blind _ _ _ _ _ _, va_recv hK h.1 hc (by rw [gw_get hq, cct_o hk h2]), hp⟩ rfl hn hl hst (lv_room hcat) hdg hf
theorem c_runS (X : cX p s m args meth c D cA A cc nL Ts own) (h : cH D cA ad A s.heap C H locs) (hM : Met l y ws rm (cPc D cA ad H.size C As) Qc mc ms free) (hT : GoodIn Ts (va_wsS own index y ws)) (hl : ls.size = nL) (hdg : decode cc pc = .ok (.invokestatic index, 3)) (hw0 : ws = Cond.code y bytes maxL ret :: ws') (hrc : rm.cells = mc) (hrs : rm.slots = ms) (hd : y.cls ≠ "java/lang/invoke/MethodHandle" ∧ y.cls ≠ "java/lang/invoke/VarHandle" ∧ (parseMethodDescriptor y.desc).map (fun d => d.parameters.length) = some n) (hR : rm.frames + 1 ≤ R.frames ∧ 8 + (maxL + 11) + rm.locals ≤ R.locals) (hn : As.length = n) (hst : st0 = As.reverse ++ rest) (hcat : (rest.map fun v => v.category).sum ≤ 8) (hf : cells + mc ≤ R.cells ∧ slots + ms ≤ R.slots) : va_Run p l e R s m args below meth c H locs cells slots mc ms (F0 m pc ls st0) rest (Qc As.toArray) free := by
  have hp := cPc_at X h As
  obtain ⟨⟨hx, hb, hml, hown, hts, hK, hA⟩, hN⟩ := X
  exact va_runS (As := As) (rest := rest) ⟨hx, hb, hml, hown, hts⟩ hM (va_cwS n hts hT hw0 hrc hrs hd hR) ⟨cPc_blind _ _ _ _ _ _, hp⟩ rfl hn hl hst (lv_room hcat) hdg hf
theorem c_runSN (X : cX p s m args meth c D cA A cc nL Ts own) (h : cH D cA ad A s.heap C H locs) (hM : Met l y ws rm (cPc D cA ad H.size C As) Qc mc ms free) {host : String} (hnl : va_Nw (.methodLinkNest own index y host) s) (hT : GoodIn Ts ws) (hini : Cond.initialized y.cls ∈ Ts) (hstat : Cond.static y ∈ Ts) (hl : ls.size = nL) (hdg : decode cc pc = .ok (.invokestatic index, 3)) (hw0 : ws = Cond.code y bytes maxL ret :: ws') (hrc : rm.cells = mc) (hrs : rm.slots = ms) (hd : y.cls ≠ "java/lang/invoke/MethodHandle" ∧ y.cls ≠ "java/lang/invoke/VarHandle" ∧ (parseMethodDescriptor y.desc).map (fun d => d.parameters.length) = some n) (hR : rm.frames + 1 ≤ R.frames ∧ 8 + (maxL + 11) + rm.locals ≤ R.locals) (hn : As.length = n) (hst : st0 = As.reverse ++ rest) (hcat : (rest.map fun v => v.category).sum ≤ 8) (hf : cells + mc ≤ R.cells ∧ slots + ms ≤ R.slots) : va_Run p l e R s m args below meth c H locs cells slots mc ms (F0 m pc ls st0) rest (Qc As.toArray) free := by
  have hp := cPc_at X h As
  obtain ⟨⟨hx, hb, hml, hown, hts, hK, hA⟩, hN⟩ := X
  exact va_runSN (As := As) (rest := rest) ⟨hx, hb, hml, hown, hts⟩ hM ⟨va_cnB n hts hT hw0 hrc hrs hnl (hts _ hini) hd hR, hts _ hstat, trivial⟩ ⟨cPc_blind _ _ _ _ _ _, hp⟩ rfl hn hl hst (lv_room hcat) hdg hf
variable {a : Array Value}
theorem c_goi (X : cX p s m args meth c D cA A cc nL Ts own) (h : cH D cA ad A s.heap C H locs) {K : Int32 → cM → Prop} (hr : va_Run p l e R s m args below meth c H locs cells slots 0 0 (F0 m pc ls st0) rest (va_Qi K (fun C' t => cBd D cA ad (va_A (cws cA ad C) H.size) C' t) (va_A (cws cA ad C) H.size) a) (va_A (cws cA ad C) H.size)) (kk : ∀ (r : Int32) (C1 : cM) (H1 : Heap) (locs1 : List Loc), K r C1 → cH D cA ad A s.heap C1 H1 locs1 → W p l e R s m args below meth c H1 locs1 cells slots Z (F0 m (pc + 3) ls (.int r :: rest))) : W p l e R s m args below meth c H locs cells slots Z (F0 m pc ls st0) := by
  have hF := c_free X.1 h
  exact va_calli hr h.2.2 (fun q _ hq => hF q hq) hF (fun r u t H1 locs1 ht hvm hw hB hz1 hk1 hS => kk r u H1 locs1 hw (c_back hF ht hB hS))
theorem c_gol (X : cX p s m args meth c D cA A cc nL Ts own) (h : cH D cA ad A s.heap C H locs) {K : Int64 → cM → Prop} (hr : va_Run p l e R s m args below meth c H locs cells slots 0 0 (F0 m pc ls st0) rest (va_Ql K (fun C' t => cBd D cA ad (va_A (cws cA ad C) H.size) C' t) (va_A (cws cA ad C) H.size) a) (va_A (cws cA ad C) H.size)) (kk : ∀ (r : Int64) (C1 : cM) (H1 : Heap) (locs1 : List Loc), K r C1 → cH D cA ad A s.heap C1 H1 locs1 → W p l e R s m args below meth c H1 locs1 cells slots Z (F0 m (pc + 3) ls (.long r :: rest))) : W p l e R s m args below meth c H locs cells slots Z (F0 m pc ls st0) := by
  have hF := c_free X.1 h
  exact va_calll hr h.2.2 (fun q _ hq => hF q hq) hF (fun r u t H1 locs1 ht hvm hw hB hz1 hk1 hS => kk r u H1 locs1 hw (c_back hF ht hB hS))
theorem c_gov (X : cX p s m args meth c D cA A cc nL Ts own) (h : cH D cA ad A s.heap C H locs) {K : cM → Prop} (hr : va_Run p l e R s m args below meth c H locs cells slots 0 0 (F0 m pc ls st0) rest (va_Qv K (fun C' t => cBd D cA ad (va_A (cws cA ad C) H.size) C' t) (va_A (cws cA ad C) H.size) a) (va_A (cws cA ad C) H.size)) (kk : ∀ (C1 : cM) (H1 : Heap) (locs1 : List Loc), K C1 → cH D cA ad A s.heap C1 H1 locs1 → W p l e R s m args below meth c H1 locs1 cells slots Z (F0 m (pc + 3) ls rest)) : W p l e R s m args below meth c H locs cells slots Z (F0 m pc ls st0) := by
  have hF := c_free X.1 h
  exact va_callv hr h.2.2 (fun q _ hq => hF q hq) hF (fun u t H1 locs1 ht hvm hw hB hz1 hk1 hS => kk u H1 locs1 hw (c_back hF ht hB hS))
theorem c_gob (X : cX p s m args meth c D cA A cc nL Ts own) (h : cH D cA ad A s.heap C H locs) {K : Option Nat → cM → Prop} (hr : va_Run p l e R s m args below meth c H locs cells slots 0 0 (F0 m pc ls st0) rest (va_Qq (fun r (u : Option Nat × cM) => r = u.1.map (fun b => ad (64 + 8 * b)) ∧ K u.1 u.2) (fun u t => cBd D cA ad (va_A (cws cA ad C) H.size) u.2 t) (va_A (cws cA ad C) H.size) a) (va_A (cws cA ad C) H.size)) (kk : ∀ (r : Option Nat) (C1 : cM) (H1 : Heap) (locs1 : List Loc), K r C1 → cH D cA ad A s.heap C1 H1 locs1 → W p l e R s m args below meth c H1 locs1 cells slots Z (F0 m (pc + 3) ls (bRef ad r :: rest))) : W p l e R s m args below meth c H locs cells slots Z (F0 m pc ls st0) := by
  have hF := c_free X.1 h
  exact va_callq hr h.2.2 (fun q _ hq => hF q hq) hF (fun r u t H1 locs1 ht hvm hw hB hz1 hk1 hS => by
    obtain ⟨rfl, hw⟩ := hw
    exact kk u.1 u.2 H1 locs1 hw (c_back hF ht hB hS))
end CALL
end CC
section CE
variable {l : Launch} {D : va_G} {cA : Nat → ClassId} {y : MethodName} {ws ws' : List Cond} {rm : Room} {av : List Value} {cc : ByteArray} {maxL sz mc ms : Nat} {ret : Option FieldType} {ad : Nat → Nat} {C : cM} {own : String}
theorem c_enter {Qc : Array Value → State → Outcome → State → Prop} (hy : plainName y.cls = true) (hcls : y.cls = own) (hws : ws = Cond.code y cc maxL ret :: ws') (hlen : (lg_sl av).length ≤ maxL)
    (body : ∀ (p : Program) (e : Env) (s : State) (m : MethodId) (args : Array Value) (below : List Frame) (meth : Method) (c : Code), s.heap.size = sz → cX p s m args meth c D cA (va_A (cws cA ad C) sz) cc maxL ws own → meth.sig.returnType = ret → meth.locks = false → cH D cA ad (va_A (cws cA ad C) sz) s.heap C s.heap [] → ∀ (ls : Array Slot), lv_has ls maxL (lv_args 0 av) → W p l e (headSpec ws rm).room s m args below meth c s.heap [] 0 0 (MQ below Qc args s mc ms (va_A (cws cA ad C) sz)) (F0 m 0 ls [])) : Met l y ws rm (cPc D cA ad sz C av) Qc mc ms (va_A (cws cA ad C) sz) := by
  refine Met.ofW (cc := cc) (maxL := maxL) (ret := ret) hy hws ?_
  intro p e s m args below meth c s₁ B hml hv
  obtain ⟨rfl, hsz, ⟨hP, hK, hD0⟩, hN⟩ := hv
  have hown : s.vm.findClass own = some m.cls := by rw [← hcls]; exact findClass_of_methodNamed B.named
  subst hsz
  rw [lg_entry_eq]
  exact body p e s m av.toArray below meth c rfl ⟨⟨B.exec, B.bytes, hml, hown, atoms_spec (ws := ws) B.pre, hK, fun q h => Or.inr h⟩, hN⟩ B.returns B.notSynchronized ⟨hP, hD0.self, va_S.rf⟩ _ (lv_entry av hlen)
end CE
section CRET
variable {p : Program} {l : Launch} {e : Env} {R : Room} {s : State} {m : MethodId} {args : Array Value} {below : List Frame} {meth : Method} {c : Code} {cc : ByteArray} {D : va_G} {cA : Nat → ClassId} {ad : Nat → Nat} {A : Nat → Prop}
theorem c_iret {Q : Int32 → cM → Prop} (hx : p.tables.exec = Jvm.exec) (hb : c.code = cc) (hr : meth.sig.returnType = some .int) (hlocks : meth.locks = false) (hK : va_K D vwCl (tysA cA) s) : ∀ (r : Int32) (C : cM) (H : Heap) (locs : List Loc) (pc : Nat) (ls : Array Slot), Q r C → cH D cA ad A s.heap C H locs → decode cc pc = .ok (.ireturn, 1) → W p l e R s m args below meth c H locs 0 0 (MQ below (va_Qi Q (fun C' t => cBd D cA ad A C' t) A) args s 0 0 A) (F0 m pc ls [.int r]) := fun r C H locs pc ls hq h hdg =>
  W.iret (v := r) hx hb hr (fun t ht hW => ⟨⟨r, C, rfl, hq, by rw [ht]; exact h.1, va_K.moved hW.alike hK, h.2.1⟩, h.2.2.F ht⟩) h.2.2.2.2 hdg hlocks
theorem c_zret {Q : Int32 → cM → Prop} (hx : p.tables.exec = Jvm.exec) (hb : c.code = cc) (hr : meth.sig.returnType = some .boolean) (hlocks : meth.locks = false) (hK : va_K D vwCl (tysA cA) s) : ∀ (r : Int32) (C : cM) (H : Heap) (locs : List Loc) (pc : Nat) (ls : Array Slot), bz r ∧ Q r C → cH D cA ad A s.heap C H locs → decode cc pc = .ok (.ireturn, 1) → W p l e R s m args below meth c H locs 0 0 (MQ below (va_Qi Q (fun C' t => cBd D cA ad A C' t) A) args s 0 0 A) (F0 m pc ls [.int r]) := fun r C H locs pc ls hq h hdg =>
  W.zret (v := r) hx hb hr (bz_nar hq.1) (fun t ht hW => ⟨⟨r, C, rfl, hq.2, by rw [ht]; exact h.1, va_K.moved hW.alike hK, h.2.1⟩, h.2.2.F ht⟩) h.2.2.2.2 hdg hlocks
theorem c_lret {Q : Int64 → cM → Prop} (hx : p.tables.exec = Jvm.exec) (hb : c.code = cc) (hr : meth.sig.returnType = some .long) (hlocks : meth.locks = false) (hK : va_K D vwCl (tysA cA) s) : ∀ (r : Int64) (C : cM) (H : Heap) (locs : List Loc) (pc : Nat) (ls : Array Slot), Q r C → cH D cA ad A s.heap C H locs → decode cc pc = .ok (.lreturn, 1) → W p l e R s m args below meth c H locs 0 0 (MQ below (va_Ql Q (fun C' t => cBd D cA ad A C' t) A) args s 0 0 A) (F0 m pc ls [.long r]) := fun r C H locs pc ls hq h hdg =>
  W.lret (v := r) hx hb hr (fun t ht hW => ⟨⟨r, C, rfl, hq, by rw [ht]; exact h.1, va_K.moved hW.alike hK, h.2.1⟩, h.2.2.F ht⟩) h.2.2.2.2 hdg hlocks
theorem c_vret {Q : cM → Prop} (hx : p.tables.exec = Jvm.exec) (hb : c.code = cc) (hr : meth.sig.returnType = none) (hlocks : meth.locks = false) (hK : va_K D vwCl (tysA cA) s) : ∀ (C : cM) (H : Heap) (locs : List Loc) (pc : Nat) (ls : Array Slot), Q C → cH D cA ad A s.heap C H locs → decode cc pc = .ok (.return_, 1) → W p l e R s m args below meth c H locs 0 0 (MQ below (va_Qv Q (fun C' t => cBd D cA ad A C' t) A) args s 0 0 A) (F0 m pc ls []) := fun C H locs pc ls hq h hdg =>
  W.vret hx hb hr (fun t ht hW => ⟨⟨C, rfl, hq, by rw [ht]; exact h.1, va_K.moved hW.alike hK, h.2.1⟩, h.2.2.F ht⟩) h.2.2.2.2 hdg hlocks
theorem c_bret {Q : Option Nat → cM → Prop} {rt : FieldType} (hx : p.tables.exec = Jvm.exec) (hb : c.code = cc) (hr : meth.sig.returnType = some rt) (hrt : (∃ n, rt = .object n) ∨ ∃ t, rt = .array t) (hlocks : meth.locks = false) (hK : va_K D vwCl (tysA cA) s) : ∀ (r : Option Nat) (C : cM) (H : Heap) (locs : List Loc) (pc : Nat) (ls : Array Slot), Q r C → cH D cA ad A s.heap C H locs → decode cc pc = .ok (.areturn, 1) → W p l e R s m args below meth c H locs 0 0 (MQ below (va_Qq (fun r (u : Option Nat × cM) => r = u.1.map (fun b => ad (64 + 8 * b)) ∧ Q u.1 u.2) (fun u t => cBd D cA ad A u.2 t) A) args s 0 0 A) (F0 m pc ls [bRef ad r]) := fun r C H locs pc ls hq h hdg =>
  W.aret (v := bRef ad r) hx hb hr hrt (bRef_or ad r) (fun t ht hW => ⟨⟨r.map (fun b => ad (64 + 8 * b)), (r, C), rfl, ⟨rfl, hq⟩, by rw [ht]; exact h.1, va_K.moved hW.alike hK, h.2.1⟩, h.2.2.F ht⟩) h.2.2.2.2 hdg hlocks
end CRET
