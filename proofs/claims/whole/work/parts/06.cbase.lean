abbrev ush (x y : Int32) : Int32 := (x.toUInt32 >>> (y.toUInt32 &&& Int32.toUInt32 31)).toInt32
abbrev lush (x : Int64) (y : Int32) : Int64 := (x.toUInt64 >>> (y.toInt64.toUInt64 &&& Int64.toUInt64 63)).toInt64
abbrev imin (x y : Int32) : Int32 := if y < x then y else x
abbrev iabs (x : Int32) : Int32 := if 0 ≤ x then x else 0 - x
theorem tsw_ne {x k : Int32} (h : ¬ x = k) : x.toInt ≠ k.toInt := fun z => h (Int32.toInt_inj.mp z)
theorem tsw_out2 {x : Int32} (h0 : ¬ x = 0) (h1 : ¬ x = 1) (h2 : ¬ x = 2) : x.toInt < 0 ∨ 2 < x.toInt := by
  have a0 : x.toInt ≠ 0 := tsw_ne h0
  have a1 : x.toInt ≠ 1 := tsw_ne h1
  have a2 : x.toInt ≠ 2 := tsw_ne h2
  omega
theorem tsw_out3 {x : Int32} (h0 : ¬ x = 0) (h1 : ¬ x = 1) (h2 : ¬ x = 2) (h3 : ¬ x = 3) : x.toInt < 0 ∨ 3 < x.toInt := by
  have a0 : x.toInt ≠ 0 := tsw_ne h0
  have a1 : x.toInt ≠ 1 := tsw_ne h1
  have a2 : x.toInt ≠ 2 := tsw_ne h2
  have a3 : x.toInt ≠ 3 := tsw_ne h3
  omega
/-! THE CLASS'S MEMORY: ints and longs by cell and place, how many boards there are, which meetings there are -/
abbrev cM : Type := (Nat → Nat → Int32) × (Nat → Nat → Int64) × Nat × (Nat → Bool)
def cI (C : cM) : Nat → Nat → Int32 := C.1
def cL (C : cM) : Nat → Nat → Int64 := C.2.1
def cN (C : cM) : Nat := C.2.2.1
def cE (C : cM) : Nat → Bool := C.2.2.2
def cst (C : cM) (i k : Nat) (v : Int32) : cM := (st C.1 i k v, C.2.1, C.2.2.1, C.2.2.2)
def cstL (C : cM) (i k : Nat) (v : Int64) : cM := (C.1, va_up C.2.1 i (vp_updL (C.2.1 i) k v), C.2.2.1, C.2.2.2)
/-- kinds of cells: 0 the book, 1 its boards, 2 its meetings, 3 thinner, 4 pairing, 5 row of longs, 6 surroundings, 7 row of ints, 8 tally, 9 board, 10 meeting -/
def cfixk : Nat → Nat
  | 0 => 0
  | 1 => 1
  | 2 => 2
  | 3 => 3
  | 4 => 4
  | 5 => 5
  | 6 => 6
  | 7 => 7
  | 8 => 7
  | 9 => 8
  | 10 => 8
  | 11 => 8
  | 20 => 7
  | 21 => 7
  | 22 => 7
  | 23 => 5
  | 24 => 5
  | 25 => 5
  | 26 => 5
  | 27 => 7
  | 28 => 7
  | 29 => 7
  | 30 => 7
  | _ => 99
def ckind (i : Nat) : Nat := if i < 64 then cfixk i else if i < 192 then (if i % 8 = 0 then 9 else 7) else 10
def ilen (i : Nat) : Nat := if i < 64 then (match i with
    | 7 => 24
    | 8 => 8
    | 20 => 160
    | 21 => 160
    | 22 => 160
    | _ => 40) else (if i % 8 ≤ 2 then 24 else 40)
def llen : Nat → Nat
  | 5 => 13
  | 25 => 9
  | _ => 40
def cfsR (ad : Nat → Nat) (i : Nat) (f : Nat → Int32) (g : Nat → Int64) : Nat → List Value
  | 0 => [.ref (ad 1), .ref (ad 2), .ref (ad 3), .ref (ad 4), .ref (ad 5), .int (f 5), .int (f 6), .int (f 7)]
  | 3 => [.ref (ad 6), .ref (ad 7)]
  | 4 => [.ref (ad 20), .ref (ad 21), .ref (ad 22), .ref (ad 23), .ref (ad 24), .ref (ad 25), .ref (ad 26), .ref (ad 27), .ref (ad 28), .ref (ad 29), .ref (ad 30), .int (f 11), .long (g 12)]
  | 6 => [.ref (ad 8), .ref (ad 9), .ref (ad 10), .ref (ad 11), .int (f 4)]
  | 8 => [.int (f 0), .int (f 1), .int (f 2)]
  | 9 => [.ref (ad (i + 1)), .ref (ad (i + 2)), .ref (ad (i + 3)), .ref (ad (i + 4)), .ref (ad (i + 5)), .int (f 5), .int (f 6), .int (f 7), .int (f 8)]
  | _ => [.ref (ad (64 + 8 * ((i - 256) / 16))), .ref (ad (64 + 8 * ((i - 256) % 16))), .int (f 2), .int (f 3), .int (f 4), .int (f 5), .int (f 6), .int (f 7), .int (f 8)]
def cfs (ad : Nat → Nat) (C : cM) (i kd : Nat) : List Value := cfsR ad i (cI C i) (cL C i) kd
def cci : Nat → Nat
  | 0 => 6
  | 3 => 5
  | 4 => 2
  | 6 => 3
  | 8 => 4
  | 9 => 0
  | _ => 1
def cBs (ad : Nat → Nat) (C : cM) (j : Nat) : Option Nat := if j < cN C then some (ad (64 + 8 * j)) else none
def cMs (ad : Nat → Nat) (C : cM) (k : Nat) : Option Nat := if cE C k = true then some (ad (256 + k)) else none
def cct (cA : Nat → ClassId) (ad : Nat → Nat) (C : cM) (i : Nat) : va_E :=
  if ckind i = 7 then .inl (cA 0, ilen i, .inl (cI C i))
  else if ckind i = 5 then .inl (cA 1, llen i, .inr (.inl (cL C i)))
  else if ckind i = 1 then .inl (cA 3, 16, .inr (.inr (.inr (.inr (cBs ad C)))))
  else if ckind i = 2 then .inl (cA 4, 256, .inr (.inr (.inr (.inr (cMs ad C)))))
  else .inr (cci (ckind i), cfs ad C i (ckind i))
def cfix : List Nat := [0, 1, 2, 3, 4, 5, 6, 7, 8, 9, 10, 11, 20, 21, 22, 23, 24, 25, 26, 27, 28, 29, 30]
def cids (C : cM) : List Nat := cfix ++ ((List.range (cN C)).flatMap (fun b => [64 + 8 * b, 64 + 8 * b + 1, 64 + 8 * b + 2, 64 + 8 * b + 3, 64 + 8 * b + 4, 64 + 8 * b + 5]) ++ ((List.range 256).filter (fun k => cE C k)).map (fun k => 256 + k))
abbrev cws (cA : Nat → ClassId) (ad : Nat → Nat) (C : cM) : va_W := gw (cids C) ad (cct cA ad C)
theorem cids_f {C : cM} {i : Nat} (h : i ∈ cfix) : i ∈ cids C := List.mem_append_left _ h
theorem cids_b {C : cM} {b : Nat} (h : b < cN C) (j : Nat) (hj : j < 6) : 64 + 8 * b + j ∈ cids C := by
  refine List.mem_append_right _ (List.mem_append_left _ (List.mem_flatMap.mpr ⟨b, List.mem_range.mpr h, ?_⟩))
  rcases (show j = 0 ∨ j = 1 ∨ j = 2 ∨ j = 3 ∨ j = 4 ∨ j = 5 by omega) with rfl | rfl | rfl | rfl | rfl | rfl <;> simp
theorem cids_b0 {C : cM} {b : Nat} (h : b < cN C) : 64 + 8 * b ∈ cids C := cids_b h 0 (by decide)
theorem cids_m {C : cM} {k : Nat} (hk : k < 256) (h : cE C k = true) : 256 + k ∈ cids C := by
  refine List.mem_append_right _ (List.mem_append_right _ (List.mem_map.mpr ⟨k, List.mem_filter.mpr ⟨List.mem_range.mpr hk, h⟩, rfl⟩))
theorem ckind_b {b : Nat} (h : b < 16) : ckind (64 + 8 * b) = 9 := by
  unfold ckind; rw [if_neg (by omega), if_pos (by omega), if_pos (by omega)]
theorem ckind_ba {b j : Nat} (h : b < 16) (h1 : 1 ≤ j) (hj : j < 6) : ckind (64 + 8 * b + j) = 7 := by
  unfold ckind; rw [if_neg (by omega), if_pos (by omega), if_neg (by omega)]
theorem ckind_m {k : Nat} : ckind (256 + k) = 10 := by
  unfold ckind; rw [if_neg (by omega), if_neg (by omega)]
theorem ilen_ba {b j : Nat} (hj : j < 6) : ilen (64 + 8 * b + j) = if j ≤ 2 then 24 else 40 := by
  unfold ilen; rw [if_neg (by omega), show (64 + 8 * b + j) % 8 = j by omega]
theorem cct_i {cA : Nat → ClassId} {ad : Nat → Nat} {C : cM} {i : Nat} (h : ckind i = 7) : cct cA ad C i = .inl (cA 0, ilen i, .inl (cI C i)) := by
  unfold cct; rw [if_pos h]
theorem cct_l {cA : Nat → ClassId} {ad : Nat → Nat} {C : cM} {i : Nat} (h : ckind i = 5) : cct cA ad C i = .inl (cA 1, llen i, .inr (.inl (cL C i))) := by
  unfold cct; rw [h]; rfl
theorem cct_o {cA : Nat → ClassId} {ad : Nat → Nat} {C : cM} {i kd : Nat} (h : ckind i = kd) (h2 : kd = 0 ∨ kd = 3 ∨ kd = 4 ∨ kd = 6 ∨ kd = 8 ∨ kd = 9 ∨ kd = 10) : cct cA ad C i = .inr (cci kd, cfs ad C i kd) := by
  unfold cct; rw [h]
  rcases h2 with rfl | rfl | rfl | rfl | rfl | rfl | rfl <;> rfl
theorem cI_st (C : cM) (i k : Nat) (v : Int32) : cI (cst C i k v) i = upd (cI C i) k v := st_same C.1 i k v
theorem cI_ne (C : cM) {i j : Nat} (k : Nat) (v : Int32) (h : j ≠ i) : cI (cst C i k v) j = cI C j := st_ne C.1 k v h
theorem cL_st (C : cM) (i k : Nat) (v : Int64) : cL (cstL C i k v) i = vp_updL (cL C i) k v := by simp [cL, cstL, va_up]
theorem cL_ne (C : cM) {i j : Nat} (k : Nat) (v : Int64) (h : j ≠ i) : cL (cstL C i k v) j = cL C j := by simp [cL, cstL, va_up, h]
theorem cfs_ne {ad : Nat → Nat} {C C' : cM} {j : Nat} (h1 : cI C' j = cI C j) (h2 : cL C' j = cL C j) (kd : Nat) : cfs ad C' j kd = cfs ad C j kd := by
  unfold cfs; rw [h1, h2]
theorem cct_ne {cA : Nat → ClassId} {ad : Nat → Nat} {C C' : cM} {j : Nat} (h1 : cI C' j = cI C j) (h2 : cL C' j = cL C j) (h3 : cN C' = cN C) (h4 : cE C' = cE C) : cct cA ad C' j = cct cA ad C j := by
  unfold cct cBs cMs
  rw [h1, h2, h3, h4, cfs_ne h1 h2]
theorem cct_up {cA : Nat → ClassId} {ad : Nat → Nat} {C C' : cM} {i : Nat} {e : va_E} (he : cct cA ad C' i = e) (h1 : ∀ j, j ≠ i → cI C' j = cI C j) (h2 : ∀ j, j ≠ i → cL C' j = cL C j) (h3 : cN C' = cN C) (h4 : cE C' = cE C) : va_up (cct cA ad C) i e = cct cA ad C' := by
  funext j
  by_cases hj : j = i
  · subst hj
    simp [va_up, he]
  · have e1 : va_up (cct cA ad C) i e j = cct cA ad C j := by simp [va_up, hj]
    rw [e1, cct_ne (h1 j hj) (h2 j hj) h3 h4]
def cH (D : va_G) (cA : Nat → ClassId) (ad : Nat → Nat) (A : Nat → Prop) (H0 : Heap) (C : cM) (H : Heap) (locs : List Loc) : Prop := gH D A H0 (cws cA ad C) H locs
theorem cids_cst (C : cM) (i k : Nat) (v : Int32) : cids (cst C i k v) = cids C := rfl
theorem cids_cstL (C : cM) (i k : Nat) (v : Int64) : cids (cstL C i k v) = cids C := rfl
section CR
variable {p : Program} {l : Launch} {e : Env} {R : Room} {s : State} {m : MethodId} {args : Array Value} {below : List Frame} {meth : Method} {c : Code} {H : Heap} {locs : List Loc} {cells slots : Nat} {Z : State → Prop} {pc : Nat} {ls : Array Slot} {rest : List Value} {cc : ByteArray} {nL : Nat} {Ts : List Cond} {own : String} {D : va_G} {cA : Nat → ClassId} {A : Nat → Prop} {ad : Nat → Nat} {C : cM} {i : Nat}
theorem c_get (X : gX p s m args meth c D cA A cc nL Ts own) (h : cH D cA ad A s.heap C H locs) (hi : i ∈ cids C) (kd : Nat) (hk : ckind i = kd) (h2 : kd = 0 ∨ kd = 3 ∨ kd = 4 ∨ kd = 6 ∨ kd = 8 ∨ kd = 9 ∨ kd = 10) {ref cl : String} {T : u_T} {N index : Nat} (hc : vwCl[cci kd]? = some (cl, T, N)) (hin : ∀ w ∈ u_ws cl T N, w ∈ Ts) (k : Nat) (hkN : k < N) (hlink : Cond.fieldLink own index ref (T k).2.1 (T k).2.2.1 ∈ Ts) (hsame : (T k).1 = ref) {v : Value} (hv : (cfs ad C i kd)[k]? = some v) (hdg : decode cc pc = .ok (.getfield index, 3))
    (kk : W p l e R s m args below meth c H locs cells slots Z (F0 m (pc + 3) ls (v :: rest))) : W p l e R s m args below meth c H locs cells slots Z (F0 m pc ls (.ref (ad i) :: rest)) :=
  g_get X h hi (cct_o hk h2) hc hin k hkN hlink hsame hv hdg kk
theorem c_put (X : gX p s m args meth c D cA A cc nL Ts own) (h : cH D cA ad A s.heap C H locs) (hi : i ∈ cids C) (kd : Nat) (hk : ckind i = kd) (h2 : kd = 0 ∨ kd = 3 ∨ kd = 4 ∨ kd = 6 ∨ kd = 8 ∨ kd = 9 ∨ kd = 10) {ref cl : String} {T : u_T} {N index : Nat} (hc : vwCl[cci kd]? = some (cl, T, N)) (hin : ∀ w ∈ u_ws cl T N, w ∈ Ts) (ty0 : Nat → FieldType) (hty : ∀ k, k < N → parseFieldDescriptor (T k).2.2.1 = some (ty0 k)) (hnm : ∀ a, a < N → ∀ b, b < N → a ≠ b → (T a).2.1 ≠ (T b).2.1) (k : Nat) (hkN : k < N) (hlink : Cond.fieldLink own index ref (T k).2.1 (T k).2.2.1 ∈ Ts) (hsame : (T k).1 = ref) (hfin : (T k).2.2.2 = false) {v : Int32} (hn : narrow (ty0 k) (.int v) = .int v) (hfit : fits (ty0 k) (.int v) = true) (hl : k < (cfs ad C i kd).length) (hs : ∀ (f : Nat → Int32) (g : Nat → Int64), (cfsR ad i f g kd).set k (.int v) = cfsR ad i (upd f k v) g kd) (hdg : decode cc pc = .ok (.putfield index, 3))
    (kk : ∀ (C1 : cM), C1 = cst C i k v → ∀ (H1 : Heap) (locs1 : List Loc), cH D cA ad A s.heap C1 H1 locs1 → W p l e R s m args below meth c H1 locs1 cells slots Z (F0 m (pc + 3) ls rest)) : W p l e R s m args below meth c H locs cells slots Z (F0 m pc ls (.int v :: .ref (ad i) :: rest)) := by
  refine g_put X h hi (cct_o hk h2) hc hin ty0 hty hnm k hkN hlink hsame hfin hn hfit hl hdg (fun H1 locs1 h1 => ?_)
  have hs2 : (cfs ad C i kd).set k (.int v) = cfs ad (cst C i k v) i kd := by unfold cfs; rw [hs, cI_st]; rfl
  rw [hs2, cct_up (C := C) (C' := cst C i k v) (cct_o hk h2) (fun j hj => cI_ne C k v hj) (fun _ _ => rfl) rfl rfl] at h1
  exact kk _ rfl H1 locs1 h1
theorem c_putL (X : gX p s m args meth c D cA A cc nL Ts own) (h : cH D cA ad A s.heap C H locs) (hi : i ∈ cids C) (kd : Nat) (hk : ckind i = kd) (h2 : kd = 0 ∨ kd = 3 ∨ kd = 4 ∨ kd = 6 ∨ kd = 8 ∨ kd = 9 ∨ kd = 10) {ref cl : String} {T : u_T} {N index : Nat} (hc : vwCl[cci kd]? = some (cl, T, N)) (hin : ∀ w ∈ u_ws cl T N, w ∈ Ts) (ty0 : Nat → FieldType) (hty : ∀ k, k < N → parseFieldDescriptor (T k).2.2.1 = some (ty0 k)) (hnm : ∀ a, a < N → ∀ b, b < N → a ≠ b → (T a).2.1 ≠ (T b).2.1) (k : Nat) (hkN : k < N) (hlink : Cond.fieldLink own index ref (T k).2.1 (T k).2.2.1 ∈ Ts) (hsame : (T k).1 = ref) (hfin : (T k).2.2.2 = false) {v : Int64} (hn : narrow (ty0 k) (.long v) = .long v) (hfit : fits (ty0 k) (.long v) = true) (hl : k < (cfs ad C i kd).length) (hs : ∀ (f : Nat → Int32) (g : Nat → Int64), (cfsR ad i f g kd).set k (.long v) = cfsR ad i f (vp_updL g k v) kd) (hdg : decode cc pc = .ok (.putfield index, 3))
    (kk : ∀ (C1 : cM), C1 = cstL C i k v → ∀ (H1 : Heap) (locs1 : List Loc), cH D cA ad A s.heap C1 H1 locs1 → W p l e R s m args below meth c H1 locs1 cells slots Z (F0 m (pc + 3) ls rest)) : W p l e R s m args below meth c H locs cells slots Z (F0 m pc ls (.long v :: .ref (ad i) :: rest)) := by
  refine g_put X h hi (cct_o hk h2) hc hin ty0 hty hnm k hkN hlink hsame hfin hn hfit hl hdg (fun H1 locs1 h1 => ?_)
  have hs2 : (cfs ad C i kd).set k (.long v) = cfs ad (cstL C i k v) i kd := by unfold cfs; rw [hs, cL_st]; rfl
  rw [hs2, cct_up (C := C) (C' := cstL C i k v) (cct_o hk h2) (fun _ _ => rfl) (fun j hj => cL_ne C k v hj) rfl rfl] at h1
  exact kk _ rfl H1 locs1 h1
theorem c_iald (X : gX p s m args meth c D cA A cc nL Ts own) (h : cH D cA ad A s.heap C H locs) (hi : i ∈ cids C) (hk : ckind i = 7) {n : Nat} (hn : ilen i = n) {j : Int32} (hj : vp_in j n) (hdg : decode cc pc = .ok (.iaload, 1))
    (kk : W p l e R s m args below meth c H locs cells slots Z (F0 m (pc + 1) ls (.int (cI C i j.toNatClampNeg) :: rest))) : W p l e R s m args below meth c H locs cells slots Z (F0 m pc ls (.int j :: .ref (ad i) :: rest)) :=
  g_iald X h hi (cct_i hk) (by rw [hn]; exact hj) hdg kk
theorem c_lald (X : gX p s m args meth c D cA A cc nL Ts own) (h : cH D cA ad A s.heap C H locs) (hi : i ∈ cids C) (hk : ckind i = 5) {n : Nat} (hn : llen i = n) {j : Int32} (hj : vp_in j n) (hdg : decode cc pc = .ok (.laload, 1))
    (kk : W p l e R s m args below meth c H locs cells slots Z (F0 m (pc + 1) ls (.long (cL C i j.toNatClampNeg) :: rest))) : W p l e R s m args below meth c H locs cells slots Z (F0 m pc ls (.int j :: .ref (ad i) :: rest)) :=
  g_lald X h hi (cct_l hk) (by rw [hn]; exact hj) hdg kk
theorem c_iast (X : gX p s m args meth c D cA A cc nL Ts own) (h : cH D cA ad A s.heap C H locs) (hi : i ∈ cids C) (hk : ckind i = 7) {n : Nat} (hn : ilen i = n) {j x : Int32} (hj : vp_in j n) (hdg : decode cc pc = .ok (.iastore, 1))
    (kk : ∀ (C1 : cM), C1 = cst C i j.toNatClampNeg x → ∀ (H1 : Heap) (locs1 : List Loc), cH D cA ad A s.heap C1 H1 locs1 → W p l e R s m args below meth c H1 locs1 cells slots Z (F0 m (pc + 1) ls rest)) : W p l e R s m args below meth c H locs cells slots Z (F0 m pc ls (.int x :: .int j :: .ref (ad i) :: rest)) := by
  refine g_iast X h hi (cct_i hk) (by rw [hn]; exact hj) hdg (fun H1 locs1 h1 => ?_)
  rw [cct_up (C := C) (C' := cst C i j.toNatClampNeg x) (by rw [cct_i hk, cI_st]) (fun j hj => cI_ne C _ x hj) (fun _ _ => rfl) rfl rfl] at h1
  exact kk _ rfl H1 locs1 h1
theorem c_last (X : gX p s m args meth c D cA A cc nL Ts own) (h : cH D cA ad A s.heap C H locs) (hi : i ∈ cids C) (hk : ckind i = 5) {n : Nat} (hn : llen i = n) {j : Int32} {x : Int64} (hj : vp_in j n) (hdg : decode cc pc = .ok (.lastore, 1))
    (kk : ∀ (C1 : cM), C1 = cstL C i j.toNatClampNeg x → ∀ (H1 : Heap) (locs1 : List Loc), cH D cA ad A s.heap C1 H1 locs1 → W p l e R s m args below meth c H1 locs1 cells slots Z (F0 m (pc + 1) ls rest)) : W p l e R s m args below meth c H locs cells slots Z (F0 m pc ls (.long x :: .int j :: .ref (ad i) :: rest)) := by
  refine g_last X h hi (cct_l hk) (by rw [hn]; exact hj) hdg (fun H1 locs1 h1 => ?_)
  rw [cct_up (C := C) (C' := cstL C i j.toNatClampNeg x) (by rw [cct_l hk, cL_st]) (fun _ _ => rfl) (fun j hj => cL_ne C _ x hj) rfl rfl] at h1
  exact kk _ rfl H1 locs1 h1
theorem c_alenI (X : gX p s m args meth c D cA A cc nL Ts own) (h : cH D cA ad A s.heap C H locs) (hi : i ∈ cids C) (hk : ckind i = 7) {v : Int32} (hv : Int32.ofNat (ilen i) = v) (hdg : decode cc pc = .ok (.arraylength, 1))
    (kk : W p l e R s m args below meth c H locs cells slots Z (F0 m (pc + 1) ls (.int v :: rest))) : W p l e R s m args below meth c H locs cells slots Z (F0 m pc ls (.ref (ad i) :: rest)) :=
  g_alen X h hi 0 (cct_i hk) rfl hv hdg kk
theorem c_alenL (X : gX p s m args meth c D cA A cc nL Ts own) (h : cH D cA ad A s.heap C H locs) (hi : i ∈ cids C) (hk : ckind i = 5) {v : Int32} (hv : Int32.ofNat (llen i) = v) (hdg : decode cc pc = .ok (.arraylength, 1))
    (kk : W p l e R s m args below meth c H locs cells slots Z (F0 m (pc + 1) ls (.int v :: rest))) : W p l e R s m args below meth c H locs cells slots Z (F0 m pc ls (.ref (ad i) :: rest)) :=
  g_alen X h hi 1 (cct_l hk) rfl hv hdg kk
end CR
