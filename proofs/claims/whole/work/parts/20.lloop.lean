/-! THE CLAIM OUT OF ONE WALK OF THE LAW'S BODY. Your part is whole_start (and what it stands on); all else here is the same for every law, but numbers. -/
def R_law : String := "RidgeBooksLaw"
def lw_P (b : Addr) (xs : List Int32) (args : Array Value) (s : State) : Prop := args = #[.ref b] ∧ s.IntsAt b xs ∧ xs.length ≤ 3072 ∧ (Jvm.Cond.and given_1 narrow_1).before args s = true
def lw_Q (_ : Array Value) (s : State) (o : Outcome) (t : State) : Prop := o = .returned (some (.int 1)) ∧ Framed s o t [] 600000 7302250
def lw_Z (below : List Frame) (a : Array Value) (s : State) : State → Prop := fun t => ∃ o, t.status = .running ∧ Ended t below o ∧ lw_Q a s o t
/-- the law's own end, with 1 on the stack, nothing written that was there before, its room as the claim has it -/
theorem lw_ret {p : Program} {l : Launch} {e : Env} {s : State} {m : MethodId} {below : List Frame} {meth : Method} {c : Code} {b : Nat} (hx : p.tables.exec = Jvm.exec) (hb : c.code = code) (hr : meth.sig.returnType = ret) (hlocks : meth.locks = false) {pc : Nat} {H : Heap} {ls : Array Slot} (hdg : decode code pc = .ok (.ireturn, 1)) : W p l e room_1 s m #[Value.ref b] below meth c H [] 600000 7302250 (lw_Z below #[Value.ref b] s) (F0 m pc ls [.int 1]) := by
  intro T hT X
  obtain ⟨fs, hret, hrun, hended, hW, hframe⟩ := X.leave (v := some (.int 1)) (hlocks := hlocks) (fun h => by rw [hr] at h; cases h)
  have hmeth' : T.vm.method? m = some meth := X.method'
  refine ⟨T.setFrames fs, ?_, .returned (some (.int 1)), hrun, hended, rfl, ⟨_, rfl⟩, hW, hframe⟩
  jvm_step X.here [X.here.top, hx, hb, hdg, hmeth', hr, ret, narrow_b1]
  (try refine ⟨rfl, ?_⟩); (try refine ⟨rfl, ?_⟩)
  first | (intro acts; rw [hret _ acts rfl rfl rfl]) | rw [hret _ _ rfl rfl rfl]
  exact Steps.refl _
/-- what holds at the law's entry: the machine, the code, the tables' words (any of lw_tbl by 'hts w (by decide +kernel)'), the script of L ints xs at the cell b, what the Statement gives of the start (any of its parts by flat_of_before) -/
def lw_At (p : Program) (s : State) (m : MethodId) (meth : Method) (c : Code) (b L : Nat) (xs : Nat → Int32) : Prop :=
  p.tables.exec = Jvm.exec ∧ c.code = code ∧ meth.sig.returnType = ret ∧ c.maxLocals = 4 ∧ s.vm.findClass R_law = some m.cls ∧ (∀ w ∈ lw_tbl, w.before #[Value.ref b] s = true) ∧ va_X b L xs s s.heap ∧ b < s.heap.size ∧ meth.locks = false ∧ (Jvm.Cond.and given_1 narrow_1).before #[Value.ref b] s = true
def LS_print (Rel : Nat → cM → mM → Prop) (n : Nat) : Prop := ∀ (t : Nat), t < 512 → ∀ (C : cM) (M : mM), Rel t C M → wpX6_print n C (fun r C1 => wpX7_print n M (fun r1 M1 => r = r1 ∧ Rel (t + 1) C1 M1))
def LS_row (Rel : Nat → cM → mM → Prop) (n : Nat) : Prop := ∀ (t : Nat), t < 512 → ∀ (C : cM) (M : mM) (x1 : Int32) (x2 : Int32) (x3 : Int32), Rel t C M → wpX6_row n x1 x2 x3 C (fun r C1 => wpX7_row n x1 x2 x3 M (fun r1 M1 => r = r1 ∧ Rel (t + 1) C1 M1))
def LS_cell (Rel : Nat → cM → mM → Prop) (n : Nat) : Prop := ∀ (t : Nat), t < 512 → ∀ (C : cM) (M : mM) (x1 : Int32) (x2 : Int32) (x3 : Int32) (x4 : Int32), Rel t C M → wpX6_cell n x1 x2 x3 x4 C (fun r C1 => wpX7_cell n x1 x2 x3 x4 M (fun r1 M1 => r = r1 ∧ Rel (t + 1) C1 M1))
def LS_thin (Rel : Nat → cM → mM → Prop) (n : Nat) : Prop := ∀ (t : Nat), t < 512 → ∀ (C : cM) (M : mM) (x1 : Int32) (x2 : Int32), Rel t C M → wpX6_thin n x1 x2 C (fun r C1 => wpX7_thin n x1 x2 M (fun r1 M1 => r = r1 ∧ Rel (t + 1) C1 M1))
def LS_mark (Rel : Nat → cM → mM → Prop) (n : Nat) : Prop := ∀ (t : Nat), t < 512 → ∀ (C : cM) (M : mM) (x1 : Int32) (x2 : Int32) (x3 : Int32), Rel t C M → wpX6_mark n x1 x2 x3 C (fun r C1 => wpX7_mark n x1 x2 x3 M (fun r1 M1 => r = r1 ∧ Rel (t + 1) C1 M1))
def LS_within (Rel : Nat → cM → mM → Prop) (n : Nat) : Prop := ∀ (t : Nat), t < 512 → ∀ (C : cM) (M : mM) (x1 : Int32), Rel t C M → wpX6_within n x1 C (fun r C1 => wpX7_within n x1 M (fun r1 M1 => r = r1 ∧ Rel (t + 1) C1 M1))
def LS_pairs (Rel : Nat → cM → mM → Prop) (n : Nat) : Prop := ∀ (t : Nat), t < 512 → ∀ (C : cM) (M : mM) (x1 : Int32) (x2 : Int32) (x3 : Int32) (x4 : Int32) (x5 : Int32), Rel t C M → wpX6_pairs n x1 x2 x3 x4 x5 C (fun r C1 => wpX7_pairs n x1 x2 x3 x4 x5 M (fun r1 M1 => r = r1 ∧ Rel (t + 1) C1 M1))
def LS_best (Rel : Nat → cM → mM → Prop) (n : Nat) : Prop := ∀ (t : Nat), t < 512 → ∀ (C : cM) (M : mM) (x1 : Int32) (x2 : Int32) (x3 : Int32), Rel t C M → wpX6_best n x1 x2 x3 C (fun r C1 => wpX7_best n x1 x2 x3 M (fun r1 M1 => r = r1 ∧ Rel (t + 1) C1 M1))
def LS_bound (Rel : Nat → cM → mM → Prop) (n : Nat) : Prop := ∀ (t : Nat), t < 512 → ∀ (C : cM) (M : mM) (x1 : Int32) (x2 : Int32), Rel t C M → wpX6_bound n x1 x2 C (fun r C1 => wpX7_bound n x1 x2 M (fun r1 M1 => r = r1 ∧ Rel (t + 1) C1 M1))
def LS_seek (Rel : Nat → cM → mM → Prop) (n : Nat) : Prop := ∀ (t : Nat), t < 512 → ∀ (C : cM) (M : mM) (x1 : Int32) (x2 : Int32), Rel t C M → wpX6_seek n x1 x2 C (fun r C1 => wpX7_seek n x1 x2 M (fun r1 M1 => r = r1 ∧ Rel (t + 1) C1 M1))
def LS_chance (Rel : Nat → cM → mM → Prop) (n : Nat) : Prop := ∀ (t : Nat), t < 512 → ∀ (C : cM) (M : mM) (x1 : Int32) (x2 : Int32) (x3 : Int32), Rel t C M → wpX6_chance n x1 x2 x3 C (fun r C1 => wpX7_chance n x1 x2 x3 M (fun r1 M1 => r = r1 ∧ Rel (t + 1) C1 M1))
def LS_join (Rel : Nat → cM → mM → Prop) (n : Nat) : Prop := ∀ (t : Nat), t < 512 → ∀ (C : cM) (M : mM) (x1 : Int32) (x2 : Int32), Rel t C M → wpX6_join n x1 x2 C (fun r C1 => wpX7_join n x1 x2 M (fun r1 M1 => r = r1 ∧ Rel (t + 1) C1 M1))
def LS_count (Rel : Nat → cM → mM → Prop) (n : Nat) : Prop := ∀ (t : Nat), t < 512 → ∀ (C : cM) (M : mM) (x1 : Int32), Rel t C M → wpX6_count n x1 C (fun r C1 => wpX7_count n x1 M (fun r1 M1 => r = r1 ∧ Rel (t + 1) C1 M1))
def LS_status (Rel : Nat → cM → mM → Prop) (n : Nat) : Prop := ∀ (t : Nat), t < 512 → ∀ (C : cM) (M : mM), Rel t C M → wpX6_status n C (fun r C1 => wpX7_status n M (fun r1 M1 => r = r1 ∧ Rel (t + 1) C1 M1))
/-- what is left to show of the two: every call answers alike, and they stay alike -/
def LawStep (Rel : Nat → cM → mM → Prop) (n : Nat) : Prop := LS_print Rel n ∧ LS_row Rel n ∧ LS_cell Rel n ∧ LS_thin Rel n ∧ LS_mark Rel n ∧ LS_within Rel n ∧ LS_pairs Rel n ∧ LS_best Rel n ∧ LS_bound Rel n ∧ LS_seek Rel n ∧ LS_chance Rel n ∧ LS_join Rel n ∧ LS_count Rel n ∧ LS_status Rel n ∧ ∀ (t : Nat) (C : cM) (M : mM), Rel t C M → Rel (t + 1) C M
theorem ls_print {Rel : Nat → cM → mM → Prop} {n : Nat} (h : LawStep Rel n) : LS_print Rel n := h.1
theorem ls_row {Rel : Nat → cM → mM → Prop} {n : Nat} (h : LawStep Rel n) : LS_row Rel n := h.2.1
theorem ls_cell {Rel : Nat → cM → mM → Prop} {n : Nat} (h : LawStep Rel n) : LS_cell Rel n := h.2.2.1
theorem ls_thin {Rel : Nat → cM → mM → Prop} {n : Nat} (h : LawStep Rel n) : LS_thin Rel n := h.2.2.2.1
theorem ls_mark {Rel : Nat → cM → mM → Prop} {n : Nat} (h : LawStep Rel n) : LS_mark Rel n := h.2.2.2.2.1
theorem ls_within {Rel : Nat → cM → mM → Prop} {n : Nat} (h : LawStep Rel n) : LS_within Rel n := h.2.2.2.2.2.1
theorem ls_pairs {Rel : Nat → cM → mM → Prop} {n : Nat} (h : LawStep Rel n) : LS_pairs Rel n := h.2.2.2.2.2.2.1
theorem ls_best {Rel : Nat → cM → mM → Prop} {n : Nat} (h : LawStep Rel n) : LS_best Rel n := h.2.2.2.2.2.2.2.1
theorem ls_bound {Rel : Nat → cM → mM → Prop} {n : Nat} (h : LawStep Rel n) : LS_bound Rel n := h.2.2.2.2.2.2.2.2.1
theorem ls_seek {Rel : Nat → cM → mM → Prop} {n : Nat} (h : LawStep Rel n) : LS_seek Rel n := h.2.2.2.2.2.2.2.2.2.1
theorem ls_chance {Rel : Nat → cM → mM → Prop} {n : Nat} (h : LawStep Rel n) : LS_chance Rel n := h.2.2.2.2.2.2.2.2.2.2.1
theorem ls_join {Rel : Nat → cM → mM → Prop} {n : Nat} (h : LawStep Rel n) : LS_join Rel n := h.2.2.2.2.2.2.2.2.2.2.2.1
theorem ls_count {Rel : Nat → cM → mM → Prop} {n : Nat} (h : LawStep Rel n) : LS_count Rel n := h.2.2.2.2.2.2.2.2.2.2.2.2.1
theorem ls_status {Rel : Nat → cM → mM → Prop} {n : Nat} (h : LawStep Rel n) : LS_status Rel n := h.2.2.2.2.2.2.2.2.2.2.2.2.2.1
theorem ls_skip {Rel : Nat → cM → mM → Prop} {n : Nat} (h : LawStep Rel n) : ∀ (t : Nat) (C : cM) (M : mM), Rel t C M → Rel (t + 1) C M := h.2.2.2.2.2.2.2.2.2.2.2.2.2.2
theorem sw_out13 {x : Int32} (h0 : ¬ x = 0) (h1 : ¬ x = 1) (h2 : ¬ x = 2) (h3 : ¬ x = 3) (h4 : ¬ x = 4) (h5 : ¬ x = 5) (h6 : ¬ x = 6) (h7 : ¬ x = 7) (h8 : ¬ x = 8) (h9 : ¬ x = 9) (h10 : ¬ x = 10) (h11 : ¬ x = 11) (h12 : ¬ x = 12) (h13 : ¬ x = 13) : x.toInt < 0 ∨ 13 < x.toInt := by
  have a0 : x.toInt ≠ 0 := tsw_ne h0
  have a1 : x.toInt ≠ 1 := tsw_ne h1
  have a2 : x.toInt ≠ 2 := tsw_ne h2
  have a3 : x.toInt ≠ 3 := tsw_ne h3
  have a4 : x.toInt ≠ 4 := tsw_ne h4
  have a5 : x.toInt ≠ 5 := tsw_ne h5
  have a6 : x.toInt ≠ 6 := tsw_ne h6
  have a7 : x.toInt ≠ 7 := tsw_ne h7
  have a8 : x.toInt ≠ 8 := tsw_ne h8
  have a9 : x.toInt ≠ 9 := tsw_ne h9
  have a10 : x.toInt ≠ 10 := tsw_ne h10
  have a11 : x.toInt ≠ 11 := tsw_ne h11
  have a12 : x.toInt ≠ 12 := tsw_ne h12
  have a13 : x.toInt ≠ 13 := tsw_ne h13
  omega
set_option maxHeartbeats 8000000 in
set_option maxRecDepth 100000 in
theorem law_loop {p : Program} {l : Launch} {e : Env} {s : State} {m : MethodId} {below : List Frame} {meth : Method} {c : Code} {D : va_G} {cA : Nat → ClassId} {b L : Nat} {xs : Nat → Int32} {Rel : Nat → cM → mM → Prop} {n : Nat} (hst : LawStep Rel n) (hL : L ≤ 3072) (C0 : lw_At p s m meth c b L xs) (hK : va_K D vwCl (tysA cA) s) (hN : cNw s) :
    ∀ (k t : Nat), 6 * t ≤ L → L + 6 ≤ 6 * t + 6 * k → ∀ (ad am : Nat → Nat) (C : cM) (M : mM) (H : Heap) (locs : List Loc) (ls : Array Slot), Rel t C M → gH D (fun q : Nat => s.heap.size ≤ q) s.heap (cws cA ad C ++ mws cA am M) H locs → lv_has ls 4 [(0, .ref b), (1, .ref (ad 0)), (2, .ref (am 0)), (3, .int (nI (6 * t)))] → W p l e room_1 s m #[Value.ref b] below meth c H locs (37 + 16 * t) (6361 + 177 * t) (lw_Z below #[Value.ref b] s) (F0 m 18 ls []) := by
  obtain ⟨hx, hb, hr, hml, hown, hts0, hX, hbl, hlocks, hgv⟩ := C0
  have hts : ∀ w ∈ wsL_law, w.before #[Value.ref b] s = true := fun w h => hts0 w (wsL_law_in w h)
  have hA : ∀ q : Nat, s.heap.size ≤ q → (fun q : Nat => s.heap.size ≤ q) q := fun _ h => h
  have hbA : ¬ (fun q : Nat => s.heap.size ≤ q) b := Nat.not_le.mpr hbl
  have X : gX p s m #[Value.ref b] meth c D cA (fun q : Nat => s.heap.size ≤ q) cL_law 4 wsL_law RL := ⟨hx, hb, hml, hown, hts, hK, hA⟩
  intro k
  induction k with
  | zero =>
    intro t h1 h2
    exact absurd h2 (by omega)
  | succ k ih =>
    intro t h1 h2 ad am C M H locs ls hR h hl
    refine lv_iload_n hx hb dL_law_18 rfl (lv_at hl 3 rfl) ?_
    refine lv_aload_n hx hb dL_law_19 rfl (lv_at hl 0 rfl) ?_
    refine va_slen hx hb hX hbl hbA h.2.2 dL_law_20 ?_
    refine lv_bipush (v := 6) hx hb dL_law_21 (by decide) ?_
    refine lv_isub hx hb dL_law_23 ?_
    have hcmp : (nI L - 6 < nI (6 * t)) ↔ L < 6 * t + 6 := by
      rw [Int32.lt_iff_toInt_lt, show (nI L - 6 : Int32) = nI L - nI 6 from rfl, pk_sub_toInt (by omega) (by omega), nI_toInt (by omega)]
      omega
    refine lv_icmp_gt (tgt := 603) hx hb dL_law_24 (by decide) (fun c24 => ?_) (fun c24 => ?_)
    · refine lv_iconst (v := 1) hx hb dL_law_603 (by decide) ?_
      refine va_forget (fun q hq => h.2.2.2.2 q hq) ?_
      refine W.widen (k := 600000) (n := 7302250) (by omega) (by omega) ?_
      exact lw_ret hx hb hr hlocks dL_law_604
    · have hlt : 6 * t + 6 ≤ L := by
        rcases Nat.lt_or_ge L (6 * t + 6) with q | q
        · exact absurd (hcmp.mpr q) c24
        · exact q
      have hT : t < 512 := by omega
      have hv0 : vp_in (nI (6 * t)) L := vp_in_nI (by omega) (by omega)
      have hv1 : vp_in (nI (6 * t) + 1) L := by rw [show (nI (6 * t) + 1 : Int32) = nI (6 * t + 1) from nI_add _ _]; exact vp_in_nI (by omega) (by omega)
      have hv2 : vp_in (nI (6 * t) + 2) L := by rw [show (nI (6 * t) + 2 : Int32) = nI (6 * t + 2) from nI_add _ _]; exact vp_in_nI (by omega) (by omega)
      have hv3 : vp_in (nI (6 * t) + 3) L := by rw [show (nI (6 * t) + 3 : Int32) = nI (6 * t + 3) from nI_add _ _]; exact vp_in_nI (by omega) (by omega)
      have hv4 : vp_in (nI (6 * t) + 4) L := by rw [show (nI (6 * t) + 4 : Int32) = nI (6 * t + 4) from nI_add _ _]; exact vp_in_nI (by omega) (by omega)
      have hv5 : vp_in (nI (6 * t) + 5) L := by rw [show (nI (6 * t) + 5 : Int32) = nI (6 * t + 5) from nI_add _ _]; exact vp_in_nI (by omega) (by omega)
      have hJ : ∀ (ad am : Nat → Nat) (C : cM) (M : mM) (H : Heap) (locs : List Loc) (ls : Array Slot), Rel (t + 1) C M → gH D (fun q : Nat => s.heap.size ≤ q) s.heap (cws cA ad C ++ mws cA am M) H locs → lv_has ls 4 [(0, .ref b), (1, .ref (ad 0)), (2, .ref (am 0)), (3, .int (nI (6 * t)))] → W p l e room_1 s m #[Value.ref b] below meth c H locs (37 + 16 * (t + 1)) (6361 + 177 * (t + 1)) (lw_Z below #[Value.ref b] s) (F0 m 597 ls []) := by
        intro ad am C M H locs ls hR h hl
        refine lv_iinc (v := nI (6 * (t + 1))) (lv' := [(3, .int (nI (6 * (t + 1)))), (0, .ref b), (1, .ref (ad 0)), (2, .ref (am 0))]) hx hb dL_law_597 hl (k := 3) rfl (nI_add _ _) (by decide) rfl (fun ls hl => ?_)
        refine lv_goto (tgt := 18) hx hb dL_law_600 (by decide) ?_
        exact ih (t + 1) (by omega) (by omega) ad am C M H locs ls hR h (lv_sub hl [1, 2, 3, 0] rfl)
      refine lv_aload_n hx hb dL_law_27 rfl (lv_at hl 0 rfl) ?_
      refine lv_iload_n hx hb dL_law_28 rfl (lv_at hl 3 rfl) ?_
      refine va_sld hx hb hX hbl hbA h.2.2 hv0 dL_law_29 ?_
      refine lv_bipush (v := 15) hx hb dL_law_30 (by decide) ?_
      refine lv_iand hx hb dL_law_32 ?_
      refine lv_topi (fun sw esw => ?_)
      by_cases c0 : sw = 0
      · refine lv_tableIn (off := 71) (tgt := 104) hx hb dL_law_33 (by rw [c0]; decide) (by rw [c0]; decide) (by rw [c0]; rfl) (by decide) ?_
        refine lv_aload_n hx hb dL_law_104 rfl (lv_at hl 1 rfl) ?_
        have hw := (ls_print hst) t hT C M hR
        refine l_goi (fun u : (Nat → Nat) × cM => cws cA u.1 u.2) hA h (l_runC (n := 0) X hN h (qX6_print l D cA n ad _ _ _ hw) gL_law_X6_print hl.1 dL_law_105 rfl rfl rfl (by decide +kernel) ⟨Nat.le_of_ble_eq_true rfl, Nat.le_of_ble_eq_true rfl⟩ rfl rfl (Nat.le_of_ble_eq_true rfl) ⟨(by show 37 + 16 * t + 6 ≤ 600000; omega), (by show 6361 + 177 * t + 177 ≤ 7302250; omega)⟩) (fun u t hB => ⟨hB.2.1, hB.2.2.2⟩) (fun r u t0 H locs hw hB h => ?_)
        obtain ⟨ad1, C1⟩ := u
        have e0 : ad1 0 = ad 0 := hB.1.1
        have hl : lv_has ls 4 [(0, .ref b), (1, .ref (ad1 0)), (2, .ref (am 0)), (3, .int (nI (6 * t)))] := by rw [e0]; exact hl
        clear e0
        refine W.widen (k := 37 + 16 * (t + 1)) (n := 6361 + 177 * (t + 1)) (by omega) (by omega) ?_
        refine lv_aload_n hx hb dL_law_108 rfl (lv_at hl 2 rfl) ?_
        refine l_goi (fun u : mM => mws cA am u) hA h (l_runM (n := 0) X h (qX7_print l D cA n am _ _ _ hw) gL_law_X7_print hl.1 dL_law_109 rfl rfl rfl (by decide +kernel) ⟨Nat.le_of_ble_eq_true rfl, Nat.le_of_ble_eq_true rfl⟩ rfl rfl (Nat.le_of_ble_eq_true rfl) ⟨(by show 37 + 16 * (t + 1) + 0 ≤ 600000; omega), (by show 6361 + 177 * (t + 1) + 0 ≤ 7302250; omega)⟩) (fun u t hB => ⟨hB.1, hB.2.2⟩) (fun r1 M1 t0 H locs hw hB h => ?_)
        refine lv_icmp_eq (tgt := 597) hx hb dL_law_112 (by decide) (fun _ => ?_) (fun z => absurd hw.1 z)
        exact hJ ad1 am C1 M1 _ _ ls hw.2 h hl
      · skip
        by_cases c1 : sw = 1
        · refine lv_tableIn (off := 84) (tgt := 117) hx hb dL_law_33 (by rw [c1]; decide) (by rw [c1]; decide) (by rw [c1]; rfl) (by decide) ?_
          refine lv_aload_n hx hb dL_law_117 rfl (lv_at hl 1 rfl) ?_
          refine lv_aload_n hx hb dL_law_118 rfl (lv_at hl 0 rfl) ?_
          refine lv_iload_n hx hb dL_law_119 rfl (lv_at hl 3 rfl) ?_
          refine lv_iconst (v := 1) hx hb dL_law_120 (by decide) ?_
          refine lv_iadd hx hb dL_law_121 ?_
          refine va_sld hx hb hX hbl hbA h.2.2 hv1 dL_law_122 ?_
          refine lv_aload_n hx hb dL_law_123 rfl (lv_at hl 0 rfl) ?_
          refine lv_iload_n hx hb dL_law_124 rfl (lv_at hl 3 rfl) ?_
          refine lv_iconst (v := 2) hx hb dL_law_125 (by decide) ?_
          refine lv_iadd hx hb dL_law_126 ?_
          refine va_sld hx hb hX hbl hbA h.2.2 hv2 dL_law_127 ?_
          refine lv_aload_n hx hb dL_law_128 rfl (lv_at hl 0 rfl) ?_
          refine lv_iload_n hx hb dL_law_129 rfl (lv_at hl 3 rfl) ?_
          refine lv_iconst (v := 3) hx hb dL_law_130 (by decide) ?_
          refine lv_iadd hx hb dL_law_131 ?_
          refine va_sld hx hb hX hbl hbA h.2.2 hv3 dL_law_132 ?_
          have hw := (ls_row hst) t hT C M (xs (nI (6 * t) + 1).toNatClampNeg) (xs (nI (6 * t) + 2).toNatClampNeg) (xs (nI (6 * t) + 3).toNatClampNeg) hR
          refine l_goi (fun u : cM => cws cA ad u) hA h (l_runC (n := 3) X hN h (qX6_row l D cA n (xs (nI (6 * t) + 1).toNatClampNeg) (xs (nI (6 * t) + 2).toNatClampNeg) (xs (nI (6 * t) + 3).toNatClampNeg) ad _ _ _ hw) gL_law_X6_row hl.1 dL_law_133 rfl rfl rfl (by decide +kernel) ⟨Nat.le_of_ble_eq_true rfl, Nat.le_of_ble_eq_true rfl⟩ rfl rfl (Nat.le_of_ble_eq_true rfl) ⟨(by show 37 + 16 * t + 0 ≤ 600000; omega), (by show 6361 + 177 * t + 0 ≤ 7302250; omega)⟩) (fun u t hB => ⟨hB.1, hB.2.2⟩) (fun r C1 t0 H locs hw hB h => ?_)
          refine W.widen (k := 37 + 16 * (t + 1)) (n := 6361 + 177 * (t + 1)) (by omega) (by omega) ?_
          refine lv_aload_n hx hb dL_law_136 rfl (lv_at hl 2 rfl) ?_
          refine lv_aload_n hx hb dL_law_137 rfl (lv_at hl 0 rfl) ?_
          refine lv_iload_n hx hb dL_law_138 rfl (lv_at hl 3 rfl) ?_
          refine lv_iconst (v := 1) hx hb dL_law_139 (by decide) ?_
          refine lv_iadd hx hb dL_law_140 ?_
          refine va_sld hx hb hX hbl hbA h.2.2 hv1 dL_law_141 ?_
          refine lv_aload_n hx hb dL_law_142 rfl (lv_at hl 0 rfl) ?_
          refine lv_iload_n hx hb dL_law_143 rfl (lv_at hl 3 rfl) ?_
          refine lv_iconst (v := 2) hx hb dL_law_144 (by decide) ?_
          refine lv_iadd hx hb dL_law_145 ?_
          refine va_sld hx hb hX hbl hbA h.2.2 hv2 dL_law_146 ?_
          refine lv_aload_n hx hb dL_law_147 rfl (lv_at hl 0 rfl) ?_
          refine lv_iload_n hx hb dL_law_148 rfl (lv_at hl 3 rfl) ?_
          refine lv_iconst (v := 3) hx hb dL_law_149 (by decide) ?_
          refine lv_iadd hx hb dL_law_150 ?_
          refine va_sld hx hb hX hbl hbA h.2.2 hv3 dL_law_151 ?_
          refine l_goi (fun u : mM => mws cA am u) hA h (l_runM (n := 3) X h (qX7_row l D cA n (xs (nI (6 * t) + 1).toNatClampNeg) (xs (nI (6 * t) + 2).toNatClampNeg) (xs (nI (6 * t) + 3).toNatClampNeg) am _ _ _ hw) gL_law_X7_row hl.1 dL_law_152 rfl rfl rfl (by decide +kernel) ⟨Nat.le_of_ble_eq_true rfl, Nat.le_of_ble_eq_true rfl⟩ rfl rfl (Nat.le_of_ble_eq_true rfl) ⟨(by show 37 + 16 * (t + 1) + 0 ≤ 600000; omega), (by show 6361 + 177 * (t + 1) + 0 ≤ 7302250; omega)⟩) (fun u t hB => ⟨hB.1, hB.2.2⟩) (fun r1 M1 t0 H locs hw hB h => ?_)
          refine lv_icmp_eq (tgt := 597) hx hb dL_law_155 (by decide) (fun _ => ?_) (fun z => absurd hw.1 z)
          exact hJ ad am C1 M1 _ _ ls hw.2 h hl
        · skip
          by_cases c2 : sw = 2
          · refine lv_tableIn (off := 127) (tgt := 160) hx hb dL_law_33 (by rw [c2]; decide) (by rw [c2]; decide) (by rw [c2]; rfl) (by decide) ?_
            refine lv_aload_n hx hb dL_law_160 rfl (lv_at hl 1 rfl) ?_
            refine lv_aload_n hx hb dL_law_161 rfl (lv_at hl 0 rfl) ?_
            refine lv_iload_n hx hb dL_law_162 rfl (lv_at hl 3 rfl) ?_
            refine lv_iconst (v := 1) hx hb dL_law_163 (by decide) ?_
            refine lv_iadd hx hb dL_law_164 ?_
            refine va_sld hx hb hX hbl hbA h.2.2 hv1 dL_law_165 ?_
            refine lv_aload_n hx hb dL_law_166 rfl (lv_at hl 0 rfl) ?_
            refine lv_iload_n hx hb dL_law_167 rfl (lv_at hl 3 rfl) ?_
            refine lv_iconst (v := 2) hx hb dL_law_168 (by decide) ?_
            refine lv_iadd hx hb dL_law_169 ?_
            refine va_sld hx hb hX hbl hbA h.2.2 hv2 dL_law_170 ?_
            refine lv_aload_n hx hb dL_law_171 rfl (lv_at hl 0 rfl) ?_
            refine lv_iload_n hx hb dL_law_172 rfl (lv_at hl 3 rfl) ?_
            refine lv_iconst (v := 3) hx hb dL_law_173 (by decide) ?_
            refine lv_iadd hx hb dL_law_174 ?_
            refine va_sld hx hb hX hbl hbA h.2.2 hv3 dL_law_175 ?_
            refine lv_aload_n hx hb dL_law_176 rfl (lv_at hl 0 rfl) ?_
            refine lv_iload_n hx hb dL_law_177 rfl (lv_at hl 3 rfl) ?_
            refine lv_iconst (v := 4) hx hb dL_law_178 (by decide) ?_
            refine lv_iadd hx hb dL_law_179 ?_
            refine va_sld hx hb hX hbl hbA h.2.2 hv4 dL_law_180 ?_
            have hw := (ls_cell hst) t hT C M (xs (nI (6 * t) + 1).toNatClampNeg) (xs (nI (6 * t) + 2).toNatClampNeg) (xs (nI (6 * t) + 3).toNatClampNeg) (xs (nI (6 * t) + 4).toNatClampNeg) hR
            refine l_goi (fun u : cM => cws cA ad u) hA h (l_runC (n := 4) X hN h (qX6_cell l D cA n (xs (nI (6 * t) + 1).toNatClampNeg) (xs (nI (6 * t) + 2).toNatClampNeg) (xs (nI (6 * t) + 3).toNatClampNeg) (xs (nI (6 * t) + 4).toNatClampNeg) ad _ _ _ hw) gL_law_X6_cell hl.1 dL_law_181 rfl rfl rfl (by decide +kernel) ⟨Nat.le_of_ble_eq_true rfl, Nat.le_of_ble_eq_true rfl⟩ rfl rfl (Nat.le_of_ble_eq_true rfl) ⟨(by show 37 + 16 * t + 0 ≤ 600000; omega), (by show 6361 + 177 * t + 0 ≤ 7302250; omega)⟩) (fun u t hB => ⟨hB.1, hB.2.2⟩) (fun r C1 t0 H locs hw hB h => ?_)
            refine W.widen (k := 37 + 16 * (t + 1)) (n := 6361 + 177 * (t + 1)) (by omega) (by omega) ?_
            refine lv_aload_n hx hb dL_law_184 rfl (lv_at hl 2 rfl) ?_
            refine lv_aload_n hx hb dL_law_185 rfl (lv_at hl 0 rfl) ?_
            refine lv_iload_n hx hb dL_law_186 rfl (lv_at hl 3 rfl) ?_
            refine lv_iconst (v := 1) hx hb dL_law_187 (by decide) ?_
            refine lv_iadd hx hb dL_law_188 ?_
            refine va_sld hx hb hX hbl hbA h.2.2 hv1 dL_law_189 ?_
            refine lv_aload_n hx hb dL_law_190 rfl (lv_at hl 0 rfl) ?_
            refine lv_iload_n hx hb dL_law_191 rfl (lv_at hl 3 rfl) ?_
            refine lv_iconst (v := 2) hx hb dL_law_192 (by decide) ?_
            refine lv_iadd hx hb dL_law_193 ?_
            refine va_sld hx hb hX hbl hbA h.2.2 hv2 dL_law_194 ?_
            refine lv_aload_n hx hb dL_law_195 rfl (lv_at hl 0 rfl) ?_
            refine lv_iload_n hx hb dL_law_196 rfl (lv_at hl 3 rfl) ?_
            refine lv_iconst (v := 3) hx hb dL_law_197 (by decide) ?_
            refine lv_iadd hx hb dL_law_198 ?_
            refine va_sld hx hb hX hbl hbA h.2.2 hv3 dL_law_199 ?_
            refine lv_aload_n hx hb dL_law_200 rfl (lv_at hl 0 rfl) ?_
            refine lv_iload_n hx hb dL_law_201 rfl (lv_at hl 3 rfl) ?_
            refine lv_iconst (v := 4) hx hb dL_law_202 (by decide) ?_
            refine lv_iadd hx hb dL_law_203 ?_
            refine va_sld hx hb hX hbl hbA h.2.2 hv4 dL_law_204 ?_
            refine l_goi (fun u : mM => mws cA am u) hA h (l_runM (n := 4) X h (qX7_cell l D cA n (xs (nI (6 * t) + 1).toNatClampNeg) (xs (nI (6 * t) + 2).toNatClampNeg) (xs (nI (6 * t) + 3).toNatClampNeg) (xs (nI (6 * t) + 4).toNatClampNeg) am _ _ _ hw) gL_law_X7_cell hl.1 dL_law_205 rfl rfl rfl (by decide +kernel) ⟨Nat.le_of_ble_eq_true rfl, Nat.le_of_ble_eq_true rfl⟩ rfl rfl (Nat.le_of_ble_eq_true rfl) ⟨(by show 37 + 16 * (t + 1) + 0 ≤ 600000; omega), (by show 6361 + 177 * (t + 1) + 0 ≤ 7302250; omega)⟩) (fun u t hB => ⟨hB.1, hB.2.2⟩) (fun r1 M1 t0 H locs hw hB h => ?_)
            refine lv_icmp_eq (tgt := 597) hx hb dL_law_208 (by decide) (fun _ => ?_) (fun z => absurd hw.1 z)
            exact hJ ad am C1 M1 _ _ ls hw.2 h hl
          · skip
            by_cases c3 : sw = 3
            · refine lv_tableIn (off := 180) (tgt := 213) hx hb dL_law_33 (by rw [c3]; decide) (by rw [c3]; decide) (by rw [c3]; rfl) (by decide) ?_
              refine lv_aload_n hx hb dL_law_213 rfl (lv_at hl 1 rfl) ?_
              refine lv_aload_n hx hb dL_law_214 rfl (lv_at hl 0 rfl) ?_
              refine lv_iload_n hx hb dL_law_215 rfl (lv_at hl 3 rfl) ?_
              refine lv_iconst (v := 1) hx hb dL_law_216 (by decide) ?_
              refine lv_iadd hx hb dL_law_217 ?_
              refine va_sld hx hb hX hbl hbA h.2.2 hv1 dL_law_218 ?_
              refine lv_aload_n hx hb dL_law_219 rfl (lv_at hl 0 rfl) ?_
              refine lv_iload_n hx hb dL_law_220 rfl (lv_at hl 3 rfl) ?_
              refine lv_iconst (v := 2) hx hb dL_law_221 (by decide) ?_
              refine lv_iadd hx hb dL_law_222 ?_
              refine va_sld hx hb hX hbl hbA h.2.2 hv2 dL_law_223 ?_
              have hw := (ls_thin hst) t hT C M (xs (nI (6 * t) + 1).toNatClampNeg) (xs (nI (6 * t) + 2).toNatClampNeg) hR
              refine l_goi (fun u : cM => cws cA ad u) hA h (l_runC (n := 2) X hN h (qX6_thin l D cA n (xs (nI (6 * t) + 1).toNatClampNeg) (xs (nI (6 * t) + 2).toNatClampNeg) ad _ _ _ hw) gL_law_X6_thin hl.1 dL_law_224 rfl rfl rfl (by decide +kernel) ⟨Nat.le_of_ble_eq_true rfl, Nat.le_of_ble_eq_true rfl⟩ rfl rfl (Nat.le_of_ble_eq_true rfl) ⟨(by show 37 + 16 * t + 0 ≤ 600000; omega), (by show 6361 + 177 * t + 0 ≤ 7302250; omega)⟩) (fun u t hB => ⟨hB.1, hB.2.2⟩) (fun r C1 t0 H locs hw hB h => ?_)
              refine W.widen (k := 37 + 16 * (t + 1)) (n := 6361 + 177 * (t + 1)) (by omega) (by omega) ?_
              refine lv_aload_n hx hb dL_law_227 rfl (lv_at hl 2 rfl) ?_
              refine lv_aload_n hx hb dL_law_228 rfl (lv_at hl 0 rfl) ?_
              refine lv_iload_n hx hb dL_law_229 rfl (lv_at hl 3 rfl) ?_
              refine lv_iconst (v := 1) hx hb dL_law_230 (by decide) ?_
              refine lv_iadd hx hb dL_law_231 ?_
              refine va_sld hx hb hX hbl hbA h.2.2 hv1 dL_law_232 ?_
              refine lv_aload_n hx hb dL_law_233 rfl (lv_at hl 0 rfl) ?_
              refine lv_iload_n hx hb dL_law_234 rfl (lv_at hl 3 rfl) ?_
              refine lv_iconst (v := 2) hx hb dL_law_235 (by decide) ?_
              refine lv_iadd hx hb dL_law_236 ?_
              refine va_sld hx hb hX hbl hbA h.2.2 hv2 dL_law_237 ?_
              refine l_goi (fun u : mM => mws cA am u) hA h (l_runM (n := 2) X h (qX7_thin l D cA n (xs (nI (6 * t) + 1).toNatClampNeg) (xs (nI (6 * t) + 2).toNatClampNeg) am _ _ _ hw) gL_law_X7_thin hl.1 dL_law_238 rfl rfl rfl (by decide +kernel) ⟨Nat.le_of_ble_eq_true rfl, Nat.le_of_ble_eq_true rfl⟩ rfl rfl (Nat.le_of_ble_eq_true rfl) ⟨(by show 37 + 16 * (t + 1) + 0 ≤ 600000; omega), (by show 6361 + 177 * (t + 1) + 0 ≤ 7302250; omega)⟩) (fun u t hB => ⟨hB.1, hB.2.2⟩) (fun r1 M1 t0 H locs hw hB h => ?_)
              refine lv_icmp_eq (tgt := 597) hx hb dL_law_241 (by decide) (fun _ => ?_) (fun z => absurd hw.1 z)
              exact hJ ad am C1 M1 _ _ ls hw.2 h hl
            · skip
              by_cases c4 : sw = 4
              · refine lv_tableIn (off := 213) (tgt := 246) hx hb dL_law_33 (by rw [c4]; decide) (by rw [c4]; decide) (by rw [c4]; rfl) (by decide) ?_
                refine lv_aload_n hx hb dL_law_246 rfl (lv_at hl 1 rfl) ?_
                refine lv_aload_n hx hb dL_law_247 rfl (lv_at hl 0 rfl) ?_
                refine lv_iload_n hx hb dL_law_248 rfl (lv_at hl 3 rfl) ?_
                refine lv_iconst (v := 1) hx hb dL_law_249 (by decide) ?_
                refine lv_iadd hx hb dL_law_250 ?_
                refine va_sld hx hb hX hbl hbA h.2.2 hv1 dL_law_251 ?_
                refine lv_aload_n hx hb dL_law_252 rfl (lv_at hl 0 rfl) ?_
                refine lv_iload_n hx hb dL_law_253 rfl (lv_at hl 3 rfl) ?_
                refine lv_iconst (v := 2) hx hb dL_law_254 (by decide) ?_
                refine lv_iadd hx hb dL_law_255 ?_
                refine va_sld hx hb hX hbl hbA h.2.2 hv2 dL_law_256 ?_
                refine lv_aload_n hx hb dL_law_257 rfl (lv_at hl 0 rfl) ?_
                refine lv_iload_n hx hb dL_law_258 rfl (lv_at hl 3 rfl) ?_
                refine lv_iconst (v := 3) hx hb dL_law_259 (by decide) ?_
                refine lv_iadd hx hb dL_law_260 ?_
                refine va_sld hx hb hX hbl hbA h.2.2 hv3 dL_law_261 ?_
                have hw := (ls_mark hst) t hT C M (xs (nI (6 * t) + 1).toNatClampNeg) (xs (nI (6 * t) + 2).toNatClampNeg) (xs (nI (6 * t) + 3).toNatClampNeg) hR
                refine l_goi (fun u : cM => cws cA ad u) hA h (l_runC (n := 3) X hN h (qX6_mark l D cA n (xs (nI (6 * t) + 1).toNatClampNeg) (xs (nI (6 * t) + 2).toNatClampNeg) (xs (nI (6 * t) + 3).toNatClampNeg) ad _ _ _ hw) gL_law_X6_mark hl.1 dL_law_262 rfl rfl rfl (by decide +kernel) ⟨Nat.le_of_ble_eq_true rfl, Nat.le_of_ble_eq_true rfl⟩ rfl rfl (Nat.le_of_ble_eq_true rfl) ⟨(by show 37 + 16 * t + 0 ≤ 600000; omega), (by show 6361 + 177 * t + 0 ≤ 7302250; omega)⟩) (fun u t hB => ⟨hB.1, hB.2.2⟩) (fun r C1 t0 H locs hw hB h => ?_)
                refine W.widen (k := 37 + 16 * (t + 1)) (n := 6361 + 177 * (t + 1)) (by omega) (by omega) ?_
                refine lv_aload_n hx hb dL_law_265 rfl (lv_at hl 2 rfl) ?_
                refine lv_aload_n hx hb dL_law_266 rfl (lv_at hl 0 rfl) ?_
                refine lv_iload_n hx hb dL_law_267 rfl (lv_at hl 3 rfl) ?_
                refine lv_iconst (v := 1) hx hb dL_law_268 (by decide) ?_
                refine lv_iadd hx hb dL_law_269 ?_
                refine va_sld hx hb hX hbl hbA h.2.2 hv1 dL_law_270 ?_
                refine lv_aload_n hx hb dL_law_271 rfl (lv_at hl 0 rfl) ?_
                refine lv_iload_n hx hb dL_law_272 rfl (lv_at hl 3 rfl) ?_
                refine lv_iconst (v := 2) hx hb dL_law_273 (by decide) ?_
                refine lv_iadd hx hb dL_law_274 ?_
                refine va_sld hx hb hX hbl hbA h.2.2 hv2 dL_law_275 ?_
                refine lv_aload_n hx hb dL_law_276 rfl (lv_at hl 0 rfl) ?_
                refine lv_iload_n hx hb dL_law_277 rfl (lv_at hl 3 rfl) ?_
                refine lv_iconst (v := 3) hx hb dL_law_278 (by decide) ?_
                refine lv_iadd hx hb dL_law_279 ?_
                refine va_sld hx hb hX hbl hbA h.2.2 hv3 dL_law_280 ?_
                refine l_goi (fun u : mM => mws cA am u) hA h (l_runM (n := 3) X h (qX7_mark l D cA n (xs (nI (6 * t) + 1).toNatClampNeg) (xs (nI (6 * t) + 2).toNatClampNeg) (xs (nI (6 * t) + 3).toNatClampNeg) am _ _ _ hw) gL_law_X7_mark hl.1 dL_law_281 rfl rfl rfl (by decide +kernel) ⟨Nat.le_of_ble_eq_true rfl, Nat.le_of_ble_eq_true rfl⟩ rfl rfl (Nat.le_of_ble_eq_true rfl) ⟨(by show 37 + 16 * (t + 1) + 0 ≤ 600000; omega), (by show 6361 + 177 * (t + 1) + 0 ≤ 7302250; omega)⟩) (fun u t hB => ⟨hB.1, hB.2.2⟩) (fun r1 M1 t0 H locs hw hB h => ?_)
                refine lv_icmp_eq (tgt := 597) hx hb dL_law_284 (by decide) (fun _ => ?_) (fun z => absurd hw.1 z)
                exact hJ ad am C1 M1 _ _ ls hw.2 h hl
              · skip
                by_cases c5 : sw = 5
                · refine lv_tableIn (off := 256) (tgt := 289) hx hb dL_law_33 (by rw [c5]; decide) (by rw [c5]; decide) (by rw [c5]; rfl) (by decide) ?_
                  refine lv_aload_n hx hb dL_law_289 rfl (lv_at hl 1 rfl) ?_
                  refine lv_aload_n hx hb dL_law_290 rfl (lv_at hl 0 rfl) ?_
                  refine lv_iload_n hx hb dL_law_291 rfl (lv_at hl 3 rfl) ?_
                  refine lv_iconst (v := 1) hx hb dL_law_292 (by decide) ?_
                  refine lv_iadd hx hb dL_law_293 ?_
                  refine va_sld hx hb hX hbl hbA h.2.2 hv1 dL_law_294 ?_
                  have hw := (ls_within hst) t hT C M (xs (nI (6 * t) + 1).toNatClampNeg) hR
                  refine l_goi (fun u : cM => cws cA ad u) hA h (l_runC (n := 1) X hN h (qX6_within l D cA n (xs (nI (6 * t) + 1).toNatClampNeg) ad _ _ _ hw) gL_law_X6_within hl.1 dL_law_295 rfl rfl rfl (by decide +kernel) ⟨Nat.le_of_ble_eq_true rfl, Nat.le_of_ble_eq_true rfl⟩ rfl rfl (Nat.le_of_ble_eq_true rfl) ⟨(by show 37 + 16 * t + 0 ≤ 600000; omega), (by show 6361 + 177 * t + 0 ≤ 7302250; omega)⟩) (fun u t hB => ⟨hB.1, hB.2.2⟩) (fun r C1 t0 H locs hw hB h => ?_)
                  refine W.widen (k := 37 + 16 * (t + 1)) (n := 6361 + 177 * (t + 1)) (by omega) (by omega) ?_
                  refine lv_aload_n hx hb dL_law_298 rfl (lv_at hl 2 rfl) ?_
                  refine lv_aload_n hx hb dL_law_299 rfl (lv_at hl 0 rfl) ?_
                  refine lv_iload_n hx hb dL_law_300 rfl (lv_at hl 3 rfl) ?_
                  refine lv_iconst (v := 1) hx hb dL_law_301 (by decide) ?_
                  refine lv_iadd hx hb dL_law_302 ?_
                  refine va_sld hx hb hX hbl hbA h.2.2 hv1 dL_law_303 ?_
                  refine l_goi (fun u : mM => mws cA am u) hA h (l_runM (n := 1) X h (qX7_within l D cA n (xs (nI (6 * t) + 1).toNatClampNeg) am _ _ _ hw) gL_law_X7_within hl.1 dL_law_304 rfl rfl rfl (by decide +kernel) ⟨Nat.le_of_ble_eq_true rfl, Nat.le_of_ble_eq_true rfl⟩ rfl rfl (Nat.le_of_ble_eq_true rfl) ⟨(by show 37 + 16 * (t + 1) + 0 ≤ 600000; omega), (by show 6361 + 177 * (t + 1) + 0 ≤ 7302250; omega)⟩) (fun u t hB => ⟨hB.1, hB.2.2⟩) (fun r1 M1 t0 H locs hw hB h => ?_)
                  refine lv_icmp_eq (tgt := 597) hx hb dL_law_307 (by decide) (fun _ => ?_) (fun z => absurd hw.1 z)
                  exact hJ ad am C1 M1 _ _ ls hw.2 h hl
                · skip
                  by_cases c6 : sw = 6
                  · refine lv_tableIn (off := 279) (tgt := 312) hx hb dL_law_33 (by rw [c6]; decide) (by rw [c6]; decide) (by rw [c6]; rfl) (by decide) ?_
                    refine lv_aload_n hx hb dL_law_312 rfl (lv_at hl 1 rfl) ?_
                    refine lv_aload_n hx hb dL_law_313 rfl (lv_at hl 0 rfl) ?_
                    refine lv_iload_n hx hb dL_law_314 rfl (lv_at hl 3 rfl) ?_
                    refine lv_iconst (v := 1) hx hb dL_law_315 (by decide) ?_
                    refine lv_iadd hx hb dL_law_316 ?_
                    refine va_sld hx hb hX hbl hbA h.2.2 hv1 dL_law_317 ?_
                    refine lv_aload_n hx hb dL_law_318 rfl (lv_at hl 0 rfl) ?_
                    refine lv_iload_n hx hb dL_law_319 rfl (lv_at hl 3 rfl) ?_
                    refine lv_iconst (v := 2) hx hb dL_law_320 (by decide) ?_
                    refine lv_iadd hx hb dL_law_321 ?_
                    refine va_sld hx hb hX hbl hbA h.2.2 hv2 dL_law_322 ?_
                    refine lv_aload_n hx hb dL_law_323 rfl (lv_at hl 0 rfl) ?_
                    refine lv_iload_n hx hb dL_law_324 rfl (lv_at hl 3 rfl) ?_
                    refine lv_iconst (v := 3) hx hb dL_law_325 (by decide) ?_
                    refine lv_iadd hx hb dL_law_326 ?_
                    refine va_sld hx hb hX hbl hbA h.2.2 hv3 dL_law_327 ?_
                    refine lv_aload_n hx hb dL_law_328 rfl (lv_at hl 0 rfl) ?_
                    refine lv_iload_n hx hb dL_law_329 rfl (lv_at hl 3 rfl) ?_
                    refine lv_iconst (v := 4) hx hb dL_law_330 (by decide) ?_
                    refine lv_iadd hx hb dL_law_331 ?_
                    refine va_sld hx hb hX hbl hbA h.2.2 hv4 dL_law_332 ?_
                    refine lv_aload_n hx hb dL_law_333 rfl (lv_at hl 0 rfl) ?_
                    refine lv_iload_n hx hb dL_law_334 rfl (lv_at hl 3 rfl) ?_
                    refine lv_iconst (v := 5) hx hb dL_law_335 (by decide) ?_
                    refine lv_iadd hx hb dL_law_336 ?_
                    refine va_sld hx hb hX hbl hbA h.2.2 hv5 dL_law_337 ?_
                    have hw := (ls_pairs hst) t hT C M (xs (nI (6 * t) + 1).toNatClampNeg) (xs (nI (6 * t) + 2).toNatClampNeg) (xs (nI (6 * t) + 3).toNatClampNeg) (xs (nI (6 * t) + 4).toNatClampNeg) (xs (nI (6 * t) + 5).toNatClampNeg) hR
                    refine l_goi (fun u : cM => cws cA ad u) hA h (l_runC (n := 5) X hN h (qX6_pairs l D cA n (xs (nI (6 * t) + 1).toNatClampNeg) (xs (nI (6 * t) + 2).toNatClampNeg) (xs (nI (6 * t) + 3).toNatClampNeg) (xs (nI (6 * t) + 4).toNatClampNeg) (xs (nI (6 * t) + 5).toNatClampNeg) ad _ _ _ hw) gL_law_X6_pairs hl.1 dL_law_338 rfl rfl rfl (by decide +kernel) ⟨Nat.le_of_ble_eq_true rfl, Nat.le_of_ble_eq_true rfl⟩ rfl rfl (Nat.le_of_ble_eq_true rfl) ⟨(by show 37 + 16 * t + 0 ≤ 600000; omega), (by show 6361 + 177 * t + 0 ≤ 7302250; omega)⟩) (fun u t hB => ⟨hB.1, hB.2.2⟩) (fun r C1 t0 H locs hw hB h => ?_)
                    refine W.widen (k := 37 + 16 * (t + 1)) (n := 6361 + 177 * (t + 1)) (by omega) (by omega) ?_
                    refine lv_aload_n hx hb dL_law_341 rfl (lv_at hl 2 rfl) ?_
                    refine lv_aload_n hx hb dL_law_342 rfl (lv_at hl 0 rfl) ?_
                    refine lv_iload_n hx hb dL_law_343 rfl (lv_at hl 3 rfl) ?_
                    refine lv_iconst (v := 1) hx hb dL_law_344 (by decide) ?_
                    refine lv_iadd hx hb dL_law_345 ?_
                    refine va_sld hx hb hX hbl hbA h.2.2 hv1 dL_law_346 ?_
                    refine lv_aload_n hx hb dL_law_347 rfl (lv_at hl 0 rfl) ?_
                    refine lv_iload_n hx hb dL_law_348 rfl (lv_at hl 3 rfl) ?_
                    refine lv_iconst (v := 2) hx hb dL_law_349 (by decide) ?_
                    refine lv_iadd hx hb dL_law_350 ?_
                    refine va_sld hx hb hX hbl hbA h.2.2 hv2 dL_law_351 ?_
                    refine lv_aload_n hx hb dL_law_352 rfl (lv_at hl 0 rfl) ?_
                    refine lv_iload_n hx hb dL_law_353 rfl (lv_at hl 3 rfl) ?_
                    refine lv_iconst (v := 3) hx hb dL_law_354 (by decide) ?_
                    refine lv_iadd hx hb dL_law_355 ?_
                    refine va_sld hx hb hX hbl hbA h.2.2 hv3 dL_law_356 ?_
                    refine lv_aload_n hx hb dL_law_357 rfl (lv_at hl 0 rfl) ?_
                    refine lv_iload_n hx hb dL_law_358 rfl (lv_at hl 3 rfl) ?_
                    refine lv_iconst (v := 4) hx hb dL_law_359 (by decide) ?_
                    refine lv_iadd hx hb dL_law_360 ?_
                    refine va_sld hx hb hX hbl hbA h.2.2 hv4 dL_law_361 ?_
                    refine lv_aload_n hx hb dL_law_362 rfl (lv_at hl 0 rfl) ?_
                    refine lv_iload_n hx hb dL_law_363 rfl (lv_at hl 3 rfl) ?_
                    refine lv_iconst (v := 5) hx hb dL_law_364 (by decide) ?_
                    refine lv_iadd hx hb dL_law_365 ?_
                    refine va_sld hx hb hX hbl hbA h.2.2 hv5 dL_law_366 ?_
                    refine l_goi (fun u : mM => mws cA am u) hA h (l_runM (n := 5) X h (qX7_pairs l D cA n (xs (nI (6 * t) + 1).toNatClampNeg) (xs (nI (6 * t) + 2).toNatClampNeg) (xs (nI (6 * t) + 3).toNatClampNeg) (xs (nI (6 * t) + 4).toNatClampNeg) (xs (nI (6 * t) + 5).toNatClampNeg) am _ _ _ hw) gL_law_X7_pairs hl.1 dL_law_367 rfl rfl rfl (by decide +kernel) ⟨Nat.le_of_ble_eq_true rfl, Nat.le_of_ble_eq_true rfl⟩ rfl rfl (Nat.le_of_ble_eq_true rfl) ⟨(by show 37 + 16 * (t + 1) + 0 ≤ 600000; omega), (by show 6361 + 177 * (t + 1) + 0 ≤ 7302250; omega)⟩) (fun u t hB => ⟨hB.1, hB.2.2⟩) (fun r1 M1 t0 H locs hw hB h => ?_)
                    refine lv_icmp_eq (tgt := 597) hx hb dL_law_370 (by decide) (fun _ => ?_) (fun z => absurd hw.1 z)
                    exact hJ ad am C1 M1 _ _ ls hw.2 h hl
                  · skip
                    by_cases c7 : sw = 7
                    · refine lv_tableIn (off := 342) (tgt := 375) hx hb dL_law_33 (by rw [c7]; decide) (by rw [c7]; decide) (by rw [c7]; rfl) (by decide) ?_
                      refine lv_aload_n hx hb dL_law_375 rfl (lv_at hl 1 rfl) ?_
                      refine lv_aload_n hx hb dL_law_376 rfl (lv_at hl 0 rfl) ?_
                      refine lv_iload_n hx hb dL_law_377 rfl (lv_at hl 3 rfl) ?_
                      refine lv_iconst (v := 1) hx hb dL_law_378 (by decide) ?_
                      refine lv_iadd hx hb dL_law_379 ?_
                      refine va_sld hx hb hX hbl hbA h.2.2 hv1 dL_law_380 ?_
                      refine lv_aload_n hx hb dL_law_381 rfl (lv_at hl 0 rfl) ?_
                      refine lv_iload_n hx hb dL_law_382 rfl (lv_at hl 3 rfl) ?_
                      refine lv_iconst (v := 2) hx hb dL_law_383 (by decide) ?_
                      refine lv_iadd hx hb dL_law_384 ?_
                      refine va_sld hx hb hX hbl hbA h.2.2 hv2 dL_law_385 ?_
                      refine lv_aload_n hx hb dL_law_386 rfl (lv_at hl 0 rfl) ?_
                      refine lv_iload_n hx hb dL_law_387 rfl (lv_at hl 3 rfl) ?_
                      refine lv_iconst (v := 3) hx hb dL_law_388 (by decide) ?_
                      refine lv_iadd hx hb dL_law_389 ?_
                      refine va_sld hx hb hX hbl hbA h.2.2 hv3 dL_law_390 ?_
                      have hw := (ls_best hst) t hT C M (xs (nI (6 * t) + 1).toNatClampNeg) (xs (nI (6 * t) + 2).toNatClampNeg) (xs (nI (6 * t) + 3).toNatClampNeg) hR
                      refine l_goi (fun u : (Nat → Nat) × cM => cws cA u.1 u.2) hA h (l_runC (n := 3) X hN h (qX6_best l D cA n (xs (nI (6 * t) + 1).toNatClampNeg) (xs (nI (6 * t) + 2).toNatClampNeg) (xs (nI (6 * t) + 3).toNatClampNeg) ad _ _ _ hw) gL_law_X6_best hl.1 dL_law_391 rfl rfl rfl (by decide +kernel) ⟨Nat.le_of_ble_eq_true rfl, Nat.le_of_ble_eq_true rfl⟩ rfl rfl (Nat.le_of_ble_eq_true rfl) ⟨(by show 37 + 16 * t + 1 ≤ 600000; omega), (by show 6361 + 177 * t + 9 ≤ 7302250; omega)⟩) (fun u t hB => ⟨hB.2.1, hB.2.2.2⟩) (fun r u t0 H locs hw hB h => ?_)
                      obtain ⟨ad1, C1⟩ := u
                      have e0 : ad1 0 = ad 0 := hB.1.1
                      have hl : lv_has ls 4 [(0, .ref b), (1, .ref (ad1 0)), (2, .ref (am 0)), (3, .int (nI (6 * t)))] := by rw [e0]; exact hl
                      clear e0
                      refine W.widen (k := 37 + 16 * (t + 1)) (n := 6361 + 177 * (t + 1)) (by omega) (by omega) ?_
                      refine lv_aload_n hx hb dL_law_394 rfl (lv_at hl 2 rfl) ?_
                      refine lv_aload_n hx hb dL_law_395 rfl (lv_at hl 0 rfl) ?_
                      refine lv_iload_n hx hb dL_law_396 rfl (lv_at hl 3 rfl) ?_
                      refine lv_iconst (v := 1) hx hb dL_law_397 (by decide) ?_
                      refine lv_iadd hx hb dL_law_398 ?_
                      refine va_sld hx hb hX hbl hbA h.2.2 hv1 dL_law_399 ?_
                      refine lv_aload_n hx hb dL_law_400 rfl (lv_at hl 0 rfl) ?_
                      refine lv_iload_n hx hb dL_law_401 rfl (lv_at hl 3 rfl) ?_
                      refine lv_iconst (v := 2) hx hb dL_law_402 (by decide) ?_
                      refine lv_iadd hx hb dL_law_403 ?_
                      refine va_sld hx hb hX hbl hbA h.2.2 hv2 dL_law_404 ?_
                      refine lv_aload_n hx hb dL_law_405 rfl (lv_at hl 0 rfl) ?_
                      refine lv_iload_n hx hb dL_law_406 rfl (lv_at hl 3 rfl) ?_
                      refine lv_iconst (v := 3) hx hb dL_law_407 (by decide) ?_
                      refine lv_iadd hx hb dL_law_408 ?_
                      refine va_sld hx hb hX hbl hbA h.2.2 hv3 dL_law_409 ?_
                      refine l_goi (fun u : mM => mws cA am u) hA h (l_runM (n := 3) X h (qX7_best l D cA n (xs (nI (6 * t) + 1).toNatClampNeg) (xs (nI (6 * t) + 2).toNatClampNeg) (xs (nI (6 * t) + 3).toNatClampNeg) am _ _ _ hw) gL_law_X7_best hl.1 dL_law_410 rfl rfl rfl (by decide +kernel) ⟨Nat.le_of_ble_eq_true rfl, Nat.le_of_ble_eq_true rfl⟩ rfl rfl (Nat.le_of_ble_eq_true rfl) ⟨(by show 37 + 16 * (t + 1) + 0 ≤ 600000; omega), (by show 6361 + 177 * (t + 1) + 0 ≤ 7302250; omega)⟩) (fun u t hB => ⟨hB.1, hB.2.2⟩) (fun r1 M1 t0 H locs hw hB h => ?_)
                      refine lv_icmp_eq (tgt := 597) hx hb dL_law_413 (by decide) (fun _ => ?_) (fun z => absurd hw.1 z)
                      exact hJ ad1 am C1 M1 _ _ ls hw.2 h hl
                    · skip
                      by_cases c8 : sw = 8
                      · refine lv_tableIn (off := 385) (tgt := 418) hx hb dL_law_33 (by rw [c8]; decide) (by rw [c8]; decide) (by rw [c8]; rfl) (by decide) ?_
                        refine lv_aload_n hx hb dL_law_418 rfl (lv_at hl 1 rfl) ?_
                        refine lv_aload_n hx hb dL_law_419 rfl (lv_at hl 0 rfl) ?_
                        refine lv_iload_n hx hb dL_law_420 rfl (lv_at hl 3 rfl) ?_
                        refine lv_iconst (v := 1) hx hb dL_law_421 (by decide) ?_
                        refine lv_iadd hx hb dL_law_422 ?_
                        refine va_sld hx hb hX hbl hbA h.2.2 hv1 dL_law_423 ?_
                        refine lv_aload_n hx hb dL_law_424 rfl (lv_at hl 0 rfl) ?_
                        refine lv_iload_n hx hb dL_law_425 rfl (lv_at hl 3 rfl) ?_
                        refine lv_iconst (v := 2) hx hb dL_law_426 (by decide) ?_
                        refine lv_iadd hx hb dL_law_427 ?_
                        refine va_sld hx hb hX hbl hbA h.2.2 hv2 dL_law_428 ?_
                        have hw := (ls_bound hst) t hT C M (xs (nI (6 * t) + 1).toNatClampNeg) (xs (nI (6 * t) + 2).toNatClampNeg) hR
                        refine l_goi (fun u : cM => cws cA ad u) hA h (l_runC (n := 2) X hN h (qX6_bound l D cA n (xs (nI (6 * t) + 1).toNatClampNeg) (xs (nI (6 * t) + 2).toNatClampNeg) ad _ _ _ hw) gL_law_X6_bound hl.1 dL_law_429 rfl rfl rfl (by decide +kernel) ⟨Nat.le_of_ble_eq_true rfl, Nat.le_of_ble_eq_true rfl⟩ rfl rfl (Nat.le_of_ble_eq_true rfl) ⟨(by show 37 + 16 * t + 0 ≤ 600000; omega), (by show 6361 + 177 * t + 0 ≤ 7302250; omega)⟩) (fun u t hB => ⟨hB.1, hB.2.2⟩) (fun r C1 t0 H locs hw hB h => ?_)
                        refine W.widen (k := 37 + 16 * (t + 1)) (n := 6361 + 177 * (t + 1)) (by omega) (by omega) ?_
                        refine lv_aload_n hx hb dL_law_432 rfl (lv_at hl 2 rfl) ?_
                        refine lv_aload_n hx hb dL_law_433 rfl (lv_at hl 0 rfl) ?_
                        refine lv_iload_n hx hb dL_law_434 rfl (lv_at hl 3 rfl) ?_
                        refine lv_iconst (v := 1) hx hb dL_law_435 (by decide) ?_
                        refine lv_iadd hx hb dL_law_436 ?_
                        refine va_sld hx hb hX hbl hbA h.2.2 hv1 dL_law_437 ?_
                        refine lv_aload_n hx hb dL_law_438 rfl (lv_at hl 0 rfl) ?_
                        refine lv_iload_n hx hb dL_law_439 rfl (lv_at hl 3 rfl) ?_
                        refine lv_iconst (v := 2) hx hb dL_law_440 (by decide) ?_
                        refine lv_iadd hx hb dL_law_441 ?_
                        refine va_sld hx hb hX hbl hbA h.2.2 hv2 dL_law_442 ?_
                        refine l_goi (fun u : mM => mws cA am u) hA h (l_runM (n := 2) X h (qX7_bound l D cA n (xs (nI (6 * t) + 1).toNatClampNeg) (xs (nI (6 * t) + 2).toNatClampNeg) am _ _ _ hw) gL_law_X7_bound hl.1 dL_law_443 rfl rfl rfl (by decide +kernel) ⟨Nat.le_of_ble_eq_true rfl, Nat.le_of_ble_eq_true rfl⟩ rfl rfl (Nat.le_of_ble_eq_true rfl) ⟨(by show 37 + 16 * (t + 1) + 0 ≤ 600000; omega), (by show 6361 + 177 * (t + 1) + 0 ≤ 7302250; omega)⟩) (fun u t hB => ⟨hB.1, hB.2.2⟩) (fun r1 M1 t0 H locs hw hB h => ?_)
                        refine lv_icmp_eq (tgt := 597) hx hb dL_law_446 (by decide) (fun _ => ?_) (fun z => absurd hw.1 z)
                        exact hJ ad am C1 M1 _ _ ls hw.2 h hl
                      · skip
                        by_cases c9 : sw = 9
                        · refine lv_tableIn (off := 418) (tgt := 451) hx hb dL_law_33 (by rw [c9]; decide) (by rw [c9]; decide) (by rw [c9]; rfl) (by decide) ?_
                          refine lv_aload_n hx hb dL_law_451 rfl (lv_at hl 1 rfl) ?_
                          refine lv_aload_n hx hb dL_law_452 rfl (lv_at hl 0 rfl) ?_
                          refine lv_iload_n hx hb dL_law_453 rfl (lv_at hl 3 rfl) ?_
                          refine lv_iconst (v := 1) hx hb dL_law_454 (by decide) ?_
                          refine lv_iadd hx hb dL_law_455 ?_
                          refine va_sld hx hb hX hbl hbA h.2.2 hv1 dL_law_456 ?_
                          refine lv_aload_n hx hb dL_law_457 rfl (lv_at hl 0 rfl) ?_
                          refine lv_iload_n hx hb dL_law_458 rfl (lv_at hl 3 rfl) ?_
                          refine lv_iconst (v := 2) hx hb dL_law_459 (by decide) ?_
                          refine lv_iadd hx hb dL_law_460 ?_
                          refine va_sld hx hb hX hbl hbA h.2.2 hv2 dL_law_461 ?_
                          have hw := (ls_seek hst) t hT C M (xs (nI (6 * t) + 1).toNatClampNeg) (xs (nI (6 * t) + 2).toNatClampNeg) hR
                          refine l_goi (fun u : (Nat → Nat) × cM => cws cA u.1 u.2) hA h (l_runC (n := 2) X hN h (qX6_seek l D cA n (xs (nI (6 * t) + 1).toNatClampNeg) (xs (nI (6 * t) + 2).toNatClampNeg) ad _ _ _ hw) gL_law_X6_seek hl.1 dL_law_462 rfl rfl rfl (by decide +kernel) ⟨Nat.le_of_ble_eq_true rfl, Nat.le_of_ble_eq_true rfl⟩ rfl rfl (Nat.le_of_ble_eq_true rfl) ⟨(by show 37 + 16 * t + 16 ≤ 600000; omega), (by show 6361 + 177 * t + 144 ≤ 7302250; omega)⟩) (fun u t hB => ⟨hB.2.1, hB.2.2.2⟩) (fun r u t0 H locs hw hB h => ?_)
                          obtain ⟨ad1, C1⟩ := u
                          have e0 : ad1 0 = ad 0 := hB.1.1
                          have hl : lv_has ls 4 [(0, .ref b), (1, .ref (ad1 0)), (2, .ref (am 0)), (3, .int (nI (6 * t)))] := by rw [e0]; exact hl
                          clear e0
                          refine W.widen (k := 37 + 16 * (t + 1)) (n := 6361 + 177 * (t + 1)) (by omega) (by omega) ?_
                          refine lv_aload_n hx hb dL_law_465 rfl (lv_at hl 2 rfl) ?_
                          refine lv_aload_n hx hb dL_law_466 rfl (lv_at hl 0 rfl) ?_
                          refine lv_iload_n hx hb dL_law_467 rfl (lv_at hl 3 rfl) ?_
                          refine lv_iconst (v := 1) hx hb dL_law_468 (by decide) ?_
                          refine lv_iadd hx hb dL_law_469 ?_
                          refine va_sld hx hb hX hbl hbA h.2.2 hv1 dL_law_470 ?_
                          refine lv_aload_n hx hb dL_law_471 rfl (lv_at hl 0 rfl) ?_
                          refine lv_iload_n hx hb dL_law_472 rfl (lv_at hl 3 rfl) ?_
                          refine lv_iconst (v := 2) hx hb dL_law_473 (by decide) ?_
                          refine lv_iadd hx hb dL_law_474 ?_
                          refine va_sld hx hb hX hbl hbA h.2.2 hv2 dL_law_475 ?_
                          refine l_goi (fun u : mM => mws cA am u) hA h (l_runM (n := 2) X h (qX7_seek l D cA n (xs (nI (6 * t) + 1).toNatClampNeg) (xs (nI (6 * t) + 2).toNatClampNeg) am _ _ _ hw) gL_law_X7_seek hl.1 dL_law_476 rfl rfl rfl (by decide +kernel) ⟨Nat.le_of_ble_eq_true rfl, Nat.le_of_ble_eq_true rfl⟩ rfl rfl (Nat.le_of_ble_eq_true rfl) ⟨(by show 37 + 16 * (t + 1) + 0 ≤ 600000; omega), (by show 6361 + 177 * (t + 1) + 0 ≤ 7302250; omega)⟩) (fun u t hB => ⟨hB.1, hB.2.2⟩) (fun r1 M1 t0 H locs hw hB h => ?_)
                          refine lv_icmp_eq (tgt := 597) hx hb dL_law_479 (by decide) (fun _ => ?_) (fun z => absurd hw.1 z)
                          exact hJ ad1 am C1 M1 _ _ ls hw.2 h hl
                        · skip
                          by_cases c10 : sw = 10
                          · refine lv_tableIn (off := 451) (tgt := 484) hx hb dL_law_33 (by rw [c10]; decide) (by rw [c10]; decide) (by rw [c10]; rfl) (by decide) ?_
                            refine lv_aload_n hx hb dL_law_484 rfl (lv_at hl 1 rfl) ?_
                            refine lv_aload_n hx hb dL_law_485 rfl (lv_at hl 0 rfl) ?_
                            refine lv_iload_n hx hb dL_law_486 rfl (lv_at hl 3 rfl) ?_
                            refine lv_iconst (v := 1) hx hb dL_law_487 (by decide) ?_
                            refine lv_iadd hx hb dL_law_488 ?_
                            refine va_sld hx hb hX hbl hbA h.2.2 hv1 dL_law_489 ?_
                            refine lv_aload_n hx hb dL_law_490 rfl (lv_at hl 0 rfl) ?_
                            refine lv_iload_n hx hb dL_law_491 rfl (lv_at hl 3 rfl) ?_
                            refine lv_iconst (v := 2) hx hb dL_law_492 (by decide) ?_
                            refine lv_iadd hx hb dL_law_493 ?_
                            refine va_sld hx hb hX hbl hbA h.2.2 hv2 dL_law_494 ?_
                            refine lv_aload_n hx hb dL_law_495 rfl (lv_at hl 0 rfl) ?_
                            refine lv_iload_n hx hb dL_law_496 rfl (lv_at hl 3 rfl) ?_
                            refine lv_iconst (v := 3) hx hb dL_law_497 (by decide) ?_
                            refine lv_iadd hx hb dL_law_498 ?_
                            refine va_sld hx hb hX hbl hbA h.2.2 hv3 dL_law_499 ?_
                            have hw := (ls_chance hst) t hT C M (xs (nI (6 * t) + 1).toNatClampNeg) (xs (nI (6 * t) + 2).toNatClampNeg) (xs (nI (6 * t) + 3).toNatClampNeg) hR
                            refine l_gol (fun u : cM => cws cA ad u) hA h (l_runC (n := 3) X hN h (qX6_chance l D cA n (xs (nI (6 * t) + 1).toNatClampNeg) (xs (nI (6 * t) + 2).toNatClampNeg) (xs (nI (6 * t) + 3).toNatClampNeg) ad _ _ _ hw) gL_law_X6_chance hl.1 dL_law_500 rfl rfl rfl (by decide +kernel) ⟨Nat.le_of_ble_eq_true rfl, Nat.le_of_ble_eq_true rfl⟩ rfl rfl (Nat.le_of_ble_eq_true rfl) ⟨(by show 37 + 16 * t + 0 ≤ 600000; omega), (by show 6361 + 177 * t + 0 ≤ 7302250; omega)⟩) (fun u t hB => ⟨hB.1, hB.2.2⟩) (fun r C1 t0 H locs hw hB h => ?_)
                            refine W.widen (k := 37 + 16 * (t + 1)) (n := 6361 + 177 * (t + 1)) (by omega) (by omega) ?_
                            refine lv_aload_n hx hb dL_law_503 rfl (lv_at hl 2 rfl) ?_
                            refine lv_aload_n hx hb dL_law_504 rfl (lv_at hl 0 rfl) ?_
                            refine lv_iload_n hx hb dL_law_505 rfl (lv_at hl 3 rfl) ?_
                            refine lv_iconst (v := 1) hx hb dL_law_506 (by decide) ?_
                            refine lv_iadd hx hb dL_law_507 ?_
                            refine va_sld hx hb hX hbl hbA h.2.2 hv1 dL_law_508 ?_
                            refine lv_aload_n hx hb dL_law_509 rfl (lv_at hl 0 rfl) ?_
                            refine lv_iload_n hx hb dL_law_510 rfl (lv_at hl 3 rfl) ?_
                            refine lv_iconst (v := 2) hx hb dL_law_511 (by decide) ?_
                            refine lv_iadd hx hb dL_law_512 ?_
                            refine va_sld hx hb hX hbl hbA h.2.2 hv2 dL_law_513 ?_
                            refine lv_aload_n hx hb dL_law_514 rfl (lv_at hl 0 rfl) ?_
                            refine lv_iload_n hx hb dL_law_515 rfl (lv_at hl 3 rfl) ?_
                            refine lv_iconst (v := 3) hx hb dL_law_516 (by decide) ?_
                            refine lv_iadd hx hb dL_law_517 ?_
                            refine va_sld hx hb hX hbl hbA h.2.2 hv3 dL_law_518 ?_
                            refine l_gol (fun u : mM => mws cA am u) hA h (l_runM (n := 3) X h (qX7_chance l D cA n (xs (nI (6 * t) + 1).toNatClampNeg) (xs (nI (6 * t) + 2).toNatClampNeg) (xs (nI (6 * t) + 3).toNatClampNeg) am _ _ _ hw) gL_law_X7_chance hl.1 dL_law_519 rfl rfl rfl (by decide +kernel) ⟨Nat.le_of_ble_eq_true rfl, Nat.le_of_ble_eq_true rfl⟩ rfl rfl (Nat.le_of_ble_eq_true rfl) ⟨(by show 37 + 16 * (t + 1) + 0 ≤ 600000; omega), (by show 6361 + 177 * (t + 1) + 0 ≤ 7302250; omega)⟩) (fun u t hB => ⟨hB.1, hB.2.2⟩) (fun r1 M1 t0 H locs hw hB h => ?_)
                            refine W.lcmp hx hb dL_law_522 ?_
                            refine lv_if_eq (tgt := 597) hx hb dL_law_523 (by decide) (fun _ => ?_) (fun z => absurd ((lg_cmp_eq _ _).mpr hw.1) z)
                            exact hJ ad am C1 M1 _ _ ls hw.2 h hl
                          · skip
                            by_cases c11 : sw = 11
                            · refine lv_tableIn (off := 495) (tgt := 528) hx hb dL_law_33 (by rw [c11]; decide) (by rw [c11]; decide) (by rw [c11]; rfl) (by decide) ?_
                              refine lv_aload_n hx hb dL_law_528 rfl (lv_at hl 1 rfl) ?_
                              refine lv_aload_n hx hb dL_law_529 rfl (lv_at hl 0 rfl) ?_
                              refine lv_iload_n hx hb dL_law_530 rfl (lv_at hl 3 rfl) ?_
                              refine lv_iconst (v := 1) hx hb dL_law_531 (by decide) ?_
                              refine lv_iadd hx hb dL_law_532 ?_
                              refine va_sld hx hb hX hbl hbA h.2.2 hv1 dL_law_533 ?_
                              refine lv_aload_n hx hb dL_law_534 rfl (lv_at hl 0 rfl) ?_
                              refine lv_iload_n hx hb dL_law_535 rfl (lv_at hl 3 rfl) ?_
                              refine lv_iconst (v := 2) hx hb dL_law_536 (by decide) ?_
                              refine lv_iadd hx hb dL_law_537 ?_
                              refine va_sld hx hb hX hbl hbA h.2.2 hv2 dL_law_538 ?_
                              have hw := (ls_join hst) t hT C M (xs (nI (6 * t) + 1).toNatClampNeg) (xs (nI (6 * t) + 2).toNatClampNeg) hR
                              refine l_goi (fun u : (Nat → Nat) × cM => cws cA u.1 u.2) hA h (l_runC (n := 2) X hN h (qX6_join l D cA n (xs (nI (6 * t) + 1).toNatClampNeg) (xs (nI (6 * t) + 2).toNatClampNeg) ad _ _ _ hw) gL_law_X6_join hl.1 dL_law_539 rfl rfl rfl (by decide +kernel) ⟨Nat.le_of_ble_eq_true rfl, Nat.le_of_ble_eq_true rfl⟩ rfl rfl (Nat.le_of_ble_eq_true rfl) ⟨(by show 37 + 16 * t + 1 ≤ 600000; omega), (by show 6361 + 177 * t + 9 ≤ 7302250; omega)⟩) (fun u t hB => ⟨hB.2.1, hB.2.2.2⟩) (fun r u t0 H locs hw hB h => ?_)
                              obtain ⟨ad1, C1⟩ := u
                              have e0 : ad1 0 = ad 0 := hB.1.1
                              have hl : lv_has ls 4 [(0, .ref b), (1, .ref (ad1 0)), (2, .ref (am 0)), (3, .int (nI (6 * t)))] := by rw [e0]; exact hl
                              clear e0
                              refine W.widen (k := 37 + 16 * (t + 1)) (n := 6361 + 177 * (t + 1)) (by omega) (by omega) ?_
                              refine lv_aload_n hx hb dL_law_542 rfl (lv_at hl 2 rfl) ?_
                              refine lv_aload_n hx hb dL_law_543 rfl (lv_at hl 0 rfl) ?_
                              refine lv_iload_n hx hb dL_law_544 rfl (lv_at hl 3 rfl) ?_
                              refine lv_iconst (v := 1) hx hb dL_law_545 (by decide) ?_
                              refine lv_iadd hx hb dL_law_546 ?_
                              refine va_sld hx hb hX hbl hbA h.2.2 hv1 dL_law_547 ?_
                              refine lv_aload_n hx hb dL_law_548 rfl (lv_at hl 0 rfl) ?_
                              refine lv_iload_n hx hb dL_law_549 rfl (lv_at hl 3 rfl) ?_
                              refine lv_iconst (v := 2) hx hb dL_law_550 (by decide) ?_
                              refine lv_iadd hx hb dL_law_551 ?_
                              refine va_sld hx hb hX hbl hbA h.2.2 hv2 dL_law_552 ?_
                              refine l_goi (fun u : mM => mws cA am u) hA h (l_runM (n := 2) X h (qX7_join l D cA n (xs (nI (6 * t) + 1).toNatClampNeg) (xs (nI (6 * t) + 2).toNatClampNeg) am _ _ _ hw) gL_law_X7_join hl.1 dL_law_553 rfl rfl rfl (by decide +kernel) ⟨Nat.le_of_ble_eq_true rfl, Nat.le_of_ble_eq_true rfl⟩ rfl rfl (Nat.le_of_ble_eq_true rfl) ⟨(by show 37 + 16 * (t + 1) + 0 ≤ 600000; omega), (by show 6361 + 177 * (t + 1) + 0 ≤ 7302250; omega)⟩) (fun u t hB => ⟨hB.1, hB.2.2⟩) (fun r1 M1 t0 H locs hw hB h => ?_)
                              refine lv_icmp_eq (tgt := 597) hx hb dL_law_556 (by decide) (fun _ => ?_) (fun z => absurd hw.1 z)
                              exact hJ ad1 am C1 M1 _ _ ls hw.2 h hl
                            · skip
                              by_cases c12 : sw = 12
                              · refine lv_tableIn (off := 528) (tgt := 561) hx hb dL_law_33 (by rw [c12]; decide) (by rw [c12]; decide) (by rw [c12]; rfl) (by decide) ?_
                                refine lv_aload_n hx hb dL_law_561 rfl (lv_at hl 1 rfl) ?_
                                refine lv_aload_n hx hb dL_law_562 rfl (lv_at hl 0 rfl) ?_
                                refine lv_iload_n hx hb dL_law_563 rfl (lv_at hl 3 rfl) ?_
                                refine lv_iconst (v := 1) hx hb dL_law_564 (by decide) ?_
                                refine lv_iadd hx hb dL_law_565 ?_
                                refine va_sld hx hb hX hbl hbA h.2.2 hv1 dL_law_566 ?_
                                have hw := (ls_count hst) t hT C M (xs (nI (6 * t) + 1).toNatClampNeg) hR
                                refine l_goi (fun u : cM => cws cA ad u) hA h (l_runC (n := 1) X hN h (qX6_count l D cA n (xs (nI (6 * t) + 1).toNatClampNeg) ad _ _ _ hw) gL_law_X6_count hl.1 dL_law_567 rfl rfl rfl (by decide +kernel) ⟨Nat.le_of_ble_eq_true rfl, Nat.le_of_ble_eq_true rfl⟩ rfl rfl (Nat.le_of_ble_eq_true rfl) ⟨(by show 37 + 16 * t + 0 ≤ 600000; omega), (by show 6361 + 177 * t + 0 ≤ 7302250; omega)⟩) (fun u t hB => ⟨hB.1, hB.2.2⟩) (fun r C1 t0 H locs hw hB h => ?_)
                                refine W.widen (k := 37 + 16 * (t + 1)) (n := 6361 + 177 * (t + 1)) (by omega) (by omega) ?_
                                refine lv_aload_n hx hb dL_law_570 rfl (lv_at hl 2 rfl) ?_
                                refine lv_aload_n hx hb dL_law_571 rfl (lv_at hl 0 rfl) ?_
                                refine lv_iload_n hx hb dL_law_572 rfl (lv_at hl 3 rfl) ?_
                                refine lv_iconst (v := 1) hx hb dL_law_573 (by decide) ?_
                                refine lv_iadd hx hb dL_law_574 ?_
                                refine va_sld hx hb hX hbl hbA h.2.2 hv1 dL_law_575 ?_
                                refine l_goi (fun u : mM => mws cA am u) hA h (l_runM (n := 1) X h (qX7_count l D cA n (xs (nI (6 * t) + 1).toNatClampNeg) am _ _ _ hw) gL_law_X7_count hl.1 dL_law_576 rfl rfl rfl (by decide +kernel) ⟨Nat.le_of_ble_eq_true rfl, Nat.le_of_ble_eq_true rfl⟩ rfl rfl (Nat.le_of_ble_eq_true rfl) ⟨(by show 37 + 16 * (t + 1) + 0 ≤ 600000; omega), (by show 6361 + 177 * (t + 1) + 0 ≤ 7302250; omega)⟩) (fun u t hB => ⟨hB.1, hB.2.2⟩) (fun r1 M1 t0 H locs hw hB h => ?_)
                                refine lv_icmp_eq (tgt := 597) hx hb dL_law_579 (by decide) (fun _ => ?_) (fun z => absurd hw.1 z)
                                exact hJ ad am C1 M1 _ _ ls hw.2 h hl
                              · skip
                                by_cases c13 : sw = 13
                                · refine lv_tableIn (off := 551) (tgt := 584) hx hb dL_law_33 (by rw [c13]; decide) (by rw [c13]; decide) (by rw [c13]; rfl) (by decide) ?_
                                  refine lv_aload_n hx hb dL_law_584 rfl (lv_at hl 1 rfl) ?_
                                  have hw := (ls_status hst) t hT C M hR
                                  refine l_goi (fun u : cM => cws cA ad u) hA h (l_runC (n := 0) X hN h (qX6_status l D cA n ad _ _ _ hw) gL_law_X6_status hl.1 dL_law_585 rfl rfl rfl (by decide +kernel) ⟨Nat.le_of_ble_eq_true rfl, Nat.le_of_ble_eq_true rfl⟩ rfl rfl (Nat.le_of_ble_eq_true rfl) ⟨(by show 37 + 16 * t + 0 ≤ 600000; omega), (by show 6361 + 177 * t + 0 ≤ 7302250; omega)⟩) (fun u t hB => ⟨hB.1, hB.2.2⟩) (fun r C1 t0 H locs hw hB h => ?_)
                                  refine W.widen (k := 37 + 16 * (t + 1)) (n := 6361 + 177 * (t + 1)) (by omega) (by omega) ?_
                                  refine lv_aload_n hx hb dL_law_588 rfl (lv_at hl 2 rfl) ?_
                                  refine l_goi (fun u : mM => mws cA am u) hA h (l_runM (n := 0) X h (qX7_status l D cA n am _ _ _ hw) gL_law_X7_status hl.1 dL_law_589 rfl rfl rfl (by decide +kernel) ⟨Nat.le_of_ble_eq_true rfl, Nat.le_of_ble_eq_true rfl⟩ rfl rfl (Nat.le_of_ble_eq_true rfl) ⟨(by show 37 + 16 * (t + 1) + 0 ≤ 600000; omega), (by show 6361 + 177 * (t + 1) + 0 ≤ 7302250; omega)⟩) (fun u t hB => ⟨hB.1, hB.2.2⟩) (fun r1 M1 t0 H locs hw hB h => ?_)
                                  refine lv_icmp_eq (tgt := 597) hx hb dL_law_592 (by decide) (fun _ => ?_) (fun z => absurd hw.1 z)
                                  exact hJ ad am C1 M1 _ _ ls hw.2 h hl
                                · skip
                                  refine lv_tableOut (tgt := 597) hx hb dL_law_33 (sw_out13 c0 c1 c2 c3 c4 c5 c6 c7 c8 c9 c10 c11 c12 c13) (by decide) ?_
                                  refine W.widen (k := 37 + 16 * (t + 1)) (n := 6361 + 177 * (t + 1)) (by omega) (by omega) ?_
                                  exact hJ ad am C M H locs ls (ls_skip hst t C M hR) h hl
