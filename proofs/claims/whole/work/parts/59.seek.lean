/-! PURE PART: seek -/
def ahd (v q sc fo : Int) : Bool := decide (sc < v ∨ (v = sc ∧ q < fo))
/-- of the first n the lowest with the greatest bound that is left -/
def nxt (B : Nat → Nat) (left : Nat → Bool) : Nat → Int
  | 0 => -1
  | n + 1 => if left n = true ∧ (nxt B left n < 0 ∨ B (nxt B left n).toNat < B n) then (n : Int) else nxt B left n
theorem nxt_rng (B : Nat → Nat) (left : Nat → Bool) : ∀ n, nxt B left n = -1 ∧ (∀ q, q < n → left q = false) ∨ ∃ q, q < n ∧ nxt B left n = (q : Int) ∧ left q = true
  | 0 => Or.inl ⟨rfl, fun q hq => absurd hq (by omega)⟩
  | n + 1 => by
    rw [nxt]
    by_cases z : left n = true ∧ (nxt B left n < 0 ∨ B (nxt B left n).toNat < B n)
    · rw [if_pos z]; exact Or.inr ⟨n, by omega, rfl, z.1⟩
    · rw [if_neg z]
      rcases nxt_rng B left n with ⟨h1, h2⟩ | ⟨q, h1, h2, h3⟩
      · refine Or.inl ⟨h1, fun q hq => ?_⟩
        by_cases w : q = n
        · subst w
          cases e : left q with
          | false => rfl
          | true => exact absurd ⟨e, Or.inl (by omega)⟩ z
        · exact h2 q (by omega)
      · exact Or.inr ⟨q, by omega, h2, h3⟩
theorem nxt_cong {B : Nat → Nat} {l1 l2 : Nat → Bool} : ∀ {n : Nat}, (∀ q, q < n → l1 q = l2 q) → nxt B l1 n = nxt B l2 n
  | 0, _ => rfl
  | n + 1, h => by rw [nxt, nxt, nxt_cong (fun q hq => h q (by omega)), h n (by omega)]
def dropq (left : Nat → Bool) (q : Nat) : Nat → Bool := fun j => left j && decide (j ≠ q)
/-- the search: found, its score, how many were looked at -/
def skF (B S : Nat → Nat) (N : Nat) : Nat → Int → Int → Nat → (Nat → Bool) → Int × Int × Nat
  | 0, fo, sc, lk, _ => (fo, sc, lk)
  | k + 1, fo, sc, lk, left =>
    if nxt B left N < 0 then (fo, sc, lk)
    else if ahd (B (nxt B left N).toNat) (nxt B left N) sc fo = true then
      (if ahd (S (nxt B left N).toNat) (nxt B left N) sc fo = true then skF B S N k (nxt B left N) (S (nxt B left N).toNat) (lk + 1) (dropq left (nxt B left N).toNat)
       else skF B S N k fo sc (lk + 1) (dropq left (nxt B left N).toNat))
    else (fo, sc, lk)
/-- found and its score stand thus -/
def sOk (N : Nat) (fo sc : Int) : Prop := (fo = -1 ∧ sc = -1) ∨ (0 ≤ fo ∧ fo < N ∧ 0 ≤ sc ∧ sc ≤ 40)
theorem isAhead_ok {n : Nat} {v q sc fo : Int32} {C : cM} {Q : Int32 → cM → Prop} (hq : Q (b2i (ahd v.toInt q.toInt sc.toInt fo.toInt)) C) : wpX6_isAhead n v q sc fo C Q := by
  unfold wpX6_isAhead
  unfold ahd at hq
  refine br_d (fun z => ?_) (fun z => ⟨fun w => ?_, fun w => br_d (fun u => ?_) (fun u => ?_)⟩)
  · rw [i32_lt] at z
    rw [decide_eq_true (Or.inl z)] at hq
    exact ⟨Or.inr rfl, hq⟩
  · rw [i32_lt] at z
    have w2 : ¬ v.toInt = sc.toInt := fun e => w (eq_toInt e)
    rw [decide_eq_false (by omega)] at hq
    exact ⟨Or.inl rfl, hq⟩
  · rw [i32_lt] at z
    rw [i32_le] at u
    rw [decide_eq_false (by omega)] at hq
    exact ⟨Or.inl rfl, hq⟩
  · rw [i32_le] at u
    rw [decide_eq_true (Or.inr ⟨by rw [w], by omega⟩)] at hq
    exact ⟨Or.inr rfl, hq⟩
noncomputable def scF (L1 L2 : List Mk) (T : Nat) : Nat := @dite _ (∃ s, s ≤ 40 ∧ ∃ t dx dy, BestIs L1 L2 T s t dx dy) (Classical.propDecidable _) (fun h => h.choose) (fun _ => 0)
theorem scF_is {L1 L2 : List Mk} {T : Nat} {a b c d : Int32} (h : BF L1 L2 T a b c d) : a = nI (scF L1 L2 T) := by
  obtain ⟨s, t, s40, e1, e2, e3⟩ := h
  have hx : ∃ s, s ≤ 40 ∧ ∃ t dx dy, BestIs L1 L2 T s t dx dy := ⟨s, s40, t, _, _, e3⟩
  have e : scF L1 L2 T = hx.choose := by unfold scF; rw [dif_pos hx]
  obtain ⟨_, t2, dx2, dy2, h2⟩ := hx.choose_spec
  rw [e1, e, (BestIs_one e3 h2).1]
theorem scF_40 (L1 L2 : List Mk) (T : Nat) : scF L1 L2 T ≤ 40 := by
  unfold scF
  by_cases hx : ∃ s, s ≤ 40 ∧ ∃ t dx dy, BestIs L1 L2 T s t dx dy
  · rw [dif_pos hx]; exact hx.choose_spec.1
  · rw [dif_neg hx]; omega
/-- those that are to be looked at -/
def lf0 (L : Nat → List Mk) (p N : Nat) : Nat → Bool := fun q => decide (q < N) && (decide (q ≠ p) && decide (0 < (L q).length))
/-- the class in the midst of a search: all boards are fresh -/
def sC (t : Nat) (C0 C : cM) : Prop := cInv t C ∧ mup C0 C ∧ ∀ b, b < cN C0 → cI C (64 + 8 * b) 8 = 0
theorem sC_fresh {t : Nat} {C0 C : cM} (h : sC t C0 C) {b : Nat} (hb : b < cN C0) : bFresh C b := (h.1.1.2.2 b (by rw [h.2.1.1]; exact hb)).2 (h.2.2 b hb)
theorem sC_mk {t : Nat} {C0 C : cM} (h : sC t C0 C) {b : Nat} (hb : b < cN C0) : cMk (bm C0 b) b C := by
  have h16 := h.1.1.1
  have e := (sC_fresh h hb).2.2
  have e2 : marks (thinG (bG C b)) = bm C0 b := mup_bm h.2.1 (by rw [h.2.1.1] at h16; omega)
  rw [e2] at e
  exact e
theorem sC_up {t : Nat} {C0 C C1 : cM} (h : sC t C0 C) (hI : cInv t C1) (hu : mup C C1) : sC t C0 C1 := ⟨hI, h.2.1.tr hu, fun b hb => hu.2.2.2 b (by rw [h.2.1.1]; exact hb) (h.2.2 b hb)⟩
theorem others_ok {n t p : Nat} {C0 : cM} {Q : Int32 → cM → Prop} (hn : 600 ≤ n) (hI : cInv t C0) (hp : p < cN C0) (hq : ∀ C1 r, sC t C0 C1 → (∀ j, j < 32 → bt r j = lf0 (fun b => bm C0 b) p (cN C0) j) → Q r C1) : wpX6_othersWithMarks n (nI p) C0 Q := by
  have h16 := hI.1.1
  have loop : ∀ (k q : Nat) (v : Int32) (C : cM), q ≤ cN C0 → cN C0 < q + k → cInv t C → mup C0 C → (∀ b, b < q → cI C (64 + 8 * b) 8 = 0) → (∀ j, j < 32 → bt v j = lf0 (fun b => bm C0 b) p q j) → wpX6_othersWithMarks_4 n Q (nI p) k v (nI q) C := by
    intro k
    induction k with
    | zero => intro q v C a1 a2; exact absurd a2 (by omega)
    | succ k ih =>
      intro q v C hqN hqk hIC hm hst hv
      have nC : cN C = cN C0 := hm.1
      rw [wpX6_othersWithMarks_4, hIC.1.2.1, nC]
      refine pk_le (cN C0) q (fun z => ?_) (fun z => ?_)
      · have : q = cN C0 := by omega
        subst this
        exact hq C v ⟨hIC, hm, hst⟩ hv
      · refine freshBoard_yes hn hIC.1 (by omega) (fun C1 u1 a1 f1 s1 => ⟨fun w => (by cases w), fun b w => ?_⟩)
        cases w
        have hI1 := cInv_up hIC u1 a1
        have m1 := hm.tr (mup_8 u1)
        have st1 : ∀ b, b < q + 1 → cI C1 (64 + 8 * b) 8 = 0 := fun b hb => by
          by_cases w : b = q
          · rw [w]; exact s1
          · exact u1.2.2.2.2.2 b (by omega) (hst b (by omega))
        have mk1 : cMk (bm C0 q) q C1 := by
          have e2 : marks (thinG (bG C1 q)) = bm C0 q := mup_bm m1 (by omega)
          have e := f1.2.2
          rw [e2] at e
          exact e
        have next : ∀ v2 : Int32, (∀ j, j < 32 → bt v2 j = lf0 (fun b => bm C0 b) p (q + 1) j) → ∀ c : Int32, c = nI q + 1 → wpX6_othersWithMarks_4 n Q (nI p) k v2 c C1 := fun v2 h2 c ec => by
          rw [ec, nI_1]
          exact ih (q + 1) v2 C1 (by omega) (by omega) hI1 m1 st1 h2
        have same : (decide (q ≠ p) && decide (0 < (bm C0 q).length)) = false → ∀ j, j < 32 → bt v j = lf0 (fun b => bm C0 b) p (q + 1) j := fun h j hj => by
          rw [hv j hj]
          unfold lf0
          by_cases w : j = q
          · subst w
            rw [decide_eq_false (show ¬ j < j by omega), decide_eq_true (show j < j + 1 by omega)]
            show false = (true && (decide (j ≠ p) && decide (0 < (bm C0 j).length)))
            rw [h]; rfl
          · by_cases w2 : j < q
            · rw [decide_eq_true w2, decide_eq_true (show j < q + 1 by omega)]
            · rw [decide_eq_false w2, decide_eq_false (show ¬ j < q + 1 by omega)]
        by_cases zp : q = p
        · exact br_i (by rw [zp]) (next v (same (by rw [decide_eq_false (fun w => w zp)]; rfl)))
        · refine br_e (fun w => zp (nI_inj (by omega) (by omega) w)) ⟨⟨by rw [u1.1]; omega, by omega⟩, ?_⟩
          rw [mk1.1]
          have l40 : (bm C0 q).length ≤ 40 := marks_len _
          refine pk_le (bm C0 q).length 0 (fun w => ?_) (fun w => ?_)
          · exact next v (same (by rw [decide_eq_false (show ¬ 0 < (bm C0 q).length by omega), Bool.and_false]))
          · intro v2 e2
            refine next v2 (fun j hj => ?_)
            rw [e2, b_or, hv j hj, b_shl q (by omega) _ hj]
            unfold lf0
            by_cases w1 : j = q
            · subst w1
              rw [Nat.sub_self, b_one 0 (by omega), decide_eq_true (show j < j + 1 by omega), decide_eq_true (show j ≤ j from Nat.le_refl _), decide_eq_true zp]
              show _ = (true && (true && decide (0 < (bm C0 j).length)))
              rw [decide_eq_true w]; simp
            · by_cases w2 : j < q
              · rw [decide_eq_true w2, decide_eq_true (show j < q + 1 by omega), decide_eq_false (show ¬ q ≤ j by omega)]; simp
              · rw [decide_eq_false w2, decide_eq_false (show ¬ j < q + 1 by omega), b_one _ (by omega), decide_eq_false (show ¬ j - q = 0 by omega)]; simp
  unfold wpX6_othersWithMarks
  exact loop n 0 0 C0 (by omega) (by omega) hI (mup.rf _) (fun b hb => absurd hb (by omega)) (fun j _ => by rw [b_0]; unfold lf0; rw [decide_eq_false (by omega)]; rfl)
/-- the class's next one -/
theorem next_ok {n t p : Nat} {v : Int32} {left : Nat → Bool} {C0 C : cM} {Q : Int32 → cM → Prop} (hn : 600 ≤ n) (h : sC t C0 C) (hp : p < cN C0) (hv : ∀ j, j < 16 → bt v j = left j) (hq : ∀ r : Int32, r.toInt = nxt (fun q => bnd (bm C0 p) (bm C0 q)) left (cN C0) → Q r C) : wpX6_nextToLookAt n p v C Q := by
  have nC : cN C = cN C0 := h.2.1.1
  have h16 := h.1.1.1
  have bb : ∀ q, bnd (bm C0 p) (bm C0 q) ≤ 80 := fun q => by
    have l1 : (bm C0 p).length ≤ 40 := marks_len _
    have l2 : (bm C0 q).length ≤ 40 := marks_len _
    have e1 := endsN_le (bm C0 p)
    have e2 := endsN_le (bm C0 q)
    unfold bnd; omega
  have m1 : (-1 : Int32).toInt = -1 := by decide
  have loop : ∀ (k q : Nat) (x3 x4 : Int32), q ≤ cN C0 → cN C0 < q + k → x3.toInt = nxt (fun q => bnd (bm C0 p) (bm C0 q)) left q → x4.toInt = (if nxt (fun q => bnd (bm C0 p) (bm C0 q)) left q < 0 then -1 else (bnd (bm C0 p) (bm C0 (nxt (fun q => bnd (bm C0 p) (bm C0 q)) left q).toNat) : Int)) → wpX6_nextToLookAt_8 n Q p v k x3 x4 (nI q) C := by
    intro k
    induction k with
    | zero => intro q x3 x4 a1 a2; exact absurd a2 (by omega)
    | succ k ih =>
      intro q x3 x4 hqN hqk h3 h4
      rw [wpX6_nextToLookAt_8, h.1.1.2.1, nC]
      refine pk_le (cN C0) q (fun z => ?_) (fun z => ?_)
      · have : q = cN C0 := by omega
        subst this
        exact hq x3 h3
      · rw [bit_u _ q (by omega), hv q (by omega)]
        have no : left q = false → wpX6_nextToLookAt_48 n (wpX6_nextToLookAt_8 n Q p v k) p v x3 x4 (nI q) none C := fun hl => by
          have e : nxt (fun q => bnd (bm C0 p) (bm C0 q)) left (q + 1) = nxt (fun q => bnd (bm C0 p) (bm C0 q)) left q := by
            rw [nxt, if_neg]; intro w; rw [hl] at w; cases w.1
          unfold wpX6_nextToLookAt_48
          refine ⟨fun _ => ?_, fun b w => (by cases w)⟩
          unfold wpX6_nextToLookAt_65
          refine br_i ?_ (fun c ec => ?_)
          · rw [i32_le, m1, h4]; split <;> omega
          · rw [ec, nI_1]; exact ih (q + 1) x3 x4 (by omega) (by omega) (by rw [e]; exact h3) (by rw [e]; exact h4)
        refine br_b (fun w => ?_) (fun w => ?_)
        · unfold wpX6_nextToLookAt_31
          exact br_0 (no w)
        · unfold wpX6_nextToLookAt_31
          refine br_1 (boardOf_yes h.1.1 (by omega) ⟨fun w2 => (by cases w2), fun b w2 => ?_⟩)
          cases w2
          unfold wpX6_nextToLookAt_48
          refine ⟨fun w2 => (by cases w2), fun b w2 => ?_⟩
          cases w2
          refine ⟨⟨by omega, by omega⟩, mostAgreeing_ok ⟨by omega, by omega⟩ ⟨by omega, by omega⟩ (sC_mk h hp) (sC_mk h z) (marks_len _) (marks_len _) ?_⟩
          have b80 := bb q
          unfold wpX6_nextToLookAt_65
          by_cases w3 : nxt (fun q => bnd (bm C0 p) (bm C0 q)) left q < 0 ∨ bnd (bm C0 p) (bm C0 (nxt (fun q => bnd (bm C0 p) (bm C0 q)) left q).toNat) < bnd (bm C0 p) (bm C0 q)
          · have e : nxt (fun q => bnd (bm C0 p) (bm C0 q)) left (q + 1) = (q : Int) := by rw [nxt, if_pos ⟨w, w3⟩]
            refine br_e ?_ (fun c ec => ?_)
            · rw [i32_le, tI _ (by omega), h4]; split <;> omega
            · rw [ec, nI_1]
              refine ih (q + 1) (nI q) _ (by omega) (by omega) (by rw [e, tI q (by omega)]) ?_
              rw [e, if_neg (by omega), Int.toNat_natCast, tI _ (by omega)]
          · have e : nxt (fun q => bnd (bm C0 p) (bm C0 q)) left (q + 1) = nxt (fun q => bnd (bm C0 p) (bm C0 q)) left q := by rw [nxt, if_neg]; intro w4; exact w3 w4.2
            refine br_i ?_ (fun c ec => ?_)
            · rw [i32_le, tI _ (by omega), h4]; split <;> omega
            · rw [ec, nI_1]; exact ih (q + 1) x3 x4 (by omega) (by omega) (by rw [e]; exact h3) (by rw [e]; exact h4)
  unfold wpX6_nextToLookAt
  exact loop n 0 (-1) (-1) (by omega) (by omega) (by rw [m1]; rfl) (by rw [m1]; rfl)
