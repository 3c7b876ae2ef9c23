/-! PURE PART: seek: the class's and the model's search -/
theorem bound_yes {n t p q : Nat} {C0 C : cM} {Q : Int32 → cM → Prop} (hn : 600 ≤ n) (h : sC t C0 C) (hp : p < cN C0) (hq16 : q < cN C0) (hq : ∀ C1, sC t C0 C1 → Q (nI (bnd (bm C0 p) (bm C0 q))) C1) : wpX6_bound n (nI p) (nI q) C Q := by
  have nC : cN C = cN C0 := h.2.1.1
  have h16 := h.1.1.1
  unfold wpX6_bound
  refine fb2 hn h.1.1 (fun C2 u2 a2 hbad => ?_) (fun p2 q2 C2 e1 e2 hp2 hq2 u2 a2 f1 f2 => ?_)
  · rw [tI p (by omega), tI q (by omega)] at hbad
    omega
  · have ep : p2 = p := (nI_inj (by omega) (by omega) e1).symm
    have eq : q2 = q := (nI_inj (by omega) (by omega) e2).symm
    subst ep
    subst eq
    have h2 := sC_up h (cInv_up h.1 u2 a2) (mup_8 u2)
    have n2 : cN C2 = cN C := u2.1
    exact ⟨⟨by omega, by omega⟩, mostAgreeing_ok ⟨by omega, by omega⟩ ⟨by omega, by omega⟩ (sC_mk h2 hp) (sC_mk h2 hq16) (marks_len _) (marks_len _) (hq C2 h2)⟩
theorem bound_no {n t p : Nat} {C0 C : cM} {Q : Int32 → cM → Prop} (hn : 600 ≤ n) (h : sC t C0 C) (hq : ∀ C1, sC t C0 C1 → Q (-1) C1) : wpX6_bound n (nI p) (-1) C Q := by
  have h16 := h.1.1.1
  unfold wpX6_bound
  refine fb2 hn h.1.1 (fun C2 u2 a2 _ => hq C2 (sC_up h (cInv_up h.1 u2 a2) (mup_8 u2))) (fun p2 q2 C2 e1 e2 hp2 hq2 u2 a2 f1 f2 => ?_)
  exact absurd e2.symm (nI_m1 (by omega))
theorem ahd_m1 {N : Nat} {fo sc : Int} (h : sOk N fo sc) : ahd (-1) (-1) sc fo = false := by
  unfold ahd; rw [decide_eq_false]; unfold sOk at h; omega
theorem ahd_m2 {N : Nat} {fo sc : Int} (h : sOk N fo sc) : ahd (-2) (-1) sc fo = false := by
  unfold ahd; rw [decide_eq_false]; unfold sOk at h; omega
theorem skF_none {B S : Nat → Nat} {N k lk : Nat} {fo sc : Int} {left : Nat → Bool} (h : nxt B left N < 0) : skF B S N k fo sc lk left = (fo, sc, lk) := by
  cases k with
  | zero => rfl
  | succ k => rw [skF, if_pos h]
theorem skF_stop {B S : Nat → Nat} {N k lk q : Nat} {fo sc : Int} {left : Nat → Bool} (h : nxt B left N = (q : Int)) (ha : ahd (B q) q sc fo = false) : skF B S N k fo sc lk left = (fo, sc, lk) := by
  cases k with
  | zero => rfl
  | succ k => rw [skF, h, if_neg (by omega), Int.toNat_natCast, ha, if_neg (by decide)]
theorem skF_take {B S : Nat → Nat} {N k lk q : Nat} {fo sc : Int} {left : Nat → Bool} (h : nxt B left N = (q : Int)) (ha : ahd (B q) q sc fo = true) (hb : ahd (S q) q sc fo = true) : skF B S N (k + 1) fo sc lk left = skF B S N k q (S q) (lk + 1) (dropq left q) := by
  rw [skF, h, if_neg (by omega), Int.toNat_natCast, ha, if_pos rfl, hb, if_pos rfl]
theorem skF_keep {B S : Nat → Nat} {N k lk q : Nat} {fo sc : Int} {left : Nat → Bool} (h : nxt B left N = (q : Int)) (ha : ahd (B q) q sc fo = true) (hb : ahd (S q) q sc fo = false) : skF B S N (k + 1) fo sc lk left = skF B S N k fo sc (lk + 1) (dropq left q) := by
  rw [skF, h, if_neg (by omega), Int.toNat_natCast, ha, if_pos rfl, hb, if_neg (by decide)]
theorem drop_bits {v : Int32} {left : Nat → Bool} {q : Nat} (hq : q < 16) (hv : ∀ j, j < 16 → bt v j = left j) : ∀ j, j < 16 → bt (v &&& ((1 <<< (nI q &&& 31)) ^^^ (-1))) j = dropq left q j := fun j hj => by
  unfold dropq
  rw [b_and, b_xor, b_m1 j (by omega), b_shl q (by omega) _ (by omega), hv j hj]
  by_cases z : j = q
  · subst z
    rw [decide_eq_true (Nat.le_refl j), Nat.sub_self, b_one 0 (by omega), decide_eq_false (show ¬ (j ≠ j) from fun w => w rfl)]; simp
  · rw [decide_eq_true z]
    by_cases w : q ≤ j
    · rw [decide_eq_true w, b_one _ (by omega), decide_eq_false (show ¬ j - q = 0 by omega)]; simp
    · rw [decide_eq_false w]; simp
theorem cseek_ok {n t p T : Nat} {x2 : Int32} {C0 : cM} {E : Int32 → Int32 → Int32 → Nat → cM → Prop} {R : Int × Int × Nat} (hn : 600 ≤ n) (ht : t < 1000) (h16 : cN C0 ≤ 16) (hp : p < cN C0) (hT : T ≤ 3) (eT : cI C0 0 6 = nI T) (hE : ∀ (x4 x5 : Int32) (lk gc : Nat) (C : cM), sC t C0 C → gc ≤ 16 → (x4.toInt, x5.toInt, lk) = R → E x4 x5 (nI lk) gc C) : ∀ (f k : Nat) (x4 x5 : Int32) (lk : Nat) (v : Int32) (left : Nat → Bool) (C : cM), k ≤ cN C0 → cN C0 < k + f → sC t C0 C → sOk (cN C0) x4.toInt x5.toInt → (∀ j, j < 16 → bt v j = left j) → skF (fun q => bnd (bm C0 p) (bm C0 q)) (fun q => scF (bm C0 p) (bm C0 q) T) (cN C0) (cN C0 - k) x4.toInt x5.toInt lk left = R → wpX6_seek_40 n E E (nI p) x2 p f x4 x5 (nI lk) v (nI k) k C := by
  have m1 : (-1 : Int32).toInt = -1 := by decide
  intro f
  induction f with
  | zero => intro k x4 x5 lk v left C a1 a2; exact absurd a2 (by omega)
  | succ f ih =>
    intro k x4 x5 lk v left C hk hkf hC hok hv hR
    have nC : cN C = cN C0 := hC.2.1.1
    rw [wpX6_seek_40, hC.1.1.2.1, nC]
    refine pk_le (cN C0) k (fun z => ?_) (fun z => ⟨by omega, ?_⟩)
    · rw [show cN C0 - k = 0 by omega, skF] at hR
      exact hE x4 x5 lk k C hC (by omega) hR
    · obtain ⟨m, em⟩ : ∃ m, cN C0 - k = m + 1 := ⟨cN C0 - k - 1, by omega⟩
      rw [em] at hR
      have stop : ∀ C1 gc (q : Int32), sC t C0 C1 → gc ≤ 16 → (x4.toInt, x5.toInt, lk) = R → wpX6_seek_88 n E (wpX6_seek_40 n E E (nI p) x2 p f) (nI p) x2 p x4 x5 (nI lk) v (nI k) q none gc C1 := fun C1 gc q h1 hg hr => by
        unfold wpX6_seek_88
        exact ⟨fun _ => hE x4 x5 lk gc C1 h1 hg hr, fun b w => (by cases w)⟩
      refine next_ok hn hC hp hv (fun r hr => ?_)
      rcases nxt_rng (fun q => bnd (bm C0 p) (bm C0 q)) left (cN C0) with ⟨w1, w2⟩ | ⟨q, w1, w2, w3⟩
      · have er : r = -1 := eq_toInt (by rw [hr, w1, m1])
        rw [er]
        refine bound_no hn hC (fun C1 h1 => isAhead_ok ?_)
        rw [m1, ahd_m1 hok]
        exact br_0 (stop C1 k (-1) h1 (by omega) (by rw [← hR, skF_none (by omega)]))
      · have er : r = nI q := eq_toInt (by rw [hr, w2, tI q (by omega)])
        rw [er]
        have b80 : bnd (bm C0 p) (bm C0 q) ≤ 80 := by
          have l1 : (bm C0 p).length ≤ 40 := marks_len _
          have l2 : (bm C0 q).length ≤ 40 := marks_len _
          have e1 := endsN_le (bm C0 p)
          have e2 := endsN_le (bm C0 q)
          unfold bnd; omega
        refine bound_yes hn hC hp w1 (fun C1 h1 => isAhead_ok ?_)
        rw [tI _ (by omega), tI q (by omega)]
        refine br_b (fun a1 => ?_) (fun a1 => ⟨⟨by rw [h1.2.1.1]; exact hp, by omega⟩, by omega, ?_⟩)
        · exact stop C1 k (nI q) h1 (by omega) (by rw [← hR, skF_stop w2 a1])
        · have n1 : cN C1 = cN C0 := h1.2.1.1
          refine meetingOf_ok hn ht h1.1 hT (by rw [h1.2.1.2.1]; exact eT) (fun C2 hI2 m2 hbad => ?_) (fun p2 q2 C2 e1 e2 hp2 hq2 hI2 m2 hk2 hB => ⟨fun w => (by cases w), fun b w => ?_⟩)
          · rw [tI p (by omega), tI q (by omega)] at hbad
            omega
          · cases w
            have ep : p2 = p := (nI_inj (by omega) (by omega) e1).symm
            have eq : q2 = q := (nI_inj (by omega) (by omega) e2).symm
            subst ep
            subst eq
            rw [mup_bm h1.2.1 (by omega), mup_bm h1.2.1 (by omega)] at hB
            have es := scF_is hB
            have s40 := scF_40 (bm C0 p2) (bm C0 q2) T
            have h2 := sC_up h1 hI2 m2
            unfold wpX6_seek_88
            refine ⟨fun w => (by cases w), fun b w y6 e6 y7 e7 => ?_⟩
            cases w
            have bits : ∀ j, j < 16 → bt y7 j = dropq left q2 j := by rw [e7]; exact drop_bits (by omega) hv
            refine ⟨hk2, by omega, isAhead_ok ?_⟩
            rw [es, tI _ (by omega), tI q2 (by omega), e6, nI_1]
            refine br_b (fun a2 c ec => ?_) (fun a2 => ⟨hk2, fun y5 e5 c ec => ?_⟩)
            · rw [ec, nI_1]
              refine ih (k + 1) x4 x5 (lk + 1) y7 _ C2 (by omega) (by omega) h2 hok bits ?_
              rw [show cN C0 - (k + 1) = m by omega, ← hR, skF_keep w2 a1 a2]
            · rw [ec, nI_1, e5]
              refine ih (k + 1) (nI q2) _ (lk + 1) y7 _ C2 (by omega) (by omega) h2 ?_ bits ?_
              · rw [tI q2 (by omega), tI _ (by omega)]; unfold sOk; omega
              · rw [show cN C0 - (k + 1) = m by omega, ← hR, skF_take w2 a1 a2, tI q2 (by omega), tI _ (by omega)]
/-- the model in the midst of a search -/
def sM (C : cM) (left : Nat → Bool) (M : mM) : Prop := mRel C M ∧ (∀ q, q < cN C → mMk (bm C q) q M) ∧ ∀ q, q < cN C → M 20 q = b2i (!left q)
theorem mnext_ok {n p : Nat} {x2 x3 x4 x5 : Int32} {left : Nat → Bool} {C : cM} {M : mM} {E : Int32 → mM → Prop} (hn : 600 ≤ n) (h16 : cN C ≤ 16) (hp : p < cN C) (h : sM C left M) (hE : ∀ y : Int32, y.toInt = nxt (fun q => bnd (bm C p) (bm C q)) left (cN C) → E y M) : wpX7_seek_95 n E (nI p) x2 x3 x4 x5 n (-1) 0 M := by
  obtain ⟨hr, hm, hs⟩ := h
  have m1 : (-1 : Int32).toInt = -1 := by decide
  have z0 : (0 : Int32).toInt = 0 := rfl
  have bb : ∀ q, bnd (bm C p) (bm C q) ≤ 80 := fun q => by
    have l1 : (bm C p).length ≤ 40 := marks_len _
    have l2 : (bm C q).length ≤ 40 := marks_len _
    have e1 := endsN_le (bm C p)
    have e2 := endsN_le (bm C q)
    unfold bnd; omega
  have loop : ∀ (k q : Nat) (x7 : Int32), q ≤ cN C → cN C < q + k → x7.toInt = nxt (fun q => bnd (bm C p) (bm C q)) left q → wpX7_seek_95 n E (nI p) x2 x3 x4 x5 k x7 (nI q) M := by
    intro k
    induction k with
    | zero => intro q x7 a1 a2; exact absurd a2 (by omega)
    | succ k ih =>
      intro q x7 hq hqk h7
      rw [wpX7_seek_95, hr.1]
      refine pk_le (cN C) q (fun z => ?_) (fun z => ⟨pk_in q 16 (by omega), ?_⟩)
      · have : q = cN C := by omega
        subst this
        exact hE x7 h7
      · rw [cl_nI (by omega), hs q z]
        have keep : nxt (fun q => bnd (bm C p) (bm C q)) left (q + 1) = nxt (fun q => bnd (bm C p) (bm C q)) left q → wpX7_seek_143 n (wpX7_seek_95 n E (nI p) x2 x3 x4 x5 k) (nI p) x2 x3 x4 x5 (nI q) x7 M := fun e => by
          unfold wpX7_seek_143
          intro c ec
          rw [ec, nI_1]
          exact ih (q + 1) x7 (by omega) (by omega) (by rw [e]; exact h7)
        have take : nxt (fun q => bnd (bm C p) (bm C q)) left (q + 1) = (q : Int) → wpX7_seek_143 n (wpX7_seek_95 n E (nI p) x2 x3 x4 x5 k) (nI p) x2 x3 x4 x5 (nI q) (nI q) M := fun e => by
          unfold wpX7_seek_143
          intro c ec
          rw [ec, nI_1]
          exact ih (q + 1) (nI q) (by omega) (by omega) (by rw [e, tI q (by omega)])
        refine br_bn (fun w => ?_) (fun w => keep ?_)
        · have hl : left q = true := by cases e : left q with | true => rfl | false => rw [e] at w; cases w
          refine br_d (fun w2 => take ?_) (fun w2 => ?_)
          · rw [i32_lt, z0] at w2
            rw [nxt, if_pos ⟨hl, Or.inl (by omega)⟩]
          · rw [i32_lt, z0] at w2
            rcases nxt_rng (fun q => bnd (bm C p) (bm C q)) left q with ⟨v1, v2⟩ | ⟨j, v1, v2, v3⟩
            · omega
            · have e7 : x7 = nI j := eq_toInt (by rw [h7, v2, tI j (by omega)])
              rw [e7] at keep ⊢
              have bq := bb q
              have bj := bb j
              refine boundOf_ok (by omega) (by omega) (by omega) (hm p hp) (hm q z) (marks_len _) (marks_len _) (marks_ok _) (marks_ok _) ?_
              refine boundOf_ok (by omega) (by omega) (by omega) (hm p hp) (hm j (by omega)) (marks_len _) (marks_len _) (marks_ok _) (marks_ok _) ?_
              refine pk_le (bnd (bm C p) (bm C q)) (bnd (bm C p) (bm C j)) (fun w3 => keep ?_) (fun w3 => take ?_)
              · rw [nxt, if_neg]
                intro w4
                rw [v2, Int.toNat_natCast] at w4
                omega
              · rw [nxt, if_pos ⟨hl, Or.inr (by rw [v2, Int.toNat_natCast]; exact w3)⟩]
        · have hl : left q = false := by cases e : left q with | false => rfl | true => rw [e] at w; cases w
          rw [nxt, if_neg]
          intro w4
          rw [hl] at w4; cases w4.1
  exact loop n 0 (-1) (by omega) (by omega) (by rw [m1]; rfl)
theorem mseek_ok {n p T : Nat} {x2 : Int32} {C : cM} {E : Int32 → Int32 → Int32 → mM → Prop} {R : Int × Int × Nat} (hn : 600 ≤ n) (h16 : cN C ≤ 16) (hp : p < cN C) (hT : T ≤ 3) (eT : cI C 0 6 = nI T) (hE : ∀ (x3 x4 : Int32) (lk : Nat) (M : mM), mRel C M → (x3.toInt, x4.toInt, lk) = R → E x3 x4 (nI lk) M) : ∀ (f m : Nat) (x3 x4 : Int32) (lk : Nat) (left : Nat → Bool) (M : mM), m + 1 < f → ct left (cN C) ≤ m → sM C left M → sOk (cN C) x3.toInt x4.toInt → skF (fun q => bnd (bm C p) (bm C q)) (fun q => scF (bm C p) (bm C q) T) (cN C) m x3.toInt x4.toInt lk left = R → wpX7_seek_84 n E (nI p) x2 f x3 x4 (nI lk) 1 M := by
  have m2 : (-2 : Int32).toInt = -2 := by decide
  have z0 : (0 : Int32).toInt = 0 := rfl
  intro f
  induction f with
  | zero => intro m x3 x4 lk left M a1; exact absurd a1 (by omega)
  | succ f ih =>
    intro m x3 x4 lk left M hmf hct hM hok hR
    rw [wpX7_seek_84]
    refine br_1 (mnext_ok hn h16 hp hM (fun y hy => ?_))
    have over : ∀ (y : Int32), (x3.toInt, x4.toInt, lk) = R → wpX7_seek_195 n (wpX7_seek_84 n E (nI p) x2 f) (nI p) x2 x3 x4 (nI lk) y 0 M := fun y hr => by
      unfold wpX7_seek_195
      refine br_0 ?_
      cases f with
      | zero => omega
      | succ f => rw [wpX7_seek_84]; exact br_0 (hE x3 x4 lk M hM.1 hr)
    have cmp : ∀ (s : Int32) (b : Bool), b = ahd s.toInt y.toInt x4.toInt x3.toInt → wpX7_seek_195 n (wpX7_seek_84 n E (nI p) x2 f) (nI p) x2 x3 x4 (nI lk) y (b2i b) M → wpX7_seek_168 n (wpX7_seek_84 n E (nI p) x2 f) (nI p) x2 x3 x4 (nI lk) y s M := fun s b hb h195 => by
      unfold ahd at hb
      unfold wpX7_seek_168
      refine br_d (fun w => ?_) (fun w => ⟨fun w2 => ?_, fun w2 => br_d (fun w3 => ?_) (fun w3 => ?_)⟩)
      · rw [i32_lt] at w
        rw [decide_eq_true (Or.inl w)] at hb
        subst hb; exact h195
      · rw [i32_lt] at w
        have w4 : ¬ s.toInt = x4.toInt := fun e => w2 (eq_toInt e)
        rw [decide_eq_false (by omega)] at hb
        subst hb; exact h195
      · rw [i32_lt] at w
        rw [i32_le] at w3
        rw [decide_eq_false (by omega)] at hb
        subst hb; exact h195
      · rw [i32_le] at w3
        rw [decide_eq_true (Or.inr ⟨by rw [w2], by omega⟩)] at hb
        subst hb; exact h195
    rcases nxt_rng (fun q => bnd (bm C p) (bm C q)) left (cN C) with ⟨w1, w2⟩ | ⟨q, w1, w2, w3⟩
    · rw [w1] at hy
      refine br_e (by rw [i32_le, z0]; omega) (cmp (-2) false ?_ (over y (by rw [← hR, skF_none (by omega)])))
      rw [m2, hy, ahd_m2 hok]
    · have ey : y = nI q := eq_toInt (by rw [hy, w2, tI q (by omega)])
      refine br_i (by rw [i32_le, z0, hy, w2]; omega) ?_
      subst ey
      have b80 : bnd (bm C p) (bm C q) ≤ 80 := by
        have l1 : (bm C p).length ≤ 40 := marks_len _
        have l2 : (bm C q).length ≤ 40 := marks_len _
        have e1 := endsN_le (bm C p)
        have e2 := endsN_le (bm C q)
        unfold bnd; omega
      refine boundOf_ok (by omega) (by omega) (by omega) (hM.2.1 p hp) (hM.2.1 q w1) (marks_len _) (marks_len _) (marks_ok _) (marks_ok _) ?_
      have cr := ct_rm (q := left) w3 w1
      obtain ⟨m', em⟩ : ∃ m', m = m' + 1 := ⟨m - 1, by omega⟩
      subst em
      refine cmp _ (ahd (bnd (bm C p) (bm C q)) q x4.toInt x3.toInt) (by rw [tI _ (by omega), tI q (by omega)]) ?_
      cases a1 : ahd (bnd (bm C p) (bm C q)) q x4.toInt x3.toInt with
      | false => exact over (nI q) (by rw [← hR, skF_stop w2 a1])
      | true =>
        unfold wpX7_seek_195
        refine br_1 ⟨pk_in q 16 (by omega), fun M1 e1 y5 e5 => ?_⟩
        rw [cl_nI (by omega)] at e1
        have k1 : ∀ c, c ≠ 20 → M1 c = M c := fun c hc => by rw [e1]; exact st_ne _ _ _ hc
        have mk1 : ∀ b, b < cN C → mMk (bm C b) b M1 := fun b hb => by
          unfold mMk
          rw [k1 8 (by decide), k1 9 (by decide), k1 10 (by decide), k1 11 (by decide)]
          exact hM.2.1 b hb
        refine findBest_ok (by omega) (by omega) (by omega) hT (by rw [k1 0 (by decide), hM.1.2.1]; exact eT) (mk1 p hp) (mk1 q w1) (marks_len _) (marks_len _) (marks_ok _) (marks_ok _) (fun M2 b2 hB => ?_)
        have es := scF_is hB
        have s40 := scF_40 (bm C p) (bm C q) T
        have hM2 : sM C (dropq left q) M2 := by
          refine ⟨mRel_m hM.1 (by rw [b2.2 1 (by omega), k1 0 (by decide)]) (by rw [b2.2 2 (by omega), k1 0 (by decide)]) (by rw [b2.2 4 (by omega), k1 0 (by decide)]) (by rw [b2.1 3 (by simp), k1 3 (by decide)]), fun b hb => mMk_bfr (mk1 b hb) b2, fun b hb => ?_⟩
          rw [b2.1 20 (by simp), e1]
          unfold dropq
          by_cases w : b = q
          · rw [w, st_at, decide_eq_false (fun v => v rfl), Bool.and_false]; rfl
          · rw [st_off _ _ w, decide_eq_true w, Bool.and_true]; exact hM.2.2 b hb
        have c2 : ct (dropq left q) (cN C) ≤ m' := by
          have e : ct (dropq left q) (cN C) = ct (fun j => left j && decide (j ≠ q)) (cN C) := rfl
          omega
        have keep : ahd (scF (bm C p) (bm C q) T) q x4.toInt x3.toInt = false → wpX7_seek_84 n E (nI p) x2 f x3 x4 y5 1 M2 := fun a2 => by
          rw [e5, nI_1]
          exact ih m' x3 x4 (lk + 1) _ M2 (by omega) c2 hM2 hok (by rw [← hR, skF_keep w2 a1 a2])
        have take : ahd (scF (bm C p) (bm C q) T) q x4.toInt x3.toInt = true → wpX7_seek_244 n (wpX7_seek_84 n E (nI p) x2 f) (nI p) x2 y5 1 (nI q) M2 := fun a2 => by
          unfold wpX7_seek_244
          intro y4 e4
          rw [e4, e5, nI_1, es]
          refine ih m' (nI q) _ (lk + 1) _ M2 (by omega) c2 hM2 ?_ ?_
          · rw [tI q (by omega), tI _ (by omega)]; unfold sOk; omega
          · rw [tI q (by omega), tI _ (by omega), ← hR, skF_take w2 a1 a2]
        have e16 : (M2 0 16).toInt = (scF (bm C p) (bm C q) T : Int) := by rw [es, tI _ (by omega)]
        have eq : (nI q).toInt = (q : Int) := tI q (by omega)
        refine br_d (fun w => take ?_) (fun w => ⟨fun w4 => keep ?_, fun w4 => br_d (fun w5 => keep ?_) (fun w5 => take ?_)⟩)
        · rw [i32_lt, e16] at w
          unfold ahd; rw [decide_eq_true (Or.inl w)]
        · rw [i32_lt, e16] at w
          have w6 : ¬ (scF (bm C p) (bm C q) T : Int) = x4.toInt := fun e => w4 (eq_toInt (by rw [e16, e]))
          unfold ahd; rw [decide_eq_false (by omega)]
        · rw [i32_lt, e16] at w
          rw [i32_le, eq] at w5
          unfold ahd; rw [decide_eq_false (by omega)]
        · rw [i32_le, eq] at w5
          have w6 : (scF (bm C p) (bm C q) T : Int) = x4.toInt := by rw [← e16, w4]
          unfold ahd; rw [decide_eq_true (Or.inr ⟨w6, by omega⟩)]
theorem mseek29 {n p : Nat} {x2 : Int32} {C : cM} {M0 : mM} {E : mM → Prop} (hn : 600 ≤ n) (h16 : cN C ≤ 16) (hp : p < cN C) (hr : mRel C M0) (hE : ∀ M, sM C (lf0 (fun b => bm C b) p (cN C)) M → E M) : wpX7_seek_29 n E (nI p) x2 n 0 M0 := by
  have loop : ∀ (k q : Nat) (M : mM), q ≤ cN C → cN C < q + k → mRel C M → (∀ b, b < q → mMk (bm C b) b M) → (∀ b, b < q → M 20 b = b2i (!lf0 (fun b => bm C b) p (cN C) b)) → wpX7_seek_29 n E (nI p) x2 k (nI q) M := by
    intro k
    induction k with
    | zero => intro q M a1 a2; exact absurd a2 (by omega)
    | succ k ih =>
      intro q M hq hqk hrM hm hs
      rw [wpX7_seek_29, hrM.1]
      refine pk_le (cN C) q (fun z => ?_) (fun z => ?_)
      · have : q = cN C := by omega
        subst this
        exact hE M ⟨hrM, hm, hs⟩
      · refine findMarks_ok hn (by omega) (fun M1 f1 o1 mk1 => ?_)
        rw [mRel_G hrM z] at mk1
        have mk1 : mMk (bm C q) q M1 := mk1
        have hr1 : mRel C M1 := mRel_fr hrM f1 (by simp) (by simp)
        have go : ∀ b : Bool, b = (!lf0 (fun b => bm C b) p (cN C) q) → wpX7_seek_66 n (wpX7_seek_29 n E (nI p) x2 k) (nI p) x2 (nI q) (b2i b) M1 := fun b hb => by
          unfold wpX7_seek_66
          refine ⟨pk_in q 16 (by omega), b2i_bz b, fun M2 e2 c ec => ?_⟩
          rw [cl_nI (by omega)] at e2
          rw [ec, nI_1]
          have k2 : ∀ c, c ≠ 20 → M2 c = M1 c := fun c hc => by rw [e2]; exact st_ne _ _ _ hc
          refine ih (q + 1) M2 (by omega) (by omega) (mRel_m hr1 (by rw [k2 0 (by decide)]) (by rw [k2 0 (by decide)]) (by rw [k2 0 (by decide)]) (k2 3 (by decide))) (fun j hj => ?_) (fun j hj => ?_)
          · have mj : mMk (bm C j) j M1 := by
              by_cases w : j = q
              · rw [w]; exact mk1
              · exact mMk_oth (hm j (by omega)) (marks_len _) o1 w
            unfold mMk
            rw [k2 8 (by decide), k2 9 (by decide), k2 10 (by decide), k2 11 (by decide)]
            exact mj
          · rw [e2]
            by_cases w : j = q
            · rw [w, st_at, hb]
            · rw [st_off _ _ w, f1 20 (by simp)]; exact hs j (by omega)
        have l40 : (bm C q).length ≤ 40 := marks_len _
        have lq : lf0 (fun b => bm C b) p (cN C) q = (decide (q ≠ p) && decide (0 < (bm C q).length)) := by unfold lf0; rw [decide_eq_true z, Bool.true_and]
        by_cases zp : q = p
        · exact br_i (by rw [zp]) (go true (by rw [lq, decide_eq_false (fun w => w zp)]; rfl))
        · refine br_e (fun w => zp (nI_inj (by omega) (by omega) w)) ⟨pk_in q 16 (by omega), ?_⟩
          rw [cl_nI (by omega), mk1.1]
          by_cases w : (bm C q).length = 0
          · exact br_ni (by rw [w]; rfl) (go true (by rw [lq, decide_eq_false (show ¬ 0 < (bm C q).length by omega), Bool.and_false]; rfl))
          · exact br_ne (fun v => w (nI_inj (b := 0) (by omega) (by omega) v)) (go false (by rw [lq, decide_eq_true zp, decide_eq_true (show 0 < (bm C q).length by omega)]; rfl))
  exact loop n 0 M0 (by omega) (by omega) hr (fun b hb => absurd hb (by omega)) (fun b hb => absurd hb (by omega))
theorem s_seek {n t : Nat} {C : cM} {M : mM} {x1 x2 : Int32} (hn : 600 ≤ n) (ht : t < 1000) (hR : Rel t C M) : wpX6_seek n x1 x2 C (fun r C1 => wpX7_seek n x1 x2 M (fun r1 M1 => r = r1 ∧ Rel (t + 1) C1 M1)) := by
  have h16 := hR.1.1.1
  have m1 : (-1 : Int32).toInt = -1 := by decide
  have mno : ∀ C1, Rel t C1 M → ((x1.toInt < 0 ∨ (cN C1 : Int) ≤ x1.toInt) ∨ (x2.toInt < 0 ∨ 3 ≤ x2.toInt)) → wpX7_seek n x1 x2 M (fun r1 M1 => -1 = r1 ∧ Rel (t + 1) C1 M1) := fun C1 hR1 hbad => by
    unfold wpX7_seek
    intro M2 e2
    have h2 : Rel t C1 M2 := by rw [e2]; exact Rel_0 hR1
    have fin : (-1 : Int32) = -1 ∧ Rel (t + 1) C1 M2 := ⟨rfl, Rel_mono h2⟩
    have h161 := hR1.1.1.1
    rcases i32_cases x1 (cN C1) (by omega) with ⟨p, hp, rfl⟩ | ho
    · refine isPrint_yes h2.2.1 h161 hp (br_1 (in_no ?_ (br_0n fin)))
      rw [tI p (by omega)] at hbad
      rw [i64_lt, i64_lt, i64_of]
      show x2.toInt < (0 : Int) ∨ (2 : Int) < x2.toInt
      omega
    · exact isPrint_no h2.2.1 h161 ho (br_0 fin)
  unfold wpX6_seek
  refine ⟨by omega, ?_⟩
  rcases i32_cases x1 (cN C) (by omega) with ⟨p, hp, rfl⟩ | ho
  · refine freshBoard_yes hn hR.1.1 hp (fun C2 u2 a2 f2 s2 => ⟨fun z => (by cases z), fun b z => ?_⟩)
    cases z
    have hR2 := Rel_up hR u2 a2
    have n2 : cN C2 = cN C := u2.1
    rcases i32_cases x2 3 (by omega) with ⟨w, hw, rfl⟩ | ho2
    · refine br_e (by rw [i32_lt, tI w (by omega)]; show ¬ (w : Int) < 0; omega) (pk_le w 2 (fun _ => ?_) (fun z => absurd z (by omega)))
      obtain ⟨T, hT, eT⟩ := hR2.1.2.1
      refine others_ok hn hR2.1 (by omega) (fun C3 v hC3 hv => ?_)
      refine cseek_ok (p := p) hn ht (by omega) (by omega) hT eT (fun x4 x5 lk gc C4 hC4 hgc hres => ?_) n 0 (-1) (-1) 0 v (lf0 (fun b => bm C2 b) p (cN C2)) C3 (by omega) (by omega) hC3 (Or.inl ⟨m1, m1⟩) (fun j hj => hv j (by omega)) rfl
      have mrun : ∀ r : Int32, (w = 0 → r = x4) → (w = 1 → r = x5) → (w = 2 → r = nI lk) → wpX7_seek n (nI p) (nI w) M (fun r1 M1 => r = r1 ∧ Rel (t + 1) C4 M1) := fun r r0 r1 r2 => by
        unfold wpX7_seek
        intro M2 eM
        have h2 : Rel t C2 M2 := by rw [eM]; exact Rel_0 hR2
        refine isPrint_yes h2.2.1 h2.1.1.1 (by omega) (br_1 ?_)
        refine in_yes (by rw [i64_le, i64_of, tI w (by omega)]; show (0 : Int) ≤ w; omega) (by rw [i64_le, i64_of, tI w (by omega)]; show (w : Int) ≤ 2; omega) (br_1n ?_)
        refine mseek29 hn h2.1.1.1 (by omega) h2.2 (fun M3 h3 => ?_)
        have cl := ct_le (lf0 (fun b => bm C2 b) p (cN C2)) (cN C2)
        refine mseek_ok (p := p) (T := T) hn h2.1.1.1 (by omega) hT eT (fun y3 y4 lk2 M4 hr4 hres2 => ?_) n (cN C2) (-1) (-1) 0 _ M3 (by omega) cl h3 (Or.inl ⟨m1, m1⟩) rfl
        have fin : Rel (t + 1) C4 M4 := Rel_mono ⟨hC4.1, mRel_mup hr4 h2.1.1.1 hC4.2.1⟩
        have hres2 := hres2.trans hres.symm
        have q1 : y3 = x4 := eq_toInt (congrArg (fun z => z.1) hres2)
        have q2 : y4 = x5 := eq_toInt (congrArg (fun z => z.2.1) hres2)
        have q3 : lk2 = lk := congrArg (fun z => z.2.2) hres2
        rcases (show w = 0 ∨ w = 1 ∨ w = 2 by omega) with rfl | rfl | rfl
        · exact br_ni rfl ⟨by rw [r0 rfl, q1], fin⟩
        · exact br_ne (by decide) (br_ni rfl ⟨by rw [r1 rfl, q2], fin⟩)
        · exact br_ne (by decide) (br_ne (by decide) ⟨by rw [r2 rfl, q3], fin⟩)
      unfold wpX6_seek_146
      rcases (show w = 0 ∨ w = 1 ∨ w = 2 by omega) with rfl | rfl | rfl
      · exact br_ni rfl ⟨hgc, mrun _ (fun _ => rfl) (fun z => absurd z (by decide)) (fun z => absurd z (by decide))⟩
      · exact br_ne (by decide) (br_ni rfl ⟨hgc, mrun _ (fun z => absurd z (by decide)) (fun _ => rfl) (fun z => absurd z (by decide))⟩)
      · exact br_ne (by decide) (br_ne (by decide) ⟨hgc, mrun _ (fun z => absurd z (by decide)) (fun z => absurd z (by decide)) (fun _ => rfl)⟩)
    · have hbad := mno C2 hR2 (Or.inr ho2)
      refine br_d (fun _ => ⟨by omega, hbad⟩) (fun z => br_e ?_ ⟨by omega, hbad⟩)
      rw [i32_lt] at z
      have z : ¬ x2.toInt < (0 : Int) := z
      rw [i32_le]
      show ¬ x2.toInt ≤ (2 : Int)
      omega
  · exact freshBoard_no hR.1.1 ho ⟨fun _ => ⟨by omega, mno C hR (Or.inl ho)⟩, fun b z => (by cases z)⟩
