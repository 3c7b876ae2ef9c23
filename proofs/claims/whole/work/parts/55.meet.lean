/-! PURE PART: meetings; best -/
/-- what a meeting leaves of the book -/
def mup (C C1 : cM) : Prop := cN C1 = cN C ∧ cI C1 0 = cI C 0 ∧ (∀ b, b < 16 → cI C1 (64 + 8 * b + 1) = cI C (64 + 8 * b + 1)) ∧ ∀ b, b < cN C → cI C (64 + 8 * b) 8 = 0 → cI C1 (64 + 8 * b) 8 = 0
theorem mup.rf (C : cM) : mup C C := ⟨rfl, rfl, fun _ _ => rfl, fun _ _ h => h⟩
theorem mup.tr {A B C : cM} (h1 : mup A B) (h2 : mup B C) : mup A C := ⟨h2.1.trans h1.1, h2.2.1.trans h1.2.1, fun b hb => (h2.2.2.1 b hb).trans (h1.2.2.1 b hb), fun b hb h => h2.2.2.2 b (by rw [h1.1]; exact hb) (h1.2.2.2 b hb h)⟩
theorem mup_8 {C C1 : cM} (h : upd8 C C1) : mup C C1 := ⟨h.1, h.2.2.1 0 (by omega), fun b hb => (h.2.2.2.2.1 b hb).1, h.2.2.2.2.2⟩
theorem mup_bm {C C1 : cM} (h : mup C C1) {b : Nat} (hb : b < 16) : bm C1 b = bm C b := by unfold bm bG; rw [h.2.2.1 b hb]
theorem mRel_mup {C C1 : cM} {M : mM} (h : mRel C M) (hn : cN C ≤ 16) (hu : mup C C1) : mRel C1 M := by
  unfold mRel
  rw [hu.1, hu.2.1]
  exact ⟨h.1, h.2.1, h.2.2.1, fun b hb y hy => by rw [hu.2.2.1 b (by omega)]; exact h.2.2.2.1 b hb y hy, h.2.2.2.2⟩
theorem cInv_newT {t k : Nat} {C : cM} (ht : t < 1000) (h : cInv t C) (hk : k < 256) (hp : k / 16 < cN C) (hq : k % 16 < cN C) : cInv t (cnewT C k) := by
  have hi : ∀ i, i ≠ 256 + k → cI (cnewT C k) i = cI C i := fun i hi => cnewT_I hi
  have hN : cN (cnewT C k) = cN C := rfl
  have hE : ∀ j, cE (cnewT C k) j = if j = k then true else cE C j := fun j => rfl
  obtain ⟨⟨a1, a2, a3⟩, b2, b3, b4, b5⟩ := h
  refine ⟨⟨by rw [hN]; exact a1, by rw [hN, hi 0 (by omega)]; exact a2, fun b hb => ?_⟩, by rw [hi 0 (by omega)]; exact b2, fun b hb => by rw [hN] at hb; rw [hi _ (by omega)]; exact b3 b hb, fun j hj hj2 => ?_, fun j hj hj2 => ?_⟩
  · rw [hN] at hb
    refine ⟨⟨by rw [hi _ (by omega)]; exact (a3 b hb).1.1, by rw [hi _ (by omega)]; exact (a3 b hb).1.2⟩, fun hs => ?_⟩
    rw [hi _ (by omega)] at hs
    have hf := (a3 b hb).2 hs
    unfold bFresh bG cMk
    rw [hi (64 + 8 * b) (by omega), hi (64 + 8 * b + 1) (by omega), hi (64 + 8 * b + 2) (by omega), hi (64 + 8 * b + 3) (by omega), hi (64 + 8 * b + 4) (by omega), hi (64 + 8 * b + 5) (by omega)]
    exact hf
  · rw [hN]
    by_cases z : j = k
    · rw [z]; exact ⟨hp, hq⟩
    · rw [hE, if_neg z] at hj2; exact b4 j hj hj2
  · by_cases z : j = k
    · subst z
      refine ⟨fun T hT e1 => ?_, ?_⟩
      · rw [cnewT_Z] at e1
        have e1 : (-1 : Int32) = nI T := e1
        exact absurd e1.symm (nI_m1 (by omega))
      · unfold mtO
        rw [cnewT_Z, hi (64 + 8 * (j / 16)) (by omega), hi (64 + 8 * (j % 16)) (by omega)]
        obtain ⟨x, x1, x2⟩ := b3 _ hp
        obtain ⟨y, y1, y2⟩ := b3 _ hq
        rw [x2, y2, tI x (by omega), tI y (by omega)]
        show (-1 : Int) ≤ _ ∧ (-1 : Int) ≤ _
        omega
    · rw [hE, if_neg z] at hj2
      obtain ⟨c1, c2⟩ := b5 j hj hj2
      unfold mtI mtO bm bG
      rw [hi (256 + j) (by omega), hi (64 + 8 * (j / 16)) (by omega), hi (64 + 8 * (j % 16)) (by omega), hi (64 + 8 * (j / 16) + 1) (by omega), hi (64 + 8 * (j % 16) + 1) (by omega)]
      exact ⟨c1, c2⟩
theorem cInv_meet {t k T : Nat} {C C1 : cM} (h : cInv t C) (hk : k < 256) (hT : T ≤ 3) (hi : ∀ i, (i = 0 ∨ (64 ≤ i ∧ i ≠ 256 + k)) → cI C1 i = cI C i) (hN : cN C1 = cN C) (hE : cE C1 = cE C) (h2 : cI C1 (256 + k) 2 = cI C (64 + 8 * (k / 16)) 7) (h3 : cI C1 (256 + k) 3 = cI C (64 + 8 * (k % 16)) 7) (h4 : cI C1 (256 + k) 4 = nI T) (hB : BF (bm C (k / 16)) (bm C (k % 16)) T (cI C1 (256 + k) 5) (cI C1 (256 + k) 6) (cI C1 (256 + k) 7) (cI C1 (256 + k) 8)) : cInv t C1 := by
  obtain ⟨⟨a1, a2, a3⟩, b2, b3, b4, b5⟩ := h
  refine ⟨⟨by rw [hN]; exact a1, by rw [hN, hi 0 (by omega)]; exact a2, fun b hb => ?_⟩, by rw [hi 0 (by omega)]; exact b2, fun b hb => by rw [hN] at hb; rw [hi _ (by omega)]; exact b3 b hb, fun j hj hj2 => by rw [hN]; rw [hE] at hj2; exact b4 j hj hj2, fun j hj hj2 => ?_⟩
  · rw [hN] at hb
    refine ⟨⟨by rw [hi _ (by omega)]; exact (a3 b hb).1.1, by rw [hi _ (by omega)]; exact (a3 b hb).1.2⟩, fun hs => ?_⟩
    rw [hi _ (by omega)] at hs
    have hf := (a3 b hb).2 hs
    unfold bFresh bG cMk
    rw [hi (64 + 8 * b) (by omega), hi (64 + 8 * b + 1) (by omega), hi (64 + 8 * b + 2) (by omega), hi (64 + 8 * b + 3) (by omega), hi (64 + 8 * b + 4) (by omega), hi (64 + 8 * b + 5) (by omega)]
    exact hf
  · rw [hE] at hj2
    by_cases z : j = k
    · subst z
      refine ⟨fun T2 hT2 e1 e2 e3 => ?_, ?_⟩
      · rw [h4] at e1
        have : T = T2 := nI_inj (by omega) (by omega) e1
        subst this
        obtain ⟨s, u, _, s2, s3, s4⟩ := hB
        have eb : ∀ b, b < 16 → bm C1 b = bm C b := fun b hb => by unfold bm bG; rw [hi _ (by omega)]
        rw [eb _ (by omega), eb _ (by omega)]
        exact ⟨s, u, _, _, s4, s2, s3, rfl, rfl⟩
      · unfold mtO
        rw [h2, h3, hi (64 + 8 * (j / 16)) (by omega), hi (64 + 8 * (j % 16)) (by omega)]
        exact ⟨Int.le_refl _, Int.le_refl _⟩
    · obtain ⟨c1, c2⟩ := b5 j hj hj2
      unfold mtI mtO bm bG
      rw [hi (256 + j) (by omega), hi (64 + 8 * (j / 16)) (by omega), hi (64 + 8 * (j % 16)) (by omega), hi (64 + 8 * (j / 16) + 1) (by omega), hi (64 + 8 * (j % 16) + 1) (by omega)]
      exact ⟨c1, c2⟩
theorem stillHolds_ok {n k : Nat} {x : Int32} {C : cM} {Q : Int32 → cM → Prop} (hk : tok C k) (hp : bok C (k / 16)) (hq16 : bok C (k % 16)) (hy : x = cI C (256 + k) 4 → cI C (256 + k) 2 = cI C (64 + 8 * (k / 16)) 7 → cI C (256 + k) 3 = cI C (64 + 8 * (k % 16)) 7 → Q 1 C) (hno : Q 0 C) : wpX1_stillHolds n k x C Q := by
  unfold wpX1_stillHolds
  exact ⟨hk, fun _ => ⟨Or.inl rfl, hno⟩, fun e1 => ⟨hp, fun _ => ⟨Or.inl rfl, hno⟩, fun e2 => ⟨hq16, fun _ => ⟨Or.inl rfl, hno⟩, fun e3 => ⟨Or.inr rfl, hy e1 e2.symm e3.symm⟩⟩⟩⟩
theorem meetingOf_ok {n t T : Nat} {x1 x2 : Int32} {C : cM} {Q : Option Nat → cM → Prop} (hn : 600 ≤ n) (ht : t < 1000) (hI : cInv t C) (hT : T ≤ 3) (eT : cI C 0 6 = nI T)
    (hno : ∀ C2, cInv t C2 → mup C C2 → ((x1.toInt < 0 ∨ (cN C : Int) ≤ x1.toInt) ∨ (x2.toInt < 0 ∨ (cN C : Int) ≤ x2.toInt)) → Q none C2)
    (hy : ∀ p q C2, x1 = nI p → x2 = nI q → p < cN C → q < cN C → cInv t C2 → mup C C2 → tok C2 (p * 16 + q) → BF (bm C p) (bm C q) T (cI C2 (256 + (p * 16 + q)) 5) (cI C2 (256 + (p * 16 + q)) 6) (cI C2 (256 + (p * 16 + q)) 7) (cI C2 (256 + (p * 16 + q)) 8) → Q (some (p * 16 + q)) C2) : wpX6_meetingOf n x1 x2 C Q := by
  have hA := hI.1
  have h16 := hA.1
  unfold wpX6_meetingOf
  refine ⟨by omega, fb2 hn hA (fun C2 u2 a2 hbad => ⟨by omega, hno C2 (cInv_up hI u2 a2) (mup_8 u2) hbad⟩) (fun p q C2 e1 e2 hp hq u2 a2 f1 f2 => ?_)⟩
  have hI2 := cInv_up hI u2 a2
  have m2 := mup_8 u2
  have n2 : cN C2 = cN C := u2.1
  have k1 : (p * 16 + q) / 16 = p := by omega
  have k2 : (p * 16 + q) % 16 = q := by omega
  -- from a meeting that is there
  have there : ∀ (gc : Nat) (C3 : cM), gc ≤ 1 → cInv t C3 → mup C C3 → bFresh C3 p → bFresh C3 q → tok C3 (p * 16 + q) → wpX6_meetingOf_67 n Q (p * 16 + q) gc C3 := fun gc C3 hgc hI3 m3 g1 g2 hk => by
    have n3 : cN C3 = cN C := m3.1
    have bp : bok C3 ((p * 16 + q) / 16) := by rw [k1]; exact ⟨by omega, by omega⟩
    have bq : bok C3 ((p * 16 + q) % 16) := by rw [k2]; exact ⟨by omega, by omega⟩
    have e06 : cI C3 0 6 = nI T := by rw [m3.2.1]; exact eT
    unfold wpX6_meetingOf_67
    refine ⟨hgc, hk, ?_⟩
    rw [e06]
    refine stillHolds_ok hk bp bq (fun e4 e2' e3' => br_1n ⟨hgc, hy p q C3 e1 e2 hp hq hI3 m3 hk ?_⟩) (br_0n ⟨hk, ?_⟩)
    · obtain ⟨s, u, dx, dy, b1, b2, b3, b4, b5⟩ := (hI3.2.2.2.2 _ hk.1 hk.2).1 T hT e4.symm e2' e3'
      rw [k1, k2, mup_bm m3 (by omega), mup_bm m3 (by omega)] at b1
      subst b4
      subst b5
      exact ⟨s, u, cnt_40 (marks_len _) b1.2.1, b2, b3, b1⟩
    · rw [e06]
      refine findBestMove_ok (L1 := bm C3 p) (L2 := bm C3 q) (by omega) hk bp bq (by rw [k1]; exact g1.2.2) (by rw [k2]; exact g2.2.2) (marks_len _) (marks_len _) (marks_ok _) (marks_ok _) hT (fun C4 f4 q2 q3 q4 q5 => ⟨hgc, ?_⟩)
      have lo : ∀ i, (i = 0 ∨ (64 ≤ i ∧ i ≠ 256 + (p * 16 + q))) → cI C4 i = cI C3 i := fun i hi => f4.1 i (by simp; omega)
      have m4 : mup C3 C4 := ⟨f4.2.2.1, lo 0 (by omega), fun b hb => lo _ (by omega), fun b hb h8 => by rw [lo _ (by have := hI3.1.1; omega)]; exact h8⟩
      refine hy p q C4 e1 e2 hp hq (cInv_meet hI3 hk.1 hT lo f4.2.2.1 f4.2.2.2 q2 q3 q4 (by rw [k1, k2]; exact q5)) (m3.tr m4) (f4.tk hk) ?_
      rw [← mup_bm m3 (show p < 16 by omega), ← mup_bm m3 (show q < 16 by omega)]
      exact q5
  intro x5 e5
  have e5b : x5 = nI (p * 16 + q) := by rw [e5, e1, e2, show (16 : Int32) = nI 16 from rfl, pk_mul, nI_add]
  rw [e5b, cl_nI (by omega)]
  refine ⟨pk_in (p * 16 + q) 256 (by omega), fun hc => ?_, fun b hb => ?_⟩
  · have hE : cE C2 (p * 16 + q) = false := by
      unfold cT at hc
      cases z : cE C2 (p * 16 + q) with
      | false => rfl
      | true => rw [if_pos z] at hc; cases hc
    refine ⟨k1.symm, k2.symm, hE, a2.1, by omega, by omega, fun C3 e3 => ?_⟩
    have hi : ∀ i, i ≠ 256 + (p * 16 + q) → cI C3 i = cI C2 i := fun i hi => by rw [e3]; exact cnewT_I hi
    have m3 : mup C2 C3 := ⟨by rw [e3]; rfl, hi 0 (by omega), fun b hb => hi _ (by omega), fun b hb h8 => by rw [hi _ (by have := a2.1; omega)]; exact h8⟩
    have hI3 : cInv t C3 := by rw [e3]; exact cInv_newT ht hI2 (by omega) (by rw [k1]; omega) (by rw [k2]; omega)
    have fresh3 : ∀ b, b < 16 → bFresh C2 b → bFresh C3 b := fun b hb h => by
      unfold bFresh bG cMk
      rw [hi (64 + 8 * b) (by omega), hi (64 + 8 * b + 1) (by omega), hi (64 + 8 * b + 2) (by omega), hi (64 + 8 * b + 3) (by omega), hi (64 + 8 * b + 4) (by omega), hi (64 + 8 * b + 5) (by omega)]
      exact h
    refine there 1 C3 (by omega) hI3 (m2.tr m3) (fresh3 p (by omega) f1) (fresh3 q (by omega) f2) ⟨by omega, ?_⟩
    rw [e3]
    show (if p * 16 + q = p * 16 + q then true else cE C2 (p * 16 + q)) = true
    rw [if_pos rfl]
  · have hE : cE C2 (p * 16 + q) = true ∧ b = p * 16 + q := by
      unfold cT at hb
      cases z : cE C2 (p * 16 + q) with
      | false => rw [z] at hb; cases hb
      | true => rw [if_pos z] at hb; exact ⟨rfl, (Option.some.inj hb).symm⟩
    rw [hE.2]
    exact there 0 C2 (by omega) hI2 m2 f1 f2 ⟨by omega, hE.1⟩
theorem BF_one {L1 L2 : List Mk} {T : Nat} {a b c d a1 b1 c1 d1 : Int32} (h1 : BF L1 L2 T a b c d) (h2 : BF L1 L2 T a1 b1 c1 d1) : a = a1 ∧ b = b1 ∧ c = c1 ∧ d = d1 := by
  obtain ⟨s, t, _, e1, e2, e3⟩ := h1
  obtain ⟨s1, t1, _, g1, g2, g3⟩ := h2
  obtain ⟨q1, q2, q3, q4⟩ := BestIs_one e3 g3
  exact ⟨by rw [e1, g1, q1], by rw [e2, g2, q2], eq_toInt q3, eq_toInt q4⟩
/-- the model finds the best move of two prints -/
theorem mbest2 {n t p q T : Nat} {C : cM} {M : mM} {Q : mM → Prop} (hn : 600 ≤ n) (hR : Rel t C M) (hp : p < cN C) (hq16 : q < cN C) (hT : T ≤ 3) (eT : cI C 0 6 = nI T) (hq : ∀ M1, Rel t C M1 → BF (bm C p) (bm C q) T (M1 0 16) (M1 0 17) (M1 0 18) (M1 0 19) → Q M1) : wpX7_findMarks n (nI p) M (fun M25 => wpX7_findMarks n (nI q) M25 (fun M30 => wpX7_findBest n (nI p) (nI q) M30 Q)) := by
  have h16 := hR.1.1.1
  refine findMarks2_ok hn hR hp hq16 (fun M3 f3 h3 m1 m2 => ?_)
  refine findBest_ok (by omega) (by omega) (by omega) hT (by rw [h3.2.2.1]; exact eT) m1 m2 (marks_len _) (marks_len _) (marks_ok _) (marks_ok _) (fun M4 b4 hB => hq M4 ⟨h3.1, mRel_m h3.2 (b4.2 1 (by omega)) (b4.2 2 (by omega)) (b4.2 4 (by omega)) (b4.1 3 (by simp))⟩ hB)
theorem s_best {n t : Nat} {C : cM} {M : mM} {x1 x2 x3 : Int32} (hn : 600 ≤ n) (ht : t < 1000) (hR : Rel t C M) : wpX6_best n x1 x2 x3 C (fun r C1 => wpX7_best n x1 x2 x3 M (fun r1 M1 => r = r1 ∧ Rel (t + 1) C1 M1)) := by
  have h16 := hR.1.1.1
  obtain ⟨T, hT, eT⟩ := hR.1.2.1
  have mno : ∀ C1, Rel t C1 M → ((x1.toInt < 0 ∨ (cN C1 : Int) ≤ x1.toInt) ∨ (x2.toInt < 0 ∨ (cN C1 : Int) ≤ x2.toInt) ∨ (x3.toInt < 0 ∨ 4 ≤ x3.toInt)) → wpX7_best n x1 x2 x3 M (fun r1 M1 => -100 = r1 ∧ Rel (t + 1) C1 M1) := fun C1 hR1 hbad => by
    unfold wpX7_best
    intro M2 e2
    have h2 : Rel t C1 M2 := by rw [e2]; exact Rel_0 hR1
    have fin : (-100 : Int32) = -100 ∧ Rel (t + 1) C1 M2 := ⟨rfl, Rel_mono h2⟩
    have h161 := hR1.1.1.1
    refine mprint2 h2 fin (fun p q e1 e2 hp hq => ?_)
    rw [e1, e2, tI p (by omega), tI q (by omega)] at hbad
    refine in_no ?_ (br_0n fin)
    rw [i64_lt, i64_lt, i64_of]
    show x3.toInt < (0 : Int) ∨ (3 : Int) < x3.toInt
    omega
  unfold wpX6_best
  refine ⟨by omega, meetingOf_ok hn ht hR.1 hT eT (fun C2 hI2 m2 hbad => ⟨fun _ => ⟨by omega, mno C2 ⟨hI2, mRel_mup hR.2 h16 m2⟩ ?_⟩, fun b z => (by cases z)⟩) (fun p q C2 e1 e2 hp hq hI2 m2 hk hB => ⟨fun z => (by cases z), fun b z => ?_⟩)⟩
  · rw [m2.1]
    rcases hbad with z | z
    · exact Or.inl z
    · exact Or.inr (Or.inl z)
  · cases z
    have hR2 : Rel t C2 M := ⟨hI2, mRel_mup hR.2 h16 m2⟩
    have n2 : cN C2 = cN C := m2.1
    have yes : ∀ w : Nat, w < 4 → x3 = nI w → ∀ r : Int32, (∀ M1 : mM, BF (bm C p) (bm C q) T (M1 0 16) (M1 0 17) (M1 0 18) (M1 0 19) → (w = 0 → r = M1 0 16) ∧ (w = 1 → r = M1 0 17) ∧ (w = 2 → r = M1 0 18) ∧ (w = 3 → r = M1 0 19)) → wpX7_best n x1 x2 x3 M (fun r1 M1 => r = r1 ∧ Rel (t + 1) C2 M1) := fun w hw e3 r hr => by
      unfold wpX7_best
      intro M2 eM
      have h2 : Rel t C2 M2 := by rw [eM]; exact Rel_0 hR2
      rw [e1, e2, e3]
      refine isPrint_yes h2.2.1 h2.1.1.1 (by omega) (br_1 (isPrint_yes h2.2.1 h2.1.1.1 (by omega) (br_1 ?_)))
      refine in_yes (by rw [i64_le, i64_of, tI w (by omega)]; show (0 : Int) ≤ w; omega) (by rw [i64_le, i64_of, tI w (by omega)]; show (w : Int) ≤ 3; omega) (br_1n ?_)
      refine mbest2 hn h2 (by omega) (by omega) hT (by rw [m2.2.1]; exact eT) (fun M3 h3 hB3 => ?_)
      rw [mup_bm m2 (by omega), mup_bm m2 (by omega)] at hB3
      obtain ⟨r0, r1, r2, r3⟩ := hr M3 hB3
      rcases (show w = 0 ∨ w = 1 ∨ w = 2 ∨ w = 3 by omega) with rfl | rfl | rfl | rfl
      · exact br_ni rfl ⟨r0 rfl, Rel_mono h3⟩
      · exact br_ne (by decide) (br_ni rfl ⟨r1 rfl, Rel_mono h3⟩)
      · exact br_ne (by decide) (br_ne (by decide) (br_ni rfl ⟨r2 rfl, Rel_mono h3⟩))
      · exact br_ne (by decide) (br_ne (by decide) (br_ne (by decide) ⟨r3 rfl, Rel_mono h3⟩))
    refine ⟨fun z => ⟨hk, by omega, yes 0 (by omega) z _ (fun M1 hB1 => ?_)⟩, fun z => ⟨hk, by omega, yes 1 (by omega) z _ (fun M1 hB1 => ?_)⟩, fun z => ⟨hk, by omega, yes 2 (by omega) z _ (fun M1 hB1 => ?_)⟩, fun z => ⟨hk, by omega, yes 3 (by omega) z _ (fun M1 hB1 => ?_)⟩, fun ⟨z0, z1, z2, z3⟩ => ⟨by omega, mno C2 hR2 (Or.inr (Or.inr ?_))⟩⟩
    · exact ⟨fun _ => (BF_one hB hB1).1, fun q => absurd q (by decide), fun q => absurd q (by decide), fun q => absurd q (by decide)⟩
    · exact ⟨fun q => absurd q (by decide), fun _ => (BF_one hB hB1).2.1, fun q => absurd q (by decide), fun q => absurd q (by decide)⟩
    · exact ⟨fun q => absurd q (by decide), fun q => absurd q (by decide), fun _ => (BF_one hB hB1).2.2.1, fun q => absurd q (by decide)⟩
    · exact ⟨fun q => absurd q (by decide), fun q => absurd q (by decide), fun q => absurd q (by decide), fun _ => (BF_one hB hB1).2.2.2⟩
    · have := tsw_out3 z0 z1 z2 z3
      omega
