/-! PURE PART: pairs -/
theorem cInv_hi {t : Nat} {C C1 : cM} (h : cInv t C) (hi : ∀ i, (i = 0 ∨ 64 ≤ i) → cI C1 i = cI C i) (hN : cN C1 = cN C) (hE : cE C1 = cE C) : cInv t C1 := by
  obtain ⟨⟨a1, a2, a3⟩, b2, b3, b4, b5⟩ := h
  refine ⟨⟨by rw [hN]; exact a1, by rw [hN, hi 0 (by omega)]; exact a2, fun b hb => ?_⟩, by rw [hi 0 (by omega)]; exact b2, fun b hb => by rw [hN] at hb; rw [hi _ (by omega)]; exact b3 b hb, fun k hk hk2 => by rw [hN]; rw [hE] at hk2; exact b4 k hk hk2, fun k hk hk2 => ?_⟩
  · rw [hN] at hb
    refine ⟨⟨by rw [hi _ (by omega)]; exact (a3 b hb).1.1, by rw [hi _ (by omega)]; exact (a3 b hb).1.2⟩, fun hs => ?_⟩
    rw [hi _ (by omega)] at hs
    have hf := (a3 b hb).2 hs
    unfold bFresh bG cMk
    rw [hi _ (by omega), hi _ (by omega), hi _ (by omega), hi _ (by omega), hi _ (by omega), hi _ (by omega)]
    exact hf
  · rw [hE] at hk2
    obtain ⟨c1, c2⟩ := b5 k hk hk2
    unfold mtI mtO bm bG
    rw [hi (256 + k) (by omega), hi (64 + 8 * (k / 16)) (by omega), hi (64 + 8 * (k % 16)) (by omega), hi (64 + 8 * (k / 16) + 1) (by omega), hi (64 + 8 * (k % 16) + 1) (by omega)]
    exact ⟨c1, c2⟩
theorem mRel_hi {C C1 : cM} {M : mM} (h : mRel C M) (hi : ∀ i, (i = 0 ∨ 64 ≤ i) → cI C1 i = cI C i) (hN : cN C1 = cN C) : mRel C1 M := by
  unfold mRel
  rw [hN, hi 0 (by omega)]
  refine ⟨h.1, h.2.1, h.2.2.1, fun b hb y hy => by rw [hi _ (by omega)]; exact h.2.2.2.1 b hb y hy, h.2.2.2.2⟩
theorem fx_hi {I J : List Nat} {C C1 : cM} (hf : cfx I J C C1) (h0 : 0 ∉ I) (hI : ∀ i, i ∈ I → i < 64) : ∀ i, (i = 0 ∨ 64 ≤ i) → cI C1 i = cI C i := fun i hi => hf.1 i (fun z => by
  rcases hi with w | w
  · rw [w] at z; exact h0 z
  · have := hI i z; omega)
theorem Rel_fx {t : Nat} {I J : List Nat} {C C1 : cM} {M : mM} (h : Rel t C M) (hf : cfx I J C C1) (h0 : 0 ∉ I) (hI : ∀ i, i ∈ I → i < 64) : Rel t C1 M := ⟨cInv_hi h.1 (fx_hi hf h0 hI) hf.2.2.1 hf.2.2.2, mRel_hi h.2 (fx_hi hf h0 hI) hf.2.2.1⟩
theorem shift_yes {n : Nat} {x : Int32} {C : cM} {Q : Int32 → cM → Prop} (h : -8 ≤ x.toInt ∧ x.toInt ≤ 8) (hq : Q 1 C) : wpX6_isShift n x C Q := by
  unfold wpX6_isShift
  have a1 : ¬ x < -8 := by rw [i32_lt]; show ¬ x.toInt < (-8 : Int); omega
  have a2 : ¬ 8 < x := by rw [i32_lt]; show ¬ (8 : Int) < x.toInt; omega
  exact br_e a1 (br_e a2 ⟨Or.inr rfl, hq⟩)
theorem shift_no {n : Nat} {x : Int32} {C : cM} {Q : Int32 → cM → Prop} (h : ¬ (-8 ≤ x.toInt ∧ x.toInt ≤ 8)) (hq : Q 0 C) : wpX6_isShift n x C Q := by
  unfold wpX6_isShift
  refine br_d (fun _ => ⟨Or.inl rfl, hq⟩) (fun z => br_i ?_ ⟨Or.inl rfl, hq⟩)
  rw [i32_lt] at z ⊢
  have z : ¬ x.toInt < (-8 : Int) := z
  show (8 : Int) < x.toInt
  omega
/-- the model: two prints, or none -/
theorem mprint2 {n t : Nat} {x1 x2 : Int32} {C : cM} {M : mM} {A : mM → Prop} {B : mM → Prop} (hR : Rel t C M) (hA : A M) (hB : ∀ p q, x1 = nI p → x2 = nI q → p < cN C → q < cN C → B M) : wpX7_isPrint n x1 M (fun r7 M7 => ((r7 = 0 → A M7) ∧ (¬ r7 = 0 → wpX7_isPrint n x2 M7 (fun r15 M15 => ((r15 = 0 → A M15) ∧ (¬ r15 = 0 → B M15)))))) := by
  have h16 := hR.1.1.1
  rcases i32_cases x1 (cN C) (by omega) with ⟨p, hp, e1⟩ | ho
  · rw [e1]
    refine isPrint_yes hR.2.1 h16 hp (br_1 ?_)
    rcases i32_cases x2 (cN C) (by omega) with ⟨q, hq, e2⟩ | ho
    · rw [e2]
      exact isPrint_yes hR.2.1 h16 hq (br_1 (hB p q e1 e2 hp hq))
    · exact isPrint_no hR.2.1 h16 ho (br_0 hA)
  · exact isPrint_no hR.2.1 h16 ho (br_0 hA)
theorem m8 : ((-8 : Int64)).toInt = -8 := by decide
theorem s_pairs {n t : Nat} {C : cM} {M : mM} {x1 x2 x3 x4 x5 : Int32} (hn : 600 ≤ n) (hR : Rel t C M) : wpX6_pairs n x1 x2 x3 x4 x5 C (fun r C1 => wpX7_pairs n x1 x2 x3 x4 x5 M (fun r1 M1 => r = r1 ∧ Rel (t + 1) C1 M1)) := by
  have hA := hR.1.1
  have h16 := hA.1
  have mno : ∀ C1, Rel t C1 M → ((x1.toInt < 0 ∨ (cN C1 : Int) ≤ x1.toInt) ∨ (x2.toInt < 0 ∨ (cN C1 : Int) ≤ x2.toInt) ∨ (x3.toInt < 0 ∨ 4 ≤ x3.toInt) ∨ (¬ (-8 ≤ x4.toInt ∧ x4.toInt ≤ 8)) ∨ ¬ (-8 ≤ x5.toInt ∧ x5.toInt ≤ 8)) → wpX7_pairs n x1 x2 x3 x4 x5 M (fun r1 M1 => -1 = r1 ∧ Rel (t + 1) C1 M1) := fun C1 hR1 hbad => by
    unfold wpX7_pairs
    intro M2 e2
    have h2 : Rel t C1 M2 := by rw [e2]; exact Rel_0 hR1
    have fin : (-1 : Int32) = -1 ∧ Rel (t + 1) C1 M2 := ⟨rfl, Rel_mono h2⟩
    have h161 := hR1.1.1.1
    refine mprint2 h2 fin (fun p q e1 e2 hp hq => ?_)
    rw [e1, e2, tI p (by omega), tI q (by omega)] at hbad
    refine in_b (decide ((0 : Int64).toInt ≤ (x3.toInt64).toInt ∧ (x3.toInt64).toInt ≤ (3 : Int64).toInt)) rfl (br_b (fun _ => fin) (fun z3 => ?_))
    rw [decide_eq_true_eq, i64_of] at z3
    have z3 : (0 : Int) ≤ x3.toInt ∧ x3.toInt ≤ (3 : Int) := z3
    refine in_b (decide ((-8 : Int64).toInt ≤ (x4.toInt64).toInt ∧ (x4.toInt64).toInt ≤ (8 : Int64).toInt)) rfl (br_b (fun _ => fin) (fun z4 => ?_))
    rw [decide_eq_true_eq, i64_of, m8] at z4
    have z4 : (-8 : Int) ≤ x4.toInt ∧ x4.toInt ≤ (8 : Int) := z4
    refine in_no ?_ (br_0n fin)
    rw [i64_lt, i64_lt, i64_of, m8]
    show x5.toInt < (-8 : Int) ∨ (8 : Int) < x5.toInt
    omega
  unfold wpX6_pairs
  refine fb2 hn hA (fun C2 u2 a2 hbad => ?_) (fun p q C2 e1 e2 hp hq u2 a2 f1 f2 => ?_)
  · rw [← u2.1] at hbad
    refine mno C2 (Rel_up hR u2 a2) ?_
    rcases hbad with z | z
    · exact Or.inl z
    · exact Or.inr (Or.inl z)
  · have hR2 := Rel_up hR u2 a2
    have hp2 : p < cN C2 := by rw [u2.1]; exact hp
    have hq2 : q < cN C2 := by rw [u2.1]; exact hq
    rcases i32_cases x3 4 (by omega) with ⟨tt, htt, e3⟩ | ho3
    · rw [e3] at mno ⊢
      refine br_e (by rw [i32_lt, tI tt (by omega)]; show ¬ (tt : Int) < 0; omega) (pk_le 4 tt (fun z => absurd z (by omega)) (fun _ => ?_))
      by_cases z4 : -8 ≤ x4.toInt ∧ x4.toInt ≤ 8
      · refine shift_yes z4 (br_1 ?_)
        by_cases z5 : -8 ≤ x5.toInt ∧ x5.toInt ≤ 8
        · refine shift_yes z5 (br_1n ?_)
          obtain ⟨T, hT, eT⟩ := hR2.1.2.1
          rw [eT]
          refine prepare_ok (by omega) ⟨hp2, by omega⟩ ⟨hq2, by omega⟩ f1.2.2 f2.2.2 (marks_len _) (marks_len _) (marks_ok _) (marks_ok _) hT (fun C3 g3 pr3 => ?_)
          refine mostPairs_ok (by omega) htt z4 z5 pr3 (marks_len _) (marks_len _) (marks_ok _) (fun C4 r g4 hr hcnt => ?_)
          have hR4 : Rel t C4 M := Rel_fx (Rel_fx hR2 g3 (by simp) (by simp)) g4 (by simp) (by simp)
          have n4 : cN C4 = cN C2 := g4.2.2.1.trans g3.2.2.1
          have eb : ∀ b, b < 16 → bm C4 b = bm C2 b := fun b hb => by
            unfold bm bG
            rw [fx_hi g4 (by simp) (by simp) _ (by omega), fx_hi g3 (by simp) (by simp) _ (by omega)]
          unfold wpX7_pairs
          intro M2 eM
          have h2 : Rel t C4 M2 := by rw [eM]; exact Rel_0 hR4
          rw [e1, e2]
          refine isPrint_yes h2.2.1 h2.1.1.1 (by omega) (br_1 (isPrint_yes h2.2.1 h2.1.1.1 (by omega) (br_1 ?_)))
          refine in_yes (by rw [i64_le, i64_of, tI tt (by omega)]; show (0 : Int) ≤ tt; omega) (by rw [i64_le, i64_of, tI tt (by omega)]; show (tt : Int) ≤ 3; omega) (br_1 ?_)
          refine in_yes (by rw [i64_le, i64_of, m8]; exact z4.1) (by rw [i64_le, i64_of]; exact z4.2) (br_1 ?_)
          refine in_yes (by rw [i64_le, i64_of, m8]; exact z5.1) (by rw [i64_le, i64_of]; exact z5.2) (br_1n ?_)
          refine findMarks2_ok hn h2 (by omega) (by omega) (fun M3 f3 h3 m1 m2 => ?_)
          have eT4 : M3 0 4 = nI T := by rw [h3.2.2.1, fx_hi g4 (by simp) (by simp) 0 (by omega), fx_hi g3 (by simp) (by simp) 0 (by omega)]; exact eT
          refine agree_ok (by omega) (by omega) (by omega) htt z4 z5 hT eT4 m1 m2 (marks_len _) (marks_len _) (marks_ok _) (marks_ok _) (fun M4 f4 ag4 => ?_)
          have m1' := mMk_fr m1 f4 (by simp) (by simp) (by simp) (by simp)
          have m2' := mMk_fr m2 f4 (by simp) (by simp) (by simp) (by simp)
          refine matched_ok (by omega) (by omega) (by omega) (marks_len _) (marks_len _) m1'.1 m2'.1 ag4 (fun M5 c f5 hx => ⟨?_, Rel_mono ⟨h3.1, mRel_fr (mRel_fr h3.2 f4 (by simp) (by simp)) f5 (by simp) (by simp)⟩⟩)
          have hx : cntIs (bm C4 p) (bm C4 q) T tt x4.toInt x5.toInt c := hx
          rw [eb p (by omega), eb q (by omega)] at hx
          have hcnt : cntIs (bm C2 p) (bm C2 q) T tt x4.toInt x5.toInt r ∨ ((¬ (0 : Int32) < nI r) ∧ ∀ c, cntIs (bm C2 p) (bm C2 q) T tt x4.toInt x5.toInt c → c ≤ r) := hcnt
          rcases hcnt with w | ⟨w1, w2⟩
          · rw [IsMax_one w hx]
          · have w3 := w2 c hx
            rw [i32_lt, tI r (by omega)] at w1
            have w1 : ¬ (0 : Int) < r := w1
            rw [show r = c by omega]
        · exact shift_no z5 (br_0n (mno C2 hR2 (Or.inr (Or.inr (Or.inr (Or.inr z5))))))
      · exact shift_no z4 (br_0 (mno C2 hR2 (Or.inr (Or.inr (Or.inr (Or.inl z4))))))
    · have hbad := mno C2 hR2 (Or.inr (Or.inr (Or.inl ho3)))
      refine br_d (fun _ => hbad) (fun z => br_i ?_ hbad)
      rw [i32_lt] at z
      have z : ¬ x3.toInt < (0 : Int) := z
      rw [i32_le]
      show (4 : Int) ≤ x3.toInt
      omega
