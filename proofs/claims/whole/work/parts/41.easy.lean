/-! PURE PART: status, within, cell, thin -/
theorem bFresh_c0 {C C1 : cM} (hi : ∀ i, i ≠ 0 → cI C1 i = cI C i) {b : Nat} (h : bFresh C b) : bFresh C1 b := by
  unfold bFresh bG cMk
  rw [hi _ (by omega), hi _ (by omega), hi _ (by omega), hi _ (by omega), hi _ (by omega), hi _ (by omega)]
  exact h
theorem cInv_c0 {t : Nat} {C C1 : cM} (h : cInv t C) (hi : ∀ i, i ≠ 0 → cI C1 i = cI C i) (hN : cN C1 = cN C) (hE : cE C1 = cE C) (h5 : cI C1 0 5 = cI C 0 5) (h6 : ∃ T, T ≤ 3 ∧ cI C1 0 6 = nI T) : cInv t C1 := by
  obtain ⟨⟨a1, a2, a3⟩, b2, b3, b4, b5⟩ := h
  refine ⟨⟨by rw [hN]; exact a1, by rw [hN, h5]; exact a2, fun b hb => ?_⟩, h6, fun b hb => by rw [hN] at hb; rw [hi _ (by omega)]; exact b3 b hb, fun k hk hk2 => by rw [hN]; rw [hE] at hk2; exact b4 k hk hk2, fun k hk hk2 => ?_⟩
  · rw [hN] at hb
    refine ⟨⟨by rw [hi _ (by omega)]; exact (a3 b hb).1.1, by rw [hi _ (by omega)]; exact (a3 b hb).1.2⟩, fun hs => ?_⟩
    rw [hi _ (by omega)] at hs
    exact bFresh_c0 hi ((a3 b hb).2 hs)
  · rw [hE] at hk2
    obtain ⟨c1, c2⟩ := b5 k hk hk2
    unfold mtI mtO bm bG
    rw [hi (256 + k) (by omega), hi (64 + 8 * (k / 16)) (by omega), hi (64 + 8 * (k % 16)) (by omega), hi (64 + 8 * (k / 16) + 1) (by omega), hi (64 + 8 * (k % 16) + 1) (by omega)]
    exact ⟨c1, c2⟩
theorem cInv_7 {t : Nat} {C : cM} {v : Int32} (h : cInv t C) : cInv t (cst C 0 7 v) := by
  refine cInv_c0 h (fun i hi => cI_ne _ _ _ hi) rfl rfl (cst_off _ _ (by decide)) ?_
  rw [cst_off _ _ (by decide)]
  exact h.2.1
theorem mRel_7 {C : cM} {M : mM} {v : Int32} (h : mRel C M) : mRel (cst C 0 7 v) (st M 0 1 v) := by
  obtain ⟨h1, h2, h3, h4, h5⟩ := h
  refine ⟨by rw [st_off _ _ (by decide)]; exact h1, by rw [st_off _ _ (by decide), cst_off _ _ (by decide)]; exact h2, by rw [st_at, cst_at], fun b hb y hy => by rw [st_ne _ _ _ (by decide), cI_ne _ _ _ (by omega)]; exact h4 b hb y hy, fun j h1 h2 => by rw [st_ne _ _ _ (by decide)]; exact h5 j h1 h2⟩
theorem Rel_7 {t : Nat} {C : cM} {M : mM} {v : Int32} (h : Rel t C M) : Rel t (cst C 0 7 v) (st M 0 1 v) := ⟨cInv_7 h.1, mRel_7 h.2⟩
theorem Rel_0 {t : Nat} {C : cM} {M : mM} {v : Int32} (h : Rel t C M) : Rel t C (st M 0 0 v) := ⟨h.1, mRel_0 h.2⟩
theorem neg_told {v : Int32} (h : v.toInt < 0) : (if v < 0 then v else 0) = v := if_pos (by rw [i32_lt]; exact h)
theorem pos_told {v : Int32} (h : 0 ≤ v.toInt) : (if v < 0 then v else 0) = 0 := if_neg (by rw [i32_lt]; show ¬ v.toInt < (0 : Int); omega)
theorem s_status {n t : Nat} {C : cM} {M : mM} (hR : Rel t C M) : wpX6_status n C (fun r C1 => wpX7_status n M (fun r1 M1 => r = r1 ∧ Rel (t + 1) C1 M1)) := by
  unfold wpX6_status wpX7_status
  intro M2 e2
  have h2 : Rel t C M2 := by rw [e2]; exact Rel_0 hR
  exact ⟨h2.2.2.2.1.symm, Rel_mono h2⟩
theorem s_within {n t : Nat} {C : cM} {M : mM} {x : Int32} (hR : Rel t C M) : wpX6_within n x C (fun r C1 => wpX7_within n x M (fun r1 M1 => r = r1 ∧ Rel (t + 1) C1 M1)) := by
  have bad : x.toInt < 0 ∨ 4 ≤ x.toInt → wpX6_within_9 n (fun r C1 => wpX7_within n x M (fun r1 M1 => r = r1 ∧ Rel (t + 1) C1 M1)) C := fun hx => by
    unfold wpX6_within_9 wpX6_refuse
    intro C2 e2
    unfold wpX7_within
    intro M2 eM2
    have h2 : Rel t C M2 := by rw [eM2]; exact Rel_0 hR
    refine in_no (by rw [i64_lt, i64_lt, i64_of]; show x.toInt < (0 : Int) ∨ (3 : Int) < x.toInt; omega) (br_0n ?_)
    refine told_ok ?_
    rw [neg_told (by decide), e2]
    exact ⟨rfl, Rel_mono (Rel_7 h2)⟩
  unfold wpX6_within
  rcases i32_cases x 4 (by omega) with ⟨j, hj, rfl⟩ | ho
  · refine br_e (by rw [i32_lt, tI j (by omega)]; show ¬ (j : Int) < 0; omega) ?_
    refine pk_le j 3 (fun _ => ?_) (fun z => absurd z (by omega))
    intro C17 e17 r er C27 e27
    unfold wpX7_within
    intro M2 eM2
    have h2 : Rel t C M2 := by rw [eM2]; exact Rel_0 hR
    refine in_yes (by rw [i64_le, i64_of, tI j (by omega)]; show (0 : Int) ≤ j; omega) (by rw [i64_le, i64_of, tI j (by omega)]; show (j : Int) ≤ 3; omega) (br_1n ?_)
    intro w ew M30 e30
    have hr : r = cI C 0 6 := by rw [er, e17, cst_off _ _ (by decide)]
    have hw : w = cI C 0 6 := by rw [ew]; exact h2.2.2.1
    obtain ⟨T, hT, eT⟩ := hR.1.2.1
    refine told_ok ?_
    have pw : (0 : Int) ≤ w.toInt := by rw [hw, eT, tI T (by omega)]; omega
    rw [pos_told pw]
    refine ⟨by rw [hr, hw], Rel_mono ?_⟩
    have h3 : Rel t C17 (st M2 0 1 0) := by rw [e17]; exact Rel_7 h2
    refine ⟨cInv_c0 h3.1 (fun i hi => by rw [e27]; exact cI_ne _ _ _ hi) (by rw [e27]; rfl) (by rw [e27]; rfl) (by rw [e27, cst_off _ _ (by decide)]) ⟨j, by omega, by rw [e27, cst_at]⟩, ?_⟩
    obtain ⟨q1, q2, q3, q4, q5⟩ := h3.2
    have n27 : cN C27 = cN C17 := by rw [e27]; rfl
    have g : ∀ c, c ≠ 0 → st M30 0 1 0 c = st M2 0 1 0 c := fun c hc => by rw [st_ne _ _ _ hc, st_ne _ _ _ hc, e30, st_ne _ _ _ hc]
    refine ⟨?_, ?_, ?_, fun b hb y hy => ?_, fun k k1 k2 => ?_⟩
    · rw [n27, st_off _ _ (by decide), e30, st_off _ _ (by decide)]
      rw [st_off _ _ (by decide)] at q1
      exact q1
    · rw [st_off _ _ (by decide), e30, st_at, e27, cst_at]
    · rw [st_at, e27, cst_off _ _ (by decide), e17, cst_at]
    · rw [n27] at hb
      rw [g 3 (by decide), e27, cI_ne _ _ _ (by omega)]
      exact q4 b hb y hy
    · rw [n27] at k1
      rw [g 3 (by decide)]
      exact q5 k k1 k2
  · refine br_d (fun _ => bad ho) (fun z => br_e ?_ (bad ho))
    rw [i32_lt] at z
    have z : ¬ x.toInt < (0 : Int) := z
    rw [i32_le]
    show ¬ x.toInt ≤ (3 : Int)
    omega
theorem rG_at {R : Nat → Int32} {x y : Nat} (hx : x < 24) (hy : y < 24) : rG R x y = bt (R y) x := by
  unfold rG; rw [decide_eq_true hx, decide_eq_true hy]; rfl
theorem s_cell {n t : Nat} {C : cM} {M : mM} {x1 x2 x3 x4 : Int32} (hn : 600 ≤ n) (hR : Rel t C M) : wpX6_cell n x1 x2 x3 x4 C (fun r C1 => wpX7_cell n x1 x2 x3 x4 M (fun r1 M1 => r = r1 ∧ Rel (t + 1) C1 M1)) := by
  have hA := hR.1.1
  have h16 := hA.1
  -- the model refuses
  have mno : ∀ C1, Rel t C1 M → ((x1.toInt < 0 ∨ (cN C1 : Int) ≤ x1.toInt) ∨ (x2.toInt < 0 ∨ 24 ≤ x2.toInt) ∨ (x3.toInt < 0 ∨ 24 ≤ x3.toInt) ∨ (x4.toInt < 0 ∨ 2 ≤ x4.toInt)) → wpX7_cell n x1 x2 x3 x4 M (fun r1 M1 => -1 = r1 ∧ Rel (t + 1) C1 M1) := fun C1 hR1 hbad => by
    unfold wpX7_cell
    intro M2 e2
    have h2 : Rel t C1 M2 := by rw [e2]; exact Rel_0 hR1
    have fin : (-1 : Int32) = -1 ∧ Rel (t + 1) C1 M2 := ⟨rfl, Rel_mono h2⟩
    rcases i32_cases x1 (cN C1) (by have := hR1.1.1.1; omega) with ⟨p, hp, rfl⟩ | ho
    · refine isPrint_yes h2.2.1 hR1.1.1.1 hp (br_1 ?_)
      rcases i32_cases x2 24 (by omega) with ⟨x, hx, rfl⟩ | ho
      · refine isPlace_yes hx (br_1 ?_)
        rcases i32_cases x3 24 (by omega) with ⟨y, hy, rfl⟩ | ho
        · refine isPlace_yes hy (br_1 ?_)
          refine in_no ?_ (br_0n fin)
          rw [i64_lt, i64_lt, i64_of]
          rw [tI p (by have := hR1.1.1.1; omega), tI x (by omega), tI y (by omega)] at hbad
          show x4.toInt < (0 : Int) ∨ (1 : Int) < x4.toInt
          omega
        · exact isPlace_no ho (br_0 fin)
      · exact isPlace_no ho (br_0 fin)
    · exact isPrint_no h2.2.1 hR1.1.1.1 ho (br_0 fin)
  unfold wpX6_cell
  rcases i32_cases x2 24 (by omega) with ⟨x, hx, rfl⟩ | ho2
  · refine onB_yes hx (br_1 ?_)
    rcases i32_cases x3 24 (by omega) with ⟨y, hy, rfl⟩ | ho3
    · refine onB_yes hy (br_1 ?_)
      rcases i32_cases x4 2 (by omega) with ⟨w, hw, rfl⟩ | ho4
      · refine br_e (by rw [i32_lt, tI w (by omega)]; show ¬ (w : Int) < 0; omega) ?_
        refine pk_le w 1 (fun _ => ?_) (fun z => absurd z (by omega))
        -- both ways lead to the same place
        have mtail : ∀ (p : Nat) (C1 : cM), p < cN C1 → Rel t C1 M → ∀ r : Int32, (w = 0 → r = b2i (bG C1 p x y)) → (w = 1 → r = b2i (thinG (bG C1 p) x y)) → wpX7_cell n (nI p) (nI x) (nI y) (nI w) M (fun r1 M1 => r = r1 ∧ Rel (t + 1) C1 M1) := fun p C1 hp hR1 r hr0 hr1 => by
          have hp16 : p < 16 := by have := hR1.1.1.1; omega
          unfold wpX7_cell
          intro M2 e2
          have h2 : Rel t C1 M2 := by rw [e2]; exact Rel_0 hR1
          refine isPrint_yes h2.2.1 hR1.1.1.1 hp (br_1 (isPlace_yes hx (br_1 (isPlace_yes hy (br_1 ?_)))))
          refine in_yes (by rw [i64_le, i64_of, tI w (by omega)]; show (0 : Int) ≤ w; omega) (by rw [i64_le, i64_of, tI w (by omega)]; show (w : Int) ≤ 1; omega) (br_1n ?_)
          have eG : rG (mrow M2 p) = bG C1 p := mRel_G h2.2 hp
          rcases (show w = 0 ∨ w = 1 by omega) with hw0 | hw1
          · subst hw0
            refine br_ni rfl ?_
            rw [nI24]
            refine ⟨pk_in (24 * p + y) 384 (by omega), ?_⟩
            rw [cl_nI (by omega), bit_s _ x (by omega)]
            refine ⟨?_, Rel_mono h2⟩
            rw [hr0 rfl, ← eG, rG_at hx hy]
            rfl
          · subst hw1
            refine br_ne (by decide) ?_
            refine thinOut_ok hn hp16 (fun M3 f3 hh => ?_)
            rw [eG] at hh
            have h3 : Rel t C1 M3 := ⟨h2.1, mRel_fr h2.2 f3 (by simp) (by simp)⟩
            rw [nI24]
            refine ⟨pk_in (24 * y + x) 576 (by omega), ?_⟩
            rw [cl_nI (by omega), hh x y hx hy]
            refine br_b (fun z => ⟨by rw [hr1 rfl, z]; rfl, Rel_mono h3⟩) (fun z => ⟨by rw [hr1 rfl, z]; rfl, Rel_mono h3⟩)
        have bno : ∀ C1, Rel t C1 M → (x1.toInt < 0 ∨ (cN C1 : Int) ≤ x1.toInt) → wpX6_cell_45 n (fun r C1 => wpX7_cell n x1 (nI x) (nI y) (nI w) M (fun r1 M1 => r = r1 ∧ Rel (t + 1) C1 M1)) (nI x) (nI y) (nI w) none C1 := fun C1 hR1 ho => by
          unfold wpX6_cell_45
          exact ⟨fun _ => mno C1 hR1 (Or.inl ho), fun b z => by cases z⟩
        rcases (show w = 0 ∨ w = 1 by omega) with hw0 | hw1
        · subst hw0
          refine br_ni rfl ?_
          rcases i32_cases x1 (cN C) (by omega) with ⟨p, hp, rfl⟩ | ho
          · refine boardOf_yes hA hp ⟨fun z => (by cases z), fun b z => ?_⟩
            cases z
            unfold wpX6_cell_45
            refine ⟨fun z => (by cases z), fun b z => ?_⟩
            cases z
            refine br_ni rfl ⟨⟨hp, by omega⟩, pk_in y 24 hy, ?_⟩
            unfold wpX6_cell_76
            rw [cl_nI (by omega), bit_u _ x (by omega)]
            refine mtail p C hp hR _ (fun _ => ?_) (fun z => absurd z (by decide))
            unfold bG
            rw [rG_at hx hy]
          · exact boardOf_no hA ho ⟨fun _ => bno C hR ho, fun b z => by cases z⟩
        · subst hw1
          refine br_ne (by decide) ?_
          rcases i32_cases x1 (cN C) (by omega) with ⟨p, hp, rfl⟩ | ho
          · refine freshBoard_yes hn hA hp (fun C1 hu hA1 hfr hst => ⟨fun z => (by cases z), fun b z => ?_⟩)
            cases z
            have hp1 : p < cN C1 := by rw [hu.1]; exact hp
            unfold wpX6_cell_45
            refine ⟨fun z => (by cases z), fun b z => ?_⟩
            cases z
            refine br_ne (by decide) ⟨⟨hp1, by omega⟩, pk_in y 24 hy, ?_⟩
            unfold wpX6_cell_76
            rw [cl_nI (by omega), bit_u _ x (by omega)]
            refine mtail p C1 hp1 (Rel_up hR hu hA1) _ (fun z => absurd z (by decide)) (fun _ => ?_)
            rw [← hfr.2.1, rG_at hx hy]
          · exact freshBoard_no hA ho ⟨fun _ => bno C hR ho, fun b z => by cases z⟩
      · have hbad := mno C hR (Or.inr (Or.inr (Or.inr ho4)))
        refine br_d (fun _ => hbad) (fun z => br_e ?_ hbad)
        rw [i32_lt] at z
        have z : ¬ x4.toInt < (0 : Int) := z
        rw [i32_le]
        show ¬ x4.toInt ≤ (1 : Int)
        omega
    · exact onB_no ho3 (br_0 (mno C hR (Or.inr (Or.inr (Or.inl ho3)))))
  · exact onB_no ho2 (br_0 (mno C hR (Or.inr (Or.inl ho2))))
