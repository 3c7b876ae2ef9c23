/-! PURE PART: chance -/
theorem spread_ok {n a p : Nat} {C : cM} {Q : cM → Prop} (hn : 100 ≤ n) (ha : a ≤ 12) (hp : p ≤ 16) (hq : ∀ C1, cfx [] [5] C C1 → (∀ j, j < 13 → cL C1 5 j = lN (Wy p (16 - p) a j)) → Q C1) : wpX6_spreadWays n (nI a) (nI p) C Q := by
  have er : (16 - nI p : Int32).toInt64 = lN (16 - p) := by rw [show (16 : Int32) = nI 16 from rfl, pk_sub hp, nI_l (by omega)]
  have ep : (nI p).toInt64 = lN p := nI_l (by omega)
  have l40 : ∀ (F : cM → Prop) (m : Nat) (x3 : Int32), (∀ C1, cfx [] [5] C C1 → (∀ l, l < 13 → cL C1 5 l = lN (Wy p (16 - p) (if 0 < l then m + 1 else m) l)) → F C1) → ∀ (k j : Nat) (C1 : cM), j ≤ 12 → j < k → cfx [] [5] C C1 → (∀ l, l < 13 → cL C1 5 l = lN (Wy p (16 - p) (if j < l then m + 1 else m) l)) → wpX6_spreadWays_40 n F (nI a) (nI p) x3 k (nI j) C1 := by
    intro F m x3 hF k
    induction k with
    | zero => intro j C1 a1 a2; exact absurd a2 (by omega)
    | succ k ih =>
      intro j C1 hj hjk hf hl
      rw [wpX6_spreadWays_40]
      refine pk_lt j 1 (fun z => ?_) (fun z => ⟨pk_in j 13 (by omega), ?_⟩)
      · have : j = 0 := by omega
        subst this
        exact hF C1 hf hl
      · have e1 : (nI j - 1 : Int32) = nI (j - 1) := by rw [show (1 : Int32) = nI 1 from rfl, pk_sub z]
        rw [e1]
        refine ⟨pk_in (j - 1) 13 (by omega), fun C2 e2 c ec => ?_⟩
        rw [cl_nI (by omega), cl_nI (by omega), hl j (by omega), hl (j - 1) (by omega), if_neg (by omega), if_neg (by omega), er, ep, lN_mul, lN_mul, lN_add] at e2
        have ej : Wy p (16 - p) (m + 1) j = Wy p (16 - p) m j * (16 - p) + Wy p (16 - p) m (j - 1) * p := by
          obtain ⟨i, rfl⟩ : ∃ i, j = i + 1 := ⟨j - 1, by omega⟩
          rfl
        rw [← ej] at e2
        have ec2 : c = nI (j - 1) := by
          rw [ec]
          obtain ⟨i, rfl⟩ : ∃ i, j = i + 1 := ⟨j - 1, by omega⟩
          exact pk_m1 i
        rw [ec2]
        refine ih (j - 1) C2 (by omega) (by omega) (by rw [e2]; exact hf.tr (cfx.sl (by simp))) (fun l hl2 => ?_)
        rw [e2]
        by_cases w : l = j
        · subst w; rw [cstL_at, if_pos (by omega)]
        · rw [cstL_off _ _ w, hl l hl2]
          by_cases w2 : j < l
          · rw [if_pos w2, if_pos (by omega)]
          · rw [if_neg w2, if_neg (by omega)]
  have l31 : ∀ (k m : Nat) (C1 : cM), m ≤ a → a < m + k → cfx [] [5] C C1 → (∀ j, j < 13 → cL C1 5 j = lN (Wy p (16 - p) m j)) → wpX6_spreadWays_31 n Q (nI a) (nI p) k (nI m) C1 := by
    intro k
    induction k with
    | zero => intro m C1 a1 a2; exact absurd a2 (by omega)
    | succ k ih =>
      intro m C1 hm hmk hf hl
      rw [wpX6_spreadWays_31]
      refine pk_le a m (fun z => ?_) (fun z => ?_)
      · have : m = a := by omega
        subst this
        exact hq C1 hf hl
      · refine l40 _ m (nI m) (fun C2 f2 h2 C3 e3 c ec => ?_) n 12 C1 (by omega) (by omega) hf (fun l hl2 => by rw [if_neg (by omega)]; exact hl l hl2)
        rw [ec, nI_1]
        rw [h2 0 (by omega), if_neg (by omega), er, lN_mul] at e3
        refine ih (m + 1) C3 (by omega) (by omega) (by rw [e3]; exact f2.tr (cfx.sl (by simp))) (fun j hj => ?_)
        rw [e3]
        by_cases w : j = 0
        · subst w; rw [cstL_at]; rfl
        · rw [cstL_off _ _ w, h2 j hj, if_pos (by omega)]
  have l2 : ∀ (k j : Nat) (C1 : cM), j ≤ 13 → 13 < j + k → cfx [] [5] C C1 → (∀ l, l < j → cL C1 5 l = lN (Wy p (16 - p) 0 l)) → wpX6_spreadWays_2 n (fun C_2 => wpX6_spreadWays_31 n Q (nI a) (nI p) n 0 C_2) (nI a) (nI p) k (nI j) C1 := by
    intro k
    induction k with
    | zero => intro j C1 a1 a2; exact absurd a2 (by omega)
    | succ k ih =>
      intro j C1 hj hjk hf hl
      rw [wpX6_spreadWays_2]
      refine pk_lt 12 j (fun z => ?_) (fun z => ?_)
      · have : j = 13 := by omega
        subst this
        exact l31 n 0 C1 (by omega) (by omega) hf hl
      · have go : ∀ v : Int64, v = lN (Wy p (16 - p) 0 j) → wpX6_spreadWays_22 n (wpX6_spreadWays_2 n (fun C_2 => wpX6_spreadWays_31 n Q (nI a) (nI p) n 0 C_2) (nI a) (nI p) k) (nI a) (nI p) (nI j) v C1 := fun v hv => by
          unfold wpX6_spreadWays_22
          refine ⟨pk_in j 13 (by omega), fun C2 e2 c ec => ?_⟩
          rw [cl_nI (by omega)] at e2
          rw [ec, nI_1]
          refine ih (j + 1) C2 (by omega) (by omega) (by rw [e2]; exact hf.tr (cfx.sl (by simp))) (fun l hl2 => ?_)
          rw [e2]
          by_cases w : l = j
          · rw [w, cstL_at, hv]
          · rw [cstL_off _ _ w]; exact hl l (by omega)
        by_cases w : j = 0
        · subst w; exact br_ni rfl (go 1 rfl)
        · refine br_ne (fun v => w (nI_inj (b := 0) (by omega) (by omega) v)) (go 0 ?_)
          obtain ⟨i, rfl⟩ : ∃ i, j = i + 1 := ⟨j - 1, by omega⟩
          rfl
  unfold wpX6_spreadWays
  exact l2 n 0 C (by omega) (by omega) (cfx.rf _ _ _) (fun l hl => absurd hl (by omega))
def chf (p a k : Nat) : Nat → Nat := fun l => if k ≤ l then Wy p (16 - p) a l else 0
theorem chf_0 {p a k j : Nat} (h : j ≤ k) : sm (chf p a k) j = 0 := by
  have e := sm_zero (f := chf p a k) (a := 0) j (fun l _ hl => by unfold chf; rw [if_neg (by omega)])
  rw [Nat.zero_add] at e
  rw [e]; rfl
theorem cchance_ok {n a k p : Nat} {C : cM} {Q : Int64 → cM → Prop} (hn : 100 ≤ n) (ha : a ≤ 12) (hk : k ≤ 12) (hl : ∀ j, j < 13 → cL C 5 j = lN (Wy p (16 - p) a j)) (hq : Q (lN (sm (chf p a k) (a + 1))) C) : wpX6_chance_46 n Q (nI a) n 0 (nI k) C := by
  have loop : ∀ (g j : Nat), k ≤ j → j ≤ 13 → 13 < j + g → (j ≤ a + 1 ∨ j = k) → wpX6_chance_46 n Q (nI a) g (lN (sm (chf p a k) j)) (nI j) C := by
    intro g
    induction g with
    | zero => intro j _ a1 a2; exact absurd a2 (by omega)
    | succ g ih =>
      intro j h0 h1 h2 h3
      rw [wpX6_chance_46]
      refine pk_lt a j (fun z => ?_) (fun z => ⟨pk_in j 13 (by omega), ?_⟩)
      · by_cases w : j = a + 1
        · rw [w]; exact hq
        · rw [chf_0 (show j ≤ k by omega)]
          rw [chf_0 (show a + 1 ≤ k by omega)] at hq
          exact hq
      · rw [cl_nI (by omega), hl j (by omega)]
        intro x4 e4 x6 e6
        rw [e4, e6, lN_add, nI_1]
        have e : sm (chf p a k) (j + 1) = sm (chf p a k) j + Wy p (16 - p) a j := by
          rw [sm]
          congr 1
          unfold chf; rw [if_pos h0]
        rw [← e]
        exact ih (j + 1) (by omega) (by omega) (by omega) (by omega)
  have z := loop n k (Nat.le_refl _) (by omega) (by omega) (Or.inr rfl)
  rw [chf_0 (Nat.le_refl k)] at z
  exact z
theorem mchance_ok {n a k p : Nat} {M : mM} {Q : Int64 → mM → Prop} (hn : 100 ≤ n) (ha : a ≤ 12) (hk : k ≤ 12) (hp : p ≤ 16) (hq : Q (lN (sm (chf p a k) (a + 1))) M) : wpX7_chance_54 n Q (nI a) (nI k) (nI p) n 0 1 0 M := by
  have er : (16 - nI p : Int32).toInt64 = lN (16 - p) := by rw [show (16 : Int32) = nI 16 from rfl, pk_sub hp, nI_l (by omega)]
  have ep : (nI p).toInt64 = lN p := nI_l (by omega)
  have l67 : ∀ (F : Int64 → mM → Prop) (j : Nat) (x4 x6 : Int64), j ≤ 12 → F (lN (bin a j * pif p (16 - p) j a)) M → ∀ (g i : Nat), i ≤ a → a < i + g → wpX7_chance_67 n F (nI a) (nI k) (nI p) x4 x6 (nI j) g (lN (bin a j * pif p (16 - p) j i)) (nI i) M := by
    intro F j x4 x6 hj hF g
    induction g with
    | zero => intro i a1 a2; exact absurd a2 (by omega)
    | succ g ih =>
      intro i hi hig
      rw [wpX7_chance_67]
      refine pk_le a i (fun z => ?_) (fun z => ?_)
      · have : i = a := by omega
        subst this
        exact hF
      · have go : ∀ v : Nat, v = (if i < j then p else 16 - p) → wpX7_chance_92 n (wpX7_chance_67 n F (nI a) (nI k) (nI p) x4 x6 (nI j) g) (nI a) (nI k) (nI p) x4 x6 (nI j) (nI i) (lN v) (lN (bin a j * pif p (16 - p) j i)) M := fun v hv => by
          unfold wpX7_chance_92
          intro b eb c ec
          rw [eb, ec, lN_mul, nI_1]
          have e : bin a j * pif p (16 - p) j i * v = bin a j * pif p (16 - p) j (i + 1) := by rw [pif, ← hv, Nat.mul_assoc]
          rw [e]
          exact ih (i + 1) (by omega) (by omega)
        rw [er, ep]
        refine pk_le j i (fun w => ?_) (fun w => ?_)
        · exact go (16 - p) (by rw [if_neg (by omega)])
        · exact go p (by rw [if_pos w])
  have l54 : ∀ (g j : Nat), j ≤ a + 1 → a + 1 < j + g → wpX7_chance_54 n Q (nI a) (nI k) (nI p) g (lN (sm (chf p a k) j)) (lN (bin a j)) (nI j) M := by
    intro g
    induction g with
    | zero => intro j a1 a2; exact absurd a2 (by omega)
    | succ g ih =>
      intro j hj hjg
      rw [wpX7_chance_54]
      refine pk_lt a j (fun z => ?_) (fun z => ?_)
      · have : j = a + 1 := by omega
        subst this
        exact hq
      · have go : ∀ v : Nat, v = chf p a k j → wpX7_chance_115 n (wpX7_chance_54 n Q (nI a) (nI k) (nI p) g) (nI a) (nI k) (nI p) (lN (bin a j)) (nI j) (lN v) (lN (sm (chf p a k) j)) M := fun v hv => by
          unfold wpX7_chance_115
          intro b eb
          rw [nI_1, nI_l (by omega), pk_sub z, nI_l (by omega), lN_mul]
          obtain ⟨d1, d2⟩ := bin_div a (by omega) j (by omega)
          refine ⟨fun w => by have := (lN_eq (b := 0) (by omega) (by omega)).mp w; omega, fun c ec d ed => ?_⟩
          rw [pk_lDiv (by omega) (by omega) (by omega), d1] at ec
          rw [eb, ec, ed, lN_add, hv]
          exact ih (j + 1) (by omega) (by omega)
        have pe : bin a j * pif p (16 - p) j a = Wy p (16 - p) a j := by rw [pif_is, Wy_is, show min a j = j by omega]
        have z2 := l67 (fun y9_67 M_67 => ((nI j < nI k → wpX7_chance_115 n (wpX7_chance_54 n Q (nI a) (nI k) (nI p) g) (nI a) (nI k) (nI p) (lN (bin a j)) (nI j) 0 (lN (sm (chf p a k) j)) M_67) ∧ (¬ nI j < nI k → wpX7_chance_115 n (wpX7_chance_54 n Q (nI a) (nI k) (nI p) g) (nI a) (nI k) (nI p) (lN (bin a j)) (nI j) y9_67 (lN (sm (chf p a k) j)) M_67))) j (lN (sm (chf p a k) j)) (lN (bin a j)) (by omega) (pk_lt j k (fun w => go 0 (by unfold chf; rw [if_neg (by omega)])) (fun w => go _ (by rw [pe]; unfold chf; rw [if_pos w]))) n 0 (by omega) (by omega)
        rw [pif, Nat.mul_one] at z2
        exact z2
  have z := l54 n 0 (by omega) (by omega)
  have e : bin a 0 = 1 := by cases a <;> rfl
  rw [e] at z
  exact z
theorem s_chance {n t : Nat} {C : cM} {M : mM} {x1 x2 x3 : Int32} (hn : 600 ≤ n) (hR : Rel t C M) : wpX6_chance n x1 x2 x3 C (fun r C1 => wpX7_chance n x1 x2 x3 M (fun r1 M1 => r = r1 ∧ Rel (t + 1) C1 M1)) := by
  have mno : ((x1.toInt < 0 ∨ 13 ≤ x1.toInt) ∨ (x2.toInt < 0 ∨ 13 ≤ x2.toInt) ∨ (x3.toInt < 0 ∨ 17 ≤ x3.toInt)) → wpX7_chance n x1 x2 x3 M (fun r1 M1 => -1 = r1 ∧ Rel (t + 1) C M1) := fun hbad => by
    unfold wpX7_chance
    intro M2 e2
    have h2 : Rel t C M2 := by rw [e2]; exact Rel_0 hR
    have fin : (-1 : Int64) = -1 ∧ Rel (t + 1) C M2 := ⟨rfl, Rel_mono h2⟩
    refine in_b (decide ((0 : Int64).toInt ≤ (x1.toInt64).toInt ∧ (x1.toInt64).toInt ≤ (12 : Int64).toInt)) rfl (br_b (fun _ => fin) (fun z1 => ?_))
    rw [decide_eq_true_eq, i64_of] at z1
    have z1 : (0 : Int) ≤ x1.toInt ∧ x1.toInt ≤ (12 : Int) := z1
    refine in_b (decide ((0 : Int64).toInt ≤ (x2.toInt64).toInt ∧ (x2.toInt64).toInt ≤ (12 : Int64).toInt)) rfl (br_b (fun _ => fin) (fun z2 => ?_))
    rw [decide_eq_true_eq, i64_of] at z2
    have z2 : (0 : Int) ≤ x2.toInt ∧ x2.toInt ≤ (12 : Int) := z2
    refine in_no ?_ (br_0n fin)
    rw [i64_lt, i64_lt, i64_of]
    show x3.toInt < (0 : Int) ∨ (16 : Int) < x3.toInt
    omega
  have z0 : (0 : Int32).toInt = 0 := rfl
  have z12 : (12 : Int32).toInt = 12 := rfl
  have z16 : (16 : Int32).toInt = 16 := rfl
  unfold wpX6_chance
  refine br_d (fun w => mno (by rw [i32_lt, z0] at w; omega)) (fun w1 => br_d (fun w => mno (by rw [i32_lt, z12] at w; omega)) (fun w2 => br_d (fun w => mno (by rw [i32_lt, z0] at w; omega)) (fun w3 => br_d (fun w => mno (by rw [i32_lt, z12] at w; omega)) (fun w4 => br_d (fun w => mno (by rw [i32_lt, z0] at w; omega)) (fun w5 => br_d (fun w6 => ?_) (fun w => mno (by rw [i32_le, z16] at w; omega)))))))
  rw [i32_lt, z0] at w1 w3 w5
  rw [i32_lt, z12] at w2 w4
  rw [i32_le, z16] at w6
  obtain ⟨a, ha, rfl⟩ : ∃ a, a ≤ 12 ∧ x1 = nI a := ⟨x1.toInt.toNat, by omega, i32_is (by omega) (by omega)⟩
  obtain ⟨k, hk, rfl⟩ : ∃ k, k ≤ 12 ∧ x2 = nI k := ⟨x2.toInt.toNat, by omega, i32_is (by omega) (by omega)⟩
  obtain ⟨p, hp, rfl⟩ : ∃ p, p ≤ 16 ∧ x3 = nI p := ⟨x3.toInt.toNat, by omega, i32_is (by omega) (by omega)⟩
  refine spread_ok (by omega) ha hp (fun C1 f1 hl => cchance_ok (by omega) ha hk hl ?_)
  unfold wpX7_chance
  intro M2 e2
  have h2 : Rel t C1 M2 := by rw [e2]; exact Rel_0 (Rel_fx hR f1 (by simp) (by simp))
  refine in_yes (by rw [i64_le, i64_of, tI a (by omega)]; show (0 : Int) ≤ a; omega) (by rw [i64_le, i64_of, tI a (by omega)]; show (a : Int) ≤ 12; omega) (br_1 ?_)
  refine in_yes (by rw [i64_le, i64_of, tI k (by omega)]; show (0 : Int) ≤ k; omega) (by rw [i64_le, i64_of, tI k (by omega)]; show (k : Int) ≤ 12; omega) (br_1 ?_)
  refine in_yes (by rw [i64_le, i64_of, tI p (by omega)]; show (0 : Int) ≤ p; omega) (by rw [i64_le, i64_of, tI p (by omega)]; show (p : Int) ≤ 16; omega) (br_1n ?_)
  exact mchance_ok (by omega) ha hk hp ⟨rfl, Rel_mono h2⟩
