/-! PURE PART: join, count, chance -/
theorem s_join {n t : Nat} {C : cM} {M : mM} {x1 x2 : Int32} (hn : 600 ≤ n) (ht : t < 1000) (hR : Rel t C M) : wpX6_join n x1 x2 C (fun r C1 => wpX7_join n x1 x2 M (fun r1 M1 => r = r1 ∧ Rel (t + 1) C1 M1)) := by
  have h16 := hR.1.1.1
  obtain ⟨T, hT, eT⟩ := hR.1.2.1
  unfold wpX6_join
  refine ⟨fun hne => ⟨by omega, meetingOf_ok hn ht hR.1 hT eT (fun C2 hI2 m2 hbad => ⟨fun _ => ⟨by omega, ?_⟩, fun b z => (by cases z)⟩) (fun p q C2 e1 e2 hp hq hI2 m2 hk hB => ⟨fun z => (by cases z), fun b z => ?_⟩)⟩, fun heq => ⟨by omega, ?_⟩⟩
  · have hR2 : Rel t C2 M := ⟨hI2, mRel_mup hR.2 h16 m2⟩
    have h162 := hI2.1.1
    unfold wpX6_refuse
    intro C3 e3
    refine ⟨by omega, ?_⟩
    unfold wpX7_join
    intro M2 eM
    have h2 : Rel t C2 M2 := by rw [eM]; exact Rel_0 hR2
    have fin : wpX7_join_32 n (fun r1 M1 => -2 = r1 ∧ Rel (t + 1) C3 M1) M2 := by
      unfold wpX7_join_32
      refine told_ok ⟨rfl, ?_⟩
      rw [neg_told (by decide), e3]
      exact Rel_mono (Rel_7 h2)
    rw [← m2.1] at hbad
    refine br_ne hne ?_
    rcases i32_cases x1 (cN C2) (by omega) with ⟨p, hp, rfl⟩ | ho
    · refine isPrint_yes h2.2.1 h162 hp (br_1 (isPrint_no h2.2.1 h162 ?_ (br_0n fin)))
      rw [tI p (by omega)] at hbad
      omega
    · exact isPrint_no h2.2.1 h162 ho (br_0 fin)
  · cases z
    have hR2 : Rel t C2 M := ⟨hI2, mRel_mup hR.2 h16 m2⟩
    have n2 : cN C2 = cN C := m2.1
    have hpq : p ≠ q := fun z => hne (by rw [e1, e2, z])
    intro C3 e3
    have i3 : ∀ i, i ≠ 0 → cI C3 i = cI C2 i := fun i hi => by rw [e3]; exact cI_ne _ _ _ hi
    have n3 : cN C3 = cN C2 := by rw [e3]; rfl
    have hI3 : cInv t C3 := by rw [e3]; exact cInv_7 hI2
    have tk3 : tok C3 (p * 16 + q) := by rw [e3]; exact hk
    obtain ⟨s, u, s40, b1, b2, b3⟩ := id hB
    obtain ⟨o1, o2, o3, o4, o5⟩ := b3.1
    refine ⟨by omega, tk3, bring_ok (E := 576 * t) (t := u) hn (by omega) (cInvE_of hI3) (by omega) (by omega) hpq tk3 o1 ⟨o2, o3⟩ ⟨o4, o5⟩ (by rw [i3 _ (by omega)]; exact b2) (by rw [i3 _ (by omega)]) (by rw [i3 _ (by omega)]) (fun C4 hC4 => ⟨by omega, ?_⟩)⟩
    unfold wpX7_join
    intro M2 eM
    have h2 : Rel t C2 M2 := by rw [eM]; exact Rel_0 hR2
    refine br_ne hne ?_
    rw [e1, e2]
    refine isPrint_yes h2.2.1 h2.1.1.1 (by omega) (br_1 (isPrint_yes h2.2.1 h2.1.1.1 (by omega) (br_1n ?_)))
    refine mbest2 hn h2 (by omega) (by omega) hT (by rw [m2.2.1]; exact eT) (fun M3 h3 hB3 => ?_)
    rw [mup_bm m2 (by omega), mup_bm m2 (by omega)] at hB3
    obtain ⟨q1, q2, q3, q4⟩ := BF_one hB3 hB
    refine mjoin_ok (t := u) hn (by omega) (by omega) hpq o1 ⟨o2, o3⟩ ⟨o4, o5⟩ (by rw [q2]; exact b2) q3 q4 (R1 := cI C3 (64 + 8 * p + 1)) (R2 := cI C3 (64 + 8 * q + 1)) (fun y hy => by rw [i3 _ (by omega)]; exact h3.2.2.2.2.1 p (by omega) y hy) (fun y hy => by rw [i3 _ (by omega)]; exact h3.2.2.2.2.1 q (by omega) y hy) (fun M4 f4 o4' r4 => ?_)
    have sl := jR_le (R1 := cI C3 (64 + 8 * p + 1)) (R2 := cI C3 (64 + 8 * q + 1)) (t := u) (dx := (cI C2 (256 + (p * 16 + q)) 7).toInt) (dy := (cI C2 (256 + (p * 16 + q)) 8).toInt) 576
    obtain ⟨c1, c2, c3, c4, c5⟩ := hC4
    refine told_ok ⟨rfl, cInvE_to c1 (by omega), ?_⟩
    rw [pos_told (by rw [tI _ (by omega)]; omega)]
    obtain ⟨g1, g2, g3, g4, g5⟩ := h3.2
    have e0 : M4 0 = M3 0 := f4 0 (by simp)
    have c0 : cI C4 0 = cI C3 0 := c3 0 (by omega) (by omega)
    refine ⟨?_, ?_, ?_, fun b hb y hy => ?_, fun j j1 j2 => ?_⟩
    · rw [st_off _ _ (by decide), e0, c2, n3]; exact g1
    · rw [st_off _ _ (by decide), e0, c0, e3, cst_off _ _ (by decide)]; exact g2
    · rw [st_at, c0, e3, cst_at]
    · rw [c2, n3] at hb
      rw [st_ne _ _ _ (by decide)]
      by_cases w : b = q
      · rw [w, c5 y hy, r4 y hy]
      · rw [c3 _ (by omega) (by omega), i3 _ (by omega), o4' _ (by omega)]; exact g4 b hb y hy
    · rw [c2, n3] at j1
      rw [st_ne _ _ _ (by decide), o4' _ (by omega)]
      exact g5 j j1 j2
  · unfold wpX6_refuse
    intro C3 e3
    refine ⟨by omega, ?_⟩
    unfold wpX7_join
    intro M2 eM
    have h2 : Rel t C M2 := by rw [eM]; exact Rel_0 hR
    refine br_ni heq (told_ok ⟨rfl, ?_⟩)
    rw [neg_told (by decide), e3]
    exact Rel_mono (Rel_7 h2)
/-- a sum -/
def sm (f : Nat → Nat) : Nat → Nat
  | 0 => 0
  | n + 1 => sm f n + f n
theorem sm_cong {f g : Nat → Nat} : ∀ {n : Nat}, (∀ k, k < n → f k = g k) → sm f n = sm g n
  | 0, _ => rfl
  | n + 1, h => by rw [sm, sm, sm_cong (fun k hk => h k (by omega)), h n (by omega)]
theorem sm_zero {f : Nat → Nat} {a : Nat} : ∀ d, (∀ k, a ≤ k → k < a + d → f k = 0) → sm f (a + d) = sm f a
  | 0, _ => rfl
  | d + 1, h => by
    show sm f (a + d) + f (a + d) = _
    rw [h (a + d) (by omega) (by omega), sm_zero d (fun k k1 k2 => h k k1 (by omega))]; rfl
theorem ct_32 {v : Int32} (h : ∀ i, 24 ≤ i → bt v i = false) : ct (bt v) 32 = ct (bt v) 24 := by
  rw [show (32 : Nat) = 24 + 8 from rfl, ct_add]
  have e : ct (fun i => bt v (24 + i)) 8 = ct (fun i => decide (i < 0)) 8 := ct_cong (fun k _ => by rw [h _ (by omega)]; rfl)
  rw [e, ct_dlt 0 8 (by omega)]; rfl
theorem full_ok {n t : Nat} {C : cM} {Q : Int32 → cM → Prop} (hn : 600 ≤ n) (hI : cInv t C) (hq : Q (nI (sm (fun k => ct (bt (cI C (64 + 8 * (k / 24) + 1) (k % 24))) 24) (24 * cN C))) C) : wpX6_fullCells n C Q := by
  have hA := hI.1
  have h16 := hA.1
  have l21 : ∀ (F : Int32 → cM → Prop) (b : Nat) (x2 : Int32), b < cN C → F (nI (sm (fun k => ct (bt (cI C (64 + 8 * (k / 24) + 1) (k % 24))) 24) (24 * (b + 1)))) C → ∀ (k y : Nat), y ≤ 24 → 24 < y + k → wpX6_fullCells_21 n F x2 (some b) k (nI (sm (fun k => ct (bt (cI C (64 + 8 * (k / 24) + 1) (k % 24))) 24) (24 * b + y))) (nI y) C := by
    intro F b x2 hb hF k
    induction k with
    | zero => intro y a1 a2; exact absurd a2 (by omega)
    | succ k ih =>
      intro y hy hyk
      rw [wpX6_fullCells_21]
      refine ⟨fun z => (by cases z), fun b2 z => ?_⟩
      cases z
      refine pk_le 24 y (fun z => ?_) (fun z => ⟨⟨hb, by omega⟩, pk_in y 24 z, bitCount_ok ?_⟩)
      · rw [show 24 * b + y = 24 * (b + 1) by omega]; exact hF
      · intro a ea c ec
        rw [cl_nI (by omega)] at ea
        have e : ct (bt (cI C (64 + 8 * b + 1) y)) 32 = (fun k => ct (bt (cI C (64 + 8 * (k / 24) + 1) (k % 24))) 24) (24 * b + y) := by
          show _ = ct (bt (cI C (64 + 8 * ((24 * b + y) / 24) + 1) ((24 * b + y) % 24))) 24
          rw [show (24 * b + y) / 24 = b by omega, show (24 * b + y) % 24 = y by omega]
          exact ct_32 ((hA.2.2 b hb).1.1 y z)
        rw [ea, ec, e, nI_add, nI_1]
        exact ih (y + 1) (by omega) (by omega)
  have l4 : ∀ (k b : Nat), b ≤ cN C → cN C < b + k → wpX6_fullCells_4 n Q k (nI (sm (fun k => ct (bt (cI C (64 + 8 * (k / 24) + 1) (k % 24))) 24) (24 * b))) (nI b) C := by
    intro k
    induction k with
    | zero => intro b a1 a2; exact absurd a2 (by omega)
    | succ k ih =>
      intro b hb hbk
      rw [wpX6_fullCells_4, hA.2.1]
      refine pk_le (cN C) b (fun z => ?_) (fun z => ?_)
      · have : b = cN C := by omega
        subst this
        exact hq
      · refine boardOf_yes hA z ⟨fun w => (by cases w), fun b2 w => ?_⟩
        cases w
        exact l21 _ b (nI b) z (fun y ey => by rw [ey, nI_1]; exact ih (b + 1) (by omega) (by omega)) n 0 (by omega) (by omega)
  unfold wpX6_fullCells
  exact l4 n 0 (by omega) (by omega)
theorem mcount_ok {n : Nat} {M : mM} {Q : Int32 → mM → Prop} (hn : 600 ≤ n) (hq : Q (nI (sm (fun k => ct (bt (M 3 k)) 24) 384)) M) : wpX7_count_14 n Q n 0 0 M := by
  have l24 : ∀ (F : Int32 → mM → Prop) (j : Nat), j < 384 → F (nI (sm (fun k => ct (bt (M 3 k)) 24) (j + 1))) M → ∀ (k x : Nat), x ≤ 24 → 24 < x + k → wpX7_count_24 n F (nI j) k (nI (sm (fun k => ct (bt (M 3 k)) 24) j + ct (bt (M 3 j)) x)) (nI x) M := by
    intro F j hj hF k
    induction k with
    | zero => intro x a1 a2; exact absurd a2 (by omega)
    | succ k ih =>
      intro x hx hxk
      rw [wpX7_count_24]
      refine pk_le 24 x (fun z => ?_) (fun z => ⟨pk_in j 384 hj, ?_⟩)
      · have : x = 24 := by omega
        subst this
        exact hF
      · rw [cl_nI (by omega), bit_s _ x (by omega)]
        intro a ea c ec
        rw [ea, ec, b2i_nI, nI_add, nI_1, show sm (fun k => ct (bt (M 3 k)) 24) j + ct (bt (M 3 j)) x + (if bt (M 3 j) x then 1 else 0) = sm (fun k => ct (bt (M 3 k)) 24) j + ct (bt (M 3 j)) (x + 1) by rw [ct, Nat.add_assoc]]
        exact ih (x + 1) (by omega) (by omega)
  have l14 : ∀ (k j : Nat), j ≤ 384 → 384 < j + k → wpX7_count_14 n Q k (nI (sm (fun k => ct (bt (M 3 k)) 24) j)) (nI j) M := by
    intro k
    induction k with
    | zero => intro j a1 a2; exact absurd a2 (by omega)
    | succ k ih =>
      intro j hj hjk
      rw [wpX7_count_14]
      refine pk_le 384 j (fun z => ?_) (fun z => ?_)
      · have : j = 384 := by omega
        subst this
        exact hq
      · exact l24 _ j z (fun y ey => by rw [ey, nI_1]; exact ih (j + 1) (by omega) (by omega)) n 0 (by omega) (by omega)
  exact l14 n 0 (by omega) (by omega)
theorem s_count {n t : Nat} {C : cM} {M : mM} {x1 : Int32} (hn : 600 ≤ n) (hR : Rel t C M) : wpX6_count n x1 C (fun r C1 => wpX7_count n x1 M (fun r1 M1 => r = r1 ∧ Rel (t + 1) C1 M1)) := by
  have h16 := hR.1.1.1
  unfold wpX6_count wpX7_count
  refine ⟨fun z M2 e2 => ?_, fun z => full_ok hn hR.1 (fun M2 e2 => ?_), fun z M2 e2 => ?_, fun ⟨z0, z1, z2⟩ M2 e2 => ?_⟩
  all_goals have h2 : Rel t C M2 := by rw [e2]; exact Rel_0 hR
  · rw [z]
    refine br_ne (by decide) (br_ni rfl ⟨?_, Rel_mono h2⟩)
    rw [h2.2.1]; exact h2.1.1.2.1
  · refine br_ni z (mcount_ok hn ⟨?_, Rel_mono h2⟩)
    obtain ⟨g1, g2, g3, g4, g5⟩ := h2.2
    have e1 : sm (fun k => ct (bt (cI C (64 + 8 * (k / 24) + 1) (k % 24))) 24) (24 * cN C) = sm (fun k => ct (bt (M2 3 k)) 24) (24 * cN C) := sm_cong (fun k hk => by
      have := g4 (k / 24) (by omega) (k % 24) (by omega)
      rw [show 24 * (k / 24) + k % 24 = k from dm24 k] at this
      rw [this])
    have e3 := sm_zero (f := fun k => ct (bt (M2 3 k)) 24) (a := 24 * cN C) (384 - 24 * cN C) (fun k k1 k2 => by
      show ct (bt (M2 3 k)) 24 = 0
      rw [g5 k k1 (by omega)]
      have e : ct (bt 0) 24 = ct (fun i => decide (i < 0)) 24 := ct_cong (fun k _ => by rw [b_0]; rfl)
      rw [e, ct_dlt 0 24 (by omega)])
    rw [e1, ← e3, show 24 * cN C + (384 - 24 * cN C) = 384 by omega]
  · rw [z]
    exact br_ne (by decide) (br_ne (by decide) (br_ni rfl ⟨h2.2.2.1.symm, Rel_mono h2⟩))
  · exact br_ne z1 (br_ne z0 (br_ne z2 ⟨rfl, Rel_mono h2⟩))
/-- how many of n may be chosen, j at a time -/
def bin : Nat → Nat → Nat
  | _, 0 => 1
  | 0, _ + 1 => 0
  | n + 1, j + 1 => bin n j + bin n (j + 1)
theorem bin_div : ∀ n, n < 13 → ∀ j, j < 13 → bin n j * (n - j) / (j + 1) = bin n (j + 1) ∧ bin n j * (n - j) < 100000 := by decide +kernel
theorem bin_0 : ∀ n j, n < j → bin n j = 0
  | _, 0, h => absurd h (by omega)
  | 0, j + 1, _ => by rw [bin]
  | n + 1, j + 1, h => by rw [bin, bin_0 n j (by omega), bin_0 n (j + 1) (by omega)]
def Wy (p r : Nat) : Nat → Nat → Nat
  | 0, 0 => 1
  | 0, _ + 1 => 0
  | n + 1, 0 => Wy p r n 0 * r
  | n + 1, j + 1 => Wy p r n (j + 1) * r + Wy p r n j * p
theorem Wy_is (p r : Nat) : ∀ n j, Wy p r n j = bin n j * (p ^ j * r ^ (n - j))
  | 0, 0 => by simp [Wy, bin]
  | 0, j + 1 => by simp [Wy, bin]
  | n + 1, 0 => by
    rw [Wy, Wy_is p r n 0]
    simp only [bin, Nat.sub_zero, Nat.pow_zero, Nat.one_mul, Nat.pow_succ]
  | n + 1, j + 1 => by
    rw [Wy, Wy_is p r n (j + 1), Wy_is p r n j, bin, Nat.add_sub_add_right]
    rcases Nat.lt_or_ge j n with h | h
    · have e : r ^ (n - (j + 1)) * r = r ^ (n - j) := by rw [← Nat.pow_succ]; congr 1; omega
      have e1 : bin n (j + 1) * (p ^ (j + 1) * r ^ (n - (j + 1))) * r = bin n (j + 1) * (p ^ (j + 1) * r ^ (n - j)) := by rw [Nat.mul_assoc, Nat.mul_assoc, e]
      have e2 : bin n j * (p ^ j * r ^ (n - j)) * p = bin n j * (p ^ (j + 1) * r ^ (n - j)) := by rw [Nat.mul_assoc, Nat.pow_succ, Nat.mul_right_comm]
      rw [e1, e2, ← Nat.add_mul, Nat.add_comm]
    · rw [bin_0 n (j + 1) (by omega), Nat.zero_mul, Nat.zero_mul, Nat.zero_add, Nat.add_zero, Nat.mul_assoc, Nat.pow_succ, Nat.mul_right_comm]
def pif (p r j : Nat) : Nat → Nat
  | 0 => 1
  | i + 1 => pif p r j i * (if i < j then p else r)
theorem pif_is (p r j : Nat) : ∀ i, pif p r j i = p ^ (min i j) * r ^ (i - j)
  | 0 => by simp [pif]
  | i + 1 => by
    rw [pif, pif_is p r j i]
    by_cases h : i < j
    · rw [if_pos h, show min (i + 1) j = min i j + 1 by omega, show i + 1 - j = i - j by omega, Nat.pow_succ, Nat.mul_right_comm]
    · rw [if_neg h, show min (i + 1) j = min i j by omega, show i + 1 - j = (i - j) + 1 by omega, Nat.pow_succ, Nat.mul_assoc]
