/-! PURE PART: bound, mark, row, print -/
theorem fb2 {n : Nat} {x1 x2 : Int32} {C : cM} {A : cM → Prop} {B : Nat → Nat → cM → Prop} (hn : 600 ≤ n) (hA : bAll C) (hno : ∀ C2, upd8 C C2 → bAll C2 → ((x1.toInt < 0 ∨ (cN C : Int) ≤ x1.toInt) ∨ (x2.toInt < 0 ∨ (cN C : Int) ≤ x2.toInt)) → A C2) (hy : ∀ p q C2, x1 = nI p → x2 = nI q → p < cN C → q < cN C → upd8 C C2 → bAll C2 → bFresh C2 p → bFresh C2 q → B p q C2) : wpX6_freshBoard n x1 C (fun r2 C2 => ((r2 = none → wpX6_freshBoard n x2 C2 (fun r8 C8 => ((r8 = none → A C8) ∧ (∀ b8 : Nat, r8 = some b8 → A C8)))) ∧ (∀ b2 : Nat, r2 = some b2 → wpX6_freshBoard n x2 C2 (fun r8 C8 => ((r8 = none → A C8) ∧ (∀ b8 : Nat, r8 = some b8 → B b2 b8 C8)))))) := by
  have h16 := hA.1
  rcases i32_cases x1 (cN C) (by omega) with ⟨p, hp, rfl⟩ | ho
  · refine freshBoard_yes hn hA hp (fun C1 u1 a1 f1 s1 => ⟨fun z => (by cases z), fun b2 z => ?_⟩)
    cases z
    rcases i32_cases x2 (cN C) (by omega) with ⟨q, hq, rfl⟩ | ho
    · refine freshBoard_yes hn a1 (by rw [u1.1]; exact hq) (fun C2 u2 a2 f2 s2 => ⟨fun z => (by cases z), fun b8 z => ?_⟩)
      cases z
      have hp1 : p < cN C1 := by rw [u1.1]; exact hp
      exact hy p q C2 rfl rfl hp hq (u1.tr u2) a2 ((a2.2.2 p (by rw [u2.1]; exact hp1)).2 (u2.2.2.2.2.2 p hp1 s1)) f2
    · exact freshBoard_no a1 (by rw [u1.1]; exact ho) ⟨fun _ => hno C1 u1 a1 (Or.inr ho), fun b z => (by cases z)⟩
  · refine freshBoard_no hA ho ⟨fun _ => ?_, fun b z => (by cases z)⟩
    rcases i32_cases x2 (cN C) (by omega) with ⟨q, hq, rfl⟩ | ho2
    · exact freshBoard_yes hn hA hq (fun C2 u2 a2 f2 s2 => ⟨fun z => (by cases z), fun b8 z => hno C2 u2 a2 (Or.inl ho)⟩)
    · exact freshBoard_no hA ho2 ⟨fun _ => hno C (upd8.rf C) hA (Or.inl ho), fun b z => (by cases z)⟩
theorem s_bound {n t : Nat} {C : cM} {M : mM} {x1 x2 : Int32} (hn : 600 ≤ n) (hR : Rel t C M) : wpX6_bound n x1 x2 C (fun r C1 => wpX7_bound n x1 x2 M (fun r1 M1 => r = r1 ∧ Rel (t + 1) C1 M1)) := by
  have hA := hR.1.1
  have h16 := hA.1
  unfold wpX6_bound
  refine fb2 hn hA (fun C2 u2 a2 hbad => ?_) (fun p q C2 e1 e2 hp hq u2 a2 f1 f2 => ?_)
  · have hR2 := Rel_up hR u2 a2
    unfold wpX7_bound
    intro M2 eM
    have h2 : Rel t C2 M2 := by rw [eM]; exact Rel_0 hR2
    have fin : (-1 : Int32) = -1 ∧ Rel (t + 1) C2 M2 := ⟨rfl, Rel_mono h2⟩
    rw [← u2.1] at hbad
    rcases i32_cases x1 (cN C2) (by have := a2.1; omega) with ⟨p, hp, rfl⟩ | ho
    · refine isPrint_yes h2.2.1 a2.1 hp (br_1 ?_)
      refine isPrint_no h2.2.1 a2.1 ?_ (br_0n fin)
      rw [tI p (by have := a2.1; omega)] at hbad
      omega
    · exact isPrint_no h2.2.1 a2.1 ho (br_0 fin)
  · subst e1 e2
    have hR2 := Rel_up hR u2 a2
    have hp2 : p < cN C2 := by rw [u2.1]; exact hp
    have hq2 : q < cN C2 := by rw [u2.1]; exact hq
    refine ⟨⟨hp2, by omega⟩, mostAgreeing_ok ⟨hp2, by omega⟩ ⟨hq2, by omega⟩ f1.2.2 f2.2.2 (marks_len _) (marks_len _) ?_⟩
    unfold wpX7_bound
    intro M2 eM
    have h2 : Rel t C2 M2 := by rw [eM]; exact Rel_0 hR2
    refine isPrint_yes h2.2.1 a2.1 hp2 (br_1 (isPrint_yes h2.2.1 a2.1 hq2 (br_1n ?_)))
    refine findMarks2_ok hn h2 hp2 hq2 (fun M3 f3 h3 m1 m2 => ?_)
    exact boundOf_ok (by omega) (by omega) (by omega) m1 m2 (marks_len _) (marks_len _) (marks_ok _) (marks_ok _) ⟨rfl, Rel_mono h3⟩
theorem l_pred (k : Nat) (hk : k ≤ 40) : ((nI k).toInt64 - 1 : Int64).toInt = (k : Int) - 1 := by
  rw [nI_l (by omega)]
  rcases Nat.eq_zero_or_pos k with rfl | h0
  · rfl
  · rw [show (lN k - 1 : Int64) = lN k - lN 1 from rfl, lN_sub (by omega), lN_toInt (by omega)]; omega
theorem mmark_yes {n t p w : Nat} {C : cM} {M : mM} {x2 : Int32} {Q : Int32 → mM → Prop} (hn : 600 ≤ n) (hR : Rel t C M) (hp : p < cN C) (hw : w < 3) (hq : ∀ M3, Rel t C M3 → mMk (bm C p) p M3 → ((¬ x2 = (-1) → ∀ x4_82 : Int32, x4_82 = ((40 * nI p) + x2) → (vp_in (nI p) 16 ∧ wpX7_in n (x2.toInt64) 0 (((M3 8 (nI p).toNatClampNeg).toInt64) - 1) M3 (fun r96 M96 => ((¬ r96 = 0 → ((¬ nI w = 0 → ((¬ nI w = 1 → (vp_in x4_82 640 ∧ Q (M96 11 x4_82.toNatClampNeg) M96)) ∧ (nI w = 1 → (vp_in x4_82 640 ∧ Q (M96 10 x4_82.toNatClampNeg) M96)))) ∧ (nI w = 0 → (vp_in x4_82 640 ∧ Q (M96 9 x4_82.toNatClampNeg) M96)))) ∧ (r96 = 0 → Q (-1) M96))))) ∧ (x2 = (-1) → ((¬ nI w = 0 → ((¬ nI w = 1 → (vp_in (nI p) 16 ∧ wpX7_endsOf n (nI p) M3 (fun r71 M71 => Q ((M3 8 (nI p).toNatClampNeg) - r71) M71))) ∧ (nI w = 1 → wpX7_endsOf n (nI p) M3 (fun r57 M57 => Q r57 M57)))) ∧ (nI w = 0 → (vp_in (nI p) 16 ∧ Q (M3 8 (nI p).toNatClampNeg) M3)))))) : wpX7_mark n (nI p) x2 (nI w) M Q := by
  have h16 := hR.1.1.1
  unfold wpX7_mark
  intro M2 e2
  have h2 : Rel t C M2 := by rw [e2]; exact Rel_0 hR
  refine isPrint_yes h2.2.1 h16 hp (br_1 ?_)
  refine in_yes (by rw [i64_le, i64_of, tI w (by omega)]; show (0 : Int) ≤ w; omega) (by rw [i64_le, i64_of, tI w (by omega)]; show (w : Int) ≤ 2; omega) (br_1n ?_)
  refine findMarks_ok hn (by omega) (fun M3 f3 o3 m3 => ?_)
  rw [mRel_G h2.2 hp] at m3
  exact hq M3 ⟨h2.1, mRel_fr h2.2 f3 (by simp) (by simp)⟩ m3
theorem s_mark {n t : Nat} {C : cM} {M : mM} {x1 x2 x3 : Int32} (hn : 600 ≤ n) (hR : Rel t C M) : wpX6_mark n x1 x2 x3 C (fun r C1 => wpX7_mark n x1 x2 x3 M (fun r1 M1 => r = r1 ∧ Rel (t + 1) C1 M1)) := by
  have hA := hR.1.1
  have h16 := hA.1
  have mno : ∀ C1, Rel t C1 M → ((x1.toInt < 0 ∨ (cN C1 : Int) ≤ x1.toInt) ∨ (x3.toInt < 0 ∨ 3 ≤ x3.toInt)) → wpX7_mark n x1 x2 x3 M (fun r1 M1 => -1 = r1 ∧ Rel (t + 1) C1 M1) := fun C1 hR1 hbad => by
    unfold wpX7_mark
    intro M2 e2
    have h2 : Rel t C1 M2 := by rw [e2]; exact Rel_0 hR1
    have fin : (-1 : Int32) = -1 ∧ Rel (t + 1) C1 M2 := ⟨rfl, Rel_mono h2⟩
    rcases i32_cases x1 (cN C1) (by have := hR1.1.1.1; omega) with ⟨p, hp, rfl⟩ | ho
    · refine isPrint_yes h2.2.1 hR1.1.1.1 hp (br_1 ?_)
      refine in_no ?_ (br_0n fin)
      rw [i64_lt, i64_lt, i64_of]
      rw [tI p (by have := hR1.1.1.1; omega)] at hbad
      show x3.toInt < (0 : Int) ∨ (2 : Int) < x3.toInt
      omega
    · exact isPrint_no h2.2.1 hR1.1.1.1 ho (br_0 fin)
  unfold wpX6_mark
  rcases i32_cases x1 (cN C) (by omega) with ⟨p, hp, rfl⟩ | ho
  · refine freshBoard_yes hn hA hp (fun C2 u2 a2 f2 s2 => ⟨fun z => (by cases z), fun b2 z => ?_⟩)
    cases z
    have hR2 := Rel_up hR u2 a2
    have hp2 : p < cN C2 := by rw [u2.1]; exact hp
    have hb2 : bok C2 p := ⟨hp2, by omega⟩
    rcases i32_cases x3 3 (by omega) with ⟨w, hw, rfl⟩ | ho3
    · refine br_e (by rw [i32_lt, tI w (by omega)]; show ¬ (w : Int) < 0; omega) ?_
      refine pk_le w 2 (fun _ => ?_) (fun z => absurd z (by omega))
      have hL : (bm C2 p).length ≤ 40 := marks_len (thinG (bG C2 p))
      have hK : ∀ m ∈ bm C2 p, mkOk m := marks_ok (thinG (bG C2 p))
      have hc : cMk (bm C2 p) p C2 := f2.2.2
      by_cases hx : x2 = -1
      · subst hx
        refine br_ni rfl ?_
        rcases (show w = 0 ∨ w = 1 ∨ w = 2 by omega) with rfl | rfl | rfl
        · refine br_ni rfl ⟨hb2, mmark_yes hn hR2 hp2 (by omega) (fun M3 h3 m3 => br_ni rfl (br_ni rfl ⟨pk_in p 16 (by omega), ?_, Rel_mono h3⟩))⟩
          rw [hc.1, cl_nI (by omega), m3.1]
        · refine br_ne (by decide) (br_ni rfl ⟨hb2, mmark_yes hn hR2 hp2 (by omega) (fun M3 h3 m3 => br_ni rfl (br_ne (by decide) (br_ni rfl (endsOf_ok (by omega) (by omega) m3 hL hK ⟨?_, Rel_mono h3⟩))))⟩)
          rw [hc.2.1]
        · refine br_ne (by decide) (br_ne (by decide) ⟨hb2, ?_⟩)
          unfold wpX0_forkCount
          refine ⟨hb2, mmark_yes hn hR2 hp2 (by omega) (fun M3 h3 m3 => br_ni rfl (br_ne (by decide) (br_ne (by decide) ⟨pk_in p 16 (by omega), endsOf_ok (by omega) (by omega) m3 hL hK ⟨?_, Rel_mono h3⟩⟩)))⟩
          rw [hc.1, hc.2.1, cl_nI (by omega), m3.1]
      · refine br_ne hx ?_
        -- out of the list
        have out : (x2.toInt < 0 ∨ ((bm C2 p).length : Int) ≤ x2.toInt) → wpX7_mark n (nI p) x2 (nI w) M (fun r1 M1 => -1 = r1 ∧ Rel (t + 1) C2 M1) := fun hout => by
          refine mmark_yes hn hR2 hp2 hw (fun M3 h3 m3 => br_ne hx (fun k ek => ⟨pk_in p 16 (by omega), in_no ?_ (br_0n ⟨rfl, Rel_mono h3⟩)⟩))
          rw [cl_nI (by omega), m3.1, i64_lt, i64_lt, i64_of, l_pred _ hL]
          show x2.toInt < (0 : Int) ∨ _
          omega
        rcases i32_cases x2 (bm C2 p).length (by have : (bm C2 p).length ≤ 40 := hL; omega) with ⟨i, hi, rfl⟩ | ho2
        · have hi40 : i < 40 := by have : (bm C2 p).length ≤ 40 := hL; omega
          refine br_e (by rw [i32_lt, tI i (by omega)]; show ¬ (i : Int) < 0; omega) ⟨hb2, ?_⟩
          rw [hc.1]
          refine pk_le (bm C2 p).length i (fun z => absurd z (by omega)) (fun _ => ?_)
          refine br_i (by rw [i32_lt, tI i (by omega)]; show (i : Int) < 40; omega) ?_
          have e3 := hc.2.2 i hi
          rw [Nat.zero_add] at e3
          have tail : ∀ (M3 : mM), Rel t C2 M3 → mMk (bm C2 p) p M3 → ∀ r : Int32, (w = 0 → r = nI (mget (bm C2 p) i).1) → (w = 1 → r = nI (mget (bm C2 p) i).2.1) → (w = 2 → r = nI (mget (bm C2 p) i).2.2) → ∀ k : Int32, k = (40 * nI p) + nI i → ((¬ nI w = 0 → ((¬ nI w = 1 → (vp_in k 640 ∧ (r = M3 11 k.toNatClampNeg ∧ Rel (t + 1) C2 M3))) ∧ (nI w = 1 → (vp_in k 640 ∧ (r = M3 10 k.toNatClampNeg ∧ Rel (t + 1) C2 M3))))) ∧ (nI w = 0 → (vp_in k 640 ∧ (r = M3 9 k.toNatClampNeg ∧ Rel (t + 1) C2 M3)))) := fun M3 h3 m3 r r0 r1 r2 k ek => by
            have ek2 : k = nI (40 * p + i) := by rw [ek, show (40 : Int32) = nI 40 from rfl, pk_mul, nI_add]
            have e4 := m3.2 i hi
            have vk : vp_in k 640 := by rw [ek2]; exact pk_in (40 * p + i) 640 (by omega)
            have ck : k.toNatClampNeg = 40 * p + i := by rw [ek2, cl_nI (by omega)]
            rw [ck]
            rcases (show w = 0 ∨ w = 1 ∨ w = 2 by omega) with rfl | rfl | rfl
            · exact br_ni rfl ⟨vk, by rw [r0 rfl, e4.1], Rel_mono h3⟩
            · exact br_ne (by decide) (br_ni rfl ⟨vk, by rw [r1 rfl, e4.2.1], Rel_mono h3⟩)
            · exact br_ne (by decide) (br_ne (by decide) ⟨vk, by rw [r2 rfl, e4.2.2], Rel_mono h3⟩)
          have fin : ∀ r : Int32, (w = 0 → r = nI (mget (bm C2 p) i).1) → (w = 1 → r = nI (mget (bm C2 p) i).2.1) → (w = 2 → r = nI (mget (bm C2 p) i).2.2) → wpX7_mark n (nI p) (nI i) (nI w) M (fun r1 M1 => r = r1 ∧ Rel (t + 1) C2 M1) := fun r r0 r1 r2 => by
            refine mmark_yes hn hR2 hp2 hw (fun M3 h3 m3 => br_ne hx (fun k ek => ⟨pk_in p 16 (by omega), in_yes ?_ ?_ (br_1n (tail M3 h3 m3 r r0 r1 r2 k ek))⟩))
            · rw [i64_le, i64_of, tI i (by omega)]; show (0 : Int) ≤ i; omega
            · rw [cl_nI (by omega), m3.1, i64_le, i64_of, tI i (by omega), l_pred _ hL]; omega
          rw [cl_nI (by omega)]
          rcases (show w = 0 ∨ w = 1 ∨ w = 2 by omega) with rfl | rfl | rfl
          · exact br_ni rfl ⟨pk_in i 40 hi40, fin _ (fun _ => e3.1) (fun z => absurd z (by decide)) (fun z => absurd z (by decide))⟩
          · exact br_ne (by decide) (br_ni rfl ⟨pk_in i 40 hi40, fin _ (fun z => absurd z (by decide)) (fun _ => e3.2.1) (fun z => absurd z (by decide))⟩)
          · exact br_ne (by decide) (br_ne (by decide) ⟨pk_in i 40 hi40, fin _ (fun z => absurd z (by decide)) (fun z => absurd z (by decide)) (fun _ => e3.2.2)⟩)
        · have hout := out ho2
          refine br_d (fun _ => hout) (fun z => ⟨hb2, br_i ?_ hout⟩)
          rw [i32_lt] at z
          have z : ¬ x2.toInt < (0 : Int) := z
          have hL' : (bm C2 p).length ≤ 40 := hL
          rw [hc.1, i32_le, tI _ (by omega)]
          omega
    · have hbad := mno C2 hR2 (Or.inr ho3)
      refine br_d (fun _ => hbad) (fun z => br_e ?_ hbad)
      rw [i32_lt] at z
      have z : ¬ x3.toInt < (0 : Int) := z
      rw [i32_le]
      show ¬ x3.toInt ≤ (2 : Int)
      omega
  · exact freshBoard_no hA ho ⟨fun _ => mno C hR (Or.inl ho), fun b z => (by cases z)⟩
