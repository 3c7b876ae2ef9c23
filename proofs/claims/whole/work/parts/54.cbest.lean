/-! PURE PART: the class's best move, meetings, best -/
theorem cMk_of {L : List Mk} {b : Nat} {C C1 : cM} (h : cMk L b C) (hb : b < 16) (hi : ∀ i, 64 ≤ i → i < 192 → cI C1 i = cI C i) : cMk L b C1 := by
  unfold cMk
  rw [hi _ (by omega) (by omega), hi _ (by omega) (by omega), hi _ (by omega) (by omega), hi _ (by omega) (by omega)]
  exact h
/-- what the going through the moves may change -/
def kfr (k : Nat) (C C1 : cM) : Prop := cfx [27, 28, 29, 30, 256 + k] [4, 26] C C1 ∧ ∀ j, j < 5 → cI C1 (256 + k) j = cI C (256 + k) j
theorem kfr.rf (k : Nat) (C : cM) : kfr k C C := ⟨cfx.rf _ _ _, fun _ _ => rfl⟩
theorem kfr.tr {k : Nat} {A B C : cM} (h1 : kfr k A B) (h2 : kfr k B C) : kfr k A C := ⟨h1.1.tr h2.1, fun j hj => (h2.2 j hj).trans (h1.2 j hj)⟩
theorem prepd_k {L1 L2 : List Mk} {T k : Nat} {C C1 : cM} (h : prepd L1 L2 T C) (hf : kfr k C C1) : prepd L1 L2 T C1 := by
  obtain ⟨h1, h2, h3, h4, h5⟩ := h
  have g : ∀ i, i < 27 → cI C1 i = cI C i := fun i hi => hf.1.1 i (by simp; omega)
  refine ⟨by rw [g 4 (by omega)]; exact h1, ?_, ?_, ?_, ?_⟩
  · unfold turnd; rw [g 20 (by omega), g 21 (by omega), g 22 (by omega)]; exact h2
  · rw [hf.1.2.1 23 (by simp)]; exact h3
  · rw [hf.1.2.1 24 (by simp)]; exact h4
  · rw [hf.1.2.1 25 (by simp)]; exact h5
def kBW (L1 L2 : List Mk) (T k : Nat) (r : Int) (C : cM) : Prop := BW L1 L2 T r (cI C (256 + k) 5) (cI C (256 + k) 6) (cI C (256 + k) 7) (cI C (256 + k) 8)
theorem tryMove_ok {n k t T : Nat} {X Y : Int32} {r : Int} {L1 L2 : List Mk} {C : cM} {Q : cM → Prop} (hn : 100 ≤ n) (hk : tok C k) (hP : prepd L1 L2 T C) (l1 : L1.length ≤ 40) (l2 : L2.length ≤ 40) (k1 : ∀ m ∈ L1, mkOk m) (ho : mvOk t X.toInt Y.toInt) (hr : rk t X.toInt Y.toInt = r) (hB : kBW L1 L2 T k r C) (hq : ∀ C1, kfr k C C1 → kBW L1 L2 T k (r + 1) C1 → Q C1) : wpX1_tryMove n k (nI t) X Y C Q := by
  obtain ⟨o1, o2, o3, o4, o5⟩ := id ho
  unfold wpX1_tryMove
  refine ⟨hk, mostPairs_ok hn o1 ⟨o2, o3⟩ ⟨o4, o5⟩ hP l1 l2 k1 (fun C1 s f1 hs hcnt => ⟨f1.tk hk, ?_⟩)⟩
  have g : cI C1 (256 + k) = cI C (256 + k) := f1.1 _ (by simp; omega)
  have fr1 : kfr k C C1 := ⟨f1.mono (by simp) (by simp), fun j _ => by rw [g]⟩
  have hB1 : kBW L1 L2 T k r C1 := by unfold kBW; rw [g]; exact hB
  refine br_d (fun w => hq C1 fr1 (BW_low hB1 ho hr (by omega) w (fun c0 hc0 => ?_))) (fun w C2 e2 C3 e3 C4 e4 C5 e5 => ?_)
  · rcases hcnt with z | ⟨_, z⟩
    · rw [IsMax_one hc0 z]; exact Nat.le_refl _
    · exact z c0 hc0
  · have hc : cntIs L1 L2 T t X.toInt Y.toInt s := by
      rcases hcnt with z | ⟨z, _⟩
      · exact z
      · rw [g] at w
        rw [i32_lt] at z
        rw [i32_le] at w
        omega
    have q5 : cI C5 (256 + k) 5 = nI s := by rw [e5, cst_off _ _ (by decide), e4, cst_off _ _ (by decide), e3, cst_off _ _ (by decide), e2, cst_at]
    have q6 : cI C5 (256 + k) 6 = nI t := by rw [e5, cst_off _ _ (by decide), e4, cst_off _ _ (by decide), e3, cst_at]
    have q7 : cI C5 (256 + k) 7 = X := by rw [e5, cst_off _ _ (by decide), e4, cst_at]
    have q8 : cI C5 (256 + k) 8 = Y := by rw [e5, cst_at]
    refine hq C5 (fr1.tr ⟨?_, fun j hj => ?_⟩) ?_
    · rw [e5, e4, e3, e2]
      exact (((cfx.st (by simp)).tr (cfx.st (by simp))).tr (cfx.st (by simp))).tr (cfx.st (by simp))
    · rw [e5, cst_off _ _ (by omega), e4, cst_off _ _ (by omega), e3, cst_off _ _ (by omega), e2, cst_off _ _ (by omega)]
    · unfold kBW
      rw [q5, q6, q7, q8]
      exact BW_new hB1 ho hr hs w hc
theorem iabs_toInt {x : Int32} (h1 : -100 ≤ x.toInt) (h2 : x.toInt ≤ 100) : (iabs x).toInt = ab x.toInt := by
  have z0 : (0 : Int32).toInt = 0 := rfl
  show (if 0 ≤ x then x else 0 - x).toInt = _
  unfold ab
  by_cases z : 0 ≤ x
  · rw [if_pos z]
    rw [i32_le, z0] at z
    rw [if_neg (by omega)]
  · rw [if_neg z]
    rw [i32_le, z0] at z
    rw [if_pos (by omega), subI (by rw [z0]; omega) (by rw [z0]; omega), z0]; omega
theorem moves_ok {n k T : Nat} {L1 L2 : List Mk} {C0 : cM} {Q : cM → Prop} (hn : 100 ≤ n) (hk : tok C0 k) (hP : prepd L1 L2 T C0) (l1 : L1.length ≤ 40) (l2 : L2.length ≤ 40) (k1 : ∀ m ∈ L1, mkOk m) (k2 : ∀ m ∈ L2, mkOk m) (hm1 : cI C0 (256 + k) 5 = -1) (hq : ∀ C1, kfr k C0 C1 → BF L1 L2 T (cI C1 (256 + k) 5) (cI C1 (256 + k) 6) (cI C1 (256 + k) 7) (cI C1 (256 + k) 8) → Q C1) : wpX1_findBestMove_60 n Q k (nI (bnd L1 L2)) n 0 C0 := by
  have b40 : bnd L1 L2 ≤ 80 := by
    have := endsN_le L1
    have := endsN_le L2
    unfold bnd; omega
  have i8 : (8 : Int32).toInt = 8 := rfl
  have z0 : (0 : Int32).toInt = 0 := rfl
  have l96 : ∀ (E : cM → Prop) (f t : Nat), f ≤ 16 → t < 4 → (∀ C1, kfr k C0 C1 → kBW L1 L2 T k (((f * 4 + (t + 1)) * 289 : Nat) : Int) C1 → E C1) → ∀ (g i : Nat) (x6 : Int32) (C : cM), i ≤ 17 → 17 < i + g → x6.toInt = (i : Int) - 8 → kfr k C0 C → kBW L1 L2 T k (((f * 4 + t) * 289 + i * 17 : Nat) : Int) C → wpX1_findBestMove_96 n E k (nI (bnd L1 L2)) (nI f) (nI t) g x6 C := by
    intro E f t hf ht hE g
    induction g with
    | zero => intro i x6 C a1 a2; exact absurd a2 (by omega)
    | succ g ih =>
      intro i x6 C hi hig e6 hC hB
      rw [wpX1_findBestMove_96]
      refine br_d (fun w => ?_) (fun w => ?_)
      · rw [i32_lt, i8] at w
        have : i = 17 := by omega
        subst this
        refine hE C hC ?_
        rw [show (f * 4 + (t + 1)) * 289 = (f * 4 + t) * 289 + 17 * 17 by omega]
        exact hB
      · rw [i32_lt, i8] at w
        obtain ⟨B, eB⟩ : ∃ B, B = (f * 4 + t) * 289 + i * 17 := ⟨_, rfl⟩
        rw [← eB] at hB
        have r6 : 0 ≤ ab x6.toInt ∧ ab x6.toInt ≤ 8 := by unfold ab; split <;> omega
        intro x7 e7
        have i7 : x7.toInt = (f : Int) - ab x6.toInt := by
          have ia := iabs_toInt (x := x6) (by omega) (by omega)
          rw [e7, subI (by rw [tI f (by omega), ia]; omega) (by rw [tI f (by omega), ia]; omega), tI f (by omega), ia]
        -- behind the last move of this dx
        have next : ∀ C1, kfr k C0 C1 → kBW L1 L2 T k ((B : Int) + 17) C1 → ∀ y : Int32, y = x6 + 1 → wpX1_findBestMove_96 n E k (nI (bnd L1 L2)) (nI f) (nI t) g y C1 := fun C1 f1 b1 y ey => by
          refine ih (i + 1) y C1 (by omega) (by omega) (by rw [ey, add1I e6 (by omega) (by omega)]; omega) f1 ?_
          rw [show (((f * 4 + t) * 289 + (i + 1) * 17 : Nat) : Int) = (B : Int) + 17 by rw [eB]; omega]
          exact b1
        have skip : ∀ (r r1 : Int) (C1 : cM), kBW L1 L2 T k r C1 → (B : Int) ≤ r → r ≤ r1 → r1 ≤ (B : Int) + 17 → (∀ dy2 : Int, -8 ≤ dy2 → dy2 ≤ 8 → ab dy2 = x7.toInt → r ≤ (B : Int) + (dy2 + 8) → (B : Int) + (dy2 + 8) < r1 → False) → kBW L1 L2 T k r1 C1 := fun r r1 C1 hb q1 q2 q3 q4 => by
          refine BW_skip hb q2 (fun t2 dx2 dy2 o2 hk2 => ?_)
          rcases Int.lt_or_le (rk t2 dx2 dy2) r with v | v
          · exact v
          · obtain ⟨g1, g2, g3, g4⟩ := rk_slot (t := t) (i := i) (f := f) o2 ht (by omega) eB (by omega) (by omega)
            rw [g2, ← e6] at g3
            exact absurd (q4 dy2 o2.2.2.2.1 o2.2.2.2.2 (by omega) (by omega) (by omega)) id
        have rk6 : ∀ Y : Int32, ab Y.toInt = x7.toInt → rk t x6.toInt Y.toInt = (B : Int) + (Y.toInt + 8) := fun Y hY => by
          have := rk_at (t := t) (i := i) (f := f) (dx := x6.toInt) (dy := Y.toInt) e6 (by omega)
          rw [this, ← eB]
        have abn : ∀ z : Int, 0 ≤ z → ab z = z := fun z hz => by unfold ab; rw [if_neg (by omega)]
        have abm : ∀ z : Int, 0 ≤ z → ab (-z) = z := fun z hz => by unfold ab; split <;> omega
        have ab2 : ∀ a b : Int, ab a = b → a = b ∨ a = -b := fun a b h => by unfold ab at h; split at h <;> omega
        by_cases in0 : 0 ≤ x7.toInt ∧ x7.toInt ≤ 8
        · refine br_e (by rw [i32_lt, z0]; omega) (br_e (by rw [i32_lt, i8]; omega) ⟨hC.1.tk hk, ?_⟩)
          have in7 : (-x7).toInt = -x7.toInt := iNeg (by omega) (by omega)
          have am : ab (-x7).toInt = x7.toInt := by rw [in7]; exact abm _ in0.1
          refine tryMove_ok hn (hC.1.tk hk) (prepd_k hP hC) l1 l2 k1 (by unfold mvOk; omega) (rk6 (-x7) am) (skip B _ C hB (by omega) (by omega) (by omega) (fun dy2 d1 d2 d3 d4 d5 => ?_)) (fun C1 f1 b1 => ?_)
          · have := ab2 dy2 _ d3
            omega
          · have F1 := hC.tr f1
            unfold wpX1_findBestMove_137
            refine br_d (fun v => ?_) (fun v => ?_)
            · rw [i32_le, z0] at v
              refine next C1 F1 (skip _ _ C1 b1 (by omega) (by omega) (by omega) (fun dy2 d1 d2 d3 d4 d5 => ?_))
              have := ab2 dy2 _ d3
              omega
            · rw [i32_le, z0] at v
              refine br_e (by rw [i32_lt, i8]; omega) ⟨F1.1.tk hk, ?_⟩
              refine tryMove_ok hn (F1.1.tk hk) (prepd_k hP F1) l1 l2 k1 (by unfold mvOk; omega) (rk6 x7 (abn _ in0.1)) (skip _ _ C1 b1 (by omega) (by omega) (by omega) (fun dy2 d1 d2 d3 d4 d5 => ?_)) (fun C2 f2 b2 => ?_)
              · have := ab2 dy2 _ d3
                omega
              · refine next C2 (F1.tr f2) (skip _ _ C2 b2 (by omega) (by omega) (by omega) (fun dy2 d1 d2 d3 d4 d5 => ?_))
                have := ab2 dy2 _ d3
                omega
        · have n137 : wpX1_findBestMove_137 n (wpX1_findBestMove_96 n E k (nI (bnd L1 L2)) (nI f) (nI t) g) k (nI (bnd L1 L2)) (nI f) (nI t) x6 x7 C := by
            have nx := next C hC (skip _ _ C hB (by omega) (by omega) (by omega) (fun dy2 d1 d2 d3 d4 d5 => by
              have e : 0 ≤ ab dy2 ∧ ab dy2 ≤ 8 := by unfold ab; split <;> omega
              omega))
            unfold wpX1_findBestMove_137
            refine br_d (fun _ => nx) (fun v => br_i ?_ nx)
            rw [i32_le, z0] at v
            rw [i32_lt, i8]
            omega
          refine br_d (fun _ => n137) (fun v => br_i ?_ n137)
          rw [i32_lt, z0] at v
          rw [i32_lt, i8]
          omega
  have l78 : ∀ (E : cM → Prop) (f : Nat), f ≤ 16 → (∀ C1, kfr k C0 C1 → (kBW L1 L2 T k (((f + 1) * 4 * 289 : Nat) : Int) C1 ∨ (nI (bnd L1 L2) ≤ cI C1 (256 + k) 5 ∧ ∃ r, kBW L1 L2 T k r C1)) → E C1) → ∀ (g t : Nat) (C : cM), t ≤ 4 → 4 < t + g → kfr k C0 C → kBW L1 L2 T k (((f * 4 + t) * 289 : Nat) : Int) C → wpX1_findBestMove_78 n E k (nI (bnd L1 L2)) (nI f) g (nI t) C := by
    intro E f hf hE g
    induction g with
    | zero => intro t C a1 a2; exact absurd a2 (by omega)
    | succ g ih =>
      intro t C ht htg hC hB
      rw [wpX1_findBestMove_78]
      refine ⟨hC.1.tk hk, br_d (fun w => hE C hC (Or.inr ⟨w, _, hB⟩)) (fun w => pk_le 4 t (fun z => ?_) (fun z => ?_))⟩
      · have : t = 4 := by omega
        subst this
        refine hE C hC (Or.inl ?_)
        rw [show (f + 1) * 4 * 289 = (f * 4 + 4) * 289 by omega]
        exact hB
      · refine l96 _ f t hf z (fun C1 f1 b1 y ey => by rw [ey, nI_1]; exact ih (t + 1) C1 (by omega) (by omega) f1 b1) n 0 (-8) C (by omega) (by omega) (by decide) hC ?_
        rw [show (f * 4 + t) * 289 + 0 * 17 = (f * 4 + t) * 289 by omega]
        exact hB
  have l60 : ∀ (g f : Nat) (C : cM), f ≤ 17 → 17 < f + g → kfr k C0 C → (kBW L1 L2 T k ((f * 4 * 289 : Nat) : Int) C ∨ (nI (bnd L1 L2) ≤ cI C (256 + k) 5 ∧ ∃ r, kBW L1 L2 T k r C)) → wpX1_findBestMove_60 n Q k (nI (bnd L1 L2)) g (nI f) C := by
    intro g
    induction g with
    | zero => intro f C a1 a2; exact absurd a2 (by omega)
    | succ g ih =>
      intro f C hf hfg hC hB
      rw [wpX1_findBestMove_60]
      refine ⟨hC.1.tk hk, br_d (fun w => ?_) (fun w => ?_)⟩
      · obtain ⟨r, hr⟩ : ∃ r, kBW L1 L2 T k r C := by
          rcases hB with z | ⟨_, z⟩
          · exact ⟨_, z⟩
          · exact z
        exact hq C hC (BW_stop hr (by omega) w (fun t2 dx2 dy2 c2 hc2 => cnt_bnd k1 k2 hc2))
      · have hB : kBW L1 L2 T k ((f * 4 * 289 : Nat) : Int) C := by
          rcases hB with z | ⟨z, _⟩
          · exact z
          · exact absurd z w
        refine pk_lt 16 f (fun z => ?_) (fun z => ?_)
        · have : f = 17 := by omega
          subst this
          exact hq C hC (BW_end hB (fun t2 dx2 dy2 o2 => by have := rk_max o2; omega))
        · refine l78 _ f z (fun C1 f1 b1 y ey => by rw [ey, nI_1]; exact ih (f + 1) C1 (by omega) (by omega) f1 b1) n 0 C (by omega) (by omega) hC ?_
          rw [show (f * 4 + 0) * 289 = f * 4 * 289 by omega]
          exact hB
  refine l60 n 0 C0 (by omega) (by omega) (kfr.rf _ _) (Or.inl (Or.inl ⟨hm1, fun t2 dx2 dy2 o2 => ?_⟩))
  have := rk_min o2
  omega
theorem findBestMove_ok {n k T : Nat} {L1 L2 : List Mk} {C0 : cM} {Q : cM → Prop} (hn : 100 ≤ n) (hk : tok C0 k) (hp : bok C0 (k / 16)) (hq16 : bok C0 (k % 16)) (h1 : cMk L1 (k / 16) C0) (h2 : cMk L2 (k % 16) C0) (l1 : L1.length ≤ 40) (l2 : L2.length ≤ 40) (k1 : ∀ m ∈ L1, mkOk m) (k2 : ∀ m ∈ L2, mkOk m) (hT : T ≤ 3) (hQ : ∀ C1, cfx [4, 20, 21, 22, 27, 28, 29, 30, 256 + k] [4, 23, 24, 25, 26] C0 C1 → cI C1 (256 + k) 2 = cI C0 (64 + 8 * (k / 16)) 7 → cI C1 (256 + k) 3 = cI C0 (64 + 8 * (k % 16)) 7 → cI C1 (256 + k) 4 = nI T → BF L1 L2 T (cI C1 (256 + k) 5) (cI C1 (256 + k) 6) (cI C1 (256 + k) 7) (cI C1 (256 + k) 8) → Q C1) : wpX1_findBestMove n k (nI T) C0 Q := by
  have hk256 := hk.1
  unfold wpX1_findBestMove
  refine ⟨hk, hp, fun C1 e1 => ?_⟩
  have f1 : cfx [4, 20, 21, 22, 27, 28, 29, 30, 256 + k] [4, 23, 24, 25, 26] C0 C1 := by rw [e1]; exact cfx.st (by simp)
  refine ⟨f1.bk hq16, fun C2 e2 C3 e3 C4 e4 => ?_⟩
  have f4 : cfx [4, 20, 21, 22, 27, 28, 29, 30, 256 + k] [4, 23, 24, 25, 26] C0 C4 := by rw [e4, e3, e2]; exact ((f1.tr (cfx.st (by simp))).tr (cfx.st (by simp))).tr (cfx.st (by simp))
  have lo4 : ∀ i, 64 ≤ i → i < 192 → cI C4 i = cI C0 i := fun i a b => f4.1 i (by simp; omega)
  have g2 : cI C4 (256 + k) 2 = cI C0 (64 + 8 * (k / 16)) 7 := by rw [e4, cst_off _ _ (by decide), e3, cst_off _ _ (by decide), e2, cst_off _ _ (by decide), e1, cst_at]
  have g3 : cI C4 (256 + k) 3 = cI C0 (64 + 8 * (k % 16)) 7 := by rw [e4, cst_off _ _ (by decide), e3, cst_off _ _ (by decide), e2, cst_at, e1, cI_ne _ _ _ (by omega)]
  have g4 : cI C4 (256 + k) 4 = nI T := by rw [e4, cst_off _ _ (by decide), e3, cst_at]
  have g5 : cI C4 (256 + k) 5 = -1 := by rw [e4, cst_at]
  refine prepare_ok (by omega) (f4.bk hp) (f4.bk hq16) (cMk_of h1 hp.2 lo4) (cMk_of h2 hq16.2 lo4) l1 l2 k1 k2 hT (fun C5 f5 pr5 => ?_)
  have F5 : cfx [4, 20, 21, 22, 27, 28, 29, 30, 256 + k] [4, 23, 24, 25, 26] C0 C5 := f4.tr (f5.mono (by simp) (by simp))
  have k5 : cI C5 (256 + k) = cI C4 (256 + k) := f5.1 _ (by simp; omega)
  have lo5 : ∀ i, 64 ≤ i → i < 192 → cI C5 i = cI C0 i := fun i a b => F5.1 i (by simp; omega)
  refine ⟨F5.tk hk, F5.bk hp, mostAgreeing_ok (F5.bk hp) (F5.bk hq16) (cMk_of h1 hp.2 lo5) (cMk_of h2 hq16.2 lo5) l1 l2 ?_⟩
  refine moves_ok hn (F5.tk hk) pr5 l1 l2 k1 k2 (by rw [k5]; exact g5) (fun C6 f6 b6 => ?_)
  refine hQ C6 (F5.tr (f6.1.mono (by simp) (by simp))) ?_ ?_ ?_ b6
  · rw [f6.2 2 (by omega), k5]; exact g2
  · rw [f6.2 3 (by omega), k5]; exact g3
  · rw [f6.2 4 (by omega), k5]; exact g4
