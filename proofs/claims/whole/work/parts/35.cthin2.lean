theorem taken_ok {n y : Nat} {F : Gr} {C : cM} {first : Bool} {Q : Int32 → cM → Prop} (hl : looked F y C) (hq : ∀ r, (∀ x, x < 32 → bt r x = (decide (x < 24) && goesB first F x y)) → Q r C) : wpX3_takenInPass n (b2i first) C Q := by
  obtain ⟨h6, h8, ht⟩ := hl
  unfold wpX3_takenInPass
  intro a ea b eb c ec d ed
  have key : ∀ kp : Int32, (∀ x, x < 24 → bt kp x = keepB first (nb F x y)) → wpX3_takenInPass_66 n Q kp C := by
    intro kp hkp
    unfold wpX3_takenInPass_66
    refine justOne_ok (Or.inr (Or.inr rfl)) (fun r hr => hq _ (fun x hx => ?_))
    rw [b_and, b_and, b_and, b_and, b_xor, b_m1 x hx, h6 x hx]
    by_cases z : x < 24
    · obtain ⟨t1, t2, t3⟩ := ht x z
      have hc : cn8 (nb F x y) ≤ 8 := ct_le _ 8
      rw [hr x _ hx t3, t1.2.1, t2.2.1, hkp x z, decide_eq_true z]
      unfold goesB
      have e1 : decide (2 ≤ 8 - cn8 (nb F x y)) = decide (cn8 (nb F x y) ≤ 6) := by
        by_cases q : cn8 (nb F x y) ≤ 6
        · rw [decide_eq_true q, decide_eq_true (by omega)]
        · rw [decide_eq_false q, decide_eq_false (by omega)]
      rw [e1]
      simp [Bool.and_assoc]
    · rw [decide_eq_false z]; simp
  have kb : ∀ x, x < 24 → bt a x = nb F x y 0 ∧ bt b x = nb F x y 2 ∧ bt c x = nb F x y 4 ∧ bt d x = nb F x y 6 := fun x hx => ⟨by rw [ea]; exact h8 0 (by omega) x hx, by rw [eb]; exact h8 2 (by omega) x hx, by rw [ec]; exact h8 4 (by omega) x hx, by rw [ed]; exact h8 6 (by omega) x hx⟩
  refine br_b (fun z => key _ (fun x hx => ?_)) (fun z => key _ (fun x hx => ?_))
  · obtain ⟨k0, k2, k4, k6⟩ := kb x hx
    rw [b_or, b_and, b_and, b_and, b_and, k0, k2, k4, k6, z]
    rfl
  · obtain ⟨k0, k2, k4, k6⟩ := kb x hx
    rw [b_or, b_and, b_and, b_and, b_and, k0, k2, k4, k6, z]
    rfl
/-- the cells that thinning writes beside the board's own rows -/
abbrev thC : List Nat := [6, 7, 8, 9, 10, 11]
theorem rG_congr {R S : Nat → Int32} (h : ∀ y, y < 24 → R y = S y) : rG R = rG S := by
  funext x y
  unfold rG
  by_cases z : y < 24
  · rw [h y z]
  · rw [decide_eq_false z]; simp
theorem anyG_rows {F : Gr} {first : Bool} {T : Nat → Int32} (h : ∀ y, y < 24 → ∀ x, x < 32 → bt (T y) x = (decide (x < 24) && goesB first F x y)) : anyG first F = true ↔ ∃ y, y < 24 ∧ T y ≠ 0 := by
  unfold anyG
  rw [anyk_iff]
  constructor
  · rintro ⟨k, hk, hg⟩
    refine ⟨k / 24, by omega, fun z => ?_⟩
    have := h (k / 24) (by omega) (k % 24) (by omega)
    rw [z, b_0, decide_eq_true (by omega), hg] at this
    cases this
  · rintro ⟨y, hy, hz⟩
    have : ∃ x, x < 32 ∧ bt (T y) x = true := by
      apply Classical.byContradiction
      intro hn
      apply hz
      refine b_ext (fun i hi => ?_)
      rw [b_0]
      cases hb : bt (T y) i with
      | false => rfl
      | true => exact absurd ⟨i, hi, hb⟩ hn
    obtain ⟨x, hx, hb⟩ := this
    rw [h y hy x hx] at hb
    simp at hb
    refine ⟨24 * y + x, by omega, ?_⟩
    rw [show (24 * y + x) % 24 = x by omega, show (24 * y + x) / 24 = y by omega]
    exact hb.2
theorem takeAway_ok {n b : Nat} {C : cM} {first : Bool} {Q : Int32 → cM → Prop} (hn : 600 ≤ n) (hb : bok C b) (hr : rok (cI C (64 + 8 * b + 2))) (hq : ∀ C1, cfr ((64 + 8 * b + 2) :: thC) C C1 → rok (cI C1 (64 + 8 * b + 2)) → rG (cI C1 (64 + 8 * b + 2)) = passG first (rG (cI C (64 + 8 * b + 2))) → Q (b2i (anyG first (rG (cI C (64 + 8 * b + 2))))) C1) : wpX5_takeAway n b (b2i first) C Q := by
  obtain ⟨R, hR⟩ : ∃ R, R = cI C (64 + 8 * b + 2) := ⟨_, rfl⟩
  rw [← hR] at hr hq
  have loop2 : ∀ (k i : Nat) (C0 C1 : cM) (v : Int32), i ≤ 24 → 24 < i + k → cfr thC C C0 → (∀ y, y < 24 → ∀ x, x < 32 → bt (cI C0 7 y) x = (decide (x < 24) && goesB first (rG R) x y)) → cfr [64 + 8 * b + 2] C0 C1 → (∀ y, y < i → cI C1 (64 + 8 * b + 2) y = R y &&& (cI C0 7 y ^^^ (-1))) → (∀ y, i ≤ y → y < 24 → cI C1 (64 + 8 * b + 2) y = R y) → (v = 0 ↔ ∀ y, y < 24 → cI C0 7 y = 0) → wpX5_takeAway_56 n (fun C_56 => wpX5_takeAway_92 n Q v C_56) b v k (nI i) C1 := by
    intro k
    induction k with
    | zero => intro i C0 C1 v h1 h2; exact absurd h2 (by omega)
    | succ k ih =>
      intro i C0 C1 v h1 h2 f0 hT f1 hA hB hv
      have fin : i = 24 → wpX5_takeAway_92 n Q v C1 := fun hi => by
        subst hi
        have bits : ∀ y, y < 24 → ∀ x, x < 32 → bt (cI C1 (64 + 8 * b + 2) y) x = (bt (R y) x && !(decide (x < 24) && goesB first (rG R) x y)) := fun y hy x hx => by
          rw [hA y hy, b_and, b_xor, b_m1 x hx, hT y hy x hx, Bool.xor_true]
        have q1 : rok (cI C1 (64 + 8 * b + 2)) := fun y hy i hi => by
          rcases Nat.lt_or_ge i 32 with z | z
          · rw [bits y hy i z, hr y hy i hi]; rfl
          · exact b_big z
        have q2 : rG (cI C1 (64 + 8 * b + 2)) = passG first (rG R) := by
          funext x y
          by_cases zy : y < 24
          · by_cases zx : x < 24
            · unfold passG
              have e1 : rG (cI C1 (64 + 8 * b + 2)) x y = bt (cI C1 (64 + 8 * b + 2) y) x := by unfold rG; rw [decide_eq_true zx, decide_eq_true zy]; rfl
              have e2 : rG R x y = bt (R y) x := by unfold rG; rw [decide_eq_true zx, decide_eq_true zy]; rfl
              rw [e1, bits y zy x (by omega), decide_eq_true zx, Bool.true_and, e2]
            · rw [inG_out (rG_in _) (Or.inl (by omega)), inG_out (passG_in (rG_in _) first) (Or.inl (by omega))]
          · rw [inG_out (rG_in _) (Or.inr (by omega)), inG_out (passG_in (rG_in _) first) (Or.inr (by omega))]
        have ff : cfr ((64 + 8 * b + 2) :: thC) C C1 := (f0.mono (by simp)).tr (f1.mono (by simp))
        have res := hq C1 ff q1 q2
        have ha := anyG_rows (F := rG R) (first := first) hT
        unfold wpX5_takeAway_92
        refine br_d (fun z => ⟨Or.inl rfl, ?_⟩) (fun z => ⟨Or.inr rfl, ?_⟩)
        · cases hg : anyG first (rG R) with
          | false => rw [hg] at res; exact res
          | true =>
            obtain ⟨y, hy, hne⟩ := ha.mp hg
            exact absurd (hv.mp z y hy) hne
        · cases hg : anyG first (rG R) with
          | true => rw [hg] at res; exact res
          | false =>
            refine absurd (hv.mpr (fun y hy => ?_)) z
            apply Classical.byContradiction
            intro hne
            rw [ha.mpr ⟨y, hy, hne⟩] at hg
            cases hg
      rw [wpX5_takeAway_56]
      refine pk_le 24 i (fun h8 => fin (by omega)) (fun h8 => ?_)
      refine ⟨cfr.bk f1 (cfr.bk f0 hb), ?_⟩
      refine pk_le 24 i (fun h8 => fin (by omega)) (fun _ => ?_)
      refine ⟨pk_in i 24 h8, fun C2 e2 c ec => ?_⟩
      rw [cl_nI (by omega)] at e2
      rw [ec, nI_1]
      have i7 : cI C1 7 = cI C0 7 := f1.1 7 (by simp; omega)
      refine ih (i + 1) C0 C2 v (by omega) (by omega) f0 hT (by rw [e2]; exact f1.tr (cfr.st (by simp))) (fun y hy => ?_) (fun y hy1 hy2 => by rw [e2, cst_off _ _ (by omega)]; exact hB y (by omega) hy2) hv
      rw [e2]
      by_cases hyi : y = i
      · subst hyi; rw [cst_at, hB y (by omega) h8, i7]
      · rw [cst_off _ _ hyi]; exact hA y (by omega)
  have loop1 : ∀ (k i : Nat) (C1 : cM) (v : Int32), i ≤ 24 → 24 < i + k → cfr thC C C1 → (∀ y, y < i → ∀ x, x < 32 → bt (cI C1 7 y) x = (decide (x < 24) && goesB first (rG R) x y)) → (v = 0 ↔ ∀ y, y < i → cI C1 7 y = 0) → wpX5_takeAway_5 n (fun y3_5 C_5 => wpX5_takeAway_56 n (fun C_56 => wpX5_takeAway_92 n Q y3_5 C_56) b y3_5 n 0 C_5) b (b2i first) k v (nI i) C1 := by
    intro k
    induction k with
    | zero => intro i C1 v h1 h2; exact absurd h2 (by omega)
    | succ k ih =>
      intro i C1 v h1 h2 hf hT hv
      have i2 : cI C1 (64 + 8 * b + 2) = R := by rw [hR]; exact hf.1 _ (by simp; omega)
      rw [wpX5_takeAway_5]
      refine pk_le 24 i (fun h8 => ?_) (fun h8 => ?_)
      · have : i = 24 := by omega
        subst this
        exact loop2 n 0 C1 C1 v (by omega) (by omega) hf hT (cfr.rf _ _) (fun y hy => absurd hy (by omega)) (fun y _ _ => by rw [i2]) hv
      · refine clook_ok (by omega) (cfr.bk hf hb) (by rw [i2]; exact hr) h8 (fun C2 f2 hl => ?_)
        rw [i2] at hl
        refine taken_ok hl (fun r hrb => ⟨pk_in i 24 h8, fun C3 e3 a ea c ec => ?_⟩)
        rw [cl_nI (by omega)] at e3 ea
        rw [ec, nI_1, ea]
        have f3 : cfr thC C C3 := by rw [e3]; exact hf.tr ((f2.mono (by simp)).tr (cfr.st (by simp)))
        have r7 : ∀ y, y ≠ i → cI C3 7 y = cI C1 7 y := fun y hy => by rw [e3, cst_off _ _ hy, f2.1 7 (by simp)]
        have ri : cI C3 7 i = r := by rw [e3, cst_at]
        refine ih (i + 1) C3 _ (by omega) (by omega) f3 (fun y hy x hx => ?_) ?_
        · by_cases hyi : y = i
          · subst hyi; rw [ri]; exact hrb x hx
          · rw [r7 y hyi]; exact hT y (by omega) x hx
        · rw [ri]
          constructor
          · intro z y hy
            have zb : ∀ j, bt v j = false ∧ bt r j = false := fun j => by
              have := congrArg (fun q => bt q j) z
              simp only [b_or, b_0] at this
              simpa using this
            by_cases hyi : y = i
            · subst hyi; rw [ri]; exact b_ext (fun j _ => by rw [(zb j).2, b_0])
            · rw [r7 y hyi]; exact hv.mp (b_ext (fun j _ => by rw [(zb j).1, b_0])) y (by omega)
          · intro z
            have z1 : v = 0 := hv.mpr (fun y hy => by rw [← r7 y (by omega)]; exact z y (by omega))
            have z2 : r = 0 := by rw [← ri]; exact z i (by omega)
            rw [z1, z2]; rfl
  unfold wpX5_takeAway
  exact loop1 n 0 C 0 (by omega) (by omega) (cfr.rf _ _) (fun y hy => absurd hy (by omega)) ⟨fun _ y hy => absurd hy (by omega), fun _ => rfl⟩
