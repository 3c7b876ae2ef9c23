/-! PURE PART: the class's thinning, row by row -/
theorem cst_at (C : cM) (i k : Nat) (v : Int32) : cI (cst C i k v) i k = v := by rw [cI_st]; simp [upd]
theorem cst_off (C : cM) {i k j : Nat} (v : Int32) (h : j ≠ k) : cI (cst C i k v) i j = cI C i j := by rw [cI_st]; simp [upd, h]
/-- all cells but those are as they were; longs, boards and meetings too -/
def cfr (L : List Nat) (C C1 : cM) : Prop := (∀ i, i ∉ L → cI C1 i = cI C i) ∧ cL C1 = cL C ∧ cN C1 = cN C ∧ cE C1 = cE C
theorem cfr.rf (L : List Nat) (C : cM) : cfr L C C := ⟨fun _ _ => rfl, rfl, rfl, rfl⟩
theorem cfr.tr {L : List Nat} {A B C : cM} (h1 : cfr L A B) (h2 : cfr L B C) : cfr L A C := ⟨fun c hc => (h2.1 c hc).trans (h1.1 c hc), h2.2.1.trans h1.2.1, h2.2.2.1.trans h1.2.2.1, h2.2.2.2.trans h1.2.2.2⟩
theorem cfr.mono {L K : List Nat} {A B : cM} (h : cfr L A B) (hs : ∀ c, c ∈ L → c ∈ K) : cfr K A B := ⟨fun c hc => h.1 c (fun z => hc (hs c z)), h.2⟩
theorem cfr.st {L : List Nat} {C : cM} {i k : Nat} {v : Int32} (h : i ∈ L) : cfr L C (cst C i k v) := ⟨fun d hd => cI_ne C k v (fun z => hd (z ▸ h)), rfl, rfl, rfl⟩
theorem cfr.bk {L : List Nat} {A B : cM} {b : Nat} (h : cfr L A B) (hb : bok A b) : bok B b := by unfold bok; rw [h.2.2.1]; exact hb
/-- a tally's three rows say, at x, whether the number k is at least one, two, three -/
def tl (C : cM) (a x k : Nat) : Prop := bt (cI C a 0) x = decide (1 ≤ k) ∧ bt (cI C a 1) x = decide (2 ≤ k) ∧ bt (cI C a 2) x = decide (3 ≤ k)
theorem tl_fr {L : List Nat} {C C1 : cM} {a x k : Nat} (h : tl C a x k) (hf : cfr L C C1) (ha : a ∉ L) : tl C1 a x k := by unfold tl; rw [hf.1 a ha]; exact h
theorem clear_ok {n a : Nat} {C : cM} {Q : cM → Prop} (ha : tal a) (hq : ∀ C1, cfr [a] C C1 → (∀ x, tl C1 a x 0) → Q C1) : wpX4_clear n a C Q := by
  unfold wpX4_clear
  refine ⟨ha, fun C1 e1 C2 e2 C3 e3 => hq C3 ?_ (fun x => ?_)⟩
  · rw [e3, e2, e1]
    exact (cfr.st (by simp)).tr ((cfr.st (by simp)).tr (cfr.st (by simp)))
  · unfold tl
    rw [e3, cst_off _ _ (by decide), cst_off _ _ (by decide), cst_at, e2, cst_off _ _ (by decide), cst_at, e1, cst_at, b_0]
    decide
theorem add_ok {n a : Nat} {v : Int32} {C : cM} {Q : cM → Prop} (ha : tal a) (hq : ∀ C1, cfr [a] C C1 → (∀ x k, tl C a x k → tl C1 a x (k + if bt v x then 1 else 0)) → Q C1) : wpX4_add n a v C Q := by
  unfold wpX4_add
  refine ⟨ha, fun C1 e1 C2 e2 C3 e3 => hq C3 ?_ (fun x k hk => ?_)⟩
  · rw [e3, e2, e1]
    exact (cfr.st (by simp)).tr ((cfr.st (by simp)).tr (cfr.st (by simp)))
  · obtain ⟨h0, h1, h2⟩ := hk
    have i20 : cI C2 a 0 = cI C a 0 := by rw [e2, cst_off _ _ (by decide), e1, cst_off _ _ (by decide)]
    have i10 : cI C1 a 0 = cI C a 0 := by rw [e1, cst_off _ _ (by decide)]
    have i11 : cI C1 a 1 = cI C a 1 := by rw [e1, cst_off _ _ (by decide)]
    unfold tl
    have j0 : cI C3 a 0 = cI C a 0 ||| v := by rw [e3, cst_at, i20]
    have j1 : cI C3 a 1 = cI C a 1 ||| (cI C a 0 &&& v) := by rw [e3, cst_off _ _ (by decide), e2, cst_at, i11, i10]
    have j2 : cI C3 a 2 = cI C a 2 ||| (cI C a 1 &&& v) := by rw [e3, cst_off _ _ (by decide), e2, cst_off _ _ (by decide), e1, cst_at]
    rw [j0, j1, j2, b_or, b_or, b_or, b_and, b_and, h0, h1, h2]
    cases bt v x with
    | false => simp
    | true =>
      simp
      refine ⟨?_, ?_⟩
      · by_cases z : 2 ≤ k <;> by_cases z2 : 1 ≤ k <;> simp [z, z2] <;> omega
      · by_cases z : 3 ≤ k <;> by_cases z2 : 2 ≤ k <;> simp [z, z2] <;> omega
theorem justOne_ok {n a : Nat} {C : cM} {Q : Int32 → cM → Prop} (ha : tal a) (hq : ∀ r, (∀ x k, x < 32 → tl C a x k → bt r x = decide (k = 1)) → Q r C) : wpX4_justOne n a C Q := by
  unfold wpX4_justOne
  refine ⟨ha, hq _ (fun x k hx hk => ?_)⟩
  rw [b_and, b_xor, hk.1, hk.2.1, b_m1 x hx]
  by_cases z : 1 ≤ k <;> by_cases z2 : 2 ≤ k <;> simp [z, z2] <;> omega
/-- rows of a board, by any place -/
def RI (R : Nat → Int32) (v : Int) : Int32 := if 0 ≤ v ∧ v < 24 then R v.toNat else 0
theorem rowAt_ok {n b : Nat} {x : Int32} {v : Int} {C : cM} {Q : Int32 → cM → Prop} (hb : bok C b) (hx : x.toInt = v) (hq : Q (RI (cI C (64 + 8 * b + 2)) v) C) : wpX3_rowAt n b x C Q := by
  unfold wpX3_rowAt
  rcases i32_cases x 24 (by omega) with ⟨j, hj, rfl⟩ | ho
  · rw [tI j (by omega)] at hx
    refine br_e (by rw [i32_lt, tI j (by omega)]; show ¬ (j : Int) < 0; omega) ⟨hb, br_e (by rw [i32_le, tI j (by omega)]; show ¬ (24 : Int) ≤ j; omega) ⟨pk_in j 24 hj, ?_⟩⟩
    rw [cl_nI (by omega)]
    unfold RI at hq
    rw [if_pos (by omega), ← hx] at hq
    exact hq
  · unfold RI at hq
    rw [if_neg (by omega)] at hq
    refine br_d (fun _ => hq) (fun z => ⟨hb, br_i ?_ hq⟩)
    rw [i32_lt] at z
    have z : ¬ x.toInt < (0 : Int) := z
    rw [i32_le]
    show (24 : Int) ≤ x.toInt
    omega
/-- no bit beyond the board -/
def rok (R : Nat → Int32) : Prop := ∀ y, y < 24 → ∀ i, 24 ≤ i → bt (R y) i = false
theorem RI_ok {R : Nat → Int32} (h : rok R) (v : Int) (i : Nat) (hi : 24 ≤ i) : bt (RI R v) i = false := by
  unfold RI
  split
  · exact h _ (by omega) i hi
  · exact b_0 i
theorem FI_rG {R : Nat → Int32} (h : rok R) (u v : Int) : FI (rG R) u v = (decide (0 ≤ u) && bt (RI R v) u.toNat) := by
  unfold FI RI rG
  by_cases h1 : 0 ≤ u
  · by_cases h2 : 0 ≤ v ∧ v < 24
    · rw [if_pos ⟨h1, h2.1⟩, if_pos h2, decide_eq_true h1, decide_eq_true (p := v.toNat < 24) (by omega)]
      by_cases h3 : u.toNat < 24
      · rw [decide_eq_true h3]; rfl
      · rw [decide_eq_false h3, h _ (by omega) _ (by omega)]; rfl
    · rw [if_neg h2, b_0, Bool.and_false]
      split
      · rw [decide_eq_false (p := v.toNat < 24) (by omega)]; simp
      · rfl
  · rw [if_neg (fun z => h1 z.1), decide_eq_false h1]; rfl
theorem ct_not (p : Nat → Bool) : ∀ n, ct p n + ct (fun k => !p k) n = n
  | 0 => rfl
  | n + 1 => by have := ct_not p n; rcases Bool.eq_false_or_eq_true (p n) with h | h <;> simp [ct, h] <;> omega
/-- what looking at row y of the grid F leaves behind -/
def looked (F : Gr) (y : Nat) (C : cM) : Prop := (∀ x, x < 32 → bt (cI C 6 4) x = (decide (x < 24) && F x y)) ∧ (∀ d, d < 8 → ∀ x, x < 24 → bt (cI C 8 d) x = nb F x y d) ∧ ∀ x, x < 24 → tl C 9 x (cn8 (nb F x y)) ∧ tl C 10 x (8 - cn8 (nb F x y)) ∧ tl C 11 x (ch8 (nb F x y))
theorem clook_loop {n : Nat} {C0 : cM} {Q : cM → Prop} (hq : ∀ C1, cfr [9, 10, 11] C0 C1 → (∀ x, x < 32 → tl C1 9 x (ct (fun d => bt (cI C0 8 d) x) 8) ∧ tl C1 10 x (ct (fun d => !bt (cI C0 8 d) x) 8) ∧ tl C1 11 x (ct (fun d => !bt (cI C0 8 d) x && bt (cI C0 8 ((d + 1) % 8)) x) 8)) → Q C1) : ∀ (k d : Nat) (C : cM), d ≤ 8 → 8 < d + k → cfr [9, 10, 11] C0 C → (∀ x, x < 32 → tl C 9 x (ct (fun d => bt (cI C0 8 d) x) d) ∧ tl C 10 x (ct (fun d => !bt (cI C0 8 d) x) d) ∧ tl C 11 x (ct (fun d => !bt (cI C0 8 d) x && bt (cI C0 8 ((d + 1) % 8)) x) d)) → wpX3_look_129 n Q k (nI d) C := by
  intro k
  induction k with
  | zero => intro d C h1 h2; exact absurd h2 (by omega)
  | succ k ih =>
    intro d C h1 h2 hf ht
    rw [wpX3_look_129]
    refine pk_le 8 d (fun h8 => ?_) (fun h8 => ?_)
    · have : d = 8 := by omega
      subst this
      exact hq C hf ht
    · have key : wpX3_look_153 n (wpX3_look_129 n Q k) (nI d) (nI ((d + 1) % 8)) C := by
        unfold wpX3_look_153
        refine ⟨pk_in d 8 h8, ?_⟩
        rw [cl_nI (by omega), cl_nI (by omega)]
        refine add_ok (Or.inl rfl) (fun C1 f1 t1 => add_ok (Or.inr (Or.inl rfl)) (fun C2 f2 t2 => ⟨pk_in ((d + 1) % 8) 8 (by omega), add_ok (Or.inr (Or.inr rfl)) (fun C3 f3 t3 c ec => ?_)⟩))
        rw [ec, nI_1]
        have g1 : cI C 8 = cI C0 8 := hf.1 8 (by simp)
        have g2 : cI C1 8 = cI C0 8 := (f1.1 8 (by simp)).trans g1
        have g3 : cI C2 8 = cI C0 8 := (f2.1 8 (by simp)).trans g2
        refine ih (d + 1) C3 (by omega) (by omega) (hf.tr ((f1.mono (by simp)).tr ((f2.mono (by simp)).tr (f3.mono (by simp))))) (fun x hx => ?_)
        obtain ⟨a1, a2, a3⟩ := ht x hx
        have m1 := tl_fr (tl_fr (t1 x _ a1) f2 (by simp)) f3 (by simp)
        have m2 := tl_fr (t2 x _ (tl_fr a2 f1 (by simp))) f3 (by simp)
        have m3 := t3 x _ (tl_fr (tl_fr a3 f1 (by simp)) f2 (by simp))
        rw [g1] at m1
        rw [g2, b_xor, b_m1 x hx, Bool.xor_true] at m2
        rw [g3, b_and, b_xor, b_m1 x hx, Bool.xor_true] at m3
        exact ⟨m1, m2, m3⟩
      rw [nI_1]
      refine pk_le 8 (d + 1) (fun z => ?_) (fun z => ?_)
      · have : d = 7 := by omega
        subst this
        exact key
      · rw [Nat.mod_eq_of_lt z] at key
        exact key
theorem clook_ok {n b y : Nat} {C : cM} {Q : cM → Prop} (hn : 9 ≤ n) (hb : bok C b) (hr : rok (cI C (64 + 8 * b + 2))) (hy : y < 24) (hq : ∀ C1, cfr [6, 8, 9, 10, 11] C C1 → looked (rG (cI C (64 + 8 * b + 2))) y C1 → Q C1) : wpX3_look n b (nI y) C Q := by
  obtain ⟨R, hR⟩ : ∃ R, R = cI C (64 + 8 * b + 2) := ⟨_, rfl⟩
  rw [← hR] at hr hq
  unfold wpX3_look
  refine rowAt_ok hb (tI y (by omega)) (fun C1 e1 => ?_)
  rw [← hR] at e1
  have f1 : cfr [6, 8, 9, 10, 11] C C1 := by rw [e1]; exact cfr.st (by simp)
  have hR1 : cI C1 (64 + 8 * b + 2) = R := by rw [hR]; exact f1.1 _ (by simp; omega)
  refine rowAt_ok (v := (y : Int) + 1) (f1.bk hb) (by rw [nI_1, tI _ (by omega)]; omega) ?_
  rw [hR1]
  refine rowAt_ok (v := (y : Int) - 1) (f1.bk hb) (by rw [subI (by rw [tI y (by omega)]; show _ ≤ (y : Int) - 1; omega) (by rw [tI y (by omega)]; show (y : Int) - 1 < _; omega), tI y (by omega)]; rfl) ?_
  rw [hR1]
  intro D0 h0 D1 h1 D2 h2 D3 h3 D4 h4 D5 h5 D6 h6 D7 h7
  have i6 : cI C1 6 4 = RI R y := by rw [e1, cst_at]
  have j0 : cI D3 6 4 = RI R y := by rw [h3, cI_ne _ _ _ (by decide), h2, cI_ne _ _ _ (by decide), h1, cI_ne _ _ _ (by decide), h0, cI_ne _ _ _ (by decide), i6]
  have f7 : cfr [6, 8, 9, 10, 11] C D7 := by
    rw [h7, h6, h5, h4, h3, h2, h1, h0]
    exact f1.tr ((cfr.st (by simp)).tr ((cfr.st (by simp)).tr ((cfr.st (by simp)).tr ((cfr.st (by simp)).tr ((cfr.st (by simp)).tr ((cfr.st (by simp)).tr ((cfr.st (by simp)).tr (cfr.st (by simp)))))))))
  have w0 : cI D7 8 0 = ush (RI R y) (nI 1) := by rw [h7, cst_off _ _ (by decide), h6, cst_off _ _ (by decide), h5, cst_off _ _ (by decide), h4, cst_off _ _ (by decide), h3, cst_off _ _ (by decide), h2, cst_off _ _ (by decide), h1, cst_off _ _ (by decide), h0, cst_at, i6]; rfl
  have w1 : cI D7 8 1 = ush (RI R ((y : Int) + 1)) (nI 1) := by rw [h7, cst_off _ _ (by decide), h6, cst_off _ _ (by decide), h5, cst_off _ _ (by decide), h4, cst_off _ _ (by decide), h3, cst_off _ _ (by decide), h2, cst_off _ _ (by decide), h1, cst_at]; rfl
  have w2 : cI D7 8 2 = RI R ((y : Int) + 1) := by rw [h7, cst_off _ _ (by decide), h6, cst_off _ _ (by decide), h5, cst_off _ _ (by decide), h4, cst_off _ _ (by decide), h3, cst_off _ _ (by decide), h2, cst_at]
  have w3 : cI D7 8 3 = RI R ((y : Int) + 1) <<< (nI 1 &&& 31) := by rw [h7, cst_off _ _ (by decide), h6, cst_off _ _ (by decide), h5, cst_off _ _ (by decide), h4, cst_off _ _ (by decide), h3, cst_at]; rfl
  have w4 : cI D7 8 4 = RI R y <<< (nI 1 &&& 31) := by rw [h7, cst_off _ _ (by decide), h6, cst_off _ _ (by decide), h5, cst_off _ _ (by decide), h4, cst_at, j0]; rfl
  have w5 : cI D7 8 5 = RI R ((y : Int) - 1) <<< (nI 1 &&& 31) := by rw [h7, cst_off _ _ (by decide), h6, cst_off _ _ (by decide), h5, cst_at]; rfl
  have w6 : cI D7 8 6 = RI R ((y : Int) - 1) := by rw [h7, cst_off _ _ (by decide), h6, cst_at]
  have w7 : cI D7 8 7 = ush (RI R ((y : Int) - 1)) (nI 1) := by rw [h7, cst_at]; rfl
  have i67 : cI D7 6 4 = RI R y := by rw [h7, cI_ne _ _ _ (by decide), h6, cI_ne _ _ _ (by decide), h5, cI_ne _ _ _ (by decide), h4, cI_ne _ _ _ (by decide), j0]
  -- bits of the rows beside
  have bR : ∀ (v : Int) (x : Nat), x < 24 → bt (ush (RI R v) (nI 1)) x = FI (rG R) ((x : Int) + 1) v := fun v x hx => by
    rw [b_ushr 1 (by omega), FI_rG hr, decide_eq_true (by omega), Bool.true_and]
    congr 1
    omega
  have bM : ∀ (v : Int) (x : Nat), x < 24 → bt (RI R v) x = FI (rG R) ((x : Int) + 0) v := fun v x hx => by
    rw [FI_rG hr, decide_eq_true (by omega), Bool.true_and]
    congr 1
    try omega
  have bL : ∀ (v : Int) (x : Nat), x < 24 → bt (RI R v <<< (nI 1 &&& 31)) x = FI (rG R) ((x : Int) + -1) v := fun v x hx => by
    rw [b_shl 1 (by omega) _ (by omega), FI_rG hr]
    by_cases z : 1 ≤ x
    · rw [decide_eq_true z, decide_eq_true (by omega)]
      congr 2
      omega
    · rw [decide_eq_false z, decide_eq_false (by omega)]; rfl
  have hbs : ∀ d, d < 8 → ∀ x, x < 24 → bt (cI D7 8 d) x = nb (rG R) x y d := by
    refine lt8 ?_ ?_ ?_ ?_ ?_ ?_ ?_ ?_ <;> intro x hx
    · rw [w0, bR _ x hx]; show _ = FI _ _ ((y : Int) + 0); rw [Int.add_zero]; rfl
    · rw [w1, bR _ x hx]; rfl
    · rw [w2, bM _ x hx]; rfl
    · rw [w3, bL _ x hx]; rfl
    · rw [w4, bL _ x hx]; show _ = FI _ _ ((y : Int) + 0); rw [Int.add_zero]; rfl
    · rw [w5, bL _ x hx]; rfl
    · rw [w6, bM _ x hx]; rfl
    · rw [w7, bR _ x hx]; rfl
  refine clear_ok (Or.inl rfl) (fun E1 g1 t1 => clear_ok (Or.inr (Or.inl rfl)) (fun E2 g2 t2 => clear_ok (Or.inr (Or.inr rfl)) (fun E3 g3 t3 => ?_)))
  have g123 : cfr [9, 10, 11] D7 E3 := (g1.mono (by simp)).tr ((g2.mono (by simp)).tr (g3.mono (by simp)))
  have e8 : cI E3 8 = cI D7 8 := g123.1 8 (by simp)
  have e6 : cI E3 6 = cI D7 6 := g123.1 6 (by simp)
  refine clook_loop (C0 := E3) (fun C9 g9 t9 => hq C9 (f7.tr ((g123.mono (by simp)).tr (g9.mono (by simp)))) ⟨fun x hx => ?_, fun d hd x hx => ?_, fun x hx => ?_⟩) n 0 E3 (by omega) (by omega) (cfr.rf _ _) (fun x _ => ⟨tl_fr (tl_fr (t1 x) g2 (by simp)) g3 (by simp), tl_fr (t2 x) g3 (by simp), t3 x⟩)
  · rw [g9.1 6 (by simp), e6, i67]
    by_cases z : x < 24
    · rw [bM _ x z, decide_eq_true z, Bool.true_and]
      unfold FI
      rw [if_pos (by omega)]
      rfl
    · rw [RI_ok hr _ _ (by omega), decide_eq_false z]; rfl
  · rw [g9.1 8 (by simp), e8]; exact hbs d hd x hx
  · obtain ⟨a1, a2, a3⟩ := t9 x (by omega)
    rw [e8] at a1 a2 a3
    have c1 : ct (fun d => bt (cI D7 8 d) x) 8 = cn8 (nb (rG R) x y) := ct_cong (fun d hd => hbs d hd x hx)
    have c2 : ct (fun d => !bt (cI D7 8 d) x) 8 = 8 - cn8 (nb (rG R) x y) := by
      have := ct_not (fun d => bt (cI D7 8 d) x) 8
      omega
    have c3 : ct (fun d => !bt (cI D7 8 d) x && bt (cI D7 8 ((d + 1) % 8)) x) 8 = ch8 (nb (rG R) x y) := ct_cong (fun d hd => by rw [hbs d hd x hx, hbs ((d + 1) % 8) (by omega) x hx])
    rw [c1] at a1
    rw [c2] at a2
    rw [c3] at a3
    exact ⟨a1, a2, a3⟩
