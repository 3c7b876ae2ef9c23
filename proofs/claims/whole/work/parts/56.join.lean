/-! PURE PART: join -/
/-- where cell k of the first comes to, if it makes a cell full that was not -/
def jhit (R1 : Nat → Int32) (t : Nat) (dx dy : Int) (R : Nat → Int32) (k : Nat) : Option (Nat × Nat) :=
  if bt (R1 (k / 24)) (k % 24) = true ∧ (0 ≤ (rot t (((k % 24 : Nat) : Int), ((k / 24 : Nat) : Int))).1 + dx ∧ (rot t (((k % 24 : Nat) : Int), ((k / 24 : Nat) : Int))).1 + dx < 24) ∧ (0 ≤ (rot t (((k % 24 : Nat) : Int), ((k / 24 : Nat) : Int))).2 + dy ∧ (rot t (((k % 24 : Nat) : Int), ((k / 24 : Nat) : Int))).2 + dy < 24) ∧ bt (R ((rot t (((k % 24 : Nat) : Int), ((k / 24 : Nat) : Int))).2 + dy).toNat) ((rot t (((k % 24 : Nat) : Int), ((k / 24 : Nat) : Int))).1 + dx).toNat = false
  then some (((rot t (((k % 24 : Nat) : Int), ((k / 24 : Nat) : Int))).1 + dx).toNat, ((rot t (((k % 24 : Nat) : Int), ((k / 24 : Nat) : Int))).2 + dy).toNat) else none
def jput (R : Nat → Int32) (u v : Nat) : Nat → Int32 := upd R v (R v ||| (1 <<< (nI u &&& 31)))
def jR (R1 : Nat → Int32) (t : Nat) (dx dy : Int) (R2 : Nat → Int32) : Nat → (Nat → Int32) × Nat
  | 0 => (R2, 0)
  | k + 1 => match jhit R1 t dx dy (jR R1 t dx dy R2 k).1 k with
    | none => jR R1 t dx dy R2 k
    | some w => (jput (jR R1 t dx dy R2 k).1 w.1 w.2, (jR R1 t dx dy R2 k).2 + 1)
section JN
variable {R1 R2 : Nat → Int32} {t : Nat} {dx dy : Int}
theorem jR_none {k : Nat} (h : jhit R1 t dx dy (jR R1 t dx dy R2 k).1 k = none) : jR R1 t dx dy R2 (k + 1) = jR R1 t dx dy R2 k := by rw [jR, h]
theorem jR_some {k u v : Nat} (h : jhit R1 t dx dy (jR R1 t dx dy R2 k).1 k = some (u, v)) : jR R1 t dx dy R2 (k + 1) = (jput (jR R1 t dx dy R2 k).1 u v, (jR R1 t dx dy R2 k).2 + 1) := by rw [jR, h]
theorem jR_le : ∀ k, (jR R1 t dx dy R2 k).2 ≤ k
  | 0 => Nat.le_refl _
  | k + 1 => by
    have ih := jR_le k
    cases h : jhit R1 t dx dy (jR R1 t dx dy R2 k).1 k with
    | none => rw [jR_none h]; omega
    | some w => rw [jR_some (u := w.1) (v := w.2) h]; show _ + 1 ≤ _; omega
theorem jhit_off {R : Nat → Int32} {k : Nat} (h : bt (R1 (k / 24)) (k % 24) = false) : jhit R1 t dx dy R k = none := by
  unfold jhit; rw [if_neg]; intro z; rw [h] at z; cases z.1
theorem jR_run {y x : Nat} (h : ∀ z, x ≤ z → z < 24 → bt (R1 y) z = false) : ∀ d, x + d ≤ 24 → jR R1 t dx dy R2 (24 * y + (x + d)) = jR R1 t dx dy R2 (24 * y + x)
  | 0, _ => rfl
  | d + 1, hd => by
    have ih := jR_run h d (by omega)
    rw [← ih, show 24 * y + (x + (d + 1)) = (24 * y + (x + d)) + 1 by omega]
    refine jR_none (jhit_off ?_)
    rw [show (24 * y + (x + d)) / 24 = y by omega, show (24 * y + (x + d)) % 24 = x + d by omega]
    exact h _ (by omega) (by omega)
end JN
theorem put24 {v : Int32} {u : Nat} (hu : u < 24) (h : ∀ i, 24 ≤ i → bt v i = false) : ∀ i, 24 ≤ i → bt (v ||| (1 <<< (nI u &&& 31))) i = false := fun i hi => by
  rw [b_or, h i hi, Bool.false_or]
  rcases Nat.lt_or_ge i 32 with w | w
  · rw [b_shl u (by omega) _ w, b_one _ (by omega), decide_eq_false (show ¬ i - u = 0 by omega), Bool.and_false]
  · exact b_big w
/-- the class in the midst of a join: k cells are through -/
def jC (E q : Nat) (C0 C : cM) (S : (Nat → Int32) × Nat) : Prop := cInvE (E + S.2) C ∧ cN C = cN C0 ∧ (∀ i, i ≠ 64 + 8 * q → i ≠ 64 + 8 * q + 1 → cI C i = cI C0 i) ∧ cE C = cE C0 ∧ ∀ y, y < 24 → cI C (64 + 8 * q + 1) y = S.1 y
theorem rot_fill {n m t : Nat} {E : Int32 → Int32 → cM → Prop} {C : cM} (hm : tok C m) (ht : t < 4) (h6 : cI C (256 + m) 6 = nI t) : ∀ (k j : Nat) (X Y : Int32), j ≤ t → t < j + k → (0 ≤ X.toInt ∧ X.toInt ≤ 23 ∧ 0 ≤ Y.toInt ∧ Y.toInt ≤ 23) → (∀ X1 Y1 : Int32, X1.toInt = (rot (t - j) (X.toInt, Y.toInt)).1 → Y1.toInt = (rot (t - j) (X.toInt, Y.toInt)).2 → E X1 Y1 C) → wpX1_fillMoved_8 n E m k X Y (nI j) C := by
  intro k
  induction k with
  | zero => intro j X Y h1 h2; exact absurd h2 (by omega)
  | succ k ih =>
    intro j X Y h1 h2 hr hE
    rw [wpX1_fillMoved_8, h6]
    refine ⟨hm, pk_le t j (fun z => ?_) (fun z => pk_le 4 j (fun w => absurd w (by omega)) (fun _ => ?_))⟩
    · have e : t - j = 0 := by omega
      rw [e] at hE
      exact hE X Y rfl rfl
    · intro A eA c ec
      have iA : A.toInt = 23 - Y.toInt := by rw [eA, sub23 hr.2.2.1 hr.2.2.2]
      rw [ec, nI_1]
      refine ih (j + 1) A X (by omega) (by omega) (by omega) (fun X1 Y1 e1 e2 => hE X1 Y1 ?_ ?_)
      · rw [show t - j = (t - (j + 1)) + 1 by omega, rot, ← iA]; exact e1
      · rw [show t - j = (t - (j + 1)) + 1 by omega, rot, ← iA]; exact e2
theorem rot_join {n t : Nat} {E : Int32 → Int32 → mM → Prop} {x1 x2 x3 x4 x7 : Int32} {M : mM} (ht : t < 4) (h17 : M 0 17 = nI t) : ∀ (k j : Nat) (X Y : Int32), j ≤ t → t < j + k → (0 ≤ X.toInt ∧ X.toInt ≤ 23 ∧ 0 ≤ Y.toInt ∧ Y.toInt ≤ 23) → (∀ X1 Y1 : Int32, X1.toInt = (rot (t - j) (X.toInt, Y.toInt)).1 → Y1.toInt = (rot (t - j) (X.toInt, Y.toInt)).2 → E X1 Y1 M) → wpX7_join_113 n E x1 x2 x3 x4 x7 k X Y (nI j) M := by
  intro k
  induction k with
  | zero => intro j X Y h1 h2; exact absurd h2 (by omega)
  | succ k ih =>
    intro j X Y h1 h2 hr hE
    rw [wpX7_join_113, h17]
    refine pk_le t j (fun z => ?_) (fun z => ?_)
    · have e : t - j = 0 := by omega
      rw [e] at hE
      exact hE X Y rfl rfl
    · intro A eA c ec
      have iA : A.toInt = 23 - Y.toInt := by rw [eA, sub23 hr.2.2.1 hr.2.2.2]
      rw [ec, nI_1]
      refine ih (j + 1) A X (by omega) (by omega) (by omega) (fun X1 Y1 e1 e2 => hE X1 Y1 ?_ ?_)
      · rw [show t - j = (t - (j + 1)) + 1 by omega, rot, ← iA]; exact e1
      · rw [show t - j = (t - (j + 1)) + 1 by omega, rot, ← iA]; exact e2
theorem bring_ok {n p q t E : Nat} {X Y : Int32} {C0 : cM} {Q : Int32 → cM → Prop} (hn : 600 ≤ n) (hE : E < 1000000000) (hI : cInvE E C0) (hp : p < cN C0) (hq16 : q < cN C0) (hpq : p ≠ q) (hm : tok C0 (p * 16 + q)) (ht : t < 4) (hX : -8 ≤ X.toInt ∧ X.toInt ≤ 8) (hY : -8 ≤ Y.toInt ∧ Y.toInt ≤ 8) (h6 : cI C0 (256 + (p * 16 + q)) 6 = nI t) (h7 : cI C0 (256 + (p * 16 + q)) 7 = X) (h8 : cI C0 (256 + (p * 16 + q)) 8 = Y)
    (hq : ∀ C1, jC E q C0 C1 (jR (cI C0 (64 + 8 * p + 1)) t X.toInt Y.toInt (cI C0 (64 + 8 * q + 1)) 576) → Q (nI (jR (cI C0 (64 + 8 * p + 1)) t X.toInt Y.toInt (cI C0 (64 + 8 * q + 1)) 576).2) C1) : wpX1_bringTogether n (p * 16 + q) C0 Q := by
  have h16 := hI.1.1
  have k1 : (p * 16 + q) / 16 = p := by omega
  have k2 : (p * 16 + q) % 16 = q := by omega
  obtain ⟨S, eS⟩ : ∃ S, S = jR (cI C0 (64 + 8 * p + 1)) t X.toInt Y.toInt (cI C0 (64 + 8 * q + 1)) := ⟨_, rfl⟩
  rw [← eS] at hq
  -- one cell
  have cell : ∀ (x y : Nat) (C : cM) (F : Int32 → cM → Prop), x < 24 → y < 24 → bt (cI C0 (64 + 8 * p + 1) y) x = true → jC E q C0 C (S (24 * y + x)) → (S (24 * y + x + 1) = S (24 * y + x) → F 0 C) → (∀ C1, (S (24 * y + x + 1)).2 = (S (24 * y + x)).2 + 1 → jC E q C0 C1 (S (24 * y + x + 1)) → F 1 C1) → wpX1_fillMoved n (p * 16 + q) (nI x) (nI y) C F := by
    intro x y C F hx hy hbit hC hF0 hF1
    obtain ⟨c1, c2, c3, c4, c5⟩ := hC
    have tk : tok C (p * 16 + q) := ⟨hm.1, by rw [c4]; exact hm.2⟩
    have g : cI C (256 + (p * 16 + q)) = cI C0 (256 + (p * 16 + q)) := c3 _ (by omega) (by omega)
    have rr := rot_rng t ((x : Int), (y : Int)) (by show (0 : Int) ≤ (x : Int) ∧ (x : Int) ≤ 23 ∧ (0 : Int) ≤ (y : Int) ∧ (y : Int) ≤ 23; omega)
    have dk : (24 * y + x) / 24 = y := by omega
    have mk : (24 * y + x) % 24 = x := by omega
    have jh : jhit (cI C0 (64 + 8 * p + 1)) t X.toInt Y.toInt (S (24 * y + x)).1 (24 * y + x) = if (0 ≤ (rot t ((x : Int), (y : Int))).1 + X.toInt ∧ (rot t ((x : Int), (y : Int))).1 + X.toInt < 24) ∧ (0 ≤ (rot t ((x : Int), (y : Int))).2 + Y.toInt ∧ (rot t ((x : Int), (y : Int))).2 + Y.toInt < 24) ∧ bt ((S (24 * y + x)).1 ((rot t ((x : Int), (y : Int))).2 + Y.toInt).toNat) ((rot t ((x : Int), (y : Int))).1 + X.toInt).toNat = false then some (((rot t ((x : Int), (y : Int))).1 + X.toInt).toNat, ((rot t ((x : Int), (y : Int))).2 + Y.toInt).toNat) else none := by
      unfold jhit
      rw [dk, mk]
      by_cases z : (0 ≤ (rot t ((x : Int), (y : Int))).1 + X.toInt ∧ (rot t ((x : Int), (y : Int))).1 + X.toInt < 24) ∧ (0 ≤ (rot t ((x : Int), (y : Int))).2 + Y.toInt ∧ (rot t ((x : Int), (y : Int))).2 + Y.toInt < 24) ∧ bt ((S (24 * y + x)).1 ((rot t ((x : Int), (y : Int))).2 + Y.toInt).toNat) ((rot t ((x : Int), (y : Int))).1 + X.toInt).toNat = false
      · rw [if_pos z, if_pos ⟨hbit, z⟩]
      · rw [if_neg z, if_neg (fun w => z w.2)]
    have nxt0 : (¬ ((0 ≤ (rot t ((x : Int), (y : Int))).1 + X.toInt ∧ (rot t ((x : Int), (y : Int))).1 + X.toInt < 24) ∧ (0 ≤ (rot t ((x : Int), (y : Int))).2 + Y.toInt ∧ (rot t ((x : Int), (y : Int))).2 + Y.toInt < 24) ∧ bt ((S (24 * y + x)).1 ((rot t ((x : Int), (y : Int))).2 + Y.toInt).toNat) ((rot t ((x : Int), (y : Int))).1 + X.toInt).toNat = false)) → S (24 * y + x + 1) = S (24 * y + x) := fun z => by
      rw [if_neg z] at jh
      rw [eS] at jh ⊢
      exact jR_none jh
    unfold wpX1_fillMoved
    refine rot_fill tk ht (by rw [g]; exact h6) n 0 (nI x) (nI y) (by omega) (by omega) (by rw [tI x (by omega), tI y (by omega)]; omega) (fun X1 Y1 eX eY => ?_)
    rw [Nat.sub_zero, tI x (by omega), tI y (by omega)] at eX eY
    unfold wpX1_fillMoved_42
    refine ⟨tk, ?_⟩
    rw [g, h7, h8]
    intro X2 e2 Y2 f2
    have iX : X2.toInt = (rot t ((x : Int), (y : Int))).1 + X.toInt := by rw [e2, addI (by omega) (by omega), eX]
    have iY : Y2.toInt = (rot t ((x : Int), (y : Int))).2 + Y.toInt := by rw [f2, addI (by omega) (by omega), eY]
    rcases i32_cases X2 24 (by omega) with ⟨u, hu, eu⟩ | ho
    · have iu : (u : Int) = (rot t ((x : Int), (y : Int))).1 + X.toInt := by rw [← iX, eu, tI u (by omega)]
      rw [eu]
      refine onB_yes hu (br_1 ?_)
      rcases i32_cases Y2 24 (by omega) with ⟨v, hv, ev⟩ | ho
      · have iv : (v : Int) = (rot t ((x : Int), (y : Int))).2 + Y.toInt := by rw [← iY, ev, tI v (by omega)]
        rw [← iu, ← iv, Int.toNat_natCast, Int.toNat_natCast] at jh nxt0
        rw [ev]
        refine onB_yes hv (br_1 ⟨tk, by rw [k2]; exact ⟨by omega, by omega⟩, pk_in v 24 hv, ?_⟩)
        rw [k2, cl_nI (by omega), c5 v hv, bit_u _ u (by omega)]
        refine br_b (fun z => ?_) (fun z => ?_)
        · rw [if_pos ⟨⟨by omega, by omega⟩, ⟨by omega, by omega⟩, z⟩] at jh
          have es : S (24 * y + x + 1) = (jput (S (24 * y + x)).1 u v, (S (24 * y + x)).2 + 1) := by rw [eS] at jh ⊢; exact jR_some jh
          refine tell_ok ⟨by omega, by omega⟩ hv ⟨Or.inr rfl, hF1 _ (by rw [es]) ?_⟩
          have ok : ∀ i, 24 ≤ i → bt ((S (24 * y + x)).1 v ||| (1 <<< (nI u &&& 31))) i = false := put24 hu (fun i hi => by rw [← c5 v hv]; exact (c1.1.2.2 q (by rw [c2]; exact hq16)).1.1 v hv i hi)
          have sl := jR_le (R1 := cI C0 (64 + 8 * p + 1)) (R2 := cI C0 (64 + 8 * q + 1)) (t := t) (dx := X.toInt) (dy := Y.toInt) (24 * y + x)
          rw [← eS] at sl
          refine ⟨?_, ?_, fun i i1 i2 => ?_, ?_, fun y2 hy2 => ?_⟩
          · rw [es]
            exact cInvE_tell (E := E + (S (24 * y + x)).2) c1 (by omega) (by rw [c2]; exact hq16) hv ok
          · rw [ctell_N]; exact c2
          · rw [ctell_I i1 i2]; exact c3 i i1 i2
          · rw [ctell_E]; exact c4
          · rw [ctell_1, es]
            show upd (cI C (64 + 8 * q + 1)) v _ y2 = upd (S (24 * y + x)).1 v _ y2
            simp only [upd]
            split
            · rfl
            · exact c5 y2 hy2
        · exact ⟨Or.inl rfl, hF0 (nxt0 (fun w => by rw [z] at w; cases w.2.2))⟩
      · refine onB_no ho (br_0 ⟨Or.inl rfl, hF0 (nxt0 (fun w => by omega))⟩)
    · refine onB_no ho (br_0 ⟨Or.inl rfl, hF0 (nxt0 (fun w => by omega))⟩)
  have l23 : ∀ (F : Int32 → cM → Prop) (y : Nat), y < 24 → (∀ C1, jC E q C0 C1 (S (24 * (y + 1))) → F (nI (S (24 * (y + 1))).2) C1) → ∀ (k x : Nat) (C : cM), x ≤ 24 → 24 < x + k → jC E q C0 C (S (24 * y + x)) → wpX1_bringTogether_23 n F (p * 16 + q) (nI y) (cI C0 (64 + 8 * p + 1) y) k (nI (S (24 * y + x)).2) (nI x) C := by
    intro F y hy hF k
    induction k with
    | zero => intro x C a1 a2; exact absurd a2 (by omega)
    | succ k ih =>
      intro x C hx hxk hC
      rw [wpX1_bringTogether_23]
      refine br_d (fun z => ?_) (fun z => pk_le 24 x (fun w => ?_) (fun w => ?_))
      · have e : S (24 * (y + 1)) = S (24 * y + x) := by
          have r := jR_run (R1 := cI C0 (64 + 8 * p + 1)) (R2 := cI C0 (64 + 8 * q + 1)) (t := t) (dx := X.toInt) (dy := Y.toInt) (y := y) (x := x) (fun w _ _ => by rw [z, b_0]) (24 - x) (by omega)
          rw [eS, ← r]; congr 1; omega
        have := hF C (by rw [e]; exact hC)
        rw [e] at this
        exact this
      · have e : 24 * (y + 1) = 24 * y + x := by omega
        have := hF C (by rw [e]; exact hC)
        rw [e] at this
        exact this
      · rw [bit_u _ x (by omega)]
        have next : ∀ (C1 : cM) (c : Nat), c = (S (24 * y + x + 1)).2 → jC E q C0 C1 (S (24 * y + x + 1)) → ∀ y4 : Int32, y4 = nI x + 1 → wpX1_bringTogether_23 n F (p * 16 + q) (nI y) (cI C0 (64 + 8 * p + 1) y) k (nI c) y4 C1 := fun C1 c hc hC1 y4 e4 => by
          rw [e4, nI_1, hc]
          exact ih (x + 1) C1 (by omega) (by omega) hC1
        refine br_b (fun v => ?_) (fun v => ?_)
        · have e : S (24 * y + x + 1) = S (24 * y + x) := by
            rw [eS]
            refine jR_none (jhit_off ?_)
            rw [show (24 * y + x) / 24 = y by omega, show (24 * y + x) % 24 = x by omega]
            exact v
          exact next C _ (by rw [e]) (by rw [e]; exact hC)
        · refine ⟨⟨hm.1, by rw [hC.2.2.2.1]; exact hm.2⟩, cell x y C _ w hy v hC (fun e => br_0 (next C _ (by rw [e]) (by rw [e]; exact hC))) (fun C1 e1 hC1 => br_1 (fun y1 ey1 y4 e4 => ?_))⟩
          rw [ey1, nI_1]
          exact next C1 _ e1.symm hC1 y4 e4
  have l4 : ∀ (k y : Nat) (C : cM), y ≤ 24 → 24 < y + k → jC E q C0 C (S (24 * y)) → wpX1_bringTogether_4 n Q (p * 16 + q) k (nI (S (24 * y)).2) (nI y) C := by
    intro k
    induction k with
    | zero => intro y C a1 a2; exact absurd a2 (by omega)
    | succ k ih =>
      intro y C hy hyk hC
      rw [wpX1_bringTogether_4]
      refine pk_le 24 y (fun z => ?_) (fun z => ⟨⟨hm.1, by rw [hC.2.2.2.1]; exact hm.2⟩, by rw [k1]; exact ⟨by rw [hC.2.1]; exact hp, by omega⟩, pk_in y 24 z, ?_⟩)
      · have : y = 24 := by omega
        subst this
        exact hq C hC
      · rw [k1, cl_nI (by omega), hC.2.2.1 _ (by omega) (by omega)]
        intro x3 e3
        rw [e3]
        exact l23 _ y z (fun C1 hC1 y2 e2 => by rw [e2, nI_1]; exact ih (y + 1) C1 (by omega) (by omega) hC1) n 0 C (by omega) (by omega) hC
  unfold wpX1_bringTogether
  have z := l4 n 0 C0 (by omega) (by omega) (by rw [eS]; exact ⟨hI, rfl, fun _ _ _ => rfl, rfl, fun _ _ => rfl⟩)
  have e0 : (S (24 * 0)).2 = 0 := by rw [eS]; rfl
  rw [e0] at z
  exact z
theorem mjoin_ok {n p q t : Nat} {X Y : Int32} {R1 R2 : Nat → Int32} {M0 : mM} {F : Int32 → mM → Prop} (hn : 600 ≤ n) (hp : p < 16) (hq16 : q < 16) (hpq : p ≠ q) (ht : t < 4) (hX : -8 ≤ X.toInt ∧ X.toInt ≤ 8) (hY : -8 ≤ Y.toInt ∧ Y.toInt ≤ 8) (h17 : M0 0 17 = nI t) (h18 : M0 0 18 = X) (h19 : M0 0 19 = Y) (hR1 : ∀ y, y < 24 → M0 3 (24 * p + y) = R1 y) (hR2 : ∀ y, y < 24 → M0 3 (24 * q + y) = R2 y)
    (hF : ∀ M1, fr [3] M0 M1 → (∀ j, (j < 24 * q ∨ 24 * q + 24 ≤ j) → M1 3 j = M0 3 j) → (∀ y, y < 24 → M1 3 (24 * q + y) = (jR R1 t X.toInt Y.toInt R2 576).1 y) → F (nI (jR R1 t X.toInt Y.toInt R2 576).2) M1) : wpX7_join_60 n F (nI p) (nI q) n 0 0 M0 := by
  obtain ⟨S, eS⟩ : ∃ S, S = jR R1 t X.toInt Y.toInt R2 := ⟨_, rfl⟩
  rw [← eS] at hF
  have loop : ∀ (g k : Nat) (M : mM), k ≤ 576 → 576 < k + g → fr [3] M0 M → (∀ j, (j < 24 * q ∨ 24 * q + 24 ≤ j) → M 3 j = M0 3 j) → (∀ y, y < 24 → M 3 (24 * q + y) = (S k).1 y) → wpX7_join_60 n F (nI p) (nI q) g (nI (S k).2) (nI k) M := by
    intro g
    induction g with
    | zero => intro k M a1 a2; exact absurd a2 (by omega)
    | succ g ih =>
      intro k M hk hkg hf ho hr
      rw [wpX7_join_60]
      refine pk_le 576 k (fun z => ?_) (fun z => ?_)
      · have : k = 576 := by omega
        subst this
        exact hF M hf ho hr
      · intro x5 e5 x6 e6
        have e5b : x5 = nI (k % 24) := by rw [e5, show (24 : Int32) = nI 24 from rfl, nIrem (by omega) (by omega) (by omega)]
        have e6b : x6 = nI (k / 24) := by rw [e6, show (24 : Int32) = nI 24 from rfl, nIdiv (by omega) (by omega) (by omega)]
        rw [e5b, e6b, nI24]
        refine ⟨pk_in (24 * p + k / 24) 384 (by omega), ?_⟩
        rw [cl_nI (by omega), ho _ (by omega), hR1 _ (by omega), bit_s _ (k % 24) (by omega)]
        have e0 : M 0 = M0 0 := hf 0 (by simp)
        have rr := rot_rng t (((k % 24 : Nat) : Int), ((k / 24 : Nat) : Int)) (by show (0 : Int) ≤ ((k % 24 : Nat) : Int) ∧ ((k % 24 : Nat) : Int) ≤ 23 ∧ (0 : Int) ≤ ((k / 24 : Nat) : Int) ∧ ((k / 24 : Nat) : Int) ≤ 23; omega)
        have next : ∀ (M1 : mM) (c : Nat), c = (S (k + 1)).2 → fr [3] M0 M1 → (∀ j, (j < 24 * q ∨ 24 * q + 24 ≤ j) → M1 3 j = M0 3 j) → (∀ y, y < 24 → M1 3 (24 * q + y) = (S (k + 1)).1 y) → ∀ y4 : Int32, y4 = nI k + 1 → wpX7_join_60 n F (nI p) (nI q) g (nI c) y4 M1 := fun M1 c hc f1 o1 r1 y4 e4 => by
          rw [e4, nI_1, hc]
          exact ih (k + 1) M1 (by omega) (by omega) f1 o1 r1
        have stay : S (k + 1) = S k → ∀ y4 : Int32, y4 = nI k + 1 → wpX7_join_60 n F (nI p) (nI q) g (nI (S k).2) y4 M := fun e => next M _ (by rw [e]) hf ho (by rw [e]; exact hr)
        have go : ∀ b : Bool, b = bt (R1 (k / 24)) (k % 24) → wpX7_join_108 n (wpX7_join_60 n F (nI p) (nI q) g) (nI p) (nI q) (nI (S k).2) (nI k) (nI (k % 24)) (nI (k / 24)) (b2i b) M := fun b hb => by
          unfold wpX7_join_108
          refine rot_join ht (by rw [e0]; exact h17) n 0 _ _ (by omega) (by omega) (by rw [tI _ (by omega), tI _ (by omega)]; omega) (fun X1 Y1 eX eY => ?_)
          rw [Nat.sub_zero, tI _ (by omega), tI _ (by omega)] at eX eY
          rw [e0, h18, h19]
          intro X2 e2 Y2 f2
          have iX : X2.toInt = (rot t (((k % 24 : Nat) : Int), ((k / 24 : Nat) : Int))).1 + X.toInt := by rw [e2, addI (by omega) (by omega), eX]
          have iY : Y2.toInt = (rot t (((k % 24 : Nat) : Int), ((k / 24 : Nat) : Int))).2 + Y.toInt := by rw [f2, addI (by omega) (by omega), eY]
          refine br_b (fun w => stay ?_) (fun w => ?_)
          · rw [eS]; exact jR_none (jhit_off (by rw [← hb]; exact w))
          · rw [hb] at w
            have off : jhit R1 t X.toInt Y.toInt (S k).1 k = none → S (k + 1) = S k := fun e => by rw [eS] at e ⊢; exact jR_none e
            rcases i32_cases X2 24 (by omega) with ⟨u, hu, eu⟩ | hout
            · have iu : (u : Int) = (rot t (((k % 24 : Nat) : Int), ((k / 24 : Nat) : Int))).1 + X.toInt := by rw [← iX, eu, tI u (by omega)]
              rw [eu]
              refine isPlace_yes hu (br_1 ?_)
              rcases i32_cases Y2 24 (by omega) with ⟨v, hv, ev⟩ | hout
              · have iv : (v : Int) = (rot t (((k % 24 : Nat) : Int), ((k / 24 : Nat) : Int))).2 + Y.toInt := by rw [← iY, ev, tI v (by omega)]
                rw [ev]
                refine isPlace_yes hv (br_1 ?_)
                rw [nI24]
                refine ⟨pk_in (24 * q + v) 384 (by omega), ?_⟩
                rw [cl_nI (by omega), hr v hv, bit_s _ u (by omega)]
                refine br_bn (fun z2 => ?_) (fun z2 => stay (off ?_))
                · have hh : jhit R1 t X.toInt Y.toInt (S k).1 k = some (u, v) := by
                    unfold jhit
                    rw [← iu, ← iv, Int.toNat_natCast, Int.toNat_natCast, if_pos ⟨w, ⟨by omega, by omega⟩, ⟨by omega, by omega⟩, z2⟩]
                  have es : S (k + 1) = (jput (S k).1 u v, (S k).2 + 1) := by rw [eS] at hh ⊢; exact jR_some hh
                  intro M1 e1 c3 ec3 y4 e4
                  rw [ec3, nI_1]
                  refine next M1 _ (by rw [es]) (by rw [e1]; exact hf.tr (fr.st (by simp))) (fun j hj => by rw [e1, st_off _ _ (by omega)]; exact ho j hj) (fun y hy => ?_) y4 e4
                  rw [e1, es]
                  show _ = upd (S k).1 v ((S k).1 v ||| (1 <<< (nI u &&& 31))) y
                  simp only [upd]
                  by_cases z3 : y = v
                  · rw [if_pos z3, z3, st_at]
                  · rw [if_neg z3, st_off _ _ (by omega)]; exact hr y hy
                · unfold jhit
                  rw [if_neg]
                  intro q2
                  rw [← iu, ← iv, Int.toNat_natCast, Int.toNat_natCast, z2] at q2
                  cases q2.2.2.2
              · refine isPlace_no hout (br_0 (stay (off ?_)))
                unfold jhit
                rw [if_neg]
                intro q2
                have := q2.2.2.1
                omega
            · refine isPlace_no hout (br_0 (stay (off ?_)))
              unfold jhit
              rw [if_neg]
              intro q2
              have := q2.2.1
              omega
        by_cases zb : bt (R1 (k / 24)) (k % 24) = true
        · exact br_ni (by rw [zb]; rfl) (go true zb.symm)
        · have zf : bt (R1 (k / 24)) (k % 24) = false := by cases w : bt (R1 (k / 24)) (k % 24) with | false => rfl | true => exact absurd w zb
          exact br_ne (by rw [zf]; decide) (go false zf.symm)
  have z := loop n 0 M0 (by omega) (by omega) (fr.rf _ _) (fun _ _ => rfl) (by rw [eS]; exact hR2)
  have e0 : (S 0).2 = 0 := by rw [eS]; rfl
  rw [e0] at z
  exact z
