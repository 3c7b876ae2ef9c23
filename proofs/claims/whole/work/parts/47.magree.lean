/-! PURE PART: the model's table of those that agree -/
theorem in_b {n : Nat} {a lo hi : Int64} {M : mM} {Q : Int32 → mM → Prop} (b : Bool) (hb : b = decide (lo.toInt ≤ a.toInt ∧ a.toInt ≤ hi.toInt)) (hq : Q (b2i b) M) : wpX7_in n a lo hi M Q := by
  by_cases z : lo.toInt ≤ a.toInt ∧ a.toInt ≤ hi.toInt
  · rw [decide_eq_true z] at hb
    subst hb
    exact in_yes (by rw [i64_le]; exact z.1) (by rw [i64_le]; exact z.2) hq
  · rw [decide_eq_false z] at hb
    subst hb
    exact in_no (by rw [i64_lt, i64_lt]; omega) hq
theorem nI_m1 {u : Nat} (h : u < 2147483648) : ¬ nI u = -1 := fun z => by
  have e := congrArg Int32.toInt z
  rw [tI u h] at e
  have e : (u : Int) = -1 := e
  omega
theorem rot_rng : ∀ (t : Nat) (p : Int × Int), (0 ≤ p.1 ∧ p.1 ≤ 23 ∧ 0 ≤ p.2 ∧ p.2 ≤ 23) → (0 ≤ (rot t p).1 ∧ (rot t p).1 ≤ 23 ∧ 0 ≤ (rot t p).2 ∧ (rot t p).2 ≤ 23)
  | 0, p, h => h
  | t + 1, p, h => by
    rw [rot]
    exact rot_rng t (23 - p.2, p.1) (by show 0 ≤ 23 - p.2 ∧ 23 - p.2 ≤ 23 ∧ 0 ≤ p.1 ∧ p.1 ≤ 23; omega)
theorem sub23 {Y : Int32} (h0 : 0 ≤ Y.toInt) (h1 : Y.toInt ≤ 23) : (23 - Y : Int32).toInt = 23 - Y.toInt := by
  have e : ((23 : Int32)).toInt = 23 := rfl
  rw [subI (by rw [e]; omega) (by rw [e]; omega), e]
theorem agree62 {n : Nat} {E : Int32 → Int32 → mM → Prop} {x1 x2 x4 x5 x6 x7 x10 : Int32} {t : Nat} {M : mM} (ht : t < 4) : ∀ (k j : Nat) (X Y : Int32), j ≤ t → t < j + k → (0 ≤ X.toInt ∧ X.toInt ≤ 23 ∧ 0 ≤ Y.toInt ∧ Y.toInt ≤ 23) → (∀ X1 Y1 : Int32, X1.toInt = (rot (t - j) (X.toInt, Y.toInt)).1 → Y1.toInt = (rot (t - j) (X.toInt, Y.toInt)).2 → E X1 Y1 M) → wpX7_agree_62 n E x1 x2 (nI t) x4 x5 x6 x7 x10 k X Y (nI j) M := by
  intro k
  induction k with
  | zero => intro j X Y h1 h2; exact absurd h2 (by omega)
  | succ k ih =>
    intro j X Y h1 h2 hr hE
    rw [wpX7_agree_62]
    refine pk_le t j (fun z => ?_) (fun z => ?_)
    · have e : t - j = 0 := by omega
      rw [e] at hE
      exact hE X Y rfl rfl
    · intro A eA c ec
      have iA : A.toInt = 23 - Y.toInt := by rw [eA, sub23 hr.2.2.1 hr.2.2.2]
      rw [ec, nI_1]
      refine ih (j + 1) A X (by omega) (by omega) (by omega) (fun X1 Y1 e1 e2 => hE X1 Y1 ?_ ?_)
      · rw [show t - j = (t - (j + 1)) + 1 by omega, rot, ← iA]; exact e1
      · rw [show t - j = (t - (j + 1)) + 1 by omega, rot, ← iA]; exact e2
/-- directions that agree -/
def samB (s r : Nat) : Bool := if s = 8 ∨ r = 8 then decide (s = r) else decide ((r + 8 - s) % 8 = 0 ∨ (r + 8 - s) % 8 = 1 ∨ (r + 8 - s) % 8 = 7)
theorem dsub : ∀ s, s < 8 → ∀ r, r < 8 → (nI r - nI s) + 8 = nI (r + 8 - s) := by decide +kernel
theorem negT : ∀ T, T < 4 → (-(nI T)).toInt = -(T : Int) := by decide +kernel
theorem nI40 (a b : Nat) : (40 : Int32) * nI a + nI b = nI (40 * a + b) := by rw [show (40 : Int32) = nI 40 from rfl, pk_mul, nI_add]
theorem b2i_f : b2i false = 0 := rfl
theorem b2i_t : b2i true = 1 := rfl
theorem agree_row {n p q T i s : Nat} {x3 x4 x5 x6 X Y : Int32} {L2 : List Mk} {M0 : mM} {E : Int32 → mM → Prop} (g : Nat → Bool) (hn : 50 ≤ n) (hs : s ≤ 8) (hX : -100 ≤ X.toInt ∧ X.toInt ≤ 100) (hY : -100 ≤ Y.toInt ∧ Y.toInt ≤ 100) (hq16 : q < 16) (hi : i < 40) (hT : T ≤ 3) (h4 : M0 0 4 = nI T) (h2 : mMk L2 q M0) (l2 : L2.length ≤ 40) (k2 : ∀ m ∈ L2, mkOk m)
    (hg : ∀ k, k < L2.length → g k = (samB s (mget L2 k).2.2 && (decide (-(T : Int) ≤ ((mget L2 k).1 : Int) - X.toInt ∧ ((mget L2 k).1 : Int) - X.toInt ≤ T) && decide (-(T : Int) ≤ ((mget L2 k).2.1 : Int) - Y.toInt ∧ ((mget L2 k).2.1 : Int) - Y.toInt ≤ T))))
    (hE : ∀ M1, fr [12] M0 M1 → (∀ l, l < L2.length → M1 12 (40 * i + l) = b2i (g l)) → (∀ c, (c < 40 * i ∨ 40 * i + 40 ≤ c) → M1 12 c = M0 12 c) → E (b2i (anyk g L2.length)) M1) : wpX7_agree_132 n E (nI p) (nI q) x3 x4 x5 x6 (nI i) X Y (nI s) n 0 0 M0 := by
  have loop : ∀ (k j : Nat) (M : mM), j ≤ L2.length → L2.length < j + k → fr [12] M0 M → (∀ l, l < j → M 12 (40 * i + l) = b2i (g l)) → (∀ c, (c < 40 * i ∨ 40 * i + 40 ≤ c) → M 12 c = M0 12 c) → wpX7_agree_132 n E (nI p) (nI q) x3 x4 x5 x6 (nI i) X Y (nI s) k (b2i (anyk g j)) (nI j) M := by
    intro k
    induction k with
    | zero => intro j M h1 hh2; exact absurd hh2 (by omega)
    | succ k ih =>
      intro j M hj hjk hf hrow hoth
      have m2 := mMk_fr h2 hf (by simp) (by simp) (by simp) (by simp)
      rw [wpX7_agree_132]
      refine ⟨pk_in q 16 hq16, ?_⟩
      rw [cl_nI (by omega), m2.1]
      refine pk_le L2.length j (fun z => ?_) (fun z => ?_)
      · have e : j = L2.length := by omega
        subst e
        exact hE M hf hrow hoth
      · obtain ⟨e9, e10, e11⟩ := m2.2 j z
        obtain ⟨ok1, ok2, ok3, ok4, ok5⟩ := mget_ok k2 j
        have hgj := hg j z
        rw [nI40]
        refine ⟨pk_in (40 * q + j) 640 (by omega), ?_⟩
        rw [cl_nI (by omega), e11]
        intro x13 e13 x14 e14
        -- the answer is put down
        have k300 : ∀ b : Bool, b = g j → wpX7_agree_300 n (wpX7_agree_132 n E (nI p) (nI q) x3 x4 x5 x6 (nI i) X Y (nI s) k) (nI p) (nI q) x3 x4 x5 x6 (nI i) X Y (nI s) (b2i (anyk g j)) (nI j) (b2i b) M := fun b hb => by
          unfold wpX7_agree_300
          rw [nI40]
          refine ⟨pk_in (40 * i + j) 1600 (by omega), b2i_bz b, fun M2 e2 => ?_⟩
          rw [cl_nI (by omega)] at e2
          have go : ∀ w : Bool, w = anyk g (j + 1) → wpX7_agree_332 n (wpX7_agree_132 n E (nI p) (nI q) x3 x4 x5 x6 (nI i) X Y (nI s) k) (nI p) (nI q) x3 x4 x5 x6 (nI i) X Y (nI s) (nI j) (b2i w) M2 := fun w hw => by
            unfold wpX7_agree_332
            intro c ec
            rw [ec, nI_1, hw]
            refine ih (j + 1) M2 (by omega) (by omega) (by rw [e2]; exact hf.tr (fr.st (by simp))) (fun l hl => ?_) (fun c hc => ?_)
            · rw [e2]
              by_cases zz : l = j
              · subst zz; rw [st_at, hb]
              · rw [st_off _ _ (by omega)]; exact hrow l (by omega)
            · rw [e2, st_off _ _ (by omega)]; exact hoth c hc
          have ea : anyk g (j + 1) = (anyk g j || g j) := rfl
          refine br_bn (fun z1 => ?_) (fun z1 => ?_)
          · refine br_b (fun z2 => go false ?_) (fun z2 => go true ?_)
            · rw [ea, z1, ← hb, z2]; rfl
            · rw [ea, z1, ← hb, z2]; rfl
          · exact go true (by rw [ea, z1]; rfl)
        have k222 : ∀ b : Bool, b = samB s (mget L2 j).2.2 → wpX7_agree_222 n (wpX7_agree_132 n E (nI p) (nI q) x3 x4 x5 x6 (nI i) X Y (nI s) k) (nI p) (nI q) x3 x4 x5 x6 (nI i) X Y (nI s) (b2i (anyk g j)) (nI j) (b2i b) M := fun b hb => by
          unfold wpX7_agree_222
          refine br_b (fun z1 => ?_) (fun z1 => ?_)
          · exact k300 false (by rw [hgj, ← hb, z1]; rfl)
          · rw [nI40]
            refine ⟨pk_in (40 * q + j) 640 (by omega), ?_⟩
            rw [cl_nI (by omega), e9, hf 0 (by simp), h4]
            have i9 : (nI (mget L2 j).1 - X).toInt = ((mget L2 j).1 : Int) - X.toInt := by rw [subI (by rw [tI _ (by omega)]; omega) (by rw [tI _ (by omega)]; omega), tI _ (by omega)]
            have i10 : (nI (mget L2 j).2.1 - Y).toInt = ((mget L2 j).2.1 : Int) - Y.toInt := by rw [subI (by rw [tI _ (by omega)]; omega) (by rw [tI _ (by omega)]; omega), tI _ (by omega)]
            refine in_b (decide (-(T : Int) ≤ ((mget L2 j).1 : Int) - X.toInt ∧ ((mget L2 j).1 : Int) - X.toInt ≤ T)) (by rw [i64_of, i64_of, i64_of, i9, negT T (by omega), tI T (by omega)]) ?_
            refine br_b (fun z2 => ?_) (fun z2 => ?_)
            · exact k300 false (by rw [hgj, z2]; simp)
            · rw [e10, hf 0 (by simp), h4]
              refine in_b (decide (-(T : Int) ≤ ((mget L2 j).2.1 : Int) - Y.toInt ∧ ((mget L2 j).2.1 : Int) - Y.toInt ≤ T)) (by rw [i64_of, i64_of, i64_of, i10, negT T (by omega), tI T (by omega)]) ?_
              refine br_b (fun z3 => ?_) (fun z3 => ?_)
              · exact k300 false (by rw [hgj, z3]; simp)
              · exact k300 true (by rw [hgj, z2, z3, ← hb, z1]; rfl)
        have k184 : (s = 8 ∨ (mget L2 j).2.2 = 8) → wpX7_agree_184 n (wpX7_agree_132 n E (nI p) (nI q) x3 x4 x5 x6 (nI i) X Y (nI s) k) (nI p) (nI q) x3 x4 x5 x6 (nI i) X Y (nI s) (b2i (anyk g j)) (nI j) x13 M := fun h8 => by
          unfold wpX7_agree_184
          rw [e13]
          by_cases z1 : s = (mget L2 j).2.2
          · exact br_ni (by rw [z1]) (k222 true (by unfold samB; rw [if_pos h8, decide_eq_true z1]))
          · exact br_ne (fun w => z1 (nI_inj (by omega) (by omega) w)) (k222 false (by unfold samB; rw [if_pos h8, decide_eq_false z1]))
        by_cases z8 : s = 8
        · exact br_i (by rw [z8]; rfl) (k184 (Or.inl z8))
        · refine br_e (fun w => z8 (nI_inj (b := 8) (by omega) (by omega) w)) ?_
          by_cases z9 : (mget L2 j).2.2 = 8
          · exact br_ni (by rw [e13, z9]; rfl) (k184 (Or.inr z9))
          · refine br_ne (by rw [e13]; exact fun w => z9 (nI_inj (b := 8) (by omega) (by omega) w)) ?_
            have e14b : x14 = nI (((mget L2 j).2.2 + 8 - s) % 8) := by
              rw [e14, e13, dsub s (by omega) _ (by omega), show (8 : Int32) = nI 8 from rfl, nIrem (by omega) (by omega) (by omega)]
            have sb : samB s (mget L2 j).2.2 = decide (((mget L2 j).2.2 + 8 - s) % 8 = 0 ∨ ((mget L2 j).2.2 + 8 - s) % 8 = 1 ∨ ((mget L2 j).2.2 + 8 - s) % 8 = 7) := by unfold samB; rw [if_neg (by omega)]
            rw [e14b]
            obtain ⟨w, hw⟩ : ∃ w, w = ((mget L2 j).2.2 + 8 - s) % 8 := ⟨_, rfl⟩
            have wb : w < 2147483648 := by omega
            rw [← hw] at sb ⊢
            by_cases w0 : w = 0
            · exact br_i (by rw [w0]; rfl) (k222 true (by rw [sb, decide_eq_true (Or.inl w0)]))
            · refine br_e (fun v => w0 (nI_inj (b := 0) wb (by omega) v)) ?_
              by_cases w1 : w = 1
              · exact br_i (by rw [w1]; rfl) (k222 true (by rw [sb, decide_eq_true (Or.inr (Or.inl w1))]))
              · refine br_e (fun v => w1 (nI_inj (b := 1) wb (by omega) v)) ?_
                by_cases w7 : w = 7
                · exact br_ni (by rw [w7]; rfl) (k222 true (by rw [sb, decide_eq_true (Or.inr (Or.inr w7))]))
                · exact br_ne (fun v => w7 (nI_inj (b := 7) wb (by omega) v)) (k222 false (by rw [sb, decide_eq_false (by omega)]))
  exact loop n 0 M0 (by omega) (by omega) (fr.rf _ _) (fun l hl => absurd hl (by omega)) (fun _ _ => rfl)
/-- the model's table of who agrees with whom -/
def agT (a : Nat → Nat → Bool) (n1 n2 : Nat) (M : mM) : Prop := ∀ i k, i < n1 → k < n2 → M 12 (40 * i + k) = b2i (a i k)
theorem agB_eq (T t : Nat) (dx dy : Int) (m1 m2 : Mk) : agB T t dx dy m1 m2 = (samB (srt t m1.2.2) m2.2.2 && (decide (-(T : Int) ≤ (m2.1 : Int) - ((rot t (m1.1, m1.2.1)).1 + dx) ∧ (m2.1 : Int) - ((rot t (m1.1, m1.2.1)).1 + dx) ≤ T) && decide (-(T : Int) ≤ (m2.2.1 : Int) - ((rot t (m1.1, m1.2.1)).2 + dy) ∧ (m2.2.1 : Int) - ((rot t (m1.1, m1.2.1)).2 + dy) ≤ T))) := rfl
theorem srt_le {t s : Nat} (h : s ≤ 8) : srt t s ≤ 8 := by unfold srt; split <;> omega
theorem agree_ok {n p q t T : Nat} {dx dy : Int32} {L1 L2 : List Mk} {M : mM} {Q : Int32 → mM → Prop} (hn : 50 ≤ n) (hp : p < 16) (hq16 : q < 16) (ht : t < 4) (hdx : -8 ≤ dx.toInt ∧ dx.toInt ≤ 8) (hdy : -8 ≤ dy.toInt ∧ dy.toInt ≤ 8) (hT : T ≤ 3) (h4 : M 0 4 = nI T) (h1 : mMk L1 p M) (h2 : mMk L2 q M) (l1 : L1.length ≤ 40) (l2 : L2.length ≤ 40) (k1 : ∀ m ∈ L1, mkOk m) (k2 : ∀ m ∈ L2, mkOk m)
    (hq : ∀ M1, fr [12] M M1 → agT (fun i j => agB T t dx.toInt dy.toInt (mget L1 i) (mget L2 j)) L1.length L2.length M1 → Q (nI (ct (fun i => anyk (fun j => agB T t dx.toInt dy.toInt (mget L1 i) (mget L2 j)) L2.length) L1.length)) M1) : wpX7_agree n (nI p) (nI q) (nI t) dx dy M Q := by
  have loop : ∀ (k i : Nat) (M1 : mM), i ≤ L1.length → L1.length < i + k → fr [12] M M1 → agT (fun i j => agB T t dx.toInt dy.toInt (mget L1 i) (mget L2 j)) i L2.length M1 → wpX7_agree_6 n Q (nI p) (nI q) (nI t) dx dy k (nI (ct (fun i => anyk (fun j => agB T t dx.toInt dy.toInt (mget L1 i) (mget L2 j)) L2.length) i)) (nI i) M1 := by
    intro k
    induction k with
    | zero => intro i M1 a1 a2; exact absurd a2 (by omega)
    | succ k ih =>
      intro i M1 hi hik hf hag
      have m1 := mMk_fr h1 hf (by simp) (by simp) (by simp) (by simp)
      have m2 := mMk_fr h2 hf (by simp) (by simp) (by simp) (by simp)
      rw [wpX7_agree_6]
      refine ⟨pk_in p 16 hp, ?_⟩
      rw [cl_nI (by omega), m1.1]
      refine pk_le L1.length i (fun z => ?_) (fun z => ?_)
      · have e : i = L1.length := by omega
        subst e
        exact hq M1 hf hag
      · obtain ⟨e9, e10, e11⟩ := m1.2 i z
        obtain ⟨ok1, ok2, ok3, ok4, ok5⟩ := mget_ok k1 i
        rw [nI40]
        refine ⟨pk_in (40 * p + i) 640 (by omega), ?_⟩
        rw [cl_nI (by omega), e9, e10, e11]
        intro x8 e8 x9 e9' x10 e10'
        have i8 : x8.toInt = ((mget L1 i).1 : Int) := by rw [e8, tI _ (by omega)]
        have i9 : x9.toInt = ((mget L1 i).2.1 : Int) := by rw [e9', tI _ (by omega)]
        have rr := rot_rng t (((mget L1 i).1 : Int), ((mget L1 i).2.1 : Int)) (by show (0 : Int) ≤ ((mget L1 i).1 : Int) ∧ ((mget L1 i).1 : Int) ≤ 23 ∧ (0 : Int) ≤ ((mget L1 i).2.1 : Int) ∧ ((mget L1 i).2.1 : Int) ≤ 23; omega)
        refine agree62 ht n 0 x8 x9 (by omega) (by omega) (by omega) (fun X1 Y1 eX eY => ?_)
        rw [Nat.sub_zero, i8, i9] at eX eY
        have k110 : wpX7_agree_110 n (wpX7_agree_6 n Q (nI p) (nI q) (nI t) dx dy k) (nI p) (nI q) (nI t) dx dy (nI (ct (fun i => anyk (fun j => agB T t dx.toInt dy.toInt (mget L1 i) (mget L2 j)) L2.length) i)) (nI i) X1 Y1 (nI (srt t (mget L1 i).2.2)) M1 := by
          unfold wpX7_agree_110
          intro X2 e2 Y2 f2
          have iX : X2.toInt = (rot t (((mget L1 i).1 : Int), ((mget L1 i).2.1 : Int))).1 + dx.toInt := by rw [e2, addI (by omega) (by omega), eX]
          have iY : Y2.toInt = (rot t (((mget L1 i).1 : Int), ((mget L1 i).2.1 : Int))).2 + dy.toInt := by rw [f2, addI (by omega) (by omega), eY]
          refine agree_row (T := T) (L2 := L2) (fun j => agB T t dx.toInt dy.toInt (mget L1 i) (mget L2 j)) hn (srt_le ok5) (by omega) (by omega) hq16 (by omega) hT (by rw [hf 0 (by simp)]; exact h4) m2 l2 k2 (fun j hj => ?_) (fun M2 f2 hrow hoth => ?_)
          · show agB T t dx.toInt dy.toInt (mget L1 i) (mget L2 j) = _
            rw [agB_eq, iX, iY]
          · have fin : ∀ b : Bool, b = anyk (fun j => agB T t dx.toInt dy.toInt (mget L1 i) (mget L2 j)) L2.length → wpX7_agree_352 n (wpX7_agree_6 n Q (nI p) (nI q) (nI t) dx dy k) (nI p) (nI q) (nI t) dx dy (nI i) (b2i b) (nI (ct (fun i => anyk (fun j => agB T t dx.toInt dy.toInt (mget L1 i) (mget L2 j)) L2.length) i)) M2 := fun b hb => by
              unfold wpX7_agree_352
              intro a ea c ec
              have e3 : ct (fun i => anyk (fun j => agB T t dx.toInt dy.toInt (mget L1 i) (mget L2 j)) L2.length) (i + 1) = ct (fun i => anyk (fun j => agB T t dx.toInt dy.toInt (mget L1 i) (mget L2 j)) L2.length) i + (if b then 1 else 0) := by rw [ct, hb]
              rw [ea, ec, b2i_nI, nI_add, nI_1, ← e3]
              refine ih (i + 1) M2 (by omega) (by omega) (hf.tr f2) (fun u l hu hl => ?_)
              by_cases zz : u = i
              · subst zz; exact hrow l hl
              · rw [hoth _ (by omega)]; exact hag u l (by omega) hl
            refine br_b (fun w => ?_) (fun w => ?_)
            · exact fin false w.symm
            · exact fin true w.symm
        have es : ∀ s : Nat, (mget L1 i).2.2 = s → s < 8 → srt t (mget L1 i).2.2 = (s + 2 * t) % 8 := fun s hs h8 => by unfold srt; rw [hs, if_neg (by omega)]
        by_cases z8 : (mget L1 i).2.2 = 8
        · refine br_ni (by rw [e10', z8]; rfl) ?_
          have e : srt t (mget L1 i).2.2 = 8 := by unfold srt; rw [if_pos z8]
          rw [e] at k110
          exact k110
        · refine br_ne (by rw [e10']; exact fun w => z8 (nI_inj (b := 8) (by omega) (by omega) w)) ?_
          rw [e10', show (2 : Int32) = nI 2 from rfl, pk_mul, nI_add, show (8 : Int32) = nI 8 from rfl, nIrem (by omega) (by omega) (by omega)]
          rw [es _ rfl (by omega)] at k110
          exact k110
  unfold wpX7_agree
  exact loop n 0 M (by omega) (by omega) (fr.rf _ _) (fun i k hi _ => absurd hi (by omega))
