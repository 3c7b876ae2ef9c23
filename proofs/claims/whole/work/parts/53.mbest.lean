/-! PURE PART: the best move: what is kept of the moves gone through; the model's search -/
theorem cnt_40 {L1 L2 : List Mk} {T t c : Nat} {dx dy : Int} (l1 : L1.length ≤ 40) (h : cntIs L1 L2 T t dx dy c) : c ≤ 40 := by
  obtain ⟨⟨m, hm, hs⟩, _⟩ := h
  have := ct_le (fun i => (m i).isSome) L1.length
  unfold msz at hs
  omega
/-- of the moves before r the best is this one -/
def BU (L1 L2 : List Mk) (T : Nat) (r : Int) (s t : Nat) (dx dy : Int) : Prop := mvOk t dx dy ∧ rk t dx dy < r ∧ cntIs L1 L2 T t dx dy s ∧ ∀ t2 dx2 dy2 c2, mvOk t2 dx2 dy2 → rk t2 dx2 dy2 < r → cntIs L1 L2 T t2 dx2 dy2 c2 → c2 < s ∨ (c2 = s ∧ rk t dx dy ≤ rk t2 dx2 dy2)
/-- as it is kept in four ints -/
def BW (L1 L2 : List Mk) (T : Nat) (r : Int) (a b c d : Int32) : Prop := (a = -1 ∧ ∀ t2 dx2 dy2, mvOk t2 dx2 dy2 → r ≤ rk t2 dx2 dy2) ∨ ∃ s t, s ≤ 40 ∧ a = nI s ∧ b = nI t ∧ BU L1 L2 T r s t c.toInt d.toInt
theorem BW_skip {L1 L2 : List Mk} {T : Nat} {r r1 : Int} {a b c d : Int32} (h : BW L1 L2 T r a b c d) (hr : r ≤ r1) (hno : ∀ t2 dx2 dy2, mvOk t2 dx2 dy2 → rk t2 dx2 dy2 < r1 → rk t2 dx2 dy2 < r) : BW L1 L2 T r1 a b c d := by
  rcases h with ⟨h1, h2⟩ | ⟨s, t, h1, h2, h3, h4, h5, h6, h7⟩
  · refine Or.inl ⟨h1, fun t2 dx2 dy2 ho => ?_⟩
    have a1 := h2 t2 dx2 dy2 ho
    have a2 := hno t2 dx2 dy2 ho
    omega
  · exact Or.inr ⟨s, t, h1, h2, h3, h4, by omega, h6, fun t2 dx2 dy2 c2 ho hk => h7 t2 dx2 dy2 c2 ho (hno t2 dx2 dy2 ho hk)⟩
theorem BW_low {L1 L2 : List Mk} {T : Nat} {r : Int} {a b c d : Int32} (h : BW L1 L2 T r a b c d) {t0 s0 : Nat} {dx0 dy0 : Int} (ho : mvOk t0 dx0 dy0) (hr : rk t0 dx0 dy0 = r) (hs0 : s0 < 2147483648) (hs : nI s0 ≤ a) (hc : ∀ c0, cntIs L1 L2 T t0 dx0 dy0 c0 → c0 ≤ s0) : BW L1 L2 T (r + 1) a b c d := by
  rcases h with ⟨h1, h2⟩ | ⟨s, t, h1, h2, h3, h4, h5, h6, h7⟩
  · rw [h1, i32_le, tI s0 hs0] at hs
    have hs : (s0 : Int) ≤ -1 := hs
    omega
  · rw [h2, i32_le, tI s0 hs0, tI s (by omega)] at hs
    refine Or.inr ⟨s, t, h1, h2, h3, h4, by omega, h6, fun t2 dx2 dy2 c2 o2 hk hc2 => ?_⟩
    by_cases z : rk t2 dx2 dy2 < r
    · exact h7 t2 dx2 dy2 c2 o2 z hc2
    · obtain ⟨e1, e2, e3⟩ := rk_inj o2 ho (by omega)
      rw [e1, e2, e3] at hc2 ⊢
      have := hc c2 hc2
      omega
theorem BW_new {L1 L2 : List Mk} {T : Nat} {r : Int} {a b c d : Int32} (h : BW L1 L2 T r a b c d) {t0 s0 : Nat} {X Y : Int32} (ho : mvOk t0 X.toInt Y.toInt) (hr : rk t0 X.toInt Y.toInt = r) (hs0 : s0 ≤ 40) (hs : ¬ nI s0 ≤ a) (hc : cntIs L1 L2 T t0 X.toInt Y.toInt s0) : BW L1 L2 T (r + 1) (nI s0) (nI t0) X Y := by
  refine Or.inr ⟨s0, t0, hs0, rfl, rfl, ho, by omega, hc, fun t2 dx2 dy2 c2 o2 hk hc2 => ?_⟩
  by_cases z : rk t2 dx2 dy2 < r
  · rcases h with ⟨h1, h2⟩ | ⟨s, t, h1, h2, h3, h4, h5, h6, h7⟩
    · have := h2 t2 dx2 dy2 o2; omega
    · rw [h2, i32_le, tI s0 (by omega), tI s (by omega)] at hs
      have := h7 t2 dx2 dy2 c2 o2 z hc2
      omega
  · obtain ⟨e1, e2, e3⟩ := rk_inj o2 ho (by omega)
    rw [e1, e2, e3] at hc2 ⊢
    exact Or.inr ⟨IsMax_one hc2 hc, Int.le_refl _⟩
/-- the best move, in four ints -/
def BF (L1 L2 : List Mk) (T : Nat) (a b c d : Int32) : Prop := ∃ s t, s ≤ 40 ∧ a = nI s ∧ b = nI t ∧ BestIs L1 L2 T s t c.toInt d.toInt
theorem mv0 : mvOk 0 0 0 := by unfold mvOk; omega
theorem BW_end {L1 L2 : List Mk} {T : Nat} {r : Int} {a b c d : Int32} (h : BW L1 L2 T r a b c d) (hr : ∀ t2 dx2 dy2, mvOk t2 dx2 dy2 → rk t2 dx2 dy2 < r) : BF L1 L2 T a b c d := by
  rcases h with ⟨h1, h2⟩ | ⟨s, t, h1, h2, h3, h4, h5, h6, h7⟩
  · have := h2 0 0 0 mv0
    have := hr 0 0 0 mv0
    omega
  · exact ⟨s, t, h1, h2, h3, h4, h6, fun t2 dx2 dy2 c2 o2 hc2 => h7 t2 dx2 dy2 c2 o2 (hr t2 dx2 dy2 o2) hc2⟩
theorem BW_stop {L1 L2 : List Mk} {T B : Nat} {r : Int} {a b c d : Int32} (h : BW L1 L2 T r a b c d) (hB : B < 2147483648) (ha : nI B ≤ a) (hb : ∀ t2 dx2 dy2 c2, cntIs L1 L2 T t2 dx2 dy2 c2 → c2 ≤ B) : BF L1 L2 T a b c d := by
  rcases h with ⟨h1, h2⟩ | ⟨s, t, h1, h2, h3, h4, h5, h6, h7⟩
  · rw [h1, i32_le, tI B hB] at ha
    have ha : (B : Int) ≤ -1 := ha
    omega
  · rw [h2, i32_le, tI B hB, tI s (by omega)] at ha
    refine ⟨s, t, h1, h2, h3, h4, h6, fun t2 dx2 dy2 c2 o2 hc2 => ?_⟩
    by_cases z : rk t2 dx2 dy2 < r
    · exact h7 t2 dx2 dy2 c2 o2 z hc2
    · have := hb t2 dx2 dy2 c2 hc2
      omega
theorem rk_max {t : Nat} {dx dy : Int} (h : mvOk t dx dy) : rk t dx dy < 19652 := by
  unfold mvOk at h
  unfold rk
  have e1 : ab dx + ab dy ≤ 16 := by unfold ab; split <;> split <;> omega
  generalize ab dx + ab dy = f at *
  omega
theorem rk_min {t : Nat} {dx dy : Int} (h : mvOk t dx dy) : 0 ≤ rk t dx dy := by
  unfold mvOk at h
  unfold rk
  have e1 : 0 ≤ ab dx + ab dy := by unfold ab; split <;> split <;> omega
  generalize ab dx + ab dy = f at *
  omega
/-- which moves lie between two places of the order -/
theorem rk_slot {t t2 i f B : Nat} {dx2 dy2 : Int} (h : mvOk t2 dx2 dy2) (ht : t < 4) (hi : i < 17) (hB : B = (f * 4 + t) * 289 + i * 17) (h1 : (B : Int) ≤ rk t2 dx2 dy2) (h2 : rk t2 dx2 dy2 < (B : Int) + 17) : t2 = t ∧ dx2 = (i : Int) - 8 ∧ ab dx2 + ab dy2 = (f : Int) ∧ rk t2 dx2 dy2 = (B : Int) + (dy2 + 8) := by
  unfold mvOk at h
  unfold rk at h1 h2 ⊢
  have e1 : 0 ≤ ab dx2 + ab dy2 := by unfold ab; split <;> split <;> omega
  generalize ab dx2 + ab dy2 = g at *
  omega
theorem rk_at {t i f : Nat} {dx dy : Int} (hi : dx = (i : Int) - 8) (hf : ab dx + ab dy = (f : Int)) : rk t dx dy = (((f * 4 + t) * 289 + i * 17 : Nat) : Int) + (dy + 8) := by
  unfold rk
  rw [hf]
  omega
/-- the model's cells that a search for the best move may change -/
def bfr (M M1 : mM) : Prop := (∀ c, c ∉ [0, 12, 13, 14, 15] → M1 c = M c) ∧ ∀ k, k < 16 → M1 0 k = M 0 k
theorem bfr.rf (M : mM) : bfr M M := ⟨fun _ _ => rfl, fun _ _ => rfl⟩
theorem bfr.tr {A B C : mM} (h1 : bfr A B) (h2 : bfr B C) : bfr A C := ⟨fun c hc => (h2.1 c hc).trans (h1.1 c hc), fun k hk => (h2.2 k hk).trans (h1.2 k hk)⟩
theorem bfr_fr {M M1 : mM} {L : List Nat} (h : fr L M M1) (hL : ∀ c, c ∈ L → c ∈ [12, 13, 14, 15]) : bfr M M1 := ⟨fun c hc => h c (fun z => hc (List.mem_cons_of_mem _ (hL c z))), fun k _ => by rw [h 0 (fun z => by have := hL 0 z; simp at this)]⟩
theorem bfr_st {M : mM} {k : Nat} {v : Int32} (hk : 16 ≤ k) : bfr M (st M 0 k v) := ⟨fun c hc => st_ne _ _ _ (fun z => hc (by rw [z]; simp)), fun j hj => st_off _ _ (by omega)⟩
theorem mMk_bfr {L : List Mk} {p : Nat} {M M1 : mM} (h : mMk L p M) (hf : bfr M M1) : mMk L p M1 := by
  unfold mMk
  rw [hf.1 8 (by simp), hf.1 9 (by simp), hf.1 10 (by simp), hf.1 11 (by simp)]
  exact h
theorem iNeg {x : Int32} (h1 : -100 ≤ x.toInt) (h2 : x.toInt ≤ 100) : (-x).toInt = -x.toInt := by
  rw [Int32.toInt_neg]; exact bm32 (by omega) (by omega)
theorem eq_toInt {x y : Int32} (h : x.toInt = y.toInt) : x = y := Int32.toInt_inj.mp h
theorem add1I {x : Int32} {z : Int} (h : x.toInt = z) (h1 : -1000 ≤ z) (h2 : z ≤ 1000) : (x + 1).toInt = z + 1 := by
  have e : (1 : Int32).toInt = 1 := rfl
  rw [addI (by rw [e]; omega) (by rw [e]; omega), e, h]
theorem findBest_ok {n p q T : Nat} {L1 L2 : List Mk} {M0 : mM} {Q : mM → Prop} (hn : 100 ≤ n) (hp : p < 16) (hq16 : q < 16) (hT : T ≤ 3) (h4 : M0 0 4 = nI T) (h1 : mMk L1 p M0) (h2 : mMk L2 q M0) (l1 : L1.length ≤ 40) (l2 : L2.length ≤ 40) (k1 : ∀ m ∈ L1, mkOk m) (k2 : ∀ m ∈ L2, mkOk m) (hq : ∀ M1, bfr M0 M1 → BF L1 L2 T (M1 0 16) (M1 0 17) (M1 0 18) (M1 0 19) → Q M1) : wpX7_findBest n (nI p) (nI q) M0 Q := by
  -- one move
  have one : ∀ (R : Int32 → mM → Prop) (f t i j : Nat) (x5 x6 : Int32) (M : mM), f ≤ 16 → t < 4 → i < 17 → j < 17 → x5.toInt = (i : Int) - 8 → x6.toInt = (j : Int) - 8 → bfr M0 M → BW L1 L2 T (((f * 4 + t) * 289 + i * 17 + j : Nat) : Int) (M 0 16) (M 0 17) (M 0 18) (M 0 19) → (∀ M1, bfr M0 M1 → BW L1 L2 T (((f * 4 + t) * 289 + i * 17 + (j + 1) : Nat) : Int) (M1 0 16) (M1 0 17) (M1 0 18) (M1 0 19) → ∀ y : Int32, y = x6 + 1 → R y M1) → ∀ b : Bool, b = decide (ab x5.toInt + ab x6.toInt = (f : Int)) → wpX7_findBest_80 n R (nI p) (nI q) (nI f) (nI t) x5 x6 (b2i b) M := by
    intro R f t i j x5 x6 M hf ht hi hj e5 e6 hM hB hR b hb
    have er : (((f * 4 + t) * 289 + i * 17 + (j + 1) : Nat) : Int) = (((f * 4 + t) * 289 + i * 17 + j : Nat) : Int) + 1 := by omega
    rw [er] at hR
    have ho : mvOk t x5.toInt x6.toInt := by unfold mvOk; omega
    unfold wpX7_findBest_80
    refine br_b (fun z => ?_) (fun z => ?_)
    · rw [hb, decide_eq_false_iff_not] at z
      refine hR M hM (BW_skip hB (by omega) (fun t2 dx2 dy2 o2 hk => ?_))
      rcases Int.lt_or_le (rk t2 dx2 dy2) (((f * 4 + t) * 289 + i * 17 + j : Nat) : Int) with w | w
      · exact w
      · obtain ⟨B, eB⟩ : ∃ B, B = (f * 4 + t) * 289 + i * 17 := ⟨_, rfl⟩
        rw [← eB] at w hk
        obtain ⟨g1, g2, g3, g4⟩ := rk_slot (t := t) (i := i) (f := f) o2 ht hi eB (by omega) (by omega)
        have : dy2 = x6.toInt := by omega
        rw [g2, ← e5, this] at g3
        exact absurd g3 z
    · rw [hb, decide_eq_true_eq] at z
      have hrk : rk t x5.toInt x6.toInt = (((f * 4 + t) * 289 + i * 17 + j : Nat) : Int) := by rw [rk_at e5 z]; omega
      refine agree_ok (by omega) hp hq16 ht (by omega) (by omega) hT (by rw [hM.2 4 (by omega)]; exact h4) (mMk_bfr h1 hM) (mMk_bfr h2 hM) l1 l2 k1 k2 (fun M1 f1 ag1 => ?_)
      have b1 : bfr M0 M1 := hM.tr (bfr_fr f1 (by simp))
      have e01 : M1 0 = M 0 := f1 0 (by simp)
      have hB1 : BW L1 L2 T (((f * 4 + t) * 289 + i * 17 + j : Nat) : Int) (M1 0 16) (M1 0 17) (M1 0 18) (M1 0 19) := by rw [e01]; exact hB
      have cle := ct_le (fun i => anyk (fun j => agB T t x5.toInt x6.toInt (mget L1 i) (mget L2 j)) L2.length) L1.length
      refine br_d (fun w => hR M1 b1 (BW_low hB1 ho hrk (by omega) w (fun c0 hc0 => ?_))) (fun w => ?_)
      · exact max_left hc0 _ (fun u k hu hk hak => (anyk_iff _ _).mpr ⟨k, hk, hak⟩)
      · refine matched_ok hn hp hq16 l1 l2 (mMk_bfr h1 b1).1 (mMk_bfr h2 b1).1 ag1 (fun M2 c f2 hx => ?_)
        have b2 : bfr M0 M2 := b1.tr (bfr_fr f2 (by simp))
        have e02 : M2 0 = M1 0 := f2 0 (by simp)
        have hB2 : BW L1 L2 T (((f * 4 + t) * 289 + i * 17 + j : Nat) : Int) (M2 0 16) (M2 0 17) (M2 0 18) (M2 0 19) := by rw [e02]; exact hB1
        have hx : cntIs L1 L2 T t x5.toInt x6.toInt c := hx
        have c40 := cnt_40 l1 hx
        refine br_d (fun w2 => hR M2 b2 (BW_low hB2 ho hrk (by omega) w2 (fun c0 hc0 => by rw [IsMax_one hc0 hx]; exact Nat.le_refl _))) (fun w2 M3 e3 M4 e4 M5 e5' M6 e6' => ?_)
        refine hR M6 ?_ ?_
        · rw [e6', e5', e4, e3]
          exact (((b2.tr (bfr_st (by omega))).tr (bfr_st (by omega))).tr (bfr_st (by omega))).tr (bfr_st (by omega))
        · have g16 : M6 0 16 = nI c := by rw [e6', st_off _ _ (by decide), e5', st_off _ _ (by decide), e4, st_off _ _ (by decide), e3, st_at]
          have g17 : M6 0 17 = nI t := by rw [e6', st_off _ _ (by decide), e5', st_off _ _ (by decide), e4, st_at]
          have g18 : M6 0 18 = x5 := by rw [e6', st_off _ _ (by decide), e5', st_at]
          have g19 : M6 0 19 = x6 := by rw [e6', st_at]
          rw [g16, g17, g18, g19]
          exact BW_new hB2 ho hrk c40 w2 hx
  -- the test of |dx| + |dy|
  have tst : ∀ (R : Int32 → mM → Prop) (f t i j : Nat) (x5 x6 : Int32) (M : mM), f ≤ 16 → t < 4 → i < 17 → j < 17 → x5.toInt = (i : Int) - 8 → x6.toInt = (j : Int) - 8 → bfr M0 M → BW L1 L2 T (((f * 4 + t) * 289 + i * 17 + j : Nat) : Int) (M 0 16) (M 0 17) (M 0 18) (M 0 19) → (∀ M1, bfr M0 M1 → BW L1 L2 T (((f * 4 + t) * 289 + i * 17 + (j + 1) : Nat) : Int) (M1 0 16) (M1 0 17) (M1 0 18) (M1 0 19) → ∀ y : Int32, y = x6 + 1 → R y M1) → ((0 ≤ x5 → wpX7_findBest_57 n R (nI p) (nI q) (nI f) (nI t) x5 x6 x5 M) ∧ (¬ 0 ≤ x5 → wpX7_findBest_57 n R (nI p) (nI q) (nI f) (nI t) x5 x6 (-x5) M)) := by
    intro R f t i j x5 x6 M hf ht hi hj e5 e6 hM hB hR
    have z0 : (0 : Int32).toInt = 0 := rfl
    have a70 : ∀ s1 s0 : Int32, s1.toInt = ab x5.toInt → s0.toInt = ab x6.toInt → wpX7_findBest_70 n R (nI p) (nI q) (nI f) (nI t) x5 x6 s0 s1 M := fun s1 s0 i1 i0 => by
      have r5 : 0 ≤ ab x5.toInt ∧ ab x5.toInt ≤ 8 := by unfold ab; split <;> omega
      have r6 : 0 ≤ ab x6.toInt ∧ ab x6.toInt ≤ 8 := by unfold ab; split <;> omega
      have es : (s1 + s0).toInt = ab x5.toInt + ab x6.toInt := by rw [addI (by omega) (by omega), i1, i0]
      unfold wpX7_findBest_70
      by_cases w : ab x5.toInt + ab x6.toInt = (f : Int)
      · exact br_ni (eq_toInt (by rw [es, tI f (by omega), w])) (one R f t i j x5 x6 M hf ht hi hj e5 e6 hM hB hR true (by rw [decide_eq_true w]))
      · exact br_ne (fun v => w (by have e := congrArg Int32.toInt v; rw [es, tI f (by omega)] at e; exact e)) (one R f t i j x5 x6 M hf ht hi hj e5 e6 hM hB hR false (by rw [decide_eq_false w]))
    have a57 : ∀ s1 : Int32, s1.toInt = ab x5.toInt → wpX7_findBest_57 n R (nI p) (nI q) (nI f) (nI t) x5 x6 s1 M := fun s1 i1 => by
      unfold wpX7_findBest_57
      refine br_d (fun w => a70 s1 x6 i1 ?_) (fun w => a70 s1 (-x6) i1 ?_)
      · rw [i32_le, z0] at w; unfold ab; rw [if_neg (by omega)]
      · rw [i32_le, z0] at w; unfold ab; rw [if_pos (by omega), iNeg (by omega) (by omega)]
    refine br_d (fun w => a57 x5 ?_) (fun w => a57 (-x5) ?_)
    · rw [i32_le, z0] at w; unfold ab; rw [if_neg (by omega)]
    · rw [i32_le, z0] at w; unfold ab; rw [if_pos (by omega), iNeg (by omega) (by omega)]
  have i8 : (8 : Int32).toInt = 8 := rfl
  have l37 : ∀ (E : mM → Prop) (f t i : Nat) (x5 : Int32), f ≤ 16 → t < 4 → i < 17 → x5.toInt = (i : Int) - 8 → (∀ M1, bfr M0 M1 → BW L1 L2 T (((f * 4 + t) * 289 + (i + 1) * 17 : Nat) : Int) (M1 0 16) (M1 0 17) (M1 0 18) (M1 0 19) → E M1) → ∀ (k j : Nat) (x6 : Int32) (M : mM), j ≤ 17 → 17 < j + k → x6.toInt = (j : Int) - 8 → bfr M0 M → BW L1 L2 T (((f * 4 + t) * 289 + i * 17 + j : Nat) : Int) (M 0 16) (M 0 17) (M 0 18) (M 0 19) → wpX7_findBest_37 n E (nI p) (nI q) (nI f) (nI t) x5 k x6 M := by
    intro E f t i x5 hf ht hi e5 hE k
    induction k with
    | zero => intro j x6 M a1 a2; exact absurd a2 (by omega)
    | succ k ih =>
      intro j x6 M hj hjk e6 hM hB
      rw [wpX7_findBest_37]
      refine br_d (fun w => ?_) (fun w => ?_)
      · rw [i32_lt, i8] at w
        have : j = 17 := by omega
        subst this
        refine hE M hM ?_
        rw [show (f * 4 + t) * 289 + (i + 1) * 17 = (f * 4 + t) * 289 + i * 17 + 17 by omega]
        exact hB
      · rw [i32_lt, i8] at w
        exact tst _ f t i j x5 x6 M hf ht hi (by omega) e5 e6 hM hB (fun M1 b1 hB1 y ey => ih (j + 1) y M1 (by omega) (by omega) (by rw [ey, add1I e6 (by omega) (by omega)]; omega) b1 hB1)
  have l26 : ∀ (E : mM → Prop) (f t : Nat), f ≤ 16 → t < 4 → (∀ M1, bfr M0 M1 → BW L1 L2 T (((f * 4 + (t + 1)) * 289 : Nat) : Int) (M1 0 16) (M1 0 17) (M1 0 18) (M1 0 19) → E M1) → ∀ (k i : Nat) (x5 : Int32) (M : mM), i ≤ 17 → 17 < i + k → x5.toInt = (i : Int) - 8 → bfr M0 M → BW L1 L2 T (((f * 4 + t) * 289 + i * 17 : Nat) : Int) (M 0 16) (M 0 17) (M 0 18) (M 0 19) → wpX7_findBest_26 n E (nI p) (nI q) (nI f) (nI t) k x5 M := by
    intro E f t hf ht hE k
    induction k with
    | zero => intro i x5 M a1 a2; exact absurd a2 (by omega)
    | succ k ih =>
      intro i x5 M hi hik e5 hM hB
      rw [wpX7_findBest_26]
      refine br_d (fun w => ?_) (fun w => ?_)
      · rw [i32_lt, i8] at w
        have : i = 17 := by omega
        subst this
        refine hE M hM ?_
        rw [show (f * 4 + (t + 1)) * 289 = (f * 4 + t) * 289 + 17 * 17 by omega]
        exact hB
      · rw [i32_lt, i8] at w
        refine l37 _ f t i x5 hf ht (by omega) e5 (fun M1 b1 hB1 y ey => ih (i + 1) y M1 (by omega) (by omega) (by rw [ey, add1I e5 (by omega) (by omega)]; omega) b1 hB1) n 0 (-8) M (by omega) (by omega) (by decide) hM (by rw [Nat.add_zero]; exact hB)
  have l16 : ∀ (E : mM → Prop) (f : Nat), f ≤ 16 → (∀ M1, bfr M0 M1 → BW L1 L2 T (((f + 1) * 4 * 289 : Nat) : Int) (M1 0 16) (M1 0 17) (M1 0 18) (M1 0 19) → E M1) → ∀ (k t : Nat) (M : mM), t ≤ 4 → 4 < t + k → bfr M0 M → BW L1 L2 T (((f * 4 + t) * 289 : Nat) : Int) (M 0 16) (M 0 17) (M 0 18) (M 0 19) → wpX7_findBest_16 n E (nI p) (nI q) (nI f) k (nI t) M := by
    intro E f hf hE k
    induction k with
    | zero => intro t M a1 a2; exact absurd a2 (by omega)
    | succ k ih =>
      intro t M ht htk hM hB
      rw [wpX7_findBest_16]
      refine pk_le 4 t (fun w => ?_) (fun w => ?_)
      · have : t = 4 := by omega
        subst this
        refine hE M hM ?_
        rw [show (f + 1) * 4 * 289 = (f * 4 + 4) * 289 by omega]
        exact hB
      · refine l26 _ f t hf w (fun M1 b1 hB1 y ey => by rw [ey, nI_1]; exact ih (t + 1) M1 (by omega) (by omega) b1 hB1) n 0 (-8) M (by omega) (by omega) (by decide) hM ?_
        rw [show (f * 4 + t) * 289 + 0 * 17 = (f * 4 + t) * 289 by omega]
        exact hB
  have l7 : ∀ (k f : Nat) (M : mM), f ≤ 17 → 17 < f + k → bfr M0 M → BW L1 L2 T ((f * 4 * 289 : Nat) : Int) (M 0 16) (M 0 17) (M 0 18) (M 0 19) → wpX7_findBest_7 n Q (nI p) (nI q) k (nI f) M := by
    intro k
    induction k with
    | zero => intro f M a1 a2; exact absurd a2 (by omega)
    | succ k ih =>
      intro f M hf hfk hM hB
      rw [wpX7_findBest_7]
      refine pk_lt 16 f (fun w => ?_) (fun w => ?_)
      · have : f = 17 := by omega
        subst this
        exact hq M hM (BW_end hB (fun t2 dx2 dy2 o2 => by have := rk_max o2; omega))
      · refine l16 _ f w (fun M1 b1 hB1 y ey => by rw [ey, nI_1]; exact ih (f + 1) M1 (by omega) (by omega) b1 hB1) n 0 M (by omega) (by omega) hM ?_
        rw [show (f * 4 + 0) * 289 = f * 4 * 289 by omega]
        exact hB
  unfold wpX7_findBest
  intro M1 e1
  refine l7 n 0 M1 (by omega) (by omega) (by rw [e1]; exact bfr_st (by omega)) (Or.inl ⟨by rw [e1, st_at], fun t2 dx2 dy2 o2 => ?_⟩)
  have := rk_min o2
  omega
