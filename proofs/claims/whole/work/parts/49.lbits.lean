/-! PURE PART: sets of marks as the bits of a long -/
theorem lb_ext {x y : Int64} (h : ∀ i, i < 64 → lb x i = lb y i) : x = y := Int64.toBitVec_inj.mp (BitVec.eq_of_getLsbD_eq (fun i hi => h i hi))
theorem lb_or (x y : Int64) (i : Nat) : lb (x ||| y) i = (lb x i || lb y i) := by unfold lb; rw [Int64.toBitVec_or, BitVec.getLsbD_or]
theorem lb_and (x y : Int64) (i : Nat) : lb (x &&& y) i = (lb x i && lb y i) := by unfold lb; rw [Int64.toBitVec_and, BitVec.getLsbD_and]
theorem lb_xor (x y : Int64) (i : Nat) : lb (x ^^^ y) i = (lb x i ^^ lb y i) := by unfold lb; rw [Int64.toBitVec_xor, BitVec.getLsbD_xor]
theorem lb_big {x : Int64} {i : Nat} (h : 64 ≤ i) : lb x i = false := BitVec.getLsbD_of_ge _ _ h
theorem lb_m1 : ∀ i, i < 64 → lb (-1) i = true := by decide +kernel
theorem lb_0 (i : Nat) : lb 0 i = false := BitVec.getLsbD_zero
theorem lb_bit : ∀ j, j < 40 → ∀ i, i < 64 → lb (1 <<< ((nI j).toInt64 &&& 63)) i = decide (i = j) := by decide +kernel
theorem lb_not (x : Int64) {i : Nat} (hi : i < 64) : lb (x ^^^ (-1)) i = !lb x i := by rw [lb_xor, lb_m1 i hi]; cases lb x i <;> rfl
theorem lb_u (x : Int64) (i : Nat) : lb x i = (u64 x).testBit i := rfl
theorem sub1_bits : ∀ (j X i : Nat), X.testBit j = true → (∀ k, k < j → X.testBit k = false) → (X - 1).testBit i = if i < j then true else if i = j then false else X.testBit i := by
  intro j
  induction j with
  | zero =>
    intro X i h _
    rw [Nat.testBit_zero] at h
    have h := of_decide_eq_true h
    cases i with
    | zero => rw [if_neg (by omega), if_pos rfl, Nat.testBit_zero, decide_eq_false (by omega)]
    | succ i => rw [if_neg (by omega), if_neg (by omega), Nat.testBit_add_one, Nat.testBit_add_one, show (X - 1) / 2 = X / 2 by omega]
  | succ j ih =>
    intro X i h hl
    have h0 := hl 0 (by omega)
    rw [Nat.testBit_zero] at h0
    have h0 := of_decide_eq_false h0
    rw [Nat.testBit_add_one] at h
    have hX : X / 2 ≠ 0 := fun z => by rw [z, Nat.zero_testBit] at h; cases h
    cases i with
    | zero => rw [if_pos (by omega), Nat.testBit_zero, decide_eq_true (by omega)]
    | succ i =>
      rw [Nat.testBit_add_one, show (X - 1) / 2 = X / 2 - 1 by omega, ih (X / 2) i h (fun k hk => by rw [← Nat.testBit_add_one]; exact hl (k + 1) (by omega)), Nat.testBit_add_one]
      by_cases a : i < j
      · rw [if_pos a, if_pos (by omega)]
      · by_cases b : i = j
        · rw [if_neg a, if_pos b, if_neg (by omega), if_pos (by omega)]
        · rw [if_neg a, if_neg b, if_neg (by omega), if_neg (by omega)]
theorem u_pos {x : Int64} {j : Nat} (hj : lb x j = true) : 1 ≤ u64 x := by
  rcases Nat.eq_zero_or_pos (u64 x) with z | z
  · rw [lb_u, z, Nat.zero_testBit] at hj; cases hj
  · exact z
theorem l_sub1 {x : Int64} {j : Nat} (hj : lb x j = true) (hl : ∀ k, k < j → lb x k = false) (i : Nat) : lb (x - 1) i = if i < j then true else if i = j then false else lb x i := by
  have h1 : u64 (1 : Int64) ≤ u64 x := u_pos hj
  rw [lb_u, u64_sub h1]
  exact sub1_bits j (u64 x) i hj hl
theorem l_neg {x : Int64} {j : Nat} (hj : lb x j = true) {i : Nat} (hi : i < 64) : lb (-x) i = !lb (x - 1) i := by
  have h1 : u64 (1 : Int64) ≤ u64 x := u_pos hj
  have h0 : u64 (1 : Int64) = 1 := rfl
  have h2 := u64_lt x
  have e : u64 (-x) = 2 ^ 64 - ((u64 x - 1) + 1) := by
    unfold u64 at h1 h2 ⊢
    rw [Int64.toBitVec_neg, BitVec.toNat_neg, Nat.mod_eq_of_lt (by have : (1 : Int64).toBitVec.toNat = 1 := rfl; omega)]
    have : (1 : Int64).toBitVec.toNat = 1 := rfl
    omega
  rw [lb_u, e, Nat.testBit_two_pow_sub_succ (by omega), decide_eq_true hi, Bool.true_and, lb_u, u64_sub h1, h0]
theorem l_low {x : Int64} {j : Nat} (hj : lb x j = true) (hl : ∀ k, k < j → lb x k = false) {i : Nat} (hi : i < 64) : lb (x &&& (-x)) i = decide (i = j) := by
  rw [lb_and, l_neg hj hi, l_sub1 hj hl]
  by_cases a : i < j
  · rw [hl i a, decide_eq_false (by omega)]; rfl
  · by_cases b : i = j
    · rw [if_neg a, if_pos b, b, hj, decide_eq_true rfl]; rfl
    · rw [if_neg a, if_neg b, decide_eq_false b]; cases lb x i <;> rfl
theorem l_drop {x : Int64} {j : Nat} (hj : lb x j = true) (hl : ∀ k, k < j → lb x k = false) (i : Nat) : lb (x &&& (x - 1)) i = (lb x i && decide (i ≠ j)) := by
  rw [lb_and, l_sub1 hj hl]
  by_cases a : i < j
  · rw [hl i a]; rfl
  · by_cases b : i = j
    · rw [if_neg a, if_pos b, decide_eq_false (fun z => z b)]
    · rw [if_neg a, if_neg b, decide_eq_true b]; cases lb x i <;> rfl
theorem ct_dlt (j : Nat) : ∀ n, j ≤ n → ct (fun i => decide (i < j)) n = j
  | 0, h => by have : j = 0 := by omega
               subst this; rfl
  | n + 1, h => by
    rw [ct]
    by_cases z : j = n + 1
    · have e : ct (fun i => decide (i < j)) n = ct (fun _ => true) n := ct_cong (fun k hk => decide_eq_true (by omega))
      rw [e, ct_all, decide_eq_true (show n < j by omega), z]; rfl
    · rw [ct_dlt j n (by omega), decide_eq_false (show ¬ n < j by omega)]; rfl
theorem lowest_ok {n : Nat} {x : Int64} {j : Nat} {C : cM} {Q : Int32 → cM → Prop} (hj : lb x j = true) (hl : ∀ k, k < j → lb x k = false) (h40 : j < 40) (hq : Q (nI j) C) : wpX2_lowest n x C Q := by
  unfold wpX2_lowest
  have y1 : lb (x &&& (-x)) j = true := by rw [l_low hj hl (by omega), decide_eq_true rfl]
  have y2 : ∀ k, k < j → lb (x &&& (-x)) k = false := fun k hk => by rw [l_low hj hl (by omega), decide_eq_false (by omega)]
  have e : ct (lb ((x &&& (-x)) - 1)) 64 = j := by
    have e2 : ct (lb ((x &&& (-x)) - 1)) 64 = ct (fun i => decide (i < j)) 64 := ct_cong (fun k hk => by
      rw [l_sub1 y1 y2]
      by_cases a : k < j
      · rw [if_pos a, decide_eq_true a]
      · by_cases b : k = j
        · rw [if_neg a, if_pos b, decide_eq_false a]
        · rw [if_neg a, if_neg b, l_low hj hl hk, decide_eq_false b, decide_eq_false a])
    rw [e2, ct_dlt j 64 (by omega)]
  refine lbitCount_ok ?_
  rw [e]
  have e3 : imin (nI j) 39 = nI j := if_neg (fun z => by
    rw [i32_lt, tI j (by omega)] at z
    have z : (39 : Int) < j := z
    omega)
  rw [e3]
  exact hq
theorem low_ex {x : Int64} (h : ¬ x = 0) : ∃ j, j < 64 ∧ lb x j = true ∧ ∀ k, k < j → lb x k = false := by
  have hx : ∃ k, lb x k = true := Classical.byContradiction (fun z => h (lb_ext (fun i _ => by
    rw [lb_0]
    cases w : lb x i with
    | false => rfl
    | true => exact absurd ⟨i, w⟩ z)))
  obtain ⟨k, hk, hl⟩ := pk_least (fun k => lb x k = true) hx
  have h64 : k < 64 := by
    rcases Nat.lt_or_ge k 64 with z | z
    · exact z
    · rw [lb_big z] at hk; cases hk
  refine ⟨k, h64, hk, fun i hi => ?_⟩
  cases w : lb x i with
  | false => rfl
  | true => exact absurd w (hl i hi)
theorem ne0_of {x : Int64} {j : Nat} (h : lb x j = true) : ¬ x = 0 := fun z => by rw [z, lb_0] at h; cases h
/-- what is left as it was: ints but of the cells I, longs but of the cells J -/
def cfx (I J : List Nat) (C C1 : cM) : Prop := (∀ i, i ∉ I → cI C1 i = cI C i) ∧ (∀ i, i ∉ J → cL C1 i = cL C i) ∧ cN C1 = cN C ∧ cE C1 = cE C
theorem cfx.rf (I J : List Nat) (C : cM) : cfx I J C C := ⟨fun _ _ => rfl, fun _ _ => rfl, rfl, rfl⟩
theorem cfx.tr {I J : List Nat} {A B C : cM} (h1 : cfx I J A B) (h2 : cfx I J B C) : cfx I J A C := ⟨fun c hc => (h2.1 c hc).trans (h1.1 c hc), fun c hc => (h2.2.1 c hc).trans (h1.2.1 c hc), h2.2.2.1.trans h1.2.2.1, h2.2.2.2.trans h1.2.2.2⟩
theorem cfx.mono {I J I' J' : List Nat} {A B : cM} (h : cfx I J A B) (hi : ∀ c, c ∈ I → c ∈ I') (hj : ∀ c, c ∈ J → c ∈ J') : cfx I' J' A B := ⟨fun c hc => h.1 c (fun z => hc (hi c z)), fun c hc => h.2.1 c (fun z => hc (hj c z)), h.2.2⟩
theorem cfx.st {I J : List Nat} {C : cM} {i k : Nat} {v : Int32} (h : i ∈ I) : cfx I J C (cst C i k v) := ⟨fun d hd => cI_ne C k v (fun z => hd (z ▸ h)), fun _ _ => rfl, rfl, rfl⟩
theorem cfx.sl {I J : List Nat} {C : cM} {i k : Nat} {v : Int64} (h : i ∈ J) : cfx I J C (cstL C i k v) := ⟨fun _ _ => rfl, fun d hd => cL_ne C k v (fun z => hd (z ▸ h)), rfl, rfl⟩
theorem cfx.bk {I J : List Nat} {A B : cM} {b : Nat} (h : cfx I J A B) (hb : bok A b) : bok B b := by unfold bok; rw [h.2.2.1]; exact hb
theorem cfx.tk {I J : List Nat} {A B : cM} {b : Nat} (h : cfx I J A B) (hb : tok A b) : tok B b := by unfold tok; rw [h.2.2.2]; exact hb
theorem cstL_at (C : cM) (i k : Nat) (v : Int64) : cL (cstL C i k v) i k = v := by rw [cL_st]; simp [vp_updL]
theorem cstL_off (C : cM) {i k j : Nat} (v : Int64) (h : j ≠ k) : cL (cstL C i k v) i j = cL C i j := by rw [cL_st]; simp [vp_updL, h]
theorem cstL_I (C : cM) (i k : Nat) (v : Int64) : cI (cstL C i k v) = cI C := rfl
theorem cst_L (C : cM) (i k : Nat) (v : Int32) : cL (cst C i k v) = cL C := rfl
theorem cMk_fx {L : List Mk} {b : Nat} {C C1 : cM} {I J : List Nat} (h : cMk L b C) (hf : cfx I J C C1) (hI : ∀ i, i ∈ I → i < 64) : cMk L b C1 := by
  unfold cMk
  rw [hf.1 _ (fun z => by have := hI _ z; omega), hf.1 _ (fun z => by have := hI _ z; omega), hf.1 _ (fun z => by have := hI _ z; omega), hf.1 _ (fun z => by have := hI _ z; omega)]
  exact h
theorem lclear_ok {n x0 N : Nat} {C : cM} {Q : cM → Prop} (hn : 50 ≤ n) (hx : lar x0) (hN : llen x0 = N) (hN40 : N ≤ 40) (hq : ∀ C1, cfx [] [x0] C C1 → (∀ k, k < N → cL C1 x0 k = 0) → Q C1) : wpX2_clear n x0 C Q := by
  have loop : ∀ (k j : Nat) (C1 : cM), j ≤ N → N < j + k → cfx [] [x0] C C1 → (∀ l, l < j → cL C1 x0 l = 0) → wpX2_clear_2 n Q x0 k (nI j) C1 := by
    intro k
    induction k with
    | zero => intro j C1 h1 h2; exact absurd h2 (by omega)
    | succ k ih =>
      intro j C1 h1 h2 hf hl
      rw [wpX2_clear_2, hN]
      refine ⟨hx, pk_le N j (fun z => ?_) (fun z => ?_)⟩
      · have e : j = N := by omega
        subst e
        exact hq C1 hf hl
      · refine ⟨pk_in j N z, fun C2 e2 c ec => ?_⟩
        rw [cl_nI (by omega)] at e2
        rw [ec, nI_1]
        refine ih (j + 1) C2 (by omega) (by omega) (by rw [e2]; exact hf.tr (cfx.sl (by simp))) (fun l h => ?_)
        rw [e2]
        by_cases zz : l = j
        · rw [zz, cstL_at]
        · rw [cstL_off _ _ zz]; exact hl l (by omega)
  unfold wpX2_clear
  exact loop n 0 C (by omega) (by omega) (cfx.rf _ _ _) (fun l h => absurd h (by omega))
/-- the marks of the first, turned -/
def turnd (L1 : List Mk) (C : cM) : Prop := ∀ i, i < L1.length → ∀ t, t < 4 → (cI C 20 (40 * t + i)).toInt = (rot t (((mget L1 i).1 : Int), ((mget L1 i).2.1 : Int))).1 ∧ (cI C 21 (40 * t + i)).toInt = (rot t (((mget L1 i).1 : Int), ((mget L1 i).2.1 : Int))).2 ∧ cI C 22 (40 * t + i) = nI (srt t (mget L1 i).2.2)
theorem dnext : ∀ s, s < 8 → ((nI s + 2) &&& 7) = nI ((s + 2) % 8) := by decide +kernel
theorem rot_succ (t : Nat) (p : Int × Int) : rot (t + 1) p = (23 - (rot t p).2, (rot t p).1) := by
  induction t generalizing p with
  | zero => rfl
  | succ t ih => rw [rot, ih (23 - p.2, p.1)]; rfl
theorem srt_succ {t s : Nat} (hs : s ≤ 8) : srt (t + 1) s = if srt t s = 8 then 8 else (srt t s + 2) % 8 := by
  unfold srt
  by_cases z : s = 8
  · rw [if_pos z, if_pos z, if_pos rfl]
  · rw [if_neg z, if_neg z, if_neg (by omega)]; omega
theorem turn36_ok {n b i : Nat} {m : Mk} {C0 : cM} {E : cM → Prop} (hi : i < 40) (hm : mkOk m) (hE : ∀ C1, cfx [20, 21, 22] [] C0 C1 → (∀ t, t < 4 → (cI C1 20 (40 * t + i)).toInt = (rot t ((m.1 : Int), (m.2.1 : Int))).1 ∧ (cI C1 21 (40 * t + i)).toInt = (rot t ((m.1 : Int), (m.2.1 : Int))).2 ∧ cI C1 22 (40 * t + i) = nI (srt t m.2.2)) → (∀ j, j % 40 ≠ i → cI C1 20 j = cI C0 20 j ∧ cI C1 21 j = cI C0 21 j ∧ cI C1 22 j = cI C0 22 j) → E C1) : ∀ (k t : Nat) (x y : Int32) (C : cM), t ≤ 4 → 4 < t + k → x.toInt = (rot t ((m.1 : Int), (m.2.1 : Int))).1 → y.toInt = (rot t ((m.1 : Int), (m.2.1 : Int))).2 → cfx [20, 21, 22] [] C0 C → (∀ t2, t2 < t → (cI C 20 (40 * t2 + i)).toInt = (rot t2 ((m.1 : Int), (m.2.1 : Int))).1 ∧ (cI C 21 (40 * t2 + i)).toInt = (rot t2 ((m.1 : Int), (m.2.1 : Int))).2 ∧ cI C 22 (40 * t2 + i) = nI (srt t2 m.2.2)) → (∀ j, j % 40 ≠ i → cI C 20 j = cI C0 20 j ∧ cI C 21 j = cI C0 21 j ∧ cI C 22 j = cI C0 22 j) → wpX2_turnMarks_36 n E b (nI i) k x y (nI (srt t m.2.2)) (nI t) C := by
  obtain ⟨ok1, ok2, ok3, ok4, ok5⟩ := hm
  intro k
  induction k with
  | zero => intro t x y C h1 h2; exact absurd h2 (by omega)
  | succ k ih =>
    intro t x y C ht htk hx hy hf hd ho
    rw [wpX2_turnMarks_36]
    refine pk_le 4 t (fun z => ?_) (fun z => ?_)
    · have e : t = 4 := by omega
      subst e
      exact hE C hf hd ho
    · intro x7 e7 
      have e7b : x7 = nI (40 * t + i) := by rw [e7, show (40 : Int32) = nI 40 from rfl, pk_mul, nI_add, Nat.mul_comm]
      rw [e7b, cl_nI (by omega)]
      refine ⟨pk_in (40 * t + i) 160 (by omega), fun C1 e1 C2 e2 C3 e3 x3 ex3 => ?_⟩
      have rr := rot_rng t ((m.1 : Int), (m.2.1 : Int)) (by show (0 : Int) ≤ (m.1 : Int) ∧ (m.1 : Int) ≤ 23 ∧ (0 : Int) ≤ (m.2.1 : Int) ∧ (m.2.1 : Int) ≤ 23; omega)
      have ix3 : x3.toInt = 23 - y.toInt := by rw [ex3, sub23 (by rw [hy]; omega) (by rw [hy]; omega)]
      have s8 := srt_le (t := t) ok5
      have f3 : cfx [20, 21, 22] [] C0 C3 := by rw [e3, e2, e1]; exact ((hf.tr (cfx.st (by simp))).tr (cfx.st (by simp))).tr (cfx.st (by simp))
      have g20 : ∀ j, cI C3 20 j = if j = 40 * t + i then x else cI C 20 j := fun j => by
        rw [e3, cI_ne _ _ _ (by decide), e2, cI_ne _ _ _ (by decide), e1, cI_st]; rfl
      have g21 : ∀ j, cI C3 21 j = if j = 40 * t + i then y else cI C 21 j := fun j => by
        rw [e3, cI_ne _ _ _ (by decide), e2, cI_st, e1]; unfold upd; rw [cI_ne _ _ _ (by decide)]
      have g22 : ∀ j, cI C3 22 j = if j = 40 * t + i then nI (srt t m.2.2) else cI C 22 j := fun j => by
        rw [e3, cI_st]; unfold upd; rw [e2, cI_ne _ _ _ (by decide), e1, cI_ne _ _ _ (by decide)]
      have go : wpX2_turnMarks_109 n (wpX2_turnMarks_36 n E b (nI i) k) b (nI i) x3 x (nI t) (nI (srt (t + 1) m.2.2)) C3 := by
        unfold wpX2_turnMarks_109
        intro c ec
        rw [ec, nI_1]
        refine ih (t + 1) x3 x C3 (by omega) (by omega) (by rw [ix3, hy, rot_succ]) (by rw [hx, rot_succ]) f3 (fun t2 h2 => ?_) (fun j hj => ?_)
        · rw [g20, g21, g22]
          by_cases zz : t2 = t
          · subst zz
            rw [if_pos rfl, if_pos rfl, if_pos rfl]
            exact ⟨hx, hy, rfl⟩
          · rw [if_neg (by omega), if_neg (by omega), if_neg (by omega)]
            exact hd t2 (by omega)
        · rw [g20, g21, g22, if_neg (by omega), if_neg (by omega), if_neg (by omega)]
          exact ho j hj
      rw [srt_succ ok5] at go
      by_cases z8 : srt t m.2.2 = 8
      · rw [if_pos z8] at go
        exact br_ni (by rw [z8]; rfl) go
      · rw [if_neg z8] at go
        refine br_ne (fun w => z8 (nI_inj (b := 8) (by omega) (by omega) w)) ?_
        rw [dnext _ (by omega)]
        exact go
theorem turnMarks_ok {n b : Nat} {L1 : List Mk} {C : cM} {Q : cM → Prop} (hn : 50 ≤ n) (hb : bok C b) (hm : cMk L1 b C) (l1 : L1.length ≤ 40) (k1 : ∀ m ∈ L1, mkOk m) (h11 : cI C 4 11 = nI L1.length) (hq : ∀ C1, cfx [20, 21, 22] [] C C1 → turnd L1 C1 → Q C1) : wpX2_turnMarks n b C Q := by
  have loop : ∀ (k i : Nat) (C1 : cM), i ≤ L1.length → L1.length < i + k → cfx [20, 21, 22] [] C C1 → (∀ j, j < i → ∀ t, t < 4 → (cI C1 20 (40 * t + j)).toInt = (rot t (((mget L1 j).1 : Int), ((mget L1 j).2.1 : Int))).1 ∧ (cI C1 21 (40 * t + j)).toInt = (rot t (((mget L1 j).1 : Int), ((mget L1 j).2.1 : Int))).2 ∧ cI C1 22 (40 * t + j) = nI (srt t (mget L1 j).2.2)) → wpX2_turnMarks_2 n Q b k (nI i) C1 := by
    intro k
    induction k with
    | zero => intro i C1 h1 h2; exact absurd h2 (by omega)
    | succ k ih =>
      intro i C1 hi hik hf hd
      rw [wpX2_turnMarks_2, hf.1 4 (by simp), h11]
      refine pk_le L1.length i (fun z => ?_) (fun z => ⟨hf.bk hb, pk_in i 40 (by omega), ?_⟩)
      · have e : i = L1.length := by omega
        subst e
        exact hq C1 hf hd
      · have m1 := cMk_fx hm hf (by simp)
        obtain ⟨e3, e4, e5⟩ := m1.2.2 i z
        rw [Nat.zero_add] at e3 e4 e5
        obtain ⟨ok1, ok2, ok3, ok4, ok5⟩ := mget_ok k1 i
        rw [cl_nI (by omega), e3, e4, e5]
        intro x3 ex3 x4 ex4 x5 ex5
        have es : srt 0 (mget L1 i).2.2 = (mget L1 i).2.2 := by unfold srt; split <;> omega
        rw [ex5, ← es]
        refine turn36_ok (C0 := C1) (by omega) (mget_ok k1 i) (fun C2 f2 d2 o2 c ec => ?_) n 0 x3 x4 C1 (by omega) (by omega) (by rw [ex3, tI _ (by omega)]; rfl) (by rw [ex4, tI _ (by omega)]; rfl) (cfx.rf _ _ _) (fun t2 h2 => absurd h2 (by omega)) (fun j _ => ⟨rfl, rfl, rfl⟩)
        rw [ec, nI_1]
        refine ih (i + 1) C2 (by omega) (by omega) (hf.tr f2) (fun j hj t ht => ?_)
        by_cases zz : j = i
        · subst zz; exact d2 t ht
        · obtain ⟨q1, q2, q3⟩ := o2 (40 * t + j) (by omega)
          rw [q1, q2, q3]
          exact hd j (by omega) t ht
  unfold wpX2_turnMarks
  exact loop n 0 C (by omega) (by omega) (cfx.rf _ _ _) (fun j hj => absurd hj (by omega))
theorem setAround_ok {n x0 p T : Nat} {v : Int64} {C : cM} {Q : cM → Prop} (hn : 50 ≤ n) (hx : x0 = 23 ∨ x0 = 24) (hp1 : 1 ≤ p) (hp2 : p ≤ 22) (hT : T ≤ 3) (hq : ∀ C1, cfx [] [x0] C C1 → (∀ k, cL C1 x0 k = if p + 8 ≤ k + T ∧ k ≤ p + T + 8 then cL C x0 k ||| v else cL C x0 k) → Q C1) : wpX2_setAround n x0 (nI p) (nI T) v C Q := by
  have hlar : lar x0 := by rcases hx with z | z <;> simp [lar, z]
  have hlen : llen x0 = 40 := by rcases hx with z | z <;> rw [z] <;> rfl
  have loop : ∀ (k j : Nat) (C1 : cM), p + 8 ≤ j + T → j ≤ p + T + 9 → p + T + 9 < j + k → cfx [] [x0] C C1 → (∀ l, cL C1 x0 l = if p + 8 ≤ l + T ∧ l < j then cL C x0 l ||| v else cL C x0 l) → wpX2_setAround_8 n Q x0 (nI p) (nI T) v k (nI j) C1 := by
    intro k
    induction k with
    | zero => intro j C1 h0 h1 h2; exact absurd h2 (by omega)
    | succ k ih =>
      intro j C1 h0 h1 h2 hf hl
      rw [wpX2_setAround_8, nI_add, show (8 : Int32) = nI 8 from rfl, nI_add, hlen]
      refine pk_lt (p + T + 8) j (fun z => ?_) (fun z => ?_)
      · have e : j = p + T + 9 := by omega
        subst e
        refine hq C1 hf (fun l => ?_)
        rw [hl l]
        by_cases q : p + 8 ≤ l + T ∧ l < p + T + 9
        · rw [if_pos q, if_pos (by omega)]
        · rw [if_neg q, if_neg (by omega)]
      · refine br_e (by rw [i32_lt, tI j (by omega)]; show ¬ (j : Int) < 0; omega) ⟨hlar, pk_le 40 j (fun q => absurd q (by omega)) (fun _ => ⟨pk_in j 40 (by omega), fun C2 e2 c ec => ?_⟩)⟩
        rw [cl_nI (by omega)] at e2
        rw [ec, nI_1]
        refine ih (j + 1) C2 (by omega) (by omega) (by omega) (by rw [e2]; exact hf.tr (cfx.sl (by simp))) (fun l => ?_)
        rw [e2]
        by_cases zz : l = j
        · subst zz
          rw [cstL_at, hl l, if_neg (by omega), if_pos (by omega)]
        · rw [cstL_off _ _ zz, hl l]
          by_cases q : p + 8 ≤ l + T ∧ l < j
          · rw [if_pos q, if_pos (by omega)]
          · rw [if_neg q, if_neg (by omega)]
  unfold wpX2_setAround
  intro x5 e5
  rw [e5]
  rcases Nat.lt_or_ge p T with z | z
  · -- the first place lies off the board
    have e : (nI p - nI T) + 8 = nI (p + 8 - T) := by
      refine i32_is ?_ (by omega)
      have e8 : (8 : Int32).toInt = 8 := rfl
      have e1 : (nI p - nI T).toInt = (p : Int) - T := by rw [subI (by rw [tI p (by omega), tI T (by omega)]; omega) (by rw [tI p (by omega), tI T (by omega)]; omega), tI p (by omega), tI T (by omega)]
      rw [addI (by rw [e1, e8]; omega) (by rw [e1, e8]; omega), e1, e8]; omega
    rw [e]
    exact loop n (p + 8 - T) C (by omega) (by omega) (by omega) (cfx.rf _ _ _) (fun l => by rw [if_neg (by omega)])
  · rw [pk_sub z, show (8 : Int32) = nI 8 from rfl, nI_add]
    exact loop n (p - T + 8) C (by omega) (by omega) (by omega) (cfx.rf _ _ _) (fun l => by rw [if_neg (by omega)])
theorem dasd : ∀ s, s < 8 → ∀ j, j < 3 → ((nI s + (nI j - 1)) &&& 7) = nI ((s + 7 + j) % 8) := by decide +kernel
theorem dsam : ∀ s, s < 8 → ∀ d, d < 9 → samB d s = (decide (d = (s + 7) % 8) || decide (d = (s + 8) % 8) || decide (d = (s + 9) % 8)) := by decide +kernel
theorem m1_nI : (-1 : Int32) = nI 0 - 1 := by decide
theorem one3 : (1 : Int32) = nI 2 - 1 := by decide
theorem nxt1 : ∀ j, j < 3 → (nI j - 1 : Int32) + 1 = nI (j + 1) - 1 := by decide +kernel
theorem lt1 : ∀ j, j < 4 → ((1 : Int32) < nI j - 1 ↔ j = 3) := by decide +kernel
theorem setAlike_ok {n s : Nat} {v : Int64} {C : cM} {Q : cM → Prop} (hn : 50 ≤ n) (hs : s ≤ 8) (hq : ∀ C1, cfx [] [25] C C1 → (∀ d, d < 9 → cL C1 25 d = if samB d s = true then cL C 25 d ||| v else cL C 25 d) → Q C1) : wpX2_setAlike n (nI s) v C Q := by
  unfold wpX2_setAlike
  by_cases z8 : s = 8
  · subst z8
    refine br_ni rfl (fun C1 e1 => hq C1 (by rw [e1]; exact cfx.sl (by simp)) (fun d hd => ?_))
    rw [e1]
    have e : samB d 8 = decide (d = 8) := by unfold samB; rw [if_pos (Or.inr rfl)]
    rw [e]
    by_cases z : d = 8
    · subst z; rw [cstL_at, if_pos (decide_eq_true rfl)]
    · rw [cstL_off _ _ z, if_neg (by rw [decide_eq_true_eq]; exact z)]
  · refine br_ne (fun w => z8 (nI_inj (b := 8) (by omega) (by omega) w)) ?_
    have loop : ∀ (k j : Nat) (C1 : cM), j ≤ 3 → 3 < j + k → cfx [] [25] C C1 → (∀ d, d < 9 → cL C1 25 d = if (∃ i, i < j ∧ d = (s + 7 + i) % 8) then cL C 25 d ||| v else cL C 25 d) → wpX2_setAlike_21 n Q (nI s) v k (nI j - 1) C1 := by
      intro k
      induction k with
      | zero => intro j C1 h1 h2; exact absurd h2 (by omega)
      | succ k ih =>
        intro j C1 hj hjk hf hl
        rw [wpX2_setAlike_21]
        by_cases z : j = 3
        · refine br_i ((lt1 j (by omega)).mpr z) (hq C1 hf (fun d hd => ?_))
          rw [hl d hd, dsam s (by omega) d hd]
          by_cases q : ∃ i, i < j ∧ d = (s + 7 + i) % 8
          · rw [if_pos q, if_pos]
            obtain ⟨i, i1, i2⟩ := q
            rw [Bool.or_eq_true, Bool.or_eq_true, decide_eq_true_eq, decide_eq_true_eq, decide_eq_true_eq]
            rcases (show i = 0 ∨ i = 1 ∨ i = 2 by omega) with w | w | w <;> subst w <;> omega
          · rw [if_neg q, if_neg]
            intro w
            rw [Bool.or_eq_true, Bool.or_eq_true, decide_eq_true_eq, decide_eq_true_eq, decide_eq_true_eq] at w
            rcases w with (w | w) | w
            · exact q ⟨0, by omega, w⟩
            · exact q ⟨1, by omega, w⟩
            · exact q ⟨2, by omega, w⟩
        · refine br_e (fun w => z ((lt1 j (by omega)).mp w)) ?_
          rw [dasd s (by omega) j (by omega)]
          refine ⟨pk_in ((s + 7 + j) % 8) 9 (by omega), fun C2 e2 c ec => ?_⟩
          rw [cl_nI (by omega)] at e2
          rw [ec, nxt1 j (by omega)]
          refine ih (j + 1) C2 (by omega) (by omega) (by rw [e2]; exact hf.tr (cfx.sl (by simp))) (fun d hd => ?_)
          rw [e2]
          by_cases zz : d = (s + 7 + j) % 8
          · rw [zz, cstL_at, hl _ (by omega), if_neg (by rintro ⟨i, i1, i2⟩; omega), if_pos ⟨j, by omega, rfl⟩]
          · rw [cstL_off _ _ zz, hl d hd]
            by_cases q : ∃ i, i < j ∧ d = (s + 7 + i) % 8
            · obtain ⟨i, i1, i2⟩ := q
              rw [if_pos ⟨i, i1, i2⟩, if_pos ⟨i, by omega, i2⟩]
            · rw [if_neg q, if_neg]
              rintro ⟨i, i1, i2⟩
              by_cases w : i = j
              · rw [w] at i2; exact zz i2
              · exact q ⟨i, by omega, i2⟩
    rw [m1_nI]
    exact loop n 0 C (by omega) (by omega) (cfx.rf _ _ _) (fun d hd => by rw [if_neg]; rintro ⟨i, i1, i2⟩; omega)
/-- the sets of the second's marks: near in x, near in y, alike in direction -/
def nearB (T : Nat) (k c : Nat) : Bool := decide (c + 8 ≤ k + T ∧ k ≤ c + T + 8)
def sets (L2 : List Mk) (T m : Nat) (C : cM) : Prop := (∀ k, k < 40 → ∀ j, j < 64 → lb (cL C 23 k) j = (decide (j < m) && nearB T k (mget L2 j).1)) ∧ (∀ k, k < 40 → ∀ j, j < 64 → lb (cL C 24 k) j = (decide (j < m) && nearB T k (mget L2 j).2.1)) ∧ ∀ d, d < 9 → ∀ j, j < 64 → lb (cL C 25 d) j = (decide (j < m) && samB d (mget L2 j).2.2)
theorem or_bit {x v : Int64} {m j : Nat} {c : Prop} {g : Nat → Bool} [Decidable c] (hm : m < 40) (hv : ∀ i, i < 64 → lb v i = decide (i = m)) (hx : ∀ i, i < 64 → lb x i = (decide (i < m) && g i)) (hc : c ↔ g m = true) (hj : j < 64) : lb (if c then x ||| v else x) j = (decide (j < m + 1) && g j) := by
  by_cases z : c
  · rw [if_pos z, lb_or, hx j hj, hv j hj]
    by_cases w : j = m
    · subst w; rw [hc.mp z, decide_eq_true (show j < j + 1 by omega)]; simp
    · rw [decide_eq_false w, Bool.or_false]
      by_cases q : j < m
      · rw [decide_eq_true q, decide_eq_true (by omega)]
      · rw [decide_eq_false q, decide_eq_false (by omega)]
  · rw [if_neg z, hx j hj]
    by_cases w : j = m
    · subst w
      have : g j = false := by
        cases e : g j with
        | false => rfl
        | true => exact absurd (hc.mpr e) z
      rw [this, Bool.and_false, Bool.and_false]
    · by_cases q : j < m
      · rw [decide_eq_true q, decide_eq_true (by omega)]
      · rw [decide_eq_false q, decide_eq_false (by omega)]
/-- the pairing stands ready for these two lists within T -/
def prepd (L1 L2 : List Mk) (T : Nat) (C : cM) : Prop := cI C 4 11 = nI L1.length ∧ turnd L1 C ∧ sets L2 T L2.length C
theorem prepare_ok {n p q T : Nat} {L1 L2 : List Mk} {C : cM} {Q : cM → Prop} (hn : 50 ≤ n) (hp : bok C p) (hq16 : bok C q) (h1 : cMk L1 p C) (h2 : cMk L2 q C) (l1 : L1.length ≤ 40) (l2 : L2.length ≤ 40) (k1 : ∀ m ∈ L1, mkOk m) (k2 : ∀ m ∈ L2, mkOk m) (hT : T ≤ 3) (hq : ∀ C1, cfx [4, 20, 21, 22] [23, 24, 25] C C1 → prepd L1 L2 T C1 → Q C1) : wpX2_prepare n p q (nI T) C Q := by
  unfold wpX2_prepare
  refine ⟨hp, fun C1 e1 => ?_⟩
  have im : imin (cI C (64 + 8 * p) 5) 40 = nI L1.length := by
    rw [h1.1]
    show (if (40 : Int32) < nI L1.length then (40 : Int32) else nI L1.length) = _
    rw [if_neg]
    intro z
    rw [i32_lt, tI _ (by omega)] at z
    have z : (40 : Int) < L1.length := z
    omega
  rw [im] at e1
  have f1 : cfx [4, 20, 21, 22] [23, 24, 25] C C1 := by rw [e1]; exact cfx.st (by simp)
  have g11 : cI C1 4 11 = nI L1.length := by rw [e1, cst_at]
  refine turnMarks_ok hn (f1.bk hp) (cMk_fx h1 f1 (by simp)) l1 k1 g11 (fun C2 f2 d2 => lclear_ok (N := 40) hn (Or.inl rfl) rfl (by omega) (fun C3 f3 z3 => lclear_ok (N := 40) hn (Or.inr (Or.inl rfl)) rfl (by omega) (fun C4 f4 z4 => lclear_ok (N := 9) hn (Or.inr (Or.inr rfl)) rfl (by omega) (fun C5 f5 z5 => ?_))))
  have F2 : cfx [4, 20, 21, 22] [23, 24, 25] C C2 := f1.tr (f2.mono (by simp) (by simp))
  have F3 : cfx [4, 20, 21, 22] [23, 24, 25] C C3 := F2.tr (f3.mono (by simp) (by simp))
  have F4 : cfx [4, 20, 21, 22] [23, 24, 25] C C4 := F3.tr (f4.mono (by simp) (by simp))
  have F5 : cfx [4, 20, 21, 22] [23, 24, 25] C C5 := F4.tr (f5.mono (by simp) (by simp))
  have G : ∀ i, cI C5 i = cI C2 i := fun i => by rw [f5.1 i (by simp), f4.1 i (by simp), f3.1 i (by simp)]
  have t5 : turnd L1 C5 := by unfold turnd; rw [G 20, G 21, G 22]; exact d2
  have c11 : cI C5 4 11 = nI L1.length := by rw [G 4, f2.1 4 (by simp)]; exact g11
  have loop : ∀ (k m : Nat) (D : cM), m ≤ L2.length → L2.length < m + k → cfx [] [23, 24, 25] C5 D → sets L2 T m D → wpX2_prepare_42 n Q q (nI T) k (nI m) D := by
    intro k
    induction k with
    | zero => intro m D a1 a2; exact absurd a2 (by omega)
    | succ k ih =>
      intro m D hm hmk hf hs
      have FD : cfx [4, 20, 21, 22] [23, 24, 25] C D := F5.tr (hf.mono (by simp) (by simp))
      have m2 := cMk_fx h2 FD (by simp)
      rw [wpX2_prepare_42, m2.1]
      refine ⟨FD.bk hq16, pk_le L2.length m (fun z => ?_) (fun z => ?_)⟩
      · have e : m = L2.length := by omega
        subst e
        refine hq D FD ⟨by rw [hf.1 4 (by simp)]; exact c11, ?_, hs⟩
        unfold turnd; rw [hf.1 20 (by simp), hf.1 21 (by simp), hf.1 22 (by simp)]; exact t5
      · refine pk_le 40 m (fun w => absurd w (by omega)) (fun _ => ?_)
        intro v ev
        obtain ⟨e3, e4, e5⟩ := m2.2.2 m z
        rw [Nat.zero_add] at e3 e4 e5
        obtain ⟨ok1, ok2, ok3, ok4, ok5⟩ := mget_ok k2 m
        refine ⟨pk_in m 40 (by omega), ?_⟩
        rw [cl_nI (by omega), e3]
        have hv : ∀ i, i < 64 → lb v i = decide (i = m) := fun i hi => by rw [ev]; exact lb_bit m (by omega) i hi
        refine setAround_ok hn (Or.inl rfl) ok1 ok2 hT (fun D1 g1 s1 => ⟨g1.bk (FD.bk hq16), ?_⟩)
        rw [g1.1 _ (by simp), e4]
        refine setAround_ok hn (Or.inr rfl) ok3 ok4 hT (fun D2 g2 s2 => ⟨g2.bk (g1.bk (FD.bk hq16)), ?_⟩)
        rw [g2.1 _ (by simp), g1.1 _ (by simp), e5]
        refine setAlike_ok hn ok5 (fun D3 g3 s3 c ec => ?_)
        rw [ec, nI_1]
        refine ih (m + 1) D3 (by omega) (by omega) (((hf.tr (g1.mono (by simp) (by simp))).tr (g2.mono (by simp) (by simp))).tr (g3.mono (by simp) (by simp))) ⟨fun k hk j hj => ?_, fun k hk j hj => ?_, fun d hd j hj => ?_⟩
        · rw [g3.2.1 23 (by simp), g2.2.1 23 (by simp), s1 k]
          exact or_bit (by omega) hv (fun i hi => hs.1 k hk i hi) (by unfold nearB; rw [decide_eq_true_eq]) hj
        · rw [g3.2.1 24 (by simp), s2 k, g1.2.1 24 (by simp)]
          exact or_bit (by omega) hv (fun i hi => hs.2.1 k hk i hi) (by unfold nearB; rw [decide_eq_true_eq]) hj
        · rw [s3 d hd, g2.2.1 25 (by simp), g1.2.1 25 (by simp)]
          exact or_bit (by omega) hv (fun i hi => hs.2.2 d hd i hi) Iff.rfl hj
  refine loop n 0 C5 (by omega) (by omega) (cfx.rf _ _ _) ⟨fun k hk j _ => ?_, fun k hk j _ => ?_, fun d hd j _ => ?_⟩
  · rw [f5.2.1 23 (by simp), f4.2.1 23 (by simp), z3 k hk, lb_0, decide_eq_false (by omega)]; rfl
  · rw [f5.2.1 24 (by simp), z4 k hk, lb_0, decide_eq_false (by omega)]; rfl
  · rw [z5 d hd, lb_0, decide_eq_false (by omega)]; rfl
