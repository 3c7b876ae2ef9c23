/-! bits of an int (from the kit's BITS family) -/
def bt (x : Int32) (i : Nat) : Bool := x.toBitVec.getLsbD i
theorem b_ext {x y : Int32} (h : ∀ i, i < 32 → bt x i = bt y i) : x = y := Int32.toBitVec_inj.mp (BitVec.eq_of_getLsbD_eq (fun i hi => h i hi))
theorem b_or (x y : Int32) (i : Nat) : bt (x ||| y) i = (bt x i || bt y i) := by unfold bt; rw [Int32.toBitVec_or, BitVec.getLsbD_or]
theorem b_and (x y : Int32) (i : Nat) : bt (x &&& y) i = (bt x i && bt y i) := by unfold bt; rw [Int32.toBitVec_and, BitVec.getLsbD_and]
theorem b_xor (x y : Int32) (i : Nat) : bt (x ^^^ y) i = (bt x i ^^ bt y i) := by unfold bt; rw [Int32.toBitVec_xor, BitVec.getLsbD_xor]
theorem b_big {x : Int32} {i : Nat} (h : 32 ≤ i) : bt x i = false := BitVec.getLsbD_of_ge _ _ h
theorem b_m1 : ∀ i, i < 32 → bt (-1) i = true := by decide +kernel
theorem b_0 (i : Nat) : bt 0 i = false := BitVec.getLsbD_zero
theorem b_one : ∀ i, i < 32 → bt 1 i = decide (i = 0) := by decide +kernel
theorem s_l : ∀ n, n < 32 → ((nI n &&& 31).toBitVec.smod 32).toNat = n := by decide +kernel
theorem s_u : ∀ n, n < 32 → (((nI n).toUInt32 &&& Int32.toUInt32 31).toBitVec % 32).toNat = n := by decide +kernel
theorem b_shl (n : Nat) (hn : n < 32) (x : Int32) {i : Nat} (hi : i < 32) : bt (x <<< (nI n &&& 31)) i = (decide (n ≤ i) && bt x (i - n)) := by
  unfold bt
  rw [Int32.toBitVec_shiftLeft]
  show (x.toBitVec <<< ((nI n &&& 31).toBitVec.smod 32).toNat).getLsbD i = _
  rw [s_l n hn, BitVec.getLsbD_shiftLeft]
  rcases Nat.lt_or_ge i n with h | h
  · simp [h, Nat.not_le.mpr h]
  · simp [hi, h, Nat.not_lt.mpr h]
theorem b_ushr (n : Nat) (hn : n < 32) (x : Int32) (i : Nat) : bt (ush x (nI n)) i = bt x (n + i) := by
  show (x.toUInt32 >>> ((nI n).toUInt32 &&& Int32.toUInt32 31)).toBitVec.getLsbD i = x.toUInt32.toBitVec.getLsbD (n + i)
  rw [UInt32.toBitVec_shiftRight]
  show (x.toUInt32.toBitVec >>> (((nI n).toUInt32 &&& Int32.toUInt32 31).toBitVec % 32).toNat).getLsbD i = _
  rw [s_u n hn, BitVec.getLsbD_ushiftRight]
theorem b_sshr (n : Nat) (hn : n < 32) (x : Int32) {i : Nat} (hi : i < 32) : bt (x >>> (nI n &&& 31)) i = if n + i < 32 then bt x (n + i) else bt x 31 := by
  unfold bt
  rw [Int32.toBitVec_shiftRight]
  show (x.toBitVec.sshiftRight ((nI n &&& 31).toBitVec.smod 32).toNat).getLsbD i = _
  rw [s_l n hn, BitVec.getLsbD_sshiftRight, BitVec.msb_eq_getLsbD_last]
  simp [hi]
theorem b2i_bt (b : Bool) : ∀ i, i < 32 → bt (b2i b) i = (b && decide (i = 0)) := fun i hi => by
  cases b with
  | false => show bt 0 i = _; rw [b_0]; rfl
  | true => show bt 1 i = _; rw [b_one i hi]; rfl
theorem bit_s (r : Int32) (x : Nat) (hx : x < 32) : (r >>> (nI x &&& 31)) &&& 1 = b2i (bt r x) := by
  refine b_ext (fun i hi => ?_)
  rw [b_and, b_sshr x hx r hi, b_one i hi, b2i_bt _ i hi]
  by_cases h : i = 0
  · subst h; simp [hx]
  · simp [h]
theorem bit_u (r : Int32) (x : Nat) (hx : x < 32) : ush r (nI x) &&& 1 = b2i (bt r x) := by
  refine b_ext (fun i hi => ?_)
  rw [b_and, b_ushr x hx r i, b_one i hi, b2i_bt _ i hi]
  by_cases h : i = 0
  · subst h; simp
  · simp [h]
/-- the grid of told rows -/
def rG (r : Nat → Int32) : Gr := fun x y => decide (x < 24) && decide (y < 24) && bt (r y) x
theorem rG_in (r : Nat → Int32) : inG (rG r) := fun x y h => by unfold rG at h; simp at h; omega
def mrow (M : mM) (p : Nat) : Nat → Int32 := fun y => M 3 (24 * p + y)
theorem thin53 {n : Nat} {Q : mM → Prop} (hn : 600 ≤ n) : ∀ (k f : Nat) (F : Gr) (M M1 : mM), ctG F < k → k < f → inG F → holds F M1 → fr [5, 6, 7] M M1 → (∀ M2, fr [5, 6, 7] M M2 → holds (thinF k F) M2 → Q M2) → wpX7_thinOut_53 n Q f 1 M1 := by
  intro k
  induction k with
  | zero => intro f F M M1 h; exact absurd h (by omega)
  | succ k ih =>
    intro f F M M1 h1 h2 hF hh hf hq
    obtain ⟨f, rfl⟩ : ∃ g, f = g + 1 := ⟨f - 1, by omega⟩
    rw [wpX7_thinOut_53]
    refine br_1 ?_
    refine pass_ok (first := true) hn hF hh (fun M2 hf2 hh2 => ?_)
    refine pass_ok (first := false) hn (passG_in hF true) hh2 (fun M3 hf3 hh3 => ?_)
    have hf13 : fr [5, 6, 7] M M3 := hf.tr (hf2.tr hf3)
    have go : (anyG true F || anyG false (passG true F)) = true → wpX7_thinOut_53 n Q f 1 M3 := fun ha => by
      refine ih f (passG false (passG true F)) M M3 (by have := round_lt ha; omega) (by omega) (passG_in (passG_in hF true) false) hh3 hf13 (fun M4 hf4 hh4 => hq M4 hf4 ?_)
      rw [thinF, if_pos ha]
      exact hh4
    have stop : (anyG true F || anyG false (passG true F)) = false → wpX7_thinOut_53 n Q f 0 M3 := fun ha => by
      obtain ⟨f, rfl⟩ : ∃ g, f = g + 1 := ⟨f - 1, by omega⟩
      rw [wpX7_thinOut_53]
      refine br_0 (hq M3 hf13 ?_)
      rw [thinF, if_neg (by rw [ha]; decide)]
      exact hh3
    refine br_bn (fun z => ?_) (fun z => go (by rw [z]; simp))
    refine br_b (fun z2 => stop (by rw [z, z2]; rfl)) (fun z2 => go (by rw [z2]; rfl))
theorem thinOut_ok {n p : Nat} {M : mM} {Q : mM → Prop} (hn : 600 ≤ n) (hp : p < 16) (hq : ∀ M1, fr [5, 6, 7] M M1 → holds (thinG (rG (mrow M p))) M1 → Q M1) : wpX7_thinOut n (nI p) M Q := by
  have loop : ∀ (k i : Nat) (M1 : mM), i ≤ 576 → 576 < i + k → fr [5] M M1 → (∀ j, j < i → M1 5 j = b2i (rG (mrow M p) (j % 24) (j / 24))) → wpX7_thinOut_2 n (fun M_2 => wpX7_thinOut_53 n Q n 1 M_2) (nI p) k (nI i) M1 := by
    intro k
    induction k with
    | zero => intro i M1 h1 h2; exact absurd h2 (by omega)
    | succ k ih =>
      intro i M1 h1 h2 hf h5
      rw [wpX7_thinOut_2]
      refine pk_le 576 i (fun h8 => ?_) (fun h8 => ?_)
      · have : i = 576 := by omega
        subst this
        exact thin53 hn 577 n (rG (mrow M p)) M M1 (by have := ctG_le (rG (mrow M p)); omega) (by omega) (rG_in _) (holds_of h5) (hf.mono (by simp)) hq
      · have key : ∀ b : Bool, b = rG (mrow M p) (i % 24) (i / 24) → wpX7_thinOut_44 n (wpX7_thinOut_2 n (fun M_2 => wpX7_thinOut_53 n Q n 1 M_2) (nI p) k) (nI p) (nI i) (b2i b) M1 := by
          intro b hb
          unfold wpX7_thinOut_44
          refine ⟨pk_in i 576 h8, b2i_bz b, fun M2 e2 c ec => ?_⟩
          rw [cl_nI (by omega)] at e2
          rw [ec, nI_1]
          refine ih (i + 1) M2 (by omega) (by omega) (by rw [e2]; exact hf.tr (fr.st (by simp))) (fun j hj => ?_)
          rw [e2]
          by_cases hji : j = i
          · subst hji; rw [st_at, hb]
          · rw [st_off _ _ hji]; exact h5 j (by omega)
        rw [show ((24 : Int32) * nI p + nI i / 24) = nI (24 * p + i / 24) from by rw [show (24 : Int32) = nI 24 from rfl, nIdiv (by omega) (by omega) (by omega), pk_mul, nI_add]]
        refine ⟨pk_in (24 * p + i / 24) 384 (by omega), ?_⟩
        rw [cl_nI (by omega), show (nI i - nI i / 24 * 24 : Int32) = nI (i % 24) from nIrem (d := 24) (by omega) (by omega) (by omega), bit_s _ _ (by omega), hf 3 (by simp)]
        have eg : rG (mrow M p) (i % 24) (i / 24) = bt (M 3 (24 * p + i / 24)) (i % 24) := by
          unfold rG mrow
          rw [decide_eq_true (by omega), decide_eq_true (by omega)]; rfl
        rw [b2i_1]
        refine (fun (q : (bt (M 3 (24 * p + i / 24)) (i % 24) = true → _) ∧ (¬ bt (M 3 (24 * p + i / 24)) (i % 24) = true → _)) => ⟨q.2, q.1⟩) (br_d (fun z => key true (by rw [eg, z])) (fun z => key false (by rw [eg]; cases h : bt (M 3 (24 * p + i / 24)) (i % 24) with | false => rfl | true => exact absurd h z)))
  unfold wpX7_thinOut
  exact loop n 0 M (by omega) (by omega) (fr.rf _ _) (fun j hj => absurd hj (by omega))
