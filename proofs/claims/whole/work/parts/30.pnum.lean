/-! PURE PART: numbers, small predicates -/
def b2i (b : Bool) : Int32 := if b then 1 else 0
theorem b2i_bz (b : Bool) : bz (b2i b) := by cases b <;> simp [b2i, bz]
theorem b2i_0 (b : Bool) : b2i b = 0 ↔ b = false := by cases b <;> simp [b2i]
theorem b2i_1 (b : Bool) : b2i b = 1 ↔ b = true := by cases b <;> simp [b2i]
theorem b2i_nI (b : Bool) : b2i b = nI (if b then 1 else 0) := by cases b <;> rfl
/-- the two branches on a boolean's int -/
theorem br_b {b : Bool} {A B : Prop} (h0 : b = false → A) (h1 : b = true → B) : (b2i b = 0 → A) ∧ (¬ b2i b = 0 → B) := ⟨fun h => h0 ((b2i_0 b).mp h), fun h => h1 (by cases b with | false => exact absurd rfl h | true => rfl)⟩
theorem br_bn {b : Bool} {A B : Prop} (h0 : b = false → A) (h1 : b = true → B) : (¬ b2i b = 0 → B) ∧ (b2i b = 0 → A) := ⟨(br_b h0 h1).2, (br_b h0 h1).1⟩
theorem br_0 {A B : Prop} (h : A) : ((0 : Int32) = 0 → A) ∧ (¬ (0 : Int32) = 0 → B) := ⟨fun _ => h, fun z => absurd rfl z⟩
theorem br_0n {A B : Prop} (h : A) : (¬ (0 : Int32) = 0 → B) ∧ ((0 : Int32) = 0 → A) := ⟨fun z => absurd rfl z, fun _ => h⟩
theorem br_1 {A B : Prop} (h : B) : ((1 : Int32) = 0 → A) ∧ (¬ (1 : Int32) = 0 → B) := ⟨fun z => absurd z (by decide), fun _ => h⟩
theorem br_1n {A B : Prop} (h : B) : (¬ (1 : Int32) = 0 → B) ∧ ((1 : Int32) = 0 → A) := ⟨fun _ => h, fun z => absurd z (by decide)⟩
theorem br_i {c A B : Prop} (h : c) (a : A) : (c → A) ∧ (¬ c → B) := ⟨fun _ => a, fun z => absurd h z⟩
theorem br_e {c A B : Prop} (h : ¬ c) (b : B) : (c → A) ∧ (¬ c → B) := ⟨fun z => absurd z h, fun _ => b⟩
theorem br_ni {c A B : Prop} (h : c) (a : A) : (¬ c → B) ∧ (c → A) := ⟨fun z => absurd h z, fun _ => a⟩
theorem br_ne {c A B : Prop} (h : ¬ c) (b : B) : (¬ c → B) ∧ (c → A) := ⟨fun _ => b, fun z => absurd z h⟩
theorem br_d {c A B : Prop} (h1 : c → A) (h2 : ¬ c → B) : (c → A) ∧ (¬ c → B) := ⟨h1, h2⟩
theorem i32_lt {a b : Int32} : a < b ↔ a.toInt < b.toInt := Int32.lt_iff_toInt_lt
theorem i32_le {a b : Int32} : a ≤ b ↔ a.toInt ≤ b.toInt := Int32.le_iff_toInt_le
theorem i64_lt {a b : Int64} : a < b ↔ a.toInt < b.toInt := Int64.lt_iff_toInt_lt
theorem i64_le {a b : Int64} : a ≤ b ↔ a.toInt ≤ b.toInt := Int64.le_iff_toInt_le
theorem i32_rng (x : Int32) : -2147483648 ≤ x.toInt ∧ x.toInt < 2147483648 := by
  have h1 := Int32.le_toInt x
  have h2 := Int32.toInt_lt x
  omega
theorem bm32 {z : Int} (h1 : -2147483648 ≤ z) (h2 : z < 2147483648) : z.bmod (2 ^ 32) = z := by
  rw [Int.bmod_eq_of_le (by omega) (by omega)]
theorem addI {x y : Int32} (h1 : -2147483648 ≤ x.toInt + y.toInt) (h2 : x.toInt + y.toInt < 2147483648) : (x + y).toInt = x.toInt + y.toInt := by
  rw [Int32.toInt_add]; exact bm32 h1 h2
theorem subI {x y : Int32} (h1 : -2147483648 ≤ x.toInt - y.toInt) (h2 : x.toInt - y.toInt < 2147483648) : (x - y).toInt = x.toInt - y.toInt := by
  rw [Int32.toInt_sub]; exact bm32 h1 h2
theorem mulI {x y : Int32} (h1 : -2147483648 ≤ x.toInt * y.toInt) (h2 : x.toInt * y.toInt < 2147483648) : (x * y).toInt = x.toInt * y.toInt := by
  rw [Int32.toInt_mul]; exact bm32 h1 h2
/-- an int by its value -/
theorem i32_is {x : Int32} {j : Nat} (h : x.toInt = j) (hj : j < 2147483648) : x = nI j := Int32.toInt_inj.mp (by rw [h, nI_toInt (by omega)])
theorem i32_cases (x : Int32) (n : Nat) (hn : n < 2147483648) : (∃ j, j < n ∧ x = nI j) ∨ (x.toInt < 0 ∨ (n : Int) ≤ x.toInt) := by
  by_cases h : 0 ≤ x.toInt ∧ x.toInt < n
  · exact Or.inl ⟨x.toInt.toNat, by omega, i32_is (by omega) (by omega)⟩
  · exact Or.inr (by omega)
theorem nI_inj {a b : Nat} (ha : a < 2147483648) (hb : b < 2147483648) (h : nI a = nI b) : a = b := by
  have := congrArg Int32.toInt h
  rw [nI_toInt (by omega), nI_toInt (by omega)] at this
  omega
theorem tI (j : Nat) (h : j < 2147483648) : (nI j).toInt = j := nI_toInt (by omega)
theorem cl_nI {j : Nat} (h : j < 2147483648) : (nI j).toNatClampNeg = j := nI_clamp (by omega)
theorem i64_of (x : Int32) : x.toInt64.toInt = x.toInt := Int32.toInt_toInt64 x
/-- model: in, isPlace, isPrint, told -/
theorem in_yes {n : Nat} {a lo hi : Int64} {M : mM} {Q : Int32 → mM → Prop} (h1 : lo ≤ a) (h2 : a ≤ hi) (hq : Q 1 M) : wpX7_in n a lo hi M Q := by
  unfold wpX7_in
  rw [lg_cmp_lt, lg_cmp_gt]
  have a1 : ¬ a < lo := by rw [i64_lt]; rw [i64_le] at h1; omega
  have a2 : ¬ hi < a := by rw [i64_lt]; rw [i64_le] at h2; omega
  exact br_e a1 (br_e a2 ⟨Or.inr rfl, hq⟩)
theorem in_no {n : Nat} {a lo hi : Int64} {M : mM} {Q : Int32 → mM → Prop} (h : a < lo ∨ hi < a) (hq : Q 0 M) : wpX7_in n a lo hi M Q := by
  unfold wpX7_in
  rw [lg_cmp_lt, lg_cmp_gt]
  refine br_d (fun _ => ⟨Or.inl rfl, hq⟩) (fun h1 => ?_)
  rcases h with h | h
  · exact absurd h h1
  · exact br_i h ⟨Or.inl rfl, hq⟩
theorem isPlace_yes {n j : Nat} {M : mM} {Q : Int32 → mM → Prop} (h : j < 24) (hq : Q 1 M) : wpX7_isPlace n (nI j) M Q := by
  unfold wpX7_isPlace
  refine in_yes ?_ ?_ ⟨Or.inr rfl, hq⟩
  · rw [i64_le, i64_of, tI j (by omega)]; show (0 : Int) ≤ _; omega
  · rw [i64_le, i64_of, tI j (by omega)]; show _ ≤ (23 : Int); omega
theorem isPlace_no {n : Nat} {x : Int32} {M : mM} {Q : Int32 → mM → Prop} (h : x.toInt < 0 ∨ 24 ≤ x.toInt) (hq : Q 0 M) : wpX7_isPlace n x M Q := by
  unfold wpX7_isPlace
  refine in_no ?_ ⟨Or.inl rfl, hq⟩
  rw [i64_lt, i64_lt, i64_of]
  show x.toInt < (0 : Int) ∨ (23 : Int) < x.toInt
  omega
theorem isPrint_yes {n j np : Nat} {M : mM} {Q : Int32 → mM → Prop} (hp : M 0 2 = nI np) (hnp : np ≤ 16) (h : j < np) (hq : Q 1 M) : wpX7_isPrint n (nI j) M Q := by
  unfold wpX7_isPrint
  refine in_yes ?_ ?_ ⟨Or.inr rfl, hq⟩
  · rw [i64_le, i64_of, tI j (by omega)]; show (0 : Int) ≤ _; omega
  · rw [i64_le, i64_of, tI j (by omega), hp, nI_l (by omega), show (lN np - 1 : Int64) = lN np - lN 1 from rfl, lN_sub (by omega), lN_toInt (by omega)]; omega
theorem isPrint_no {n np : Nat} {x : Int32} {M : mM} {Q : Int32 → mM → Prop} (hp : M 0 2 = nI np) (hnp : np ≤ 16) (h : x.toInt < 0 ∨ (np : Int) ≤ x.toInt) (hq : Q 0 M) : wpX7_isPrint n x M Q := by
  unfold wpX7_isPrint
  refine in_no ?_ ⟨Or.inl rfl, hq⟩
  have e1 : ((M 0 2).toInt64 - 1 : Int64).toInt = (np : Int) - 1 := by
    rw [hp, nI_l (by omega)]
    rcases Nat.eq_zero_or_pos np with rfl | h0
    · rfl
    · rw [show (lN np - 1 : Int64) = lN np - lN 1 from rfl, lN_sub (by omega), lN_toInt (by omega)]; omega
  rw [i64_lt, i64_lt, i64_of, e1]
  show x.toInt < (0 : Int) ∨ _
  omega
theorem told_ok {n : Nat} {v : Int32} {M : mM} {Q : Int32 → mM → Prop} (hq : Q v (st M 0 1 (if v < 0 then v else 0))) : wpX7_told n v M Q := by
  unfold wpX7_told wpX7_told_10
  refine br_d (fun h M1 e1 => ?_) (fun h M1 e1 => ?_)
  · rw [if_neg (by rw [i32_lt]; rw [i32_le] at h; show ¬ v.toInt < (0 : Int); have h : (0 : Int) ≤ v.toInt := h; omega)] at hq
    rw [e1]; exact hq
  · rw [if_pos (by rw [i32_lt]; rw [i32_le] at h; show v.toInt < (0 : Int); have h : ¬ (0 : Int) ≤ v.toInt := h; omega)] at hq
    rw [e1]; exact hq
/-- class: isOnBoard, isShift, refuse, boardOf, isAhead -/
theorem onB_yes {n j : Nat} {C : cM} {Q : Int32 → cM → Prop} (h : j < 24) (hq : Q 1 C) : wpX6_isOnBoard n (nI j) C Q := by
  unfold wpX6_isOnBoard
  have a1 : ¬ nI j < 0 := by rw [i32_lt, tI j (by omega)]; show ¬ (j : Int) < 0; omega
  have a2 : ¬ 24 ≤ nI j := by rw [i32_le, tI j (by omega)]; show ¬ (24 : Int) ≤ j; omega
  exact br_e a1 (br_e a2 ⟨Or.inr rfl, hq⟩)
theorem onB_no {n : Nat} {x : Int32} {C : cM} {Q : Int32 → cM → Prop} (h : x.toInt < 0 ∨ 24 ≤ x.toInt) (hq : Q 0 C) : wpX6_isOnBoard n x C Q := by
  unfold wpX6_isOnBoard
  refine br_d (fun _ => ⟨Or.inl rfl, hq⟩) (fun h1 => ?_)
  refine br_i ?_ ⟨Or.inl rfl, hq⟩
  rw [i32_lt] at h1
  rw [i32_le]
  have h1 : ¬ x.toInt < (0 : Int) := h1
  show (24 : Int) ≤ x.toInt
  omega
