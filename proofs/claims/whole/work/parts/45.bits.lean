/-! PURE PART: bits of a long, and how many are set -/
def rep8 (m : Nat) : Nat → Nat
  | 0 => 0
  | k + 1 => m + 256 * rep8 m k
def bw (g : Nat → Nat) : Nat → Nat → Nat
  | 0, _ => 0
  | k + 1, x => g (x % 256) + 256 * bw g k (x / 256)
theorem and256 (a b : Nat) : a &&& b = (a % 256 &&& b % 256) + 256 * (a / 256 &&& b / 256) := by
  have h1 : (a &&& b) % 2 ^ 8 = _ := Nat.and_mod_two_pow
  have h2 : (a &&& b) / 2 ^ 8 = _ := Nat.and_div_two_pow
  have h1 : (a &&& b) % 256 = (a % 256 &&& b % 256) := h1
  have h2 : (a &&& b) / 256 = (a / 256 &&& b / 256) := h2
  have h3 := Nat.div_add_mod (a &&& b) 256
  omega
theorem rep8_mod {m k : Nat} (h : m < 256) : rep8 m (k + 1) % 256 = m ∧ rep8 m (k + 1) / 256 = rep8 m k := by
  rw [rep8]; omega
theorem bw_and {p m : Nat} (hm : m < 256) (hp : ∀ x, x / p % 256 &&& m = x % 256 / p &&& m) : ∀ k x, x / p &&& rep8 m k = bw (fun b => b / p &&& m) k x
  | 0, x => by rw [rep8, bw, Nat.and_zero]
  | k + 1, x => by
    rw [and256, (rep8_mod hm).1, (rep8_mod hm).2, hp, bw, Nat.div_div_eq_div_mul, Nat.mul_comm p 256, ← Nat.div_div_eq_div_mul, bw_and hm hp k]
theorem bw_add (f g : Nat → Nat) : ∀ k x, bw f k x + bw g k x = bw (fun b => f b + g b) k x
  | 0, _ => rfl
  | k + 1, x => by simp only [bw]; have := bw_add f g k (x / 256); omega
theorem bw_cong {f g : Nat → Nat} (h : ∀ b, b < 256 → f b = g b) : ∀ k x, bw f k x = bw g k x
  | 0, _ => rfl
  | k + 1, x => by simp only [bw]; rw [h _ (Nat.mod_lt _ (by decide)), bw_cong h k]
theorem bw_id : ∀ k x, x < 256 ^ k → bw (fun b => b) k x = x
  | 0, x, h => by rw [bw]; omega
  | k + 1, x, h => by simp only [bw]; rw [bw_id k (x / 256) (by rw [Nat.pow_succ] at h; omega)]; omega
theorem bw_comp {f : Nat → Nat} (g : Nat → Nat) (h : ∀ b, b < 256 → f b < 256) : ∀ k x, bw g k (bw f k x) = bw (fun b => g (f b)) k x
  | 0, _ => rfl
  | k + 1, x => by
    have h1 := h (x % 256) (Nat.mod_lt _ (by decide))
    have h2 := bw_comp g h k (x / 256)
    simp only [bw]
    rw [show (f (x % 256) + 256 * bw f k (x / 256)) % 256 = f (x % 256) by omega, show (f (x % 256) + 256 * bw f k (x / 256)) / 256 = bw f k (x / 256) by omega, h2]
theorem bw_le {f : Nat → Nat} {c : Nat} (h : ∀ b, b < 256 → f b ≤ c) : ∀ k x, bw f k x ≤ rep8 c k
  | 0, _ => Nat.le_refl _
  | k + 1, x => by
    have h1 := h (x % 256) (Nat.mod_lt _ (by decide))
    have h2 := bw_le h k (x / 256)
    simp only [bw, rep8]; omega
theorem bp2 : ∀ b, b < 256 → ∀ r, r < 2 → (b / 2 + 128 * r) &&& 85 = b / 2 &&& 85 := by decide +kernel
theorem bp4 : ∀ b, b < 256 → ∀ r, r < 4 → (b / 4 + 64 * r) &&& 51 = b / 4 &&& 51 := by decide +kernel
def q1f (b : Nat) : Nat := b - (b / 2 &&& 85)
def q2f (b : Nat) : Nat := (b / 1 &&& 51) + (b / 4 &&& 51)
theorem q1_ok : ∀ b, b < 256 → (b / 2 &&& 85) ≤ b ∧ q1f b < 256 ∧ q2f (q1f b) % 16 ≤ 4 ∧ q2f (q1f b) / 16 ≤ 4 ∧ q2f (q1f b) % 16 + q2f (q1f b) / 16 = ct (fun i => b.testBit i) 8 := by decide +kernel
/-- first step -/
theorem bc1 (k x : Nat) (hx : x < 256 ^ k) : (x / 2 &&& rep8 85 k) ≤ x ∧ x - (x / 2 &&& rep8 85 k) = bw q1f k x := by
  have e : x / 2 &&& rep8 85 k = bw (fun b => b / 2 &&& 85) k x := bw_and (by decide) (fun y => by
    have := bp2 (y % 256) (Nat.mod_lt _ (by decide)) (y / 256 % 2) (Nat.mod_lt _ (by decide))
    rw [← this]; congr 1; omega) k x
  have s : bw (fun b => b / 2 &&& 85) k x + bw q1f k x = x := by
    rw [bw_add, bw_cong (g := fun b => b) (fun b hb => by have := q1_ok b hb; unfold q1f; omega), bw_id k x hx]
  rw [e]; omega
/-- second step -/
theorem bc2 (k y : Nat) : (y &&& rep8 51 k) + (y / 4 &&& rep8 51 k) = bw q2f k y := by
  have e1 : y / 1 &&& rep8 51 k = bw (fun b => b / 1 &&& 51) k y := bw_and (by decide) (fun z => by rw [Nat.div_one, Nat.div_one]) k y
  have e4 : y / 4 &&& rep8 51 k = bw (fun b => b / 4 &&& 51) k y := bw_and (by decide) (fun z => by
    have := bp4 (z % 256) (Nat.mod_lt _ (by decide)) (z / 256 % 4) (Nat.mod_lt _ (by decide))
    rw [← this]; congr 1; omega) k y
  rw [Nat.div_one] at e1
  rw [e1, e4, bw_add]
  rfl
theorem a15 : ∀ b, b < 256 → b &&& 15 = b % 16 := by decide +kernel
/-- third step -/
theorem bc3 {q : Nat → Nat} (hq : ∀ b, b < 256 → q b % 16 ≤ 4 ∧ q b / 16 ≤ 4) : ∀ k x, bw q k x % 16 ≤ 4 ∧ ((bw q k x + bw q k x / 16) &&& rep8 15 k) = bw (fun b => q b % 16 + q b / 16) k x
  | 0, x => by constructor <;> simp [bw, rep8]
  | k + 1, x => by
    obtain ⟨h1, h2⟩ := hq (x % 256) (Nat.mod_lt _ (by decide))
    obtain ⟨h3, h4⟩ := bc3 hq k (x / 256)
    have e1 : bw q (k + 1) x = q (x % 256) + 256 * bw q k (x / 256) := rfl
    have e2 : bw (fun b => q b % 16 + q b / 16) (k + 1) x = (q (x % 256) % 16 + q (x % 256) / 16) + 256 * bw (fun b => q b % 16 + q b / 16) k (x / 256) := rfl
    rw [e1, e2]
    generalize bw (fun b => q b % 16 + q b / 16) k (x / 256) = W at *
    generalize bw q k (x / 256) = r at *
    generalize q (x % 256) = b at *
    refine ⟨by omega, ?_⟩
    rw [and256, (rep8_mod (by decide)).1, (rep8_mod (by decide)).2, a15 _ (Nat.mod_lt _ (by decide)), show (b + 256 * r + (b + 256 * r) / 16) / 256 = r + r / 16 by omega, h4]
    omega
theorem ct_add (p : Nat → Bool) (a : Nat) : ∀ b, ct p (a + b) = ct p a + ct (fun i => p (a + i)) b
  | 0 => rfl
  | b + 1 => by
    show ct p (a + b + 1) = _
    simp only [ct]
    rw [ct_add p a b]; omega
def sm8 : Nat → Nat → Nat
  | 0, _ => 0
  | k + 1, x => ct (fun i => (x % 256).testBit i) 8 + sm8 k (x / 256)
theorem sm8_ct : ∀ k x, sm8 k x = ct (fun i => x.testBit i) (8 * k)
  | 0, _ => rfl
  | k + 1, x => by
    rw [sm8, sm8_ct k, show 8 * (k + 1) = 8 + 8 * k by omega, ct_add]
    congr 1
    · refine ct_cong (fun i hi => ?_)
      have := Nat.testBit_mod_two_pow x 8 i
      rw [show (256 : Nat) = 2 ^ 8 from rfl, this]
      simp [hi]
    · refine ct_cong (fun i hi => ?_)
      have := @Nat.testBit_div_two_pow 8 x i
      rw [show (256 : Nat) = 2 ^ 8 from rfl, this, Nat.add_comm]
/-- the three steps together -/
theorem bc123 (k x : Nat) (hx : x < 256 ^ k) : bw q2f k (bw q1f k x) = bw (fun b => q2f (q1f b)) k x ∧ ((bw (fun b => q2f (q1f b)) k x + bw (fun b => q2f (q1f b)) k x / 16) &&& rep8 15 k) = bw (fun b => ct (fun i => b.testBit i) 8) k x := by
  refine ⟨bw_comp q2f (fun b hb => (q1_ok b hb).2.1) k x, ?_⟩
  rw [(bc3 (fun b hb => ⟨(q1_ok b hb).2.2.1, (q1_ok b hb).2.2.2.1⟩) k x).2]
  exact bw_cong (fun b hb => (q1_ok b hb).2.2.2.2) k x
theorem bsum4 (x : Nat) : ∀ y40 y47 : Nat, y40 = bw (fun b => ct (fun i => b.testBit i) 8) 4 x + bw (fun b => ct (fun i => b.testBit i) 8) 4 x / 256 → y47 = y40 + y40 / 65536 → y47 < 4294967296 ∧ y40 < 4294967296 ∧ y47 % 64 = sm8 4 x := by
  intro y40 y47 h1 h2
  simp only [bw] at h1
  simp only [sm8]
  have c0 := ct_le (fun i => (x % 256).testBit i) 8
  have c1 := ct_le (fun i => (x / 256 % 256).testBit i) 8
  have c2 := ct_le (fun i => (x / 256 / 256 % 256).testBit i) 8
  have c3 := ct_le (fun i => (x / 256 / 256 / 256 % 256).testBit i) 8
  generalize ct (fun i => (x % 256).testBit i) 8 = a0 at *
  generalize ct (fun i => (x / 256 % 256).testBit i) 8 = a1 at *
  generalize ct (fun i => (x / 256 / 256 % 256).testBit i) 8 = a2 at *
  generalize ct (fun i => (x / 256 / 256 / 256 % 256).testBit i) 8 = a3 at *
  have e1 : (a0 + 256 * (a1 + 256 * (a2 + 256 * (a3 + 256 * 0)))) / 256 = a1 + 256 * a2 + 65536 * a3 := by omega
  rw [e1] at h1
  have e2 : y40 / 65536 = a2 + a3 + 256 * a3 := by omega
  rw [e2] at h2
  omega
theorem bsum8 (x : Nat) : ∀ y40 y47 y54 : Nat, y40 = bw (fun b => ct (fun i => b.testBit i) 8) 8 x + bw (fun b => ct (fun i => b.testBit i) 8) 8 x / 256 → y47 = y40 + y40 / 65536 → y54 = y47 + y47 / 4294967296 → y40 < 18446744073709551616 ∧ y47 < 18446744073709551616 ∧ y54 < 9223372036854775808 ∧ y54 % 128 = sm8 8 x := by
  intro y40 y47 y54 h1 h2 h3
  simp only [bw] at h1
  simp only [sm8]
  have c0 := ct_le (fun i => (x % 256).testBit i) 8
  have c1 := ct_le (fun i => (x / 256 % 256).testBit i) 8
  have c2 := ct_le (fun i => (x / 256 / 256 % 256).testBit i) 8
  have c3 := ct_le (fun i => (x / 256 / 256 / 256 % 256).testBit i) 8
  have c4 := ct_le (fun i => (x / 256 / 256 / 256 / 256 % 256).testBit i) 8
  have c5 := ct_le (fun i => (x / 256 / 256 / 256 / 256 / 256 % 256).testBit i) 8
  have c6 := ct_le (fun i => (x / 256 / 256 / 256 / 256 / 256 / 256 % 256).testBit i) 8
  have c7 := ct_le (fun i => (x / 256 / 256 / 256 / 256 / 256 / 256 / 256 % 256).testBit i) 8
  generalize ct (fun i => (x % 256).testBit i) 8 = a0 at *
  generalize ct (fun i => (x / 256 % 256).testBit i) 8 = a1 at *
  generalize ct (fun i => (x / 256 / 256 % 256).testBit i) 8 = a2 at *
  generalize ct (fun i => (x / 256 / 256 / 256 % 256).testBit i) 8 = a3 at *
  generalize ct (fun i => (x / 256 / 256 / 256 / 256 % 256).testBit i) 8 = a4 at *
  generalize ct (fun i => (x / 256 / 256 / 256 / 256 / 256 % 256).testBit i) 8 = a5 at *
  generalize ct (fun i => (x / 256 / 256 / 256 / 256 / 256 / 256 % 256).testBit i) 8 = a6 at *
  generalize ct (fun i => (x / 256 / 256 / 256 / 256 / 256 / 256 / 256 % 256).testBit i) 8 = a7 at *
  have e1 : (a0 + 256 * (a1 + 256 * (a2 + 256 * (a3 + 256 * (a4 + 256 * (a5 + 256 * (a6 + 256 * (a7 + 256 * 0)))))))) / 256 = a1 + 256 * a2 + 65536 * a3 + 16777216 * a4 + 4294967296 * a5 + 1099511627776 * a6 + 281474976710656 * a7 := by omega
  rw [e1] at h1
  have e2 : y40 / 65536 = (a2 + a3) + 256 * (a3 + a4) + 65536 * (a4 + a5) + 16777216 * (a5 + a6) + 4294967296 * (a6 + a7) + 1099511627776 * a7 := by omega
  rw [e2] at h2
  have e3 : y47 / 4294967296 = (a4 + a5 + a6 + a7) + 256 * (a5 + a6 + a7) + 65536 * (a6 + a7) + 16777216 * a7 := by omega
  rw [e3] at h3
  omega
/-- an int as a natural number -/
def u32 (x : Int32) : Nat := x.toBitVec.toNat
def u64 (x : Int64) : Nat := x.toBitVec.toNat
theorem u32_lt (x : Int32) : u32 x < 4294967296 := x.toBitVec.isLt
theorem u64_lt (x : Int64) : u64 x < 18446744073709551616 := x.toBitVec.isLt
theorem u32_and (x y : Int32) : u32 (x &&& y) = u32 x &&& u32 y := by unfold u32; rw [Int32.toBitVec_and, BitVec.toNat_and]
theorem u64_and (x y : Int64) : u64 (x &&& y) = u64 x &&& u64 y := by unfold u64; rw [Int64.toBitVec_and, BitVec.toNat_and]
theorem u32_sub {x y : Int32} (h : u32 y ≤ u32 x) : u32 (x - y) = u32 x - u32 y := by unfold u32; rw [Int32.toBitVec_sub]; exact BitVec.toNat_sub_of_le h
theorem u64_sub {x y : Int64} (h : u64 y ≤ u64 x) : u64 (x - y) = u64 x - u64 y := by unfold u64; rw [Int64.toBitVec_sub]; exact BitVec.toNat_sub_of_le h
theorem u32_add {x y : Int32} (h : u32 x + u32 y < 4294967296) : u32 (x + y) = u32 x + u32 y := by unfold u32; rw [Int32.toBitVec_add]; exact BitVec.toNat_add_of_lt h
theorem u64_add {x y : Int64} (h : u64 x + u64 y < 18446744073709551616) : u64 (x + y) = u64 x + u64 y := by unfold u64; rw [Int64.toBitVec_add]; exact BitVec.toNat_add_of_lt h
theorem u32_ush (n : Nat) (hn : n < 32) (x : Int32) : u32 (ush x (nI n)) = u32 x / 2 ^ n := by
  show (x.toUInt32 >>> ((nI n).toUInt32 &&& Int32.toUInt32 31)).toBitVec.toNat = x.toUInt32.toBitVec.toNat / 2 ^ n
  rw [UInt32.toBitVec_shiftRight]
  show (x.toUInt32.toBitVec >>> (((nI n).toUInt32 &&& Int32.toUInt32 31).toBitVec % 32).toNat).toNat = _
  rw [s_u n hn, BitVec.toNat_ushiftRight, Nat.shiftRight_eq_div_pow]
theorem s_lu : ∀ n, n < 64 → (((nI n).toInt64.toUInt64 &&& Int64.toUInt64 63).toBitVec % 64).toNat = n := by decide +kernel
theorem u64_ush (n : Nat) (hn : n < 64) (x : Int64) : u64 (lush x (nI n)) = u64 x / 2 ^ n := by
  show (x.toUInt64 >>> ((nI n).toInt64.toUInt64 &&& Int64.toUInt64 63)).toBitVec.toNat = x.toUInt64.toBitVec.toNat / 2 ^ n
  rw [UInt64.toBitVec_shiftRight]
  show (x.toUInt64.toBitVec >>> (((nI n).toInt64.toUInt64 &&& Int64.toUInt64 63).toBitVec % 64).toNat).toNat = _
  rw [s_lu n hn, BitVec.toNat_ushiftRight, Nat.shiftRight_eq_div_pow]
theorem u32_inj {x y : Int32} (h : u32 x = u32 y) : x = y := Int32.toBitVec_inj.mp (BitVec.eq_of_toNat_eq h)
theorem u64_inj {x y : Int64} (h : u64 x = u64 y) : x = y := Int64.toBitVec_inj.mp (BitVec.eq_of_toNat_eq h)
theorem u32_nI {k : Nat} (h : k < 4294967296) : u32 (nI k) = k := by
  show (BitVec.ofNat 32 k).toNat = k
  rw [BitVec.toNat_ofNat]; exact Nat.mod_eq_of_lt h
theorem a63 (y : Nat) : y &&& 63 = y % 64 := Nat.and_two_pow_sub_one_eq_mod y 6
theorem a127 (y : Nat) : y &&& 127 = y % 128 := Nat.and_two_pow_sub_one_eq_mod y 7
theorem bitCount_ok {n : Nat} {x : Int32} {C : cM} {Q : Int32 → cM → Prop} (hq : Q (nI (ct (bt x) 32)) C) : wpJ6_bitCount_0f7a4 n x C Q := by
  unfold wpJ6_bitCount_0f7a4
  intro x9 e9 x23 e23 x33 e33 x40 e40 x47 e47
  have hx : u32 x < 256 ^ 4 := u32_lt x
  obtain ⟨s1, s2⟩ := bc1 4 (u32 x) hx
  have d1 : u32 (ush x 1 &&& 1431655765) = (u32 x / 2 &&& rep8 85 4) := by rw [u32_and, show (1 : Int32) = nI 1 from rfl, u32_ush 1 (by decide)]; rfl
  have d9 : u32 x9 = bw q1f 4 (u32 x) := by rw [e9, u32_sub (by rw [d1]; exact s1), d1, s2]
  have d2 : u32 (x9 &&& 858993459) + u32 (ush x9 2 &&& 858993459) = bw q2f 4 (u32 x9) := by
    rw [u32_and, u32_and, show (2 : Int32) = nI 2 from rfl, u32_ush 2 (by decide)]; exact bc2 4 (u32 x9)
  obtain ⟨t1, t2⟩ := bc123 4 (u32 x) hx
  rw [d9, t1] at d2
  have b2 : bw (fun b => q2f (q1f b)) 4 (u32 x) ≤ rep8 68 4 := bw_le (fun b hb => by have := q1_ok b hb; omega) 4 _
  have r2 : rep8 68 4 = 1145324612 := rfl
  have d23 : u32 x23 = bw (fun b => q2f (q1f b)) 4 (u32 x) := by rw [e23, u32_add (by omega), d2]
  have d4 : u32 (ush x23 4) = u32 x23 / 16 := by rw [show (4 : Int32) = nI 4 from rfl, u32_ush 4 (by decide)]
  have d33 : u32 x33 = bw (fun b => ct (fun i => b.testBit i) 8) 4 (u32 x) := by
    rw [e33, u32_and, u32_add (by rw [d4, d23]; omega), d4, d23]; exact t2
  have d8 : u32 (ush x33 8) = u32 x33 / 256 := by rw [show (8 : Int32) = nI 8 from rfl, u32_ush 8 (by decide)]
  obtain ⟨y40, h40⟩ : ∃ y, y = u32 x33 + u32 x33 / 256 := ⟨_, rfl⟩
  obtain ⟨y47, h47⟩ : ∃ y, y = y40 + y40 / 65536 := ⟨_, rfl⟩
  obtain ⟨f1, f2, f3⟩ := bsum4 (u32 x) y40 y47 (by rw [h40, d33]) h47
  have d40 : u32 x40 = y40 := by rw [e40, u32_add (by rw [d8, ← h40]; exact f2), d8, ← h40]
  have d16 : u32 (ush x40 16) = u32 x40 / 65536 := by rw [show (16 : Int32) = nI 16 from rfl, u32_ush 16 (by decide)]
  have d47 : u32 x47 = y47 := by rw [e47, u32_add (by rw [d16, d40, ← h47]; exact f1), d16, d40, ← h47]
  have fin : x47 &&& 63 = nI (ct (bt x) 32) := by
    refine u32_inj ?_
    rw [u32_and, show u32 63 = 63 from rfl, a63, d47, f3, sm8_ct, u32_nI (by have := ct_le (bt x) 32; omega)]
    exact ct_cong (fun i _ => BitVec.testBit_toNat _)
  rw [fin]
  exact hq
/-- the bits of a long -/
def lb (x : Int64) (i : Nat) : Bool := x.toBitVec.getLsbD i
theorem lbitCount_ok {n : Nat} {x : Int64} {C : cM} {Q : Int32 → cM → Prop} (hq : Q (nI (ct (lb x) 64)) C) : wpJ13_bitCount_95d88 n x C Q := by
  unfold wpJ13_bitCount_95d88
  intro x9 e9 x23 e23 x33 e33 x40 e40 x47 e47 x54 e54
  have hx : u64 x < 256 ^ 8 := u64_lt x
  obtain ⟨s1, s2⟩ := bc1 8 (u64 x) hx
  have d1 : u64 (lush x 1 &&& 6148914691236517205) = (u64 x / 2 &&& rep8 85 8) := by rw [u64_and, show (1 : Int32) = nI 1 from rfl, u64_ush 1 (by decide)]; rfl
  have d9 : u64 x9 = bw q1f 8 (u64 x) := by rw [e9, u64_sub (by rw [d1]; exact s1), d1, s2]
  have d2 : u64 (x9 &&& 3689348814741910323) + u64 (lush x9 2 &&& 3689348814741910323) = bw q2f 8 (u64 x9) := by
    rw [u64_and, u64_and, show (2 : Int32) = nI 2 from rfl, u64_ush 2 (by decide)]; exact bc2 8 (u64 x9)
  obtain ⟨t1, t2⟩ := bc123 8 (u64 x) hx
  rw [d9, t1] at d2
  have b2 : bw (fun b => q2f (q1f b)) 8 (u64 x) ≤ rep8 68 8 := bw_le (fun b hb => by have := q1_ok b hb; omega) 8 _
  have r2 : rep8 68 8 = 4919131752989213764 := rfl
  have d23 : u64 x23 = bw (fun b => q2f (q1f b)) 8 (u64 x) := by rw [e23, u64_add (by omega), d2]
  have d4 : u64 (lush x23 4) = u64 x23 / 16 := by rw [show (4 : Int32) = nI 4 from rfl, u64_ush 4 (by decide)]
  have d33 : u64 x33 = bw (fun b => ct (fun i => b.testBit i) 8) 8 (u64 x) := by
    rw [e33, u64_and, u64_add (by rw [d4, d23]; omega), d4, d23]; exact t2
  have d8 : u64 (lush x33 8) = u64 x33 / 256 := by rw [show (8 : Int32) = nI 8 from rfl, u64_ush 8 (by decide)]
  obtain ⟨y40, h40⟩ : ∃ y, y = u64 x33 + u64 x33 / 256 := ⟨_, rfl⟩
  obtain ⟨y47, h47⟩ : ∃ y, y = y40 + y40 / 65536 := ⟨_, rfl⟩
  obtain ⟨y54, h54⟩ : ∃ y, y = y47 + y47 / 4294967296 := ⟨_, rfl⟩
  obtain ⟨f1, f2, f3, f4⟩ := bsum8 (u64 x) y40 y47 y54 (by rw [h40, d33]) h47 h54
  have d40 : u64 x40 = y40 := by rw [e40, u64_add (by rw [d8, ← h40]; exact f1), d8, ← h40]
  have d16 : u64 (lush x40 16) = u64 x40 / 65536 := by rw [show (16 : Int32) = nI 16 from rfl, u64_ush 16 (by decide)]
  have d47 : u64 x47 = y47 := by rw [e47, u64_add (by rw [d16, d40, ← h47]; exact f2), d16, d40, ← h47]
  have d32 : u64 (lush x47 32) = u64 x47 / 4294967296 := by rw [show (32 : Int32) = nI 32 from rfl, u64_ush 32 (by decide)]
  have d54 : u64 x54 = y54 := by rw [e54, u64_add (by rw [d32, d47, ← h54]; omega), d32, d47, ← h54]
  have c32 : u32 (x54.toInt32) = u64 x54 % 4294967296 := by
    unfold u32 u64
    rw [Int64.toBitVec_toInt32, BitVec.toNat_signExtend, BitVec.toNat_setWidth]
    rw [if_neg]
    · rfl
    · rw [BitVec.msb_eq_decide, decide_eq_true_eq]
      show ¬ 2 ^ 63 ≤ u64 x54
      omega
  have fin : x54.toInt32 &&& 127 = nI (ct (lb x) 64) := by
    refine u32_inj ?_
    rw [u32_and, show u32 127 = 127 from rfl, a127, c32, Nat.mod_mod_of_dvd _ (by decide), d54, f4, sm8_ct, u32_nI (by have := ct_le (lb x) 64; omega)]
    exact ct_cong (fun i _ => BitVec.testBit_toNat _)
  rw [fin]
  exact hq
