/-! PURE PART: a grid, its neighbours, a pass, thinning; the model's methods for it -/
def sX : Nat → Int32
  | 0 => 1
  | 1 => 1
  | 2 => 0
  | 3 => (-1)
  | 4 => (-1)
  | 5 => (-1)
  | 6 => 0
  | _ => 1
def sY : Nat → Int32
  | 0 => 0
  | 1 => 1
  | 2 => 1
  | 3 => 1
  | 4 => 0
  | 5 => (-1)
  | 6 => (-1)
  | _ => (-1)
def dX : Nat → Int
  | 0 => 1
  | 1 => 1
  | 2 => 0
  | 3 => -1
  | 4 => -1
  | 5 => -1
  | 6 => 0
  | _ => 1
def dY : Nat → Int
  | 0 => 0
  | 1 => 1
  | 2 => 1
  | 3 => 1
  | 4 => 0
  | 5 => -1
  | 6 => -1
  | _ => -1
theorem sX_int : ∀ d, d < 8 → (sX d).toInt = dX d ∧ -1 ≤ dX d ∧ dX d ≤ 1 := by decide
theorem sY_int : ∀ d, d < 8 → (sY d).toInt = dY d ∧ -1 ≤ dY d ∧ dY d ≤ 1 := by decide
theorem lt8 {P : Nat → Prop} (h0 : P 0) (h1 : P 1) (h2 : P 2) (h3 : P 3) (h4 : P 4) (h5 : P 5) (h6 : P 6) (h7 : P 7) : ∀ d, d < 8 → P d := fun d hd => by
  rcases (show d = 0 ∨ d = 1 ∨ d = 2 ∨ d = 3 ∨ d = 4 ∨ d = 5 ∨ d = 6 ∨ d = 7 by omega) with rfl | rfl | rfl | rfl | rfl | rfl | rfl | rfl <;> assumption
theorem stepX_ok {n : Nat} {M : mM} {Q : Int32 → mM → Prop} : ∀ d, d < 8 → Q (sX d) M → wpX7_stepX n (nI d) M Q := by
  refine lt8 ?_ ?_ ?_ ?_ ?_ ?_ ?_ ?_
  all_goals
    intro hq
    unfold wpX7_stepX
    repeat' (first | exact hq | exact absurd c (by decide) | refine ⟨fun c => ?_, fun c => ?_⟩)
theorem stepY_ok {n : Nat} {M : mM} {Q : Int32 → mM → Prop} : ∀ d, d < 8 → Q (sY d) M → wpX7_stepY n (nI d) M Q := by
  refine lt8 ?_ ?_ ?_ ?_ ?_ ?_ ?_ ?_
  all_goals
    intro hq
    unfold wpX7_stepY wpX7_stepY_14
    repeat' (first | exact hq | exact absurd c (by decide) | refine ⟨fun c => ?_, fun c => ?_⟩)
/-- how many of the first n -/
def ct (p : Nat → Bool) : Nat → Nat
  | 0 => 0
  | n + 1 => ct p n + (if p n then 1 else 0)
theorem ct_le (p : Nat → Bool) : ∀ n, ct p n ≤ n
  | 0 => Nat.le_refl _
  | n + 1 => by have := ct_le p n; simp only [ct]; split <;> omega
theorem ct_cong {p q : Nat → Bool} : ∀ {n : Nat}, (∀ k, k < n → p k = q k) → ct p n = ct q n
  | 0, _ => rfl
  | n + 1, h => by rw [ct, ct, ct_cong (fun k hk => h k (by omega)), h n (by omega)]
theorem ct_sub {p q : Nat → Bool} : ∀ {n : Nat}, (∀ k, k < n → p k = true → q k = true) → ct p n ≤ ct q n
  | 0, _ => Nat.le_refl _
  | n + 1, h => by
    have h1 := ct_sub (n := n) (fun k hk => h k (by omega))
    have h2 := h n (by omega)
    simp only [ct]
    cases hp : p n with
    | false => simp; omega
    | true => rw [h2 hp]; simp; exact h1
theorem ct_lt {p q : Nat → Bool} : ∀ {n : Nat}, (∀ k, k < n → p k = true → q k = true) → (∃ k, k < n ∧ p k = false ∧ q k = true) → ct p n < ct q n
  | 0, _, ⟨k, hk, _⟩ => absurd hk (by omega)
  | n + 1, h, ⟨k, hk, hp, hq⟩ => by
    simp only [ct]
    rcases Nat.lt_or_ge k n with hk2 | hk2
    · have h1 := ct_lt (n := n) (fun k hk => h k (by omega)) ⟨k, hk2, hp, hq⟩
      have h2 := h n (by omega)
      cases hpn : p n with
      | false => simp; omega
      | true => rw [h2 hpn]; simp; exact h1
    · have : k = n := by omega
      subst this
      have h1 := ct_sub (n := k) (fun j hj => h j (by omega))
      rw [hp, hq]
      simp
      omega
def anyk (p : Nat → Bool) : Nat → Bool
  | 0 => false
  | n + 1 => anyk p n || p n
theorem anyk_iff (p : Nat → Bool) : ∀ n, anyk p n = true ↔ ∃ k, k < n ∧ p k = true
  | 0 => by simp [anyk]
  | n + 1 => by
    rw [anyk, Bool.or_eq_true, anyk_iff p n]
    constructor
    · rintro (⟨k, hk, h⟩ | h)
      · exact ⟨k, by omega, h⟩
      · exact ⟨n, by omega, h⟩
    · rintro ⟨k, hk, h⟩
      rcases Nat.lt_or_ge k n with q | q
      · exact Or.inl ⟨k, q, h⟩
      · have : k = n := by omega
        subst this
        exact Or.inr h
theorem anyk_cong {p q : Nat → Bool} : ∀ {n : Nat}, (∀ k, k < n → p k = q k) → anyk p n = anyk q n
  | 0, _ => rfl
  | n + 1, h => by rw [anyk, anyk, anyk_cong (fun k hk => h k (by omega)), h n (by omega)]
/-- a grid: nothing full beyond the board -/
abbrev Gr : Type := Nat → Nat → Bool
def inG (F : Gr) : Prop := ∀ x y, F x y = true → x < 24 ∧ y < 24
theorem inG_out {F : Gr} (h : inG F) {x y : Nat} (ho : 24 ≤ x ∨ 24 ≤ y) : F x y = false := by
  cases hF : F x y with
  | false => rfl
  | true => have := h x y hF; omega
def FI (F : Gr) (u v : Int) : Bool := if 0 ≤ u ∧ 0 ≤ v then F u.toNat v.toNat else false
def nb (F : Gr) (x y d : Nat) : Bool := FI F (x + dX d) (y + dY d)
def cn8 (f : Nat → Bool) : Nat := ct f 8
def ch8 (f : Nat → Bool) : Nat := ct (fun d => !f d && f ((d + 1) % 8)) 8
def keepB (first : Bool) (f : Nat → Bool) : Bool := if first then (f 2 && f 0 && f 6) || (f 0 && f 6 && f 4) else (f 2 && f 0 && f 4) || (f 2 && f 6 && f 4)
def goesB (first : Bool) (F : Gr) (x y : Nat) : Bool := F x y && decide (2 ≤ cn8 (nb F x y)) && decide (cn8 (nb F x y) ≤ 6) && decide (ch8 (nb F x y) = 1) && !keepB first (nb F x y)
def passG (first : Bool) (F : Gr) : Gr := fun x y => F x y && !goesB first F x y
def anyG (first : Bool) (F : Gr) : Bool := anyk (fun k => goesB first F (k % 24) (k / 24)) 576
theorem passG_in {F : Gr} (h : inG F) (first : Bool) : inG (passG first F) := fun x y hp => h x y (by unfold passG at hp; simp at hp; exact hp.1)
/-- the model's row of full cells holds a grid -/
def holds (F : Gr) (M : mM) : Prop := ∀ u v, u < 24 → v < 24 → M 5 (24 * v + u) = b2i (F u v)
/-- all cells but those are as they were -/
def fr (L : List Nat) (M M1 : mM) : Prop := ∀ c, c ∉ L → M1 c = M c
theorem fr.rf (L : List Nat) (M : mM) : fr L M M := fun _ _ => rfl
theorem fr.tr {L : List Nat} {A B C : mM} (h1 : fr L A B) (h2 : fr L B C) : fr L A C := fun c hc => (h2 c hc).trans (h1 c hc)
theorem fr.mono {L K : List Nat} {A B : mM} (h : fr L A B) (hs : ∀ c, c ∈ L → c ∈ K) : fr K A B := fun c hc => h c (fun z => hc (hs c z))
theorem fr.st {L : List Nat} {M : mM} {c k : Nat} {v : Int32} (h : c ∈ L) : fr L M (st M c k v) := fun d hd => st_ne M k v (fun z => hd (z ▸ h))
theorem st_at (M : mM) (c k : Nat) (v : Int32) : st M c k v c k = v := by rw [st_same]; simp [upd]
theorem st_off (M : mM) {c k j : Nat} (v : Int32) (h : j ≠ k) : st M c k v c j = M c j := by rw [st_same]; simp [upd, h]
theorem nI24 (a b : Nat) : (24 : Int32) * nI a + nI b = nI (24 * a + b) := by rw [show (24 : Int32) = nI 24 from rfl, pk_mul, nI_add]
theorem look_ok {n : Nat} {F : Gr} {M : mM} {x y : Nat} {Q : Int32 → mM → Prop} (hn : 9 ≤ n) (hF : inG F) (hh : holds F M) (hx : x < 24) (hy : y < 24) (hq : ∀ M1, fr [7] M M1 → (∀ d, d < 8 → M1 7 d = b2i (nb F x y d)) → Q (nI (cn8 (nb F x y))) M1) : wpX7_look n (nI x) (nI y) M Q := by
  have loop : ∀ (k d : Nat) (M1 : mM), d ≤ 8 → 8 < d + k → fr [7] M M1 → (∀ j, j < d → M1 7 j = b2i (nb F x y j)) → wpX7_look_5 n Q (nI x) (nI y) k (nI (ct (nb F x y) d)) (nI d) M1 := by
    intro k
    induction k with
    | zero => intro d M1 h1 h2; exact absurd h2 (by omega)
    | succ k ih =>
      intro d M1 h1 h2 hf hb
      rw [wpX7_look_5]
      refine pk_le 8 d (fun h8 => ?_) (fun h8 => ?_)
      · have : d = 8 := by omega
        subst this
        exact hq M1 hf hb
      · have hd : d < 8 := h8
        have key : ∀ (b : Bool), b = nb F x y d → wpX7_look_73 n (wpX7_look_5 n Q (nI x) (nI y) k) (nI x) (nI y) (nI (ct (nb F x y) d)) (nI d) (b2i b) M1 := by
          intro b hbd
          unfold wpX7_look_73
          refine ⟨pk_in d 8 hd, b2i_bz b, fun M2 e2 => ?_⟩
          rw [cl_nI (by omega)] at e2 ⊢
          have hf2 : fr [7] M M2 := by rw [e2]; exact hf.tr (fr.st (by simp))
          have hb2 : ∀ j, j < d + 1 → M2 7 j = b2i (nb F x y j) := fun j hj => by
            rw [e2]
            by_cases hjd : j = d
            · subst hjd; rw [st_at, hbd]
            · rw [st_off _ _ hjd]; exact hb j (by omega)
          rw [hb2 d (by omega), ← hbd]
          have e3 : ct (nb F x y) (d + 1) = ct (nb F x y) d + (if b then 1 else 0) := by rw [ct, hbd]
          have fin : wpX7_look_90 n (wpX7_look_5 n Q (nI x) (nI y) k) (nI x) (nI y) (nI d) (b2i b) (nI (ct (nb F x y) d)) M2 := by
            unfold wpX7_look_90
            intro a ea c ec
            rw [ea, ec, b2i_nI, nI_add, nI_1, ← e3]
            exact ih (d + 1) M2 (by omega) (by omega) hf2 hb2
          refine br_b (fun z => ?_) (fun z => ?_)
          · subst z; exact fin
          · subst z; exact fin
        obtain ⟨a1, a2, a3⟩ := sX_int d hd
        obtain ⟨b1, b2, b3⟩ := sY_int d hd
        refine stepX_ok d hd (fun x5 e5 => stepY_ok d hd (fun x6 e6 => ?_))
        have i5 : x5.toInt = (x : Int) + dX d := by rw [e5, addI (by rw [tI x (by omega), a1]; omega) (by rw [tI x (by omega), a1]; omega), tI x (by omega), a1]
        have i6 : x6.toInt = (y : Int) + dY d := by rw [e6, addI (by rw [tI y (by omega), b1]; omega) (by rw [tI y (by omega), b1]; omega), tI y (by omega), b1]
        rcases i32_cases x5 24 (by omega) with ⟨u, hu, eu⟩ | ho
        · rw [eu] at i5
          rw [tI u (by omega)] at i5
          rw [eu]
          refine isPlace_yes hu (br_1 ?_)
          rcases i32_cases x6 24 (by omega) with ⟨v, hv, ev⟩ | ho
          · rw [ev] at i6
            rw [tI v (by omega)] at i6
            rw [ev]
            refine isPlace_yes hv (br_1 ?_)
            have en : nb F x y d = F u v := by
              unfold nb FI
              rw [if_pos ⟨by omega, by omega⟩, ← i5, ← i6]
              rfl
            rw [nI24]
            refine ⟨pk_in (24 * v + u) 576 (by omega), ?_⟩
            rw [cl_nI (by omega), hf 5 (by simp), hh u v hu hv]
            refine br_b (fun z => ?_) (fun z => ?_)
            · exact key false (by rw [en, z])
            · exact key true (by rw [en, z])
          · refine isPlace_no ho (br_0 (key false ?_))
            unfold nb FI
            rcases ho with ho | ho
            · rw [if_neg (by omega)]
            · split
              · exact (inG_out hF (Or.inr (by omega))).symm
              · rfl
        · refine isPlace_no ho (br_0 (key false ?_))
          unfold nb FI
          rcases ho with ho | ho
          · rw [if_neg (by omega)]
          · split
            · exact (inG_out hF (Or.inl (by omega))).symm
            · rfl
  unfold wpX7_look
  exact loop n 0 M (by omega) (by omega) (fr.rf _ _) (fun j hj => absurd hj (by omega))
theorem changes_ok {n : Nat} {f : Nat → Bool} {M : mM} {Q : Int32 → mM → Prop} (hn : 9 ≤ n) (hb : ∀ d, d < 8 → M 7 d = b2i (f d)) (hq : Q (nI (ch8 f)) M) : wpX7_changes n M Q := by
  have loop : ∀ (k d : Nat), d ≤ 8 → 8 < d + k → wpX7_changes_4 n Q k (nI (ct (fun d => !f d && f ((d + 1) % 8)) d)) (nI d) M := by
    intro k
    induction k with
    | zero => intro d h1 h2; exact absurd h2 (by omega)
    | succ k ih =>
      intro d h1 h2
      rw [wpX7_changes_4]
      refine pk_le 8 d (fun h8 => ?_) (fun h8 => ?_)
      · have : d = 8 := by omega
        subst this
        exact hq
      · have hd : d < 8 := h8
        have key : ∀ b : Bool, b = (!f d && f ((d + 1) % 8)) → wpX7_changes_39 n (wpX7_changes_4 n Q k) (nI d) (b2i b) (nI (ct (fun d => !f d && f ((d + 1) % 8)) d)) M := by
          intro b hbd
          unfold wpX7_changes_39
          intro a ea c ec
          rw [ea, ec, b2i_nI, nI_add, nI_1]
          have e3 : ct (fun d => !f d && f ((d + 1) % 8)) (d + 1) = ct (fun d => !f d && f ((d + 1) % 8)) d + (if b then 1 else 0) := by rw [ct, hbd]
          rw [← e3]
          exact ih (d + 1) (by omega) (by omega)
        refine ⟨pk_in d 8 hd, ?_⟩
        rw [cl_nI (by omega), hb d hd, nI_1, show (8 : Int32) = nI 8 from rfl, pk_rem (by omega) (by omega) (by omega)]
        refine br_bn (fun z => ?_) (fun z => ?_)
        · refine ⟨pk_in ((d + 1) % 8) 8 (by omega), ?_⟩
          rw [cl_nI (by omega), hb _ (by omega)]
          refine br_b (fun z2 => ?_) (fun z2 => ?_)
          · exact key false (by rw [z, z2]; rfl)
          · exact key true (by rw [z, z2]; rfl)
        · exact key false (by rw [z]; rfl)
  unfold wpX7_changes
  exact loop n 0 (by omega) (by omega)
