/-! PURE PART: pairings: counting, a search that fails, a way that is turned over -/
theorem ct_rm {q : Nat → Bool} {j0 : Nat} (hq : q j0 = true) : ∀ {n : Nat}, j0 < n → ct (fun j => q j && decide (j ≠ j0)) n + 1 = ct q n
  | 0, h => absurd h (by omega)
  | n + 1, h => by
    by_cases z : j0 = n
    · subst z
      have e : ct (fun j => q j && decide (j ≠ j0)) j0 = ct q j0 := ct_cong (fun k hk => by rw [decide_eq_true (show k ≠ j0 by omega), Bool.and_true])
      show ct (fun j => q j && decide (j ≠ j0)) j0 + (if (q j0 && decide (j0 ≠ j0)) = true then 1 else 0) + 1 = ct q j0 + (if q j0 = true then 1 else 0)
      rw [e]
      simp [hq]
    · have h2 := ct_rm hq (n := n) (by omega)
      have e3 : (q n && decide (n ≠ j0)) = q n := by rw [decide_eq_true (show n ≠ j0 by omega), Bool.and_true]
      show ct (fun j => q j && decide (j ≠ j0)) n + (if (q n && decide (n ≠ j0)) = true then 1 else 0) + 1 = ct q n + (if q n = true then 1 else 0)
      rw [e3]
      omega
theorem ct_inj {p : Nat → Bool} {f : Nat → Nat} : ∀ {n : Nat} {q : Nat → Bool} {n2 : Nat}, (∀ u, u < n → p u = true → f u < n2 ∧ q (f u) = true) → (∀ u v, u < n → v < n → p u = true → p v = true → f u = f v → u = v) → ct p n ≤ ct q n2
  | 0, _, _, _, _ => Nat.zero_le _
  | n + 1, q, n2, h, hi => by
    simp only [ct]
    cases hp : p n with
    | false =>
      have e := ct_inj (p := p) (f := f) (n := n) (q := q) (n2 := n2) (fun u hu hpu => h u (by omega) hpu) (fun u v hu hv => hi u v (by omega) (by omega))
      simp; exact e
    | true =>
      obtain ⟨a1, a2⟩ := h n (by omega) hp
      have h3 := ct_rm a2 a1
      have e := ct_inj (p := p) (f := f) (n := n) (q := fun j => q j && decide (j ≠ f n)) (n2 := n2) (fun u hu hpu => by
        obtain ⟨b1, b2⟩ := h u (by omega) hpu
        refine ⟨b1, ?_⟩
        have e2 : f u ≠ f n := fun z => by have := hi u n (by omega) (by omega) hpu hp z; omega
        show (q (f u) && decide (f u ≠ f n)) = true
        rw [b2, decide_eq_true e2]; rfl) (fun u v hu hv => hi u v (by omega) (by omega))
      simp; omega
theorem ct_or_le {p p1 p2 : Nat → Bool} : ∀ {n : Nat}, (∀ u, u < n → p u = true → p1 u = true ∨ p2 u = true) → ct p n ≤ ct p1 n + ct p2 n
  | 0, _ => Nat.zero_le _
  | n + 1, h => by
    have h1 := ct_or_le (p := p) (p1 := p1) (p2 := p2) (n := n) (fun u hu => h u (by omega))
    have h2 := h n (by omega)
    simp only [ct]
    cases hp : p n with
    | false => simp; omega
    | true =>
      rcases h2 hp with z | z
      · rw [z]; simp; omega
      · rw [z]; simp; omega
theorem ct_or_ge {p p1 p2 : Nat → Bool} : ∀ {n : Nat}, (∀ u, u < n → p1 u = true → p u = true) → (∀ u, u < n → p2 u = true → p u = true) → (∀ u, u < n → p1 u = true → p2 u = true → False) → ct p1 n + ct p2 n ≤ ct p n
  | 0, _, _, _ => Nat.le_refl _
  | n + 1, h, h', hd => by
    have e := ct_or_ge (p := p) (p1 := p1) (p2 := p2) (n := n) (fun u hu => h u (by omega)) (fun u hu => h' u (by omega)) (fun u hu => hd u (by omega))
    have a1 := h n (by omega)
    have a2 := h' n (by omega)
    have a3 := hd n (by omega)
    simp only [ct]
    cases z1 : p1 n with
    | false =>
      cases z2 : p2 n with
      | false => simp; omega
      | true => rw [a2 z2]; simp; omega
    | true =>
      cases z2 : p2 n with
      | false => rw [a1 z1]; simp; omega
      | true => exact absurd z2 (fun z => a3 z1 z)
theorem ct_up {p q : Nat → Bool} {j : Nat} {n : Nat} (hj : j < n) (h0 : p j = false) (h1 : q j = true) (ho : ∀ k, k < n → k ≠ j → q k = p k) : ct q n = ct p n + 1 := by
  have e := ct_rm h1 hj
  have e2 : ct (fun k => q k && decide (k ≠ j)) n = ct p n := ct_cong (fun k hk => by
    by_cases z : k = j
    · subst z; rw [h0]; simp
    · rw [ho k hk z, decide_eq_true z, Bool.and_true])
  omega
theorem ct_all (n : Nat) : ct (fun _ => true) n = n := by
  induction n with
  | zero => rfl
  | succ n ih => simp only [ct, ih]; simp
/-- a set of pairs, none in two -/
def PR (a : Nat → Nat → Bool) (n1 n2 : Nat) (E : Nat → Nat → Prop) : Prop := (∀ u k, E u k → u < n1 ∧ k < n2 ∧ a u k = true) ∧ (∀ u k l, E u k → E u l → k = l) ∧ ∀ u v k, E u k → E v k → u = v
noncomputable def toM (E : Nat → Nat → Prop) (u : Nat) : Option Nat := @dite _ (∃ k, E u k) (Classical.propDecidable _) (fun h => some h.choose) (fun _ => none)
theorem toM_some {a : Nat → Nat → Bool} {n1 n2 : Nat} {E : Nat → Nat → Prop} (h : PR a n1 n2 E) {u k : Nat} : toM E u = some k ↔ E u k := by
  unfold toM
  by_cases h1 : ∃ k, E u k
  · rw [dif_pos h1]
    constructor
    · intro z
      have z2 := Option.some.inj z
      rw [← z2]; exact h1.choose_spec
    · intro hk
      rw [h.2.1 _ _ _ h1.choose_spec hk]
  · rw [dif_neg h1]
    exact ⟨fun z => (by cases z), fun hk => absurd ⟨k, hk⟩ h1⟩
theorem toM_dom {a : Nat → Nat → Bool} {n1 n2 : Nat} {E : Nat → Nat → Prop} (h : PR a n1 n2 E) {u : Nat} : (toM E u).isSome = true ↔ ∃ k, E u k := by
  rw [Option.isSome_iff_exists]
  exact ⟨fun ⟨k, hk⟩ => ⟨k, (toM_some h).mp hk⟩, fun ⟨k, hk⟩ => ⟨k, (toM_some h).mpr hk⟩⟩
theorem toM_mat {a : Nat → Nat → Bool} {n1 n2 : Nat} {E : Nat → Nat → Prop} (h : PR a n1 n2 E) : Mat a n1 n2 (toM E) :=
  ⟨fun i j hij => h.1 _ _ ((toM_some h).mp hij), fun i1 i2 j h1 h2 => h.2.2 _ _ _ ((toM_some h).mp h1) ((toM_some h).mp h2)⟩
theorem PR_of {a : Nat → Nat → Bool} {n1 n2 : Nat} {m : Nat → Option Nat} (h : Mat a n1 n2 m) : PR a n1 n2 (fun u k => m u = some k) :=
  ⟨h.1, fun u k l h1 h2 => Option.some.inj (h1.symm.trans h2), h.2⟩
theorem IsMax_0 (a : Nat → Nat → Bool) (n2 : Nat) : IsMax a 0 n2 0 := ⟨⟨fun _ => none, ⟨fun i j h => (by cases h), fun i1 i2 j h => (by cases h)⟩, rfl⟩, fun m _ => Nat.le_refl _⟩
/-- where the search from i fails, no pairing of one more is greater -/
theorem max_fail {a : Nat → Nat → Bool} {i n2 c : Nat} {E : Nat → Nat → Prop} (hE : PR a i n2 E) (hx : IsMax a i n2 c) (hs : msz (toM E) i = c) (Rt : Nat → Bool) (c1 : ∀ u k, (u = i ∨ ∃ j, Rt j = true ∧ E u j) → k < n2 → a u k = true → Rt k = true) (c2 : ∀ j, Rt j = true → j < n2 ∧ ∃ u, E u j) : IsMax a (i + 1) n2 c ∧ PR a (i + 1) n2 E ∧ msz (toM E) (i + 1) = c := by
  have hE1 : PR a (i + 1) n2 E := ⟨fun u k h => ⟨by have := (hE.1 u k h).1; omega, (hE.1 u k h).2⟩, hE.2⟩
  have ni : (toM E i).isSome = false := by
    cases z : (toM E i).isSome with
    | false => rfl
    | true =>
      obtain ⟨k, hk⟩ := (toM_dom hE).mp z
      have := (hE.1 _ _ hk).1
      omega
  have hs1 : msz (toM E) (i + 1) = c := by
    unfold msz at hs ⊢
    rw [ct, ni, hs]; rfl
  refine ⟨⟨⟨toM E, toM_mat hE1, hs1⟩, fun m hm => ?_⟩, hE1, hs1⟩
  -- a pairing of one less, as great as m
  have F : ∀ u k, m u = some k → Rt k = false → u ≠ i ∧ ∀ j, E u j → Rt j = false := fun u k h1 h2 => by
    have hh := hm.1 u k h1
    refine ⟨fun z => ?_, fun j hj => ?_⟩
    · have := c1 u k (Or.inl z) hh.2.1 hh.2.2
      rw [h2] at this; cases this
    · cases z : Rt j with
      | false => rfl
      | true =>
        have := c1 u k (Or.inr ⟨j, z, hj⟩) hh.2.1 hh.2.2
        rw [h2] at this; cases this
  have hP : PR a i n2 (fun u k => (E u k ∧ Rt k = true) ∨ (m u = some k ∧ Rt k = false)) := by
    refine ⟨fun u k h => ?_, fun u k l h1 h2 => ?_, fun u v k h1 h2 => ?_⟩
    · rcases h with ⟨h, _⟩ | ⟨h, h2⟩
      · exact hE.1 u k h
      · have hh := hm.1 u k h
        have := (F u k h h2).1
        exact ⟨by omega, hh.2⟩
    · rcases h1 with ⟨h1, r1⟩ | ⟨h1, r1⟩ <;> rcases h2 with ⟨h2, r2⟩ | ⟨h2, r2⟩
      · exact hE.2.1 _ _ _ h1 h2
      · have := (F u l h2 r2).2 k h1
        rw [r1] at this; cases this
      · have := (F u k h1 r1).2 l h2
        rw [r2] at this; cases this
      · exact Option.some.inj (h1.symm.trans h2)
    · rcases h1 with ⟨h1, r1⟩ | ⟨h1, r1⟩ <;> rcases h2 with ⟨h2, r2⟩ | ⟨h2, r2⟩
      · exact hE.2.2 _ _ _ h1 h2
      · rw [r1] at r2; cases r2
      · rw [r1] at r2; cases r2
      · exact hm.2 _ _ _ h1 h2
  have h0 := hx.2 _ (toM_mat hP)
  have p1 : ∃ p1 : Nat → Bool, ∀ u, p1 u = true ↔ ∃ k, m u = some k ∧ Rt k = true := ⟨fun u => match m u with | some k => Rt k | none => false, fun u => by
    cases z : m u with
    | none => simp [z]
    | some k => simp [z]⟩
  have p2 : ∃ p2 : Nat → Bool, ∀ u, p2 u = true ↔ ∃ k, m u = some k ∧ Rt k = false := ⟨fun u => match m u with | some k => !Rt k | none => false, fun u => by
    cases z : m u with
    | none => simp [z]
    | some k => simp [z]⟩
  have q1 : ∃ q1 : Nat → Bool, ∀ u, q1 u = true ↔ ∃ k, E u k ∧ Rt k = true := ⟨fun u => @decide (∃ k, E u k ∧ Rt k = true) (Classical.propDecidable _), fun u => by
    rw [@decide_eq_true_iff _ (Classical.propDecidable _)]⟩
  obtain ⟨p1, hp1⟩ := p1
  obtain ⟨p2, hp2⟩ := p2
  obtain ⟨q1, hq1⟩ := q1
  have s1 : msz m (i + 1) ≤ ct p1 (i + 1) + ct p2 (i + 1) := ct_or_le (fun u _ hu => by
    obtain ⟨k, hk⟩ := Option.isSome_iff_exists.mp hu
    cases z : Rt k with
    | true => exact Or.inl ((hp1 u).mpr ⟨k, hk, z⟩)
    | false => exact Or.inr ((hp2 u).mpr ⟨k, hk, z⟩))
  have s2 : ct p2 (i + 1) = ct p2 i := by
    rw [ct]
    cases z : p2 i with
    | false => simp
    | true =>
      obtain ⟨k, hk, r⟩ := (hp2 i).mp z
      exact absurd rfl (F i k hk r).1
  have s3 : ct p1 (i + 1) ≤ ct Rt n2 := ct_inj (f := fun u => (m u).getD 0) (fun u _ hu => by
    obtain ⟨k, hk, r⟩ := (hp1 u).mp hu
    show (m u).getD 0 < n2 ∧ Rt ((m u).getD 0) = true
    rw [hk]; exact ⟨(hm.1 u k hk).2.1, r⟩) (fun u v _ _ hu hv huv => by
    obtain ⟨k, hk, r⟩ := (hp1 u).mp hu
    obtain ⟨l, hl, r2⟩ := (hp1 v).mp hv
    have huv : (m u).getD 0 = (m v).getD 0 := huv
    rw [hk, hl] at huv
    have huv : k = l := huv
    subst huv
    exact hm.2 _ _ _ hk hl)
  have hf : ∃ f : Nat → Nat, ∀ j, Rt j = true → E (f j) j := by
    refine ⟨fun j => @dite _ (∃ u, E u j) (Classical.propDecidable _) (fun h => h.choose) (fun _ => 0), fun j hj => ?_⟩
    have h1 := (c2 j hj).2
    show E (@dite _ (∃ u, E u j) (Classical.propDecidable _) (fun h => h.choose) (fun _ => 0)) j
    rw [dif_pos h1]
    exact h1.choose_spec
  obtain ⟨f, hf⟩ := hf
  have s4 : ct Rt n2 ≤ ct q1 i := ct_inj (f := f) (fun j _ hj => ⟨(hE.1 _ _ (hf j hj)).1, (hq1 _).mpr ⟨j, hf j hj, hj⟩⟩) (fun j l _ _ hj hl hjl => hE.2.1 _ _ _ (hf j hj) (by rw [hjl]; exact hf l hl))
  have s5 : ct q1 i + ct p2 i ≤ msz (toM (fun u k => (E u k ∧ Rt k = true) ∨ (m u = some k ∧ Rt k = false))) i := ct_or_ge (fun u _ hu => by
    obtain ⟨k, hk, r⟩ := (hq1 u).mp hu
    exact (toM_dom hP).mpr ⟨k, Or.inl ⟨hk, r⟩⟩) (fun u _ hu => by
    obtain ⟨k, hk, r⟩ := (hp2 u).mp hu
    exact (toM_dom hP).mpr ⟨k, Or.inr ⟨hk, r⟩⟩) (fun u _ h1 h2 => by
    obtain ⟨k, hk, r⟩ := (hq1 u).mp h1
    obtain ⟨l, hl, r2⟩ := (hp2 u).mp h2
    have := (F u l hl r2).2 k hk
    rw [r] at this; cases this)
  omega
/-- where it finds a way, there is one pair more -/
theorem max_aug {a : Nat → Nat → Bool} {i n2 c : Nat} {E E1 : Nat → Nat → Prop} (hE : PR a i n2 E) (hE1 : PR a (i + 1) n2 E1) (hx : IsMax a i n2 c) (hs : msz (toM E) i = c) (hd : ∀ u, (∃ k, E1 u k) ↔ ((∃ k, E u k) ∨ u = i)) : IsMax a (i + 1) n2 (c + 1) ∧ msz (toM E1) (i + 1) = c + 1 := by
  have d1 : (toM E1 i).isSome = true := (toM_dom hE1).mpr ((hd i).mpr (Or.inr rfl))
  have d2 : ct (fun u => (toM E1 u).isSome) i = ct (fun u => (toM E u).isSome) i := ct_cong (fun u hu => by
    have e := hd u
    cases z1 : (toM E1 u).isSome <;> cases z2 : (toM E u).isSome
    · rfl
    · have := (toM_dom hE1).mpr (e.mpr (Or.inl ((toM_dom hE).mp z2)))
      rw [z1] at this; cases this
    · rcases e.mp ((toM_dom hE1).mp z1) with z | z
      · have := (toM_dom hE).mpr z
        rw [z2] at this; cases this
      · omega
    · rfl)
  have hs1 : msz (toM E1) (i + 1) = c + 1 := by
    unfold msz at hs ⊢
    rw [ct, d1, d2, hs]; rfl
  refine ⟨⟨⟨toM E1, toM_mat hE1, hs1⟩, fun m hm => ?_⟩, hs1⟩
  have hr : Mat a i n2 (fun u => if u < i then m u else none) := by
    refine ⟨fun u k h => ?_, fun u v k h1 h2 => ?_⟩
    · have h : (if u < i then m u else none) = some k := h
      by_cases z : u < i
      · rw [if_pos z] at h; exact ⟨z, (hm.1 u k h).2⟩
      · rw [if_neg z] at h; cases h
    · have h1 : (if u < i then m u else none) = some k := h1
      have h2 : (if v < i then m v else none) = some k := h2
      by_cases z : u < i
      · by_cases z2 : v < i
        · rw [if_pos z] at h1; rw [if_pos z2] at h2; exact hm.2 _ _ _ h1 h2
        · rw [if_neg z2] at h2; cases h2
      · rw [if_neg z] at h1; cases h1
  have h0 := hx.2 _ hr
  have e : msz (fun u => if u < i then m u else none) i = ct (fun u => (m u).isSome) i := ct_cong (fun u hu => by
    show (if u < i then m u else none).isSome = _
    rw [if_pos hu])
  have e2 : msz m (i + 1) ≤ ct (fun u => (m u).isSome) i + 1 := by
    unfold msz; rw [ct]; split <;> omega
  omega
/-- what a search has found: par is the first one's mark by which the second one's was come to, ord when -/
def Srch (a : Nat → Nat → Bool) (s n2 : Nat) (E0 : Nat → Nat → Prop) (D : Nat → Prop) (par ord : Nat → Nat) : Prop := ∀ k, D k → k < n2 ∧ a (par k) k = true ∧ par k ≤ s ∧ (par k = s ∨ ∃ l, D l ∧ ord l < ord k ∧ E0 (par k) l)
/-- in the midst of the turning over: k is free, all others have as many as they had -/
def Flip (a : Nat → Nat → Bool) (s n2 : Nat) (E0 : Nat → Nat → Prop) (D : Nat → Prop) (ord : Nat → Nat) (E : Nat → Nat → Prop) (k : Nat) : Prop := PR a (s + 1) n2 E ∧ (∀ u, ¬ E u k) ∧ (∀ u, (∃ l, E u l) ↔ ∃ l, E0 u l) ∧ ∀ l, D l → ord l < ord k → ∀ u, E u l ↔ E0 u l
def put1 (E : Nat → Nat → Prop) (v k : Nat) : Nat → Nat → Prop := fun u l => (u = v ∧ l = k) ∨ (u ≠ v ∧ E u l)
theorem put1_PR {a : Nat → Nat → Bool} {s n2 v k : Nat} {E : Nat → Nat → Prop} (h : PR a (s + 1) n2 E) (hk : k < n2) (hv : v ≤ s) (ha : a v k = true) (hf : ∀ u, ¬ E u k) : PR a (s + 1) n2 (put1 E v k) := by
  refine ⟨fun u l hu => ?_, fun u l1 l2 h1 h2 => ?_, fun u w l h1 h2 => ?_⟩
  · rcases hu with ⟨rfl, rfl⟩ | ⟨_, hu⟩
    · exact ⟨by omega, hk, ha⟩
    · exact h.1 u l hu
  · rcases h1 with ⟨p1, q1⟩ | ⟨p1, q1⟩ <;> rcases h2 with ⟨p2, q2⟩ | ⟨p2, q2⟩
    · rw [q1, q2]
    · exact absurd p1 p2
    · exact absurd p2 p1
    · exact h.2.1 _ _ _ q1 q2
  · rcases h1 with ⟨p1, q1⟩ | ⟨p1, q1⟩ <;> rcases h2 with ⟨p2, q2⟩ | ⟨p2, q2⟩
    · rw [p1, p2]
    · rw [q1] at q2; exact absurd q2 (hf _)
    · rw [q2] at q1; exact absurd q1 (hf _)
    · exact h.2.2 _ _ _ q1 q2
theorem flip_last {a : Nat → Nat → Bool} {s n2 k : Nat} {E0 E : Nat → Nat → Prop} {D : Nat → Prop} {par ord : Nat → Nat} (hS : Srch a s n2 E0 D par ord) (h0 : PR a s n2 E0) (hF : Flip a s n2 E0 D ord E k) (hk : D k) (hp : par k = s) : PR a (s + 1) n2 (put1 E s k) ∧ ∀ u, (∃ l, put1 E s k u l) ↔ ((∃ l, E0 u l) ∨ u = s) := by
  obtain ⟨f1, f2, f3, f4⟩ := hF
  obtain ⟨k1, k2, k3, k4⟩ := hS k hk
  rw [hp] at k2
  refine ⟨put1_PR f1 k1 (Nat.le_refl _) k2 f2, fun u => ⟨fun ⟨l, hl⟩ => ?_, fun h => ?_⟩⟩
  · rcases hl with ⟨rfl, _⟩ | ⟨_, hl⟩
    · exact Or.inr rfl
    · exact Or.inl ((f3 u).mp ⟨l, hl⟩)
  · by_cases z : u = s
    · exact ⟨k, Or.inl ⟨z, rfl⟩⟩
    · rcases h with h | h
      · obtain ⟨l, hl⟩ := (f3 u).mpr h
        exact ⟨l, Or.inr ⟨z, hl⟩⟩
      · exact absurd h z
theorem flip_step {a : Nat → Nat → Bool} {s n2 k : Nat} {E0 E : Nat → Nat → Prop} {D : Nat → Prop} {par ord : Nat → Nat} (hS : Srch a s n2 E0 D par ord) (h0 : PR a s n2 E0) (hF : Flip a s n2 E0 D ord E k) (hk : D k) (hp : par k ≠ s) : ∃ l, D l ∧ ord l < ord k ∧ E0 (par k) l ∧ E (par k) l ∧ l ≠ k ∧ Flip a s n2 E0 D ord (put1 E (par k) k) l := by
  obtain ⟨f1, f2, f3, f4⟩ := hF
  obtain ⟨k1, k2, k3, k4⟩ := hS k hk
  rcases k4 with k4 | ⟨l, l1, l2, l3⟩
  · exact absurd k4 hp
  have hEl : E (par k) l := (f4 l l1 l2 _).mpr l3
  have hlk : l ≠ k := fun z => by rw [z] at l2; omega
  refine ⟨l, l1, l2, l3, hEl, hlk, put1_PR f1 k1 k3 k2 f2, fun u hu => ?_, fun u => ?_, fun j hj hjl u => ?_⟩
  · rcases hu with ⟨_, z⟩ | ⟨z, hu⟩
    · exact hlk z
    · exact z (f1.2.2 _ _ _ hu hEl)
  · by_cases z : u = par k
    · subst z
      exact ⟨fun _ => ⟨l, l3⟩, fun _ => ⟨k, Or.inl ⟨rfl, rfl⟩⟩⟩
    · constructor
      · rintro ⟨j, hj⟩
        rcases hj with ⟨z2, _⟩ | ⟨_, hj⟩
        · exact absurd z2 z
        · exact (f3 u).mp ⟨j, hj⟩
      · intro h
        obtain ⟨j, hj⟩ := (f3 u).mpr h
        exact ⟨j, Or.inr ⟨z, hj⟩⟩
  · have hjk : ord j < ord k := by omega
    constructor
    · intro h
      rcases h with ⟨_, z⟩ | ⟨_, h⟩
      · rw [z] at hjk; omega
      · exact (f4 j hj hjk u).mp h
    · intro h
      have h2 := (f4 j hj hjk u).mpr h
      refine Or.inr ⟨fun z => ?_, h2⟩
      rw [z] at h2
      have := f1.2.1 _ _ _ h2 hEl
      rw [this] at hjl; omega
/-- no more pairs than marks of either side that agree with any -/
theorem max_left {a : Nat → Nat → Bool} {n1 n2 c : Nat} (hx : IsMax a n1 n2 c) (p : Nat → Bool) (hp : ∀ u k, u < n1 → k < n2 → a u k = true → p u = true) : c ≤ ct p n1 := by
  obtain ⟨⟨m, hm, hs⟩, _⟩ := hx
  rw [← hs]
  exact ct_sub (fun u hu h => by
    obtain ⟨k, hk⟩ := Option.isSome_iff_exists.mp h
    exact hp u k hu (hm.1 u k hk).2.1 (hm.1 u k hk).2.2)
theorem max_right {a : Nat → Nat → Bool} {n1 n2 c : Nat} (hx : IsMax a n1 n2 c) (p : Nat → Bool) (hp : ∀ u k, u < n1 → k < n2 → a u k = true → p k = true) : c ≤ ct p n2 := by
  obtain ⟨⟨m, hm, hs⟩, _⟩ := hx
  rw [← hs]
  exact ct_inj (f := fun u => (m u).getD 0) (fun u hu h => by
    obtain ⟨k, hk⟩ := Option.isSome_iff_exists.mp h
    show (m u).getD 0 < n2 ∧ p ((m u).getD 0) = true
    rw [hk]
    exact ⟨(hm.1 u k hk).2.1, hp u k hu (hm.1 u k hk).2.1 (hm.1 u k hk).2.2⟩) (fun u v _ _ hu hv huv => by
    obtain ⟨k, hk⟩ := Option.isSome_iff_exists.mp hu
    obtain ⟨l, hl⟩ := Option.isSome_iff_exists.mp hv
    have huv : (m u).getD 0 = (m v).getD 0 := huv
    rw [hk, hl] at huv
    have huv : k = l := huv
    subst huv
    exact hm.2 _ _ _ hk hl)
theorem IsMax_cong {a b : Nat → Nat → Bool} {n1 n2 c : Nat} (h : ∀ u k, u < n1 → k < n2 → a u k = b u k) (hx : IsMax a n1 n2 c) : IsMax b n1 n2 c := by
  have mm : ∀ {x y : Nat → Nat → Bool} {m : Nat → Option Nat}, (∀ u k, u < n1 → k < n2 → x u k = y u k) → Mat x n1 n2 m → Mat y n1 n2 m := fun hxy hm => ⟨fun i j hij => by
    have q := hm.1 i j hij
    exact ⟨q.1, q.2.1, by rw [← hxy i j q.1 q.2.1]; exact q.2.2⟩, hm.2⟩
  obtain ⟨⟨m, hm, hs⟩, hu⟩ := hx
  exact ⟨⟨m, mm h hm, hs⟩, fun m hm => hu m (mm (fun u k h1 h2 => (h u k h1 h2).symm) hm)⟩
/-- no count is above the bound of the two -/
theorem cnt_bnd {L1 L2 : List Mk} {T t c : Nat} {dx dy : Int} (h1 : ∀ m ∈ L1, mkOk m) (h2 : ∀ m ∈ L2, mkOk m) (hc : cntIs L1 L2 T t dx dy c) : c ≤ bnd L1 L2 := by
  obtain ⟨⟨m, hm, hs⟩, _⟩ := hc
  -- an end agrees with an end
  have ee : ∀ u k, m u = some k → (decide ((mget L1 u).2.2 < 8) = decide ((mget L2 k).2.2 < 8)) := fun u k hk => by
    have q := (hm.1 u k hk).2.2
    have a8 := (mget_ok h1 u).2.2.2.2
    have b8 := (mget_ok h2 k).2.2.2.2
    unfold agB at q
    rw [Bool.and_eq_true] at q
    have q1 := q.1
    have es : srt t (mget L1 u).2.2 = 8 ↔ (mget L1 u).2.2 = 8 := by unfold srt; split <;> omega
    by_cases z : (mget L1 u).2.2 = 8
    · rw [if_pos (Or.inl (es.mpr z)), decide_eq_true_eq, es.mpr z] at q1
      rw [decide_eq_false (by omega), decide_eq_false (by omega)]
    · by_cases z2 : (mget L2 k).2.2 = 8
      · rw [if_pos (Or.inr z2), decide_eq_true_eq, z2] at q1
        exact absurd (es.mp q1) z
      · rw [decide_eq_true (by omega), decide_eq_true (by omega)]
  have split : ∀ s : Bool, ct (fun u => (m u).isSome && (decide ((mget L1 u).2.2 < 8) == s)) L1.length ≤ ct (fun u => decide ((mget L1 u).2.2 < 8) == s) L1.length ∧ ct (fun u => (m u).isSome && (decide ((mget L1 u).2.2 < 8) == s)) L1.length ≤ ct (fun u => decide ((mget L2 u).2.2 < 8) == s) L2.length := fun s => by
    refine ⟨ct_sub (fun u _ h => by rw [Bool.and_eq_true] at h; exact h.2), ct_inj (f := fun u => (m u).getD 0) (fun u hu h => ?_) (fun u v _ _ hu hv huv => ?_)⟩
    · rw [Bool.and_eq_true] at h
      obtain ⟨k, hk⟩ := Option.isSome_iff_exists.mp h.1
      show (m u).getD 0 < _ ∧ (decide ((mget L2 ((m u).getD 0)).2.2 < 8) == s) = true
      rw [hk]
      refine ⟨(hm.1 u k hk).2.1, ?_⟩
      show (decide ((mget L2 k).2.2 < 8) == s) = true
      rw [← ee u k hk]; exact h.2
    · rw [Bool.and_eq_true] at hu hv
      obtain ⟨k, hk⟩ := Option.isSome_iff_exists.mp hu.1
      obtain ⟨l, hl⟩ := Option.isSome_iff_exists.mp hv.1
      have huv : (m u).getD 0 = (m v).getD 0 := huv
      rw [hk, hl] at huv
      have huv : k = l := huv
      subst huv
      exact hm.2 _ _ _ hk hl
  have s1 := split true
  have s2 := split false
  have s3 : msz m L1.length ≤ ct (fun u => (m u).isSome && (decide ((mget L1 u).2.2 < 8) == true)) L1.length + ct (fun u => (m u).isSome && (decide ((mget L1 u).2.2 < 8) == false)) L1.length := ct_or_le (fun u _ h => by
    rw [h]
    cases decide ((mget L1 u).2.2 < 8) <;> simp)
  have cE : ∀ L : List Mk, ct (fun u => decide ((mget L u).2.2 < 8) == true) L.length = endsN L := fun L => ct_cong (fun u _ => by simp)
  have cF : ∀ L : List Mk, ct (fun u => decide ((mget L u).2.2 < 8) == false) L.length = L.length - endsN L := fun L => by
    have e := ct_not (fun u => decide ((mget L u).2.2 < 8)) L.length
    have e2 : ct (fun u => decide ((mget L u).2.2 < 8) == false) L.length = ct (fun u => !decide ((mget L u).2.2 < 8)) L.length := ct_cong (fun u _ => by cases decide ((mget L u).2.2 < 8) <;> rfl)
    rw [e2]
    unfold endsN
    omega
  rw [cE, cE] at s1
  rw [cF, cF] at s2
  unfold bnd
  omega
