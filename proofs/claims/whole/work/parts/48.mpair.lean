/-! PURE PART: the model pairs as many as can be -/
/-- who is paired with whom; partners are none or lower than i -/
def pE (M : mM) (n2 : Nat) : Nat → Nat → Prop := fun u k => k < n2 ∧ u < 40 ∧ M 13 k = nI u
def pV (M : mM) (i n2 : Nat) : Prop := ∀ k, k < 40 → (M 13 k = -1 ∨ ∃ u, u < i ∧ k < n2 ∧ M 13 k = nI u)
theorem turn24 {n : Nat} {E : Int32 → mM → Prop} {x2 x3 x5 : Int32} {M : mM} (hn : 50 ≤ n) (hE : ∀ y, ((y = -1 ∧ ∀ o, o < 40 → ¬ M 13 o = x5) ∨ (∃ o, o < 40 ∧ y = nI o ∧ M 13 o = x5)) → E y M) : wpX7_turnOver_24 n E x2 x3 x5 n (-1) 0 M := by
  have loop : ∀ (k j : Nat) (y : Int32), j ≤ 40 → 40 < j + k → ((y = -1 ∧ ∀ o, o < j → ¬ M 13 o = x5) ∨ (∃ o, o < 40 ∧ y = nI o ∧ M 13 o = x5)) → wpX7_turnOver_24 n E x2 x3 x5 k y (nI j) M := by
    intro k
    induction k with
    | zero => intro j y h1 h2; exact absurd h2 (by omega)
    | succ k ih =>
      intro j y h1 h2 hy
      rw [wpX7_turnOver_24]
      refine pk_le 40 j (fun z => ?_) (fun z => ?_)
      · have e : j = 40 := by omega
        subst e
        exact hE y hy
      · refine ⟨pk_in j 40 z, ?_⟩
        rw [cl_nI (by omega)]
        refine ⟨fun w => ?_, fun w => ?_⟩
        · unfold wpX7_turnOver_50
          intro c ec
          rw [ec, nI_1]
          refine ih (j + 1) y (by omega) (by omega) ?_
          rcases hy with ⟨q1, q2⟩ | q
          · refine Or.inl ⟨q1, fun o ho => ?_⟩
            by_cases zz : o = j
            · rw [zz]; exact w
            · exact q2 o (by omega)
          · exact Or.inr q
        · unfold wpX7_turnOver_50
          intro c ec
          rw [ec, nI_1]
          exact ih (j + 1) (nI j) (by omega) (by omega) (Or.inr ⟨j, z, rfl, w⟩)
  exact loop n 0 (-1) (by omega) (by omega) (Or.inl ⟨rfl, fun o ho => absurd ho (by omega)⟩)
theorem turnOver_ok {n s n2 : Nat} {a : Nat → Nat → Bool} {E0 : Nat → Nat → Prop} {D : Nat → Prop} {par ord : Nat → Nat} {M0 : mM} {Q : mM → Prop} (hn : 50 ≤ n) (hs : s < 40) (hn2 : n2 ≤ 40) (hS : Srch a s n2 E0 D par ord) (h0 : PR a s n2 E0)
    (hQ : ∀ M1, fr [13] M0 M1 → pV M1 (s + 1) n2 → PR a (s + 1) n2 (pE M1 n2) → (∀ u, (∃ l, pE M1 n2 u l) ↔ ((∃ l, E0 u l) ∨ u = s)) → Q M1) (h14 : ∀ l, D l → M0 14 l = nI (par l)) : ∀ (f k : Nat) (M : mM), ord k + 1 < f → D k → fr [13] M0 M → pV M (s + 1) n2 → Flip a s n2 E0 D ord (pE M n2) k → wpX7_turnOver_5 n Q (nI s) f (nI k) 1 M := by
  intro f
  induction f with
  | zero => intro k M h1; exact absurd h1 (by omega)
  | succ f ih =>
    intro k M hf hk hfr hv hF
    obtain ⟨k1, k2, k3, k4⟩ := hS k hk
    have ev : M 14 k = nI (par k) := by rw [hfr 14 (by simp)]; exact h14 k hk
    have kfree : M 13 k = -1 := by
      rcases hv k (by omega) with z | ⟨u, u1, u2, u3⟩
      · exact z
      · exact absurd ⟨u2, by omega, u3⟩ (hF.2.1 u)
    rw [wpX7_turnOver_5]
    refine br_1 ⟨pk_in k 40 (by omega), ?_⟩
    rw [cl_nI (by omega), ev]
    intro x5 e5
    rw [e5]
    refine turn24 hn (fun y hy => ⟨pk_in k 40 (by omega), fun M1 eM1 => ?_⟩)
    have p13 : ∀ l, l ≠ k → M1 13 l = M 13 l := fun l hl => by rw [eM1, st_off _ _ hl]
    have p13k : M1 13 k = nI (par k) := by rw [eM1, st_at]
    have v1 : pV M1 (s + 1) n2 := fun l hl => by
      by_cases z : l = k
      · subst z; exact Or.inr ⟨par l, by omega, k1, p13k⟩
      · rw [p13 l z]; exact hv l hl
    have fr1 : fr [13] M0 M1 := by rw [eM1]; exact hfr.tr (fr.st (by simp))
    by_cases hp : par k = s
    · -- the end of the way
      have none : y = -1 ∧ ∀ o, o < 40 → ¬ M 13 o = nI (par k) := by
        rcases hy with z | ⟨o, o1, o2, o3⟩
        · exact z
        · exfalso
          rcases hv o o1 with z | ⟨u, u1, u2, u3⟩
          · rw [z] at o3; exact nI_m1 (by omega) o3.symm
          · have hE : pE M n2 (par k) o := ⟨u2, by omega, o3⟩
            obtain ⟨l, hl⟩ := (hF.2.2.1 (par k)).mp ⟨o, hE⟩
            have := (h0.1 _ _ hl).1
            omega
      refine br_i none.1 ?_
      unfold wpX7_turnOver_86 wpX7_turnOver_97
      refine br_i (by rw [hp]) ?_
      have e : pE M1 n2 = put1 (pE M n2) s k := by
        funext u l
        refine propext ⟨fun ⟨q1, q2, q3⟩ => ?_, fun h => ?_⟩
        · by_cases z : l = k
          · subst z
            rw [p13k] at q3
            exact Or.inl ⟨by rw [← hp]; exact (nI_inj (by omega) (by omega) q3).symm, rfl⟩
          · rw [p13 l z] at q3
            refine Or.inr ⟨fun w => ?_, q1, q2, q3⟩
            rw [w, ← hp] at q3
            exact none.2 l (by omega) q3
        · rcases h with ⟨q1, q2⟩ | ⟨q1, q2, q3, q4⟩
          · rw [q1, q2]; exact ⟨k1, hs, by rw [p13k, hp]⟩
          · refine ⟨q2, q3, ?_⟩
            by_cases z : l = k
            · subst z; rw [kfree] at q4; exact absurd q4.symm (nI_m1 (by omega))
            · rw [p13 l z]; exact q4
      obtain ⟨g1, g2⟩ := flip_last hS h0 hF hk hp
      rw [← e] at g1
      have g2' : ∀ u, (∃ l, pE M1 n2 u l) ↔ ((∃ l, E0 u l) ∨ u = s) := by rw [e]; exact g2
      cases f with
      | zero => omega
      | succ f => rw [wpX7_turnOver_5]; exact br_0 (hQ M1 fr1 v1 g1 g2')
    · obtain ⟨l, l1, l2, l3, l4, l5, l6⟩ := flip_step hS h0 hF hk hp
      have hl2 : l < n2 := l4.1
      have was : y = nI l := by
        rcases hy with ⟨_, z⟩ | ⟨o, o1, o2, o3⟩
        · exact absurd l4.2.2 (z l (by omega))
        · rcases hv o o1 with z | ⟨u, u1, u2, u3⟩
          · rw [z] at o3; exact absurd o3.symm (nI_m1 (by omega))
          · have hE : pE M n2 (par k) o := ⟨u2, by omega, o3⟩
            rw [o2, hF.1.2.1 _ _ _ hE l4]
      refine br_e (by rw [was]; exact nI_m1 (by omega)) ?_
      refine br_e (by rw [was]; exact fun z => l5 (nI_inj (by omega) (by omega) z)) ?_
      rw [was]
      refine ⟨pk_in l 40 (by omega), fun M2 eM2 => ?_⟩
      rw [cl_nI (by omega)] at eM2
      have r13 : ∀ j, j ≠ l → M2 13 j = M1 13 j := fun j hj => by rw [eM2, st_off _ _ hj]
      have r13l : M2 13 l = -1 := by rw [eM2, st_at]
      unfold wpX7_turnOver_86 wpX7_turnOver_97
      refine br_e (fun z => hp (nI_inj (by omega) (by omega) z)) ?_
      have e : pE M2 n2 = put1 (pE M n2) (par k) k := by
        funext u j
        refine propext ⟨fun ⟨q1, q2, q3⟩ => ?_, fun h => ?_⟩
        · have jl : j ≠ l := fun z => by rw [z, r13l] at q3; exact nI_m1 (by omega) q3.symm
          rw [r13 j jl] at q3
          by_cases z : j = k
          · subst z
            rw [p13k] at q3
            exact Or.inl ⟨(nI_inj (by omega) (by omega) q3).symm, rfl⟩
          · rw [p13 j z] at q3
            have hEj : pE M n2 u j := ⟨q1, q2, q3⟩
            refine Or.inr ⟨fun w => ?_, hEj⟩
            rw [w] at hEj
            exact jl (hF.1.2.1 _ _ _ hEj l4)
        · rcases h with ⟨q1, q2⟩ | ⟨q1, hEj⟩
          · rw [q1, q2]; exact ⟨k1, by omega, by rw [r13 k (Ne.symm l5), p13k]⟩
          · have jl : j ≠ l := fun z => by rw [z] at hEj; exact q1 (hF.1.2.2 _ _ _ hEj l4)
            have jk : j ≠ k := fun z => by rw [z] at hEj; exact hF.2.1 u hEj
            exact ⟨hEj.1, hEj.2.1, by rw [r13 j jl, p13 j jk]; exact hEj.2.2⟩
      rw [← e] at l6
      refine ih l M2 (by omega) l1 (by rw [eM2]; exact fr1.tr (fr.st (by simp))) (fun j hj => ?_) l6
      by_cases z : j = l
      · rw [z, r13l]; exact Or.inl rfl
      · rw [r13 j z]; exact v1 j hj
/-- the search of the model: which it has come to, when, and whose turn it is -/
def mB (a : Nat → Nat → Bool) (s n2 : Nat) (M : mM) (ord : Nat → Nat) (tail : Nat) : Prop :=
  (∀ k, k < n2 → ¬ M 14 k = -1 → 1 ≤ ord k ∧ ord k < tail ∧ ¬ M 13 k = -1 ∧ M 15 (ord k) = M 13 k ∧ ∃ h u, h < ord k ∧ u ≤ s ∧ M 15 h = nI u ∧ M 14 k = nI u ∧ a u k = true) ∧
  (∀ t, 1 ≤ t → t < tail → ∃ k, k < n2 ∧ (¬ M 14 k = -1) ∧ ord k = t) ∧ M 15 0 = nI s ∧ ct (fun k => decide (¬ M 14 k = -1)) n2 + 1 = tail
theorem mB_q {a : Nat → Nat → Bool} {s n2 : Nat} {M : mM} {ord : Nat → Nat} {tail : Nat} (h : mB a s n2 M ord tail) (hv : pV M s n2) (hn2 : n2 ≤ 40) {t : Nat} (ht : t < tail) : ∃ u, u ≤ s ∧ M 15 t = nI u ∧ (t = 0 → u = s) ∧ (1 ≤ t → ∃ k, k < n2 ∧ (¬ M 14 k = -1) ∧ ord k = t ∧ M 13 k = nI u) := by
  obtain ⟨h1, h2, h3, h4⟩ := h
  rcases Nat.eq_zero_or_pos t with z | z
  · subst z; exact ⟨s, Nat.le_refl _, h3, fun _ => rfl, fun q => absurd q (by omega)⟩
  · obtain ⟨k, k1, k2, k3⟩ := h2 t z ht
    obtain ⟨a1, a2, a3, a4, _⟩ := h1 k k1 k2
    rcases hv k (by omega) with w | ⟨u, u1, u2, u3⟩
    · exact absurd w a3
    · exact ⟨u, by omega, by rw [← k3, a4, u3], fun q => absurd q (by omega), fun _ => ⟨k, k1, k2, k3, u3⟩⟩
/-- what it has come to, and one more that is free -/
theorem mB_S {a : Nat → Nat → Bool} {s n2 : Nat} {M : mM} {ord : Nat → Nat} {tail : Nat} (h : mB a s n2 M ord tail) (hv : pV M s n2) (hs : s < 40) (hn2 : n2 ≤ 40) {j t u : Nat} (hj : j < n2) (hj14 : M 14 j = -1) (ht : t < tail) (hu : M 15 t = nI u) (hus : u ≤ s) (ha : a u j = true) : Srch a s n2 (pE M n2) (fun k => k = j ∨ (k < n2 ∧ ¬ M 14 k = -1)) (fun k => if k = j then u else (M 14 k).toNatClampNeg) (fun k => if k = j then tail else ord k) := by
  have chain : ∀ (h' v : Nat), h' < tail → M 15 h' = nI v → v ≤ s → v = s ∨ ∃ l, (l < n2 ∧ ¬ M 14 l = -1) ∧ ord l = h' ∧ pE M n2 v l := fun h' v q1 q2 q3 => by
    obtain ⟨w, w1, w2, w3, w4⟩ := mB_q h hv hn2 q1
    have : w = v := nI_inj (by omega) (by omega) (w2.symm.trans q2)
    subst this
    rcases Nat.eq_zero_or_pos h' with z | z
    · exact Or.inl (w3 z)
    · obtain ⟨k, k1, k2, k3, k4⟩ := w4 z
      exact Or.inr ⟨k, ⟨k1, k2⟩, k3, k1, by omega, k4⟩
  intro k hk
  have hk : k = j ∨ (k < n2 ∧ ¬ M 14 k = -1) := hk
  show k < n2 ∧ a (if k = j then u else (M 14 k).toNatClampNeg) k = true ∧ (if k = j then u else (M 14 k).toNatClampNeg) ≤ s ∧ ((if k = j then u else (M 14 k).toNatClampNeg) = s ∨ ∃ l, (l = j ∨ (l < n2 ∧ ¬ M 14 l = -1)) ∧ (if l = j then tail else ord l) < (if k = j then tail else ord k) ∧ pE M n2 (if k = j then u else (M 14 k).toNatClampNeg) l)
  by_cases z : k = j
  · subst z
    rw [if_pos rfl, if_pos rfl]
    refine ⟨hj, ha, hus, ?_⟩
    rcases chain t u ht hu hus with q | ⟨l, l1, l2, l3⟩
    · exact Or.inl q
    · have lk : l ≠ k := fun w => by rw [w] at l1; exact l1.2 hj14
      exact Or.inr ⟨l, Or.inr l1, by rw [if_neg lk]; omega, l3⟩
  · rcases hk with q | hk
    · exact absurd q z
    · obtain ⟨a1, a2, a3, a4, h', v, q1, q2, q3, q4, q5⟩ := h.1 k hk.1 hk.2
      rw [if_neg z, if_neg z]
      have ev : (M 14 k).toNatClampNeg = v := by rw [q4, cl_nI (by omega)]
      rw [ev]
      refine ⟨hk.1, q5, q2, ?_⟩
      rcases chain h' v (by omega) q3 q2 with q | ⟨l, l1, l2, l3⟩
      · exact Or.inl q
      · have lj : l ≠ j := fun w => by rw [w] at l1; exact l1.2 hj14
        exact Or.inr ⟨l, Or.inr l1, by rw [if_neg lj]; omega, l3⟩
/-- one more that has a partner -/
theorem mB_push {a : Nat → Nat → Bool} {s n2 : Nat} {M M1 : mM} {ord : Nat → Nat} {tail : Nat} (h : mB a s n2 M ord tail) {j t u : Nat} (hj : j < n2) (hj14 : M 14 j = -1) (hj13 : ¬ M 13 j = -1) (ht : t < tail) (hus : u ≤ s) (hs : s < 40) (hu : M 15 t = nI u) (ha : a u j = true) (e1 : M1 = st (st M 14 j (nI u)) 15 tail (M 13 j)) : mB a s n2 M1 (fun k => if k = j then tail else ord k) (tail + 1) := by
  have e13 : M1 13 = M 13 := by rw [e1, st_ne _ _ _ (by decide), st_ne _ _ _ (by decide)]
  have e14j : M1 14 j = nI u := by rw [e1, st_ne _ _ _ (by decide), st_at]
  have e14 : ∀ k, k ≠ j → M1 14 k = M 14 k := fun k hk => by rw [e1, st_ne _ _ _ (by decide), st_off _ _ hk]
  have e15t : M1 15 tail = M 13 j := by rw [e1, st_at]
  have e15 : ∀ k, k ≠ tail → M1 15 k = M 15 k := fun k hk => by rw [e1, st_off _ _ hk, st_ne _ _ _ (by decide)]
  obtain ⟨h1, h2, h3, h4⟩ := h
  refine ⟨fun k hk hk14 => ?_, fun t2 a1 a2 => ?_, ?_, ?_⟩
  · dsimp only
    by_cases z : k = j
    · subst z
      rw [if_pos rfl]
      exact ⟨by omega, by omega, by rw [e13]; exact hj13, by rw [e15t, e13], t, u, ht, hus, by rw [e15 t (by omega)]; exact hu, e14j, ha⟩
    · rw [e14 k z] at hk14 ⊢
      obtain ⟨b1, b2, b3, b4, h', v, q1, q2, q3, q4, q5⟩ := h1 k hk hk14
      rw [if_neg z, e13]
      exact ⟨b1, by omega, b3, by rw [e15 _ (by omega)]; exact b4, h', v, q1, q2, by rw [e15 _ (by omega)]; exact q3, q4, q5⟩
  · by_cases z : t2 = tail
    · exact ⟨j, hj, by rw [e14j]; exact nI_m1 (by omega), by dsimp only; rw [if_pos rfl, z]⟩
    · obtain ⟨k, k1, k2, k3⟩ := h2 t2 a1 (by omega)
      have kj : k ≠ j := fun w => by rw [w] at k2; exact k2 hj14
      exact ⟨k, k1, by rw [e14 k kj]; exact k2, by dsimp only; rw [if_neg kj]; exact k3⟩
  · rw [e15 0 (by omega)]; exact h3
  · rw [← h4, ct_up (p := fun k => decide (¬ M 14 k = -1)) (q := fun k => decide (¬ M1 14 k = -1)) hj (decide_eq_false (fun w => w hj14)) (decide_eq_true (by rw [e14j]; exact nI_m1 (by omega))) (fun k _ hk => by show decide (¬ M1 14 k = -1) = decide (¬ M 14 k = -1); rw [e14 k hk])]
theorem mB_tail {a : Nat → Nat → Bool} {s n2 : Nat} {M : mM} {ord : Nat → Nat} {tail : Nat} (h : mB a s n2 M ord tail) : 1 ≤ tail ∧ tail ≤ n2 + 1 := by
  have e := h.2.2.2
  have e2 := ct_le (fun k => decide (¬ M 14 k = -1)) n2
  omega
theorem mB_tail2 {a : Nat → Nat → Bool} {s n2 : Nat} {M : mM} {ord : Nat → Nat} {tail : Nat} (h : mB a s n2 M ord tail) {j : Nat} (hj : j < n2) (hj14 : M 14 j = -1) : tail ≤ n2 := by
  have e := h.2.2.2
  have e2 : ct (fun k => decide (¬ M 14 k = -1)) n2 < ct (fun _ => true) n2 := ct_lt (fun _ _ _ => rfl) ⟨j, hj, decide_eq_false (fun w => w hj14), rfl⟩
  rw [ct_all] at e2
  omega
theorem pair2_ok {n n2 : Nat} {E : mM → Prop} {x1 : Int32} {M : mM} (hn : 50 ≤ n) (hn2 : n2 ≤ 40) (hE : ∀ M1, fr [14] M M1 → (∀ k, k < n2 → M1 14 k = -1) → E M1) : wpX7_pair_2 n E x1 (nI n2) n 0 M := by
  have loop : ∀ (k j : Nat) (M1 : mM), j ≤ n2 → n2 < j + k → fr [14] M M1 → (∀ l, l < j → M1 14 l = -1) → wpX7_pair_2 n E x1 (nI n2) k (nI j) M1 := by
    intro k
    induction k with
    | zero => intro j M1 h1 h2; exact absurd h2 (by omega)
    | succ k ih =>
      intro j M1 h1 h2 hf hl
      rw [wpX7_pair_2]
      refine pk_le n2 j (fun z => ?_) (fun z => ?_)
      · have e : j = n2 := by omega
        subst e
        exact hE M1 hf hl
      · refine ⟨pk_in j 40 (by omega), fun M2 e2 c ec => ?_⟩
        rw [cl_nI (by omega)] at e2
        rw [ec, nI_1]
        refine ih (j + 1) M2 (by omega) (by omega) (by rw [e2]; exact hf.tr (fr.st (by simp))) (fun l h => ?_)
        rw [e2]
        by_cases zz : l = j
        · rw [zz, st_at]
        · rw [st_off _ _ zz]; exact hl l (by omega)
  exact loop n 0 M (by omega) (by omega) (fr.rf _ _) (fun l h => absurd h (by omega))
theorem pair_ok {n s n2 : Nat} {a : Nat → Nat → Bool} {M0 : mM} {Q : Int32 → mM → Prop} (hn : 100 ≤ n) (hs : s < 40) (hn2 : n2 ≤ 40) (ha : agT a (s + 1) n2 M0) (hv : pV M0 s n2) (hP : PR a s n2 (pE M0 n2))
    (hno : ∀ M1, fr [13, 14, 15] M0 M1 → M1 13 = M0 13 → (∃ Rt : Nat → Bool, (∀ u k, (u = s ∨ ∃ j, Rt j = true ∧ pE M0 n2 u j) → k < n2 → a u k = true → Rt k = true) ∧ ∀ j, Rt j = true → j < n2 ∧ ∃ u, pE M0 n2 u j) → Q 0 M1)
    (hyes : ∀ M1, fr [13, 14, 15] M0 M1 → pV M1 (s + 1) n2 → PR a (s + 1) n2 (pE M1 n2) → (∀ u, (∃ l, pE M1 n2 u l) ↔ ((∃ l, pE M0 n2 u l) ∨ u = s)) → Q 1 M1) : wpX7_pair n (nI s) (nI n2) M0 Q := by
  unfold wpX7_pair
  refine pair2_ok (by omega) hn2 (fun Ma fa ha14 Mb eb => ?_)
  have eb13 : Mb 13 = M0 13 := by rw [eb, st_ne _ _ _ (by decide), fa 13 (by simp)]
  -- found: the way is turned over
  have found : ∀ (M : mM) (ord : Nat → Nat) (tail t j u : Nat) (M1 : mM), fr [14, 15] M0 M → mB a s n2 M ord tail → j < n2 → M 14 j = -1 → M 13 j = -1 → t < tail → M 15 t = nI u → u ≤ s → a u j = true → M1 = st M 14 j (nI u) → wpX7_turnOver n (nI j) (nI s) M1 (fun M112 => (bz 1 ∧ Q 1 M112)) := fun M ord tail t j u M1 hf hB hj j14 j13 ht hu hus hau e1 => by
    have h13 : M 13 = M0 13 := hf 13 (by simp)
    have hvM : pV M s n2 := fun k hk => by rw [h13]; exact hv k hk
    have eP : pE M n2 = pE M0 n2 := by unfold pE; rw [h13]
    have hS := mB_S hB hvM hs hn2 hj j14 ht hu hus hau
    rw [eP] at hS
    have tl := mB_tail hB
    have f1 : fr [13, 14, 15] M0 M1 := by rw [e1]; exact (hf.mono (by simp)).tr (fr.st (by simp))
    have e13 : M1 13 = M0 13 := by rw [e1, st_ne _ _ _ (by decide), h13]
    have eP1 : pE M1 n2 = pE M0 n2 := by unfold pE; rw [e13]
    unfold wpX7_turnOver
    refine turnOver_ok (M0 := M1) (by omega) hs hn2 hS hP (fun M2 f2 v2 p2 d2 => ⟨Or.inr rfl, hyes M2 (f1.tr (f2.mono (by simp))) v2 p2 d2⟩) (fun l hl => ?_) n j M1 (by show (if j = j then tail else ord j) + 1 < n; rw [if_pos rfl]; omega) (Or.inl rfl) (fr.rf _ _) (fun k hk => ?_) ⟨?_, fun w hw => ?_, fun w => by rw [eP1], fun l _ _ w => by rw [eP1]⟩
    · show M1 14 l = nI (if l = j then u else (M 14 l).toNatClampNeg)
      have hl : l = j ∨ (l < n2 ∧ ¬ M 14 l = -1) := hl
      by_cases z : l = j
      · rw [z, if_pos rfl, e1, st_at]
      · rcases hl with q | hl
        · exact absurd q z
        · obtain ⟨_, _, _, _, h', v, q1, q2, q3, q4, q5⟩ := hB.1 l hl.1 hl.2
          rw [if_neg z, e1, st_off _ _ z, q4, cl_nI (by omega)]
    · rw [e13]
      rcases hv k hk with z | ⟨w, w1, w2, w3⟩
      · exact Or.inl z
      · exact Or.inr ⟨w, by omega, w2, w3⟩
    · rw [eP1]; exact ⟨fun w k h => ⟨by have := (hP.1 w k h).1; omega, (hP.1 w k h).2⟩, hP.2⟩
    · have q := hw.2.2
      rw [e13, ← h13, j13] at q
      exact nI_m1 (by have := hw.2.1; omega) q.symm
  -- those of one mark
  have inner : ∀ (E140 : Int32 → mM → Prop) (t u : Nat) (x3 : Int32), u ≤ s → (∀ (M : mM) (ord : Nat → Nat) (tail : Nat), fr [14, 15] M0 M → mB a s n2 M ord tail → t < tail → (∀ h', h' ≤ t → ∀ w, w ≤ s → M 15 h' = nI w → ∀ k, k < n2 → a w k = true → ¬ M 14 k = -1) → E140 (nI tail) M) → ∀ (f j : Nat) (M : mM) (ord : Nat → Nat) (tail : Nat), j ≤ n2 → n2 < j + f → fr [14, 15] M0 M → mB a s n2 M ord tail → t < tail → M 15 t = nI u → (∀ h', h' < t → ∀ w, w ≤ s → M 15 h' = nI w → ∀ k, k < n2 → a w k = true → ¬ M 14 k = -1) → (∀ k, k < j → a u k = true → ¬ M 14 k = -1) → wpX7_pair_52 n (fun y6_52 M_52 => wpX7_turnOver n y6_52 (nI s) M_52 (fun M112 => (bz 1 ∧ Q 1 M112))) E140 (nI s) (nI n2) x3 (nI u) f (nI tail) (nI j) M := by
    intro E140 t u x3 hus hE f
    induction f with
    | zero => intro j M ord tail h1 h2; exact absurd h2 (by omega)
    | succ f ih =>
      intro j M ord tail hj hjf hf hB ht hu hcl hcl2
      have tl := mB_tail hB
      rw [wpX7_pair_52]
      refine pk_le n2 j (fun z => ?_) (fun z => ?_)
      · have e : j = n2 := by omega
        subst e
        refine hE M ord tail hf hB ht (fun h' hh w hw hw2 k hk hak => ?_)
        by_cases zz : h' = t
        · rw [zz, hu] at hw2
          have : u = w := nI_inj (by omega) (by omega) hw2
          subst this
          exact hcl2 k hk hak
        · exact hcl h' (by omega) w hw hw2 k hk hak
      · rw [nI40]
        refine ⟨pk_in (40 * u + j) 1600 (by omega), ?_⟩
        rw [cl_nI (by omega), hf 12 (by simp), ha u j (by omega) z]
        refine br_b (fun w => ?_) (fun w => ?_)
        · intro c ec
          rw [ec, nI_1]
          refine ih (j + 1) M ord tail (by omega) (by omega) hf hB ht hu hcl (fun k hk hak => ?_)
          by_cases zz : k = j
          · rw [zz, w] at hak; cases hak
          · exact hcl2 k (by omega) hak
        · refine ⟨pk_in j 40 (by omega), ?_⟩
          rw [cl_nI (by omega)]
          refine br_d (fun q14 M1 e1 => ?_) (fun q14 c ec => ?_)
          · have e13 : M1 13 j = M 13 j := by rw [e1, st_ne _ _ _ (by decide)]
            refine ⟨fun q13 => ?_, fun q13 => ?_⟩
            · rw [e13] at q13
              have tl2 := mB_tail2 hB z q14
              refine ⟨pk_in tail 41 (by omega), fun M2 e2 c4 ec4 c6 ec6 => ?_⟩
              rw [cl_nI (by omega), e13] at e2
              rw [ec4, ec6, nI_1, nI_1]
              have hB2 := mB_push hB z q14 q13 ht hus hs hu w (M1 := M2) (by rw [e2, e1])
              have g14 : ∀ k, ¬ M 14 k = -1 → ¬ M2 14 k = -1 := fun k hk => by
                rw [e2, st_ne _ _ _ (by decide), e1]
                by_cases zz : k = j
                · rw [zz, st_at]; exact nI_m1 (by omega)
                · rw [st_off _ _ zz]; exact hk
              have g15 : ∀ k, k ≠ tail → M2 15 k = M 15 k := fun k hk => by rw [e2, st_off _ _ hk, e1, st_ne _ _ _ (by decide)]
              refine ih (j + 1) M2 _ (tail + 1) (by omega) (by omega) ?_ hB2 (by omega) (by rw [g15 t (by omega)]; exact hu) (fun h' hh v hv2 hv3 k hk hak => g14 k (hcl h' hh v hv2 (by rw [← g15 h' (by omega)]; exact hv3) k hk hak)) (fun k hk hak => ?_)
              · rw [e2, e1]; exact (hf.tr (fr.st (by simp))).tr (fr.st (by simp))
              · by_cases zz : k = j
                · rw [zz, e2, st_ne _ _ _ (by decide), e1, st_at]; exact nI_m1 (by omega)
                · exact g14 k (hcl2 k (by omega) hak)
            · rw [e13] at q13
              exact found M ord tail t j u M1 hf hB z q14 q13 ht hu hus w e1
          · rw [ec, nI_1]
            refine ih (j + 1) M ord tail (by omega) (by omega) hf hB ht hu hcl (fun k hk hak => ?_)
            by_cases zz : k = j
            · rw [zz]; exact q14
            · exact hcl2 k (by omega) hak
  have outer : ∀ (f t : Nat) (M : mM) (ord : Nat → Nat) (tail : Nat), t ≤ tail → 42 < t + f → fr [14, 15] M0 M → mB a s n2 M ord tail → (∀ h', h' < t → ∀ w, w ≤ s → M 15 h' = nI w → ∀ k, k < n2 → a w k = true → ¬ M 14 k = -1) → wpX7_pair_32 n Q (fun y6_32 M_32 => wpX7_turnOver n y6_32 (nI s) M_32 (fun M112 => (bz 1 ∧ Q 1 M112))) (nI s) (nI n2) f (nI t) (nI tail) M := by
    intro f
    induction f with
    | zero =>
      intro t M ord tail h1 h2 hf hB
      have := mB_tail hB
      omega
    | succ f ih =>
      intro t M ord tail h1 h2 hf hB hcl
      have tl := mB_tail hB
      have hvM : pV M s n2 := fun k hk => by rw [hf 13 (by simp)]; exact hv k hk
      have eP : pE M n2 = pE M0 n2 := by unfold pE; rw [hf 13 (by simp)]
      rw [wpX7_pair_32]
      refine pk_le tail t (fun z => ?_) (fun z => ?_)
      · refine ⟨Or.inl rfl, hno M (hf.mono (by simp)) (hf 13 (by simp)) ⟨fun k => decide (k < n2 ∧ ¬ M 14 k = -1), fun u k hu hk hak => ?_, fun j hj => ?_⟩⟩
        · rw [decide_eq_true_eq]
          refine ⟨hk, ?_⟩
          rcases hu with hu | ⟨j, j1, j2⟩
          · exact hcl 0 (by omega) s (Nat.le_refl _) hB.2.2.1 k hk (by rw [← hu]; exact hak)
          · rw [decide_eq_true_eq] at j1
            obtain ⟨a1, a2, a3, a4, _⟩ := hB.1 j j1.1 j1.2
            rw [← eP] at j2
            have hu2 : u ≤ s := by rw [eP] at j2; have := (hP.1 _ _ j2).1; omega
            exact hcl (ord j) (by omega) u hu2 (by rw [a4]; exact j2.2.2) k hk hak
        · rw [decide_eq_true_eq] at hj
          obtain ⟨a1, a2, a3, a4, _⟩ := hB.1 j hj.1 hj.2
          refine ⟨hj.1, ?_⟩
          rcases hvM j (by omega) with w | ⟨u, u1, u2, u3⟩
          · exact absurd w a3
          · exact ⟨u, by rw [← eP]; exact ⟨u2, by omega, u3⟩⟩
      · refine ⟨pk_in t 41 (by omega), ?_⟩
        rw [cl_nI (by omega)]
        obtain ⟨u, u1, u2, _, _⟩ := mB_q hB hvM hn2 z
        rw [u2]
        intro x5 e5 x3 e3
        rw [e5, e3, nI_1]
        refine inner _ t u (nI (t + 1)) u1 (fun M2 ord2 tail2 f2 b2 t2 cl2 => ?_) n 0 M ord tail (by omega) (by omega) hf hB z u2 hcl (fun k hk => absurd hk (by omega))
        exact ih (t + 1) M2 ord2 tail2 (by omega) (by omega) f2 b2 (fun h' hh => cl2 h' (by omega))
  refine outer n 0 Mb (fun _ => 0) 1 (by omega) (by omega) (by rw [eb]; exact (fa.mono (by simp)).tr (fr.st (by simp))) ⟨fun k hk hk14 => ?_, fun t a1 a2 => absurd a1 (by omega), by rw [eb, st_at], ?_⟩ (fun h' hh => absurd hh (by omega))
  · rw [eb, st_ne _ _ _ (by decide)] at hk14
    exact absurd (ha14 k hk) hk14
  · have e : ct (fun k => decide (¬ Mb 14 k = -1)) n2 = ct (fun _ => false) n2 := ct_cong (fun k hk => decide_eq_false (fun w => w (by rw [eb, st_ne _ _ _ (by decide)]; exact ha14 k hk)))
    have e2 : ∀ m, ct (fun _ => false) m = 0 := fun m => by
      induction m with
      | zero => rfl
      | succ m ih => rw [ct, ih]; rfl
    rw [e, e2]
theorem matched_ok {n p q n1 n2 : Nat} {a : Nat → Nat → Bool} {M0 : mM} {Q : Int32 → mM → Prop} (hn : 100 ≤ n) (hp : p < 16) (hq16 : q < 16) (h1 : n1 ≤ 40) (h2 : n2 ≤ 40) (m1 : M0 8 p = nI n1) (m2 : M0 8 q = nI n2) (ha : agT a n1 n2 M0) (hq : ∀ M1 c, fr [13, 14, 15] M0 M1 → IsMax a n1 n2 c → Q (nI c) M1) : wpX7_matched n (nI p) (nI q) M0 Q := by
  have main : ∀ (k i c : Nat) (M : mM), i ≤ n1 → n1 < i + k → fr [13, 14, 15] M0 M → pV M i n2 → PR a i n2 (pE M n2) → IsMax a i n2 c → msz (toM (pE M n2)) i = c → wpX7_matched_26 n Q (nI p) (nI q) k (nI c) (nI i) M := by
    intro k
    induction k with
    | zero => intro i c M a1 a2; exact absurd a2 (by omega)
    | succ k ih =>
      intro i c M hi hik hf hv hP hx hsz
      rw [wpX7_matched_26]
      refine ⟨pk_in p 16 hp, ?_⟩
      rw [cl_nI (by omega), hf 8 (by simp), m1]
      refine pk_le n1 i (fun z => ?_) (fun z => ⟨pk_in q 16 hq16, ?_⟩)
      · have e : i = n1 := by omega
        subst e
        exact hq M c hf hx
      · rw [cl_nI (by omega), m2]
        have fin : ∀ (r d : Nat) (M1 : mM), d = c + r → fr [13, 14, 15] M0 M1 → pV M1 (i + 1) n2 → PR a (i + 1) n2 (pE M1 n2) → IsMax a (i + 1) n2 d → msz (toM (pE M1 n2)) (i + 1) = d → wpX7_matched_58 n (wpX7_matched_26 n Q (nI p) (nI q) k) (nI p) (nI q) (nI i) (nI r) (nI c) M1 := fun r d M1 hd f1 v1 p1 x1 s1 => by
          unfold wpX7_matched_58
          intro b eb e ee
          rw [eb, ee, nI_add, nI_1, ← hd]
          exact ih (i + 1) d M1 (by omega) (by omega) f1 v1 p1 x1 s1
        refine pair_ok hn (by omega) h2 (fun u l hu hl => by rw [hf 12 (by simp)]; exact ha u l (by omega) hl) hv hP (fun M1 f1 e13 ⟨Rt, r1, r2⟩ => ?_) (fun M1 f1 v1 p1 d1 => ?_)
        · have eP : pE M1 n2 = pE M n2 := by unfold pE; rw [e13]
          obtain ⟨x1, x2, x3⟩ := max_fail hP hx hsz Rt r1 r2
          refine br_0 (fin 0 c M1 rfl (hf.tr f1) (fun l hl => ?_) (by rw [eP]; exact x2) x1 (by rw [eP]; exact x3))
          rw [e13]
          rcases hv l hl with w | ⟨u, u1, u2, u3⟩
          · exact Or.inl w
          · exact Or.inr ⟨u, by omega, u2, u3⟩
        · obtain ⟨x1, x2⟩ := max_aug hP p1 hx hsz d1
          exact br_1 (fin 1 (c + 1) M1 rfl (hf.tr f1) v1 p1 x1 x2)
  have first : ∀ (k j : Nat) (M : mM), j ≤ 40 → 40 < j + k → fr [13, 14, 15] M0 M → (∀ l, l < j → M 13 l = -1) → wpX7_matched_2 n (fun M_2 => wpX7_matched_26 n Q (nI p) (nI q) n 0 0 M_2) (nI p) (nI q) k (nI j) M := by
    intro k
    induction k with
    | zero => intro j M a1 a2; exact absurd a2 (by omega)
    | succ k ih =>
      intro j M hj hjk hf hl
      rw [wpX7_matched_2]
      refine pk_le 40 j (fun z => ?_) (fun z => ?_)
      · have e : j = 40 := by omega
        subst e
        have nE : ∀ u k, ¬ pE M n2 u k := fun u k hh => by
          have w := hh.2.2
          rw [hl k (by have := hh.1; omega)] at w
          exact nI_m1 (by have := hh.2.1; omega) w.symm
        exact main n 0 0 M (by omega) (by omega) hf (fun l h => Or.inl (hl l h)) ⟨fun u k hh => absurd hh (nE u k), fun u k l hh => absurd hh (nE u k), fun u v k hh => absurd hh (nE u k)⟩ (IsMax_0 a n2) rfl
      · refine ⟨pk_in j 40 z, fun M1 e1 c ec => ?_⟩
        rw [cl_nI (by omega)] at e1
        rw [ec, nI_1]
        refine ih (j + 1) M1 (by omega) (by omega) (by rw [e1]; exact hf.tr (fr.st (by simp))) (fun l h => ?_)
        rw [e1]
        by_cases zz : l = j
        · rw [zz, st_at]
        · rw [st_off _ _ zz]; exact hl l (by omega)
  unfold wpX7_matched
  exact first n 0 M0 (by omega) (by omega) (fr.rf _ _) (fun l h => absurd h (by omega))
