/-! PURE PART: a board brought up to date -/
abbrev rfC (b : Nat) : List Nat := [6, 7, 8, 9, 10, 11, 64 + 8 * b, 64 + 8 * b + 2, 64 + 8 * b + 3, 64 + 8 * b + 4, 64 + 8 * b + 5]
theorem refresh_ok {n b : Nat} {C : cM} {Q : cM → Prop} (hn : 600 ≤ n) (hb : bok C b) (hr : rok (cI C (64 + 8 * b + 1))) (hq : ∀ C1, cfr (rfC b) C C1 → (∀ k, k ≠ 5 → k ≠ 6 → k ≠ 8 → cI C1 (64 + 8 * b) k = cI C (64 + 8 * b) k) → rok (cI C1 (64 + 8 * b + 2)) → rG (cI C1 (64 + 8 * b + 2)) = thinG (rG (cI C (64 + 8 * b + 1))) → cMk (marks (thinG (rG (cI C (64 + 8 * b + 1))))) b C1 → cI C1 (64 + 8 * b) 8 = 0 → Q C1) : wpX5_refresh n b C Q := by
  obtain ⟨G, hG⟩ : ∃ G, G = thinG (rG (cI C (64 + 8 * b + 1))) := ⟨_, rfl⟩
  rw [← hG] at hq
  have fin : ∀ C1, cfr (rfC b) C C1 → bkeep b C C1 → rok (cI C1 (64 + 8 * b + 2)) → rG (cI C1 (64 + 8 * b + 2)) = G → wpX5_refresh_74 n Q b C1 := fun C1 f1 k1 r1 g1 => by
    unfold wpX5_refresh_74
    refine listMarks_ok hn (cfr.bk f1 hb) r1 (fun C2 f2 k2 m2 => ⟨cfr.bk f2 (cfr.bk f1 hb), fun C3 e3 => ?_⟩)
    rw [g1] at m2
    have i2 : cI C2 (64 + 8 * b + 2) = cI C1 (64 + 8 * b + 2) := f2.1 _ (by simp; omega)
    have i3 : ∀ j, j ≠ 64 + 8 * b → cI C3 j = cI C2 j := fun j hj => by rw [e3]; exact cI_ne _ _ _ hj
    refine hq C3 (f1.tr ((f2.mono (by simp)).tr (by rw [e3]; exact cfr.st (by simp)))) (fun k a c d => by rw [e3, cst_off _ _ d, k2 k a c, k1 k a c]) (by rw [i3 _ (by omega), i2]; exact r1) (by rw [i3 _ (by omega), i2]; exact g1) ⟨by rw [e3, cst_off _ _ (by decide)]; exact m2.1, by rw [e3, cst_off _ _ (by decide)]; exact m2.2.1, ?_⟩ (by rw [e3, cst_at])
    rw [i3 _ (by omega), i3 _ (by omega), i3 _ (by omega)]
    exact m2.2.2
  have loop : ∀ (k f rd : Nat) (C1 : cM), ctG (rG (cI C1 (64 + 8 * b + 2))) < k → k < f → rd + k = 577 → cfr (rfC b) C C1 → bkeep b C C1 → rok (cI C1 (64 + 8 * b + 2)) → thinF k (rG (cI C1 (64 + 8 * b + 2))) = G → wpX5_refresh_19 n (fun C_19 => wpX5_refresh_74 n Q b C_19) b f 1 (nI rd) C1 := by
    intro k
    induction k with
    | zero => intro f rd C1 h; exact absurd h (by omega)
    | succ k ih =>
      intro f rd C1 h1 h2 h3 f1 k1 r1 g1
      obtain ⟨f, rfl⟩ : ∃ g, f = g + 1 := ⟨f - 1, by omega⟩
      rw [wpX5_refresh_19]
      refine br_1 ?_
      refine pk_lt 576 rd (fun z => absurd z (by omega)) (fun _ => ⟨cfr.bk f1 hb, ?_⟩)
      refine takeAway_ok (first := true) hn (cfr.bk f1 hb) r1 (fun C2 f2 r2 g2 => ⟨cfr.bk f2 (cfr.bk f1 hb), ?_⟩)
      refine takeAway_ok (first := false) hn (cfr.bk f2 (cfr.bk f1 hb)) r2 (fun C3 f3 r3 g3 => ?_)
      rw [g2] at g3
      have f13 : cfr (rfC b) C C3 := f1.tr ((f2.mono (by simp)).tr (f3.mono (by simp)))
      have k13 : bkeep b C C3 := k1.tr ((bkeep_fr f2 (by simp; omega)).tr (bkeep_fr f3 (by simp; omega)))
      rw [thinF] at g1
      have go : (anyG true (rG (cI C1 (64 + 8 * b + 2))) || anyG false (passG true (rG (cI C1 (64 + 8 * b + 2))))) = true → wpX5_refresh_67 n (wpX5_refresh_19 n (fun C_19 => wpX5_refresh_74 n Q b C_19) b f) b (nI rd) 1 C3 := fun ha => by
        unfold wpX5_refresh_67
        intro c ec
        rw [ec, nI_1]
        rw [if_pos ha] at g1
        exact ih f (rd + 1) C3 (by rw [g3]; have := round_lt ha; omega) (by omega) (by omega) f13 k13 r3 (by rw [g3]; exact g1)
      have stop : (anyG true (rG (cI C1 (64 + 8 * b + 2))) || anyG false (passG true (rG (cI C1 (64 + 8 * b + 2))))) = false → wpX5_refresh_67 n (wpX5_refresh_19 n (fun C_19 => wpX5_refresh_74 n Q b C_19) b f) b (nI rd) 0 C3 := fun ha => by
        unfold wpX5_refresh_67
        intro c ec
        obtain ⟨f, rfl⟩ : ∃ g, f = g + 1 := ⟨f - 1, by omega⟩
        rw [wpX5_refresh_19]
        rw [if_neg (by rw [ha]; decide)] at g1
        exact br_0 (fin C3 f13 k13 r3 (by rw [g3]; exact g1))
      rw [g2]
      refine br_bn (fun z => ?_) (fun z => go (by rw [z]; rfl))
      refine br_b (fun z2 => stop (by rw [z, z2]; rfl)) (fun z2 => go (by rw [z2]; simp))
  unfold wpX5_refresh
  refine ⟨hb, fun C1 e1 => ?_⟩
  have i1 : ∀ j, j ≠ 64 + 8 * b + 2 → cI C1 j = cI C j := fun j hj => by rw [e1]; simp [cI, ccpy, va_up, hj]
  have i2 : ∀ y, y < 24 → cI C1 (64 + 8 * b + 2) y = cI C (64 + 8 * b + 1) y := fun y hy => by
    rw [e1]
    show va_up C.1 (64 + 8 * b + 2) _ (64 + 8 * b + 2) y = _
    simp only [va_up, if_true]
    rw [pk_cpy_in (by omega) (by omega)]
    simp [cI]
  have f1 : cfr (rfC b) C C1 := ⟨fun j hj => i1 j (fun z => hj (by rw [z]; simp)), by rw [e1]; rfl, by rw [e1]; rfl, by rw [e1]; rfl⟩
  have r1 : rok (cI C1 (64 + 8 * b + 2)) := fun y hy i hi => by rw [i2 y hy]; exact hr y hy i hi
  have g1 : rG (cI C1 (64 + 8 * b + 2)) = rG (cI C (64 + 8 * b + 1)) := rG_congr i2
  exact loop 577 n 0 C1 (by have := ctG_le (rG (cI C1 (64 + 8 * b + 2))); omega) (by omega) (by omega) f1 (fun k _ _ => by rw [i1 _ (by omega)]) r1 (by rw [g1, hG]; rfl)
/-- a board's picture: told rows within the board; if it isn't stale, thinned rows and marks are those of the told rows -/
def bG (C : cM) (b : Nat) : Gr := rG (cI C (64 + 8 * b + 1))
def bInv (C : cM) (b : Nat) : Prop := rok (cI C (64 + 8 * b + 1)) ∧ bz (cI C (64 + 8 * b) 8)
def bFresh (C : cM) (b : Nat) : Prop := rok (cI C (64 + 8 * b + 2)) ∧ rG (cI C (64 + 8 * b + 2)) = thinG (bG C b) ∧ cMk (marks (thinG (bG C b))) b C
/-- the class's own state: boards, and nothing else of it changes by bringing boards up to date -/
def bAll (C : cM) : Prop := cN C ≤ 16 ∧ cI C 0 5 = nI (cN C) ∧ ∀ b, b < cN C → bInv C b ∧ (cI C (64 + 8 * b) 8 = 0 → bFresh C b)
/-- what a call that only brings boards up to date keeps -/
def upd8 (C C1 : cM) : Prop := cN C1 = cN C ∧ cE C1 = cE C ∧ (∀ i, i < 6 → cI C1 i = cI C i) ∧ (∀ k, cI C1 (256 + k) = cI C (256 + k)) ∧ (∀ b, b < 16 → cI C1 (64 + 8 * b + 1) = cI C (64 + 8 * b + 1) ∧ cI C1 (64 + 8 * b) 7 = cI C (64 + 8 * b) 7) ∧ ∀ b, b < cN C → cI C (64 + 8 * b) 8 = 0 → cI C1 (64 + 8 * b) 8 = 0
theorem upd8.rf (C : cM) : upd8 C C := ⟨rfl, rfl, fun _ _ => rfl, fun _ => rfl, fun _ _ => ⟨rfl, rfl⟩, fun _ _ h => h⟩
theorem upd8.tr {A B C : cM} (h1 : upd8 A B) (h2 : upd8 B C) : upd8 A C := ⟨h2.1.trans h1.1, h2.2.1.trans h1.2.1, fun i hi => (h2.2.2.1 i hi).trans (h1.2.2.1 i hi), fun k => (h2.2.2.2.1 k).trans (h1.2.2.2.1 k), fun b hb => ⟨(h2.2.2.2.2.1 b hb).1.trans (h1.2.2.2.2.1 b hb).1, (h2.2.2.2.2.1 b hb).2.trans (h1.2.2.2.2.1 b hb).2⟩, fun b hb h => h2.2.2.2.2.2 b (by rw [h1.1]; exact hb) (h1.2.2.2.2.2 b hb h)⟩
theorem boardOf_yes {n j : Nat} {C : cM} {Q : Option Nat → cM → Prop} (hA : bAll C) (hj : j < cN C) (hq : Q (some j) C) : wpX6_boardOf n (nI j) C Q := by
  obtain ⟨h16, h5, _⟩ := hA
  unfold wpX6_boardOf
  rw [h5]
  refine br_e (by rw [i32_lt, tI j (by omega)]; show ¬ (j : Int) < 0; omega) ?_
  refine pk_le (cN C) j (fun z => absurd z (by omega)) (fun _ => ?_)
  refine pk_le 16 j (fun z => absurd z (by omega)) (fun _ => ⟨pk_in j 16 (by omega), ?_⟩)
  have e : cB C (nI j).toNatClampNeg = some j := by rw [cl_nI (by omega)]; unfold cB; rw [if_pos hj]
  rw [e]
  exact ⟨fun z => (by cases z), fun b z => by cases z; exact hq⟩
theorem boardOf_no {n : Nat} {x : Int32} {C : cM} {Q : Option Nat → cM → Prop} (hA : bAll C) (hx : x.toInt < 0 ∨ (cN C : Int) ≤ x.toInt) (hq : Q none C) : wpX6_boardOf n x C Q := by
  obtain ⟨h16, h5, _⟩ := hA
  unfold wpX6_boardOf
  rw [h5]
  refine br_d (fun _ => hq) (fun z => ?_)
  rw [i32_lt] at z
  have z : ¬ x.toInt < (0 : Int) := z
  refine br_i ?_ hq
  rw [i32_le, tI _ (by omega)]
  omega
theorem freshBoard_yes {n j : Nat} {C : cM} {Q : Option Nat → cM → Prop} (hn : 600 ≤ n) (hA : bAll C) (hj : j < cN C) (hq : ∀ C1, upd8 C C1 → bAll C1 → bFresh C1 j → cI C1 (64 + 8 * j) 8 = 0 → Q (some j) C1) : wpX6_freshBoard n (nI j) C Q := by
  unfold wpX6_freshBoard
  have hA0 := hA
  obtain ⟨h16, h5, hB⟩ := hA0
  have hb : bok C j := ⟨hj, by omega⟩
  refine boardOf_yes hA hj ⟨fun z => (by cases z), fun b z => ?_⟩
  cases z
  refine ⟨hb, ?_⟩
  refine br_d (fun z => hq C (upd8.rf C) hA ((hB j hj).2 z) z) (fun z => ?_)
  refine refresh_ok hn hb (hB j hj).1.1 (fun C1 f1 k1 r1 g1 m1 s1 => ?_)
  have hnd : ∀ b d, b ≠ j → d ≤ 5 → 64 + 8 * b + d ∉ rfC j := fun b d hbj hd => by simp; omega
  have t1 : cI C1 (64 + 8 * j + 1) = cI C (64 + 8 * j + 1) := f1.1 _ (by simp; omega)
  have eG : bG C1 j = bG C j := by unfold bG; rw [t1]
  have fj : bFresh C1 j := ⟨r1, by rw [eG]; exact g1, by rw [eG]; exact m1⟩
  refine hq C1 ⟨f1.2.2.1, f1.2.2.2, fun i hi => f1.1 i (by simp; omega), fun k => f1.1 _ (by simp; omega), fun b hb16 => ?_, fun b hbn hs => ?_⟩ ⟨by rw [f1.2.2.1]; exact h16, by rw [f1.2.2.1, f1.1 0 (by simp; omega)]; exact h5, fun b hbn => ?_⟩ fj s1
  · by_cases hbj : b = j
    · subst hbj; exact ⟨t1, k1 7 (by decide) (by decide) (by decide)⟩
    · exact ⟨f1.1 _ (hnd b 1 hbj (by omega)), by rw [show cI C1 (64 + 8 * b) = cI C (64 + 8 * b) from f1.1 _ (hnd b 0 hbj (by omega))]⟩
  · by_cases hbj : b = j
    · subst hbj; exact s1
    · rw [show cI C1 (64 + 8 * b) = cI C (64 + 8 * b) from f1.1 _ (hnd b 0 hbj (by omega))]; exact hs
  · rw [f1.2.2.1] at hbn
    by_cases hbj : b = j
    · subst hbj
      refine ⟨⟨by rw [t1]; exact (hB b hbn).1.1, by rw [s1]; exact Or.inl rfl⟩, fun _ => fj⟩
    · have q0 := f1.1 _ (hnd b 0 hbj (by omega))
      have q1 := f1.1 _ (hnd b 1 hbj (by omega))
      have q2 := f1.1 _ (hnd b 2 hbj (by omega))
      obtain ⟨⟨a1, a2⟩, a3⟩ := hB b hbn
      refine ⟨⟨by rw [q1]; exact a1, by rw [show cI C1 (64 + 8 * b) = cI C (64 + 8 * b) from q0]; exact a2⟩, fun hs => ?_⟩
      rw [show cI C1 (64 + 8 * b) = cI C (64 + 8 * b) from q0] at hs
      obtain ⟨c1, c2, c3⟩ := a3 hs
      have eGb : bG C1 b = bG C b := by unfold bG; rw [q1]
      refine ⟨by rw [q2]; exact c1, by rw [q2, eGb]; exact c2, by rw [eGb]; exact cMk_fr c3 f1 (hnd b 0 hbj (by omega)) (hnd b 3 hbj (by omega)) (hnd b 4 hbj (by omega)) (hnd b 5 hbj (by omega))⟩
theorem freshBoard_no {n : Nat} {x : Int32} {C : cM} {Q : Option Nat → cM → Prop} (hA : bAll C) (hx : x.toInt < 0 ∨ (cN C : Int) ≤ x.toInt) (hq : Q none C) : wpX6_freshBoard n x C Q := by
  unfold wpX6_freshBoard
  exact boardOf_no hA hx ⟨fun _ => hq, fun b z => by cases z⟩
