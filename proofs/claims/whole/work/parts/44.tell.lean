/-! PURE PART: a row is told; row, print -/
def cInvE (E : Nat) (C : cM) : Prop := bAll C ∧ (∃ T, T ≤ 3 ∧ cI C 0 6 = nI T) ∧ (∀ b, b < cN C → ∃ e, e ≤ E ∧ cI C (64 + 8 * b) 7 = nI e) ∧ cTok C ∧ ∀ k, k < 256 → cE C k = true → mtI C k ∧ mtO C k
theorem cInvE_of {t : Nat} {C : cM} (h : cInv t C) : cInvE (576 * t) C := h
theorem cInvE_to {t E : Nat} {C : cM} (h : cInvE E C) (hE : E ≤ 576 * t) : cInv t C := ⟨h.1, h.2.1, fun b hb => by obtain ⟨e, he, h2⟩ := h.2.2.1 b hb; exact ⟨e, by omega, h2⟩, h.2.2.2⟩
def ctell (C : cM) (b y : Nat) (v : Int32) : cM := if cI C (64 + 8 * b + 1) y = v then C else cst (cst (cst C (64 + 8 * b + 1) y v) (64 + 8 * b) 7 (cI C (64 + 8 * b) 7 + 1)) (64 + 8 * b) 8 1
theorem tell_ok {n b y : Nat} {v : Int32} {C : cM} {Q : cM → Prop} (hb : bok C b) (hy : y < 24) (hq : Q (ctell C b y v)) : wpX0_tell n b (nI y) v C Q := by
  unfold wpX0_tell
  refine onB_yes hy (br_1 ⟨hb, pk_in y 24 hy, ?_⟩)
  rw [cl_nI (by omega)]
  unfold ctell at hq
  refine br_d (fun z => by rw [if_pos z] at hq; exact hq) (fun z C1 e1 C2 e2 C3 e3 => ?_)
  rw [if_neg z] at hq
  have e7 : cI C1 (64 + 8 * b) 7 = cI C (64 + 8 * b) 7 := by rw [e1, cI_ne _ _ _ (by omega)]
  rw [e3, e2, e7, e1]
  exact hq
theorem ctell_N (C : cM) (b y : Nat) (v : Int32) : cN (ctell C b y v) = cN C := by unfold ctell; split <;> rfl
theorem ctell_E (C : cM) (b y : Nat) (v : Int32) : cE (ctell C b y v) = cE C := by unfold ctell; split <;> rfl
theorem ctell_I {C : cM} {b y : Nat} {v : Int32} {i : Nat} (h1 : i ≠ 64 + 8 * b) (h2 : i ≠ 64 + 8 * b + 1) : cI (ctell C b y v) i = cI C i := by
  unfold ctell
  split
  · rfl
  · rw [cI_ne _ _ _ h1, cI_ne _ _ _ h1, cI_ne _ _ _ h2]
theorem ctell_1 (C : cM) (b y : Nat) (v : Int32) : cI (ctell C b y v) (64 + 8 * b + 1) = upd (cI C (64 + 8 * b + 1)) y v := by
  unfold ctell
  split
  · rename_i z
    funext k
    simp only [upd]
    split
    · rename_i h; rw [h]; exact z
    · rfl
  · rw [cI_ne _ _ _ (by omega), cI_ne _ _ _ (by omega), cI_st]
theorem bG_ne {C : cM} {b y c : Nat} {v : Int32} (h : c ≠ b) : bG (ctell C b y v) c = bG C c := by unfold bG; rw [ctell_I (by omega) (by omega)]
theorem bm_ne {C : cM} {b y c : Nat} {v : Int32} (h : c ≠ b) : bm (ctell C b y v) c = bm C c := by unfold bm; rw [bG_ne h]
theorem cInvE_tell {E b y : Nat} {v : Int32} {C : cM} (h : cInvE E C) (hE : E < 2000000000) (hb : b < cN C) (hy : y < 24) (hv : ∀ i, 24 ≤ i → bt v i = false) : cInvE (E + 1) (ctell C b y v) := by
  obtain ⟨⟨a1, a2, a3⟩, b2, b3, b4, b5⟩ := h
  by_cases z : cI C (64 + 8 * b + 1) y = v
  · have : ctell C b y v = C := by unfold ctell; rw [if_pos z]
    rw [this]
    exact ⟨⟨a1, a2, a3⟩, b2, fun c hc => by obtain ⟨e, he, h2⟩ := b3 c hc; exact ⟨e, by omega, h2⟩, b4, b5⟩
  obtain ⟨e, he, ee⟩ := b3 b hb
  have i0 : cI (ctell C b y v) 0 = cI C 0 := ctell_I (by omega) (by omega)
  have i7 : cI (ctell C b y v) (64 + 8 * b) 7 = nI (e + 1) := by
    unfold ctell
    rw [if_neg z, cst_off _ _ (by decide), cst_at, ee, show (1 : Int32) = nI 1 from rfl, nI_add]
  have i8 : cI (ctell C b y v) (64 + 8 * b) 8 = 1 := by
    unfold ctell
    rw [if_neg z, cst_at]
  have j7 : ∀ c, c ≠ b → cI (ctell C b y v) (64 + 8 * c) 7 = cI C (64 + 8 * c) 7 := fun c hc => by rw [ctell_I (by omega) (by omega)]
  refine ⟨⟨by rw [ctell_N]; exact a1, by rw [i0, ctell_N]; exact a2, fun c hc => ?_⟩, by rw [i0]; exact b2, fun c hc => ?_, fun k hk hk2 => by rw [ctell_N]; rw [ctell_E] at hk2; exact b4 k hk hk2, fun k hk hk2 => ?_⟩
  · rw [ctell_N] at hc
    by_cases hcb : c = b
    · subst hcb
      refine ⟨⟨fun y2 hy2 i hi => ?_, by rw [i8]; exact Or.inr rfl⟩, fun h8 => by rw [i8] at h8; exact absurd h8 (by decide)⟩
      rw [ctell_1]
      simp only [upd]
      split
      · exact hv i hi
      · exact (a3 c hc).1.1 y2 hy2 i hi
    · refine ⟨⟨by rw [ctell_I (by omega) (by omega)]; exact (a3 c hc).1.1, by rw [ctell_I (by omega) (by omega)]; exact (a3 c hc).1.2⟩, fun h8 => ?_⟩
      rw [ctell_I (by omega) (by omega)] at h8
      have hf := (a3 c hc).2 h8
      unfold bFresh cMk
      rw [bG_ne hcb, ctell_I (by omega) (by omega), ctell_I (by omega) (by omega), ctell_I (by omega) (by omega), ctell_I (by omega) (by omega), ctell_I (by omega) (by omega)]
      exact hf
  · rw [ctell_N] at hc
    by_cases hcb : c = b
    · subst hcb; exact ⟨e + 1, by omega, i7⟩
    · obtain ⟨e2, he2, ee2⟩ := b3 c hc
      exact ⟨e2, by omega, by rw [j7 c hcb]; exact ee2⟩
  · rw [ctell_E] at hk2
    obtain ⟨m1, m2⟩ := b5 k hk hk2
    have ik : cI (ctell C b y v) (256 + k) = cI C (256 + k) := ctell_I (by have := hb; omega) (by omega)
    have up : ∀ c, (cI C (64 + 8 * c) 7).toInt ≤ (cI (ctell C b y v) (64 + 8 * c) 7).toInt := fun c => by
      by_cases hcb : c = b
      · subst hcb; rw [i7, ee, tI _ (by omega), tI _ (by omega)]; omega
      · rw [j7 c hcb]; omega
    refine ⟨fun T hT e1 e2 e3 => ?_, ?_⟩
    · rw [ik] at e1 e2 e3
      have n1 : k / 16 ≠ b := fun hz => by
        have q := m2.1
        rw [e2, hz, i7, ee, tI _ (by omega), tI _ (by omega)] at q
        omega
      have n2 : k % 16 ≠ b := fun hz => by
        have q := m2.2
        rw [e3, hz, i7, ee, tI _ (by omega), tI _ (by omega)] at q
        omega
      rw [j7 _ n1] at e2
      rw [j7 _ n2] at e3
      rw [bm_ne n1, bm_ne n2, ik]
      exact m1 T hT e1 e2 e3
    · unfold mtO
      rw [ik]
      have u1 := up (k / 16)
      have u2 := up (k % 16)
      have q := m2
      unfold mtO at q
      omega
theorem mRel_tell {b y : Nat} {v : Int32} {C : cM} {M : mM} (h : mRel C M) (h16 : cN C ≤ 16) (hb : b < cN C) (hy : y < 24) : mRel (ctell C b y v) (st M 3 (24 * b + y) v) := by
  have i0 : cI (ctell C b y v) 0 = cI C 0 := ctell_I (by omega) (by omega)
  unfold mRel
  rw [ctell_N, i0]
  obtain ⟨h1, h2, h3, h4, h5⟩ := h
  refine ⟨by rw [st_ne _ _ _ (by decide)]; exact h1, by rw [st_ne _ _ _ (by decide)]; exact h2, by rw [st_ne _ _ _ (by decide)]; exact h3, fun c hc y2 hy2 => ?_, fun j j1 j2 => ?_⟩
  · by_cases hcb : c = b
    · subst hcb
      rw [ctell_1]
      simp only [upd]
      by_cases hz : y2 = y
      · subst hz; rw [if_pos rfl, st_at]
      · rw [if_neg hz, st_off _ _ (by omega)]; exact h4 c hc y2 hy2
    · rw [ctell_I (by omega) (by omega), st_off _ _ (by omega)]; exact h4 c hc y2 hy2
  · rw [st_off _ _ (by omega)]; exact h5 j j1 j2
theorem b24 (x : Int32) : ∀ i, 24 ≤ i → bt (x &&& 16777215) i = false := fun i hi => by
  rw [b_and]
  by_cases h : i < 32
  · have : bt 16777215 i = false := by
      rcases (show i = 24 ∨ i = 25 ∨ i = 26 ∨ i = 27 ∨ i = 28 ∨ i = 29 ∨ i = 30 ∨ i = 31 by omega) with rfl | rfl | rfl | rfl | rfl | rfl | rfl | rfl <;> decide
    rw [this, Bool.and_false]
  · have : bt x i = false := by unfold bt; exact BitVec.getLsbD_of_ge _ _ (by omega)
    rw [this]; rfl
theorem s_row {n t : Nat} {C : cM} {M : mM} {x1 x2 x3 : Int32} (ht : t < 1000) (hR : Rel t C M) : wpX6_row n x1 x2 x3 C (fun r C1 => wpX7_row n x1 x2 x3 M (fun r1 M1 => r = r1 ∧ Rel (t + 1) C1 M1)) := by
  have hA := hR.1.1
  have h16 := hA.1
  unfold wpX6_row
  rcases i32_cases x2 24 (by omega) with ⟨y, hy, rfl⟩ | ho
  · refine onB_yes hy (br_1n ?_)
    rcases i32_cases x1 (cN C) (by omega) with ⟨p, hp, rfl⟩ | ho1
    · refine boardOf_yes hA hp ⟨fun z => (by cases z), fun b z => ?_⟩
      cases z
      intro C2 e2
      have hR2 : Rel t C2 (st M 0 1 0) := by rw [e2]; exact Rel_7 hR
      have hp2 : p < cN C2 := by rw [e2]; exact hp
      refine ⟨⟨hp2, by omega⟩, tell_ok ⟨hp2, by omega⟩ hy ?_⟩
      unfold wpX7_row
      intro M2 eM
      have h2 : Rel t C M2 := by rw [eM]; exact Rel_0 hR
      refine isPlace_yes hy (br_1n (isPrint_yes h2.2.1 h16 hp (br_1n ?_)))
      rw [nI24]
      refine ⟨pk_in (24 * p + y) 384 (by omega), fun M3 e3 => told_ok ⟨rfl, ?_⟩⟩
      rw [cl_nI (by omega)] at e3
      have hi := cInvE_tell (cInvE_of hR2.1) (by omega) hp2 hy (b24 x3)
      refine ⟨cInvE_to hi (by omega), ?_⟩
      have hm : mRel C2 (st M2 0 1 0) := by rw [e2]; exact mRel_7 h2.2
      have hr := mRel_tell (v := x3 &&& 16777215) hm (by rw [e2]; exact h16) hp2 hy
      refine mRel_m hr ?_ ?_ ?_ ?_
      · rw [if_neg (by decide), e3, st_at, st_ne _ _ _ (by decide), st_at]
      · rw [if_neg (by decide), e3, st_off _ _ (by decide), st_ne _ _ _ (by decide), st_ne _ _ _ (by decide), st_off _ _ (by decide)]
      · rw [if_neg (by decide), e3, st_off _ _ (by decide), st_ne _ _ _ (by decide), st_ne _ _ _ (by decide), st_off _ _ (by decide)]
      · rw [if_neg (by decide), e3, st_ne _ _ _ (by decide), st_same, st_same, st_ne _ _ _ (by decide)]
    · refine boardOf_no hA ho1 ⟨fun _ => ?_, fun b z => (by cases z)⟩
      unfold wpX6_refuse
      intro C2 e2
      unfold wpX7_row
      intro M2 eM
      have h2 : Rel t C M2 := by rw [eM]; exact Rel_0 hR
      refine isPlace_yes hy (br_1n (isPrint_no h2.2.1 h16 ho1 (br_0n (told_ok ⟨rfl, ?_⟩))))
      rw [neg_told (by decide), e2]
      exact Rel_mono (Rel_7 h2)
  · refine onB_no ho (br_0n ?_)
    unfold wpX6_refuse
    intro C2 e2
    unfold wpX7_row
    intro M2 eM
    have h2 : Rel t C M2 := by rw [eM]; exact Rel_0 hR
    refine isPlace_no ho (br_0n (told_ok ⟨rfl, ?_⟩))
    rw [neg_told (by decide), e2]
    exact Rel_mono (Rel_7 h2)
/-- an empty board has no marks -/
theorem thinF_0 : ∀ k, thinF k (fun _ _ => false) = fun _ _ => false
  | 0 => rfl
  | k + 1 => by
    have p : ∀ f, passG f (fun _ _ => false) = fun _ _ => false := fun f => by funext x y; simp [passG]
    have a : ∀ f, anyG f (fun _ _ => false) = false := fun f => by
      unfold anyG
      cases h : anyk (fun k => goesB f (fun _ _ => false) (k % 24) (k / 24)) 576 with
      | false => rfl
      | true =>
        obtain ⟨j, _, hj⟩ := (anyk_iff _ _).mp h
        simp [goesB] at hj
    rw [thinF, p, p, a, a]
    rfl
theorem acc_0 : ∀ k, acc (fun _ _ => false) k = []
  | 0 => rfl
  | k + 1 => by
    rw [acc, acc_0 k]
    simp [mk1, sortO]
theorem rG_0 : rG (fun _ => 0) = fun _ _ => false := by
  funext x y
  unfold rG
  rw [b_0, Bool.and_false]
theorem cst_eqI (C : cM) (i k : Nat) (v : Int32) : cI (cst C i k v) i k = v := cst_at C i k v
theorem s_print {n t : Nat} {C : cM} {M : mM} (hR : Rel t C M) : wpX6_print n C (fun r C1 => wpX7_print n M (fun r1 M1 => r = r1 ∧ Rel (t + 1) C1 M1)) := by
  have hA := hR.1.1
  have h16 := hA.1
  have hN := hA.2.1
  unfold wpX6_print
  rw [hN]
  by_cases hlt : cN C < 16
  · refine br_i (show nI (cN C) < nI 16 from nI_lt hlt (by omega)) (fun C1 e1 => ?_)
    have hR1 : Rel t C1 (st M 0 1 0) := by rw [e1]; exact Rel_7 hR
    have n1 : cN C1 = cN C := by rw [e1]; rfl
    have i5 : cI C1 0 5 = nI (cN C1) := hR1.1.1.2.1
    rw [i5]
    refine ⟨pk_in (cN C1) 16 (by omega), cl_nI (by omega), hR1.1.2.2.2.1, by omega, fun C2 e2 C3 e3 => ⟨by omega, ?_⟩⟩
    have n2 : cN C2 = cN C + 1 := by rw [e2]; show cN C1 + 1 = _; rw [n1]
    have n3 : cN C3 = cN C + 1 := by rw [e3]; exact n2
    have E3 : cE C3 = cE C := by rw [e3, e2, e1]; rfl
    have j0 : cI C2 0 = cI C1 0 := by rw [e2]; exact cnewB_I (Or.inl (by omega))
    have j5 : cI C3 0 5 = nI (cN C + 1) := by rw [e3, cst_at, j0, i5, n1, show (1 : Int32) = nI 1 from rfl, nI_add]
    have j06 : cI C3 0 6 = cI C 0 6 := by rw [e3, cst_off _ _ (by decide), j0, e1, cst_off _ _ (by decide)]
    have j07 : cI C3 0 7 = 0 := by rw [e3, cst_off _ _ (by decide), j0, e1, cst_at]
    have jI : ∀ i, i ≠ 0 → (i < 64 + 8 * cN C ∨ 64 + 8 * cN C + 8 ≤ i) → cI C3 i = cI C i := fun i hi ho => by
      rw [e3, cI_ne _ _ _ hi, e2, cnewB_I (by rw [n1]; exact ho), e1, cI_ne _ _ _ hi]
    have jZ : ∀ j, j < 8 → cI C3 (64 + 8 * cN C + j) = fun _ => 0 := fun j hj => by
      rw [e3, cI_ne _ _ _ (by omega), e2, ← n1, cnewB_Z hj]
    have jZ0 : cI C3 (64 + 8 * cN C) = fun _ => 0 := jZ 0 (by omega)
    have hbm : ∀ b, b < cN C → bm C3 b = bm C b := fun b hb => by unfold bm bG; rw [jI _ (by omega) (by omega)]
    obtain ⟨⟨a1, a2, a3⟩, b2, b3, b4, b5⟩ := hR.1
    have inv : cInv t C3 := by
      refine ⟨⟨by omega, by rw [n3]; exact j5, fun b hb => ?_⟩, by rw [j06]; exact b2, fun b hb => ?_, fun k hk hk2 => ?_, fun k hk hk2 => ?_⟩
      · rw [n3] at hb
        by_cases hbn : b = cN C
        · subst hbn
          have g0 : bG C3 (cN C) = fun _ _ => false := by unfold bG; rw [jZ 1 (by omega)]; exact rG_0
          refine ⟨⟨by rw [jZ 1 (by omega)]; exact fun _ _ i _ => b_0 i, by rw [jZ0]; exact Or.inl rfl⟩, fun _ => ?_⟩
          refine ⟨by rw [jZ 2 (by omega)]; exact fun _ _ i _ => b_0 i, ?_, ?_⟩
          · rw [jZ 2 (by omega), rG_0, g0]; exact (thinF_0 577).symm
          · rw [g0, show thinG (fun _ _ => false) = fun _ _ => false from thinF_0 577, show marks (fun _ _ => false) = [] from acc_0 484]
            refine ⟨by rw [jZ0]; rfl, by rw [jZ0]; rfl, fun i hi => absurd hi (by simp)⟩
        · have hb' : b < cN C := by omega
          refine ⟨⟨by rw [jI _ (by omega) (by omega)]; exact (a3 b hb').1.1, by rw [jI _ (by omega) (by omega)]; exact (a3 b hb').1.2⟩, fun h8 => ?_⟩
          rw [jI _ (by omega) (by omega)] at h8
          have hf := (a3 b hb').2 h8
          unfold bFresh cMk bG
          rw [jI (64 + 8 * b) (by omega) (by omega), jI (64 + 8 * b + 1) (by omega) (by omega), jI (64 + 8 * b + 2) (by omega) (by omega), jI (64 + 8 * b + 3) (by omega) (by omega), jI (64 + 8 * b + 4) (by omega) (by omega), jI (64 + 8 * b + 5) (by omega) (by omega)]
          exact hf
      · rw [n3] at hb
        by_cases hbn : b = cN C
        · subst hbn; exact ⟨0, by omega, by rw [jZ0]; rfl⟩
        · rw [jI _ (by omega) (by omega)]; exact b3 b (by omega)
      · rw [E3] at hk2
        have := b4 k hk hk2
        rw [n3]; omega
      · rw [E3] at hk2
        have q := b4 k hk hk2
        obtain ⟨m1, m2⟩ := b5 k hk hk2
        unfold mtI mtO
        rw [jI (256 + k) (by omega) (by omega), jI (64 + 8 * (k / 16)) (by omega) (by omega), jI (64 + 8 * (k % 16)) (by omega) (by omega), hbm _ q.1, hbm _ q.2]
        exact ⟨m1, m2⟩
    unfold wpX7_print
    intro M2 eM
    have h2 : Rel t C M2 := by rw [eM]; exact Rel_0 hR
    have m02 : M2 0 2 = nI (cN C) := h2.2.1
    rw [m02]
    refine br_ne (fun z => by have := nI_inj (b := 16) (by omega) (by omega) z; omega) (fun M3 e3M => ?_)
    have k2 : M3 0 2 = nI (cN C + 1) := by rw [e3M, st_at, show (1 : Int32) = nI 1 from rfl, nI_add]
    have ev : nI (cN C + 1) - 1 = nI (cN C) := by rw [show (1 : Int32) = nI 1 from rfl, pk_sub (by omega)]; rfl
    rw [k2, ev]
    refine told_ok ⟨by rw [j5, ev], Rel_mono ⟨inv, ?_⟩⟩
    rw [pos_told (by rw [tI _ (by omega)]; omega)]
    obtain ⟨q1, q2, q3, q4, q5⟩ := h2.2
    unfold mRel
    rw [n3]
    refine ⟨by rw [st_off _ _ (by decide)]; exact k2, by rw [st_off _ _ (by decide), e3M, st_off _ _ (by decide), j06]; exact q2, by rw [st_at, j07], fun b hb y hy => ?_, fun j h1 h2 => ?_⟩
    · rw [st_ne _ _ _ (by decide), e3M, st_ne _ _ _ (by decide)]
      by_cases hbn : b = cN C
      · subst hbn; rw [jZ 1 (by omega)]; exact q5 _ (by omega) (by omega)
      · rw [jI _ (by omega) (by omega)]; exact q4 b (by omega) y hy
    · rw [st_ne _ _ _ (by decide), e3M, st_ne _ _ _ (by decide)]
      exact q5 j (by omega) h2
  · have e16 : cN C = 16 := by omega
    refine br_e (show ¬ nI (cN C) < nI 16 from nI_nlt (by omega) (by omega)) ⟨by omega, ?_⟩
    unfold wpX6_refuse
    intro C2 e2
    refine ⟨by omega, ?_⟩
    unfold wpX7_print
    intro M2 eM
    have h2 : Rel t C M2 := by rw [eM]; exact Rel_0 hR
    have m02 : M2 0 2 = nI 16 := by rw [← e16]; exact h2.2.1
    rw [m02]
    refine br_ni rfl (told_ok ⟨rfl, ?_⟩)
    rw [neg_told (by decide), e2]
    exact Rel_mono (Rel_7 h2)
