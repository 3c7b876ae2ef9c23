theorem dm24 (k : Nat) : 24 * (k / 24) + k % 24 = k := Nat.div_add_mod k 24
theorem holds_k {F : Gr} {M : mM} (h : holds F M) {k : Nat} (hk : k < 576) : M 5 k = b2i (F (k % 24) (k / 24)) := by
  have := h (k % 24) (k / 24) (by omega) (by omega)
  rw [dm24] at this
  exact this
theorem holds_of {F : Gr} {M : mM} (h : ∀ k, k < 576 → M 5 k = b2i (F (k % 24) (k / 24))) : holds F M := fun u v hu hv => by
  rw [h (24 * v + u) (by omega), show (24 * v + u) % 24 = u by omega, show (24 * v + u) / 24 = v by omega]
theorem holds_fr {F : Gr} {M M1 : mM} {L : List Nat} (h : holds F M) (hf : fr L M M1) (h5 : 5 ∉ L) : holds F M1 := fun u v hu hv => by rw [hf 5 h5]; exact h u v hu hv
theorem nIrem {k d : Nat} (hk : k < 2147483648) (h0 : 0 < d) (hd : d < 2147483648) : nI k - nI k / nI d * nI d = nI (k % d) := pk_rem (by omega) h0 (by omega)
theorem nIdiv {k d : Nat} (hk : k < 2147483648) (h0 : 0 < d) (hd : d < 2147483648) : nI k / nI d = nI (k / d) := pk_div (by omega) h0 (by omega)
theorem pass_ok {n : Nat} {F : Gr} {M : mM} {first : Bool} {Q : Int32 → mM → Prop} (hn : 600 ≤ n) (hF : inG F) (hh : holds F M) (hq : ∀ M1, fr [5, 6, 7] M M1 → holds (passG first F) M1 → Q (b2i (anyG first F)) M1) : wpX7_pass n (b2i first) M Q := by
  -- the second loop
  have loop2 : ∀ (k i : Nat) (M1 : mM) (M0 : mM) (a : Bool), i ≤ 576 → 576 < i + k → fr [5, 6, 7] M M0 → fr [5] M0 M1 → (∀ j, j < 576 → M1 6 j = b2i (goesB first F (j % 24) (j / 24))) → (∀ j, j < i → M1 5 j = b2i (passG first F (j % 24) (j / 24))) → (∀ j, i ≤ j → j < 576 → M1 5 j = b2i (F (j % 24) (j / 24))) → a = anyG first F → wpX7_pass_210 n Q (b2i a) k (nI i) M1 := by
    intro k
    induction k with
    | zero => intro i M1 M0 a h1 h2; exact absurd h2 (by omega)
    | succ k ih =>
      intro i M1 M0 a h1 h2 hf0 hf h6 h5 h5b ha
      rw [wpX7_pass_210]
      refine pk_le 576 i (fun h8 => ?_) (fun h8 => ?_)
      · have : i = 576 := by omega
        subst this
        rw [ha]
        exact ⟨b2i_bz _, hq M1 (hf0.tr (hf.mono (by simp))) (holds_of h5)⟩
      · have key : ∀ b : Bool, b = passG first F (i % 24) (i / 24) → wpX7_pass_245 n (wpX7_pass_210 n Q (b2i a) k) (b2i a) (nI i) (b2i b) M1 := by
          intro b hb
          unfold wpX7_pass_245
          refine ⟨pk_in i 576 h8, b2i_bz b, fun M2 e2 c ec => ?_⟩
          rw [cl_nI (by omega)] at e2
          rw [ec, nI_1]
          refine ih (i + 1) M2 M0 a (by omega) (by omega) hf0 (by rw [e2]; exact hf.tr (fr.st (by simp))) (fun j hj => by rw [e2, st_ne _ _ _ (by omega)]; exact h6 j hj) (fun j hj => ?_) (fun j hj1 hj2 => by rw [e2, st_off _ _ (by omega)]; exact h5b j (by omega) hj2) ha
          rw [e2]
          by_cases hji : j = i
          · subst hji; rw [st_at, hb]
          · rw [st_off _ _ hji]; exact h5 j (by omega)
        refine ⟨pk_in i 576 h8, ?_⟩
        rw [cl_nI (by omega), h5b i (by omega) h8, h6 i h8]
        refine br_b (fun z => ?_) (fun z => ?_)
        · exact key false (by unfold passG; rw [z]; rfl)
        · refine br_bn (fun z2 => ?_) (fun z2 => ?_)
          · exact key true (by unfold passG; rw [z, z2]; rfl)
          · exact key false (by unfold passG; rw [z, z2]; rfl)
  have loop1 : ∀ (k i : Nat) (M1 : mM), i ≤ 576 → 576 < i + k → fr [6, 7] M M1 → (∀ j, j < i → M1 6 j = b2i (goesB first F (j % 24) (j / 24))) → wpX7_pass_4 n (fun y2_4 M_4 => wpX7_pass_210 n Q y2_4 n 0 M_4) (b2i first) k (b2i (anyk (fun k => goesB first F (k % 24) (k / 24)) i)) (nI i) M1 := by
    intro k
    induction k with
    | zero => intro i M1 h1 h2; exact absurd h2 (by omega)
    | succ k ih =>
      intro i M1 h1 h2 hf h6
      rw [wpX7_pass_4]
      refine pk_le 576 i (fun h8 => ?_) (fun h8 => ?_)
      · have : i = 576 := by omega
        subst this
        have hf3 : fr [5, 6, 7] M M1 := hf.mono (by simp)
        exact loop2 n 0 M1 M1 _ (by omega) (by omega) hf3 (fr.rf _ _) h6 (fun j hj => absurd hj (by omega)) (fun j _ hj => holds_k (holds_fr hh hf (by simp)) hj) rfl
      · rw [show (24 : Int32) = nI 24 from rfl, nIrem (by omega) (by omega) (by omega), nIdiv (by omega) (by omega) (by omega)]
        have hh1 : holds F M1 := holds_fr hh hf (by simp)
        refine look_ok (by omega) hF hh1 (by omega) (by omega) (fun M2 hf2 hb => ?_)
        generalize hfd : nb F (i % 24) (i / 24) = f at hb
        intro x5 e5 x6 e6 x7 e7 x8 e8
        rw [hb 0 (by omega)] at e5
        rw [hb 2 (by omega)] at e6
        rw [hb 4 (by omega)] at e7
        rw [hb 6 (by omega)] at e8
        have hf12 : fr [6, 7] M M2 := hf.tr (hf2.mono (by simp))
        have key182 : ∀ b : Bool, b = goesB first F (i % 24) (i / 24) → wpX7_pass_182 n (wpX7_pass_4 n (fun y2_4 M_4 => wpX7_pass_210 n Q y2_4 n 0 M_4) (b2i first) k) (b2i first) (b2i (anyk (fun k => goesB first F (k % 24) (k / 24)) i)) (nI i) (b2i b) M2 := by
          intro b hbg
          unfold wpX7_pass_182
          refine ⟨pk_in i 576 h8, b2i_bz b, fun M3 e3 => ?_⟩
          rw [cl_nI (by omega)] at e3 ⊢
          have h63 : ∀ j, j < i + 1 → M3 6 j = b2i (goesB first F (j % 24) (j / 24)) := fun j hj => by
            rw [e3]
            by_cases hji : j = i
            · subst hji; rw [st_at, hbg]
            · rw [st_off _ _ hji, hf2 6 (by simp)]; exact h6 j (by omega)
          have hf3 : fr [6, 7] M M3 := by rw [e3]; exact hf12.tr (fr.st (by simp))
          have fin : ∀ a : Bool, a = anyk (fun k => goesB first F (k % 24) (k / 24)) (i + 1) → wpX7_pass_201 n (wpX7_pass_4 n (fun y2_4 M_4 => wpX7_pass_210 n Q y2_4 n 0 M_4) (b2i first) k) (b2i first) (nI i) (b2i a) M3 := by
            intro a ha
            unfold wpX7_pass_201
            intro c ec
            rw [ec, nI_1, ha]
            exact ih (i + 1) M3 (by omega) (by omega) hf3 h63
          rw [h63 i (by omega), ← hbg]
          refine br_bn (fun z => ?_) (fun z => ?_)
          · refine br_b (fun z2 => ?_) (fun z2 => ?_)
            · exact fin false (by rw [anyk, z, ← hbg, z2]; rfl)
            · exact fin true (by rw [anyk, z, ← hbg, z2]; rfl)
          · exact fin true (by rw [anyk, z]; rfl)
        have key135 : ∀ kp : Bool, kp = keepB first f → wpX7_pass_135 n (wpX7_pass_4 n (fun y2_4 M_4 => wpX7_pass_210 n Q y2_4 n 0 M_4) (b2i first) k) (b2i first) (b2i (anyk (fun k => goesB first F (k % 24) (k / 24)) i)) (nI i) (nI (cn8 f)) (b2i kp) M2 := by
          intro kp hkp
          have hg : goesB first F (i % 24) (i / 24) = (F (i % 24) (i / 24) && decide (2 ≤ cn8 f) && decide (cn8 f ≤ 6) && decide (ch8 f = 1) && !kp) := by
            unfold goesB; rw [hfd, hkp]
          have hc8 : cn8 f ≤ 8 := ct_le f 8
          have hh8 : ch8 f ≤ 8 := ct_le _ 8
          unfold wpX7_pass_135
          refine ⟨pk_in i 576 h8, ?_⟩
          rw [cl_nI (by omega), holds_k (holds_fr hh1 hf2 (by simp)) h8]
          refine br_b (fun z => key182 false (by rw [hg, z]; rfl)) (fun z => ?_)
          refine pk_lt (cn8 f) 2 (fun z2 => key182 false (by rw [hg, decide_eq_false (by omega)]; simp)) (fun z2 => ?_)
          refine pk_lt 6 (cn8 f) (fun z3 => key182 false (by rw [hg, decide_eq_false (p := cn8 f ≤ 6) (by omega)]; simp)) (fun z3 => ?_)
          refine changes_ok (by omega) hb ?_
          refine (fun (q : (nI (ch8 f) = 1 → _) ∧ (¬ nI (ch8 f) = 1 → _)) => ⟨q.2, q.1⟩) (pk_eq (ch8 f) 1 (fun z4 => ?_) (fun z4 => key182 false (by rw [hg, decide_eq_false z4]; simp)))
          refine br_bn (fun z5 => key182 true (by rw [hg, z, z5, decide_eq_true (by omega), decide_eq_true (by omega), decide_eq_true z4]; rfl)) (fun z5 => key182 false (by rw [hg, z5]; simp))
        rw [e5, e6, e7, e8]
        clear e5 e6 e7 e8
        generalize hb0 : f 0 = b0
        generalize hb2 : f 2 = b2
        generalize hb4 : f 4 = b4
        generalize hb6 : f 6 = b6
        have k0 : keepB first f = false → wpX7_pass_135 n (wpX7_pass_4 n (fun y2_4 M_4 => wpX7_pass_210 n Q y2_4 n 0 M_4) (b2i first) k) (b2i first) (b2i (anyk (fun k => goesB first F (k % 24) (k / 24)) i)) (nI i) (nI (cn8 f)) 0 M2 := fun z => key135 false z.symm
        have k1 : keepB first f = true → wpX7_pass_135 n (wpX7_pass_4 n (fun y2_4 M_4 => wpX7_pass_210 n Q y2_4 n 0 M_4) (b2i first) k) (b2i first) (b2i (anyk (fun k => goesB first F (k % 24) (k / 24)) i)) (nI i) (nI (cn8 f)) 1 M2 := fun z => key135 true z.symm
        have hkv : keepB first f = (if first then (b2 && b0 && b6) || (b0 && b6 && b4) else (b2 && b0 && b4) || (b2 && b6 && b4)) := by unfold keepB; rw [hb0, hb2, hb4, hb6]
        rw [hkv] at k0 k1
        clear hkv key135 key182 hb0 hb2 hb4 hb6
        unfold wpX7_pass_115 wpX7_pass_77
        cases first <;> cases b0 <;> cases b2 <;> cases b4 <;> cases b6 <;> (repeat' (first | exact k0 rfl | exact k1 rfl | exact absurd c (by decide) | refine ⟨fun c => ?_, fun c => ?_⟩))
  unfold wpX7_pass
  exact loop1 n 0 M (by omega) (by omega) (fr.rf _ _) (fun j hj => absurd hj (by omega))
def ctG (F : Gr) : Nat := ct (fun k => F (k % 24) (k / 24)) 576
theorem ctG_le (F : Gr) : ctG F ≤ 576 := ct_le _ _
theorem ctG_pass (first : Bool) (F : Gr) : ctG (passG first F) ≤ ctG F := ct_sub (fun k _ h => by unfold passG at h; simp at h; exact h.1)
theorem ctG_lt (first : Bool) (F : Gr) (h : anyG first F = true) : ctG (passG first F) < ctG F := by
  obtain ⟨k, hk, hg⟩ := (anyk_iff _ _).mp h
  refine ct_lt (fun k _ h => by unfold passG at h; simp at h; exact h.1) ⟨k, hk, by unfold passG; rw [hg]; simp, ?_⟩
  unfold goesB at hg
  simp at hg
  exact hg.1.1.1.1
/-- thinning, k rounds at most -/
def thinF : Nat → Gr → Gr
  | 0, F => F
  | k + 1, F => if anyG true F || anyG false (passG true F) then thinF k (passG false (passG true F)) else passG false (passG true F)
def thinG (F : Gr) : Gr := thinF 577 F
theorem thinF_in : ∀ (k : Nat) {F : Gr}, inG F → inG (thinF k F)
  | 0, _, h => h
  | k + 1, F, h => by
    rw [thinF]
    split
    · exact thinF_in k (passG_in (passG_in h true) false)
    · exact passG_in (passG_in h true) false
theorem round_lt {F : Gr} (h : (anyG true F || anyG false (passG true F)) = true) : ctG (passG false (passG true F)) < ctG F := by
  rw [Bool.or_eq_true] at h
  rcases h with h | h
  · exact Nat.lt_of_le_of_lt (ctG_pass false _) (ctG_lt true F h)
  · exact Nat.lt_of_lt_of_le (ctG_lt false _ h) (ctG_pass true F)
