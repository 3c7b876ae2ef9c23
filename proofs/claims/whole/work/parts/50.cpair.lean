/-! PURE PART: the class pairs as many as can be -/
theorem ct_mono (p : Nat → Bool) {n m : Nat} (h : n ≤ m) : ct p n ≤ ct p m := by
  obtain ⟨d, rfl⟩ : ∃ d, m = n + d := ⟨m - n, by omega⟩
  rw [ct_add]; omega
theorem imin_nI {a b : Nat} (ha : a < 2147483648) (hb : b < 2147483648) : imin (nI a) (nI b) = nI (min a b) := by
  show (if nI b < nI a then nI b else nI a) = _
  by_cases z : b < a
  · rw [if_pos (nI_lt z (by omega))]; congr 1; omega
  · rw [if_neg (nI_nlt (by omega) (by omega))]; congr 1; omega
theorem nI_n0 {u : Nat} (h : u < 2147483648) : ¬ nI u < 0 := by rw [i32_lt, tI u (by omega)]; show ¬ (u : Int) < 0; omega
theorem nI_l40 {u : Nat} (h : u < 40) : nI u < 40 := by rw [i32_lt, tI u (by omega)]; show (u : Int) < 40; omega
/-- whom each mark of the first may choose -/
def chT (a : Nat → Nat → Bool) (n1 n2 : Nat) (C : cM) : Prop := ∀ i, i < n1 → ∀ j, j < 64 → lb (cL C 26 i) j = (decide (j < n2) && a i j)
theorem gather_ok {n t T : Nat} {dx dy : Int32} {L1 L2 : List Mk} {C0 : cM} {Q : Int32 → cM → Prop} (hn : 50 ≤ n) (ht : t < 4) (hdx : -8 ≤ dx.toInt ∧ dx.toInt ≤ 8) (hdy : -8 ≤ dy.toInt ∧ dy.toInt ≤ 8) (hP : prepd L1 L2 T C0) (l1 : L1.length ≤ 40) (l2 : L2.length ≤ 40) (k1 : ∀ m ∈ L1, mkOk m)
    (hq : ∀ C1 ce, cfx [] [26] C0 C1 → chT (fun i j => agB T t dx.toInt dy.toInt (mget L1 i) (mget L2 j)) L1.length L2.length C1 → ce ≤ 40 → (∀ c, cntIs L1 L2 T t dx.toInt dy.toInt c → c ≤ ce) → Q (nI ce) C1) : wpX2_gatherChoices n (nI t) dx dy C0 Q := by
  obtain ⟨h11, hturn, hs1, hs2, hs3⟩ := hP
  have loop : ∀ (k i : Nat) (x5 : Int64) (C : cM), i ≤ L1.length → L1.length < i + k → cfx [] [26] C0 C → chT (fun i j => agB T t dx.toInt dy.toInt (mget L1 i) (mget L2 j)) i L2.length C → (∀ j, lb x5 j = anyk (fun u => lb (cL C 26 u) j) i) → wpX2_gatherChoices_9 n (fun y4_9 y5_9 C_9 => wpJ13_bitCount_95d88 n y5_9 C_9 (fun r205 C205 => Q (imin y4_9 r205) C205)) (nI t) dx dy k (nI (ct (fun u => decide (¬ cL C 26 u = 0)) i)) x5 (nI i) C := by
    intro k
    induction k with
    | zero => intro i x5 C a1 a2; exact absurd a2 (by omega)
    | succ k ih =>
      intro i x5 C hi hik hf hch h5
      rw [wpX2_gatherChoices_9, hf.1 4 (by simp), h11]
      refine pk_le L1.length i (fun z => ?_) (fun z => ?_)
      · have e : i = L1.length := by omega
        subst e
        refine lbitCount_ok ?_
        have b1 := ct_le (fun u => decide (¬ cL C 26 u = 0)) L1.length
        have b2 := ct_le (lb x5) 64
        rw [imin_nI (by omega) (by omega)]
        refine hq C _ hf hch (by omega) (fun c hc => ?_)
        have m1 := max_left hc (fun u => decide (¬ cL C 26 u = 0)) (fun u w hu hw haw => decide_eq_true (ne0_of (j := w) (by rw [hch u hu w (by omega), decide_eq_true hw]; exact haw)))
        have m2 := max_right hc (lb x5) (fun u w hu hw haw => by
          rw [h5 w, anyk_iff]
          exact ⟨u, hu, by rw [hch u hu w (by omega), decide_eq_true hw]; exact haw⟩)
        have m3 := ct_mono (lb x5) (show L2.length ≤ 64 by omega)
        omega
      · intro x8 e8
        have e8b : x8 = nI (40 * t + i) := by rw [e8, show (40 : Int32) = nI 40 from rfl, pk_mul, nI_add, Nat.mul_comm]
        rw [e8b, cl_nI (by omega)]
        refine ⟨pk_in (40 * t + i) 160 (by omega), ?_⟩
        obtain ⟨i20, i21, i22⟩ := hturn i z t ht
        rw [hf.1 20 (by simp), hf.1 21 (by simp), hf.1 22 (by simp), i22]
        obtain ⟨ok1, ok2, ok3, ok4, ok5⟩ := mget_ok k1 i
        have rr := rot_rng t (((mget L1 i).1 : Int), ((mget L1 i).2.1 : Int)) (by show (0 : Int) ≤ ((mget L1 i).1 : Int) ∧ ((mget L1 i).1 : Int) ≤ 23 ∧ (0 : Int) ≤ ((mget L1 i).2.1 : Int) ∧ ((mget L1 i).2.1 : Int) ≤ 23; omega)
        have e8i : (8 : Int32).toInt = 8 := rfl
        have sum : ∀ (A d : Int32) (v : Int), A.toInt = v → 0 ≤ v → v ≤ 23 → -8 ≤ d.toInt → d.toInt ≤ 8 → ∃ r : Nat, r < 40 ∧ (r : Int) = v + d.toInt + 8 ∧ A + d + 8 = nI r := fun A d v hA v0 v1 d0 d1 => by
          refine ⟨(v + d.toInt + 8).toNat, by omega, by omega, i32_is ?_ (by omega)⟩
          have e1 : (A + d).toInt = v + d.toInt := by rw [addI (by omega) (by omega), hA]
          rw [addI (by rw [e1, e8i]; omega) (by rw [e1, e8i]; omega), e1, e8i]
          omega
        obtain ⟨X, X1, X2, X3⟩ := sum _ dx _ i20 rr.1 rr.2.1 hdx.1 hdx.2
        obtain ⟨Y, Y1, Y2, Y3⟩ := sum _ dy _ i21 rr.2.2.1 rr.2.2.2 hdy.1 hdy.2
        intro x9 e9 x10 e10 x11 e11
        rw [X3] at e9
        rw [Y3] at e10
        rw [e9, e10, e11]
        refine br_e (by rw [i32_lt, tI X (by omega)]; show ¬ (X : Int) < 0; omega) (pk_le 40 X (fun w => absurd w (by omega)) (fun _ => ?_))
        refine br_e (by rw [i32_lt, tI Y (by omega)]; show ¬ (Y : Int) < 0; omega) (pk_le 40 Y (fun w => absurd w (by omega)) (fun _ => ?_))
        have s8 := srt_le (t := t) ok5
        unfold wpX2_gatherChoices_93
        refine br_e (nI_n0 (by omega)) (pk_le 9 (srt t (mget L1 i).2.2) (fun w => absurd w (by omega)) (fun _ => ?_))
        unfold wpX2_gatherChoices_115
        refine br_1 (br_1 ⟨pk_in (srt t (mget L1 i).2.2) 9 (by omega), pk_in X 40 X1, pk_in Y 40 Y1, ?_⟩)
        rw [cl_nI (by omega), cl_nI (by omega), cl_nI (by omega), hf.2.1 25 (by simp), hf.2.1 23 (by simp), hf.2.1 24 (by simp)]
        unfold wpX2_gatherChoices_160
        refine ⟨pk_in i 40 (by omega), fun C1 eC1 => ?_⟩
        rw [cl_nI (by omega)] at eC1 ⊢
        have bits : ∀ j, j < 64 → lb (cL C1 26 i) j = (decide (j < L2.length) && agB T t dx.toInt dy.toInt (mget L1 i) (mget L2 j)) := fun j hj => by
          rw [eC1, cstL_at, lb_and, lb_and, hs3 _ (by omega) j hj, hs1 X X1 j hj, hs2 Y Y1 j hj, agB_eq]
          have nx : nearB T X (mget L2 j).1 = decide (-(T : Int) ≤ ((mget L2 j).1 : Int) - ((rot t (((mget L1 i).1 : Int), ((mget L1 i).2.1 : Int))).1 + dx.toInt) ∧ ((mget L2 j).1 : Int) - ((rot t (((mget L1 i).1 : Int), ((mget L1 i).2.1 : Int))).1 + dx.toInt) ≤ T) := by
            unfold nearB; exact decide_eq_decide.mpr (by omega)
          have ny : nearB T Y (mget L2 j).2.1 = decide (-(T : Int) ≤ ((mget L2 j).2.1 : Int) - ((rot t (((mget L1 i).1 : Int), ((mget L1 i).2.1 : Int))).2 + dy.toInt) ∧ ((mget L2 j).2.1 : Int) - ((rot t (((mget L1 i).1 : Int), ((mget L1 i).2.1 : Int))).2 + dy.toInt) ≤ T) := by
            unfold nearB; exact decide_eq_decide.mpr (by omega)
          rw [← nx, ← ny]
          cases decide (j < L2.length) <;> cases samB (srt t (mget L1 i).2.2) (mget L2 j).2.2 <;> cases nearB T X (mget L2 j).1 <;> rfl
        have old : ∀ u, u ≠ i → cL C1 26 u = cL C 26 u := fun u hu => by rw [eC1, cstL_off _ _ hu]
        have f1 : cfx [] [26] C0 C1 := by rw [eC1]; exact hf.tr (cfx.sl (by simp))
        have hch1 : chT (fun i j => agB T t dx.toInt dy.toInt (mget L1 i) (mget L2 j)) (i + 1) L2.length C1 := fun u hu j hj => by
          by_cases zz : u = i
          · subst zz; exact bits j hj
          · rw [old u zz]; exact hch u (by omega) j hj
        intro y5 ey5
        have h51 : ∀ j, lb y5 j = anyk (fun u => lb (cL C1 26 u) j) (i + 1) := fun j => by
          rw [ey5, lb_or, h5 j, anyk]
          congr 1
          exact anyk_cong (fun u hu => by rw [old u (by omega)])
        have fin : ∀ b : Bool, b = decide (¬ cL C1 26 i = 0) → wpX2_gatherChoices_192 n (wpX2_gatherChoices_9 n (fun y4_9 y5_9 C_9 => wpJ13_bitCount_95d88 n y5_9 C_9 (fun r205 C205 => Q (imin y4_9 r205) C205)) (nI t) dx dy k) (nI t) dx dy y5 (nI i) (b2i b) (nI (ct (fun u => decide (¬ cL C 26 u = 0)) i)) C1 := fun b hb => by
          unfold wpX2_gatherChoices_192
          intro a ea c ec
          have e3 : ct (fun u => decide (¬ cL C1 26 u = 0)) (i + 1) = ct (fun u => decide (¬ cL C 26 u = 0)) i + (if b then 1 else 0) := by
            rw [ct, ← hb]
            congr 1
            exact ct_cong (fun u hu => by rw [old u (by omega)])
          rw [ea, ec, b2i_nI, nI_add, nI_1, ← e3]
          exact ih (i + 1) y5 C1 (by omega) (by omega) f1 hch1 h51
        rw [lg_cmp_eq]
        exact br_d (fun w => fin false (by rw [decide_eq_false (fun q => q w)])) (fun w => fin true (by rw [decide_eq_true w]))
  unfold wpX2_gatherChoices
  exact loop n 0 0 C0 (by omega) (by omega) (cfx.rf _ _ _) (fun i hi => absurd hi (by omega)) (fun j => lb_0 j)
/-- who is paired with whom -/
def qE (C : cM) (n1 n2 : Nat) : Nat → Nat → Prop := fun u k => u < n1 ∧ k < n2 ∧ cI C 27 u = nI k
def qV (C : cM) (n1 n2 : Nat) : Prop := ∀ u, u < n1 → (cI C 27 u = -1 ∨ ∃ k, k < n2 ∧ cI C 27 u = nI k)
def qB (C : cM) (n1 n2 : Nat) : Prop := ∀ u k, qE C n1 n2 u k → cI C 28 k = nI u
def qM (C : cM) (n1 n2 : Nat) : Prop := ∀ k, k < 64 → (lb (cL C 4 12) k = true ↔ ∃ u, qE C n1 n2 u k)
theorem along_ok {n s n1 n2 j0 : Nat} {a : Nat → Nat → Bool} {E0 : Nat → Nat → Prop} {D : Nat → Prop} {par ord : Nat → Nat} {C0 : cM} {Q : cM → Prop} (hs : s < n1) (hn1 : n1 ≤ 40) (hn2 : n2 ≤ 40) (hS : Srch a s n2 E0 D par ord) (h0 : PR a s n2 E0) (hj0 : ∀ u, ¬ E0 u j0) (hord : ∀ k, D k → 1 ≤ ord k)
    (hQ : ∀ C1, cfx [27, 28] [] C0 C1 → qV C1 n1 n2 → qB C1 n1 n2 → PR a (s + 1) n2 (qE C1 n1 n2) → (∀ u, (∃ l, qE C1 n1 n2 u l) ↔ ((∃ l, E0 u l) ∨ u = s)) → (∀ l, (∃ u, qE C1 n1 n2 u l) ↔ ((∃ u, E0 u l) ∨ l = j0)) → Q C1) (h29 : ∀ l, D l → l ≠ j0 → cI C0 29 l = nI (par l)) : ∀ (f k x5 : Nat) (C : cM), ord k < f → ord k + x5 ≤ 40 → D k → cfx [27, 28] [] C0 C → qV C n1 n2 → qB C n1 n2 → (∀ l, ((∃ u, qE C n1 n2 u l) ∨ l = k) ↔ ((∃ u, E0 u l) ∨ l = j0)) → Flip a s n2 E0 D ord (qE C n1 n2) k → wpX2_pairAlong_20 n Q f (nI (par k)) (nI k) (nI x5) C := by
  intro f
  induction f with
  | zero => intro k x5 C h1; exact absurd h1 (by omega)
  | succ f ih =>
    intro k x5 C hf hx hk hfr hv hB hR hF
    obtain ⟨k1, k2, k3, k4⟩ := hS k hk
    have ok := hord k hk
    rw [wpX2_pairAlong_20]
    refine pk_le 40 x5 (fun z => absurd z (by omega)) (fun _ => br_e (nI_n0 (by omega)) (pk_le 40 (par k) (fun z => absurd z (by omega)) (fun _ => br_e (nI_n0 (by omega)) (br_i (nI_l40 (by omega)) ⟨pk_in (par k) 40 (by omega), ?_⟩))))
    rw [cl_nI (by omega), cl_nI (by omega)]
    intro x6 e6 C1 eC1
    refine ⟨pk_in k 40 (by omega), fun C2 eC2 => ?_⟩
    have g27 : ∀ u, u ≠ par k → cI C2 27 u = cI C 27 u := fun u hu => by rw [eC2, cI_ne _ _ _ (by decide), eC1, cst_off _ _ hu]
    have g27v : cI C2 27 (par k) = nI k := by rw [eC2, cI_ne _ _ _ (by decide), eC1, cst_at]
    have g28 : ∀ l, l ≠ k → cI C2 28 l = cI C 28 l := fun l hl => by rw [eC2, cst_off _ _ hl, eC1, cI_ne _ _ _ (by decide)]
    have g28k : cI C2 28 k = nI (par k) := by rw [eC2, cst_at]
    have f2 : cfx [27, 28] [] C0 C2 := by rw [eC2, eC1]; exact (hfr.tr (cfx.st (by simp))).tr (cfx.st (by simp))
    have e : qE C2 n1 n2 = put1 (qE C n1 n2) (par k) k := by
      funext u l
      refine propext ⟨fun ⟨q1, q2, q3⟩ => ?_, fun h => ?_⟩
      · by_cases z : u = par k
        · rw [z, g27v] at q3
          exact Or.inl ⟨z, (nI_inj (by omega) (by omega) q3).symm⟩
        · rw [g27 u z] at q3
          exact Or.inr ⟨z, q1, q2, q3⟩
      · rcases h with ⟨q1, q2⟩ | ⟨q1, q2, q3, q4⟩
        · rw [q1, q2]; exact ⟨by omega, k1, g27v⟩
        · exact ⟨q2, q3, by rw [g27 u q1]; exact q4⟩
    have v2 : qV C2 n1 n2 := fun u hu => by
      by_cases z : u = par k
      · rw [z]; exact Or.inr ⟨k, k1, g27v⟩
      · rw [g27 u z]; exact hv u hu
    have b2 : qB C2 n1 n2 := fun u l hul => by
      rw [e] at hul
      rcases hul with ⟨q1, q2⟩ | ⟨q1, q2⟩
      · rw [q1, q2]; exact g28k
      · have lk : l ≠ k := fun z => by rw [z] at q2; exact hF.2.1 u q2
        rw [g28 l lk]; exact hB u l q2
    by_cases hp : par k = s
    · have x6n : x6 = -1 := by
        rw [e6]
        rcases hv (par k) (by omega) with z | ⟨l, l1, l2⟩
        · exact z
        · exfalso
          obtain ⟨m, hm⟩ := (hF.2.2.1 (par k)).mp ⟨l, by omega, l1, l2⟩
          have := (h0.1 _ _ hm).1
          omega
      refine br_ni x6n ?_
      obtain ⟨g1, g2⟩ := flip_last hS h0 hF hk hp
      rw [hp] at e
      rw [← e] at g1
      refine hQ C2 f2 v2 b2 g1 (by rw [e]; exact g2) (fun l => ?_)
      rw [e, ← hR l]
      constructor
      · rintro ⟨u, q⟩
        rcases q with ⟨_, q⟩ | ⟨_, q⟩
        · exact Or.inr q
        · exact Or.inl ⟨u, q⟩
      · rintro (⟨u, q⟩ | q)
        · refine ⟨u, Or.inr ⟨fun w => ?_, q⟩⟩
          rw [w] at q
          obtain ⟨m, hm⟩ := (hF.2.2.1 s).mp ⟨l, q⟩
          have := (h0.1 _ _ hm).1
          omega
        · exact ⟨s, Or.inl ⟨rfl, q⟩⟩
    · obtain ⟨l, l1, l2, l3, l4, l5, l6⟩ := flip_step hS h0 hF hk hp
      have e6b : x6 = nI l := by rw [e6]; exact l4.2.2
      have hl2 := l4.2.1
      refine br_ne (by rw [e6b]; exact nI_m1 (by omega)) ?_
      rw [e6b]
      refine ⟨pk_in l 40 (by omega), ?_⟩
      have lj : l ≠ j0 := fun z => by rw [z] at l3; exact hj0 _ l3
      rw [cl_nI (by omega), f2.1 29 (by simp), h29 l l1 lj]
      intro y3 ey3 y5 ey5
      rw [ey3, ey5, nI_1]
      rw [← e] at l6
      refine ih l (x5 + 1) C2 (by omega) (by omega) l1 f2 v2 b2 (fun m => ?_) l6
      rw [← hR m, e]
      constructor
      · rintro (⟨u, q⟩ | q)
        · rcases q with ⟨_, q⟩ | ⟨_, q⟩
          · exact Or.inr q
          · exact Or.inl ⟨u, q⟩
        · exact Or.inl ⟨par k, by rw [q]; exact l4⟩
      · rintro (⟨u, q⟩ | q)
        · by_cases w : u = par k
          · rw [w] at q; exact Or.inr (hF.1.2.1 _ _ _ q l4)
          · exact Or.inl ⟨u, Or.inr ⟨w, q⟩⟩
        · exact Or.inl ⟨par k, Or.inl ⟨rfl, q⟩⟩
/-- the search of the class -/
def cS (a : Nat → Nat → Bool) (s n1 n2 : Nat) (C : cM) (D : Nat → Bool) (ord : Nat → Nat) (tail : Nat) : Prop :=
  (∀ k, D k = true → k < n2 ∧ 1 ≤ ord k ∧ ord k < tail ∧ (∃ w, qE C n1 n2 w k ∧ cI C 30 (ord k) = nI w) ∧ ∃ h u, h < ord k ∧ u ≤ s ∧ cI C 30 h = nI u ∧ cI C 29 k = nI u ∧ a u k = true) ∧
  (∀ t, 1 ≤ t → t < tail → ∃ k, D k = true ∧ ord k = t) ∧ cI C 30 0 = nI s ∧ ct D n2 + 1 = tail
theorem cS_q {a : Nat → Nat → Bool} {s n1 n2 : Nat} {C : cM} {D : Nat → Bool} {ord : Nat → Nat} {tail : Nat} (h : cS a s n1 n2 C D ord tail) (hP : PR a s n2 (qE C n1 n2)) {t : Nat} (ht : t < tail) : ∃ u, u ≤ s ∧ cI C 30 t = nI u ∧ (t = 0 → u = s) ∧ (1 ≤ t → ∃ k, D k = true ∧ ord k = t ∧ qE C n1 n2 u k) := by
  obtain ⟨h1, h2, h3, h4⟩ := h
  rcases Nat.eq_zero_or_pos t with z | z
  · subst z; exact ⟨s, Nat.le_refl _, h3, fun _ => rfl, fun q => absurd q (by omega)⟩
  · obtain ⟨k, k1, k2⟩ := h2 t z ht
    obtain ⟨a1, a2, a3, ⟨w, w1, w2⟩, _⟩ := h1 k k1
    rw [k2] at w2
    have := (hP.1 _ _ w1).1
    exact ⟨w, by omega, w2, fun q => absurd q (by omega), fun _ => ⟨k, k1, k2, w1⟩⟩
theorem cS_le {a : Nat → Nat → Bool} {s n1 n2 : Nat} {C : cM} {D : Nat → Bool} (hP : PR a s n2 (qE C n1 n2)) (hD : ∀ k, D k = true → ∃ w, qE C n1 n2 w k) : ct D n2 ≤ s := by
  have hf : ∃ f : Nat → Nat, ∀ k, D k = true → qE C n1 n2 (f k) k := by
    refine ⟨fun k => @dite _ (∃ u, qE C n1 n2 u k) (Classical.propDecidable _) (fun h => h.choose) (fun _ => 0), fun k hk => ?_⟩
    have h1 := hD k hk
    show qE C n1 n2 (@dite _ (∃ u, qE C n1 n2 u k) (Classical.propDecidable _) (fun h => h.choose) (fun _ => 0)) k
    rw [dif_pos h1]
    exact h1.choose_spec
  obtain ⟨f, hf⟩ := hf
  have e : ct D n2 ≤ ct (fun _ => true) s := ct_inj (f := f) (fun k _ hk => ⟨(hP.1 _ _ (hf k hk)).1, rfl⟩) (fun k l _ _ hk hl hkl => hP.2.1 _ _ _ (hf k hk) (by rw [hkl]; exact hf l hl))
  rw [ct_all] at e
  exact e
theorem cS_push {a : Nat → Nat → Bool} {s n1 n2 : Nat} {C C1 : cM} {D D1 : Nat → Bool} {ord : Nat → Nat} {tail : Nat} (h : cS a s n1 n2 C D ord tail) {j t u w : Nat} (hj : j < n2) (hjD : D j = false) (hw : qE C n1 n2 w j) (ht : t < tail) (hus : u ≤ s) (hu : cI C 30 t = nI u) (ha : a u j = true) (e1 : C1 = cst (cst C 29 j (nI u)) 30 tail (nI w)) (hD1 : ∀ k, D1 k = (D k || decide (k = j))) : cS a s n1 n2 C1 D1 (fun k => if k = j then tail else ord k) (tail + 1) := by
  have e27 : cI C1 27 = cI C 27 := by rw [e1, cI_ne _ _ _ (by decide), cI_ne _ _ _ (by decide)]
  have eE : qE C1 n1 n2 = qE C n1 n2 := by unfold qE; rw [e27]
  have e29j : cI C1 29 j = nI u := by rw [e1, cI_ne _ _ _ (by decide), cst_at]
  have e29 : ∀ k, k ≠ j → cI C1 29 k = cI C 29 k := fun k hk => by rw [e1, cI_ne _ _ _ (by decide), cst_off _ _ hk]
  have e30t : cI C1 30 tail = nI w := by rw [e1, cst_at]
  have e30 : ∀ k, k ≠ tail → cI C1 30 k = cI C 30 k := fun k hk => by rw [e1, cst_off _ _ hk, cI_ne _ _ _ (by decide)]
  obtain ⟨h1, h2, h3, h4⟩ := h
  refine ⟨fun k hk => ?_, fun t2 a1 a2 => ?_, ?_, ?_⟩
  · dsimp only
    rw [eE]
    by_cases z : k = j
    · subst z
      rw [if_pos rfl]
      exact ⟨hj, by omega, by omega, ⟨w, hw, e30t⟩, t, u, ht, hus, by rw [e30 t (by omega)]; exact hu, e29j, ha⟩
    · rw [hD1, decide_eq_false z, Bool.or_false] at hk
      obtain ⟨b1, b2, b3, ⟨v, v1, v2⟩, h', u', q1, q2, q3, q4, q5⟩ := h1 k hk
      rw [if_neg z]
      exact ⟨b1, b2, by omega, ⟨v, v1, by rw [e30 _ (by omega)]; exact v2⟩, h', u', q1, q2, by rw [e30 _ (by omega)]; exact q3, by rw [e29 k z]; exact q4, q5⟩
  · by_cases z : t2 = tail
    · exact ⟨j, by rw [hD1, decide_eq_true rfl, Bool.or_true], by dsimp only; rw [if_pos rfl, z]⟩
    · obtain ⟨k, k1, k2⟩ := h2 t2 a1 (by omega)
      have kj : k ≠ j := fun z => by rw [z, hjD] at k1; cases k1
      exact ⟨k, by rw [hD1, k1, Bool.true_or], by dsimp only; rw [if_neg kj]; exact k2⟩
  · rw [e30 0 (by omega)]; exact h3
  · rw [← h4, ct_up (p := D) (q := D1) hj hjD (by rw [hD1, decide_eq_true rfl, Bool.or_true]) (fun k _ hk => by rw [hD1, decide_eq_false hk, Bool.or_false])]
/-- what it has come to, and one more that is free -/
theorem cS_S {a : Nat → Nat → Bool} {s n1 n2 : Nat} {C : cM} {D : Nat → Bool} {ord : Nat → Nat} {tail : Nat} (h : cS a s n1 n2 C D ord tail) (hP : PR a s n2 (qE C n1 n2)) (hs : s < 40) {j t u : Nat} (hj : j < n2) (hjD : D j = false) (ht : t < tail) (hu : cI C 30 t = nI u) (hus : u ≤ s) (ha : a u j = true) : Srch a s n2 (qE C n1 n2) (fun k => k = j ∨ D k = true) (fun k => if k = j then u else (cI C 29 k).toNatClampNeg) (fun k => if k = j then tail else ord k) := by
  have chain : ∀ (h' v : Nat), h' < tail → cI C 30 h' = nI v → v ≤ s → v = s ∨ ∃ l, D l = true ∧ ord l = h' ∧ qE C n1 n2 v l := fun h' v q1 q2 q3 => by
    obtain ⟨w, w1, w2, w3, w4⟩ := cS_q h hP q1
    have : w = v := nI_inj (by omega) (by omega) (w2.symm.trans q2)
    subst this
    rcases Nat.eq_zero_or_pos h' with z | z
    · exact Or.inl (w3 z)
    · obtain ⟨k, k1, k2, k3⟩ := w4 z
      exact Or.inr ⟨k, k1, k2, k3⟩
  intro k hk
  have hk : k = j ∨ D k = true := hk
  show k < n2 ∧ a (if k = j then u else (cI C 29 k).toNatClampNeg) k = true ∧ (if k = j then u else (cI C 29 k).toNatClampNeg) ≤ s ∧ ((if k = j then u else (cI C 29 k).toNatClampNeg) = s ∨ ∃ l, (l = j ∨ D l = true) ∧ (if l = j then tail else ord l) < (if k = j then tail else ord k) ∧ qE C n1 n2 (if k = j then u else (cI C 29 k).toNatClampNeg) l)
  by_cases z : k = j
  · subst z
    rw [if_pos rfl, if_pos rfl]
    refine ⟨hj, ha, hus, ?_⟩
    rcases chain t u ht hu hus with q | ⟨l, l1, l2, l3⟩
    · exact Or.inl q
    · have lk : l ≠ k := fun w => by rw [w, hjD] at l1; cases l1
      exact Or.inr ⟨l, Or.inr l1, by rw [if_neg lk]; omega, l3⟩
  · rcases hk with q | hk
    · exact absurd q z
    · obtain ⟨a1, a2, a3, a4, h', v, q1, q2, q3, q4, q5⟩ := h.1 k hk
      rw [if_neg z, if_neg z]
      have ev : (cI C 29 k).toNatClampNeg = v := by rw [q4, cl_nI (by omega)]
      rw [ev]
      refine ⟨a1, q5, q2, ?_⟩
      rcases chain h' v (by omega) q3 q2 with q | ⟨l, l1, l2, l3⟩
      · exact Or.inl q
      · have lj : l ≠ j := fun w => by rw [w, hjD] at l1; cases l1
        exact Or.inr ⟨l, Or.inr l1, by rw [if_neg lj]; omega, l3⟩
theorem cS_at {a : Nat → Nat → Bool} {s n1 n2 : Nat} {C C1 : cM} {D : Nat → Bool} {ord : Nat → Nat} {tail : Nat} (h : cS a s n1 n2 C D ord tail) (h27 : cI C1 27 = cI C 27) (h29 : cI C1 29 = cI C 29) (h30 : cI C1 30 = cI C 30) : cS a s n1 n2 C1 D ord tail := by
  unfold cS qE
  rw [h27, h29, h30]
  exact h
theorem cS_D {a : Nat → Nat → Bool} {s n1 n2 : Nat} {C : cM} {D D1 : Nat → Bool} {ord : Nat → Nat} {tail : Nat} (h : cS a s n1 n2 C D ord tail) (hD : D1 = D) : cS a s n1 n2 C D1 ord tail := by rw [hD]; exact h
