/-! PURE PART: the class's search for a mate, the most pairs of a move -/
theorem findMate_ok {n s n1 n2 : Nat} {a : Nat → Nat → Bool} {C0 : cM} {Q : Int32 → cM → Prop} (hn : 100 ≤ n) (hs : s < n1) (hn1 : n1 ≤ 40) (hn2 : n2 ≤ 40) (hch : chT a n1 n2 C0) (hv : qV C0 n1 n2) (hB : qB C0 n1 n2) (hM : qM C0 n1 n2) (hP : PR a s n2 (qE C0 n1 n2))
    (hno : ∀ C1, cfx [27, 28, 29, 30] [4] C0 C1 → cI C1 27 = cI C0 27 → cI C1 28 = cI C0 28 → cL C1 4 = cL C0 4 → (∃ Rt : Nat → Bool, (∀ u k, (u = s ∨ ∃ j, Rt j = true ∧ qE C0 n1 n2 u j) → k < n2 → a u k = true → Rt k = true) ∧ ∀ j, Rt j = true → j < n2 ∧ ∃ u, qE C0 n1 n2 u j) → Q 0 C1)
    (hyes : ∀ C1, cfx [27, 28, 29, 30] [4] C0 C1 → qV C1 n1 n2 → qB C1 n1 n2 → qM C1 n1 n2 → PR a (s + 1) n2 (qE C1 n1 n2) → (∀ u, (∃ l, qE C1 n1 n2 u l) ↔ ((∃ l, qE C0 n1 n2 u l) ∨ u = s)) → Q 1 C1) : wpX2_findMate n (nI s) C0 Q := by
  have sameE : ∀ C, cfx [29, 30] [] C0 C → qE C n1 n2 = qE C0 n1 n2 := fun C hf => by unfold qE; rw [hf.1 27 (by simp)]
  have inner : ∀ (E177 : Int32 → cM → Prop) (u t : Nat) (x2 : Int64) (x5 : Int32), u ≤ s → ∀ (f : Nat) (x9 : Int64) (C : cM) (ord : Nat → Nat) (tail : Nat), ct (lb x9) 64 < f → cfx [29, 30] [] C0 C → cS a s n1 n2 C (fun k => lb x2 k && !lb x9 k) ord tail → t < tail → cI C 30 t = nI u → (∀ k, lb x9 k = true → lb x2 k = true ∧ k < n2 ∧ a u k = true ∧ ∃ w, qE C0 n1 n2 w k) → (∀ (C1 : cM) (ord1 : Nat → Nat) (tail1 : Nat), cfx [29, 30] [] C0 C1 → cS a s n1 n2 C1 (lb x2) ord1 tail1 → tail ≤ tail1 → (∀ h, h < tail → cI C1 30 h = cI C 30 h) → E177 (nI tail1) C1) → wpX2_findMate_117 n E177 x2 x5 (nI u) f (nI tail) x9 (nI (ct (lb x9) 64)) C := by
    intro E177 u t x2 x5 hus f
    induction f with
    | zero => intro x9 C ord tail h1; exact absurd h1 (by omega)
    | succ f ih =>
      intro x9 C ord tail hct hf hS ht hu h9 hE
      have eE := sameE C hf
      rw [wpX2_findMate_117]
      by_cases z0 : x9 = 0
      · have e0 : ct (lb x9) 64 = 0 := by
          have e : ct (lb x9) 64 = ct (fun i => decide (i < 0)) 64 := ct_cong (fun k _ => by rw [z0, lb_0]; rfl)
          rw [e, ct_dlt 0 64 (by omega)]
        rw [e0]
        refine br_i (by decide) (hE C ord tail hf (cS_D hS ?_) (Nat.le_refl _) (fun _ _ => rfl))
        funext k
        rw [z0, lb_0]; cases lb x2 k <;> rfl
      · obtain ⟨j, j1, j2, j3⟩ := low_ex z0
        obtain ⟨a1, a2, a3, w, a4⟩ := h9 j j2
        have c1 := ct_rm (q := lb x9) j2 j1
        have cb := ct_le (lb x9) 64
        have hjD : (lb x2 j && !lb x9 j) = false := by rw [j2]; cases lb x2 j <;> rfl
        -- with one more there are still no more than have mates
        have lim : tail ≤ s := by
          have e1 : ct (fun k => (lb x2 k && !lb x9 k) || decide (k = j)) n2 = ct (fun k => lb x2 k && !lb x9 k) n2 + 1 := ct_up (p := fun k => lb x2 k && !lb x9 k) (q := fun k => (lb x2 k && !lb x9 k) || decide (k = j)) a2 hjD (by show ((lb x2 j && !lb x9 j) || decide (j = j)) = true; rw [decide_eq_true rfl, Bool.or_true]) (fun k _ hk => by show ((lb x2 k && !lb x9 k) || decide (k = j)) = _; rw [decide_eq_false hk, Bool.or_false])
          have e2 : ct (fun k => (lb x2 k && !lb x9 k) || decide (k = j)) n2 ≤ s := cS_le (C := C0) hP (fun k hk => by
            rw [Bool.or_eq_true, decide_eq_true_eq] at hk
            rcases hk with hk | hk
            · obtain ⟨_, _, _, ⟨v, v1, _⟩, _⟩ := hS.1 k hk
              exact ⟨v, by rw [← eE]; exact v1⟩
            · rw [hk]; exact ⟨w, a4⟩)
          have e3 := hS.2.2.2
          omega
        refine pk_le (ct (lb x9) 64) 0 (fun z => absurd z (by omega)) (fun _ => ?_)
        refine pk_le 40 tail (fun z => absurd z (by omega)) (fun _ => ?_)
        refine lowest_ok j2 j3 (by omega) (fun y9 e9 => ⟨pk_in j 40 (by omega), fun C1 e1 => ⟨pk_in tail 40 (by omega), fun C2 e2 y4 ey4 y11 ey11 => ?_⟩⟩)
        rw [cl_nI (by omega)] at e1
        have w28 : cI C1 28 j = nI w := by rw [e1, cI_ne _ _ _ (by decide), hf.1 28 (by simp)]; exact hB w j a4
        rw [cl_nI (by omega), cl_nI (by omega), w28] at e2
        have drop : ∀ k, lb y9 k = (lb x9 k && decide (k ≠ j)) := fun k => by rw [e9]; exact l_drop j2 j3 k
        have c2 : ct (lb y9) 64 + 1 = ct (lb x9) 64 := by
          rw [← c1]; congr 1; exact ct_cong (fun k _ => drop k)
        rw [ey4, ey11, nI_1, ← c2, pk_m1]
        have f2 : cfx [29, 30] [] C0 C2 := by rw [e2, e1]; exact (hf.tr (cfx.st (by simp))).tr (cfx.st (by simp))
        have hS2 := cS_push hS a2 hjD (by rw [eE]; exact a4) ht hus hu a3 (C1 := C2) (D1 := fun k => lb x2 k && !lb y9 k) (by rw [e2, e1]) (fun k => by
          show (lb x2 k && !lb y9 k) = ((lb x2 k && !lb x9 k) || decide (k = j))
          rw [drop k]
          by_cases q : k = j
          · rw [q, a1, j2]; simp
          · rw [decide_eq_true q, decide_eq_false q]; simp)
        have g30 : ∀ h, h < tail → cI C2 30 h = cI C 30 h := fun h hh => by rw [e2, cst_off _ _ (by omega), e1, cI_ne _ _ _ (by decide)]
        refine ih y9 C2 _ (tail + 1) (by omega) f2 hS2 (by omega) (by rw [g30 t ht]; exact hu) (fun k hk => ?_) (fun C3 ord3 tail3 f3 s3 t3 g3 => ?_)
        · rw [drop k, Bool.and_eq_true] at hk
          exact h9 k hk.1
        · exact hE C3 ord3 tail3 f3 s3 (by omega) (fun h hh => by rw [g3 h (by omega), g30 h hh])
  have outer : ∀ (f t : Nat) (seen : Int64) (C : cM) (ord : Nat → Nat) (tail : Nat), t ≤ tail → 41 < t + f → cfx [29, 30] [] C0 C → cS a s n1 n2 C (lb seen) ord tail → (∀ h', h' < t → ∀ w, w ≤ s → cI C 30 h' = nI w → ∀ k, k < n2 → a w k = true → lb seen k = true) → wpX2_findMate_15 n Q (fun y6_15 y7_15 C_15 => wpX2_lowest n y7_15 C_15 (fun r82 C82 => wpX2_pairAlong n y6_15 r82 C82 (fun C85 => (bz 1 ∧ Q 1 C85)))) f seen (nI tail) (nI t) C := by
    intro f
    induction f with
    | zero =>
      intro t seen C ord tail h1 h2 hf hS
      have eE := sameE C hf
      have := cS_le (C := C) (by rw [eE]; exact hP) (fun k hk => by obtain ⟨_, _, _, ⟨v, v1, _⟩, _⟩ := hS.1 k hk; exact ⟨v, v1⟩)
      have := hS.2.2.2
      omega
    | succ f ih =>
      intro t seen C ord tail h1 h2 hf hS hcl
      have eE := sameE C hf
      have hPC : PR a s n2 (qE C n1 n2) := by rw [eE]; exact hP
      have mate : ∀ k, lb seen k = true → ∃ w, qE C n1 n2 w k := fun k hk => by obtain ⟨_, _, _, ⟨v, v1, _⟩, _⟩ := hS.1 k hk; exact ⟨v, v1⟩
      have lim := cS_le hPC mate
      have lim2 := hS.2.2.2
      have f4 : cfx [27, 28, 29, 30] [4] C0 C := hf.mono (by simp) (by simp)
      rw [wpX2_findMate_15]
      refine pk_le tail t (fun z => ?_) (fun z => ?_)
      · refine ⟨Or.inl rfl, hno C f4 (hf.1 27 (by simp)) (hf.1 28 (by simp)) (hf.2.1 4 (by simp)) ⟨lb seen, fun u k hu hk hak => ?_, fun j hj => ?_⟩⟩
        · rcases hu with hu | ⟨j, j1, j2⟩
          · exact hcl 0 (by omega) s (Nat.le_refl _) hS.2.2.1 k hk (by rw [← hu]; exact hak)
          · obtain ⟨b1, b2, b3, ⟨v, v1, v2⟩, _⟩ := hS.1 j j1
            rw [eE] at v1
            have : v = u := hP.2.2 _ _ _ v1 j2
            subst this
            have := (hP.1 _ _ v1).1
            exact hcl (ord j) (by omega) v (by omega) v2 k hk hak
        · obtain ⟨b1, b2, b3, ⟨v, v1, v2⟩, _⟩ := hS.1 j hj
          exact ⟨b1, v, by rw [← eE]; exact v1⟩
      · refine pk_le 40 t (fun q => absurd q (by omega)) (fun _ => ⟨pk_in t 40 (by omega), ?_⟩)
        obtain ⟨u, u1, u2, _, _⟩ := cS_q hS hPC z
        rw [cl_nI (by omega), u2]
        intro x6 e6
        rw [e6]
        refine br_e (nI_n0 (by omega)) (br_i (nI_l40 (by omega)) ⟨pk_in u 40 (by omega), ?_⟩)
        rw [cl_nI (by omega), hf.2.1 26 (by simp), hf.2.1 4 (by simp)]
        intro x7 e7
        have chu := hch u (by omega)
        rw [lg_cmp_eq]
        refine br_d (fun q => ?_) (fun q => ?_)
        · intro x9 e9 y2 ey2
          have sub : ∀ k, k < 64 → lb (cL C0 26 u) k = true → lb (cL C0 4 12) k = true := fun k hk hc => by
            have e : lb (cL C0 26 u &&& (cL C0 4 12 ^^^ -1)) k = lb 0 k := by rw [← e7, q]
            rw [lb_and, lb_not _ hk, lb_0, hc] at e
            cases w : lb (cL C0 4 12) k with
            | true => rfl
            | false => rw [w] at e; cases e
          have b9 : ∀ k, k < 64 → lb x9 k = (lb (cL C0 26 u) k && !lb seen k) := fun k hk => by rw [e9, lb_and, lb_not _ hk]
          have lt64 : ∀ (x : Int64) k, lb x k = true → k < 64 := fun x k hk => by
            rcases Nat.lt_or_ge k 64 with w | w
            · exact w
            · rw [lb_big w] at hk; cases hk
          refine lbitCount_ok ?_
          refine inner _ u t y2 (nI t) u1 n x9 C ord tail (by have := ct_le (lb x9) 64; omega) hf (cS_D hS ?_) z u2 (fun k hk => ?_) (fun C1 ord1 tail1 f1 s1 t1 g1 => ?_)
          · funext k
            rcases Nat.lt_or_ge k 64 with hk | hk
            · rw [ey2, lb_or, b9 k hk]; cases lb seen k <;> cases lb (cL C0 26 u) k <;> rfl
            · rw [lb_big (x := y2) hk, lb_big (x := seen) hk]; rfl
          · have hk64 := lt64 _ _ hk
            have hk2 := hk
            rw [b9 k hk64, Bool.and_eq_true] at hk
            have hc := hk.1
            rw [chu k hk64, Bool.and_eq_true, decide_eq_true_eq] at hc
            exact ⟨by rw [ey2, lb_or, hk2, Bool.or_true], hc.1, hc.2, (hM k hk64).mp (sub k hk64 hk.1)⟩
          · intro c ec
            rw [ec, nI_1]
            refine ih (t + 1) y2 C1 ord1 tail1 (by omega) (by omega) f1 s1 (fun h' hh w hw hw2 k hk hak => ?_)
            rw [ey2, lb_or]
            by_cases hz : h' = t
            · rw [hz, g1 t z, u2] at hw2
              have : u = w := nI_inj (by omega) (by omega) hw2
              subst this
              rw [b9 k (by omega), chu k (by omega), decide_eq_true hk, hak]
              cases lb seen k <;> rfl
            · rw [g1 h' (by omega)] at hw2
              rw [hcl h' (by omega) w hw hw2 k hk hak, Bool.true_or]
        · obtain ⟨j, j1, j2, j3⟩ := low_ex q
          have j2b := j2
          rw [e7, lb_and, lb_not _ j1, Bool.and_eq_true] at j2b
          have hc := j2b.1
          rw [chu j j1, Bool.and_eq_true, decide_eq_true_eq] at hc
          have free : ∀ w, ¬ qE C0 n1 n2 w j := fun w hw => by
            have e := (hM j j1).mpr ⟨w, hw⟩
            have e2 := j2b.2
            rw [e] at e2; cases e2
          have jD : lb seen j = false := by
            cases w : lb seen j with
            | false => rfl
            | true =>
              obtain ⟨v, hv1⟩ := mate j w
              rw [eE] at hv1
              exact absurd hv1 (free v)
          refine lowest_ok j2 j3 (by omega) ?_
          unfold wpX2_pairAlong
          intro C9 e9
          have f9 : cfx [27, 28, 29, 30] [4] C0 C9 := by rw [e9]; exact f4.tr (cfx.sl (by simp))
          have i9 : cI C9 = cI C := by rw [e9]; rfl
          have eE9 : qE C9 n1 n2 = qE C0 n1 n2 := by unfold qE; rw [i9]; exact eE
          obtain ⟨par, ord1, hSr, p1, o1, p2, o2⟩ : ∃ par ord1 : Nat → Nat, Srch a s n2 (qE C0 n1 n2) (fun k => k = j ∨ lb seen k = true) par ord1 ∧ par j = u ∧ ord1 j = tail ∧ (∀ l, l ≠ j → par l = (cI C 29 l).toNatClampNeg) ∧ (∀ l, l ≠ j → ord1 l = ord l) := by
            refine ⟨fun k => if k = j then u else (cI C 29 k).toNatClampNeg, fun k => if k = j then tail else ord k, ?_, if_pos rfl, if_pos rfl, fun l h => if_neg h, fun l h => if_neg h⟩
            rw [← eE]
            exact cS_S hS hPC (by omega) hc.1 jD z u2 u1 hc.2
          have key := along_ok (n := n) (Q := fun C85 => (bz 1 ∧ Q 1 C85)) (C0 := C9) (j0 := j) hs hn1 hn2 hSr hP free (fun k hk => by
            by_cases w : k = j
            · rw [w, o1]; omega
            · rcases hk with hk | hk
              · exact absurd hk w
              · rw [o2 k w]; exact (hS.1 k hk).2.1) (fun C1 f1 v1 b1 r1 d1 g1 => ⟨Or.inr rfl, hyes C1 (f9.tr (f1.mono (by simp) (by simp))) v1 b1 (fun k hk => ?_) r1 d1⟩) (fun l hl hlj => by
            rcases hl with hl | hl
            · exact absurd hl hlj
            · obtain ⟨_, _, _, _, h', v, q1, q2, q3, q4, q5⟩ := hS.1 l hl
              rw [i9, p2 l hlj, q4, cl_nI (by omega)]) n j 0 C9 (by rw [o1]; omega) (by rw [o1]; omega) (Or.inl rfl) (cfx.rf _ _ _) (fun w hw => by rw [i9, hf.1 27 (by simp)]; exact hv w hw) (fun w k hwk => by rw [i9, hf.1 28 (by simp)]; rw [eE9] at hwk; exact hB w k hwk) (fun l => by rw [eE9]) ⟨?_, fun w hw => ?_, fun w => by rw [eE9], fun l _ _ w => by rw [eE9]⟩
          · rw [p1] at key; exact key
          · rw [f1.2.1 4 (by simp), e9, cstL_at, lb_or, lb_bit j (by omega) k hk, g1 k, ← hM k hk, Bool.or_eq_true, decide_eq_true_eq, hf.2.1 4 (by simp)]
          · rw [eE9]; exact ⟨fun w k h => ⟨by have := (hP.1 w k h).1; omega, (hP.1 w k h).2⟩, hP.2⟩
          · rw [eE9] at hw; exact free w hw
  unfold wpX2_findMate
  intro C1 e1
  refine outer n 0 0 C1 (fun _ => 0) 1 (by omega) (by omega) (by rw [e1]; exact cfx.st (by simp)) ⟨fun k hk => ?_, fun t a1 a2 => absurd a1 (by omega), by rw [e1, cst_at], ?_⟩ (fun h' hh => absurd hh (by omega))
  · rw [lb_0] at hk; cases hk
  · have e : ct (lb 0) n2 = ct (fun i => decide (i < 0)) n2 := ct_cong (fun k _ => by rw [lb_0]; rfl)
    rw [e, ct_dlt 0 n2 (by omega)]
theorem prepd_fx {L1 L2 : List Mk} {T : Nat} {C C1 : cM} (h : prepd L1 L2 T C) (hf : cfx [27, 28, 29, 30] [4, 26] C C1) : prepd L1 L2 T C1 := by
  obtain ⟨h1, h2, h3, h4, h5⟩ := h
  refine ⟨by rw [hf.1 4 (by simp)]; exact h1, ?_, ?_, ?_, ?_⟩
  · unfold turnd; rw [hf.1 20 (by simp), hf.1 21 (by simp), hf.1 22 (by simp)]; exact h2
  · rw [hf.2.1 23 (by simp)]; exact h3
  · rw [hf.2.1 24 (by simp)]; exact h4
  · rw [hf.2.1 25 (by simp)]; exact h5
/-- the count of a move; where it can't be above the floor, any number from it up to the floor -/
theorem mostPairs_ok {n t T : Nat} {dx dy x4 : Int32} {L1 L2 : List Mk} {C0 : cM} {Q : Int32 → cM → Prop} (hn : 100 ≤ n) (ht : t < 4) (hdx : -8 ≤ dx.toInt ∧ dx.toInt ≤ 8) (hdy : -8 ≤ dy.toInt ∧ dy.toInt ≤ 8) (hP : prepd L1 L2 T C0) (l1 : L1.length ≤ 40) (l2 : L2.length ≤ 40) (k1 : ∀ m ∈ L1, mkOk m)
    (hq : ∀ C1 r, cfx [27, 28, 29, 30] [4, 26] C0 C1 → r ≤ 40 → (cntIs L1 L2 T t dx.toInt dy.toInt r ∨ ((¬ x4 < nI r) ∧ ∀ c, cntIs L1 L2 T t dx.toInt dy.toInt c → c ≤ r)) → Q (nI r) C1) : wpX2_mostPairs n (nI t) dx dy x4 C0 Q := by
  unfold wpX2_mostPairs
  refine gather_ok (by omega) ht hdx hdy hP l1 l2 k1 (fun C1 ce f1 hch hce hub => br_d (fun z => ?_) (fun z => ?_))
  · intro C2 e2
    have F1 : cfx [27, 28, 29, 30] [4, 26] C0 C1 := f1.mono (by simp) (by simp)
    have F2 : cfx [27, 28, 29, 30] [4, 26] C0 C2 := by rw [e2]; exact F1.tr (cfx.sl (by simp))
    have main : ∀ (k i c : Nat) (C : cM), i ≤ L1.length → L1.length < i + k → cfx [27, 28, 29, 30] [4] C2 C → qV C L1.length L2.length → qB C L1.length L2.length → qM C L1.length L2.length → PR (fun i j => agB T t dx.toInt dy.toInt (mget L1 i) (mget L2 j)) i L2.length (qE C L1.length L2.length) → IsMax (fun i j => agB T t dx.toInt dy.toInt (mget L1 i) (mget L2 j)) i L2.length c → msz (toM (qE C L1.length L2.length)) i = c → wpX2_mostPairs_56 n Q k (nI c) (nI i) C := by
      intro k
      induction k with
      | zero => intro i c C a1 a2; exact absurd a2 (by omega)
      | succ k ih =>
        intro i c C hi hik hf hv hB hM hPR hx hsz
        have FC : cfx [27, 28, 29, 30] [4, 26] C0 C := F2.tr (hf.mono (by simp) (by simp))
        have hchC : chT (fun i j => agB T t dx.toInt dy.toInt (mget L1 i) (mget L2 j)) L1.length L2.length C := fun u hu j hj => by
          rw [hf.2.1 26 (by simp), e2, cL_ne _ _ _ (by decide)]; exact hch u hu j hj
        rw [wpX2_mostPairs_56, FC.1 4 (by simp), hP.1]
        refine pk_le L1.length i (fun w => ?_) (fun w => ⟨pk_in i 40 (by omega), ?_⟩)
        · have e : i = L1.length := by omega
          subst e
          obtain ⟨⟨m, hm, hms⟩, _⟩ := id hx
          exact hq C c FC (by have := ct_le (fun i => (m i).isSome) L1.length; unfold msz at hms; omega) (Or.inl hx)
        · rw [cl_nI (by omega), lg_cmp_eq]
          have next0 : ∀ (C3 : cM), cfx [27, 28, 29, 30] [4] C2 C3 → cI C3 27 = cI C 27 → cI C3 28 = cI C 28 → cL C3 4 = cL C 4 → (∃ Rt : Nat → Bool, (∀ u k, (u = i ∨ ∃ j, Rt j = true ∧ qE C L1.length L2.length u j) → k < L2.length → agB T t dx.toInt dy.toInt (mget L1 u) (mget L2 k) = true → Rt k = true) ∧ ∀ j, Rt j = true → j < L2.length ∧ ∃ u, qE C L1.length L2.length u j) → ∀ y : Int32, y = nI i + 1 → wpX2_mostPairs_56 n Q k (nI c) y C3 := fun C3 f3 e27 e28 e4 ⟨Rt, r1, r2⟩ y ey => by
            have eE : qE C3 L1.length L2.length = qE C L1.length L2.length := by unfold qE; rw [e27]
            obtain ⟨x1, x2, x3⟩ := max_fail hPR hx hsz Rt r1 r2
            rw [ey, nI_1]
            refine ih (i + 1) c C3 (by omega) (by omega) f3 (fun u hu => by rw [e27]; exact hv u hu) (fun u l hul => by rw [e28]; rw [eE] at hul; exact hB u l hul) (fun l hl => by rw [e4, eE]; exact hM l hl) (by rw [eE]; exact x2) x1 (by rw [eE]; exact x3)
          refine br_d (fun q0 => next0 C hf rfl rfl rfl ⟨fun _ => false, fun u l hu hl hul => ?_, fun j hj => (by cases hj)⟩) (fun q0 => ?_)
          · rcases hu with hu | ⟨j, j1, _⟩
            · have e := hchC i w l (by omega)
              rw [q0, lb_0, decide_eq_true hl, Bool.true_and] at e
              have e : false = agB T t dx.toInt dy.toInt (mget L1 i) (mget L2 l) := e
              rw [← hu, hul] at e
              cases e
            · cases j1
          · refine findMate_ok hn w l1 l2 hchC hv hB hM hPR (fun C3 f3 e27 e28 e4 hR => ?_) (fun C3 f3 v3 b3 m3 p3 d3 => ?_)
            · exact br_0 (next0 C3 (hf.tr f3) e27 e28 e4 hR)
            · obtain ⟨x1, x2⟩ := max_aug hPR p3 hx hsz d3
              refine br_1 (fun y6 ey6 y7 ey7 => ?_)
              rw [ey6, ey7, nI_1, nI_1]
              exact ih (i + 1) (c + 1) C3 (by omega) (by omega) (hf.tr f3) v3 b3 m3 p3 x1 x2
    have first : ∀ (k i : Nat) (C : cM), i ≤ L1.length → L1.length < i + k → cfx [27, 28, 29, 30] [4] C2 C → cL C = cL C2 → (∀ u, u < i → cI C 27 u = -1) → wpX2_mostPairs_27 n (fun C_27 => wpX2_mostPairs_56 n Q n 0 0 C_27) k (nI i) C := by
      intro k
      induction k with
      | zero => intro i C a1 a2; exact absurd a2 (by omega)
      | succ k ih =>
        intro i C hi hik hf hL hu
        have FC : cfx [27, 28, 29, 30] [4, 26] C0 C := F2.tr (hf.mono (by simp) (by simp))
        rw [wpX2_mostPairs_27, FC.1 4 (by simp), hP.1]
        refine pk_le L1.length i (fun w => ?_) (fun w => ⟨pk_in i 40 (by omega), fun C3 e3 y ey => ?_⟩)
        · have e : i = L1.length := by omega
          subst e
          have nE : ∀ u k, ¬ qE C L1.length L2.length u k := fun u k hh => by
            have q := hh.2.2
            rw [hu u hh.1] at q
            exact nI_m1 (by have := hh.2.1; omega) q.symm
          refine main n 0 0 C (by omega) (by omega) hf (fun u hu2 => Or.inl (hu u hu2)) (fun u k hh => absurd hh (nE u k)) (fun k hk => ?_) ⟨fun u k hh => absurd hh (nE u k), fun u k l hh => absurd hh (nE u k), fun u v k hh => absurd hh (nE u k)⟩ (IsMax_0 _ _) rfl
          rw [hL, e2, cstL_at, lb_0]
          exact ⟨fun q => (by cases q), fun ⟨u, q⟩ => absurd q (nE u k)⟩
        · rw [cl_nI (by omega)] at e3
          rw [ey, nI_1]
          refine ih (i + 1) C3 (by omega) (by omega) (by rw [e3]; exact hf.tr (cfx.st (by simp))) (by rw [e3, cst_L]; exact hL) (fun u hu2 => ?_)
          rw [e3]
          by_cases q : u = i
          · rw [q, cst_at]
          · rw [cst_off _ _ q]; exact hu u (by omega)
    exact first n 0 C2 (by omega) (by omega) (cfx.rf _ _ _) rfl (fun u hu => absurd hu (by omega))
  · exact hq C1 ce (f1.mono (by simp) (by simp)) hce (Or.inr ⟨z, hub⟩)
