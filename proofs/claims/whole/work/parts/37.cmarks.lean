/-! PURE PART: the class's marks -/
def endsN (L : List Mk) : Nat := ct (fun i => decide ((mget L i).2.2 < 8)) L.length
theorem endsN_le (L : List Mk) : endsN L ≤ L.length := ct_le _ _
theorem endsN_add (L : List Mk) (m : Mk) : endsN (L ++ [m]) = endsN L + (if m.2.2 < 8 then 1 else 0) := by
  unfold endsN
  rw [List.length_append, List.length_singleton, ct, mget_new]
  congr 1
  · exact ct_cong (fun i hi => by rw [mget_lt hi])
  · by_cases z : m.2.2 < 8 <;> simp [z]
def cMk (L : List Mk) (b : Nat) (C : cM) : Prop := cI C (64 + 8 * b) 5 = nI L.length ∧ cI C (64 + 8 * b) 6 = nI (endsN L) ∧ rows3 L 0 (cI C (64 + 8 * b + 3)) (cI C (64 + 8 * b + 4)) (cI C (64 + 8 * b + 5))
theorem cMk_fr {L : List Mk} {b : Nat} {C C1 : cM} {K : List Nat} (h : cMk L b C) (hf : cfr K C C1) (h0 : 64 + 8 * b ∉ K) (h3 : 64 + 8 * b + 3 ∉ K) (h4 : 64 + 8 * b + 4 ∉ K) (h5 : 64 + 8 * b + 5 ∉ K) : cMk L b C1 := by
  unfold cMk; rw [hf.1 _ h0, hf.1 _ h3, hf.1 _ h4, hf.1 _ h5]; exact h
/-- the object's places that hold no marks are as they were -/
def bkeep (b : Nat) (C C1 : cM) : Prop := ∀ k, k ≠ 5 → k ≠ 6 → cI C1 (64 + 8 * b) k = cI C (64 + 8 * b) k
theorem bkeep.rf (b : Nat) (C : cM) : bkeep b C C := fun _ _ _ => rfl
theorem bkeep.tr {b : Nat} {A B C : cM} (h1 : bkeep b A B) (h2 : bkeep b B C) : bkeep b A C := fun k a b => (h2 k a b).trans (h1 k a b)
theorem bkeep_fr {b : Nat} {C C1 : cM} {K : List Nat} (hf : cfr K C C1) (h0 : 64 + 8 * b ∉ K) : bkeep b C C1 := fun k _ _ => by rw [hf.1 _ h0]
abbrev bmC (b : Nat) : List Nat := [64 + 8 * b, 64 + 8 * b + 3, 64 + 8 * b + 4, 64 + 8 * b + 5]
theorem addMark_ok {n b x y s : Nat} {L : List Mk} {C : cM} {Q : cM → Prop} (hb : bok C b) (hm : cMk L b C) (hL : L.length ≤ 40) (hs : s ≤ 8) (hq : ∀ C1, cfr (bmC b) C C1 → bkeep b C C1 → cMk (if L.length < 40 then L ++ [(x, y, s)] else L) b C1 → Q C1) : wpX0_addMark n b (nI x) (nI y) (nI s) C Q := by
  unfold wpX0_addMark
  refine ⟨hb, ?_⟩
  obtain ⟨h5, h6, hr⟩ := hm
  rw [h5]
  refine pk_lt L.length 40 (fun z => ?_) (fun z => ?_)
  · refine ⟨pk_in L.length 40 z, fun C1 e1 => ?_⟩
    rw [cl_nI (by omega)] at e1
    have i1 : cI C1 (64 + 8 * b) = cI C (64 + 8 * b) := by rw [e1]; exact cI_ne _ _ _ (by omega)
    rw [i1, h5]
    refine ⟨pk_in L.length 40 z, fun C2 e2 => ?_⟩
    rw [cl_nI (by omega)] at e2
    have i2 : cI C2 (64 + 8 * b) = cI C (64 + 8 * b) := by rw [e2, cI_ne _ _ _ (by omega)]; exact i1
    rw [i2, h5]
    refine ⟨pk_in L.length 40 z, fun C3 e3 C4 e4 => ?_⟩
    rw [cl_nI (by omega)] at e3
    have i3 : cI C3 (64 + 8 * b) = cI C (64 + 8 * b) := by rw [e3, cI_ne _ _ _ (by omega)]; exact i2
    rw [i3, h5, nI_1] at e4
    rw [if_pos z] at hq
    have f4 : cfr (bmC b) C C4 := by
      rw [e4, e3, e2, e1]
      exact (cfr.st (by simp)).tr ((cfr.st (by simp)).tr ((cfr.st (by simp)).tr (cfr.st (by simp))))
    have k4 : bkeep b C C4 := fun k a c => by rw [e4, cst_off _ _ a, i3]
    have c3 : cI C4 (64 + 8 * b + 3) = upd (cI C (64 + 8 * b + 3)) L.length (nI x) := by rw [e4, cI_ne _ _ _ (by omega), e3, cI_ne _ _ _ (by omega), e2, cI_ne _ _ _ (by omega), e1, cI_st]
    have c4 : cI C4 (64 + 8 * b + 4) = upd (cI C (64 + 8 * b + 4)) L.length (nI y) := by rw [e4, cI_ne _ _ _ (by omega), e3, cI_ne _ _ _ (by omega), e2, cI_st, e1, cI_ne _ _ _ (by omega)]
    have c5 : cI C4 (64 + 8 * b + 5) = upd (cI C (64 + 8 * b + 5)) L.length (nI s) := by rw [e4, cI_ne _ _ _ (by omega), e3, cI_st, e2, cI_ne _ _ _ (by omega), e1, cI_ne _ _ _ (by omega)]
    have r4 : rows3 (L ++ [(x, y, s)]) 0 (cI C4 (64 + 8 * b + 3)) (cI C4 (64 + 8 * b + 4)) (cI C4 (64 + 8 * b + 5)) := by
      refine rows3_add hr (fun i hi => ?_) ?_
      · have hne : i ≠ L.length := by omega
        rw [c3, c4, c5]; simp [upd, hne]
      · rw [c3, c4, c5]; simp [upd]
    have n5 : cI C4 (64 + 8 * b) 5 = nI (L ++ [(x, y, s)]).length := by rw [e4, cst_at, List.length_append]; rfl
    have n6 : cI C4 (64 + 8 * b) 6 = nI (endsN L) := by rw [e4, cst_off _ _ (by decide), i3, h6]
    refine pk_eq s 8 (fun z2 => ?_) (fun z2 C5 e5 => ?_)
    · refine hq C4 f4 k4 ⟨n5, ?_, r4⟩
      rw [n6, endsN_add, if_neg (by show ¬ s < 8; omega)]; rfl
    · rw [n6, nI_1] at e5
      have i5 : ∀ j, j ≠ 64 + 8 * b → cI C5 j = cI C4 j := fun j hj => by rw [e5]; exact cI_ne _ _ _ hj
      refine hq C5 (f4.tr (by rw [e5]; exact cfr.st (by simp))) (k4.tr (fun k a c => by rw [e5, cst_off _ _ c])) ⟨by rw [e5, cst_off _ _ (by decide)]; exact n5, ?_, ?_⟩
      · rw [e5, cst_at, endsN_add, if_pos (by show s < 8; omega)]
      · rw [i5 _ (by omega), i5 _ (by omega), i5 _ (by omega)]; exact r4
  · rw [if_neg (by omega)] at hq
    exact hq C (cfr.rf _ _) (bkeep.rf _ _) ⟨h5, h6, hr⟩
theorem dirEnd_ok {n x y : Nat} {F : Gr} {C : cM} {Q : Int32 → cM → Prop} (hn : 9 ≤ n) (hl : looked F y C) (hx : x < 24) (hc : 0 < cn8 (nb F x y)) (hq : Q (nI (dirf (nb F x y))) C) : wpX3_directionOfEnd n (nI x) C Q := by
  have loop : ∀ (k d : Nat), d ≤ 8 → 8 < d + k → (∀ j, j < d → nb F x y j = false) → wpX3_directionOfEnd_2 n Q (nI x) k (nI d) C := by
    intro k
    induction k with
    | zero => intro d h1 h2; exact absurd h2 (by omega)
    | succ k ih =>
      intro d h1 h2 hj
      rw [wpX3_directionOfEnd_2]
      refine pk_le 8 d (fun h8 => ?_) (fun h8 => ?_)
      · obtain ⟨j, hj8, hf⟩ := ct_pos (p := nb F x y) (n := 8) hc
        rw [hj j (by omega)] at hf; cases hf
      · refine ⟨pk_in d 8 h8, ?_⟩
        rw [cl_nI (by omega), bit_u _ x (by omega), hl.2.1 d h8 x hx]
        refine br_b (fun z => ?_) (fun z => ?_)
        · intro c ec
          rw [ec, nI_1]
          refine ih (d + 1) (by omega) (by omega) (fun j hj2 => ?_)
          rcases Nat.lt_or_ge j d with q | q
          · exact hj j q
          · have : j = d := by omega
            rw [this]; exact z
        · rw [← dirf_is _ d h8 z hj]
          exact hq
  unfold wpX3_directionOfEnd
  exact loop n 0 (by omega) (by omega) (fun j hj => absurd hj (by omega))
theorem looked_fr {F : Gr} {y : Nat} {C C1 : cM} {K : List Nat} (h : looked F y C) (hf : cfr K C C1) (h6 : 6 ∉ K) (h8 : 8 ∉ K) (h9 : 9 ∉ K) (h10 : 10 ∉ K) (h11 : 11 ∉ K) : looked F y C1 := by
  unfold looked tl
  rw [hf.1 6 h6, hf.1 8 h8, hf.1 9 h9, hf.1 10 h10, hf.1 11 h11]
  exact h
abbrev lmC (b : Nat) : List Nat := [6, 8, 9, 10, 11, 64 + 8 * b, 64 + 8 * b + 3, 64 + 8 * b + 4, 64 + 8 * b + 5]
theorem listMarks_ok {n b : Nat} {C : cM} {Q : cM → Prop} (hn : 600 ≤ n) (hb : bok C b) (hr : rok (cI C (64 + 8 * b + 2))) (hq : ∀ C1, cfr (lmC b) C C1 → bkeep b C C1 → cMk (marks (rG (cI C (64 + 8 * b + 2)))) b C1 → Q C1) : wpX5_listMarks n b C Q := by
  obtain ⟨R, hR⟩ : ∃ R, R = cI C (64 + 8 * b + 2) := ⟨_, rfl⟩
  rw [← hR] at hr hq
  obtain ⟨G, hG⟩ : ∃ G, G = rG R := ⟨_, rfl⟩
  rw [← hG] at hq
  obtain ⟨inv, hinv⟩ : ∃ inv : Nat → cM → Prop, inv = fun t C1 => cfr (lmC b) C C1 ∧ bkeep b C C1 ∧ cMk (acc G t) b C1 := ⟨_, rfl⟩
  have same : ∀ (t : Nat) (C1 : cM), inv t C1 → mk1 G t = [] → inv (t + 1) C1 := fun t C1 h hs => by
    rw [hinv] at h ⊢
    refine ⟨h.1, h.2.1, ?_⟩
    have e : acc G (t + 1) = acc G t := by rw [acc, hs, List.append_nil]; split <;> rfl
    rw [e]
    exact h.2.2
  have inner : ∀ (E : cM → Prop) (ty : Nat) (ve vf : Int32), ty < 22 → (∀ x, x < 24 → bt ve x = (G x (1 + ty) && decide (cn8 (nb G x (1 + ty)) = 1)) ∧ bt vf x = (G x (1 + ty) && decide (3 ≤ ch8 (nb G x (1 + ty))))) → (∀ C1, inv (22 * ty + 22) C1 → E C1) → ∀ (k tx : Nat) (C1 : cM), tx ≤ 22 → 22 < tx + k → inv (22 * ty + tx) C1 → looked G (1 + ty) C1 → wpX5_listMarks_44 n E b (nI (1 + ty)) ve vf k (nI (1 + tx)) C1 := by
    intro E ty ve vf hty hv hE k
    induction k with
    | zero => intro tx C1 h1 h2; exact absurd h2 (by omega)
    | succ k ih =>
      intro tx C1 h1 h2 hi hl
      rw [wpX5_listMarks_44]
      have ekg : ∀ s, s < 22 → mk1 G (22 * ty + s) = match sortO G (1 + s) (1 + ty) with | none => [] | some q => [(1 + s, 1 + ty, q)] := fun s hs => by
        unfold mk1; rw [show (22 * ty + s) % 22 = s by omega, show (22 * ty + s) / 22 = ty by omega]
        cases sortO G (1 + s) (1 + ty) <;> rfl
      refine br_d (fun z0 => ?_) (fun _ => ?_)
      · -- nothing more in this row
        have zb : ∀ j, bt ve j = false ∧ bt vf j = false := fun j => by
          have := congrArg (fun q => bt q j) z0
          simp only [b_or, b_0] at this
          simpa using this
        have rest : ∀ s, tx + s ≤ 22 → inv (22 * ty + (tx + s)) C1 := fun s => by
          induction s with
          | zero => intro _; exact hi
          | succ s ihs =>
            intro h
            refine same (22 * ty + (tx + s)) _ (ihs (by omega)) ?_
            rw [ekg (tx + s) (by omega)]
            obtain ⟨a1, a2⟩ := hv (1 + (tx + s)) (by omega)
            rw [(zb _).1] at a1
            rw [(zb _).2] at a2
            unfold sortO
            cases hGx : G (1 + (tx + s)) (1 + ty) with
            | false => rfl
            | true =>
              rw [hGx] at a1 a2
              have n1 : ¬ cn8 (nb G (1 + (tx + s)) (1 + ty)) = 1 := fun q => by rw [decide_eq_true q] at a1; cases a1
              have n2 : ¬ 3 ≤ ch8 (nb G (1 + (tx + s)) (1 + ty)) := fun q => by rw [decide_eq_true q] at a2; cases a2
              rw [if_pos rfl, if_neg n1, if_neg n2]
        have := rest (22 - tx) (by omega)
        rw [show tx + (22 - tx) = 22 by omega] at this
        exact hE C1 this
      · refine pk_le 23 (1 + tx) (fun h8 => ?_) (fun h8 => ?_)
        · have : tx = 22 := by omega
          subst this
          exact hE C1 hi
        · have htx : tx < 22 := by omega
          have ek := ekg tx htx
          have hi' := hi
          rw [hinv] at hi'
          obtain ⟨f1, k1, m1⟩ := hi'
          have hal := acc_len G (22 * ty + tx)
          obtain ⟨a1, a2⟩ := hv (1 + tx) (by omega)
          have next : ∀ C2, inv (22 * ty + tx + 1) C2 → looked G (1 + ty) C2 → ∀ c : Int32, c = nI (1 + tx) + 1 → wpX5_listMarks_44 n E b (nI (1 + ty)) ve vf k c C2 := fun C2 h2i hl2 c ec => by
            rw [ec, nI_1]
            exact ih (tx + 1) C2 (by omega) (by omega) h2i hl2
          have put : ∀ s, sortO G (1 + tx) (1 + ty) = some s → bok C1 b ∧ wpX0_addMark n b (nI (1 + tx)) (nI (1 + ty)) (nI s) C1 (fun C2 => ∀ c : Int32, c = nI (1 + tx) + 1 → wpX5_listMarks_44 n E b (nI (1 + ty)) ve vf k c C2) := fun s hs => by
            refine ⟨cfr.bk f1 hb, addMark_ok (cfr.bk f1 hb) m1 hal (sortO_le hs) (fun C2 f2 k2 m2 => next C2 ?_ (looked_fr hl f2 (by simp; omega) (by simp; omega) (by simp; omega) (by simp; omega) (by simp; omega)))⟩
            rw [hinv]
            refine ⟨f1.tr (f2.mono (by simp)), k1.tr k2, ?_⟩
            have e : acc G (22 * ty + tx + 1) = if (acc G (22 * ty + tx)).length < 40 then acc G (22 * ty + tx) ++ [(1 + tx, 1 + ty, s)] else acc G (22 * ty + tx) := by rw [acc, ek, hs]
            rw [e]
            exact m2
          rw [bit_u _ (1 + tx) (by omega), bit_u _ (1 + tx) (by omega), a1, a2]
          refine br_b (fun z1 => ?_) (fun z1 => ?_)
          · refine br_b (fun z2 => ?_) (fun z2 => ?_)
            · refine next C1 (same _ _ hi ?_) hl
              rw [ek]
              unfold sortO
              cases hGx : G (1 + tx) (1 + ty) with
              | false => rfl
              | true =>
                rw [hGx] at z1 z2
                simp at z1 z2
                rw [if_pos rfl, if_neg z1, if_neg (by omega)]
            · simp at z1 z2
              have hs : sortO G (1 + tx) (1 + ty) = some 8 := by
                unfold sortO
                rw [if_pos z2.1, if_neg (z1 z2.1), if_pos z2.2]
              exact put 8 hs
          · simp at z1
            have hs : sortO G (1 + tx) (1 + ty) = some (dirf (nb G (1 + tx) (1 + ty))) := by
              unfold sortO
              rw [if_pos z1.1, if_pos z1.2]
            exact dirEnd_ok (by omega) hl (by omega) (by omega) (put _ hs)
  have outer : ∀ (k ty : Nat) (C1 : cM), ty ≤ 22 → 22 < ty + k → inv (22 * ty) C1 → wpX5_listMarks_6 n Q b k (nI (1 + ty)) C1 := by
    intro k
    induction k with
    | zero => intro ty C1 h1 h2; exact absurd h2 (by omega)
    | succ k ih =>
      intro ty C1 h1 h2 hi
      have hi' := hi
      rw [hinv] at hi'
      obtain ⟨f1, k1, m1⟩ := hi'
      rw [wpX5_listMarks_6]
      refine pk_le 23 (1 + ty) (fun h8 => ?_) (fun h8 => ?_)
      · have : ty = 22 := by omega
        subst this
        exact hq C1 f1 k1 m1
      · have i2 : cI C1 (64 + 8 * b + 2) = R := by rw [hR]; exact f1.1 _ (by simp; omega)
        refine ⟨cfr.bk f1 hb, clook_ok (by omega) (cfr.bk f1 hb) (by rw [i2]; exact hr) (by omega) (fun C2 f2 hl => ?_)⟩
        rw [i2, ← hG] at hl
        unfold wpX3_ends
        refine justOne_ok (Or.inl rfl) (fun r hrb => ?_)
        unfold wpX3_forks
        have f12 : inv (22 * ty) C2 := by
          rw [hinv]
          exact ⟨f1.tr (f2.mono (by simp)), k1.tr (bkeep_fr f2 (by simp; omega)), cMk_fr m1 f2 (by simp; omega) (by simp; omega) (by simp; omega) (by simp; omega)⟩
        refine inner _ ty _ _ (by omega) (fun x hx => ?_) (fun C3 h3 c ec => ?_) n 0 C2 (by omega) (by omega) f12 hl
        · obtain ⟨t1, t2, t3⟩ := hl.2.2 x hx
          rw [b_and, b_and, hl.1 x (by omega), hrb x _ (by omega) t1, t3.2.2, decide_eq_true hx, Bool.true_and]
          exact ⟨rfl, rfl⟩
        · rw [ec, nI_1]
          exact ih (ty + 1) C3 (by omega) (by omega) h3
  unfold wpX5_listMarks
  refine ⟨hb, ?_⟩
  unfold wpX0_clearMarks
  refine ⟨hb, fun C1 e1 C2 e2 => outer n 0 C2 (by omega) (by omega) ?_⟩
  rw [hinv]
  refine ⟨by rw [e2, e1]; exact (cfr.st (by simp)).tr (cfr.st (by simp)), fun k a c => by rw [e2, cst_off _ _ c, e1, cst_off _ _ a], by rw [e2, cst_off _ _ (by decide), e1, cst_at]; rfl, by rw [e2, cst_at]; rfl, fun i hi => absurd hi (by simp [acc])⟩
