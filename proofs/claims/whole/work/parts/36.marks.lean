/-! PURE PART: marks -/
abbrev Mk : Type := Nat × Nat × Nat
def dirf (f : Nat → Bool) : Nat := if f 0 then 0 else if f 1 then 1 else if f 2 then 2 else if f 3 then 3 else if f 4 then 4 else if f 5 then 5 else if f 6 then 6 else 7
theorem dirf_is (f : Nat → Bool) : ∀ d, d < 8 → f d = true → (∀ j, j < d → f j = false) → dirf f = d := by
  refine lt8 ?_ ?_ ?_ ?_ ?_ ?_ ?_ ?_
  all_goals
    intro h hj
    unfold dirf
  · simp [h]
  · simp [h, hj 0 (by omega)]
  · simp [h, hj 0 (by omega), hj 1 (by omega)]
  · simp [h, hj 0 (by omega), hj 1 (by omega), hj 2 (by omega)]
  · simp [h, hj 0 (by omega), hj 1 (by omega), hj 2 (by omega), hj 3 (by omega)]
  · simp [h, hj 0 (by omega), hj 1 (by omega), hj 2 (by omega), hj 3 (by omega), hj 4 (by omega)]
  · simp [h, hj 0 (by omega), hj 1 (by omega), hj 2 (by omega), hj 3 (by omega), hj 4 (by omega), hj 5 (by omega)]
  · simp [hj 0 (by omega), hj 1 (by omega), hj 2 (by omega), hj 3 (by omega), hj 4 (by omega), hj 5 (by omega), hj 6 (by omega)]
theorem dirf_lt (f : Nat → Bool) : dirf f < 8 := by
  unfold dirf
  repeat' split
  all_goals omega
theorem ct_pos {p : Nat → Bool} : ∀ {n : Nat}, 0 < ct p n → ∃ k, k < n ∧ p k = true
  | 0, h => absurd h (by simp [ct])
  | n + 1, h => by
    cases hp : p n with
    | true => exact ⟨n, by omega, hp⟩
    | false =>
      have h2 : 0 < ct p n := by simp only [ct, hp] at h; simpa using h
      obtain ⟨k, hk, hpk⟩ := ct_pos h2
      exact ⟨k, by omega, hpk⟩
def sortO (F : Gr) (x y : Nat) : Option Nat := if F x y = true then (if cn8 (nb F x y) = 1 then some (dirf (nb F x y)) else if 3 ≤ ch8 (nb F x y) then some 8 else none) else none
theorem sortO_le {F : Gr} {x y s : Nat} (h : sortO F x y = some s) : s ≤ 8 := by
  unfold sortO at h
  split at h
  · split at h
    · have := dirf_lt (nb F x y); cases h; omega
    · split at h
      · cases h; omega
      · cases h
  · cases h
def mk1 (F : Gr) (t : Nat) : List Mk := match sortO F (1 + t % 22) (1 + t / 22) with
  | none => []
  | some s => [(1 + t % 22, 1 + t / 22, s)]
def acc (F : Gr) : Nat → List Mk
  | 0 => []
  | t + 1 => if (acc F t).length < 40 then acc F t ++ mk1 F t else acc F t
def marks (F : Gr) : List Mk := acc F 484
theorem mk1_len (F : Gr) (t : Nat) : (mk1 F t).length ≤ 1 := by unfold mk1; split <;> simp
theorem acc_len (F : Gr) : ∀ t, (acc F t).length ≤ 40
  | 0 => by simp [acc]
  | t + 1 => by
    have h := acc_len F t
    have h1 := mk1_len F t
    rw [acc]
    split
    · rw [List.length_append]; omega
    · exact h
def mkOk (m : Mk) : Prop := 1 ≤ m.1 ∧ m.1 ≤ 22 ∧ 1 ≤ m.2.1 ∧ m.2.1 ≤ 22 ∧ m.2.2 ≤ 8
theorem acc_ok (F : Gr) : ∀ t, t ≤ 484 → ∀ m ∈ acc F t, mkOk m
  | 0, _, m, h => by simp [acc] at h
  | t + 1, ht, m, h => by
    rw [acc] at h
    split at h
    · rcases List.mem_append.mp h with h | h
      · exact acc_ok F t (by omega) m h
      · unfold mk1 at h
        cases hs : sortO F (1 + t % 22) (1 + t / 22) with
        | none => rw [hs] at h; simp at h
        | some s =>
          rw [hs] at h
          have : m = (1 + t % 22, 1 + t / 22, s) := by simpa using h
          subst this
          have := sortO_le hs
          refine ⟨by show 1 ≤ 1 + t % 22; omega, by show 1 + t % 22 ≤ 22; omega, by show 1 ≤ 1 + t / 22; omega, by show 1 + t / 22 ≤ 22; omega, this⟩
    · exact acc_ok F t (by omega) m h
def mget (L : List Mk) (i : Nat) : Mk := L.getD i (1, 1, 0)
theorem mget_lt {L K : List Mk} {i : Nat} (h : i < L.length) : mget (L ++ K) i = mget L i := by
  unfold mget; simp [List.getD, List.getElem?_append_left h]
theorem mget_new {L : List Mk} {m : Mk} : mget (L ++ [m]) L.length = m := by
  unfold mget; simp [List.getD]
theorem mget_ok {L : List Mk} (h : ∀ m ∈ L, mkOk m) (i : Nat) : mkOk (mget L i) := by
  unfold mget
  rcases Nat.lt_or_ge i L.length with q | q
  · have : L.getD i (1, 1, 0) = L[i] := by simp [List.getD, q]
    rw [this]; exact h _ (List.getElem_mem q)
  · have : L.getD i (1, 1, 0) = (1, 1, 0) := by simp [List.getD, List.getElem?_eq_none q]
    rw [this]; refine ⟨?_, ?_, ?_, ?_, ?_⟩ <;> decide
/-- a list of marks as three rows hold it, from a place on -/
def rows3 (L : List Mk) (o : Nat) (X Y S : Nat → Int32) : Prop := ∀ i, i < L.length → X (o + i) = nI (mget L i).1 ∧ Y (o + i) = nI (mget L i).2.1 ∧ S (o + i) = nI (mget L i).2.2
theorem rows3_add {L : List Mk} {o : Nat} {X Y S X1 Y1 S1 : Nat → Int32} {m : Mk} (h : rows3 L o X Y S) (hx : ∀ i, i < L.length → X1 (o + i) = X (o + i) ∧ Y1 (o + i) = Y (o + i) ∧ S1 (o + i) = S (o + i)) (hn : X1 (o + L.length) = nI m.1 ∧ Y1 (o + L.length) = nI m.2.1 ∧ S1 (o + L.length) = nI m.2.2) : rows3 (L ++ [m]) o X1 Y1 S1 := by
  intro i hi
  rw [List.length_append, List.length_singleton] at hi
  by_cases z : i = L.length
  · subst z
    rw [mget_new]
    exact hn
  · have hi2 : i < L.length := by omega
    rw [mget_lt hi2, (hx i hi2).1, (hx i hi2).2.1, (hx i hi2).2.2]
    exact h i hi2
/-- model: print p's marks -/
def mMk (L : List Mk) (p : Nat) (M : mM) : Prop := M 8 p = nI L.length ∧ rows3 L (40 * p) (M 9) (M 10) (M 11)
def mOth (p : Nat) (M M1 : mM) : Prop := (∀ q, q ≠ p → M1 8 q = M 8 q) ∧ ∀ j, (j < 40 * p ∨ 40 * p + 40 ≤ j) → M1 9 j = M 9 j ∧ M1 10 j = M 10 j ∧ M1 11 j = M 11 j
theorem mOth.rf (p : Nat) (M : mM) : mOth p M M := ⟨fun _ _ => rfl, fun _ _ => ⟨rfl, rfl, rfl⟩⟩
theorem mOth.tr {p : Nat} {A B C : mM} (h1 : mOth p A B) (h2 : mOth p B C) : mOth p A C := ⟨fun q hq => (h2.1 q hq).trans (h1.1 q hq), fun j hj => ⟨(h2.2 j hj).1.trans (h1.2 j hj).1, (h2.2 j hj).2.1.trans (h1.2 j hj).2.1, (h2.2 j hj).2.2.trans (h1.2 j hj).2.2⟩⟩
theorem mOth_fr {p : Nat} {M M1 : mM} {L : List Nat} (h : fr L M M1) (h8 : 8 ∉ L) (h9 : 9 ∉ L) (h10 : 10 ∉ L) (h11 : 11 ∉ L) : mOth p M M1 := ⟨fun q _ => by rw [h 8 h8], fun j _ => by rw [h 9 h9, h 10 h10, h 11 h11]; exact ⟨rfl, rfl, rfl⟩⟩
theorem mMk_oth {L : List Mk} {p q : Nat} {M M1 : mM} (h : mMk L q M) (hL : L.length ≤ 40) (ho : mOth p M M1) (hq : q ≠ p) : mMk L q M1 := by
  refine ⟨by rw [ho.1 q hq]; exact h.1, fun i hi => ?_⟩
  obtain ⟨a, b, c⟩ := ho.2 (40 * q + i) (by omega)
  rw [a, b, c]
  exact h.2 i hi
theorem mMk_fr {L : List Mk} {p : Nat} {M M1 : mM} {K : List Nat} (h : mMk L p M) (hf : fr K M M1) (h8 : 8 ∉ K) (h9 : 9 ∉ K) (h10 : 10 ∉ K) (h11 : 11 ∉ K) : mMk L p M1 := by
  unfold mMk; rw [hf 8 h8, hf 9 h9, hf 10 h10, hf 11 h11]; exact h
abbrev mkC : List Nat := [5, 6, 7, 8, 9, 10, 11]
theorem findMarks_ok {n p : Nat} {M : mM} {Q : mM → Prop} (hn : 600 ≤ n) (hp : p < 16) (hq : ∀ M1, fr mkC M M1 → mOth p M M1 → mMk (marks (thinG (rG (mrow M p)))) p M1 → Q M1) : wpX7_findMarks n (nI p) M Q := by
  obtain ⟨G, hG⟩ : ∃ G, G = thinG (rG (mrow M p)) := ⟨_, rfl⟩
  rw [← hG] at hq
  have hGi : inG G := by rw [hG]; exact thinF_in 577 (rG_in _)
  -- the state with t places looked at
  obtain ⟨inv, hinv⟩ : ∃ inv : Nat → mM → Prop, inv = fun t M1 => fr mkC M M1 ∧ mOth p M M1 ∧ holds G M1 ∧ mMk (acc G t) p M1 := ⟨_, rfl⟩
  have same : ∀ (t : Nat) (M1 : mM), inv t M1 → (¬ (acc G t).length < 40 ∨ mk1 G t = []) → inv (t + 1) M1 := fun t M1 h hs => by
    rw [hinv] at h ⊢
    refine ⟨h.1, h.2.1, h.2.2.1, ?_⟩
    have e : acc G (t + 1) = acc G t := by
      rw [acc]
      rcases hs with hs | hs
      · rw [if_neg hs]
      · rw [hs, List.append_nil]; split <;> rfl
    rw [e]
    exact h.2.2.2
  have inner : ∀ (E : mM → Prop) (ty : Nat), ty < 22 → (∀ M1, inv (22 * ty + 22) M1 → E M1) → ∀ (k tx : Nat) (M1 : mM), tx ≤ 22 → 22 < tx + k → inv (22 * ty + tx) M1 → wpX7_findMarks_22 n E (nI p) (nI (1 + ty)) k (nI (1 + tx)) M1 := by
    intro E ty hty hE k
    induction k with
    | zero => intro tx M1 h1 h2; exact absurd h2 (by omega)
    | succ k ih =>
      intro tx M1 h1 h2 hi
      have hi' := hi
      rw [hinv] at hi'
      obtain ⟨f1, o1, hh, hm⟩ := hi'
      rw [wpX7_findMarks_22]
      refine pk_le 23 (1 + tx) (fun h8 => ?_) (fun h8 => ?_)
      · have : tx = 22 := by omega
        subst this
        exact hE M1 hi
      · have eT : (22 * ty + tx) % 22 = tx ∧ (22 * ty + tx) / 22 = ty := by omega
        have ek : mk1 G (22 * ty + tx) = match sortO G (1 + tx) (1 + ty) with | none => [] | some s => [(1 + tx, 1 + ty, s)] := by
          unfold mk1; rw [eT.1, eT.2]
        have hal := acc_len G (22 * ty + tx)
        have next : ∀ M2, inv (22 * ty + tx + 1) M2 → ∀ x3 : Int32, x3 = nI (1 + tx) + 1 → wpX7_findMarks_22 n E (nI p) (nI (1 + ty)) k x3 M2 := fun M2 h2i x3 e3 => by
          rw [e3, nI_1]
          exact ih (tx + 1) M2 (by omega) (by omega) h2i
        rw [nI24]
        refine ⟨pk_in (24 * (1 + ty) + (1 + tx)) 576 (by omega), ?_⟩
        rw [cl_nI (by omega), hh (1 + tx) (1 + ty) (by omega) (by omega)]
        refine br_b (fun z => ?_) (fun z => ?_)
        · refine next M1 (same _ _ hi (Or.inr ?_))
          rw [ek]; unfold sortO; rw [z]; rfl
        · refine ⟨pk_in p 16 hp, ?_⟩
          rw [cl_nI (by omega), hm.1]
          refine (fun (q : (nI (acc G (22 * ty + tx)).length = 40 → _) ∧ (¬ nI (acc G (22 * ty + tx)).length = 40 → _)) => ⟨q.2, q.1⟩) (pk_eq (acc G (22 * ty + tx)).length 40 (fun z2 => next M1 (same _ _ hi (Or.inl (by omega)))) (fun z2 => ?_))
          refine look_ok (by omega) hGi hh (by omega) (by omega) (fun M2 f2 hb => ?_)
          have hlen : (acc G (22 * ty + tx)).length < 40 := by omega
          have hi2 : inv (22 * ty + tx) M2 := by
            rw [hinv]
            exact ⟨f1.tr (f2.mono (by simp)), o1.tr (mOth_fr f2 (by simp) (by simp) (by simp) (by simp)), holds_fr hh f2 (by simp), mMk_fr hm f2 (by simp) (by simp) (by simp) (by simp)⟩
          generalize hf : nb G (1 + tx) (1 + ty) = f at hb
          have es : sortO G (1 + tx) (1 + ty) = if cn8 f = 1 then some (dirf f) else if 3 ≤ ch8 f then some 8 else none := by
            unfold sortO; rw [if_pos z, hf]
          -- a mark is written
          have put : ∀ s, sortO G (1 + tx) (1 + ty) = some s → wpX7_findMarks_112 n (wpX7_findMarks_22 n E (nI p) (nI (1 + ty)) k) (nI p) (nI (1 + ty)) (nI (1 + tx)) (nI s) M2 := fun s hs => by
            have hs8 := sortO_le hs
            have hi2' := hi2
            rw [hinv] at hi2'
            obtain ⟨g1, g2, g3, g4⟩ := hi2'
            unfold wpX7_findMarks_112
            refine br_e (fun zz => ?_) ⟨pk_in p 16 hp, fun x6 e6 => ?_⟩
            · have := congrArg Int32.toInt zz
              rw [tI s (by omega)] at this
              have this : (s : Int) = -1 := this
              omega
            · rw [cl_nI (by omega), g4.1, show (40 : Int32) = nI 40 from rfl, pk_mul, nI_add] at e6
              subst e6
              refine ⟨pk_in (40 * p + (acc G (22 * ty + tx)).length) 640 (by omega), fun A1 ea1 A2 ea2 A3 ea3 A4 ea4 => next A4 ?_⟩
              rw [cl_nI (by omega)] at ea1 ea2 ea3
              rw [cl_nI (by omega)] at ea4
              have a8 : A3 8 p = nI (acc G (22 * ty + tx)).length := by rw [ea3, st_ne _ _ _ (by decide), ea2, st_ne _ _ _ (by decide), ea1, st_ne _ _ _ (by decide)]; exact g4.1
              rw [a8, nI_1] at ea4
              have c9 : A4 9 = upd (M2 9) (40 * p + (acc G (22 * ty + tx)).length) (nI (1 + tx)) := by rw [ea4, st_ne _ _ _ (by decide), ea3, st_ne _ _ _ (by decide), ea2, st_ne _ _ _ (by decide), ea1, st_same]
              have c10 : A4 10 = upd (M2 10) (40 * p + (acc G (22 * ty + tx)).length) (nI (1 + ty)) := by rw [ea4, st_ne _ _ _ (by decide), ea3, st_ne _ _ _ (by decide), ea2, st_same, ea1, st_ne _ _ _ (by decide)]
              have c11 : A4 11 = upd (M2 11) (40 * p + (acc G (22 * ty + tx)).length) (nI s) := by rw [ea4, st_ne _ _ _ (by decide), ea3, st_same, ea2, st_ne _ _ _ (by decide), ea1, st_ne _ _ _ (by decide)]
              have c8 : A4 8 = upd (M2 8) p (nI ((acc G (22 * ty + tx)).length + 1)) := by rw [ea4, st_same, ea3, st_ne _ _ _ (by decide), ea2, st_ne _ _ _ (by decide), ea1, st_ne _ _ _ (by decide)]
              have ff : fr [8, 9, 10, 11] M2 A4 := by
                rw [ea4, ea3, ea2, ea1]
                exact (fr.st (by simp)).tr ((fr.st (by simp)).tr ((fr.st (by simp)).tr (fr.st (by simp))))
              have ea : acc G (22 * ty + tx + 1) = acc G (22 * ty + tx) ++ [(1 + tx, 1 + ty, s)] := by rw [acc, if_pos hlen, ek, hs]
              rw [hinv]
              refine ⟨g1.tr (ff.mono (by simp)), g2.tr ⟨fun q hq => by rw [c8]; simp [upd, hq], fun j hj => ?_⟩, holds_fr g3 ff (by simp), ?_⟩
              · have hne : j ≠ 40 * p + (acc G (22 * ty + tx)).length := by omega
                rw [c9, c10, c11]; simp [upd, hne]
              · rw [ea]
                refine ⟨by rw [c8, List.length_append]; simp [upd], rows3_add g4.2 (fun i hi => ?_) ?_⟩
                · have hne : i ≠ (acc G (22 * ty + tx)).length := by omega
                  rw [c9, c10, c11]; simp [upd, hne]
                · rw [c9, c10, c11]; simp [upd]
          have skip : sortO G (1 + tx) (1 + ty) = none → wpX7_findMarks_112 n (wpX7_findMarks_22 n E (nI p) (nI (1 + ty)) k) (nI p) (nI (1 + ty)) (nI (1 + tx)) (-1) M2 := fun hs => by
            unfold wpX7_findMarks_112
            refine br_i rfl (fun x3 e3 => next M2 (same _ _ hi2 (Or.inr ?_)) x3 e3)
            rw [ek, hs]
          have hc8 : cn8 f ≤ 8 := ct_le f 8
          have hh8 : ch8 f ≤ 8 := ct_le _ 8
          refine (fun (q : (nI (cn8 f) = 1 → _) ∧ (¬ nI (cn8 f) = 1 → _)) => ⟨q.2, q.1⟩) (pk_eq (cn8 f) 1 (fun z3 => ?_) (fun z3 => ?_))
          · -- an end: its direction is sought
            have seekd : ∀ (k2 d : Nat), d < 8 → 8 ≤ d + k2 → (∀ j, j < d → f j = false) → wpX7_findMarks_90 n (fun y5_90 M_90 => wpX7_findMarks_112 n (wpX7_findMarks_22 n E (nI p) (nI (1 + ty)) k) (nI p) (nI (1 + ty)) (nI (1 + tx)) y5_90 M_90) (nI p) (nI (1 + ty)) (nI (1 + tx)) (nI (cn8 f)) k2 (nI d) M2 := by
              intro k2
              induction k2 with
              | zero => intro d h1 h2; exact absurd h2 (by omega)
              | succ k2 ihd =>
                intro d h1 h2 hj
                rw [wpX7_findMarks_90]
                refine br_ni (by rw [z3]; rfl) ⟨pk_in d 8 h1, ?_⟩
                rw [cl_nI (by omega), hb d h1]
                refine br_bn (fun z4 => ?_) (fun z4 => ?_)
                · intro x5 e5
                  rw [e5, nI_1]
                  have hd7 : d + 1 < 8 := by
                    apply Classical.byContradiction
                    intro hno
                    have hd : d = 7 := by omega
                    obtain ⟨j, hj8, hfj⟩ := ct_pos (p := f) (n := 8) (by have : ct f 8 = 1 := z3; omega)
                    rcases Nat.lt_or_ge j d with q | q
                    · rw [hj j q] at hfj; cases hfj
                    · have : j = d := by omega
                      rw [this, z4] at hfj; cases hfj
                  exact ihd (d + 1) hd7 (by omega) (fun j hj2 => by
                    rcases Nat.lt_or_ge j d with q | q
                    · exact hj j q
                    · have : j = d := by omega
                      rw [this]; exact z4)
                · exact put d (by rw [es, if_pos z3, dirf_is f d h1 z4 hj])
            exact seekd n 0 (by omega) (by omega) (fun j hj => absurd hj (by omega))
          · have stop : ∀ (s : Int32), wpX7_findMarks_112 n (wpX7_findMarks_22 n E (nI p) (nI (1 + ty)) k) (nI p) (nI (1 + ty)) (nI (1 + tx)) s M2 → wpX7_findMarks_90 n (fun y5_90 M_90 => wpX7_findMarks_112 n (wpX7_findMarks_22 n E (nI p) (nI (1 + ty)) k) (nI p) (nI (1 + ty)) (nI (1 + tx)) y5_90 M_90) (nI p) (nI (1 + ty)) (nI (1 + tx)) (nI (cn8 f)) n s M2 := fun s hs => by
              obtain ⟨n', hn'⟩ : ∃ n', n = n' + 1 := ⟨n - 1, by omega⟩
              have gen : ∀ k2, wpX7_findMarks_90 n (fun y5_90 M_90 => wpX7_findMarks_112 n (wpX7_findMarks_22 n E (nI p) (nI (1 + ty)) k) (nI p) (nI (1 + ty)) (nI (1 + tx)) y5_90 M_90) (nI p) (nI (1 + ty)) (nI (1 + tx)) (nI (cn8 f)) (k2 + 1) s M2 := fun k2 => by
                rw [wpX7_findMarks_90]
                exact br_ne (fun q => z3 (nI_inj (by omega) (by omega) q)) hs
              have := gen n'
              rw [← hn'] at this
              exact this
            refine changes_ok (by omega) hb ?_
            refine pk_lt (ch8 f) 3 (fun z4 => ?_) (fun z4 => ?_)
            · exact stop (-1) (skip (by rw [es, if_neg z3, if_neg (by omega)]))
            · exact stop 8 (put 8 (by rw [es, if_neg z3, if_pos z4]))
  have outer : ∀ (k ty : Nat) (M1 : mM), ty ≤ 22 → 22 < ty + k → inv (22 * ty) M1 → wpX7_findMarks_14 n Q (nI p) k (nI (1 + ty)) M1 := by
    intro k
    induction k with
    | zero => intro ty M1 h1 h2; exact absurd h2 (by omega)
    | succ k ih =>
      intro ty M1 h1 h2 hi
      rw [wpX7_findMarks_14]
      refine pk_le 23 (1 + ty) (fun h8 => ?_) (fun h8 => ?_)
      · have : ty = 22 := by omega
        subst this
        rw [hinv] at hi
        exact hq M1 hi.1 hi.2.1 hi.2.2.2
      · refine inner _ ty (by omega) (fun M2 h2i x2 e2 => ?_) n 0 M1 (by omega) (by omega) hi
        rw [e2, nI_1]
        exact ih (ty + 1) M2 (by omega) (by omega) h2i
  unfold wpX7_findMarks
  refine thinOut_ok hn hp (fun M1 f1 hh => ⟨pk_in p 16 hp, fun M2 e2 => ?_⟩)
  rw [cl_nI (by omega)] at e2
  rw [← hG] at hh
  have f2 : fr [8] M1 M2 := by rw [e2]; exact fr.st (by simp)
  refine outer n 0 M2 (by omega) (by omega) ?_
  rw [hinv]
  refine ⟨(f1.mono (by simp)).tr (f2.mono (by simp)), ⟨fun q hq => by rw [e2, st_off _ _ hq, f1 8 (by simp)], fun j _ => by rw [f2 9 (by simp), f2 10 (by simp), f2 11 (by simp), f1 9 (by simp), f1 10 (by simp), f1 11 (by simp)]; exact ⟨rfl, rfl, rfl⟩⟩, holds_fr hh f2 (by simp), ?_⟩
  exact ⟨by rw [e2, st_at]; rfl, fun i hi => absurd hi (by simp [acc])⟩
