/-! METHODS THAT MAKE OBJECTS: a board more, a meeting more; the addresses are another function then -/
theorem gw_inv {ids : List Nat} {ad : Nat → Nat} {ct : Nat → va_E} {k : Nat} {q : Nat × va_E} (h : (gw ids ad ct)[k]? = some q) : ∃ i, ids[k]? = some i ∧ q = (ad i, ct i) := by
  unfold gw at h
  rw [List.getElem?_map] at h
  cases hi : ids[k]? with
  | none => rw [hi] at h; cases h
  | some i => rw [hi] at h; exact ⟨i, rfl, (Option.some.inj h).symm⟩
theorem gH_perm {D : va_G} {A : Nat → Prop} {H0 H : Heap} {locs : List Loc} {ids1 ids2 : List Nat} {ad : Nat → Nat} {ct : Nat → va_E} (h : gH D A H0 (gw ids1 ad ct) H locs) (hs : ∀ i ∈ ids2, i ∈ ids1) (hn : ids2.Nodup) : gH D A H0 (gw ids2 ad ct) H locs := by
  obtain ⟨hP, hD, hS⟩ := h
  have key : ∀ (k : Nat) (q : Nat × va_E), (gw ids2 ad ct)[k]? = some q → ∃ i k1, ids2[k]? = some i ∧ ids1[k1]? = some i ∧ q = (ad i, ct i) := fun k q hk => by
    obtain ⟨i, h1, h2⟩ := gw_inv hk
    obtain ⟨k1, h3⟩ := List.getElem?_of_mem (hs i (List.mem_of_getElem? h1))
    exact ⟨i, k1, h1, h3, h2⟩
  refine ⟨fun k q hk => ?_, ⟨fun a b x y ha hb hxy => ?_, fun k q hk => ?_⟩, hS⟩
  · obtain ⟨i, k1, h1, h2, rfl⟩ := key k q hk
    exact hP k1 _ (gw_get h2)
  · obtain ⟨i, k1, h1, h2, rfl⟩ := key a x ha
    obtain ⟨j, k2, h3, h4, rfl⟩ := key b y hb
    have e := hD.1 k1 k2 _ _ (gw_get h2) (gw_get h4) hxy
    subst e
    rw [h2] at h4
    cases h4
    exact (List.getElem?_inj (List.getElem?_eq_some_iff.mp h1).1 hn).mp (h1.trans h3.symm)
  · obtain ⟨i, k1, h1, h2, rfl⟩ := key k q hk
    exact hD.2 k1 _ (gw_get h2)
theorem cids_mem {C : cM} {i : Nat} : i ∈ cids C ↔ (i ∈ cfix ∨ (∃ b, b < cN C ∧ ∃ j, j < 6 ∧ i = 64 + 8 * b + j) ∨ ∃ k, k < 256 ∧ cE C k = true ∧ i = 256 + k) := by
  unfold cids
  rw [List.mem_append, List.mem_append]
  refine or_congr Iff.rfl (or_congr ⟨fun h => ?_, fun h => ?_⟩ ⟨fun h => ?_, fun h => ?_⟩)
  · obtain ⟨b, hb, hi⟩ := List.mem_flatMap.mp h
    simp only [List.mem_cons, List.not_mem_nil, or_false] at hi
    refine ⟨b, List.mem_range.mp hb, i - (64 + 8 * b), by omega, by omega⟩
  · obtain ⟨b, hb, j, hj, rfl⟩ := h
    refine List.mem_flatMap.mpr ⟨b, List.mem_range.mpr hb, ?_⟩
    simp only [List.mem_cons, List.not_mem_nil, or_false]
    omega
  · obtain ⟨k, hk, rfl⟩ := List.mem_map.mp h
    obtain ⟨h1, h2⟩ := List.mem_filter.mp hk
    exact ⟨k, List.mem_range.mp h1, h2, rfl⟩
  · obtain ⟨k, hk, hE, rfl⟩ := h
    exact List.mem_map.mpr ⟨k, List.mem_filter.mpr ⟨List.mem_range.mpr hk, hE⟩, rfl⟩
theorem cfix_lt {i : Nat} (h : i ∈ cfix) : i < 64 := by
  unfold cfix at h
  simp only [List.mem_cons, List.not_mem_nil, or_false] at h
  omega
theorem cids_nodup (C : cM) (h : cN C ≤ 16) : (cids C).Nodup := by
  unfold cids
  rw [List.nodup_append]
  refine ⟨by decide, List.nodup_append.mpr ⟨?_, ?_, ?_⟩, ?_⟩
  · show List.Pairwise (· ≠ ·) _
    rw [List.pairwise_flatMap]
    refine ⟨fun b _ => ?_, List.pairwise_lt_range.imp (fun {a b} hab x hx y hy => ?_)⟩
    · refine List.Pairwise.cons (fun y hy => ?_) (List.Pairwise.cons (fun y hy => ?_) (List.Pairwise.cons (fun y hy => ?_) (List.Pairwise.cons (fun y hy => ?_) (List.Pairwise.cons (fun y hy => ?_) (List.Pairwise.cons (fun y hy => ?_) List.Pairwise.nil)))))
      all_goals (simp only [List.mem_cons, List.not_mem_nil, or_false] at hy <;> omega)
    · simp only [List.mem_cons, List.not_mem_nil, or_false] at hx hy
      omega
  · exact (List.pairwise_lt_range.filter _).map _ (fun a b hab => by omega)
  · intro x hx y hy
    obtain ⟨b, hb, hi⟩ := List.mem_flatMap.mp hx
    obtain ⟨k, hk, rfl⟩ := List.mem_map.mp hy
    have := List.mem_range.mp hb
    simp only [List.mem_cons, List.not_mem_nil, or_false] at hi
    omega
  · intro x hx y hy
    have h1 := cfix_lt hx
    rcases List.mem_append.mp hy with hy | hy
    · obtain ⟨b, hb, hi⟩ := List.mem_flatMap.mp hy
      simp only [List.mem_cons, List.not_mem_nil, or_false] at hi
      omega
    · obtain ⟨k, hk, rfl⟩ := List.mem_map.mp hy
      omega
/-- a board more, all empty -/
def cnewB (C : cM) : cM := (fun i k => if 64 + 8 * C.2.2.1 ≤ i ∧ i < 64 + 8 * C.2.2.1 + 8 then 0 else C.1 i k, C.2.1, C.2.2.1 + 1, C.2.2.2)
/-- a meeting more, not looked at yet -/
def cnewT (C : cM) (t : Nat) : cM := (fun i k => if i = 256 + t then (if k < 2 then 0 else if k < 6 then (-1) else 0) else C.1 i k, C.2.1, C.2.2.1, fun k => if k = t then true else C.2.2.2 k)
def adB (ad : Nat → Nat) (nb q : Nat) (u : Nat → Nat) (i : Nat) : Nat := if i = 64 + 8 * nb then q else if 64 + 8 * nb < i ∧ i < 64 + 8 * nb + 6 then u (i - (64 + 8 * nb)) else ad i
def adT (ad : Nat → Nat) (t q : Nat) (i : Nat) : Nat := if i = 256 + t then q else ad i
/-- what a caller keeps: the book's address, and those of the first N boards -/
def cAg (ad0 : Nat → Nat) (N : Nat) (ad : Nat → Nat) : Prop := ad 0 = ad0 0 ∧ ∀ b, b < N → ad (64 + 8 * b) = ad0 (64 + 8 * b)
theorem cAg.rf (ad : Nat → Nat) (N : Nat) : cAg ad N ad := ⟨rfl, fun _ _ => rfl⟩
theorem cAg.tr {a b c : Nat → Nat} {N K : Nat} (h1 : cAg a N b) (h2 : cAg b K c) (h : N ≤ K) : cAg a N c := ⟨h2.1.trans h1.1, fun i hi => (h2.2 i (by omega)).trans (h1.2 i hi)⟩
theorem rng_map (w : va_W) (x : Nat × va_E) : (List.range w.length).map (fun i => (w ++ [x])[i]?) = w.map some := by
  apply List.ext_getElem?
  intro j
  rw [List.getElem?_map, List.getElem?_map]
  by_cases hj : j < w.length
  · rw [List.getElem?_range hj]
    show some ((w ++ [x])[j]?) = _
    rw [List.getElem?_append_left hj]
    cases h : w[j]? with
    | none => exact absurd (List.getElem?_eq_none_iff.mp h) (by omega)
    | some y => rfl
  · rw [List.getElem?_eq_none (by rw [List.length_range]; omega), List.getElem?_eq_none (by omega)]
    rfl
theorem rng_nd (n : Nat) : va_nd (List.range n) = true := by
  have key : ∀ (l : List Nat), l.Nodup → va_nd l = true := fun l => by
    induction l with
    | nil => intro _; rfl
    | cons a l ih =>
      intro h
      have h2 := List.nodup_cons.mp h
      simp only [va_nd, Bool.and_eq_true, decide_eq_true_eq]
      exact ⟨h2.1, ih h2.2⟩
  exact key _ List.nodup_range
theorem gw_congr {ids : List Nat} {ad ad1 : Nat → Nat} {ct ct1 : Nat → va_E} (h : ∀ i ∈ ids, ad i = ad1 i ∧ ct i = ct1 i) : gw ids ad ct = gw ids ad1 ct1 := by
  unfold gw
  exact List.map_congr_left (fun i hi => by rw [(h i hi).1, (h i hi).2])
theorem cids_kind {C : cM} (hn : cN C ≤ 16) {i : Nat} (h : i ∈ cids C) (h1 : i ≠ 1) (h2 : i ≠ 2) : ckind i = 7 ∨ ckind i = 5 ∨ ckind i = 0 ∨ ckind i = 3 ∨ ckind i = 4 ∨ ckind i = 6 ∨ ckind i = 8 ∨ ckind i = 9 ∨ ckind i = 10 := by
  rcases cids_mem.mp h with h0 | ⟨b, hb, j, hj, rfl⟩ | ⟨k, hk, hE, rfl⟩
  · have key : ∀ i ∈ cfix, i = 1 ∨ i = 2 ∨ ckind i = 7 ∨ ckind i = 5 ∨ ckind i = 0 ∨ ckind i = 3 ∨ ckind i = 4 ∨ ckind i = 6 ∨ ckind i = 8 ∨ ckind i = 9 ∨ ckind i = 10 := by decide +kernel
    rcases key i h0 with q | q | q
    · exact absurd q h1
    · exact absurd q h2
    · exact q
  · rcases Nat.eq_zero_or_pos j with rfl | hj0
    · exact Or.inr (Or.inr (Or.inr (Or.inr (Or.inr (Or.inr (Or.inr (Or.inl (ckind_b (by omega)))))))))
    · exact Or.inl (ckind_ba (by omega) hj0 hj)
  · exact Or.inr (Or.inr (Or.inr (Or.inr (Or.inr (Or.inr (Or.inr (Or.inr ckind_m)))))))
theorem cct_same {cA : Nat → ClassId} {ad ad1 : Nat → Nat} {C C1 : cM} {i : Nat} (hk : ckind i = 7 ∨ ckind i = 5 ∨ ckind i = 0 ∨ ckind i = 3 ∨ ckind i = 4 ∨ ckind i = 6 ∨ ckind i = 8 ∨ ckind i = 9 ∨ ckind i = 10) (h1 : cI C1 i = cI C i) (h2 : cL C1 i = cL C i) (hf : ∀ j, j < 64 → ad1 j = ad j) (hb : ckind i = 9 → ∀ j, 1 ≤ j → j ≤ 5 → ad1 (i + j) = ad (i + j)) (hm : ckind i = 10 → ad1 (64 + 8 * ((i - 256) / 16)) = ad (64 + 8 * ((i - 256) / 16)) ∧ ad1 (64 + 8 * ((i - 256) % 16)) = ad (64 + 8 * ((i - 256) % 16))) : cct cA ad1 C1 i = cct cA ad C i := by
  rcases hk with h | h | h | h | h | h | h | h | h
  · rw [cct_i h, cct_i h, h1]
  · rw [cct_l h, cct_l h, h2]
  · rw [cct_o h (by decide), cct_o h (by decide)]
    unfold cfs
    rw [h1, h2]
    simp only [cfsR, hf 1 (by decide), hf 2 (by decide), hf 3 (by decide), hf 4 (by decide), hf 5 (by decide)]
  · rw [cct_o h (by decide), cct_o h (by decide)]
    unfold cfs
    rw [h1, h2]
    simp only [cfsR, hf 6 (by decide), hf 7 (by decide)]
  · rw [cct_o h (by decide), cct_o h (by decide)]
    unfold cfs
    rw [h1, h2]
    simp only [cfsR, hf 20 (by decide), hf 21 (by decide), hf 22 (by decide), hf 23 (by decide), hf 24 (by decide), hf 25 (by decide), hf 26 (by decide), hf 27 (by decide), hf 28 (by decide), hf 29 (by decide), hf 30 (by decide)]
  · rw [cct_o h (by decide), cct_o h (by decide)]
    unfold cfs
    rw [h1, h2]
    simp only [cfsR, hf 8 (by decide), hf 9 (by decide), hf 10 (by decide), hf 11 (by decide)]
  · rw [cct_o h (by decide), cct_o h (by decide)]
    unfold cfs
    rw [h1, h2]
    simp only [cfsR]
  · have hb := hb h
    rw [cct_o h (by decide), cct_o h (by decide)]
    unfold cfs
    rw [h1, h2]
    simp only [cfsR, hb 1 (by decide) (by decide), hb 2 (by decide) (by decide), hb 3 (by decide) (by decide), hb 4 (by decide) (by decide), hb 5 (by decide) (by decide)]
  · have hm := hm h
    rw [cct_o h (by decide), cct_o h (by decide)]
    unfold cfs
    rw [h1, h2]
    simp only [cfsR, hm.1, hm.2]
/-- meetings are between boards that there are -/
def cTok (C : cM) : Prop := ∀ k, k < 256 → cE C k = true → k / 16 < cN C ∧ k % 16 < cN C
theorem ckind_10 {C : cM} (hn : cN C ≤ 16) {i : Nat} (h : i ∈ cids C) (hk : ckind i = 10) : ∃ k, k < 256 ∧ cE C k = true ∧ i = 256 + k := by
  rcases cids_mem.mp h with h0 | ⟨b, hb, j, hj, rfl⟩ | q
  · have key : ∀ i ∈ cfix, ckind i ≠ 10 := by decide +kernel
    exact absurd hk (key i h0)
  · rcases Nat.eq_zero_or_pos j with rfl | hj0
    · exact absurd (hk.symm.trans (ckind_b (by omega))) (by decide)
    · exact absurd (hk.symm.trans (ckind_ba (by omega) hj0 hj)) (by decide)
  · exact q
theorem ckind_9 {C : cM} (hn : cN C ≤ 16) {i : Nat} (h : i ∈ cids C) (hk : ckind i = 9) : ∃ b, b < cN C ∧ i = 64 + 8 * b := by
  rcases cids_mem.mp h with h0 | ⟨b, hb, j, hj, rfl⟩ | ⟨k, _, _, rfl⟩
  · have key : ∀ i ∈ cfix, ckind i ≠ 9 := by decide +kernel
    exact absurd hk (key i h0)
  · rcases Nat.eq_zero_or_pos j with rfl | hj0
    · exact ⟨b, hb, rfl⟩
    · exact absurd (hk.symm.trans (ckind_ba (by omega) hj0 hj)) (by decide)
  · exact absurd (hk.symm.trans ckind_m) (by decide)
theorem adB_old {ad u : Nat → Nat} {nb q i : Nat} (h : i < 64 + 8 * nb ∨ 64 + 8 * nb + 6 ≤ i) : adB ad nb q u i = ad i := by
  unfold adB; rw [if_neg (by omega), if_neg (by omega)]
theorem adB_new {ad u : Nat → Nat} {nb q j : Nat} (h1 : 1 ≤ j) (h2 : j ≤ 5) : adB ad nb q u (64 + 8 * nb + j) = u j := by
  unfold adB; rw [if_neg (by omega), if_pos (by omega)]; congr 1; omega
theorem adB_0 {ad u : Nat → Nat} {nb q : Nat} : adB ad nb q u (64 + 8 * nb) = q := by
  unfold adB; rw [if_pos rfl]
theorem cnewB_I {C : cM} {i : Nat} (h : i < 64 + 8 * cN C ∨ 64 + 8 * cN C + 8 ≤ i) : cI (cnewB C) i = cI C i := by
  funext k
  show (if 64 + 8 * cN C ≤ i ∧ i < 64 + 8 * cN C + 8 then (0 : Int32) else cI C i k) = cI C i k
  rw [if_neg (by omega)]
theorem cnewB_Z {C : cM} {j : Nat} (hj : j < 8) : cI (cnewB C) (64 + 8 * cN C + j) = fun _ => 0 := by
  funext k
  show (if 64 + 8 * cN C ≤ 64 + 8 * cN C + j ∧ 64 + 8 * cN C + j < 64 + 8 * cN C + 8 then (0 : Int32) else _) = 0
  rw [if_pos (by omega)]
/-- the world with a board more -/
theorem newB_world (cA : Nat → ClassId) (ad u : Nat → Nat) (C : cM) (q : Nat) (hn : cN C < 16) (hT : cTok C) : gw (cids C) ad (va_up (cct cA ad C) 1 (.inl (cA 3, 16, .inr (.inr (.inr (.inr (va_up (cBs ad C) (cN C) (some q)))))))) ++ kwX0 cA q u = gw (cids C ++ [64 + 8 * cN C, 64 + 8 * cN C + 1, 64 + 8 * cN C + 2, 64 + 8 * cN C + 3, 64 + 8 * cN C + 4, 64 + 8 * cN C + 5]) (adB ad (cN C) q u) (cct cA (adB ad (cN C) q u) (cnewB C)) := by
  have e0 : ∀ (a b : List Nat) (f : Nat → Nat) (g : Nat → va_E), gw (a ++ b) f g = gw a f g ++ gw b f g := fun a b f g => by unfold gw; rw [List.map_append]
  rw [e0]
  have k0 : ckind (64 + 8 * cN C) = 9 := ckind_b hn
  have kj : ∀ j, 1 ≤ j → j ≤ 5 → ckind (64 + 8 * cN C + j) = 7 := fun j h1 h2 => ckind_ba hn h1 (by omega)
  congr 1
  · refine gw_congr (fun i hi => ?_)
    have hold : adB ad (cN C) q u i = ad i := by
      rcases cids_mem.mp hi with h0 | ⟨b, hb, j, hj, rfl⟩ | ⟨k, hk, hE, rfl⟩
      · exact adB_old (by have := cfix_lt h0; omega)
      · exact adB_old (by omega)
      · exact adB_old (by omega)
    refine ⟨hold.symm, ?_⟩
    by_cases h1 : i = 1
    · subst h1
      have e1 : va_up (cct cA ad C) 1 (.inl (cA 3, 16, .inr (.inr (.inr (.inr (va_up (cBs ad C) (cN C) (some q))))))) 1 = (.inl (cA 3, 16, .inr (.inr (.inr (.inr (va_up (cBs ad C) (cN C) (some q)))))) : va_E) := by simp [va_up]
      rw [e1]
      show _ = (.inl (cA 3, 16, .inr (.inr (.inr (.inr (cBs (adB ad (cN C) q u) (cnewB C)))))) : va_E)
      congr 7
      funext b
      unfold cBs va_up
      show (if b = cN C then some q else if b < cN C then some (ad (64 + 8 * b)) else none) = if b < cN C + 1 then some (adB ad (cN C) q u (64 + 8 * b)) else none
      by_cases hb : b = cN C
      · subst hb
        rw [if_pos rfl, if_pos (by omega), adB_0]
      · rw [if_neg hb]
        by_cases hb2 : b < cN C
        · rw [if_pos hb2, if_pos (by omega), adB_old (by omega)]
        · rw [if_neg hb2, if_neg (by omega)]
    · have e1 : va_up (cct cA ad C) 1 (.inl (cA 3, 16, .inr (.inr (.inr (.inr (va_up (cBs ad C) (cN C) (some q))))))) i = cct cA ad C i := by simp [va_up, h1]
      rw [e1]
      by_cases h2 : i = 2
      · subst h2
        show (.inl (cA 4, 256, .inr (.inr (.inr (.inr (cMs ad C))))) : va_E) = .inl (cA 4, 256, .inr (.inr (.inr (.inr (cMs (adB ad (cN C) q u) (cnewB C))))))
        congr 7
        funext k
        unfold cMs
        show (if cE C k = true then some (ad (256 + k)) else none) = if cE C k = true then some (adB ad (cN C) q u (256 + k)) else none
        rw [adB_old (by omega)]
      · refine (cct_same (cids_kind (by omega) hi h1 h2) (cnewB_I ?_) rfl (fun j hj => adB_old (by omega)) (fun h9 j hj1 hj2 => ?_) (fun h10 => ?_)).symm
        · rcases cids_mem.mp hi with h0 | ⟨b, hb, j, hj, rfl⟩ | ⟨k, hk, hE, rfl⟩
          · have := cfix_lt h0; omega
          · omega
          · omega
        · obtain ⟨b, hb, rfl⟩ := ckind_9 (by omega) hi h9
          exact adB_old (by omega)
        · obtain ⟨k, hk, hE, rfl⟩ := ckind_10 (by omega) hi h10
          have := hT k hk hE
          rw [Nat.add_sub_cancel_left]
          exact ⟨adB_old (by omega), adB_old (by omega)⟩
  · unfold kwX0 gw
    simp only [List.map_cons, List.map_nil]
    rw [cct_o k0 (by decide), cct_i (kj 1 (by decide) (by decide)), cct_i (kj 2 (by decide) (by decide)), cct_i (kj 3 (by decide) (by decide)), cct_i (kj 4 (by decide) (by decide)), cct_i (kj 5 (by decide) (by decide)), cnewB_Z (by decide), cnewB_Z (by decide), cnewB_Z (by decide), cnewB_Z (by decide), cnewB_Z (by decide), ilen_ba (by decide), ilen_ba (by decide), ilen_ba (by decide), ilen_ba (by decide), ilen_ba (by decide), adB_0, adB_new (by decide) (by decide), adB_new (by decide) (by decide), adB_new (by decide) (by decide), adB_new (by decide) (by decide), adB_new (by decide) (by decide)]
    have z : cI (cnewB C) (64 + 8 * cN C) = fun _ => 0 := cnewB_Z (j := 0) (by decide)
    unfold cfs
    rw [z]
    simp only [cfsR, adB_new (ad := ad) (u := u) (nb := cN C) (q := q) (show 1 ≤ 1 by decide) (show 1 ≤ 5 by decide), adB_new (ad := ad) (u := u) (nb := cN C) (q := q) (show 1 ≤ 2 by decide) (show 2 ≤ 5 by decide), adB_new (ad := ad) (u := u) (nb := cN C) (q := q) (show 1 ≤ 3 by decide) (show 3 ≤ 5 by decide), adB_new (ad := ad) (u := u) (nb := cN C) (q := q) (show 1 ≤ 4 by decide) (show 4 ≤ 5 by decide), adB_new (ad := ad) (u := u) (nb := cN C) (q := q) (show 1 ≤ 5 by decide) (show 5 ≤ 5 by decide)]
    rfl
theorem cnewT_I {C : cM} {t i : Nat} (h : i ≠ 256 + t) : cI (cnewT C t) i = cI C i := by
  funext k
  show (if i = 256 + t then _ else cI C i k) = cI C i k
  rw [if_neg h]
theorem cnewT_Z {C : cM} {t : Nat} : cI (cnewT C t) (256 + t) = fun k => if k < 2 then 0 else if k < 6 then (-1) else 0 := by
  funext k
  show (if 256 + t = 256 + t then _ else _) = _
  rw [if_pos rfl]
theorem adT_old {ad : Nat → Nat} {t q i : Nat} (h : i ≠ 256 + t) : adT ad t q i = ad i := by
  unfold adT; rw [if_neg h]
theorem adT_new {ad : Nat → Nat} {t q : Nat} : adT ad t q (256 + t) = q := by
  unfold adT; rw [if_pos rfl]
/-- the world with a meeting more -/
theorem newT_world (cA : Nat → ClassId) (ad u : Nat → Nat) (C : cM) (q t : Nat) (hn : cN C ≤ 16) (ht : t < 256) (hE : cE C t = false) : gw (cids C) ad (va_up (cct cA ad C) 2 (.inl (cA 4, 256, .inr (.inr (.inr (.inr (va_up (cMs ad C) t (some q)))))))) ++ kwX1 cA q (ad (64 + 8 * (t / 16))) (ad (64 + 8 * (t % 16))) u = gw (cids C ++ [256 + t]) (adT ad t q) (cct cA (adT ad t q) (cnewT C t)) := by
  have e0 : ∀ (a b : List Nat) (f : Nat → Nat) (g : Nat → va_E), gw (a ++ b) f g = gw a f g ++ gw b f g := fun a b f g => by unfold gw; rw [List.map_append]
  rw [e0]
  congr 1
  · refine gw_congr (fun i hi => ?_)
    have hne : i ≠ 256 + t := by
      rcases cids_mem.mp hi with h0 | ⟨b, hb, j, hj, rfl⟩ | ⟨k, hk, hEk, rfl⟩
      · have := cfix_lt h0; omega
      · omega
      · intro z
        have : k = t := by omega
        subst this
        rw [hE] at hEk
        cases hEk
    refine ⟨(adT_old hne).symm, ?_⟩
    by_cases h2 : i = 2
    · subst h2
      have e1 : va_up (cct cA ad C) 2 (.inl (cA 4, 256, .inr (.inr (.inr (.inr (va_up (cMs ad C) t (some q))))))) 2 = (.inl (cA 4, 256, .inr (.inr (.inr (.inr (va_up (cMs ad C) t (some q)))))) : va_E) := by simp [va_up]
      rw [e1]
      show _ = (.inl (cA 4, 256, .inr (.inr (.inr (.inr (cMs (adT ad t q) (cnewT C t)))))) : va_E)
      congr 7
      funext k
      unfold cMs va_up
      show (if k = t then some q else if cE C k = true then some (ad (256 + k)) else none) = if (if k = t then true else cE C k) = true then some (adT ad t q (256 + k)) else none
      by_cases hk : k = t
      · subst hk
        rw [if_pos rfl, if_pos rfl, if_pos rfl, adT_new]
      · rw [if_neg hk, if_neg hk, adT_old (by omega)]
    · have e1 : va_up (cct cA ad C) 2 (.inl (cA 4, 256, .inr (.inr (.inr (.inr (va_up (cMs ad C) t (some q))))))) i = cct cA ad C i := by simp [va_up, h2]
      rw [e1]
      by_cases h1 : i = 1
      · subst h1
        show (.inl (cA 3, 16, .inr (.inr (.inr (.inr (cBs ad C))))) : va_E) = .inl (cA 3, 16, .inr (.inr (.inr (.inr (cBs (adT ad t q) (cnewT C t))))))
        congr 7
        funext b
        unfold cBs
        show (if b < cN C then some (ad (64 + 8 * b)) else none) = if b < cN C then some (adT ad t q (64 + 8 * b)) else none
        by_cases hb : b < cN C
        · rw [if_pos hb, if_pos hb, adT_old (by omega)]
        · rw [if_neg hb, if_neg hb]
      · refine (cct_same (cids_kind hn hi h1 h2) (cnewT_I hne) rfl (fun j hj => adT_old (by omega)) (fun h9 j hj1 hj2 => ?_) (fun h10 => ?_)).symm
        · obtain ⟨b, hb, rfl⟩ := ckind_9 hn hi h9
          exact adT_old (by omega)
        · obtain ⟨k, hk, hEk, rfl⟩ := ckind_10 hn hi h10
          rw [Nat.add_sub_cancel_left]
          exact ⟨adT_old (by omega), adT_old (by omega)⟩
  · unfold kwX1 gw
    simp only [List.map_cons, List.map_nil]
    rw [cct_o ckind_m (by decide), adT_new]
    unfold cfs
    rw [cnewT_Z]
    simp only [cfsR, Nat.add_sub_cancel_left]
    rw [adT_old (i := 64 + 8 * (t / 16)) (by omega), adT_old (i := 64 + 8 * (t % 16)) (by omega)]
    rfl
/-- contracts of methods that make objects -/
def cMiA (l : Launch) (D : va_G) (cA : Nat → ClassId) (y : MethodName) (ws : List Cond) (rm : Room) (av : (Nat → Nat) → List Value) (wp : cM → (Int32 → cM → Prop) → Prop) (mc ms : Nat) : Prop :=
  ∀ (ad : Nat → Nat) (sz : Nat) (C : cM) (Q : Int32 → cM → Prop), wp C Q → Met l y ws rm (cPc D cA ad sz C (av ad)) (va_Qi (fun r (u : (Nat → Nat) × cM) => Q r u.2) (fun u t => cAg ad 0 u.1 ∧ cBd D cA u.1 (va_A (cws cA ad C) sz) u.2 t) (va_A (cws cA ad C) sz)) mc ms (va_A (cws cA ad C) sz)
def cMtA (l : Launch) (D : va_G) (cA : Nat → ClassId) (y : MethodName) (ws : List Cond) (rm : Room) (av : (Nat → Nat) → List Value) (wp : cM → (Option Nat → cM → Prop) → Prop) (mc ms : Nat) : Prop :=
  ∀ (ad : Nat → Nat) (sz : Nat) (C : cM) (Q : Option Nat → cM → Prop), wp C Q → Met l y ws rm (cPc D cA ad sz C (av ad)) (va_Qq (fun r (u : Option Nat × (Nat → Nat) × cM) => r = u.1.map (fun k => u.2.1 (256 + k)) ∧ Q u.1 u.2.2) (fun u t => cAg ad (cN C) u.2.1 ∧ cBd D cA u.2.1 (va_A (cws cA ad C) sz) u.2.2 t) (va_A (cws cA ad C) sz)) mc ms (va_A (cws cA ad C) sz)
section CA
variable {p : Program} {l : Launch} {e : Env} {R : Room} {s : State} {m : MethodId} {args : Array Value} {below : List Frame} {meth : Method} {c : Code} {H : Heap} {locs : List Loc} {cells slots : Nat} {Z : State → Prop} {pc : Nat} {ls : Array Slot} {rest : List Value} {cc : ByteArray} {nL : Nat} {Ts : List Cond} {own : String} {D : va_G} {cA : Nat → ClassId} {A : Nat → Prop} {ad : Nat → Nat} {C : cM} {i mc ms : Nat} {st0 : List Value} {a : Array Value}
theorem c_backA {ad1 : Nat → Nat} {C' : cM} {t : State} {H1 : Heap} {locs1 : List Loc} (hF : ∀ q, va_A (cws cA ad C) H.size q → A q) (ht : t.heap = H1) (hB : cBd D cA ad1 (va_A (cws cA ad C) H.size) C' t) (hS : va_S A s.heap H1 locs1) : cH D cA ad1 A s.heap C' H1 locs1 :=
  ⟨by rw [← ht]; exact hB.1, hB.2.2.weaken (fun _ q _ hq => hF q.1 hq), hS⟩
theorem c_goiA (X : cX p s m args meth c D cA A cc nL Ts own) (h : cH D cA ad A s.heap C H locs) {K : Int32 → cM → Prop} (hr : va_Run p l e R s m args below meth c H locs cells slots mc ms (F0 m pc ls st0) rest (va_Qi (fun r (u : (Nat → Nat) × cM) => K r u.2) (fun u t => cAg ad 0 u.1 ∧ cBd D cA u.1 (va_A (cws cA ad C) H.size) u.2 t) (va_A (cws cA ad C) H.size) a) (va_A (cws cA ad C) H.size)) (kk : ∀ (r : Int32) (ad1 : Nat → Nat) (C1 : cM) (H1 : Heap) (locs1 : List Loc), K r C1 → cAg ad 0 ad1 → cH D cA ad1 A s.heap C1 H1 locs1 → W p l e R s m args below meth c H1 locs1 (cells + mc) (slots + ms) Z (F0 m (pc + 3) ls (.int r :: rest))) : W p l e R s m args below meth c H locs cells slots Z (F0 m pc ls st0) := by
  have hF := c_free X.1 h
  exact va_calli hr h.2.2 (fun q _ hq => hF q hq) hF (fun r u t H1 locs1 ht hvm hw hB hz1 hk1 hS => kk r u.1 u.2 H1 locs1 hw hB.1 (c_backA hF ht hB.2 hS))
theorem c_gotA (X : cX p s m args meth c D cA A cc nL Ts own) (h : cH D cA ad A s.heap C H locs) {K : Option Nat → cM → Prop} (hr : va_Run p l e R s m args below meth c H locs cells slots mc ms (F0 m pc ls st0) rest (va_Qq (fun r (u : Option Nat × (Nat → Nat) × cM) => r = u.1.map (fun k => u.2.1 (256 + k)) ∧ K u.1 u.2.2) (fun u t => cAg ad (cN C) u.2.1 ∧ cBd D cA u.2.1 (va_A (cws cA ad C) H.size) u.2.2 t) (va_A (cws cA ad C) H.size) a) (va_A (cws cA ad C) H.size)) (kk : ∀ (r : Option Nat) (ad1 : Nat → Nat) (C1 : cM) (H1 : Heap) (locs1 : List Loc), K r C1 → cAg ad (cN C) ad1 → cH D cA ad1 A s.heap C1 H1 locs1 → W p l e R s m args below meth c H1 locs1 (cells + mc) (slots + ms) Z (F0 m (pc + 3) ls (tRef ad1 r :: rest))) : W p l e R s m args below meth c H locs cells slots Z (F0 m pc ls st0) := by
  have hF := c_free X.1 h
  exact va_callq hr h.2.2 (fun q _ hq => hF q hq) hF (fun r u t H1 locs1 ht hvm hw hB hz1 hk1 hS => by
    obtain ⟨rfl, hw⟩ := hw
    exact kk u.1 u.2.1 u.2.2 H1 locs1 hw hB.1 (c_backA hF ht hB.2 hS))
/-- new Board(), put into its place among the boards -/
theorem c_newB (X : cX p s m args meth c D cA A cc nL Ts RX6) (h : cH D cA ad A s.heap C H locs) {j : Int32} (hj : vp_in j 16) (hjn : j.toNatClampNeg = cN C) (hl : ls.size = nL) (hin : ∀ w ∈ wsX00, w ∈ Ts) {i1 : Nat} (hcl : Cond.classLink RX6 i1 RX0 ∈ Ts) (hinst : Cond.instantiable RX0 9 ∈ Ts) (hini : Cond.initialized RX0 ∈ Ts) (hG : GoodIn Ts wsX0_init) (him : Cond.instanceMethod yX0_init ∈ Ts) (hR : rmX0_init.frames + 1 ≤ R.frames ∧ 8 + (1 + 11) + rmX0_init.locals ≤ R.locals) (hcells : cells + 6 ≤ R.cells) (hslots : slots + 177 ≤ R.slots) (hT : cTok C)
    (d1 : decode cc pc = .ok (.new i1, 3)) (d2 : decode cc (pc + 3) = .ok (.dup, 1)) (d3 : decode cc (pc + 3 + 1) = .ok (.invokespecial 53, 3)) (d4 : decode cc (pc + 3 + 1 + 3) = .ok (.aastore, 1))
    (kk : ∀ (ad1 : Nat → Nat) (H1 : Heap) (locs1 : List Loc), cAg ad (cN C) ad1 → cH D cA ad1 A s.heap (cnewB C) H1 locs1 → W p l e R s m args below meth c H1 locs1 (cells + 6) (slots + 177) Z (F0 m (pc + 3 + 1 + 3 + 1) ls [])) : W p l e R s m args below meth c H locs cells slots Z (F0 m pc ls [.int j, .ref (ad 1)]) := by
  have Xg := X.1
  have hD0 := h.2.1
  obtain ⟨⟨hx, hb, hml, hown, hts, hK, hA⟩, hN⟩ := X
  have hnb : cN C < 16 := by
    rw [← hjn]
    exact Nat.not_le.mp (fun q => hj (Or.inr q))
  refine n_new Xg h 0 (fs := [.null, .null, .null, .null, .null, .int 0, .int 0, .int 0, .int 0]) rfl hin tyX0 tyX0_ok hcl hinst hini (fun j hj => by rcases (show j = 0 ∨ j = 1 ∨ j = 2 ∨ j = 3 ∨ j = 4 ∨ j = 5 ∨ j = 6 ∨ j = 7 ∨ j = 8 by omega) with rfl | rfl | rfl | rfl | rfl | rfl | rfl | rfl | rfl <;> rfl) (by omega) (by omega) d1 (fun q H h => ?_)
  refine lv_dup hx hb d2 rfl ?_
  refine n_init (wr := cws cA ad C) Xg hN.2.2.2 h (kX0_init l D cA q) [(cws cA ad C).length] (List.range (cws cA ad C).length) (by simp) (rng_map _ _) (rng_nd _) (fun i hi hz => by have := List.mem_range.mp hi; simp at hz; omega) (fun hM hp => va_runIN (As := []) (rest := [.ref q, .int j, .ref (ad 1)]) ⟨hx, hb, hml, hown, hts⟩ hM ⟨va_cnB 0 hts hG rfl rfl rfl hN.2.2.1 (hts _ hini) (by decide +kernel) hR, rfl, hts _ him⟩ hp rfl rfl hl rfl (lv_room (Nat.le_of_ble_eq_true rfl)) d3 ⟨by omega, by omega⟩) (fun u H locs h => ?_)
  obtain ⟨p1, hp1⟩ := List.getElem?_of_mem (cids_f (C := C) (show 1 ∈ cfix by decide))
  have hl1 : p1 < (cws cA ad C).length := by
    have := (List.getElem?_eq_some_iff.mp (gw_get (ad := ad) (ct := cct cA ad C) hp1)).1
    exact this
  obtain ⟨hP, hD, hS⟩ := h
  refine va_astq hx hb hK hP hD hS p1 3 (cws cA ad C).length 0 (r := (RX0, TX0, 9)) (by rw [List.getElem?_append_left hl1, gw_get hp1]; rfl) rfl (by rw [List.getElem?_append_right (Nat.le_refl _), Nat.sub_self]; rfl) rfl hj d4 (fun H1 locs1 h1 h2 h3 => ?_)
  have hfin : gH D A s.heap (gw (cids C ++ [64 + 8 * cN C, 64 + 8 * cN C + 1, 64 + 8 * cN C + 2, 64 + 8 * cN C + 3, 64 + 8 * cN C + 4, 64 + 8 * cN C + 5]) (adB ad (cN C) q u) (cct cA (adB ad (cN C) q u) (cnewB C))) H1 locs1 := by
    rw [List.set_append_left _ _ hl1, gw_set hD0 hp1, hjn, newB_world cA ad u C q hnb hT] at h1 h2
    exact ⟨h1, h2, h3⟩
  refine kk (adB ad (cN C) q u) H1 locs1 ⟨?_, fun b hb => ?_⟩ (gH_perm hfin (fun i hi => ?_) (cids_nodup _ (show cN C + 1 ≤ 16 by omega)))
  · unfold adB; rw [if_neg (by omega), if_neg (by omega)]
  · unfold adB; rw [if_neg (by omega), if_neg (by omega)]
  · rcases cids_mem.mp hi with h0 | ⟨b, hb, jj, hjj, rfl⟩ | ⟨k, hk, hE, rfl⟩
    · exact List.mem_append_left _ (cids_f h0)
    · have hb2 : b < cN C + 1 := hb
      rcases Nat.lt_or_ge b (cN C) with q1 | q1
      · exact List.mem_append_left _ (cids_b q1 jj hjj)
      · refine List.mem_append_right _ ?_
        have : b = cN C := by omega
        subst this
        simp only [List.mem_cons, List.not_mem_nil, or_false]
        omega
    · exact List.mem_append_left _ (cids_m hk hE)
/-- meetingOf: new Meeting(first, second), put into its place among the meetings -/
theorem c_newT (X : cX p s m args meth c D cA A cX6_meetingOf 7 wsX6_meetingOf RX6) (h : cH D cA ad A s.heap C H locs) {x5 : Int32} {t : Nat} (hl : lv_has ls 7 [(0, .ref (ad 0)), (3, .ref (ad (64 + 8 * (t / 16)))), (4, .ref (ad (64 + 8 * (t % 16)))), (5, .int x5)]) (hj : vp_in x5 256) (hjn : x5.toNatClampNeg = t) (hE : cE C t = false) (hnb : cN C ≤ 16) (hfr : rmX1_init.frames + 1 ≤ R.frames ∧ 8 + (3 + 11) + rmX1_init.locals ≤ R.locals) (hcells : cells + 1 ≤ R.cells) (hslots : slots + 9 ≤ R.slots)
    (kk : ∀ (ad1 : Nat → Nat) (H1 : Heap) (locs1 : List Loc) (ls1 : Array Slot), cAg ad (cN C) ad1 → cH D cA ad1 A s.heap (cnewT C t) H1 locs1 → lv_has ls1 7 [(0, .ref (ad1 0)), (6, .ref (ad1 (256 + t)))] → W p l e R s m args below meth c H1 locs1 (cells + 1) (slots + 9) Z (F0 m 67 ls1 [])) : W p l e R s m args below meth c H locs cells slots Z (F0 m 46 ls []) := by
  have Xg := X.1
  have hD0 := h.2.1
  obtain ⟨⟨hx, hb, hml, hown, hts, hK, hA⟩, hN⟩ := X
  have ht : t < 256 := by
    rw [← hjn]
    exact Nat.not_le.mp (fun q => hj (Or.inr q))
  have inw : ∀ w ∈ wsX60, w ∈ wsX6_meetingOf := fun w h => List.mem_cons_of_mem _ (List.mem_append_left _ (List.mem_append_left _ (List.mem_append_left _ (List.mem_append_left _ (List.mem_append_left _ (List.mem_append_left _ (List.mem_append_right _ h)))))))
  have inm : ∀ w ∈ wsX10, w ∈ wsX6_meetingOf := fun w h => List.mem_cons_of_mem _ (List.mem_append_left _ (List.mem_append_left _ (List.mem_append_left _ (List.mem_append_left _ (List.mem_append_left _ (List.mem_append_right _ h))))))
  refine n_new Xg h 1 (fs := [.null, .null, .int 0, .int 0, .int 0, .int 0, .int 0, .int 0, .int 0]) rfl inm tyX1 tyX1_ok (by decide +kernel) (by decide +kernel) (by decide +kernel) (fun j hj => by rcases (show j = 0 ∨ j = 1 ∨ j = 2 ∨ j = 3 ∨ j = 4 ∨ j = 5 ∨ j = 6 ∨ j = 7 ∨ j = 8 by omega) with rfl | rfl | rfl | rfl | rfl | rfl | rfl | rfl | rfl <;> rfl) hcells hslots dX6_meetingOf_46 (fun q H h => ?_)
  refine lv_dup hx hb dX6_meetingOf_49 rfl ?_
  refine lv_aload_n hx hb dX6_meetingOf_50 rfl (lv_at hl 1 rfl) ?_
  refine lv_aload hx hb dX6_meetingOf_51 (lv_at hl 2 rfl) ?_
  refine n_init (wr := cws cA ad C) Xg hN.2.2.2 h (kX1_init l D cA q (ad (64 + 8 * (t / 16))) (ad (64 + 8 * (t % 16)))) [(cws cA ad C).length] (List.range (cws cA ad C).length) (by simp) (rng_map _ _) (rng_nd _) (fun i hi hz => by have := List.mem_range.mp hi; simp at hz; omega) (fun hM hp => va_runI (As := [.ref (ad (64 + 8 * (t / 16))), .ref (ad (64 + 8 * (t % 16)))]) (rest := [.ref q]) ⟨hx, hb, hml, hown, hts⟩ hM (cwI 2 hts gX6_meetingOf_X1_init rfl rfl rfl (hts _ (by decide +kernel)) (hts _ (by decide +kernel)) (hts _ (by decide +kernel)) rfl (by decide +kernel) hfr) hp rfl rfl hl.1 rfl (lv_room (Nat.le_of_ble_eq_true rfl)) dX6_meetingOf_53 ⟨by omega, by omega⟩) (fun u H locs h => ?_)
  refine lv_astore (lv' := [(6, .ref q), (0, .ref (ad 0)), (3, .ref (ad (64 + 8 * (t / 16)))), (4, .ref (ad (64 + 8 * (t % 16)))), (5, .int x5)]) hx hb dX6_meetingOf_56 hl (by decide) rfl (fun ls hl => ?_)
  refine lv_aload_n hx hb dX6_meetingOf_58 rfl (lv_at hl 1 rfl) ?_
  obtain ⟨p0, hp0⟩ := List.getElem?_of_mem (cids_f (C := C) (show 0 ∈ cfix by decide))
  obtain ⟨p1, hp1⟩ := List.getElem?_of_mem (cids_f (C := C) (show 2 ∈ cfix by decide))
  have hl0 : p0 < (cws cA ad C).length := (List.getElem?_eq_some_iff.mp (gw_get (ad := ad) (ct := cct cA ad C) hp0)).1
  have hl1 : p1 < (cws cA ad C).length := (List.getElem?_eq_some_iff.mp (gw_get (ad := ad) (ct := cct cA ad C) hp1)).1
  obtain ⟨hP, hD, hS⟩ := h
  refine va_get hx hb hts inw hown hK hP p0 (by rw [List.getElem?_append_left hl0, gw_get hp0, cct_o (kd := 0) rfl (by decide)]) rfl 1 (by decide) (hts (.fieldLink RX6 17 "RidgeBooks" "meetings" "[LRidgeBooks$Meeting;") (by decide +kernel)) (fun _ h9 => h9) (v := .ref (ad 2)) rfl dX6_meetingOf_59 ?_
  refine lv_iload hx hb dX6_meetingOf_62 (lv_at hl 4 rfl) ?_
  refine lv_aload hx hb dX6_meetingOf_64 (lv_at hl 0 rfl) ?_
  refine va_astq hx hb hK hP hD hS p1 4 (cws cA ad C).length 1 (r := (RX1, TX1, 9)) (by rw [List.getElem?_append_left hl1, gw_get hp1]; rfl) rfl (by rw [List.getElem?_append_right (Nat.le_refl _), Nat.sub_self]; rfl) rfl hj dX6_meetingOf_66 (fun H1 locs1 h1 h2 h3 => ?_)
  have hfin : gH D A s.heap (gw (cids C ++ [256 + t]) (adT ad t q) (cct cA (adT ad t q) (cnewT C t))) H1 locs1 := by
    rw [List.set_append_left _ _ hl1, gw_set hD0 hp1, hjn, newT_world cA ad u C q t hnb ht hE] at h1 h2
    exact ⟨h1, h2, h3⟩
  have e0 : adT ad t q 0 = ad 0 := adT_old (by omega)
  refine kk (adT ad t q) H1 locs1 ls ⟨e0, fun b hb => adT_old (by omega)⟩ (gH_perm hfin (fun i hi => ?_) (cids_nodup _ hnb)) ?_
  · rcases cids_mem.mp hi with h0 | ⟨b, hb, jj, hjj, rfl⟩ | ⟨k, hk, hEk, rfl⟩
    · exact List.mem_append_left _ (cids_f h0)
    · exact List.mem_append_left _ (cids_b (C := C) hb jj hjj)
    · by_cases hkt : k = t
      · subst hkt
        exact List.mem_append_right _ (List.mem_singleton.mpr rfl)
      · have hEk2 : (if k = t then true else cE C k) = true := hEk
        rw [if_neg hkt] at hEk2
        exact List.mem_append_left _ (cids_m hk hEk2)
  · rw [e0, adT_new]
    exact lv_sub hl [1, 0] rfl
end CA
section CARET
variable {p : Program} {l : Launch} {e : Env} {R : Room} {s : State} {m : MethodId} {args : Array Value} {below : List Frame} {meth : Method} {c : Code} {cc : ByteArray} {D : va_G} {cA : Nat → ClassId} {ad0 : Nat → Nat} {A : Nat → Prop}
theorem c_iretA {Q : Int32 → cM → Prop} (uc us MC : Nat) (hx : p.tables.exec = Jvm.exec) (hb : c.code = cc) (hr : meth.sig.returnType = some .int) (hlocks : meth.locks = false) (hK : va_K D vwCl (tysA cA) s) : ∀ (r : Int32) (gc : Nat) (ad : Nat → Nat) (C : cM) (H : Heap) (locs : List Loc) (pc : Nat) (ls : Array Slot), gc ≤ MC ∧ Q r C → cAg ad0 0 ad → cH D cA ad A s.heap C H locs → decode cc pc = .ok (.ireturn, 1) → W p l e R s m args below meth c H locs (uc * gc) (us * gc) (MQ below (va_Qi (fun r (u : (Nat → Nat) × cM) => Q r u.2) (fun u t => cAg ad0 0 u.1 ∧ cBd D cA u.1 A u.2 t) A) args s (uc * MC) (us * MC) A) (F0 m pc ls [.int r]) := fun r gc ad C H locs pc ls hq hg h hdg =>
  W.widen (k := uc * MC) (n := us * MC) (Nat.mul_le_mul_left _ hq.1) (Nat.mul_le_mul_left _ hq.1) (W.iret (v := r) hx hb hr (fun t ht hW => ⟨⟨r, (ad, C), rfl, hq.2, hg, by rw [ht]; exact h.1, va_K.moved hW.alike hK, h.2.1⟩, h.2.2.F ht⟩) h.2.2.2.2 hdg hlocks)
theorem c_tretA {Q : Option Nat → cM → Prop} {rt : FieldType} (uc us MC N : Nat) (hx : p.tables.exec = Jvm.exec) (hb : c.code = cc) (hr : meth.sig.returnType = some rt) (hrt : (∃ n, rt = .object n) ∨ ∃ t, rt = .array t) (hlocks : meth.locks = false) (hK : va_K D vwCl (tysA cA) s) : ∀ (r : Option Nat) (gc : Nat) (ad : Nat → Nat) (C : cM) (H : Heap) (locs : List Loc) (pc : Nat) (ls : Array Slot), gc ≤ MC ∧ Q r C → cAg ad0 N ad → cH D cA ad A s.heap C H locs → decode cc pc = .ok (.areturn, 1) → W p l e R s m args below meth c H locs (uc * gc) (us * gc) (MQ below (va_Qq (fun r (u : Option Nat × (Nat → Nat) × cM) => r = u.1.map (fun k => u.2.1 (256 + k)) ∧ Q u.1 u.2.2) (fun u t => cAg ad0 N u.2.1 ∧ cBd D cA u.2.1 A u.2.2 t) A) args s (uc * MC) (us * MC) A) (F0 m pc ls [tRef ad r]) := fun r gc ad C H locs pc ls hq hg h hdg =>
  W.widen (k := uc * MC) (n := us * MC) (Nat.mul_le_mul_left _ hq.1) (Nat.mul_le_mul_left _ hq.1) (W.aret (v := tRef ad r) hx hb hr hrt (tRef_or ad r) (fun t ht hW => ⟨⟨r.map (fun k => ad (256 + k)), (r, ad, C), rfl, ⟨rfl, hq.2⟩, hg, by rw [ht]; exact h.1, va_K.moved hW.alike hK, h.2.1⟩, h.2.2.F ht⟩) h.2.2.2.2 hdg hlocks)
end CARET
