/-! PURE PART: moves, agreeing, the greatest number of pairs, the best move; what ties class and model together -/
/-- a turn, t times, about the board's middle -/
def rot : Nat → Int × Int → Int × Int
  | 0, p => p
  | t + 1, p => rot t (23 - p.2, p.1)
def srt (t s : Nat) : Nat := if s = 8 then 8 else (s + 2 * t) % 8
/-- two marks, the first moved, agree within T -/
def agB (T t : Nat) (dx dy : Int) (m1 m2 : Mk) : Bool := (if srt t m1.2.2 = 8 ∨ m2.2.2 = 8 then decide (srt t m1.2.2 = m2.2.2) else decide ((m2.2.2 + 8 - srt t m1.2.2) % 8 = 0 ∨ (m2.2.2 + 8 - srt t m1.2.2) % 8 = 1 ∨ (m2.2.2 + 8 - srt t m1.2.2) % 8 = 7)) && (decide (-(T : Int) ≤ (m2.1 : Int) - ((rot t (m1.1, m1.2.1)).1 + dx) ∧ (m2.1 : Int) - ((rot t (m1.1, m1.2.1)).1 + dx) ≤ T) && decide (-(T : Int) ≤ (m2.2.1 : Int) - ((rot t (m1.1, m1.2.1)).2 + dy) ∧ (m2.2.1 : Int) - ((rot t (m1.1, m1.2.1)).2 + dy) ≤ T))
/-- a pairing of the first n1 with the first n2, none in two -/
def Mat (a : Nat → Nat → Bool) (n1 n2 : Nat) (m : Nat → Option Nat) : Prop := (∀ i j, m i = some j → i < n1 ∧ j < n2 ∧ a i j = true) ∧ ∀ i1 i2 j, m i1 = some j → m i2 = some j → i1 = i2
def msz (m : Nat → Option Nat) (n1 : Nat) : Nat := ct (fun i => (m i).isSome) n1
/-- c is the greatest number of pairs -/
def IsMax (a : Nat → Nat → Bool) (n1 n2 c : Nat) : Prop := (∃ m, Mat a n1 n2 m ∧ msz m n1 = c) ∧ ∀ m, Mat a n1 n2 m → msz m n1 ≤ c
theorem IsMax_one {a : Nat → Nat → Bool} {n1 n2 c d : Nat} (h1 : IsMax a n1 n2 c) (h2 : IsMax a n1 n2 d) : c = d := by
  obtain ⟨⟨m1, a1, b1⟩, c1⟩ := h1
  obtain ⟨⟨m2, a2, b2⟩, c2⟩ := h2
  have := c1 m2 a2
  have := c2 m1 a1
  omega
def cntIs (L1 L2 : List Mk) (T t : Nat) (dx dy : Int) (c : Nat) : Prop := IsMax (fun i j => agB T t dx dy (mget L1 i) (mget L2 j)) L1.length L2.length c
def mvOk (t : Nat) (dx dy : Int) : Prop := t < 4 ∧ -8 ≤ dx ∧ dx ≤ 8 ∧ -8 ≤ dy ∧ dy ≤ 8
def ab (z : Int) : Int := if z < 0 then -z else z
/-- the order in which moves are preferred -/
def rk (t : Nat) (dx dy : Int) : Int := ((ab dx + ab dy) * 4 + t) * 289 + (dx + 8) * 17 + (dy + 8)
theorem rk_inj {t1 t2 : Nat} {a1 b1 a2 b2 : Int} (h1 : mvOk t1 a1 b1) (h2 : mvOk t2 a2 b2) (h : rk t1 a1 b1 = rk t2 a2 b2) : t1 = t2 ∧ a1 = a2 ∧ b1 = b2 := by
  unfold mvOk at h1 h2
  unfold rk at h
  have e1 : (0 : Int) ≤ ab a1 + ab b1 := by unfold ab; split <;> split <;> omega
  have e2 : (0 : Int) ≤ ab a2 + ab b2 := by unfold ab; split <;> split <;> omega
  generalize ab a1 + ab b1 = f1 at *
  generalize ab a2 + ab b2 = f2 at *
  omega
/-- the best move: score, turn, shift -/
def BestIs (L1 L2 : List Mk) (T : Nat) (sc t : Nat) (dx dy : Int) : Prop := mvOk t dx dy ∧ cntIs L1 L2 T t dx dy sc ∧ ∀ t2 dx2 dy2 c2, mvOk t2 dx2 dy2 → cntIs L1 L2 T t2 dx2 dy2 c2 → c2 < sc ∨ (c2 = sc ∧ rk t dx dy ≤ rk t2 dx2 dy2)
theorem BestIs_one {L1 L2 : List Mk} {T s1 t1 s2 t2 : Nat} {a1 b1 a2 b2 : Int} (h1 : BestIs L1 L2 T s1 t1 a1 b1) (h2 : BestIs L1 L2 T s2 t2 a2 b2) : s1 = s2 ∧ t1 = t2 ∧ a1 = a2 ∧ b1 = b2 := by
  obtain ⟨o1, c1, g1⟩ := h1
  obtain ⟨o2, c2, g2⟩ := h2
  have p := g1 _ _ _ _ o2 c2
  have q := g2 _ _ _ _ o1 c1
  have hs : s1 = s2 := by omega
  have hr := rk_inj o1 o2 (by omega)
  exact ⟨hs, hr.1, hr.2.1, hr.2.2⟩
/-- a board's marks -/
def bm (C : cM) (b : Nat) : List Mk := marks (thinG (bG C b))
/-- what a meeting keeps is right as long as its boards and T are those it was found for -/
def mtI (C : cM) (k : Nat) : Prop := ∀ T, T ≤ 3 → cI C (256 + k) 4 = nI T → cI C (256 + k) 2 = cI C (64 + 8 * (k / 16)) 7 → cI C (256 + k) 3 = cI C (64 + 8 * (k % 16)) 7 → ∃ sc t dx dy, BestIs (bm C (k / 16)) (bm C (k % 16)) T sc t dx dy ∧ cI C (256 + k) 5 = nI sc ∧ cI C (256 + k) 6 = nI t ∧ (cI C (256 + k) 7).toInt = dx ∧ (cI C (256 + k) 8).toInt = dy
def mtO (C : cM) (k : Nat) : Prop := (cI C (256 + k) 2).toInt ≤ (cI C (64 + 8 * (k / 16)) 7).toInt ∧ (cI C (256 + k) 3).toInt ≤ (cI C (64 + 8 * (k % 16)) 7).toInt
/-- the class's part -/
def cInv (t : Nat) (C : cM) : Prop := bAll C ∧ (∃ T, T ≤ 3 ∧ cI C 0 6 = nI T) ∧ (∀ b, b < cN C → ∃ e, e ≤ 576 * t ∧ cI C (64 + 8 * b) 7 = nI e) ∧ cTok C ∧ ∀ k, k < 256 → cE C k = true → mtI C k ∧ mtO C k
/-- the two beside each other -/
def mRel (C : cM) (M : mM) : Prop := M 0 2 = nI (cN C) ∧ M 0 4 = cI C 0 6 ∧ M 0 1 = cI C 0 7 ∧ (∀ b, b < cN C → ∀ y, y < 24 → M 3 (24 * b + y) = cI C (64 + 8 * b + 1) y) ∧ ∀ j, 24 * cN C ≤ j → j < 384 → M 3 j = 0
def Rel (t : Nat) (C : cM) (M : mM) : Prop := cInv t C ∧ mRel C M
theorem cInv_mono {t : Nat} {C : cM} (h : cInv t C) : cInv (t + 1) C := ⟨h.1, h.2.1, fun b hb => by obtain ⟨e, he, h2⟩ := h.2.2.1 b hb; exact ⟨e, by omega, h2⟩, h.2.2.2⟩
theorem Rel_mono {t : Nat} {C : cM} {M : mM} (h : Rel t C M) : Rel (t + 1) C M := ⟨cInv_mono h.1, h.2⟩
theorem cInv_up {t : Nat} {C C1 : cM} (h : cInv t C) (hu : upd8 C C1) (hA : bAll C1) : cInv t C1 := by
  obtain ⟨h1, h2, h3, h4, h5⟩ := h
  obtain ⟨u1, u2, u3, u4, u5, u6⟩ := hu
  have hn := h1.1
  have hbm : ∀ b, b < 16 → bm C1 b = bm C b := fun b hb => by unfold bm bG; rw [(u5 b hb).1]
  refine ⟨hA, by rw [u3 0 (by omega)]; exact h2, fun b hb => by rw [u1] at hb; rw [(u5 b (by omega)).2]; exact h3 b hb, fun k hk hE => by rw [u1]; rw [u2] at hE; exact h4 k hk hE, fun k hk hE => ?_⟩
  rw [u2] at hE
  obtain ⟨a1, a2⟩ := h5 k hk hE
  have k1 : k / 16 < 16 := by omega
  have k2 : k % 16 < 16 := by omega
  refine ⟨fun T hT e1 e2 e3 => ?_, ?_⟩
  · rw [u4] at e1 e2 e3
    rw [(u5 _ k1).2] at e2
    rw [(u5 _ k2).2] at e3
    rw [hbm _ k1, hbm _ k2, u4]
    exact a1 T hT e1 e2 e3
  · unfold mtO
    rw [u4, (u5 _ k1).2, (u5 _ k2).2]
    exact a2
theorem mRel_up {C C1 : cM} {M : mM} (h : mRel C M) (hn : cN C ≤ 16) (hu : upd8 C C1) : mRel C1 M := by
  obtain ⟨u1, u2, u3, u4, u5, u6⟩ := hu
  unfold mRel
  rw [u1, u3 0 (by omega)]
  refine ⟨h.1, h.2.1, h.2.2.1, fun b hb y hy => by rw [(u5 b (by omega)).1]; exact h.2.2.2.1 b hb y hy, h.2.2.2.2⟩
theorem Rel_up {t : Nat} {C C1 : cM} {M : mM} (h : Rel t C M) (hu : upd8 C C1) (hA : bAll C1) : Rel t C1 M := ⟨cInv_up h.1 hu hA, mRel_up h.2 h.1.1.1 hu⟩
theorem mRel_m {C : cM} {M M1 : mM} (h : mRel C M) (h1 : M1 0 1 = M 0 1) (h2 : M1 0 2 = M 0 2) (h4 : M1 0 4 = M 0 4) (h3 : M1 3 = M 3) : mRel C M1 := by
  unfold mRel; rw [h1, h2, h4, h3]; exact h
/-- the model's call begins: nothing thrown -/
theorem mRel_0 {C : cM} {M : mM} {v : Int32} (h : mRel C M) : mRel C (st M 0 0 v) := mRel_m h (st_off _ _ (by decide)) (st_off _ _ (by decide)) (st_off _ _ (by decide)) (st_ne _ _ _ (by decide))
theorem mRel_fr {C : cM} {M M1 : mM} {L : List Nat} (h : mRel C M) (hf : fr L M M1) (h0 : 0 ∉ L) (h3 : 3 ∉ L) : mRel C M1 := mRel_m h (by rw [hf 0 h0]) (by rw [hf 0 h0]) (by rw [hf 0 h0]) (hf 3 h3)
/-- the told rows of a print are the same grid -/
theorem mRel_G {C : cM} {M : mM} (h : mRel C M) {b : Nat} (hb : b < cN C) : rG (mrow M b) = bG C b := rG_congr (fun y hy => h.2.2.2.1 b hb y hy)
