/-! PURE PART: thin, bound, mark -/
theorem mthin_ok {n y : Nat} {G : Gr} {M : mM} {Q : Int32 → mM → Prop} (hn : 25 ≤ n) (hh : holds G M) (hy : y < 24) (hq : ∀ r, (∀ k, k < 32 → bt r k = (decide (k < 24) && G k y)) → Q r M) : wpX7_thin_32 n Q (nI y) n 0 0 M := by
  have loop : ∀ (k i : Nat) (v : Int32), i ≤ 24 → 24 < i + k → (∀ j, j < 32 → bt v j = (decide (j < i) && G j y)) → wpX7_thin_32 n Q (nI y) k v (nI i) M := by
    intro k
    induction k with
    | zero => intro i v h1 h2; exact absurd h2 (by omega)
    | succ k ih =>
      intro i v h1 h2 hv
      rw [wpX7_thin_32]
      refine pk_le 24 i (fun h8 => ?_) (fun h8 => ?_)
      · have : i = 24 := by omega
        subst this
        exact hq v hv
      · rw [nI24]
        refine ⟨pk_in (24 * y + i) 576 (by omega), ?_⟩
        rw [cl_nI (by omega), hh i y h8 hy]
        refine br_b (fun z => ?_) (fun z => ?_)
        · unfold wpX7_thin_63
          intro a ea c ec
          rw [ec, nI_1]
          refine ih (i + 1) a (by omega) (by omega) (fun j hj => ?_)
          rw [ea, b_or, b_0, Bool.or_false, hv j hj]
          by_cases q : j < i
          · rw [decide_eq_true q, decide_eq_true (by omega)]
          · rw [decide_eq_false q]
            by_cases q2 : j = i
            · subst q2; rw [z]; simp
            · rw [decide_eq_false (by omega)]
        · unfold wpX7_thin_63
          intro a ea c ec
          rw [ec, nI_1]
          refine ih (i + 1) a (by omega) (by omega) (fun j hj => ?_)
          rw [ea, b_or, hv j hj, b_shl i (by omega) _ hj]
          by_cases q : j < i
          · rw [decide_eq_true q, decide_eq_true (p := j < i + 1) (by omega), decide_eq_false (p := i ≤ j) (by omega)]; simp
          · by_cases q2 : j = i
            · subst q2
              rw [decide_eq_false q, decide_eq_true (Nat.le_refl j), Nat.sub_self, b_one 0 (by omega), z]; simp
            · rw [decide_eq_false q, decide_eq_false (p := j < i + 1) (by omega), b_one _ (by omega), decide_eq_false (p := j - i = 0) (by omega)]; simp
  exact loop n 0 0 (by omega) (by omega) (fun j _ => by rw [b_0]; rfl)
theorem s_thin {n t : Nat} {C : cM} {M : mM} {x1 x2 : Int32} (hn : 600 ≤ n) (hR : Rel t C M) : wpX6_thin n x1 x2 C (fun r C1 => wpX7_thin n x1 x2 M (fun r1 M1 => r = r1 ∧ Rel (t + 1) C1 M1)) := by
  have hA := hR.1.1
  unfold wpX6_thin
  rcases i32_cases x1 (cN C) (by have := hA.1; omega) with ⟨p, hp, rfl⟩ | ho
  · refine freshBoard_yes hn hA hp (fun C1 hu hA1 hfr hst => ⟨fun z => (by cases z), fun b z => ?_⟩)
    cases z
    have hR1 := Rel_up hR hu hA1
    have hp1 : p < cN C1 := by rw [hu.1]; exact hp
    have hp16 : p < 16 := by have := hA.1; omega
    rcases i32_cases x2 24 (by omega) with ⟨y, hy, rfl⟩ | ho
    · refine onB_yes hy (br_1n ⟨⟨hp1, hp16⟩, pk_in y 24 hy, ?_⟩)
      unfold wpX7_thin
      intro M2 e2
      have h2 : Rel t C1 M2 := by rw [e2]; exact Rel_0 hR1
      refine isPrint_yes h2.2.1 hA1.1 hp1 (br_1 (isPlace_yes hy (br_1n ?_)))
      refine thinOut_ok hn hp16 (fun M3 f3 hh => ?_)
      rw [mRel_G h2.2 hp1] at hh
      refine mthin_ok (by omega) hh hy (fun r hr => ⟨?_, Rel_mono ⟨h2.1, mRel_fr h2.2 f3 (by simp) (by simp)⟩⟩)
      rw [cl_nI (by omega)]
      refine b_ext (fun k hk => ?_)
      rw [hr k hk]
      by_cases z : k < 24
      · rw [decide_eq_true z, Bool.true_and, ← hfr.2.1, rG_at z hy]
      · rw [decide_eq_false z, hfr.1 y hy k (by omega)]; rfl
    · refine onB_no ho (br_0n ?_)
      unfold wpX7_thin
      intro M2 e2
      have h2 : Rel t C1 M2 := by rw [e2]; exact Rel_0 hR1
      exact isPrint_yes h2.2.1 hA1.1 hp1 (br_1 (isPlace_no ho (br_0n ⟨rfl, Rel_mono h2⟩)))
  · refine freshBoard_no hA ho ⟨fun _ => ?_, fun b z => by cases z⟩
    unfold wpX7_thin
    intro M2 e2
    have h2 : Rel t C M2 := by rw [e2]; exact Rel_0 hR
    exact isPrint_no h2.2.1 hA.1 ho (br_0 ⟨rfl, Rel_mono h2⟩)
theorem endsOf_ok {n p : Nat} {L : List Mk} {M : mM} {Q : Int32 → mM → Prop} (hn : 50 ≤ n) (hp : p < 16) (hm : mMk L p M) (hL : L.length ≤ 40) (hk : ∀ m ∈ L, mkOk m) (hq : Q (nI (endsN L)) M) : wpX7_endsOf n (nI p) M Q := by
  have loop : ∀ (k i : Nat), i ≤ L.length → L.length < i + k → wpX7_endsOf_4 n Q (nI p) k (nI (ct (fun i => decide ((mget L i).2.2 < 8)) i)) (nI i) M := by
    intro k
    induction k with
    | zero => intro i h1 h2; exact absurd h2 (by omega)
    | succ k ih =>
      intro i h1 h2
      rw [wpX7_endsOf_4]
      refine ⟨pk_in p 16 hp, ?_⟩
      rw [cl_nI (by omega), hm.1]
      refine pk_le L.length i (fun z => ?_) (fun z => ?_)
      · have : i = L.length := by omega
        subst this
        exact hq
      · rw [show ((40 : Int32) * nI p + nI i) = nI (40 * p + i) from by rw [show (40 : Int32) = nI 40 from rfl, pk_mul, nI_add]]
        refine ⟨pk_in (40 * p + i) 640 (by omega), ?_⟩
        rw [cl_nI (by omega), (hm.2 i z).2.2]
        have key : ∀ c : Bool, c = decide ((mget L i).2.2 < 8) → wpX7_endsOf_36 n (wpX7_endsOf_4 n Q (nI p) k) (nI p) (nI i) (b2i c) (nI (ct (fun i => decide ((mget L i).2.2 < 8)) i)) M := fun c hc => by
          unfold wpX7_endsOf_36
          intro a ea d ed
          have e3 : ct (fun i => decide ((mget L i).2.2 < 8)) (i + 1) = ct (fun i => decide ((mget L i).2.2 < 8)) i + (if c then 1 else 0) := by rw [ct, hc]
          rw [ea, ed, b2i_nI, nI_add, nI_1, ← e3]
          exact ih (i + 1) (by omega) (by omega)
        have h8 := (mget_ok hk i).2.2.2.2
        refine pk_le 8 (mget L i).2.2 (fun z2 => ?_) (fun z2 => ?_)
        · exact key false (by rw [decide_eq_false (by omega)])
        · exact key true (by rw [decide_eq_true z2])
  unfold wpX7_endsOf
  exact loop n 0 (by omega) (by omega)
theorem marks_len (F : Gr) : (marks F).length ≤ 40 := acc_len F 484
theorem marks_ok (F : Gr) : ∀ m ∈ marks F, mkOk m := acc_ok F 484 (by omega)
/-- the bound of two lists of marks -/
def bnd (L1 L2 : List Mk) : Nat := min (endsN L1) (endsN L2) + min (L1.length - endsN L1) (L2.length - endsN L2)
theorem boundOf_ok {n p q : Nat} {L1 L2 : List Mk} {M : mM} {Q : Int32 → mM → Prop} (hn : 50 ≤ n) (hp : p < 16) (hq16 : q < 16) (h1 : mMk L1 p M) (h2 : mMk L2 q M) (l1 : L1.length ≤ 40) (l2 : L2.length ≤ 40) (k1 : ∀ m ∈ L1, mkOk m) (k2 : ∀ m ∈ L2, mkOk m) (hq : Q (nI (bnd L1 L2)) M) : wpX7_boundOf n (nI p) (nI q) M Q := by
  have e1 := endsN_le L1
  have e2 := endsN_le L2
  have tail : ∀ s, s = min (endsN L1) (endsN L2) → wpX7_boundOf_26 n Q (nI p) (nI q) (nI s) M := fun s hs => by
    unfold wpX7_boundOf_26
    refine ⟨pk_in p 16 hp, endsOf_ok hn hp h1 l1 k1 (fun a ea => ⟨pk_in q 16 hq16, endsOf_ok hn hq16 h2 l2 k2 (fun b eb => ?_)⟩)⟩
    rw [cl_nI (by omega), h1.1, pk_sub e1] at ea
    rw [cl_nI (by omega), h2.1, pk_sub e2] at eb
    subst ea eb
    rw [nI_add, nI_add]
    refine pk_le (L2.length - endsN L2) (L1.length - endsN L1) (fun z => ?_) (fun z => ?_)
    · have : s + (L2.length - endsN L2) = bnd L1 L2 := by unfold bnd; omega
      rw [this]; exact hq
    · have : s + (L1.length - endsN L1) = bnd L1 L2 := by unfold bnd; omega
      rw [this]; exact hq
  unfold wpX7_boundOf
  refine endsOf_ok hn hp h1 l1 k1 (endsOf_ok hn hq16 h2 l2 k2 ?_)
  refine pk_le (endsN L2) (endsN L1) (fun z => endsOf_ok hn hq16 h2 l2 k2 (tail _ (by omega))) (fun z => endsOf_ok hn hp h1 l1 k1 (tail _ (by omega)))
theorem mostAgreeing_ok {n p q : Nat} {L1 L2 : List Mk} {C : cM} {Q : Int32 → cM → Prop} (hp : bok C p) (hq16 : bok C q) (h1 : cMk L1 p C) (h2 : cMk L2 q C) (l1 : L1.length ≤ 40) (l2 : L2.length ≤ 40) (hq : Q (nI (bnd L1 L2)) C) : wpX0_mostAgreeing n p q C Q := by
  have e1 := endsN_le L1
  have e2 := endsN_le L2
  have im : ∀ a b : Nat, a ≤ 40 → b ≤ 40 → imin (nI a) (nI b) = nI (min a b) := fun a b ha hb => by
    show (if nI b < nI a then nI b else nI a) = _
    by_cases z : b < a
    · rw [if_pos (nI_lt z (by omega))]; congr 1; omega
    · rw [if_neg (nI_nlt (by omega) (by omega))]; congr 1; omega
  unfold wpX0_mostAgreeing wpX0_forkCount
  refine ⟨hp, hq16, hp, hq16, hq16, ?_⟩
  rw [h1.1, h1.2.1, h2.1, h2.2.1, pk_sub e1, pk_sub e2, im _ _ (by omega) (by omega)]
  show Q (nI (min (endsN L1) (endsN L2)) + imin (nI (L1.length - endsN L1)) (nI (L2.length - endsN L2))) C
  rw [im _ _ (by omega) (by omega), nI_add]
  exact hq
/-- model: the marks of two prints are found -/
theorem findMarks2_ok {n p q t : Nat} {C : cM} {M : mM} {Q : mM → Prop} (hn : 600 ≤ n) (hR : Rel t C M) (hp : p < cN C) (hq' : q < cN C) (hq : ∀ M1, fr mkC M M1 → Rel t C M1 → mMk (bm C p) p M1 → mMk (bm C q) q M1 → Q M1) : wpX7_findMarks n (nI p) M (fun M25 => wpX7_findMarks n (nI q) M25 Q) := by
  have h16 := hR.1.1.1
  refine findMarks_ok hn (by omega) (fun M1 f1 o1 m1 => findMarks_ok hn (by omega) (fun M2 f2 o2 m2 => ?_))
  rw [mRel_G hR.2 hp] at m1
  have hR1 : Rel t C M1 := ⟨hR.1, mRel_fr hR.2 f1 (by simp) (by simp)⟩
  rw [mRel_G hR1.2 hq'] at m2
  refine hq M2 (f1.tr f2) ⟨hR.1, mRel_fr hR1.2 f2 (by simp) (by simp)⟩ ?_ m2
  by_cases z : p = q
  · subst z; exact m2
  · exact mMk_oth m1 (marks_len _) o2 z
/-- class: two boards are brought up to date -/
theorem fresh2_ok {n p q t : Nat} {C : cM} {Q : Option Nat → cM → Prop} (hn : 600 ≤ n) (hI : cInv t C) (hp : p < cN C) (hq' : q < cN C) (hq : ∀ C2, upd8 C C2 → bAll C2 → bFresh C2 p → bFresh C2 q → Q (some q) C2) : wpX6_freshBoard n (nI p) C (fun _ C1 => wpX6_freshBoard n (nI q) C1 Q) := by
  refine freshBoard_yes hn hI.1 hp (fun C1 u1 a1 f1 s1 => freshBoard_yes hn a1 (by rw [u1.1]; exact hq') (fun C2 u2 a2 f2 s2 => hq C2 (u1.tr u2) a2 ?_ f2))
  have hp1 : p < cN C1 := by rw [u1.1]; exact hp
  exact (a2.2.2 p (by rw [u2.1]; exact hp1)).2 (u2.2.2.2.2.2 p hp1 s1)
