set_option maxHeartbeats 8000000 in
set_option maxRecDepth 100000 in
theorem law_start {p : Program} {e : Env} {s : State} {m : MethodId} {below : List Frame} {meth : Method} {c : Code} (l : Launch) {b L : Nat} {xs : Nat → Int32} {Rel : Nat → cM → mM → Prop} {n : Nat} (hst : LawStep Rel n) (hR0 : Rel 0 cC0 mM0) (hL : L ≤ 3072) (C0 : lw_At p s m meth c b L xs) : W p l e room_1 s m #[Value.ref b] below meth c s.heap [] 0 0 (lw_Z below #[Value.ref b] s) (entryFrame m ([Value.ref b] : List Value).toArray 4) := by
  obtain ⟨hx, hb, hr, hml, hown, hts0, hX, hbl, hlocks, hgv⟩ := id C0
  have hts : ∀ w ∈ wsL_law, w.before #[Value.ref b] s = true := fun w h => hts0 w (wsL_law_in w h)
  have hA : ∀ q : Nat, s.heap.size ≤ q → (fun q : Nat => s.heap.size ≤ q) q := fun _ h => h
  obtain ⟨c0, iS0, hKn0⟩ := u_known (C := RX0) (T := TX0) (N := 9) (n := 9) hts inlX0 (hts0 (.instantiable RX0 9) (by decide +kernel))
  obtain ⟨c1, iS1, hKn1⟩ := u_known (C := RX1) (T := TX1) (N := 9) (n := 9) hts inlX1 (hts0 (.instantiable RX1 9) (by decide +kernel))
  obtain ⟨c2, iS2, hKn2⟩ := u_known (C := RX2) (T := TX2) (N := 13) (n := 13) hts inlX2 (hts0 (.instantiable RX2 13) (by decide +kernel))
  obtain ⟨c3, iS3, hKn3⟩ := u_known (C := RX3) (T := TX3) (N := 5) (n := 5) hts inlX3 (hts0 (.instantiable RX3 5) (by decide +kernel))
  obtain ⟨c4, iS4, hKn4⟩ := u_known (C := RX4) (T := TX4) (N := 3) (n := 3) hts inlX4 (hts0 (.instantiable RX4 3) (by decide +kernel))
  obtain ⟨c5, iS5, hKn5⟩ := u_known (C := RX5) (T := TX5) (N := 2) (n := 2) hts inlX5 (hts0 (.instantiable RX5 2) (by decide +kernel))
  obtain ⟨c6, iS6, hKn6⟩ := u_known (C := RX6) (T := TX6) (N := 8) (n := 8) hts inlX6 (hts0 (.instantiable RX6 8) (by decide +kernel))
  obtain ⟨c7, iS7, hKn7⟩ := u_known (C := RX7) (T := TX7) (N := 21) (n := 21) hts inlX7 (hts0 (.instantiable RX7 21) (by decide +kernel))
  obtain ⟨dC, dI, hKc⟩ : ∃ (dC : Nat → ClassId) (dI : Nat → Nat → Nat), ∀ (k : Nat) (q : vw_C), vwCl[k]? = some q → u_Kn s q.1 q.2.1 q.2.2 (dC k) (dI k) := by
    refine ⟨fun k => match k with | 0 => c0 | 1 => c1 | 2 => c2 | 3 => c3 | 4 => c4 | 5 => c5 | 6 => c6 | _ => c7, fun k => match k with | 0 => iS0 | 1 => iS1 | 2 => iS2 | 3 => iS3 | 4 => iS4 | 5 => iS5 | 6 => iS6 | _ => iS7, ?_⟩
    intro k q hq
    match k, hq with
    | 0, hq => cases hq; exact hKn0
    | 1, hq => cases hq; exact hKn1
    | 2, hq => cases hq; exact hKn2
    | 3, hq => cases hq; exact hKn3
    | 4, hq => cases hq; exact hKn4
    | 5, hq => cases hq; exact hKn5
    | 6, hq => cases hq; exact hKn6
    | 7, hq => cases hq; exact hKn7
    | k + 8, hq => simp [vwCl] at hq
  obtain ⟨a0, kA0, cp0, fa0, fb0, fc0⟩ := Cond.arrayClass_spec (hts0 (.arrayClass .int) (by decide +kernel))
  obtain ⟨a1, kA1, cp1, fa1, fb1, fc1⟩ := Cond.arrayClass_spec (hts0 (.arrayClass .long) (by decide +kernel))
  obtain ⟨a2, kA2, cp2, fa2, fb2, fc2⟩ := Cond.arrayClass_spec (hts0 (.arrayClass .boolean) (by decide +kernel))
  obtain ⟨cp3, a3, kA3, fe3, ff3, fb3, fc3, fa3⟩ := Cond.arrayOver_spec (hts0 (.arrayOver (.object "RidgeBooks$Board")) (by decide +kernel))
  obtain ⟨cp4, a4, kA4, fe4, ff4, fb4, fc4, fa4⟩ := Cond.arrayOver_spec (hts0 (.arrayOver (.object "RidgeBooks$Meeting")) (by decide +kernel))
  obtain ⟨cA, hcA⟩ : ∃ cA : Nat → ClassId, cA = fun k => match k with | 0 => a0 | 1 => a1 | 2 => a2 | 3 => a3 | _ => a4 := ⟨_, rfl⟩
  have hK : va_K (dC, dI) vwCl (tysA cA) s := by
    refine ⟨hKc, fun k q hq => ?_⟩
    subst hcA
    match k, hq with
    | 0, hq => cases hq; exact ⟨fun n z => ⟨fun k h => (by cases h), kA0, fb0, cp0, fc0⟩, fa0⟩
    | 1, hq => cases hq; exact ⟨fun n z => ⟨fun k h => (by cases h), kA1, fb1, cp1, fc1⟩, fa1⟩
    | 2, hq => cases hq; exact ⟨fun n z => ⟨fun k h => (by cases h), kA2, fb2, cp2, fc2⟩, fa2⟩
    | 3, hq => cases hq; exact ⟨fun n z => ⟨fun k h => (by cases h), kA3, fb3, cp3, fc3⟩, ⟨kA3, cp3, fb3, fc3, fe3, fa3⟩⟩
    | 4, hq => cases hq; exact ⟨fun n z => ⟨fun k h => (by cases h), kA4, fb4, cp4, fc4⟩, ⟨kA4, cp4, fb4, fc4, fe4, fa4⟩⟩
    | k + 5, hq => simp at hq
  clear hcA
  have hkN : kN s := ⟨⟨va_Nw.of rfl (hts0 (.methodLinkNest RX6 23 yX5_init RX6) (by decide +kernel)), va_Nw.of rfl (hts0 (.methodLinkNest RX6 30 yX2_init RX6) (by decide +kernel)), va_Nw.of rfl (hts0 (.methodLinkNest RX3 17 yX4_init RX6) (by decide +kernel)), va_Nw.of rfl (hts0 (.methodLinkNest RX5 11 yX3_init RX6) (by decide +kernel))⟩, va_AO.of (hts0 (.arrayOver (.object "RidgeBooks$Board")) (by decide +kernel)), va_AO.of (hts0 (.arrayOver (.object "RidgeBooks$Meeting")) (by decide +kernel))⟩
  have hN : cNw s := ⟨va_Nw.of rfl (hts0 (.methodLinkNest RX0 41 yX6_isOnBoard RX6) (by decide +kernel)), va_Nw.of rfl (hts0 (.methodLinkNest RX1 77 yX6_isOnBoard RX6) (by decide +kernel)), va_Nw.of rfl (hts0 (.methodLinkNest RX6 53 yX0_init RX6) (by decide +kernel)), hkN⟩
  have X : gX p s m #[Value.ref b] meth c (dC, dI) cA (fun q : Nat => s.heap.size ≤ q) cL_law 4 wsL_law RL := ⟨hx, hb, hml, hown, hts, hK, hA⟩
  have h : gH (dC, dI) (fun q : Nat => s.heap.size ≤ q) s.heap [] s.heap [] := ⟨fun k q h => by simp at h, ⟨fun i j p q h => by simp at h, fun k q h => by simp at h⟩, va_S.rf⟩
  have hl := lv_entry ([.ref b]) (n := 4) (Nat.le_of_ble_eq_true rfl)
  rw [lg_entry_eq]
  generalize (lg_sl ([.ref b]) ++ List.replicate (4 - (lg_sl ([.ref b])).length) Slot.unset).toArray = ls at hl ⊢
  have hl : lv_has ls 4 [(0, .ref b)] := hl
  refine n_new X h 6 (fs := [.null, .null, .null, .null, .null, .int 0, .int 0, .int 0]) rfl inlX6 tyX6 tyX6_ok (by decide +kernel) (by decide +kernel) (by decide +kernel) (fun j hj => by rcases (show j = 0 ∨ j = 1 ∨ j = 2 ∨ j = 3 ∨ j = 4 ∨ j = 5 ∨ j = 6 ∨ j = 7 by omega) with rfl | rfl | rfl | rfl | rfl | rfl | rfl | rfl <;> rfl) (Nat.le_of_ble_eq_true rfl) (Nat.le_of_ble_eq_true rfl) dL_law_0 (fun q H h => ?_)
  have h : gH (dC, dI) (fun q : Nat => s.heap.size ≤ q) s.heap [(q, .inr (6, [.null, .null, .null, .null, .null, .int 0, .int 0, .int 0]))] H [] := h
  refine lv_dup hx hb dL_law_3 rfl ?_
  refine n_init (wr := []) X hkN h (kX6_init l (dC, dI) cA q) [0] [] rfl rfl (by decide) (by decide) (fun hM hp => va_runI (As := []) (rest := [.ref q]) ⟨hx, hb, hml, hown, hts⟩ hM (cwI 0 hts gL_law_X6_init rfl rfl rfl (hts _ (by decide +kernel)) (hts _ (by decide +kernel)) (hts _ (by decide +kernel)) rfl (by decide +kernel) ⟨Nat.le_of_ble_eq_true rfl, Nat.le_of_ble_eq_true rfl⟩) hp rfl rfl hl.1 rfl (lv_room (Nat.le_of_ble_eq_true rfl)) dL_law_4 ⟨Nat.le_of_ble_eq_true rfl, Nat.le_of_ble_eq_true rfl⟩) (fun u H locs h => ?_)
  rw [List.nil_append, kwX6_eq] at h
  refine W.widen (k := 23) (n := 1123) (Nat.le_of_ble_eq_true rfl) (Nat.le_of_ble_eq_true rfl) ?_
  refine lv_astore_n (lv' := [(1, .ref q), (0, .ref b)]) hx hb dL_law_7 rfl hl (by decide) rfl (fun ls hl => ?_)
  refine n_new X h 7 (fs := [.int 0, .int 0, .int 0, .null, .int 0, .null, .null, .null, .null, .null, .null, .null, .null, .null, .null, .null, .int 0, .int 0, .int 0, .int 0, .null]) rfl inlX7 tyX7 tyX7_ok (by decide +kernel) (by decide +kernel) (by decide +kernel) (fun j hj => by rcases (show j = 0 ∨ j = 1 ∨ j = 2 ∨ j = 3 ∨ j = 4 ∨ j = 5 ∨ j = 6 ∨ j = 7 ∨ j = 8 ∨ j = 9 ∨ j = 10 ∨ j = 11 ∨ j = 12 ∨ j = 13 ∨ j = 14 ∨ j = 15 ∨ j = 16 ∨ j = 17 ∨ j = 18 ∨ j = 19 ∨ j = 20 by omega) with rfl | rfl | rfl | rfl | rfl | rfl | rfl | rfl | rfl | rfl | rfl | rfl | rfl | rfl | rfl | rfl | rfl | rfl | rfl | rfl | rfl <;> rfl) (Nat.le_of_ble_eq_true rfl) (Nat.le_of_ble_eq_true rfl) dL_law_8 (fun q2 H h => ?_)
  refine lv_dup hx hb dL_law_11 rfl ?_
  refine n_init (wr := cws cA (kad q u) cC0) X hkN h (kX7_init l (dC, dI) cA q2) [(cws cA (kad q u) cC0).length] (List.range (cws cA (kad q u) cC0).length) (by simp) (rng_map _ _) (rng_nd _) (fun i hi hz => by have := List.mem_range.mp hi; simp at hz; omega) (fun hM hp => va_runI (As := []) (rest := [.ref q2]) ⟨hx, hb, hml, hown, hts⟩ hM (cwI 0 hts gL_law_X7_init rfl rfl rfl (hts _ (by decide +kernel)) (hts _ (by decide +kernel)) (hts _ (by decide +kernel)) rfl (by decide +kernel) ⟨Nat.le_of_ble_eq_true rfl, Nat.le_of_ble_eq_true rfl⟩) hp rfl rfl hl.1 rfl (lv_room (Nat.le_of_ble_eq_true rfl)) dL_law_12 ⟨Nat.le_of_ble_eq_true rfl, Nat.le_of_ble_eq_true rfl⟩) (fun u2 H locs h => ?_)
  rw [kwX7_eq] at h
  refine W.widen (k := 37) (n := 6361) (Nat.le_of_ble_eq_true rfl) (Nat.le_of_ble_eq_true rfl) ?_
  refine lv_astore_n (lv' := [(2, .ref q2), (1, .ref q), (0, .ref b)]) hx hb dL_law_15 rfl hl (by decide) rfl (fun ls hl => ?_)
  refine lv_iconst (v := 0) hx hb dL_law_16 (by decide) ?_
  refine lv_istore_n (lv' := [(3, .int 0), (2, .ref q2), (1, .ref q), (0, .ref b)]) hx hb dL_law_17 rfl hl (by decide) rfl (fun ls hl => ?_)
  exact law_loop hst hL C0 hK hN (L + 1) 0 (by omega) (by omega) (kad q u) (kad q2 u2) cC0 mM0 H locs ls hR0 h (lv_sub hl [3, 2, 1, 0] rfl)
