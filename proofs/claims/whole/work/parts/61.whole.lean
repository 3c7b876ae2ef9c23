/-! THE WHOLE: every call answers alike, and the two stay alike -/
theorem Rel_start : Rel 0 cC0 mM0 := by
  have n0 : cN cC0 = 0 := rfl
  refine ⟨⟨⟨by rw [n0]; omega, rfl, fun b hb => ?_⟩, ⟨1, by omega, rfl⟩, fun b hb => ?_, fun k hk hk2 => ?_, fun k hk hk2 => ?_⟩, rfl, rfl, rfl, fun b hb => ?_, fun j _ _ => ?_⟩
  · rw [n0] at hb; exact absurd hb (by omega)
  · rw [n0] at hb; exact absurd hb (by omega)
  · have : false = true := hk2
    cases this
  · have : false = true := hk2
    cases this
  · rw [n0] at hb; exact absurd hb (by omega)
  · show (if 3 = 0 ∧ j = 4 then (1 : Int32) else 0) = 0
    rw [if_neg (by omega)]
theorem all_steps : LawStep Rel 600 := by
  refine ⟨?_, ?_, ?_, ?_, ?_, ?_, ?_, ?_, ?_, ?_, ?_, ?_, ?_, ?_, fun t C M h => Rel_mono h⟩
  · exact fun t ht C M h => s_print h
  · exact fun t ht C M x1 x2 x3 h => s_row (by omega) h
  · exact fun t ht C M x1 x2 x3 x4 h => s_cell (by omega) h
  · exact fun t ht C M x1 x2 h => s_thin (by omega) h
  · exact fun t ht C M x1 x2 x3 h => s_mark (by omega) h
  · exact fun t ht C M x1 h => s_within h
  · exact fun t ht C M x1 x2 x3 x4 x5 h => s_pairs (by omega) h
  · exact fun t ht C M x1 x2 x3 h => s_best (by omega) (by omega) h
  · exact fun t ht C M x1 x2 h => s_bound (by omega) h
  · exact fun t ht C M x1 x2 h => s_seek (by omega) (by omega) h
  · exact fun t ht C M x1 x2 x3 h => s_chance (by omega) h
  · exact fun t ht C M x1 x2 h => s_join (by omega) (by omega) h
  · exact fun t ht C M x1 h => s_count (by omega) h
  · exact fun t ht C M h => s_status h
theorem whole_start {p : Program} {e : Env} {s : State} {m : MethodId} {below : List Frame} {meth : Method} {c : Code} (l : Launch) {b L : Nat} {xs : Nat → Int32} (hL : L ≤ 3072) (C0 : lw_At p s m meth c b L xs) : W p l e room_1 s m #[Value.ref b] below meth c s.heap [] 0 0 (lw_Z below #[Value.ref b] s) (entryFrame m ([Value.ref b] : List Value).toArray 4) :=
  law_start l all_steps Rel_start hL C0
