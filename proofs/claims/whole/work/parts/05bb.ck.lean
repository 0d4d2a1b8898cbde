theorem ckL_at {a n pc : Nat} (h : ckL a n = true) (h1 : a ≤ pc) (h2 : pc < a + n) : (match tbl 260 pc with
  | none => true
  | some e => okE 260 pc e) = true := by
  have := List.all_eq_true.mp h (pc - a) (List.mem_range.mpr (by omega))
  rw [show a + (pc - a) = pc by omega] at this
  exact this
theorem nby260 : nby 260 = 1488 := by decide +kernel
theorem ck260 : ckM 260 = true := by
  unfold ckM
  rw [show Nat.beq 260 260 = true from rfl, nby260, cond_true, Bool.true_and]
  refine List.all_eq_true.mpr (fun pc hp => ?_)
  have hp := List.mem_range.mp hp
  rcases Nat.lt_or_ge pc 125 with h | h
  · exact ckL_at ckl0 (by omega) (by omega)
  rcases Nat.lt_or_ge pc 250 with h | h
  · exact ckL_at ckl1 (by omega) (by omega)
  rcases Nat.lt_or_ge pc 375 with h | h
  · exact ckL_at ckl2 (by omega) (by omega)
  rcases Nat.lt_or_ge pc 500 with h | h
  · exact ckL_at ckl3 (by omega) (by omega)
  rcases Nat.lt_or_ge pc 625 with h | h
  · exact ckL_at ckl4 (by omega) (by omega)
  rcases Nat.lt_or_ge pc 750 with h | h
  · exact ckL_at ckl5 (by omega) (by omega)
  rcases Nat.lt_or_ge pc 875 with h | h
  · exact ckL_at ckl6 (by omega) (by omega)
  rcases Nat.lt_or_ge pc 1000 with h | h
  · exact ckL_at ckl7 (by omega) (by omega)
  rcases Nat.lt_or_ge pc 1125 with h | h
  · exact ckL_at ckl8 (by omega) (by omega)
  rcases Nat.lt_or_ge pc 1250 with h | h
  · exact ckL_at ckl9 (by omega) (by omega)
  rcases Nat.lt_or_ge pc 1375 with h | h
  · exact ckL_at ckl10 (by omega) (by omega)
  exact ckL_at ckl11 (by omega) (by omega)
