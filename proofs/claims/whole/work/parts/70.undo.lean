/-! CHANGES: one number of the bench; undo -/
def vPut (V : Nat → Nat → Nat) (q j v : Nat) : Nat → Nat → Nat := fun a d => if a = q ∧ d = j then v else V a d
section UNDO
variable {D n : Nat} {V : Nat → Nat → Nat} {g : Sg} {c : Nat} {I : IM} {J : JM} {b : Bool}
theorem BnC.put {ch : Ch} {v : Nat} (h : BnC I n V) (hc : chOK n ch) (hn : n ≤ 7) : BnC (updI I 20 0 (chP ch) (iZ (v : Int))) n (vPut V ch.1 ch.2.1 v) := by
  obtain ⟨h1, h2, h3⟩ := h
  have hcp := hc.1
  refine ⟨by rw [updI_if, if_neg (by omega)]; exact h1, fun j q hj hq => ?_, fun q a1 a2 => ?_⟩
  · rw [updI_if]
    unfold vPut chP
    by_cases hh : q = ch.1 ∧ j = ch.2.1
    · rw [if_pos hh, if_pos (by obtain ⟨e1, e2⟩ := hh; rw [if_pos (by omega)]; omega)]
    · rw [if_neg hh, if_neg (by split <;> omega)]
      exact h2 j q hj hq
  · rw [updI_if]
    unfold vPut chP
    by_cases hh : q = ch.1 ∧ 0 = ch.2.1
    · rw [if_pos hh, if_pos (by obtain ⟨e1, e2⟩ := hh; rw [if_neg (by omega)]; omega)]
    · rw [if_neg hh, if_neg (by split <;> omega)]
      exact h3 q a1 a2
theorem e_lays {ch : Ch} {v : Nat} {x y z : Int32} {T : IM → JM → Prop} (h : BnM I n V) (hc : chOK n ch) (hn : n ≤ 7) (hx : x = iZ (ch.1 : Int)) (hy : y = iZ (ch.2.1 : Int)) (hz : z = iZ (v : Int)) (K : ∀ I', BnM I' n (vPut V ch.1 ch.2.1 v) → (∀ s k, ¬ ((s = 10 ∧ 8 ≤ k ∧ k ≤ 12) ∨ (43 ≤ s ∧ s ≤ 48)) → I' s 0 k = I s 0 k) → Fr pMa I I' → T I' J) : Call (D + 1) 142 [vr 10 0, vi x, vi y, vi z] (101, I, J, R0 b) (RVf b T) := by
  subst hx hy hz
  obtain ⟨h1, h2, h3⟩ := h
  have hcp := hc.1
  generalize hq : ch.1 = q at *
  generalize hj : ch.2.1 = j at *
  have fin6 : q < 6 → T (updI I (43 + q) 0 j (iZ (v : Int))) J := fun hq6 => by
    refine K _ ⟨by rw [updI_if, if_neg (by omega)]; exact h1, fun j2 q2 a1 a2 => ?_, fun q2 a1 a2 => ?_⟩ (fun s k zz => by rw [updI_if, if_neg (by omega)]) (Fr.id.upd (by
      rcases (show q = 0 ∨ q = 1 ∨ q = 2 ∨ q = 3 ∨ q = 4 ∨ q = 5 by omega) with rfl | rfl | rfl | rfl | rfl | rfl <;> rfl))
    · rw [updI_if]
      unfold vPut
      by_cases hh : q2 = q ∧ j2 = j
      · rw [if_pos hh, if_pos (by omega)]
      · rw [if_neg hh, if_neg (by omega)]
        exact h2 j2 q2 a1 a2
    · rw [updI_if, if_neg (by omega), h3 q2 a1 a2]
      congr 2
      exact (if_neg (by omega)).symm
  have fin10 : 6 ≤ q → q ≤ 10 → j = 0 → T (updI I 10 0 (q + 2) (iZ (v : Int))) J := fun b1 b2 b3 => by
    refine K _ ⟨by rw [updI_if, if_neg (by omega)]; exact h1, fun j2 q2 a1 a2 => ?_, fun q2 a1 a2 => ?_⟩ (fun s k zz => by rw [updI_if, if_neg (by omega)]) (Fr.id.upd rfl)
    · rw [updI_if, if_neg (by omega), h2 j2 q2 a1 a2]
      congr 2
      exact (if_neg (by omega)).symm
    · rw [updI_if]
      unfold vPut
      by_cases hh : q2 = q ∧ 0 = j
      · rw [if_pos hh, if_pos (by omega)]
      · rw [if_neg hh, if_neg (by omega)]
        exact h3 q2 a1 a2
  have hne : ∀ a d : Nat, a ≤ 10 → d ≤ 10 → a ≠ d → ¬ iZ (a : Int) = iZ (d : Int) := fun a d _ _ _ => nne (by omega) (by omega) (by omega) (by omega) (by omega)
  refine t_X10_lays _ _ _ I J b ?_
  by_cases hq6 : q < 6
  · have hv : vp_in (iZ (j : Int)) 7 := vp_iZ (by omega) (by omega) (by omega)
    have hck : (iZ (j : Int)).toNatClampNeg = j := iZ_ck (by omega)
    rw [hck]
    have hf := fin6 hq6
    rcases (show q = 0 ∨ q = 1 ∨ q = 2 ∨ q = 3 ∨ q = 4 ∨ q = 5 by omega) with rfl | rfl | rfl | rfl | rfl | rfl <;> (repeat (first | refine ifp (by decide) ?_ | refine ifn (by decide) ?_)) <;> exact ⟨hv, RVf.mk hf⟩
  · have hf := fin10 (by omega) (by omega) (by omega)
    rcases (show q = 6 ∨ q = 7 ∨ q = 8 ∨ q = 9 ∨ q = 10 by omega) with rfl | rfl | rfl | rfl | rfl <;> (repeat (first | refine ifp (by decide) ?_ | refine ifn (by decide) ?_)) <;> exact RVf.mk hf
end UNDO
