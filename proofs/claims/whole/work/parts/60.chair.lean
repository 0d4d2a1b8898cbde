/-! CHANGES: chair, feed -/
theorem pW1_f {s j k : Nat} (h : ¬ (j = 1 ∧ ((s = 8 ∧ 9 ≤ k) ∨ (30 ≤ s ∧ s ≤ 35)))) : pW 1 s j k = false := by
  refine bf_of (q := j = 1 ∧ ((s = 8 ∧ 9 ≤ k) ∨ (30 ≤ s ∧ s ≤ 35))) ?_ h
  unfold pW
  simp only [Bool.or_eq_true, Bool.and_eq_true, nb_iff, Nat.ble_eq]
section CHAIR
variable {D : Nat} {g : Sg} {c : Nat} {I : IM} {J : JM} {b : Bool}
theorem op_chair : Op 107 215 [] := by
  intro g c I J b hc hX hM hO
  have hD : DeC 1 0 I (gD g) := hX.2.2.2.2.2.2.2.1
  have hDm : DeM I (gD g) := hM.2.2.2.2.2.2.2.1
  obtain ⟨o1, o2, o3, o4, o5, o6, o7, o8⟩ : DeOK c (gN g) (gD g) := hO.2.2.2.2.2.2.1
  have n7 := hO.1.1
  refine t_X9_chair (D := 899) I J b ?_
  obtain ⟨w1, w2, w3, w4, w5⟩ := hD
  have hR := w1.1
  rw [w1.2.2.2.2.1, w1.2.1]
  refine (e_clear (D := 898) (r := 7) hR).useV ?_
  rintro I1 J1 ⟨rfl, hf1, hW1⟩
  have e1 : ∀ s j k, ¬ ((s = 8 ∨ (30 ≤ s ∧ s ≤ 35)) ∧ j = 1) → I1 s j k = I s j k := fun s j k z => hf1 s j k (pW1_f (by omega))
  have hd2 : DeC 1 0 (updI I1 2 0 4 (I1 2 0 4 + (1 : Int32))) ([], (gD g).2.1, (gD g).2.2.1, (gD g).2.2.2.1, (gD g).2.2.2.2.1, (gD g).2.2.2.2.2 + 1) := by
    refine ⟨hW1.frame (fun s k z => by rw [updI_if, if_neg (by omega)]), ?_, ?_, ?_, ?_⟩
    · rw [updI_if, if_neg (by omega), e1 _ _ _ (by omega)]; exact w2
    · rw [updI_if, if_neg (by omega), e1 _ _ _ (by omega)]; exact w3
    · rw [updI_if, if_neg (by omega), e1 _ _ _ (by omega)]; exact w4
    · rw [uI_eq, e1 _ _ _ (by omega), w5, iZ_s]
  have e2 : ∀ s j k, ¬ (((s = 8 ∨ (30 ≤ s ∧ s ≤ 35)) ∧ j = 1) ∨ (s = 2 ∧ j = 0)) → updI I1 2 0 4 (I1 2 0 4 + (1 : Int32)) s j k = I s j k := fun s j k z => by
    rw [updI_if, if_neg (by omega), e1 _ _ _ (by omega)]
  generalize hI2 : updI I1 2 0 4 (I1 2 0 4 + (1 : Int32)) = I2 at hd2 e2 ⊢
  have hX2 := hX.de hd2 e2
  have hM2 : MR g I2 J1 := hM.eq (fun s k z => e2 s 0 k (by unfold mCe at z; omega)) (fun _ => rfl)
  obtain ⟨m1, m2, m3, m4, m5, m6, m7, m8, m9⟩ := hM2.2.2.2.2.2.2.2.1
  refine RIf.mk (t_X10_chair (D := 899) I2 J1 b ?_)
  have h7 : ∀ e ∈ (gD g).1, xj e < 7 := fun e he => by have := o3 e he; omega
  have hpc : pcN (bs (gD g).1) = (gD g).1.length := by
    rw [bs_bl, nd_pc _ o2 (fun j hj => ?_), List.length_map]
    rw [List.mem_map] at hj
    obtain ⟨e, he, rfl⟩ := hj
    exact h7 e he
  rw [m2]
  refine (p_bitsOf (D := 898) (bs_lt h7)).use ?_
  rw [hpc]
  have eo : ∀ s k, ¬ ((s = 10 ∧ (k = 57 ∨ k = 58 ∨ k = 63)) ∨ (71 ≤ s ∧ s ≤ 75)) → mCe s k → updI (updI (updI I2 10 0 58 0) 10 0 63 0) 75 0 3 (I2 75 0 3 + (1 : Int32)) s 0 k = I2 s 0 k := fun s k z _ => by
    rw [updI_if, if_neg (by omega), updI_if, if_neg (by omega), updI_if, if_neg (by omega)]
  have hdm : DeM (updI (updI (updI I2 10 0 58 0) 10 0 63 0) 75 0 3 (I2 75 0 3 + (1 : Int32))) ([], (gD g).2.1, (gD g).2.2.1, (gD g).2.2.2.1, (gD g).2.2.2.2.1, (gD g).2.2.2.2.2 + 1) := by
    refine ⟨?_, ?_, ?_, fun k e hk => (by simp [hl] at hk), fun e he => (by cases he), ?_, ?_, ?_, ?_⟩
    · rw [updI_if, if_neg (by omega), updI_if, if_neg (by omega), updI_if, if_neg (by omega)]; exact m1
    · rw [updI_if, if_neg (by omega), updI_if, if_neg (by omega), uI_eq]; rfl
    · rw [updI_if, if_neg (by omega), uI_eq]; rfl
    · rw [updI_if, if_neg (by omega), updI_if, if_neg (by omega), updI_if, if_neg (by omega)]; exact m6
    · rw [updI_if, if_neg (by omega), updI_if, if_neg (by omega), updI_if, if_neg (by omega)]; exact m7
    · rw [updI_if, if_neg (by omega), updI_if, if_neg (by omega), updI_if, if_neg (by omega)]; exact m8
    · rw [uI_eq, m9, iZ_s]
  exact RIf.mk ⟨rfl, _, hX2.frM (((Fr.id.upd rfl).upd rfl).upd rfl) (fun _ _ _ => rfl), hM2.de hdm eo, (hO.up hc).de ⟨⟨fun e he => (by cases he), o1.2⟩, (by simp), fun e he => (by cases he), (by show (gD g).2.1 ≤ _; omega), (by show (gD g).2.2.1 ≤ _; omega), (by show (gD g).2.2.2.1 ≤ _; omega), (by show (gD g).2.2.2.2.1 ≤ _; omega), (by show (gD g).2.2.2.2.2 + 1 ≤ _; omega)⟩⟩
end CHAIR
