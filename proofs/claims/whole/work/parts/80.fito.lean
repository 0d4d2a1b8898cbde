/-! CHANGES: fit, the op -/
section FITO
variable {D : Nat} {g : Sg} {c : Nat} {I : IM} {J : JM} {b : Bool}
theorem op_fit (x : Int32) : Op 104 212 [vi x] := by
  intro g c I J b hc hX hM hO
  have n7 := hO.1.1
  have hD : DeC 1 0 I (gD g) := hX.2.2.2.2.2.2.2.1
  have hOd : DeOK c (gN g) (gD g) := hO.2.2.2.2.2.2.1
  refine t_X9_fit (D := 899) _ I J b ((p_isJ (D := 898) hX.1.1 n7).use ?_)
  by_cases hx : ¬ (0 ≤ x.toInt ∧ x.toInt < gN g)
  · rw [decide_eq_false hx]
    refine ifn (fun z => z rfl) (op_same hc hX hM hO ?_)
    refine t_X10_fit (D := 899) _ I J b ((p_M_isJoint (D := 897) hM.bn.1 n7).use ?_)
    rw [decide_eq_false hx]
    exact ifn (fun z => z rfl) ⟨rfl, rfl⟩
  have hx := Classical.not_not.mp hx
  have hx1 := hx
  rw [decide_eq_true hx]
  refine ifp (by decide) ?_
  obtain ⟨j, hj, rfl⟩ := isJ_ex n7 hx
  have h7 : ∀ e ∈ (gD g).1, xj e < 7 := fun e he => by have := hOd.2.2.1 e he; omega
  refine (p_hasFitted (D := 898) hD.1 h7 (by omega)).use ?_
  rw [List.drop_zero]
  have hany : ((gD g).1.any fun e => xj e == j) = tb (bs (gD g).1) j := by rw [tb_bit (bs_lt h7) (by omega), bs_bit]
  rw [hany]
  by_cases ht : tb (bs (gD g).1) j = true
  · rw [ht]
    refine ifn (by decide) (op_same hc hX hM hO ?_)
    obtain ⟨m1, m2, m3, m4, m5, m6, m7, m8, m9⟩ : DeM I (gD g) := hM.2.2.2.2.2.2.2.1
    refine t_X10_fit (D := 899) _ I J b ((p_M_isJoint (D := 897) hM.bn.1 n7).use ?_)
    rw [decide_eq_true hx1, m2]
    exact ifp (by decide) (ifn (fun z => z (of_decide_eq_true ht)) ⟨rfl, rfl⟩)
  have ht : tb (bs (gD g).1) j = false := by simpa using ht
  rw [ht]
  refine ifp rfl ?_
  have hC := deed_ch hOd hj n7 ht
  obtain ⟨o1, o2, o3, o4, o5, o6, o7, o8⟩ := hOd
  have hG : Gd (parS g) (gD g).1 (gD g).2.1 := o1
  have hlen : (gD g).1.length + 1 ≤ gN g := by
    have := hC.len (parS_ok hO)
    simp at this
    exact this
  refine (e_open (D := 892) (hX.BL hO)).useV ?_
  rintro I1 J1 ⟨rfl, hf1, hS1⟩
  have hX1 := hX.fr (pSp_ct hf1)
  have hM1 : MR g I1 J1 := hM.frC (pCt_a (pSp_ct hf1)) (fun _ => rfl)
  have hB1 : BeAt I1 (parS g) := BeAt_of hX1.1 n7
  obtain ⟨w1, w2, w3, w4, w5⟩ : DeC 1 0 I1 (gD g) := hX1.2.2.2.2.2.2.2.1
  refine (e_join (D := 895) w1 hB1 hS1 (parS_ok hO) hG hj (by omega) (by show (gD g).1.length - 0 < gN g; omega)).useI ?_
  rintro x I2 J2 ⟨rfl, h⟩
  cases hjo : joi (parS g) (gD g).1 0 (gD g).2.1 j with
  | none =>
    rw [hjo] at h
    obtain ⟨rfl, rfl⟩ := h
    refine ifn (fun z => z rfl) ?_
    rw [w3, iZ_s]
    have v : ∀ s i k, ¬ (s = 2 ∧ i = 0 ∧ k = 2) → updI I2 2 0 2 (iZ (((gD g).2.2.2.1 + 1 : Nat) : Int)) s i k = I2 s i k := fun s i k z => by rw [updI_if, if_neg (by omega)]
    have hX2 : XR (gDe g (deN (gD g))) (updI I2 2 0 2 (iZ (((gD g).2.2.2.1 + 1 : Nat) : Int))) J2 b := hX1.de ⟨w1.frame (fun s k z => v _ _ _ (by omega)), (v _ _ _ (by omega)).trans w2, uI_eq, (v _ _ _ (by omega)).trans w4, (v _ _ _ (by omega)).trans w5⟩ (fun s i k z => v _ _ _ (by omega))
    have hM2 : MR g (updI I2 2 0 2 (iZ (((gD g).2.2.2.1 + 1 : Nat) : Int))) J2 := hM1.eq (fun s k z => by unfold mCe at z; exact v _ _ _ (by omega)) (fun _ => rfl)
    generalize updI I2 2 0 2 (iZ (((gD g).2.2.2.1 + 1 : Nat) : Int)) = I3 at hX2 hM2 ⊢
    refine RIf.mk ((m_fit hM2 hO hj ht).useI ?_)
    rintro x I4 J4 ⟨rfl, hf4, h4⟩
    rw [hjo] at h4
    obtain ⟨rfl, hM4⟩ := h4
    exact ⟨rfl, _, hX2.frM hf4 (fun _ _ _ => rfl), hM4, (hO.up hc).de ⟨o1, o2, o3, (by show (gD g).2.1 ≤ _; omega), (by show (gD g).2.2.1 ≤ _; omega), (by show (gD g).2.2.2.1 + 1 ≤ _; omega), (by show (gD g).2.2.2.2.1 ≤ _; omega), (by show (gD g).2.2.2.2.2 ≤ _; omega)⟩⟩
  | some e =>
    rw [hjo] at h
    obtain ⟨rfl, hW2, hf2⟩ := h
    obtain ⟨a1, a2, a3, a4⟩ := joi_some (parS_ok hO) hG hj (by show (gD g).1.length - 0 < gN g; omega) (by omega) hjo
    have g2 : ∀ s i k, ¬ (i = 1 ∧ ((s = 8 ∧ 9 ≤ k) ∨ (30 ≤ s ∧ s ≤ 35))) → I2 s i k = I1 s i k := fun s i k z => hf2 s i k (pW1_f z)
    refine ifp (by decide) ?_
    rw [hW2.2.2.2.2.1, g2 2 0 1 (by omega), w2, iZ_s]
    have v : ∀ s i k, ¬ (s = 2 ∧ i = 0 ∧ k = 1) → updI I2 2 0 1 (iZ (((gD g).2.2.1 + 1 : Nat) : Int)) s i k = I2 s i k := fun s i k z => by rw [updI_if, if_neg (by omega)]
    have hX2 : XR (gDe g (deE (gD g) e)) (updI I2 2 0 1 (iZ (((gD g).2.2.1 + 1 : Nat) : Int))) J2 b := hX1.de ⟨hW2.frame (fun s k z => v _ _ _ (by omega)), uI_eq, by rw [v _ _ _ (by omega), g2 _ _ _ (by omega)]; exact w3, by rw [v _ _ _ (by omega), g2 _ _ _ (by omega)]; exact w4, by rw [v _ _ _ (by omega), g2 _ _ _ (by omega)]; exact w5⟩ (fun s i k z => by rw [v _ _ _ (by omega)]; exact g2 _ _ _ (by omega))
    have hM2 : MR g (updI I2 2 0 1 (iZ (((gD g).2.2.1 + 1 : Nat) : Int))) J2 := hM1.eq (fun s k z => by unfold mCe at z; rw [v _ _ _ (by omega)]; exact g2 _ _ _ (by omega)) (fun _ => rfl)
    generalize updI I2 2 0 1 (iZ (((gD g).2.2.1 + 1 : Nat) : Int)) = I3 at hX2 hM2 ⊢
    refine RIf.mk ((m_fit hM2 hO hj ht).useI ?_)
    rintro x I4 J4 ⟨rfl, hf4, h4⟩
    rw [hjo] at h4
    obtain ⟨rfl, hM4⟩ := h4
    refine ⟨rfl, _, hX2.frM hf4 (fun _ _ _ => rfl), hM4, (hO.up hc).de ⟨a4, ?_, fun y hy => ?_, (by show xf e ≤ _; omega), (by show (gD g).2.2.1 + 1 ≤ _; omega), (by show (gD g).2.2.2.1 ≤ _; omega), (by show (gD g).2.2.2.2.1 ≤ _; omega), (by show (gD g).2.2.2.2.2 ≤ _; omega)⟩⟩
    · have := hC.2.2.2
      rw [List.drop_zero] at this
      show (((gD g).1 ++ [e]).map xj).Nodup
      rw [List.map_append, List.map_singleton, a1]
      exact this
    · have hy : y ∈ (gD g).1 ++ [e] := hy
      rw [List.mem_append, List.mem_singleton] at hy
      rcases hy with hy | rfl
      · exact o3 y hy
      · rw [a1]
        exact hj
end FITO
