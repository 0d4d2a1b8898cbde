/-! CHANGES: redo -/
theorem op_redo : Op 112 145 [] := by
  intro g c I J b hc hX hM hO
  have hL : LgC I (gG g) (gU g) := hX.2.1
  have hLm : LgM I (gG g) (gU g) := hM.2.1
  obtain ⟨l1, l2, l3⟩ := hO.2.1
  have n7 := hO.1.1
  refine t_X9_redo (D := 899) I J b (t_X4_doAgain (D := 898) I J b ?_)
  rw [hL.2.1]
  by_cases h0 : (gG g).length - gU g = 0
  · rw [h0]
    refine ifp (by rw [i_0]; exact tle (by omega) (by omega) (by omega)) (RIf.mk (ifp rfl (op_same hc hX hM hO ?_)))
    refine t_X10_redo (D := 899) I J b ?_
    rw [hLm.2.1, h0]
    exact ifn (fun z => z rfl) ⟨rfl, rfl⟩
  · have hg : (gG g)[gU g]? = some (gG g)[gU g] := List.getElem?_eq_getElem (by omega)
    have hch := l3 _ (List.mem_of_getElem? hg)
    generalize hq : (gG g)[gU g] = ch at hg hch
    have hcp := hch.1
    have hchP : chP ch < 47 := by unfold chP; split <;> omega
    have hu1 : iZ (((gG g).length - gU g : Nat) : Int) - (1 : Int32) = iZ (((gG g).length - (gU g + 1) : Nat) : Int) := by
      rw [i_1, iZ_sub]
      congr 1
      omega
    have hnz : ¬ iZ (((gG g).length - gU g : Nat) : Int) = 0 := by
      rw [i_0, iZ_eq (by omega) (by omega) (by omega) (by omega)]
      omega
    obtain ⟨g1, g2, g3⟩ := hL.2.2 _ _ hg
    have hv : vp_in (iZ (gU g : Int)) 40 := vp_iZ (by omega) (by omega) (by omega)
    refine ifn (by rw [i_0]; exact nle (by omega) (by omega) (by omega)) ?_
    rw [hL.1, iZ_ck (by omega), g1, g3]
    have w3 : updI I 20 0 (chP ch) (iZ (ch.2.2.2 : Int)) 4 0 3 = iZ (gU g : Int) := by
      rw [updI_if, if_neg (by omega)]
      exact hL.1
    have w4 : updI I 20 0 (chP ch) (iZ (ch.2.2.2 : Int)) 4 0 4 = iZ (((gG g).length - gU g : Nat) : Int) := by
      rw [updI_if, if_neg (by omega)]
      exact hL.2.1
    refine ifp (by rw [show (40 : Int32) = iZ 40 from rfl]; exact tlt (by omega) (by omega) (by omega)) ⟨hv, hv, (p_write (D := 897) hchP).use ?_⟩
    rw [w3, w4, hu1, iZ_s]
    refine RIf.mk (ifn (by decide) ?_)
    have hBn : BnC (updI (updI (updI I 20 0 (chP ch) (iZ (ch.2.2.2 : Int))) 4 0 3 (iZ ((gU g + 1 : Nat) : Int))) 4 0 4 (iZ (((gG g).length - (gU g + 1) : Nat) : Int))) (gN g) (vPut (gV g) ch.1 ch.2.1 ch.2.2.2) := (hX.1.put (v := ch.2.2.2) hch n7).eq (fun s k z => by rw [updI_if, if_neg (by omega), updI_if, if_neg (by omega)])
    have hLn : LgC (updI (updI (updI I 20 0 (chP ch) (iZ (ch.2.2.2 : Int))) 4 0 3 (iZ ((gU g + 1 : Nat) : Int))) 4 0 4 (iZ (((gG g).length - (gU g + 1) : Nat) : Int))) (gG g) (gU g + 1) := ⟨by rw [updI_if, if_neg (by omega), uI_eq], by rw [uI_eq], fun k x hk => by
      have := hL.2.2 k x hk
      rw [updI_if, if_neg (by omega), updI_if, if_neg (by omega), updI_if, if_neg (by omega), updI_if, if_neg (by omega), updI_if, if_neg (by omega), updI_if, if_neg (by omega), updI_if, if_neg (by omega), updI_if, if_neg (by omega), updI_if, if_neg (by omega)]
      exact this⟩
    have e2 : ∀ s j k, ¬ (s = 20 ∨ s = 4) → updI (updI (updI I 20 0 (chP ch) (iZ (ch.2.2.2 : Int))) 4 0 3 (iZ ((gU g + 1 : Nat) : Int))) 4 0 4 (iZ (((gG g).length - (gU g + 1) : Nat) : Int)) s j k = I s j k := fun s j k z => by
      rw [updI_if, if_neg (by omega), updI_if, if_neg (by omega), updI_if, if_neg (by omega)]
    generalize updI (updI (updI I 20 0 (chP ch) (iZ (ch.2.2.2 : Int))) 4 0 3 (iZ ((gU g + 1 : Nat) : Int))) 4 0 4 (iZ (((gG g).length - (gU g + 1) : Nat) : Int)) = I2 at hBn hLn e2 ⊢
    have hX2 := hX.un hBn hLn e2
    have hM2 : MR g I2 J := hM.eq (fun s k z => e2 s 0 k (by unfold mCe at z; omega)) (fun _ => rfl)
    have hLm2 : LgM I2 (gG g) (gU g) := hM2.2.1
    obtain ⟨m1, m2, m3, m4⟩ := hLm2.2.2 _ _ hg
    rw [hLn.2.1]
    refine RIf.mk (t_X10_redo (D := 899) I2 J b ?_)
    rw [hLm2.2.1]
    refine ifp hnz ?_
    rw [hLm2.1, iZ_ck (by omega), m1, m2, m4]
    refine ⟨hv, hv, hv, ?_⟩
    refine e_lays (D := 898) (ch := ch) (v := ch.2.2.2) (n := gN g) (V := gV g) hM2.bn hch n7 rfl rfl rfl (fun I3 k1 k2 k3 => ?_)
    have h13 : I3 10 0 13 = iZ (gU g : Int) := (k2 _ _ (by omega)).trans hLm2.1
    have h14 : I3 10 0 14 = iZ (((gG g).length - gU g : Nat) : Int) := (k2 _ _ (by omega)).trans hLm2.2.1
    rw [h13, h14, hu1, iZ_s]
    have ho : ∀ s k, ¬ ((s = 10 ∧ ((8 ≤ k ∧ k ≤ 12) ∨ k = 13 ∨ k = 14)) ∨ (43 ≤ s ∧ s ≤ 48)) → updI (updI I3 10 0 13 (iZ ((gU g + 1 : Nat) : Int))) 10 0 14 (iZ (((gG g).length - (gU g + 1) : Nat) : Int)) s 0 k = I2 s 0 k := fun s k z => by
      rw [updI_if, if_neg (by omega), updI_if, if_neg (by omega), k2 _ _ (by omega)]
    exact RIf.mk ⟨rfl, gUn g (vPut (gV g) ch.1 ch.2.1 ch.2.2.2) (gU g + 1), hX2.frM ((k3.upd rfl).upd rfl) (fun _ _ _ => rfl), hM2.un (k1.eq (fun s k z => by rw [updI_if, if_neg (by omega), updI_if, if_neg (by omega)])) ⟨by rw [updI_if, if_neg (by omega), uI_eq], by rw [uI_eq], fun k x hk => ⟨(ho _ _ (by omega)).trans (hLm2.2.2 k x hk).1, (ho _ _ (by omega)).trans (hLm2.2.2 k x hk).2.1, (ho _ _ (by omega)).trans (hLm2.2.2 k x hk).2.2.1, (ho _ _ (by omega)).trans (hLm2.2.2 k x hk).2.2.2⟩⟩ ho, (hO.up hc).un (vPut_ok hO.1 hch hch.2.2) (by omega)⟩
