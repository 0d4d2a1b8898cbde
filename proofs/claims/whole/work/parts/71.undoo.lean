/-! CHANGES: undo, the op -/
def gUn (g : Sg) (V : Nat → Nat → Nat) (u : Nat) : Sg := (g.1, V, (g.2.2.1.1, u), g.2.2.2)
theorem vPut_ok {n : Nat} {V : Nat → Nat → Nat} {ch : Ch} {v : Nat} (h : BnOK n V) (hc : chOK n ch) (hm : maybe ch.1 ch.2.1 v) : BnOK n (vPut V ch.1 ch.2.1 v) := by
  obtain ⟨h1, h2, h3, h4, h5, h6, h7, h8⟩ := h
  have hcp := hc.1
  obtain ⟨q, j, x, y⟩ := ch
  dsimp only at hcp hm ⊢
  unfold maybe at hm
  unfold vPut
  refine ⟨h1, fun i hi => ?_, ?_, ?_, ?_, ?_, ?_, fun i hi => ?_⟩
  · have := h2 i hi
    refine ⟨?_, ?_, ?_, ?_, ?_, ?_⟩ <;> dsimp only <;> split <;> omega
  · dsimp only; split <;> omega
  · dsimp only; split <;> omega
  · dsimp only; split <;> omega
  · dsimp only; split <;> omega
  · dsimp only; split <;> omega
  · have := h8 i hi
    refine ⟨?_, ?_⟩ <;> dsimp only <;> split <;> omega
section UNDOO
variable {D : Nat} {g : Sg} {c : Nat} {I : IM} {J : JM} {b : Bool}
theorem XR.un {I' : IM} {V : Nat → Nat → Nat} {u : Nat} (h : XR g I J b) (hB : BnC I' (gN g) V) (hL : LgC I' (gG g) u) (e : ∀ s j k, ¬ (s = 20 ∨ s = 4) → I' s j k = I s j k) : XR (gUn g V u) I' J b := by
  obtain ⟨h1, h2, h3, h4, h5, h6, h7, h8, h9, h10, h11, h12⟩ := h
  have hcs : cs b = 27 ∨ cs b = 28 := by cases b <;> decide
  exact ⟨hB, hL, h3.eq (fun s k z => e _ _ _ (by omega)), h4.eq (fun s k z => e _ _ _ (by omega)), fun s hs => (h5 s hs).eq (fun k => e _ _ _ (by omega)) (fun _ => rfl), h6.eq (fun s k z => e _ _ _ (by omega)), h7.eq (fun s k z => e _ _ _ (by omega)), h8.eq (fun s k z => e _ _ _ (by omega)) (fun k => e _ _ _ (by omega)), (e _ _ _ (by omega)).trans h9, h10.fr (e _ _ _ (by omega)), h11.fr (e _ _ _ (by omega)), fun d hd => (h12 d hd).eq (fun s k z => e _ _ _ (by omega)) (fun k => e _ _ _ (by omega))⟩
theorem MR.un {I' : IM} {V : Nat → Nat → Nat} {u : Nat} (h : MR g I J) (hB : BnM I' (gN g) V) (hL : LgM I' (gG g) u) (e : ∀ s k, ¬ ((s = 10 ∧ ((8 ≤ k ∧ k ≤ 12) ∨ k = 13 ∨ k = 14)) ∨ (43 ≤ s ∧ s ≤ 48)) → I' s 0 k = I s 0 k) : MR (gUn g V u) I' J := by
  obtain ⟨h1, h2, h3, h4, h5, h6, h7, h8, ⟨h9, h10⟩, h11, h12⟩ := h
  exact ⟨hB, hL, h3.eq (fun s k z => e _ _ (by omega)), h4.eq (fun s k z => e _ _ (by omega)), fun s hs => (h5 s hs).eq (fun t k z => e _ _ (by omega)) (fun _ => rfl), h6.eq (fun s k z => e _ _ (by omega)), h7.eq (fun s k z => e _ _ (by omega)), h8.eq (fun s k z => e _ _ (by omega)), ⟨(e _ _ (by omega)).trans h9, fun d hd => (h10 d hd).eq (fun s k z => e _ _ (by omega))⟩, (e _ _ (by omega)).trans h11, (e _ _ (by omega)).trans h12⟩
theorem SOK.un {V : Nat → Nat → Nat} {u : Nat} (h : SOK g c) (hB : BnOK (gN g) V) (hu : u ≤ (gG g).length) : SOK (gUn g V u) c := by
  obtain ⟨k1, k2, k3⟩ := h
  exact ⟨hB, ⟨k2.1, hu, k2.2.2⟩, k3⟩
theorem op_undo : Op 111 144 [] := by
  intro g c I J b hc hX hM hO
  have hL : LgC I (gG g) (gU g) := hX.2.1
  have hLm : LgM I (gG g) (gU g) := hM.2.1
  obtain ⟨l1, l2, l3⟩ := hO.2.1
  have n7 := hO.1.1
  refine t_X9_undo (D := 899) I J b (t_X4_takeBack (D := 898) I J b ?_)
  rw [hL.1]
  by_cases h0 : gU g = 0
  · rw [h0]
    refine ifn (by rw [i_0]; exact nlt (by omega) (by omega) (by omega)) (RIf.mk (ifp rfl (op_same hc hX hM hO ?_)))
    refine t_X10_undo (D := 899) I J b ?_
    rw [hLm.1, h0]
    exact ifn (fun z => z rfl) ⟨rfl, rfl⟩
  · have hg : (gG g)[gU g - 1]? = some (gG g)[gU g - 1] := List.getElem?_eq_getElem (by omega)
    have hch := l3 _ (List.mem_of_getElem? hg)
    generalize hq : (gG g)[gU g - 1] = ch at hg hch
    have hcp := hch.1
    have hchP : chP ch < 47 := by unfold chP; split <;> omega
    have hu1 : iZ (gU g : Int) - (1 : Int32) = iZ ((gU g - 1 : Nat) : Int) := by
      rw [i_1, iZ_sub]
      congr 1
      omega
    have hnz : ¬ iZ (gU g : Int) = 0 := by
      rw [i_0, iZ_eq (by omega) (by omega) (by omega) (by omega)]
      omega
    obtain ⟨g1, g2, g3⟩ := hL.2.2 _ _ hg
    have hv : vp_in (iZ ((gU g - 1 : Nat) : Int)) 40 := vp_iZ (by omega) (by omega) (by omega)
    have hlen : iZ (((gG g).length - gU g : Nat) : Int) + (1 : Int32) = iZ (((gG g).length - (gU g - 1) : Nat) : Int) := by
      rw [iZ_s]
      congr 2
      omega
    refine ifp (by rw [i_0]; exact tlt (by omega) (by omega) (by omega)) ?_
    rw [hu1, iZ_ck (by omega), g1, g2, hL.2.1, hlen]
    refine ⟨hv, hv, (p_write (D := 897) hchP).use (RIf.mk (ifn (by decide) ?_))⟩
    have hBn := (hX.1.eq (I' := updI (updI I 4 0 3 (iZ ((gU g - 1 : Nat) : Int))) 4 0 4 (iZ (((gG g).length - (gU g - 1) : Nat) : Int))) (fun s k z => by rw [updI_if, if_neg (by omega), updI_if, if_neg (by omega)])).put (v := ch.2.2.1) hch n7
    have hLn : LgC (updI (updI (updI I 4 0 3 (iZ ((gU g - 1 : Nat) : Int))) 4 0 4 (iZ (((gG g).length - (gU g - 1) : Nat) : Int))) 20 0 (chP ch) (iZ (ch.2.2.1 : Int))) (gG g) (gU g - 1) := ⟨by rw [updI_if, if_neg (by omega), updI_if, if_neg (by omega), uI_eq], by rw [updI_if, if_neg (by omega), uI_eq], fun k x hk => by
      have := hL.2.2 k x hk
      rw [updI_if, if_neg (by omega), updI_if, if_neg (by omega), updI_if, if_neg (by omega), updI_if, if_neg (by omega), updI_if, if_neg (by omega), updI_if, if_neg (by omega), updI_if, if_neg (by omega), updI_if, if_neg (by omega), updI_if, if_neg (by omega)]
      exact this⟩
    have e2 : ∀ s j k, ¬ (s = 20 ∨ s = 4) → updI (updI (updI I 4 0 3 (iZ ((gU g - 1 : Nat) : Int))) 4 0 4 (iZ (((gG g).length - (gU g - 1) : Nat) : Int))) 20 0 (chP ch) (iZ (ch.2.2.1 : Int)) s j k = I s j k := fun s j k z => by
      rw [updI_if, if_neg (by omega), updI_if, if_neg (by omega), updI_if, if_neg (by omega)]
    generalize updI (updI (updI I 4 0 3 (iZ ((gU g - 1 : Nat) : Int))) 4 0 4 (iZ (((gG g).length - (gU g - 1) : Nat) : Int))) 20 0 (chP ch) (iZ (ch.2.2.1 : Int)) = I2 at hBn hLn e2 ⊢
    have hX2 := hX.un hBn hLn e2
    have hM2 : MR g I2 J := hM.eq (fun s k z => e2 s 0 k (by unfold mCe at z; omega)) (fun _ => rfl)
    have hLm2 : LgM I2 (gG g) (gU g) := hM2.2.1
    obtain ⟨m1, m2, m3, m4⟩ := hLm2.2.2 _ _ hg
    rw [hLn.1]
    refine RIf.mk (t_X10_undo (D := 899) I2 J b ?_)
    rw [hLm2.1]
    refine ifp hnz ?_
    rw [hu1, iZ_ck (by omega), m1, m2, m3, hLm2.2.1, hlen]
    refine ⟨hv, hv, hv, ?_⟩
    refine e_lays (D := 898) (ch := ch) (v := ch.2.2.1) (n := gN g) (V := gV g) (hM2.bn.eq (fun s k z => by rw [updI_if, if_neg (by omega), updI_if, if_neg (by omega)])) hch n7 rfl rfl rfl (fun I3 k1 k2 k3 => ?_)
    have h13 : I3 10 0 13 = iZ ((gU g - 1 : Nat) : Int) := by
      rw [k2 _ _ (by omega), updI_if, if_neg (by omega), uI_eq]
    rw [h13]
    have ho : ∀ s k, ¬ ((s = 10 ∧ ((8 ≤ k ∧ k ≤ 12) ∨ k = 13 ∨ k = 14)) ∨ (43 ≤ s ∧ s ≤ 48)) → I3 s 0 k = I2 s 0 k := fun s k z => by
      rw [k2 _ _ (by omega), updI_if, if_neg (by omega), updI_if, if_neg (by omega)]
    exact RIf.mk ⟨rfl, gUn g (vPut (gV g) ch.1 ch.2.1 ch.2.2.1) (gU g - 1), hX2.frM (((Fr.id.upd rfl).upd rfl).tr k3) (fun _ _ _ => rfl), hM2.un k1 ⟨h13, by rw [k2 _ _ (by omega), uI_eq], fun k x hk => ⟨(ho _ _ (by omega)).trans (hLm2.2.2 k x hk).1, (ho _ _ (by omega)).trans (hLm2.2.2 k x hk).2.1, (ho _ _ (by omega)).trans (hLm2.2.2 k x hk).2.2.1, (ho _ _ (by omega)).trans (hLm2.2.2 k x hk).2.2.2⟩⟩ ho, (hO.up hc).un (vPut_ok hO.1 hch hch.2.1) (by omega)⟩
end UNDOO
