/-! CHANGES: body; trace -/
def gBo (g : Sg) (T : List Nat) : Sg := (g.1, g.2.1, g.2.2.1, g.2.2.2.1, g.2.2.2.2.1, g.2.2.2.2.2.1, T, g.2.2.2.2.2.2.2)
section BODY
variable {D : Nat} {g : Sg} {c : Nat} {I : IM} {J : JM} {b : Bool}
theorem XR.bo {I' : IM} {T : List Nat} (h : XR g I J b) (hT : BoC I' T) (e : ∀ s j k, ¬ ((s = 0 ∧ k = 4) ∨ s = 38) → I' s j k = I s j k) : XR (gBo g T) I' J b := by
  obtain ⟨h1, h2, h3, h4, h5, h6, h7, h8, h9, h10, h11, h12⟩ := h
  have hcs : cs b = 27 ∨ cs b = 28 := by cases b <;> decide
  exact ⟨h1.eq (fun s k z => e _ _ _ (by omega)), h2.eq (fun s k z => e _ _ _ (by omega)), h3.eq (fun s k z => e _ _ _ (by omega)), h4.eq (fun s k z => e _ _ _ (by omega)), fun s hs => (h5 s hs).eq (fun k => e _ _ _ (by omega)) (fun _ => rfl), hT, h7.eq (fun s k z => e _ _ _ (by omega)), h8.eq (fun s k z => e _ _ _ (by omega)) (fun k => e _ _ _ (by omega)), (e _ _ _ (by omega)).trans h9, h10.fr (e _ _ _ (by omega)), h11.fr (e _ _ _ (by omega)), fun d hd => (h12 d hd).eq (fun s k z => e _ _ _ (by omega)) (fun k => e _ _ _ (by omega))⟩
theorem MR.bo {I' : IM} {T : List Nat} (h : MR g I J) (hT : BoM I' T) (e : ∀ s k, ¬ ((s = 10 ∧ k = 72) ∨ s = 79) → mCe s k → I' s 0 k = I s 0 k) : MR (gBo g T) I' J := by
  obtain ⟨h1, h2, h3, h4, h5, h6, h7, h8, ⟨h9, h10⟩, h11, h12⟩ := h
  exact ⟨h1.eq (fun s k z => e _ _ (by omega) (by unfold mCe; omega)), h2.eq (fun s k z => e _ _ (by omega) (by unfold mCe; omega)), h3.eq (fun s k z => e _ _ (by omega) (by unfold mCe; omega)), h4.eq (fun s k z => e _ _ (by omega) (by unfold mCe; omega)), fun s hs => (h5 s hs).eq (fun t k z => e _ _ (by omega) (by unfold mCe; omega)) (fun _ => rfl), hT, h7.eq (fun s k z => e _ _ (by omega) (by unfold mCe; omega)), h8.eq (fun s k z => e _ _ (by omega) (by unfold mCe; omega)), ⟨(e _ _ (by omega) (by unfold mCe; omega)).trans h9, fun d hd => (h10 d hd).eq (fun s k z => e _ _ (by omega) (by unfold mCe; omega))⟩, (e _ _ (by omega) (by unfold mCe; omega)).trans h11, (e _ _ (by omega) (by unfold mCe; omega)).trans h12⟩
theorem SOK.bo {T : List Nat} (h : SOK g c) (h1 : T.length ≤ 50) (h2 : ∀ x ∈ T, x < 8) (h3 : (gB g).length ≤ T.length) : SOK (gBo g T) c := by
  obtain ⟨k1, k2, k3, k4, k5, k6⟩ := h
  exact ⟨k1, k2, k3, fun s hs => ⟨(k4 s hs).1, fun z => Nat.lt_of_lt_of_le ((k4 s hs).2 z) h3⟩, ⟨h1, h2⟩, k6⟩
theorem p_isKind {x : Int32} : Pu (D + 1) 1 [vi x] I J b (bI (inB x 0 7)) := by
  refine t_X0_isKind _ I J b (ifs (fun c1 => ⟨?_, rfl⟩) (fun c1 => ifs (fun c2 => ⟨?_, rfl⟩) (fun c2 => ⟨?_, rfl⟩)))
  · have : inB x 0 7 = false := by
      unfold inB
      rw [decide_eq_false (by rw [le_i]; rw [lt_i] at c1; omega)]
      rfl
    rw [this]
    rfl
  · have : inB x 0 7 = false := by
      unfold inB
      rw [decide_eq_false (p := x ≤ 7) (by rw [le_i] at c2 ⊢; have h8 : (8 : Int32).toInt = 8 := rfl; have h7 : (7 : Int32).toInt = 7 := rfl; omega), Bool.and_false]
    rw [this]
    rfl
  · have : inB x 0 7 = true := by
      unfold inB
      rw [decide_eq_true (by rw [le_i]; rw [lt_i] at c1; omega), decide_eq_true (p := x ≤ 7) (by rw [le_i] at c2 ⊢; have h8 : (8 : Int32).toInt = 8 := rfl; have h7 : (7 : Int32).toInt = 7 := rfl; omega)]
      rfl
    rw [this]
    rfl
theorem op_body (x : Int32) : Op 113 222 [vi x] := by
  intro g c I J b hc hX hM hO
  have hT : BoC I (gB g) := hX.2.2.2.2.2.1
  have hTm : BoM I (gB g) := hM.2.2.2.2.2.1
  obtain ⟨l1, l2⟩ := hO.2.2.2.2.1
  refine t_X9_body (D := 899) _ I J b ((p_isKind (D := 898)).use ?_)
  cases hin : inB x 0 7
  · refine ifn (fun z => z rfl) (op_same hc hX hM hO ?_)
    refine t_X10_body (D := 899) _ I J b ((p_M_in (D := 898) x 0 7).use ?_)
    rw [hin]
    exact ifn (fun z => z rfl) ⟨rfl, rfl⟩
  · refine ifp (by decide) ?_
    obtain ⟨a, a1, a2, rfl⟩ := inB_ex (l := 0) (h := 7) rfl rfl (by omega) (by omega) hin
    refine t_X0_add (D := 898) _ I J b ?_
    rw [hT.1]
    have hlast : iZ (((gB g).length + 1 : Nat) : Int) - (1 : Int32) = iZ ((gB g).length : Int) := by
      rw [i_1, iZ_sub]
      congr 1
      omega
    refine ifs (fun c3 => ?_) (fun c3 => ?_)
    · rw [show (50 : Int32) = iZ 50 from rfl, iZ_lt (by omega) (by omega) (by omega) (by omega)] at c3
      rw [iZ_ck (by omega), iZ_s]
      refine ⟨vp_iZ (by omega) (by omega) (by omega), RIf.mk (ifn (by decide) ?_)⟩
      have hT2 : BoC (updI (updI I 38 0 (gB g).length (iZ (a : Int))) 0 0 4 (iZ (((gB g).length + 1 : Nat) : Int))) (gB g ++ [a]) := by
        refine ⟨by rw [uI_eq]; simp, fun k y hk => ?_⟩
        rw [updI_if, if_neg (by omega)]
        rcases snoc_at hk with ⟨h1, h2⟩ | ⟨h1, h2⟩
        · rw [updI_if, if_neg (by omega)]
          exact hT.2 k y h1
        · subst h1 h2
          exact uI_eq
      have e2 : ∀ s j k, ¬ ((s = 0 ∧ k = 4) ∨ s = 38) → updI (updI I 38 0 (gB g).length (iZ (a : Int))) 0 0 4 (iZ (((gB g).length + 1 : Nat) : Int)) s j k = I s j k := fun s j k z => by
        rw [updI_if, if_neg (by omega), updI_if, if_neg (by omega)]
      have e10 : updI (updI I 38 0 (gB g).length (iZ (a : Int))) 0 0 4 (iZ (((gB g).length + 1 : Nat) : Int)) 0 0 4 = iZ (((gB g).length + 1 : Nat) : Int) := uI_eq
      generalize updI (updI I 38 0 (gB g).length (iZ (a : Int))) 0 0 4 (iZ (((gB g).length + 1 : Nat) : Int)) = I2 at hT2 e2 e10 ⊢
      rw [e10, hlast]
      have hX2 := hX.bo hT2 e2
      have hM2 : MR g I2 J := hM.eq (fun s k z => e2 s 0 k (by unfold mCe at z; omega)) (fun _ => rfl)
      have hTm2 : BoM I2 (gB g) := hM2.2.2.2.2.2.1
      refine RIf.mk (t_X10_body (D := 899) _ I2 J b ((p_M_in (D := 898) _ 0 7).use ?_))
      rw [hin]
      refine ifp (by decide) ?_
      rw [hTm2.1]
      refine ifp (by rw [show (50 : Int32) = iZ 50 from rfl, iZ_eq (by omega) (by omega) (by omega) (by omega)]; omega) ?_
      rw [iZ_ck (by omega), iZ_s, hlast]
      refine ⟨vp_iZ (by omega) (by omega) (by omega), RIf.mk ⟨rfl, gBo g (gB g ++ [a]), hX2.frM ((Fr.id.upd rfl).upd rfl) (fun _ _ _ => rfl), hM2.bo ⟨by rw [uI_eq]; simp, fun k y hk => ?_⟩ (fun s k z _ => by rw [updI_if, if_neg (by omega), updI_if, if_neg (by omega)]), (hO.up hc).bo (by simp; omega) (fun y hy => ?_) (by simp)⟩⟩
      · rw [updI_if, if_neg (by omega)]
        rcases snoc_at hk with ⟨h1, h2⟩ | ⟨h1, h2⟩
        · rw [updI_if, if_neg (by omega)]
          exact hTm2.2 k y h1
        · subst h1 h2
          exact uI_eq
      · rcases List.mem_append.mp hy with hy | hy
        · exact l2 y hy
        · have : y = a := by simpa using hy
          omega
    · rw [show (50 : Int32) = iZ 50 from rfl, iZ_lt (by omega) (by omega) (by omega) (by omega)] at c3
      refine RIf.mk (ifp rfl (op_same hc hX hM hO ?_))
      refine t_X10_body (D := 899) _ I J b ((p_M_in (D := 898) _ 0 7).use ?_)
      rw [hin]
      refine ifp (by decide) ?_
      rw [hTm.1]
      exact ifn (fun z => z (by rw [show (gB g).length = 50 by omega]; rfl)) ⟨rfl, rfl⟩
end BODY
