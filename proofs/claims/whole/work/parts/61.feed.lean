/-! CHANGES: feed -/
def gTp (g : Sg) (T : List Nat) : Sg := (g.1, g.2.1, g.2.2.1, T, g.2.2.2.2)
section FEED
variable {D : Nat} {g : Sg} {c : Nat} {I : IM} {J : JM} {b : Bool}
theorem XR.tp {I' : IM} {T : List Nat} (h : XR g I J b) (hT : TpC I' T) (e : ∀ s j k, ¬ ((s = 3 ∧ k = 10) ∨ s = 24) → I' s j k = I s j k) : XR (gTp g T) I' J b := by
  obtain ⟨h1, h2, h3, h4, h5, h6, h7, h8, h9, h10, h11, h12⟩ := h
  have hcs : cs b = 27 ∨ cs b = 28 := by cases b <;> decide
  exact ⟨h1.eq (fun s k z => e _ _ _ (by omega)), h2.eq (fun s k z => e _ _ _ (by omega)), hT, h4.eq (fun s k z => e _ _ _ (by omega)), fun s hs => (h5 s hs).eq (fun k => e _ _ _ (by omega)) (fun _ => rfl), h6.eq (fun s k z => e _ _ _ (by omega)), h7.eq (fun s k z => e _ _ _ (by omega)), h8.eq (fun s k z => e _ _ _ (by omega)) (fun k => e _ _ _ (by omega)), (e _ _ _ (by omega)).trans h9, h10.fr (e _ _ _ (by omega)), h11.fr (e _ _ _ (by omega)), fun d hd => (h12 d hd).eq (fun s k z => e _ _ _ (by omega)) (fun k => e _ _ _ (by omega))⟩
theorem MR.tp {I' : IM} {T : List Nat} (h : MR g I J) (hT : TpM I' T) (e : ∀ s k, ¬ ((s = 10 ∧ k = 20) ∨ s = 53) → mCe s k → I' s 0 k = I s 0 k) : MR (gTp g T) I' J := by
  obtain ⟨h1, h2, h3, h4, h5, h6, h7, h8, ⟨h9, h10⟩, h11, h12⟩ := h
  exact ⟨h1.eq (fun s k z => e _ _ (by omega) (by unfold mCe; omega)), h2.eq (fun s k z => e _ _ (by omega) (by unfold mCe; omega)), hT, h4.eq (fun s k z => e _ _ (by omega) (by unfold mCe; omega)), fun s hs => (h5 s hs).eq (fun t k z => e _ _ (by omega) (by unfold mCe; omega)) (fun _ => rfl), h6.eq (fun s k z => e _ _ (by omega) (by unfold mCe; omega)), h7.eq (fun s k z => e _ _ (by omega) (by unfold mCe; omega)), h8.eq (fun s k z => e _ _ (by omega) (by unfold mCe; omega)), ⟨(e _ _ (by omega) (by unfold mCe; omega)).trans h9, fun d hd => (h10 d hd).eq (fun s k z => e _ _ (by omega) (by unfold mCe; omega))⟩, (e _ _ (by omega) (by unfold mCe; omega)).trans h11, (e _ _ (by omega) (by unfold mCe; omega)).trans h12⟩
theorem SOK.tp {T : List Nat} (h : SOK g c) (h1 : T.length ≤ 120) (h2 : ∀ x ∈ T, x ≤ 255) : SOK (gTp g T) c := by
  obtain ⟨k1, k2, _, k4⟩ := h
  exact ⟨k1, k2, ⟨h1, h2⟩, k4⟩
theorem op_feed (x : Int32) : Op 84 150 [vi x] := by
  intro g c I J b hc hX hM hO
  have hT : TpC I (gT g) := hX.2.2.1
  have hTm : TpM I (gT g) := hM.2.2.1
  obtain ⟨l1, l2⟩ := hO.2.2.1
  refine t_X9_feed (D := 899) _ I J b ?_
  have hbad : inB x 0 255 = false → Pu 900 150 [vr 10 0, vi x] I J b (-1) := fun hz => by
    refine t_X10_feed (D := 899) _ I J b ((p_M_in (D := 898) x 0 255).use ?_)
    rw [hz]
    exact ifn (fun z => z rfl) ⟨rfl, rfl⟩
  refine ifs (fun c1 => op_same hc hX hM hO (hbad ?_)) (fun c1 => ifs (fun c2 => ?_) (fun c2 => op_same hc hX hM hO (hbad ?_)))
  · unfold inB
    rw [decide_eq_false (by rw [le_i]; rw [lt_i] at c1; omega)]
    rfl
  · have hin : inB x 0 255 = true := by
      unfold inB
      rw [decide_eq_true (by rw [le_i]; rw [lt_i] at c1; omega), decide_eq_true c2]
      rfl
    obtain ⟨a, a1, a2, rfl⟩ := inB_ex (l := 0) (h := 255) rfl rfl (by omega) (by omega) hin
    refine t_X3_add (D := 898) _ I J b ?_
    rw [hT.1]
    refine ifs (fun c3 => ?_) (fun c3 => ?_)
    · rw [show (120 : Int32) = iZ 120 from rfl, iZ_lt (by omega) (by omega) (by omega) (by omega)] at c3
      rw [iZ_ck (by omega), iZ_s]
      refine ⟨vp_iZ (by omega) (by omega) (by omega), RIf.mk (ifn (by decide) ?_)⟩
      have hT2 : TpC (updI (updI I 24 0 (gT g).length (iZ (a : Int))) 3 0 10 (iZ (((gT g).length + 1 : Nat) : Int))) (gT g ++ [a]) := by
        refine ⟨by rw [uI_eq]; simp, fun k y hk => ?_⟩
        rw [updI_if, if_neg (by omega)]
        rcases snoc_at hk with ⟨h1, h2⟩ | ⟨h1, h2⟩
        · rw [updI_if, if_neg (by omega)]
          exact hT.2 k y h1
        · subst h1 h2
          exact uI_eq
      have e2 : ∀ s j k, ¬ ((s = 3 ∧ k = 10) ∨ s = 24) → updI (updI I 24 0 (gT g).length (iZ (a : Int))) 3 0 10 (iZ (((gT g).length + 1 : Nat) : Int)) s j k = I s j k := fun s j k z => by
        rw [updI_if, if_neg (by omega), updI_if, if_neg (by omega)]
      have e10 : updI (updI I 24 0 (gT g).length (iZ (a : Int))) 3 0 10 (iZ (((gT g).length + 1 : Nat) : Int)) 3 0 10 = iZ (((gT g).length + 1 : Nat) : Int) := uI_eq
      generalize updI (updI I 24 0 (gT g).length (iZ (a : Int))) 3 0 10 (iZ (((gT g).length + 1 : Nat) : Int)) = I2 at hT2 e2 e10 ⊢
      rw [e10]
      have hX2 := hX.tp hT2 e2
      have hM2 : MR g I2 J := hM.eq (fun s k z => e2 s 0 k (by unfold mCe at z; omega)) (fun _ => rfl)
      have hTm2 : TpM I2 (gT g) := hM2.2.2.1
      refine RIf.mk (t_X10_feed (D := 899) _ I2 J b ((p_M_in (D := 898) _ 0 255).use ?_))
      rw [hin]
      refine ifp (by decide) ?_
      rw [hTm2.1]
      refine ifp (by rw [show (120 : Int32) = iZ 120 from rfl, iZ_eq (by omega) (by omega) (by omega) (by omega)]; omega) ?_
      rw [iZ_ck (by omega), iZ_s]
      refine ⟨vp_iZ (by omega) (by omega) (by omega), RIf.mk ⟨rfl, gTp g (gT g ++ [a]), hX2.frM ((Fr.id.upd rfl).upd rfl) (fun _ _ _ => rfl), hM2.tp ⟨by rw [uI_eq]; simp, fun k y hk => ?_⟩ (fun s k z _ => by rw [updI_if, if_neg (by omega), updI_if, if_neg (by omega)]), (hO.up hc).tp (by simp; omega) (fun y hy => ?_)⟩⟩
      · rw [updI_if, if_neg (by omega)]
        rcases snoc_at hk with ⟨h1, h2⟩ | ⟨h1, h2⟩
        · rw [updI_if, if_neg (by omega)]
          exact hTm2.2 k y h1
        · subst h1 h2
          rw [uI_eq]
          simp
      · rcases List.mem_append.mp hy with hy | hy
        · exact l2 y hy
        · have : y = a := by simpa using hy
          omega
    · rw [show (120 : Int32) = iZ 120 from rfl, iZ_lt (by omega) (by omega) (by omega) (by omega)] at c3
      refine RIf.mk (ifp rfl (op_same hc hX hM hO ?_))
      refine t_X10_feed (D := 899) _ I J b ((p_M_in (D := 898) _ 0 255).use ?_)
      rw [hin]
      refine ifp (by decide) ?_
      rw [hTm.1]
      exact ifn (fun z => z (by rw [show (gT g).length = 120 by omega]; rfl)) ⟨rfl, rfl⟩
  · unfold inB
    rw [decide_eq_false c2, Bool.and_false]
end FEED
