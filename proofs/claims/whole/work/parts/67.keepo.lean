/-! CHANGES: keep, the op -/
section KEEPO
variable {D : Nat} {g : Sg} {c : Nat} {I : IM} {J : JM} {b : Bool}
theorem keep_in {y : Int32} {n : Nat} (hn : n ≤ 50) : inB y 0 (iZ ((n : Int) - 1)) = true ↔ ∃ v : Nat, v < n ∧ y = iZ (v : Int) := by
  obtain ⟨z, rfl, z1, z2⟩ := iZ_ex y
  have h0 : (0 : Int32).toInt = 0 := rfl
  rw [inB_eq, Bool.and_eq_true, decide_eq_true_eq, decide_eq_true_eq, iZ_toInt z1 z2, iZ_toInt (by omega) (by omega), h0]
  constructor
  · rintro ⟨a, b⟩
    exact ⟨z.toNat, by omega, by congr 1; omega⟩
  · rintro ⟨v, v1, v2⟩
    rw [iZ_eq (by omega) (by omega) (by omega) (by omega)] at v2
    omega
/-- both hold it -/
theorem keep_to {s : Nat} {y : Int32} {q : Sh} {I1 : IM} (hs : s < 6) (hc : c < 512) (hX : XR g I J b) (hM : MR g I J) (hO : SOK g c) (hq : ShC I1 J s q) (e1 : ∀ t j k, ¬ (t = 6 ∧ j = s) → I1 t j k = I t j k) (hqm : sK q ≠ 2) (hy : y = iZ (shH q)) (h1 : ShOK q) (h2 : sK q = 1 → sA q < (gB g).length) (hm : y = -1 ∨ inB y 0 (iZ (((gB g).length : Int) - 1)) = true) : RIf b (fun x I1 J1 => Call 900 238 [vr 10 0, vi (iZ (s : Int)), vi y] (101, I1, J1, R0 b) (RIf b fun x2 I2 J2 => x2 = x ∧ ∃ g', XR g' I2 J2 b ∧ MR g' I2 J2 ∧ SOK g' (c + 1))) (some (vi 1)) (101, I1, J, R0 b) := by
  have hX1 : XR (gSh g s q) I1 J b := hX.sh' hq e1 (fun _ _ _ => rfl)
  have hM1 : MR g I1 J := hM.eq (fun s k z => e1 s 0 k (by unfold mCe at z; omega)) (fun _ => rfl)
  have hTm : BoM I1 (gB g) := hM1.2.2.2.2.2.1
  have hfin : ∀ I2, I2 = updI I1 81 0 s y → XR (gSh g s q) I2 J b ∧ MR (gSh g s q) I2 J ∧ SOK (gSh g s q) (c + 1) := by
    rintro I2 rfl
    refine ⟨hX1.frM (Fr.id.upd rfl) (fun _ _ _ => rfl), hM1.sh' ⟨by rw [uI_eq, hy], fun z => absurd z hqm⟩ (fun t k z1 _ => by rw [updI_if, if_neg (by omega)]) (fun _ _ _ _ => rfl), (hO.up hc).sh' h1 h2⟩
  have hin : inB (iZ (s : Int)) 0 5 = true := by
    rcases (show s = 0 ∨ s = 1 ∨ s = 2 ∨ s = 3 ∨ s = 4 ∨ s = 5 by omega) with rfl | rfl | rfl | rfl | rfl | rfl <;> decide
  refine RIf.mk (t_X10_keep (D := 899) _ _ I1 J b ((p_M_isShelf (D := 897) _).use ?_))
  rw [hin]
  have hv : vp_in (iZ (s : Int)) 6 := vp_iZ (by omega) (by omega) (by omega)
  rw [iZ_ck (by omega)]
  refine ifn (by decide) (ifs (fun c1 => ⟨hv, RIf.mk ⟨rfl, _, hfin _ rfl⟩⟩) (fun c1 => ?_))
  have hm2 := hm.resolve_left c1
  refine (p_isBody (D := 897) hTm.1).use ?_
  rw [hm2]
  exact ifp (by decide) ⟨hv, RIf.mk ⟨rfl, _, hfin _ rfl⟩⟩
theorem op_keep (x y : Int32) : Op 116 238 [vi x, vi y] := by
  intro g c I J b hc hX hM hO
  have hT : BoC I (gB g) := hX.2.2.2.2.2.1
  have hTm : BoM I (gB g) := hM.2.2.2.2.2.1
  obtain ⟨l1, l2⟩ := hO.2.2.2.2.1
  refine t_X9_keep (D := 899) _ _ I J b ((p_X_isShelf (D := 898) x).use ?_)
  cases hx : inB x 0 5
  · refine ifp rfl (op_same hc hX hM hO ?_)
    refine t_X10_keep (D := 899) _ _ I J b ((p_M_isShelf (D := 897) x).use ?_)
    rw [hx]
    exact ifp rfl ⟨rfl, rfl⟩
  refine ifn (by decide) ?_
  obtain ⟨s, hs, rfl⟩ := in05x hx
  have hbad : ¬ y = -1 → inB y 0 (iZ (((gB g).length : Int) - 1)) = false → Pu 900 238 [vr 10 0, vi (iZ (s : Int)), vi y] I J b (-1) := fun z1 z2 => by
    refine t_X10_keep (D := 899) _ _ I J b ((p_M_isShelf (D := 897) _).use ?_)
    rw [hx]
    refine ifn (by decide) (ifn z1 ((p_isBody (D := 897) hTm.1).use ?_))
    rw [z2]
    exact ifn (fun z => z rfl) ⟨rfl, rfl⟩
  have hki := keep_in (y := y) l1
  obtain ⟨z, rfl, z1, z2⟩ := iZ_ex y
  have hv : vp_in (iZ (s : Int)) 6 := vp_iZ (by omega) (by omega) (by omega)
  have hm1 : (-1 : Int32) = iZ (-1) := rfl
  rw [hT.1, iZ_ck (by omega)]
  have hnot : ¬ (0 ≤ z ∧ z < (gB g).length) → inB (iZ z) 0 (iZ (((gB g).length : Int) - 1)) = false := fun h => by
    cases hb : inB (iZ z) 0 (iZ (((gB g).length : Int) - 1))
    · rfl
    · obtain ⟨v, v1, v2⟩ := hki.mp hb
      rw [iZ_eq (by omega) (by omega) (by omega) (by omega)] at v2
      omega
  refine ifs (fun c1 => ?_) (fun c1 => ?_)
  · rw [hm1, iZ_lt (by omega) (by omega) (by omega) (by omega)] at c1
    exact op_same hc hX hM hO (hbad (by rw [hm1, iZ_eq (by omega) (by omega) (by omega) (by omega)]; omega) (hnot (by omega)))
  · rw [hm1, iZ_lt (by omega) (by omega) (by omega) (by omega)] at c1
    refine ifs (fun c2 => ?_) (fun c2 => ?_)
    · rw [iZ_lt (by omega) (by omega) (by omega) (by omega)] at c2
      refine ifs (fun c3 => ⟨hv, ?_⟩) (fun c3 => ⟨hv, ?_⟩)
      · rw [i_0] at c3
        have c3 := (tle' (by omega) (by omega) (by omega) (by omega)).mp c3
        obtain ⟨v, rfl⟩ : ∃ v : Nat, z = (v : Int) := ⟨z.toNat, by omega⟩
        refine t_X6_holdBody (D := 898) s _ I J b (RVf.mk ?_)
        refine keep_to (q := (1, v, 0, fun _ => 0)) hs hc hX hM hO ⟨?_, fun _ => uI_eq, fun z => (by cases z)⟩ (fun t j k z => ?_) (show ¬ (1 : Nat) = 2 by decide) ?_ ⟨(show (1 : Nat) ≤ 2 by decide), fun _ => (by show v < 50; omega), fun z => (by cases z)⟩ (fun _ => (by show v < _; omega)) (Or.inr (hki.mpr ⟨v, by omega, rfl⟩))
        · rw [updI_if, if_neg (by omega), uI_eq]
          rfl
        · rw [updI_if, if_neg (by omega), updI_if, if_neg (by omega)]
        · rfl
      · rw [i_0] at c3
        have d3 : z = -1 := by
          have : ¬ 0 ≤ z := fun y => c3 (tle (by omega) (by omega) y)
          omega
        subst d3
        refine t_X6_holdNothing (D := 898) s I J b (RVf.mk ?_)
        refine keep_to (q := (0, 0, 0, fun _ => 0)) hs hc hX hM hO ⟨?_, fun z => (by cases z), fun z => (by cases z)⟩ (fun t j k z => ?_) (show ¬ (0 : Nat) = 2 by decide) rfl ⟨(show (0 : Nat) ≤ 2 by decide), fun z => (by cases z), fun z => (by cases z)⟩ (fun z => (by cases z)) (Or.inl rfl)
        · rw [uI_eq]
          rfl
        · rw [updI_if, if_neg (by omega)]
    · rw [iZ_lt (by omega) (by omega) (by omega) (by omega)] at c2
      exact op_same hc hX hM hO (hbad (by rw [hm1, iZ_eq (by omega) (by omega) (by omega) (by omega)]; omega) (hnot (by omega)))
end KEEPO
