/-! CHANGES: joint -/
section JOINT
variable {D n : Nat} {V : Nat → Nat → Nat} {g : Sg} {c : Nat} {I : IM} {J : JM} {b : Bool}
theorem inB_ex {x : Int32} {l h : Nat} {xl xh : Int32} (hl : xl = iZ (l : Int)) (hh : xh = iZ (h : Int)) (h7 : h < 2147483648) (hlh : l ≤ h) (hin : inB x xl xh = true) : ∃ a : Nat, l ≤ a ∧ a ≤ h ∧ x = iZ (a : Int) := by
  subst hl
  subst hh
  rw [inB_eq, Bool.and_eq_true, decide_eq_true_eq, decide_eq_true_eq, iZ_toInt (by omega) (by omega), iZ_toInt (by omega) (by omega)] at hin
  obtain ⟨v, v1, rfl⟩ := nn_ex (x := x) (by
    rw [lt_i]
    have : (0 : Int32).toInt = 0 := rfl
    omega)
  rw [iZ_toInt (by omega) (by omega)] at hin
  exact ⟨v, by omega, by omega, rfl⟩
theorem in_ifs {x lo hi : Int32} {A B : Int32 → Prop} (hy : inB x lo hi = true → B 1) (hn : inB x lo hi = false → B 0) : (if x < lo then B 0 else if x ≤ hi then B 1 else B 0) := by
  refine ifs (fun c1 => hn ?_) (fun c1 => ifs (fun c2 => hy ?_) (fun c2 => hn ?_))
  · unfold inB
    rw [decide_eq_false (by rw [le_i]; rw [lt_i] at c1; omega)]
    rfl
  · unfold inB
    rw [decide_eq_true (by rw [le_i]; rw [lt_i] at c1; omega), decide_eq_true c2]
    rfl
  · unfold inB
    rw [decide_eq_false c2, Bool.and_false]
theorem p_may0 (x : Int32) : Pu (D + 1) 10 [vr 1 0, vi 0, vi 0, vi x] I J b (bI (inB x 1 9)) := by
  refine t_X1_mayBe _ _ _ I J b (ifn (by decide) (ifn (by decide) ⟨vp_iZ (n := 0) (by omega) (by omega) (by omega), ?_⟩))
  rw [show (STl 900).getD (0 : Int32).toNatClampNeg 0 = 1 from rfl, show (STl 901).getD (0 : Int32).toNatClampNeg 0 = 9 from rfl]
  refine ifs (fun c1 => ⟨?_, rfl⟩) (fun c1 => ⟨vp_iZ (n := 0) (by omega) (by omega) (by omega), ifs (fun c2 => ifn (by decide) (ifp (by decide) ⟨?_, rfl⟩)) (fun c2 => ⟨?_, rfl⟩)⟩)
  · have : inB x 1 9 = false := by
      unfold inB
      rw [decide_eq_false (by rw [le_i]; rw [lt_i] at c1; omega)]
      rfl
    rw [this]
    rfl
  · have : inB x 1 9 = true := by
      unfold inB
      rw [decide_eq_true (by rw [le_i]; rw [lt_i] at c1; omega), decide_eq_true c2]
      rfl
    rw [this]
    rfl
  · have : inB x 1 9 = false := by
      unfold inB
      rw [decide_eq_false c2, Bool.and_false]
    rw [this]
    rfl
theorem p_may1 (x : Int32) : Pu (D + 1) 10 [vr 1 0, vi 0, vi 1, vi x] I J b (bI (inB x 0 3)) := by
  refine t_X1_mayBe _ _ _ I J b (ifn (by decide) (ifn (by decide) ⟨vp_iZ (n := 1) (by omega) (by omega) (by omega), ?_⟩))
  rw [show (STl 900).getD (1 : Int32).toNatClampNeg 0 = 0 from rfl, show (STl 901).getD (1 : Int32).toNatClampNeg 0 = 3 from rfl]
  refine ifs (fun c1 => ⟨?_, rfl⟩) (fun c1 => ⟨vp_iZ (n := 1) (by omega) (by omega) (by omega), ifs (fun c2 => ifn (by decide) (ifp (by decide) ⟨?_, rfl⟩)) (fun c2 => ⟨?_, rfl⟩)⟩)
  · have : inB x 0 3 = false := by
      unfold inB
      rw [decide_eq_false (by rw [le_i]; rw [lt_i] at c1; omega)]
      rfl
    rw [this]
    rfl
  · have : inB x 0 3 = true := by
      unfold inB
      rw [decide_eq_true (by rw [le_i]; rw [lt_i] at c1; omega), decide_eq_true c2]
      rfl
    rw [this]
    rfl
  · have : inB x 0 3 = false := by
      unfold inB
      rw [decide_eq_false c2, Bool.and_false]
    rw [this]
    rfl
/-- nothing changed, the same said -/
theorem op_same {z : Nat} {as : List AV} {v : Int32} {I1 : IM} (hc : c < 512) (hX : XR g I1 J b) (hM : MR g I1 J) (hO : SOK g c) (h : Pu 900 z as I1 J b v) : RIf b (fun x I1 J1 => Call 900 z as (101, I1, J1, R0 b) (RIf b fun x2 I2 J2 => x2 = x ∧ ∃ g', XR g' I2 J2 b ∧ MR g' I2 J2 ∧ SOK g' (c + 1))) (some (vi v)) (101, I1, J, R0 b) := RIf.mk (h.use ⟨rfl, g, hX, hM, hO.up hc⟩)
theorem op_joint (x y : Int32) : Op 79 139 [vi x, vi y] := by
  intro g c I J b hc hX hM hO
  have n7 := hO.1.1
  refine t_X9_joint (D := 899) _ _ I J b ?_
  refine (p_may0 (D := 898) x).use ?_
  cases hx : inB x 1 9
  · refine ifp rfl (op_same hc hX hM hO ?_)
    refine t_X10_joint (D := 899) _ _ I J b ((p_M_in (D := 898) x 1 9).use ?_)
    rw [hx]
    exact ifp rfl ⟨rfl, rfl⟩
  refine ifn (by decide) ?_
  refine (p_may1 (D := 898) y).use ?_
  cases hy : inB y 0 3
  · refine ifn (fun z => z rfl) (op_same hc hX hM hO ?_)
    refine t_X10_joint (D := 899) _ _ I J b ((p_M_in (D := 898) x 1 9).use ?_)
    rw [hx]
    refine ifn (by decide) ((p_M_in (D := 898) y 0 3).use ?_)
    rw [hy]
    exact ifn (fun z => z rfl) ⟨rfl, rfl⟩
  refine ifp (by decide) ?_
  by_cases hn : gN g < 7
  · obtain ⟨a, a1, a2, rfl⟩ := inB_ex (l := 1) (h := 9) rfl rfl (by omega) (by omega) hx
    obtain ⟨p, p1, p2, rfl⟩ := inB_ex (l := 0) (h := 3) rfl rfl (by omega) (by omega) hy
    refine (e_add (D := 898) (h := 1) hX.1 hO.1 hn rfl rfl rfl).useI ?_
    rintro r I1 J1 ⟨rfl, rfl, k1, k2⟩
    have hX1 := hX.bn k1 k2
    have hM1 : MR g I1 J1 := hM.eq (fun s k z => k2 s 0 k (by unfold mCe at z; omega)) (fun _ => rfl)
    refine RIf.mk (t_X10_joint (D := 899) _ _ I1 J1 b ?_)
    refine (p_M_in (D := 898) _ 1 9).use ?_
    rw [hx]
    refine ifn (by decide) ?_
    refine (p_M_in (D := 898) _ 0 3).use ?_
    rw [hy]
    refine ifp (by decide) ?_
    rw [hM1.bn.1]
    refine ifp (by rw [show (7 : Int32) = iZ 7 from rfl, iZ_eq (by omega) (by omega) (by omega) (by omega)]; omega) ?_
    refine (e_addJ (D := 898) (h := 1) hM1.bn hO.1 hn rfl rfl rfl).useI ?_
    rintro r I2 J2 ⟨rfl, rfl, k3, k4, k5⟩
    exact RIf.mk ⟨rfl, (gN g + 1, vAdd (gV g) (gN g) a p 1, g.2.2), hX1.frM k5 (fun _ _ _ => rfl), hM1.bn' k3 k4, (hO.bn (vAdd_ok hO.1 hn a2 p2 (by omega)) (by omega)).up hc⟩
  · refine (p_addF (D := 898) hX.1 n7 hn).use (op_same hc hX hM hO ?_)
    refine t_X10_joint (D := 899) _ _ I J b ((p_M_in (D := 898) x 1 9).use ?_)
    rw [hx]
    refine ifn (by decide) ((p_M_in (D := 898) y 0 3).use ?_)
    rw [hy]
    refine ifp (by decide) ?_
    rw [hM.bn.1]
    exact ifn (fun z => z (by rw [show gN g = 7 by omega]; rfl)) ⟨rfl, rfl⟩
end JOINT
