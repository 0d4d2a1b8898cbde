/-! OPS: trace -/
def aTrace (x : Int32) (g : Sg) : Int32 := match (if x < 0 then none else (gR2 g).2[x.toInt.toNat]?) with
  | none => -1
  | some y => iZ (y : Int)
section TRACE
variable {D : Nat} {g : Sg} {c : Nat} {I : IM} {J : JM} {b : Bool}
theorem aTrace_n {x : Int32} (h : x < 0) : aTrace x g = -1 := by
  unfold aTrace
  rw [if_pos h]
theorem aTrace_o {v : Nat} (h : v < 2147483648) (h2 : (gR2 g).2.length ≤ v) : aTrace (iZ (v : Int)) g = -1 := by
  unfold aTrace
  rw [if_neg (by rw [i_0]; exact nlt (by omega) (by omega) (by omega)), iZ_toInt (by omega) (by omega), Int.toNat_natCast, List.getElem?_eq_none h2]
theorem aTrace_y {v y : Nat} (h : v < 2147483648) (h2 : (gR2 g).2[v]? = some y) : aTrace (iZ (v : Int)) g = iZ (y : Int) := by
  unfold aTrace
  rw [if_neg (by rw [i_0]; exact nlt (by omega) (by omega) (by omega)), iZ_toInt (by omega) (by omega), Int.toNat_natCast, h2]
theorem cX_trace {x : Int32} (hX : XR g I J b) (hO : SOK g c) : TX (D + 2) 115 [vr 9 0, vi x] I J b (aTrace x g) := by
  have hT : TrC I (gR2 g) := hX.2.2.2.2.2.2.1
  obtain ⟨l1, l2⟩ : (gR2 g).2.length = min (gR2 g).1 24 ∧ (gR2 g).1 ≤ 1000 := hO.2.2.2.2.2.1
  refine t_X9_trace _ I J b ?_
  refine ifs (fun c1 => RIf.tx (aTrace_n c1).symm Fr.id) (fun c1 => ?_)
  obtain ⟨v, v1, rfl⟩ := nn_ex c1
  refine t_X0_keptOfTrace I J b (RIf.mk ?_)
  rw [hT.1]
  have hm : (if (24 : Int32) < iZ ((gR2 g).1 : Int) then (24 : Int32) else iZ ((gR2 g).1 : Int)) = iZ ((gR2 g).2.length : Int) := by
    rw [l1]
    by_cases hc : 24 < (gR2 g).1
    · rw [if_pos (by rw [show (24 : Int32) = iZ 24 from rfl]; exact tlt (by omega) (by omega) (by omega)), show min (gR2 g).1 24 = 24 by omega]
      rfl
    · rw [if_neg (by rw [show (24 : Int32) = iZ 24 from rfl]; exact nlt (by omega) (by omega) (by omega)), show min (gR2 g).1 24 = (gR2 g).1 by omega]
  rw [hm]
  refine ifs (fun c2 => ?_) (fun c2 => ?_)
  · rw [iZ_lt (by omega) (by omega) (by omega) (by omega)] at c2
    have hg : (gR2 g).2[v]? = some (gR2 g).2[v] := List.getElem?_eq_getElem (by omega)
    rw [iZ_ck (by omega), hT.2 v _ hg]
    exact ⟨vp_iZ (by omega) (by omega) (by omega), RIf.tx (aTrace_y v1 hg).symm Fr.id⟩
  · rw [iZ_lt (by omega) (by omega) (by omega) (by omega)] at c2
    exact RIf.tx (aTrace_o v1 (by omega)).symm Fr.id
theorem cM_trace {x : Int32} (hM : MR g I J) (hO : SOK g c) : TM (D + 2) 221 [vr 10 0, vi x] I J b (aTrace x g) := by
  have hT : TrM I (gR2 g) := hM.2.2.2.2.2.2.1
  obtain ⟨l1, l2⟩ : (gR2 g).2.length = min (gR2 g).1 24 ∧ (gR2 g).1 ≤ 1000 := hO.2.2.2.2.2.1
  refine t_X10_trace _ I J b ?_
  refine ifs (fun c1 => RIf.tm (aTrace_n c1).symm Fr.id) (fun c1 => ?_)
  obtain ⟨v, v1, rfl⟩ := nn_ex c1
  rw [hT.1]
  refine ifs (fun c2 => ?_) (fun c2 => ifs (fun c3 => ?_) (fun c3 => ?_))
  · have c2 := (tle' (by omega) (by omega) (by omega) (by omega)).mp c2
    exact RIf.tm (aTrace_o v1 (by omega)).symm Fr.id
  · have c3 := (tle' (a := 24) (by omega) (by omega) (by omega) (by omega)).mp c3
    exact RIf.tm (aTrace_o v1 (by omega)).symm Fr.id
  · have d2 : v < (gR2 g).1 := by
      apply Classical.byContradiction
      intro z
      exact c2 (tle (by omega) (by omega) (by omega))
    have d3 : v < 24 := by
      apply Classical.byContradiction
      intro z
      exact c3 (by rw [show (24 : Int32) = iZ 24 from rfl]; exact tle (by omega) (by omega) (by omega))
    have hg : (gR2 g).2[v]? = some (gR2 g).2[v] := List.getElem?_eq_getElem (by omega)
    rw [iZ_ck (by omega), hT.2 v _ hg]
    exact ⟨vp_iZ (by omega) (by omega) (by omega), RIf.tm (aTrace_y v1 hg).symm Fr.id⟩
theorem op_trace (x : Int32) : Op 115 221 [vi x] := Op.th (aTrace x) (fun g c I J b hX hO => cX_trace (D := 898) hX hO) (fun g c I J b hM hO => cM_trace (D := 898) hM hO)
end TRACE
