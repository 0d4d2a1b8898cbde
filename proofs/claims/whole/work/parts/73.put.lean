/-! CHANGES: put -/
def fLack (q : Sh) (y : Int32) : Int32 := if sK q = 0 then -11 else if sK q = 2 then (if y < 0 then -13 else if y < iZ (sL q : Int) then 0 else -13) else -12
def aLack (x y : Int32) (g : Sg) : Int32 := if inB x 0 5 = false then -1 else fLack (gS g x.toInt.toNat) y
def wCell (so : Nat) (v : Int64) : Int64 := if so = 0 then ((v.toInt32).toInt8.toInt32).toInt64 else if so = 1 then ((v.toInt32).toInt16.toInt32).toInt64 else if so = 2 then (v.toInt32).toInt64 else if so = 3 then v else if lg_cmp v (0 : Int64) = 0 then 0 else 1
def qPut (q : Sh) (k : Nat) (v : Int64) : Sh := (2, sA q, sL q, fun i => if i = k then wCell (sA q) v else sC q i)
theorem qPut_ok {q : Sh} {k : Nat} {v : Int64} (h : ShOK q) (h2 : sK q = 2) : ShOK (qPut q k v) := by
  obtain ⟨h3, h4, h5, h6⟩ := h.2.2 h2
  refine ⟨(show (2 : Nat) ≤ 2 by decide), fun z => (by cases z), fun _ => ⟨h3, h4, fun ha i hi => ?_, fun ha i hi => ?_⟩⟩
  · have ha : sA q ≤ 1 := ha
    show (if i = k then wCell (sA q) v else sC q i) = (if i = k then wCell (sA q) v else sC q i).toInt32.toInt64
    split
    · unfold wCell
      split
      · rw [Int32.toInt32_toInt64]
      · rw [if_pos (by omega), Int32.toInt32_toInt64]
    · exact h5 ha i hi
  · have ha : sA q = 1 := ha
    show -32768 ≤ (if i = k then wCell (sA q) v else sC q i).toInt32.toInt ∧ (if i = k then wCell (sA q) v else sC q i).toInt32.toInt < 32768
    split
    · unfold wCell
      rw [if_neg (by omega), if_pos ha, Int32.toInt32_toInt64, Int16.toInt_toInt32]
      have a1 := Int16.toInt_lt v.toInt32.toInt16
      have a2 := Int16.le_toInt v.toInt32.toInt16
      omega
    · exact h6 ha i hi
section PUT
variable {D : Nat} {g : Sg} {c : Nat} {I : IM} {J : JM} {b : Bool}
theorem aLack_n {x y : Int32} (h : inB x 0 5 = false) : aLack x y g = -1 := if_pos h
theorem aLack_y {s : Nat} {y : Int32} (hs : s < 6) (h : inB (iZ (s : Int)) 0 5 = true) : aLack (iZ (s : Int)) y g = fLack (gS g s) y := by
  unfold aLack
  rw [if_neg (by rw [h]; decide), iZ_toInt (by omega) (by omega), Int.toNat_natCast]
theorem fLack_0 {q : Sh} {y : Int32} (h : sK q = 0) : fLack q y = -11 := if_pos h
theorem fLack_1 {q : Sh} {y : Int32} (h : sK q ≠ 0) (h2 : sK q ≠ 2) : fLack q y = -12 := by
  unfold fLack
  rw [if_neg h, if_neg h2]
theorem fLack_2 {q : Sh} {y : Int32} (h : sK q = 2) : fLack q y = if y < 0 then -13 else if y < iZ (sL q : Int) then 0 else -13 := by
  unfold fLack
  rw [if_neg (by omega), if_pos h]
theorem aLack_neg {x y : Int32} (h : aLack x y g ≠ 0) : ¬ 0 ≤ aLack x y g := by
  unfold aLack fLack at *
  split
  · decide
  · next h1 =>
    rw [if_neg h1] at h
    split
    · decide
    · next h2 =>
      rw [if_neg h2] at h
      split
      · next h3 =>
        rw [if_pos h3] at h
        split
        · decide
        · next h4 =>
          rw [if_neg h4] at h
          split
          · next h5 =>
            rw [if_pos h5] at h
            exact absurd rfl h
          · decide
      · decide
theorem aLack_0 {x y : Int32} (hO : SOK g c) (h : aLack x y g = 0) : ∃ s k : Nat, s < 6 ∧ inB (iZ (s : Int)) 0 5 = true ∧ sK (gS g s) = 2 ∧ k < sL (gS g s) ∧ sL (gS g s) ≤ 60 ∧ x = iZ (s : Int) ∧ y = iZ (k : Int) := by
  cases hx : inB x 0 5
  · rw [aLack_n hx] at h
    cases h
  · obtain ⟨s, hs, rfl⟩ := in05x hx
    rw [aLack_y hs hx] at h
    by_cases h0 : sK (gS g s) = 0
    · rw [fLack_0 h0] at h
      cases h
    by_cases h2 : sK (gS g s) = 2
    · have hl := ((hO.2.2.2.1 s hs).1.2.2 h2).2.1
      rw [fLack_2 h2] at h
      split at h
      · cases h
      · next c1 =>
        split at h
        · next c2 =>
          obtain ⟨k, k1, rfl⟩ := nn_ex c1
          rw [iZ_lt (by omega) (by omega) (by omega) (by omega)] at c2
          exact ⟨s, k, hs, hx, h2, by omega, hl, rfl, rfl⟩
        · cases h
    · rw [fLack_1 h0 h2] at h
      cases h
theorem p_lackX {x y : Int32} (hX : XR g I J b) (hO : SOK g c) : Pu (D + 2) 126 [vr 9 0, vi x, vi y] I J b (aLack x y g) := by
  refine t_X9_lackOfPlace _ _ I J b ((p_X_isShelf (D := D) x).use ?_)
  cases hx : inB x 0 5
  · exact ifn (fun z => z rfl) ⟨by rw [aLack_n hx], rfl⟩
  obtain ⟨s, hs, rfl⟩ := in05x hx
  obtain ⟨⟨q1, q2, q3⟩, hok⟩ := hX.sh hO s hs
  have hk2 := hok.1
  rw [iZ_ck (by omega), q1]
  refine ifp (by decide) ⟨vp_iZ (by omega) (by omega) (by omega), ?_⟩
  have e := aLack_y (g := g) (y := y) hs hx
  refine ifs (fun c1 => ?_) (fun c1 => ?_)
  · rw [i_0, iZ_eq (by omega) (by omega) (by omega) (by omega)] at c1
    refine ifs (fun c2 => ?_) (fun c2 => ?_)
    · rw [i_2, iZ_eq (by omega) (by omega) (by omega) (by omega)] at c2
      obtain ⟨r1, r2, r3⟩ := q3 (by omega)
      have e2 := fLack_2 (q := gS g s) (y := y) (by omega)
      rw [r2]
      exact ifs (fun c3 => ⟨by rw [e, e2, if_pos c3], rfl⟩) (fun c3 => ifs (fun c4 => ⟨by rw [e, e2, if_neg c3, if_pos c4], rfl⟩) (fun c4 => ⟨by rw [e, e2, if_neg c3, if_neg c4], rfl⟩))
    · rw [i_2, iZ_eq (by omega) (by omega) (by omega) (by omega)] at c2
      exact ⟨by rw [e, fLack_1 (by omega) (by omega)], rfl⟩
  · have c1 := Classical.not_not.mp c1
    rw [i_0, iZ_eq (by omega) (by omega) (by omega) (by omega)] at c1
    exact ⟨by rw [e, fLack_0 (by omega)], rfl⟩
theorem place_in {y : Int32} {n : Nat} (hn : n ≤ 60) : inB y 0 (iZ (n : Int) - 1) = (!decide (y < 0) && decide (y < iZ (n : Int))) := by
  obtain ⟨z, rfl, z1, z2⟩ := iZ_ex y
  unfold inB
  rw [i_1, iZ_sub, i_0]
  simp only [iZ_le (a := 0) (b := z) (by omega) (by omega) (by omega) (by omega), iZ_le (a := z) (b := (n : Int) - 1) (by omega) (by omega) (by omega) (by omega), iZ_lt (a := z) (b := 0) (by omega) (by omega) (by omega) (by omega), iZ_lt (a := z) (b := (n : Int)) (by omega) (by omega) (by omega) (by omega)]
  by_cases h1 : z < 0
  · rw [decide_eq_false (by omega), decide_eq_true h1]
    rfl
  · rw [decide_eq_true (by omega), decide_eq_false h1]
    by_cases h2 : z < n
    · rw [decide_eq_true (by omega), decide_eq_true h2]
      rfl
    · rw [decide_eq_false (by omega), decide_eq_false h2]
      rfl
theorem p_lackM {x y : Int32} (hM : MR g I J) (hO : SOK g c) : Pu (D + 3) 240 [vr 10 0, vi x, vi y] I J b (aLack x y g) := by
  refine t_X10_whyNoPlace _ _ I J b ((p_M_isShelf (D := D) x).use ?_)
  cases hx : inB x 0 5
  · exact ifn (fun z => z rfl) ⟨by rw [aLack_n hx], rfl⟩
  obtain ⟨s, hs, rfl⟩ := in05x hx
  obtain ⟨q1, q2⟩ := hM.sh s hs
  have hok := (hO.2.2.2.1 s hs).1
  have hk2 := hok.1
  have hv : vp_in (iZ (s : Int)) 6 := vp_iZ (by omega) (by omega) (by omega)
  rw [iZ_ck (by omega), q1]
  refine ifp (by decide) ⟨hv, ?_⟩
  have e := aLack_y (g := g) (y := y) hs hx
  rcases (show sK (gS g s) = 0 ∨ sK (gS g s) = 1 ∨ sK (gS g s) = 2 by omega) with h0 | h1 | h2
  · have e1 : shH (gS g s) = -1 := if_pos h0
    rw [e1]
    exact ifn (fun z => z rfl) ⟨by rw [e, fLack_0 h0], rfl⟩
  · have e1 : shH (gS g s) = (sA (gS g s) : Int) := by
      unfold shH
      rw [if_neg (by omega), if_pos h1]
    have hA := hok.2.1 h1
    rw [e1]
    exact ifp (by rw [show (-1 : Int32) = iZ (-1) from rfl, iZ_eq (by omega) (by omega) (by omega) (by omega)]; omega) ⟨hv, ifn (by rw [i_0]; exact nlt (by omega) (by omega) (by omega)) ⟨by rw [e, fLack_1 (by omega) (by omega)], rfl⟩⟩
  · have e1 : shH (gS g s) = -2 - (sA (gS g s) : Int) := by
      unfold shH
      rw [if_neg (by omega), if_neg (by omega)]
    obtain ⟨hA, hL, _⟩ := hok.2.2 h2
    have e2 := fLack_2 (q := gS g s) (y := y) h2
    rw [e1, (q2 h2).1]
    refine ifp (by rw [show (-1 : Int32) = iZ (-1) from rfl, iZ_eq (by omega) (by omega) (by omega) (by omega)]; omega) ⟨hv, ifp (by rw [i_0]; exact tlt (by omega) (by omega) (by omega)) ⟨hv, (p_M_in (D := D + 1) _ _ _).use ?_⟩⟩
    rw [place_in hL]
    by_cases c3 : y < 0
    · rw [decide_eq_true c3]
      exact ifp rfl ⟨by rw [e, e2, if_pos c3], rfl⟩
    · rw [decide_eq_false c3]
      by_cases c4 : y < iZ (sL (gS g s) : Int)
      · rw [decide_eq_true c4]
        exact ifn (by decide) ⟨by rw [e, e2, if_neg c3, if_pos c4], rfl⟩
      · rw [decide_eq_false c4]
        exact ifp rfl ⟨by rw [e, e2, if_neg c3, if_neg c4], rfl⟩
theorem e_write {s so k : Nat} {v : Int64} (h : I 6 s 2 = iZ (so : Int)) (hso : so ≤ 4) (hk : k < 60) : Call (D + 1) 52 [vr 6 s, vi (iZ (k : Int)), vl v] (101, I, J, R0 b) (RVf b fun I' J' => I' = I ∧ J' = updJ J 41 s k (wCell so v)) := by
  refine t_X6_write s _ _ I J b ?_
  have hv : vp_in (iZ (k : Int)) 60 := vp_iZ (by omega) (by omega) (by omega)
  rw [h, iZ_ck (by omega)]
  rcases (show so = 0 ∨ so = 1 ∨ so = 2 ∨ so = 3 ∨ so = 4 by omega) with rfl | rfl | rfl | rfl | rfl
  · exact ifp (by decide) ⟨hv, RVf.mk ⟨rfl, rfl⟩⟩
  · exact ifn (by decide) (ifp (by decide) ⟨hv, RVf.mk ⟨rfl, rfl⟩⟩)
  · exact ifn (by decide) (ifn (by decide) (ifp (by decide) ⟨hv, RVf.mk ⟨rfl, rfl⟩⟩))
  · exact ifn (by decide) (ifn (by decide) (ifn (by decide) (ifp (by decide) ⟨hv, RVf.mk ⟨rfl, rfl⟩⟩)))
  · refine ifn (by decide) (ifn (by decide) (ifn (by decide) (ifn (by decide) ?_)))
    refine ifs (fun c1 => ⟨hv, RVf.mk ⟨rfl, ?_⟩⟩) (fun c1 => ⟨hv, RVf.mk ⟨rfl, ?_⟩⟩)
    · unfold wCell
      rw [if_neg (by decide), if_neg (by decide), if_neg (by decide), if_neg (by decide), if_pos c1]
    · unfold wCell
      rw [if_neg (by decide), if_neg (by decide), if_neg (by decide), if_neg (by decide), if_neg c1]
theorem op_put (x y : Int32) (v : Int64) : Op 118 241 [vi x, vi y, vl v] := by
  intro g c I J b hc hX hM hO
  refine t_X9_put (D := 899) _ _ _ I J b ((p_lackX (D := 897) hX hO).use ?_)
  by_cases h0 : aLack x y g = 0
  · have h00 := h0
    obtain ⟨s, k, hs, hx, h2, hk, hl, rfl, rfl⟩ := aLack_0 hO h0
    obtain ⟨⟨q1, q2, q3⟩, hok⟩ := hX.sh hO s hs
    obtain ⟨hA, _⟩ := hok.2.2 h2
    obtain ⟨r1, r2, r3⟩ := q3 h2
    refine ifp h00 ⟨vp_iZ (by omega) (by omega) (by omega), ?_⟩
    rw [iZ_ck (by omega)]
    refine (e_write (D := 898) r1 hA (by omega)).useV ?_
    rintro I1 J1 ⟨rfl, rfl⟩
    have hXn : XR (gSh g s (qPut (gS g s) k v)) I1 (updJ J 41 s k (wCell (sA (gS g s)) v)) b := hX.sh' ⟨by rw [q1, h2]; rfl, fun z => (by cases z), fun _ => ⟨r1, r2, fun i hi => (by
      rw [updJ_if]
      show _ = if i = k then wCell (sA (gS g s)) v else sC (gS g s) i
      by_cases hik : i = k
      · rw [if_pos (by omega), if_pos hik]
      · rw [if_neg (by omega), if_neg hik]
        exact r3 i hi)⟩⟩ (fun _ _ _ _ => rfl) (fun t i ht => by rw [updJ_if, if_neg (by omega)])
    have hMn : MR g I1 (updJ J 41 s k (wCell (sA (gS g s)) v)) := hM.eq (fun _ _ _ => rfl) (fun i => by rw [updJ_if, if_neg (by omega)])
    generalize updJ J 41 s k (wCell (sA (gS g s)) v) = J2 at hXn hMn ⊢
    obtain ⟨m1, m2⟩ := hMn.sh s hs
    refine RIf.mk (t_X10_put (D := 899) _ _ _ I1 J2 b ?_)
    refine (p_lackM (D := 896) hMn hO).use ?_
    have e1 : shH (gS g s) = -2 - (sA (gS g s) : Int) := by
      unfold shH
      rw [if_neg (by omega), if_neg (by omega)]
    have e60 : (60 : Int32) * iZ (s : Int) + iZ (k : Int) = iZ ((60 * s + k : Nat) : Int) := by
      rw [show (60 : Int32) = iZ 60 from rfl, iZ_mul, iZ_add]
      congr 1
    have hv : vp_in (iZ ((60 * s + k : Nat) : Int)) 360 := vp_iZ (by omega) (by omega) (by omega)
    refine ifp (by rw [h00]; decide) ⟨vp_iZ (by omega) (by omega) (by omega), fun w hw => ?_⟩
    rw [iZ_ck (by omega), m1, e1, show (-2 : Int32) = iZ (-2) from rfl, iZ_sub] at hw
    have hw : w = iZ (sA (gS g s) : Int) := by
      rw [hw]
      congr 1
      omega
    rw [e60, iZ_ck (by omega)]
    have hfin : ∀ u, u = wCell (sA (gS g s)) v → vp_in (iZ ((60 * s + k : Nat) : Int)) 360 ∧ RIf b (fun x2 I2 J2 => x2 = 1 ∧ ∃ g', XR g' I2 J2 b ∧ MR g' I2 J2 ∧ SOK g' (c + 1)) (some (vi 1)) (101, I1, updJ J2 83 0 (60 * s + k) u, R0 b) := by
      rintro u rfl
      refine ⟨hv, RIf.mk ⟨rfl, gSh g s (qPut (gS g s) k v), hXn.frM Fr.id (fun t i ht => by rw [updJ_if, if_neg (by omega)]), hMn.sh' ⟨by rw [m1, e1]; rfl, fun _ => ⟨(m2 h2).1, fun i hi => ?_⟩⟩ (fun _ _ _ _ => rfl) (fun t i ht hi => by rw [updJ_if, if_neg (by omega)]), (hO.up hc).sh' (qPut_ok hok h2) (fun z => (by cases z))⟩⟩
      rw [updJ_if]
      show _ = if i = k then wCell (sA (gS g s)) v else sC (gS g s) i
      by_cases hik : i = k
      · rw [if_pos (by omega), if_pos hik]
      · rw [if_neg (by omega), if_neg hik]
        exact (m2 h2).2 i hi
    generalize sA (gS g s) = so at hw hA hfin
    subst hw
    rcases (show so = 0 ∨ so = 1 ∨ so = 2 ∨ so = 3 ∨ so = 4 by omega) with rfl | rfl | rfl | rfl | rfl
    · exact ifn (fun z => z rfl) (hfin _ rfl)
    · exact ifp (by decide) (ifn (fun z => z rfl) (hfin _ rfl))
    · exact ifp (by decide) (ifp (by decide) (ifn (fun z => z rfl) (hfin _ rfl)))
    · exact ifp (by decide) (ifp (by decide) (ifp (by decide) (ifn (fun z => z rfl) (hfin _ rfl))))
    · refine ifp (by decide) (ifp (by decide) (ifp (by decide) (ifp (by decide) ?_)))
      refine ifs (fun c1 => hfin _ ?_) (fun c1 => hfin _ ?_)
      · unfold wCell
        rw [if_neg (by decide), if_neg (by decide), if_neg (by decide), if_neg (by decide), if_pos c1]
      · unfold wCell
        rw [if_neg (by decide), if_neg (by decide), if_neg (by decide), if_neg (by decide), if_neg c1]
  · refine ifn h0 (op_same hc hX hM hO ?_)
    refine t_X10_put (D := 899) _ _ _ I J b ((p_lackM (D := 896) hM hO).use ?_)
    exact ifn (aLack_neg h0) ⟨rfl, rfl⟩
end PUT
