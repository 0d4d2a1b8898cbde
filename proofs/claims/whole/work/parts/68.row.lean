/-! CHANGES: row -/
section ROW
variable {D : Nat} {g : Sg} {c : Nat} {I : IM} {J : JM} {b : Bool}
def qRow (so n : Nat) : Sh := (2, so, n, fun _ => 0)
theorem qRow_ok {so n : Nat} (h1 : so ≤ 4) (h2 : n ≤ 60) : ShOK (qRow so n) := ⟨(show (2 : Nat) ≤ 2 by decide), fun z => (by cases z), fun _ => ⟨h1, h2, fun _ k _ => rfl, fun _ k _ => (show -32768 ≤ ((0 : Int64).toInt32).toInt ∧ ((0 : Int64).toInt32).toInt < 32768 by decide)⟩⟩
theorem w_fill41 {s : Nat} {J0 : JM} : ∀ r k (J : JM), r + k = 60 → (∀ t j q, ¬ (t = 41 ∧ j = s) → J t j q = J0 t j q) → (∀ q, q < k → J 41 s q = 0) → WP D 255 6 [vr 41 s, vl 0, vn, vi (iZ (k : Int)), vi 60] [] (101, I, J, R0 b) (RVf b fun I' J' => I' = I ∧ (∀ t j q, ¬ (t = 41 ∧ j = s) → J' t j q = J0 t j q) ∧ ∀ q, q < 60 → J' 41 s q = 0) := by
  intro r
  induction r with
  | zero =>
    intro k J hk h1 h2
    have : k = 60 := by omega
    subst this
    exact t_J7_fill_d0a16_6 s _ _ _ I J b (ifp (by decide) (RVf.mk ⟨rfl, h1, h2⟩))
  | succ r ih =>
    intro k J hk h1 h2
    refine t_J7_fill_d0a16_6 s _ _ _ I J b (ifn (by rw [show (60 : Int32) = iZ 60 from rfl]; exact nle (by omega) (by omega) (by omega)) ⟨vp_iZ (by omega) (by omega) (by omega), ?_⟩)
    rw [iZ_s, iZ_ck (by omega)]
    refine ih (k + 1) _ (by omega) (fun t j q z => by rw [updJ_if, if_neg (by omega)]; exact h1 t j q z) (fun q hq => ?_)
    rw [updJ_if]
    split
    · rfl
    · next h => exact h2 q (by omega)
theorem w_fill83 {s : Nat} {J0 : JM} (hs : s < 6) : ∀ r k (J : JM), r + k = 60 → (∀ t j q, ¬ (t = 83 ∧ j = 0 ∧ 60 * s ≤ q ∧ q < 60 * s + 60) → J t j q = J0 t j q) → (∀ q, q < k → J 83 0 (60 * s + q) = 0) → WP D 239 54 [vr 10 0, vi (iZ (s : Int)), vn, vn, vi (iZ ((60 * s + k : Nat) : Int))] [] (101, I, J, R0 b) (RIf b fun x I' J' => x = 1 ∧ I' = I ∧ (∀ t j q, ¬ (t = 83 ∧ j = 0 ∧ 60 * s ≤ q ∧ q < 60 * s + 60) → J' t j q = J0 t j q) ∧ ∀ q, q < 60 → J' 83 0 (60 * s + q) = 0) := by
  intro r
  have h60 : (60 : Int32) * iZ (s : Int) + (60 : Int32) = iZ ((60 * s + 60 : Nat) : Int) := by
    rw [show (60 : Int32) = iZ 60 from rfl, iZ_mul, iZ_add]
    congr 1
  induction r with
  | zero =>
    intro k J hk h1 h2
    have : k = 60 := by omega
    subst this
    refine t_X10_row_54 _ _ I J b ?_
    rw [h60]
    exact ifp (tle (by omega) (by omega) (by omega)) (RIf.mk ⟨rfl, rfl, h1, h2⟩)
  | succ r ih =>
    intro k J hk h1 h2
    refine t_X10_row_54 _ _ I J b ?_
    rw [h60]
    refine ifn (nle (by omega) (by omega) (by omega)) ⟨vp_iZ (by omega) (by omega) (by omega), ?_⟩
    rw [iZ_s, iZ_ck (by omega)]
    refine ih (k + 1) _ (by omega) (fun t j q z => by rw [updJ_if, if_neg (by omega)]; exact h1 t j q z) (fun q hq => ?_)
    rw [updJ_if]
    split
    · rfl
    · next h => exact h2 q (by omega)
theorem op_row (x y z : Int32) : Op 117 239 [vi x, vi y, vi z] := by
  intro g c I J b hc hX hM hO
  refine t_X9_row (D := 899) _ _ _ I J b ((p_X_isShelf (D := 898) x).use ?_)
  cases hx : inB x 0 5
  · refine ifp rfl (op_same hc hX hM hO ?_)
    refine t_X10_row (D := 899) _ _ _ I J b ((p_M_isShelf (D := 897) x).use ?_)
    rw [hx]
    exact ifp rfl ⟨rfl, rfl⟩
  refine ifn (by decide) ?_
  obtain ⟨s, hs, rfl⟩ := in05x hx
  have hv : vp_in (iZ (s : Int)) 6 := vp_iZ (by omega) (by omega) (by omega)
  have hbad : inB y 0 4 = false → Pu 900 239 [vr 10 0, vi (iZ (s : Int)), vi y, vi z] I J b (-1) := fun hz => by
    refine t_X10_row (D := 899) _ _ _ I J b ((p_M_isShelf (D := 897) _).use ?_)
    rw [hx]
    refine ifn (by decide) ((p_M_in (D := 898) y 0 4).use ?_)
    rw [hz]
    exact ifp rfl ⟨rfl, rfl⟩
  refine ifs (fun c1 => op_same hc hX hM hO (hbad ?_)) (fun c1 => ifs (fun c2 => op_same hc hX hM hO (hbad ?_)) (fun c2 => ?_))
  · unfold inB
    rw [decide_eq_false (by rw [le_i]; rw [lt_i] at c1; omega)]
    rfl
  · unfold inB
    rw [decide_eq_false (p := y ≤ 4) (by rw [le_i]; rw [lt_i] at c2; omega), Bool.and_false]
  have hin : inB y 0 4 = true := by
    unfold inB
    rw [decide_eq_true (by rw [le_i]; rw [lt_i] at c1; omega), decide_eq_true (p := y ≤ 4) (by rw [le_i]; rw [lt_i] at c2; omega)]
    rfl
  obtain ⟨so, so1, so2, rfl⟩ := inB_ex (l := 0) (h := 4) rfl rfl (by omega) (by omega) hin
  have hstep : ∀ (I1 : IM) (J1 : JM) (Q : Option AV → AH → Prop), (if z ≤ (60 : Int32) then (if 0 ≤ z then (vp_in (iZ (s : Int)) 6 ∧ (vp_in (iZ (s : Int)) 6 ∧ WP 899 239 54 [vr 10 0, vi (iZ (s : Int)), vn, vn, vi ((60 : Int32) * iZ (s : Int))] [] (101, (updI (updI I1 81 0 (iZ (s : Int)).toNatClampNeg ((-2 : Int32) - iZ (so : Int))) 82 0 (iZ (s : Int)).toNatClampNeg z), J1, R0 b) Q)) else Q (some (vi (-14))) (101, I1, J1, R0 b)) else Q (some (vi (-1))) (101, I1, J1, R0 b)) → Call 900 239 [vr 10 0, vi (iZ (s : Int)), vi (iZ (so : Int)), vi z] (101, I1, J1, R0 b) Q := fun I1 J1 Q h => by
    refine t_X10_row (D := 899) _ _ _ I1 J1 b ?_
    refine (p_M_isShelf (D := 897) _).mono ?_
    rintro r h2 ⟨rfl, rfl⟩
    refine RIf.mk ?_
    rw [hx]
    refine ifn (by decide) ?_
    refine (p_M_in (D := 898) _ 0 4).mono ?_
    rintro r h2 ⟨rfl, rfl⟩
    refine RIf.mk ?_
    rw [hin]
    exact ifn (by decide) h
  refine ifs (fun c3 => ifs (fun c4 => ⟨hv, ?_⟩) (fun c4 => op_same hc hX hM hO (hstep I J _ (ifp c3 (ifn c4 ⟨rfl, rfl⟩))))) (fun c3 => op_same hc hX hM hO (hstep I J _ (ifn c3 ⟨rfl, rfl⟩)))
  obtain ⟨n, n1, rfl⟩ := nn_ex (x := z) (by rw [lt_i]; rw [le_i] at c4; omega)
  have hn : n ≤ 60 := (by rw [show (60 : Int32) = iZ 60 from rfl] at c3; have := (tle' (by omega) (by omega) (by omega) (by omega)).mp c3; omega)
  rw [iZ_ck (by omega)]
  refine t_X6_holdRow (D := 898) s _ _ I J b (t_J7_fill_d0a16 (D := 897) s _ _ J b ?_)
  refine (w_fill41 (J0 := J) 60 0 J (by omega) (fun _ _ _ _ => rfl) (fun q hq => by omega)).mono ?_
  rintro r h ⟨I1, J1, rfl, rfl, rfl, k1, k2⟩
  have hXn : XR (gSh g s (qRow so n)) (updI (updI (updI I 6 s 0 2) 6 s 2 (iZ (so : Int))) 6 s 3 (iZ (n : Int))) J1 b := hX.sh' ⟨by rw [updI_if, if_neg (by omega), updI_if, if_neg (by omega), uI_eq]; rfl, fun z => (by cases z), fun _ => ⟨by rw [updI_if, if_neg (by omega), uI_eq]; rfl, by rw [uI_eq]; rfl, fun k hk => k2 k hk⟩⟩ (fun t j k z => by rw [updI_if, if_neg (by omega), updI_if, if_neg (by omega), updI_if, if_neg (by omega)]) (fun t k z => k1 _ _ _ (by omega))
  have hMn : MR g (updI (updI (updI I 6 s 0 2) 6 s 2 (iZ (so : Int))) 6 s 3 (iZ (n : Int))) J1 := hM.eq (fun t k z => by unfold mCe at z; rw [updI_if, if_neg (by omega), updI_if, if_neg (by omega), updI_if, if_neg (by omega)]) (fun k => k1 _ _ _ (by omega))
  generalize updI (updI (updI I 6 s 0 2) 6 s 2 (iZ (so : Int))) 6 s 3 (iZ (n : Int)) = I2 at hXn hMn ⊢
  refine RVf.mk (RVf.mk (RIf.mk (hstep I2 J1 _ (ifp c3 (ifp c4 ⟨hv, hv, ?_⟩)))))
  rw [iZ_ck (by omega)]
  have e60 : (60 : Int32) * iZ (s : Int) = iZ ((60 * s + 0 : Nat) : Int) := by
    rw [show (60 : Int32) = iZ 60 from rfl, iZ_mul]
    congr 1
  rw [e60]
  refine (w_fill83 (J0 := J1) hs 60 0 J1 (by omega) (fun _ _ _ _ => rfl) (fun q hq => by omega)).mono ?_
  rintro r h ⟨x, I3, J3, rfl, rfl, rfl, rfl, y1, y2⟩
  refine RIf.mk ⟨rfl, gSh g s (qRow so n), hXn.frM ((Fr.id.upd rfl).upd rfl) (fun t k _ => y1 _ _ _ (by omega)), hMn.sh' ⟨?_, fun _ => ⟨uI_eq, fun k hk => y2 k hk⟩⟩ (fun t k z _ => by rw [updI_if, if_neg (by omega), updI_if, if_neg (by omega)]) (fun t k z hk => y1 _ _ _ (by omega)), (hO.up hc).sh' (qRow_ok so2 hn) (fun z => (by cases z))⟩
  rw [updI_if, if_neg (by omega), uI_eq, show (-2 : Int32) = iZ (-2) from rfl, iZ_sub]
  rfl
end ROW
