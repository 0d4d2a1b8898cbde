/-! OPS: of; where a number stands -/
def numOK (n : Nat) (x y : Int32) : Prop := (0 ≤ y.toInt ∧ y.toInt < 6 ∧ 0 ≤ x.toInt ∧ x.toInt < n) ∨ (6 ≤ y.toInt ∧ y.toInt ≤ 10 ∧ x.toInt = 0)
def numP (n q j : Nat) : Prop := (q < 6 ∧ j < n) ∨ (6 ≤ q ∧ q ≤ 10 ∧ j = 0)
theorem numOK_ex {n : Nat} {x y : Int32} (h : numOK n x y) : ∃ q j : Nat, numP n q j ∧ x = iZ (j : Int) ∧ y = iZ (q : Int) := by
  unfold numOK at h
  have hx := iZ_self x
  have hy := iZ_self y
  refine ⟨y.toInt.toNat, x.toInt.toNat, ?_, ?_, ?_⟩
  · unfold numP
    omega
  · rw [show ((x.toInt.toNat : Nat) : Int) = x.toInt by omega, hx]
  · rw [show ((y.toInt.toNat : Nat) : Int) = y.toInt by omega, hy]
theorem ift {c p A B : Prop} {i : Decidable c} (e : c ↔ p) (a : p → A) (b : ¬ p → B) : if c then A else B := ifs (fun h => a (e.mp h)) (fun h => b (fun z => h (e.mpr z)))
theorem c_lt {x k : Int32} {m : Int} (e : k.toInt = m) : x < k ↔ x.toInt < m := by rw [lt_i, e]
theorem c_gt {x k : Int32} {m : Int} (e : k.toInt = m) : k < x ↔ m < x.toInt := by rw [lt_i, e]
theorem c_le {x k : Int32} {m : Int} (e : k.toInt = m) : x ≤ k ↔ x.toInt ≤ m := by rw [le_i, e]
theorem c_ge {x k : Int32} {m : Int} (e : k.toInt = m) : k ≤ x ↔ m ≤ x.toInt := by rw [le_i, e]
theorem c_eq {x k : Int32} {m : Int} (e : k.toInt = m) : x = k ↔ x.toInt = m := by rw [eq_i, e]
theorem c_ne {x k : Int32} {m : Int} (e : k.toInt = m) : ¬ x = k ↔ ¬ x.toInt = m := by rw [eq_i, e]
theorem inB_iff {x lo hi : Int32} {l h : Int} (e1 : lo.toInt = l) (e2 : hi.toInt = h) : inB x lo hi = true ↔ l ≤ x.toInt ∧ x.toInt ≤ h := by
  rw [inB_eq, e1, e2, Bool.and_eq_true, decide_eq_true_eq, decide_eq_true_eq]
theorem inB_of {x lo hi : Int32} {l h : Int} (e1 : lo.toInt = l) (e2 : hi.toInt = h) (z : l ≤ x.toInt ∧ x.toInt ≤ h) : inB x lo hi = true := (inB_iff e1 e2).mpr z
theorem inB_no {x lo hi : Int32} {l h : Int} (e1 : lo.toInt = l) (e2 : hi.toInt = h) (z : ¬ (l ≤ x.toInt ∧ x.toInt ≤ h)) : inB x lo hi = false := by
  cases hb : inB x lo hi
  · rfl
  · exact absurd ((inB_iff e1 e2).mp hb) z
section OF
variable {D n : Nat} {V : Nat → Nat → Nat} {g : Sg} {c : Nat} {I : IM} {J : JM} {b : Bool}
theorem p_place_n {x y : Int32} (h : I 1 0 1 = iZ (n : Int)) (h7 : n ≤ 7) (hn : ¬ numOK n x y) : Pu (D + 1) 9 [vr 1 0, vi x, vi y] I J b (-1) := by
  unfold numOK at hn
  refine t_X1_placeOf _ _ I J b ?_
  rw [h]
  refine ift (c_lt (m := 0) rfl) (fun c1 => ift (c_lt (m := 6) rfl) (fun c2 => ⟨rfl, rfl⟩) (fun c2 => absurd c1 (by omega))) (fun c1 => ift (c_gt (m := 5) rfl) (fun c2 => ift (c_lt (m := 6) rfl) (fun c3 => ⟨rfl, rfl⟩) (fun c3 => ift (c_gt (m := 10) rfl) (fun c4 => ⟨rfl, rfl⟩) (fun c4 => ift (c_ne (m := 0) rfl) (fun c5 => ⟨rfl, rfl⟩) (fun c5 => absurd hn (by omega))))) (fun c2 => ift (c_lt (m := 0) rfl) (fun c3 => ⟨rfl, rfl⟩) (fun c3 => ift (c_ge (m := n) (iZ_toInt (by omega) (by omega))) (fun c4 => ⟨rfl, rfl⟩) (fun c4 => absurd hn (by omega)))))
theorem p_place_y {q j : Nat} (h : I 1 0 1 = iZ (n : Int)) (h7 : n ≤ 7) (hn : numP n q j) : Pu (D + 1) 9 [vr 1 0, vi (iZ (j : Int)), vi (iZ (q : Int))] I J b (iZ (chP (q, j, 0, 0) : Int)) := by
  unfold numP at hn
  refine t_X1_placeOf _ _ I J b ?_
  rw [h]
  have eq : (iZ (q : Int)).toInt = q := iZ_toInt (by omega) (by omega)
  have ej : (iZ (j : Int)).toInt = j := iZ_toInt (by omega) (by omega)
  have hB : ¬ q < 6 → some (vi ((42 : Int32) + iZ (q : Int) - (6 : Int32))) = some (vi (iZ (chP (q, j, 0, 0) : Int))) := fun h6 => by
    rw [show (42 : Int32) = iZ 42 from rfl, show (6 : Int32) = iZ 6 from rfl, iZ_add, iZ_sub]
    unfold chP
    rw [if_neg h6]
    congr 3
    show _ = ((36 + q : Nat) : Int)
    omega
  have hA : q < 6 → some (vi (iZ (j : Int) * (6 : Int32) + iZ (q : Int))) = some (vi (iZ (chP (q, j, 0, 0) : Int))) := fun h6 => by
    rw [show (6 : Int32) = iZ 6 from rfl, iZ_mul, iZ_add]
    unfold chP
    rw [if_pos h6]
    congr 3
    show _ = ((6 * j + q : Nat) : Int)
    omega
  refine ift (c_lt (m := 0) rfl) (fun c1 => absurd c1 (by omega)) (fun c1 => ift (c_gt (m := 5) rfl) (fun c2 => ift (c_lt (m := 6) rfl) (fun c3 => absurd c3 (by omega)) (fun c3 => ift (c_gt (m := 10) rfl) (fun c4 => absurd c4 (by omega)) (fun c4 => ift (c_ne (m := 0) rfl) (fun c5 => absurd c5 (by omega)) (fun c5 => ⟨hB (by omega), rfl⟩)))) (fun c2 => ift (c_lt (m := 0) rfl) (fun c3 => absurd c3 (by omega)) (fun c3 => ift (c_ge (m := n) (iZ_toInt (by omega) (by omega))) (fun c4 => absurd c4 (by omega)) (fun c4 => ⟨hA (by omega), rfl⟩))))
theorem p_one_n {x y : Int32} (h : I 10 0 1 = iZ (n : Int)) (h7 : n ≤ 7) (hn : ¬ numOK n x y) : Pu (D + 3) 146 [vr 10 0, vi x, vi y] I J b 0 := by
  unfold numOK at hn
  refine t_X10_isOne _ _ I J b ((p_M_in (D := D + 1) y 0 5).use ?_)
  by_cases h1 : 0 ≤ y.toInt ∧ y.toInt ≤ 5
  · rw [inB_of (l := 0) (h := 5) rfl rfl h1]
    refine ifn (by decide) ((p_M_isJoint (D := D) h h7).use ?_)
    rw [decide_eq_false (by omega)]
    exact ⟨rfl, rfl, rfl⟩
  · rw [inB_no (l := 0) (h := 5) rfl rfl h1]
    refine ifp rfl ((p_M_in (D := D + 1) y 6 10).use ?_)
    by_cases h2 : 6 ≤ y.toInt ∧ y.toInt ≤ 10
    · rw [inB_of (l := 6) (h := 10) rfl rfl h2]
      exact ifn (by decide) (ift (c_ne (m := 0) rfl) (fun _ => ⟨rfl, rfl⟩) (fun c5 => absurd hn (by omega)))
    · rw [inB_no (l := 6) (h := 10) rfl rfl h2]
      exact ifp rfl ⟨rfl, rfl⟩
theorem p_one_y {x y : Int32} (h : I 10 0 1 = iZ (n : Int)) (h7 : n ≤ 7) (hn : numOK n x y) : Pu (D + 3) 146 [vr 10 0, vi x, vi y] I J b 1 := by
  unfold numOK at hn
  refine t_X10_isOne _ _ I J b ((p_M_in (D := D + 1) y 0 5).use ?_)
  by_cases h1 : 0 ≤ y.toInt ∧ y.toInt ≤ 5
  · rw [inB_of (l := 0) (h := 5) rfl rfl h1]
    refine ifn (by decide) ((p_M_isJoint (D := D) h h7).use ?_)
    rw [decide_eq_true (by omega)]
    exact ⟨rfl, rfl, rfl⟩
  · rw [inB_no (l := 0) (h := 5) rfl rfl h1]
    refine ifp rfl ((p_M_in (D := D + 1) y 6 10).use ?_)
    rw [inB_of (l := 6) (h := 10) rfl rfl (by omega)]
    exact ifn (by decide) (ift (c_ne (m := 0) rfl) (fun c5 => absurd c5 (by omega)) (fun c5 => ⟨rfl, rfl⟩))
theorem p_valueAt {q j : Nat} (h : BnM I n V) (h7 : n ≤ 7) (hn : numP n q j) : Pu (D + 1) 141 [vr 10 0, vi (iZ (q : Int)), vi (iZ (j : Int))] I J b (iZ (V q j : Int)) := by
  unfold numP at hn
  obtain ⟨h1, h2, h3⟩ := h
  refine t_X10_valueAt _ _ I J b ?_
  by_cases hq6 : q < 6
  · have hv : vp_in (iZ (j : Int)) 7 := vp_iZ (by omega) (by omega) (by omega)
    rw [iZ_ck (by omega)]
    have hf := h2 j q (by omega) hq6
    rcases (show q = 0 ∨ q = 1 ∨ q = 2 ∨ q = 3 ∨ q = 4 ∨ q = 5 by omega) with rfl | rfl | rfl | rfl | rfl | rfl <;> (repeat (first | refine ifp (by decide) ?_ | refine ifn (by decide) ?_)) <;> exact ⟨hv, by rw [← hf], rfl⟩
  · have hf := h3 q (by omega) (by omega)
    have hj : j = 0 := by omega
    subst hj
    rcases (show q = 6 ∨ q = 7 ∨ q = 8 ∨ q = 9 ∨ q = 10 by omega) with rfl | rfl | rfl | rfl | rfl <;> (repeat (first | refine ifp (by decide) ?_ | refine ifn (by decide) ?_)) <;> exact ⟨by rw [← hf], rfl⟩
theorem BnC_at {q j : Nat} (h : BnC I n V) (h7 : n ≤ 7) (hn : numP n q j) : I 20 0 (chP (q, j, 0, 0)) = iZ (V q j : Int) ∧ chP (q, j, 0, 0) < 47 := by
  unfold numP at hn
  obtain ⟨h1, h2, h3⟩ := h
  unfold chP
  by_cases hq6 : q < 6
  · rw [if_pos hq6]
    exact ⟨h2 j q (by omega) hq6, by show 6 * j + q < 47; omega⟩
  · rw [if_neg hq6]
    have hj : j = 0 := by omega
    subst hj
    exact ⟨h3 q (by omega) (by omega), by show 36 + q < 47; omega⟩
/-- both answer alike, nothing changes -/
theorem Op.bo {y z : Nat} {as : List AV} (h : ∀ (g : Sg) (c : Nat) (I : IM) (J : JM) (b : Bool), XR g I J b → MR g I J → SOK g c → ∃ v, Pu 900 y (vr 9 0 :: as) I J b v ∧ Pu 900 z (vr 10 0 :: as) I J b v) : Op y z as := by
  intro g c I J b hc hX hM hO
  obtain ⟨v, h1, h2⟩ := h g c I J b hX hM hO
  refine h1.mono ?_
  rintro r h ⟨rfl, rfl⟩
  exact op_same hc hX hM hO h2
theorem op_of (x y : Int32) : Op 83 149 [vi x, vi y] := Op.bo (fun g c I J b hX hM hO => by
  have n7 := hO.1.1
  obtain ⟨w1, w2, w3, w4, w5⟩ : DeC 1 0 I (gD g) := hX.2.2.2.2.2.2.2.1
  obtain ⟨m1, m2, m3, m4, m5, m6, m7, m8, m9⟩ : DeM I (gD g) := hM.2.2.2.2.2.2.2.1
  by_cases hy : y.toInt = 11
  · by_cases hx : x.toInt = 0
    · refine ⟨iZ ((gD g).2.1 : Int), t_X9_of (D := 899) _ _ I J b ?_, t_X10_of (D := 899) _ _ I J b ?_⟩
      · exact ift (c_ne (m := 0) rfl) (fun z => absurd hx z) (fun _ => ift (c_ne (m := 11) rfl) (fun z => absurd hy z) (fun _ => ⟨by rw [w1.2.2.2.2.1], rfl⟩))
      · exact ift (c_ne (m := 11) rfl) (fun z => absurd hy z) (fun _ => ift (c_ne (m := 0) rfl) (fun z => absurd hx z) (fun _ => ⟨by rw [m1], rfl⟩))
    · refine ⟨-1, t_X9_of (D := 899) _ _ I J b ?_, t_X10_of (D := 899) _ _ I J b ?_⟩
      · refine ift (c_ne (m := 0) rfl) (fun _ => ift (c_ne (m := 0) rfl) (fun _ => ?_) (fun z => absurd hx z)) (fun z => absurd hx z)
        refine (p_place_n (D := 898) hX.1.1 n7 (by unfold numOK; omega)).use ?_
        exact ifn (by decide) ⟨rfl, rfl⟩
      · exact ift (c_ne (m := 11) rfl) (fun z => absurd hy z) (fun _ => ift (c_ne (m := 0) rfl) (fun _ => ⟨rfl, rfl⟩) (fun z => absurd hx z))
  by_cases hy2 : y.toInt = 12
  · by_cases hx : x.toInt = 0
    · refine ⟨iZ (bs (gD g).1 : Int), t_X9_of (D := 899) _ _ I J b ?_, t_X10_of (D := 899) _ _ I J b ?_⟩
      · exact ift (c_ne (m := 0) rfl) (fun z => absurd hx z) (fun _ => ift (c_ne (m := 11) rfl) (fun _ => ift (c_ne (m := 0) rfl) (fun z => absurd hx z) (fun _ => ift (c_ne (m := 12) rfl) (fun z => absurd hy2 z) (fun _ => ⟨by rw [w1.2.2.2.1, List.drop_zero], rfl⟩))) (fun z => absurd hy z))
      · exact ift (c_ne (m := 11) rfl) (fun _ => ift (c_ne (m := 12) rfl) (fun z => absurd hy2 z) (fun _ => ift (c_ne (m := 0) rfl) (fun z => absurd hx z) (fun _ => ⟨by rw [m2], rfl⟩))) (fun z => absurd hy z)
    · refine ⟨-1, t_X9_of (D := 899) _ _ I J b ?_, t_X10_of (D := 899) _ _ I J b ?_⟩
      · refine ift (c_ne (m := 0) rfl) (fun _ => ift (c_ne (m := 0) rfl) (fun _ => ?_) (fun z => absurd hx z)) (fun z => absurd hx z)
        refine (p_place_n (D := 898) hX.1.1 n7 (by unfold numOK; omega)).use ?_
        exact ifn (by decide) ⟨rfl, rfl⟩
      · exact ift (c_ne (m := 11) rfl) (fun _ => ift (c_ne (m := 12) rfl) (fun z => absurd hy2 z) (fun _ => ift (c_ne (m := 0) rfl) (fun _ => ⟨rfl, rfl⟩) (fun z => absurd hx z))) (fun z => absurd hy z)
  have hcl : ∀ v, (Call 899 9 [vr 1 0, vi x, vi y] (101, I, J, R0 b) (RIf b fun x1 I2 J3 => if 0 ≤ x1 then (Call 899 257 [vr 1 0, vi x1] (101, I2, J3, R0 b) (RIf b fun x4 I5 J6 => (some (vi x4) = some (vi v) ∧ (101, I5, J6, R0 b) = (101, I, J, R0 b)))) else (some (vi (-1)) = some (vi v) ∧ (101, I2, J3, R0 b) = (101, I, J, R0 b)))) → Pu 900 83 [vr 9 0, vi x, vi y] I J b v := fun v h => t_X9_of (D := 899) _ _ I J b (ift (c_ne (m := 0) rfl) (fun c1 => ift (c_ne (m := 0) rfl) (fun _ => h) (fun z => absurd c1 z)) (fun c1 => ift (c_ne (m := 11) rfl) (fun _ => ift (c_ne (m := 0) rfl) (fun z => absurd z c1) (fun _ => ift (c_ne (m := 12) rfl) (fun _ => h) (fun z => absurd hy2 z))) (fun z => absurd hy z)))
  by_cases hn : numOK (gN g) x y
  · have hn1 := hn
    obtain ⟨q, j, hp, rfl, rfl⟩ := numOK_ex hn
    obtain ⟨e1, e2⟩ := BnC_at hX.1 n7 hp
    refine ⟨iZ (gV g q j : Int), hcl _ ?_, t_X10_of (D := 899) _ _ I J b ?_⟩
    · refine (p_place_y (D := 898) hX.1.1 n7 hp).use ?_
      exact ifp (by rw [i_0]; exact tle (by omega) (by omega) (by omega)) ((p_read (D := 898) e2).use ⟨by rw [e1], rfl⟩)
    · refine ift (c_ne (m := 11) rfl) (fun _ => ift (c_ne (m := 12) rfl) (fun _ => ?_) (fun z => absurd hy2 z)) (fun z => absurd hy z)
      refine (p_one_y (D := 896) hM.bn.1 n7 hn1).use (ifn (by decide) ?_)
      exact (p_valueAt (D := 898) hM.bn n7 hp).use ⟨rfl, rfl⟩
  · refine ⟨-1, hcl _ ?_, t_X10_of (D := 899) _ _ I J b ?_⟩
    · exact (p_place_n (D := 898) hX.1.1 n7 hn).use (ifn (by decide) ⟨rfl, rfl⟩)
    · refine ift (c_ne (m := 11) rfl) (fun _ => ift (c_ne (m := 12) rfl) (fun _ => ?_) (fun z => absurd hy2 z)) (fun z => absurd hy z)
      exact (p_one_n (D := 896) hM.bn.1 n7 hn).use (ifp rfl ⟨rfl, rfl⟩))
end OF
