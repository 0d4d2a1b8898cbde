/-! THE LAW WORKED OUT: words as they stand behind each other; both machines -/
def cs (b : Bool) : Nat := bif b then 28 else 27
set_option maxRecDepth 20000 in
theorem t_wo4 {D : Nat} (l1 : Int32) (l2 : Int32) (I : IM) (J : JM) (b : Bool) {Q : Option AV → AH → Prop} (h : (if (I 3 0 6) ≤ l2 then Q (some (vi 0)) (101, I, J, R0 b) else (vp_in l2 256 ∧ (if (I (cs b) 0 l2.toNatClampNeg) < (200 : Int32) then (if (1 : Int32) ≤ l1 then (if ¬ (I (cs b) 0 l2.toNatClampNeg) = (59 : Int32) then (if ¬ (I (cs b) 0 l2.toNatClampNeg) = (63 : Int32) then (if (I (cs b) 0 l2.toNatClampNeg) = (33 : Int32) then (vp_in (l1 - (1 : Int32)) 128 ∧ (if ¬ (I (cs b) 0 l2.toNatClampNeg) = (78 : Int32) then (if ¬ (I 25 0 (l1 - (1 : Int32)).toNatClampNeg) = 0 then (Call D 31 [vi 0] (101, I, J, R0 b) (RIf b fun x1 I2 J3 => (vp_in (l1 - (1 : Int32)) 128 ∧ WP D 30 4 [vr 3 0, vi l1, vi (l2 + 1), vn, vn] [] (101, (updI I2 25 0 (l1 - (1 : Int32)).toNatClampNeg x1), J3, R0 b) Q))) else (Call D 31 [vi 1] (101, I, J, R0 b) (RIf b fun x4 I5 J6 => (vp_in (l1 - (1 : Int32)) 128 ∧ WP D 30 4 [vr 3 0, vi l1, vi (l2 + 1), vn, vn] [] (101, (updI I5 25 0 (l1 - (1 : Int32)).toNatClampNeg x4), J6, R0 b) Q)))) else (vp_in (l1 - (1 : Int32)) 128 ∧ WP D 30 4 [vr 3 0, vi l1, vi (l2 + 1), vn, vn] [] (101, (updI I 25 0 (l1 - (1 : Int32)).toNatClampNeg (-(I 25 0 (l1 - (1 : Int32)).toNatClampNeg))), J, R0 b) Q))) else (if ¬ (I (cs b) 0 l2.toNatClampNeg) = (78 : Int32) then (if (2 : Int32) ≤ l1 then (vp_in ((l1 + (-1)) - (1 : Int32)) 128 ∧ (vp_in (l1 + (-1)) 128 ∧ (Call D 32 [vi (I (cs b) 0 l2.toNatClampNeg), vi (I 25 0 ((l1 + (-1)) - (1 : Int32)).toNatClampNeg), vi (I 25 0 (l1 + (-1)).toNatClampNeg)] (101, I, J, R0 b) (RIf b fun x7 I8 J9 => (vp_in ((l1 + (-1)) - (1 : Int32)) 128 ∧ WP D 30 4 [vr 3 0, vi (l1 + (-1)), vi (l2 + 1), vn, vn] [] (101, (updI I8 25 0 ((l1 + (-1)) - (1 : Int32)).toNatClampNeg x7), J9, R0 b) Q))))) else Q (some (vi 0)) (101, I, J, R0 b)) else (vp_in (l1 - (1 : Int32)) 128 ∧ (if ¬ (I (cs b) 0 l2.toNatClampNeg) = (78 : Int32) then (if ¬ (I 25 0 (l1 - (1 : Int32)).toNatClampNeg) = 0 then (Call D 31 [vi 0] (101, I, J, R0 b) (RIf b fun x10 I11 J12 => (vp_in (l1 - (1 : Int32)) 128 ∧ WP D 30 4 [vr 3 0, vi l1, vi (l2 + 1), vn, vn] [] (101, (updI I11 25 0 (l1 - (1 : Int32)).toNatClampNeg x10), J12, R0 b) Q))) else (Call D 31 [vi 1] (101, I, J, R0 b) (RIf b fun x13 I14 J15 => (vp_in (l1 - (1 : Int32)) 128 ∧ WP D 30 4 [vr 3 0, vi l1, vi (l2 + 1), vn, vn] [] (101, (updI I14 25 0 (l1 - (1 : Int32)).toNatClampNeg x13), J15, R0 b) Q)))) else (vp_in (l1 - (1 : Int32)) 128 ∧ WP D 30 4 [vr 3 0, vi l1, vi (l2 + 1), vn, vn] [] (101, (updI I 25 0 (l1 - (1 : Int32)).toNatClampNeg (-(I 25 0 (l1 - (1 : Int32)).toNatClampNeg))), J, R0 b) Q))))) else (if (I 3 0 6) ≤ (l2 + (1 : Int32)) then (vp_in (l1 + (-1)) 128 ∧ (if ¬ (I 25 0 (l1 + (-1)).toNatClampNeg) = 0 then WP D 30 4 [vr 3 0, vi (l1 + (-1)), vi ((l2 + (1 : Int32)) + 1), vn, vn] [] (101, I, J, R0 b) Q else WP D 30 4 [vr 3 0, vi (l1 + (-1)), vi ((if l2 < ((I 3 0 6) - (1 : Int32)) then ((I 3 0 6) - (1 : Int32)) else l2) + 1), vn, vn] [] (101, I, J, R0 b) Q)) else (vp_in (l2 + (1 : Int32)) 256 ∧ (vp_in (l1 + (-1)) 128 ∧ (if ¬ (I 25 0 (l1 + (-1)).toNatClampNeg) = 0 then WP D 30 4 [vr 3 0, vi (l1 + (-1)), vi ((l2 + (1 : Int32)) + 1), vn, vn] [] (101, I, J, R0 b) Q else WP D 30 4 [vr 3 0, vi (l1 + (-1)), vi ((if l2 < ((I (cs b) 0 (l2 + (1 : Int32)).toNatClampNeg) - (1 : Int32)) then ((I (cs b) 0 (l2 + (1 : Int32)).toNatClampNeg) - (1 : Int32)) else l2) + 1), vn, vn] [] (101, I, J, R0 b) Q))))) else (vp_in (l1 - (1 : Int32)) 128 ∧ Q (some (vi (I 25 0 (l1 - (1 : Int32)).toNatClampNeg))) (101, I, J, R0 b))) else Q (some (vi 0)) (101, I, J, R0 b)) else (if l1 < (128 : Int32) then (Call D 259 [vr 3 0, vi (I (cs b) 0 l2.toNatClampNeg)] (101, I, J, R0 b) (RIf b fun x16 I17 J18 => (vp_in l1 128 ∧ WP D 30 4 [vr 3 0, vi (l1 + 1), vi (l2 + 1), vn, vn] [] (101, (updI I17 25 0 l1.toNatClampNeg x16), J18, R0 b) Q))) else Q (some (vi 0)) (101, I, J, R0 b)))))) : WP D 30 4 [vr 3 0, vi l1, vi l2, vn, vn] [] (101, I, J, R0 b) Q := by
  cases b
  · exact t_X3_workOut_f_4 l1 l2 I J h
  · exact t_X3_workOut_t_4 l1 l2 I J h
def bop (w : Nat) (a b : Int32) : Int32 :=
  if w = 38 then (if a = 0 then 0 else if b = 0 then 0 else 1)
  else if w = 42 then a * b
  else if w = 43 then a + b
  else if w = 45 then a - b
  else if w = 47 then (if b = 0 then 0 else a / b)
  else if w = 60 then (if b ≤ a then 0 else 1)
  else if w = 61 then (if a = b then 1 else 0)
  else if w = 62 then (if a ≤ b then 0 else 1)
  else if w = 124 then (if a = 0 then (if b = 0 then 0 else 1) else 1)
  else (if b = 0 then 0 else a - a / b * b)
def isOp (w : Nat) : Prop := w = 38 ∨ w = 42 ∨ w = 43 ∨ w = 45 ∨ w = 47 ∨ w = 60 ∨ w = 61 ∨ w = 62 ∨ w = 124 ∨ w = 37
def tkOK (w : Nat) : Prop := (1000 ≤ w ∧ w ≤ 10999) ∨ (200 ≤ w ∧ w < 206) ∨ w = 33 ∨ w = 78 ∨ isOp w
def tkS (fc : Nat → Int32) (w : Nat) (s : List Int32) : Option (List Int32) :=
  if 1000 ≤ w then some (iZ ((w : Int) - 1000) :: s)
  else if 200 ≤ w then some (fc (w - 200) :: s)
  else if w = 33 then (match s with
    | a :: r => some ((if a = 0 then 1 else 0) :: r)
    | [] => none)
  else if w = 78 then (match s with
    | a :: r => some (-a :: r)
    | [] => none)
  else (match s with
    | b :: a :: r => some (bop w a b :: r)
    | _ => none)
def evT (fc : Nat → Int32) : List Nat → List Int32 → Option (List Int32)
  | [], s => some s
  | w :: T, s => match tkS fc w s with
    | none => none
    | some s1 => evT fc T s1
section OPS
variable {D : Nat} {I : IM} {J : JM} {b : Bool}
theorem p_tr0 : Pu (D + 1) 31 [vi 0] I J b 0 := t_X3_truth 0 I J b (ifp rfl ⟨rfl, rfl⟩)
theorem p_tr1 : Pu (D + 1) 31 [vi 1] I J b 1 := t_X3_truth 1 I J b (ifn (by decide) ⟨rfl, rfl⟩)
theorem p_join {w : Nat} {x y : Int32} (hw : isOp w) : Pu (D + 2) 32 [vi (iZ (w : Int)), vi x, vi y] I J b (bop w x y) := by
  refine t_X3_join _ _ _ I J b ?_
  rcases hw with rfl | rfl | rfl | rfl | rfl | rfl | rfl | rfl | rfl | rfl
  · refine ifp rfl ?_
    refine ifs (fun c => p_tr0.use ⟨?_, rfl⟩) (fun c => ifs (fun c2 => p_tr0.use ⟨?_, rfl⟩) (fun c2 => p_tr1.use ⟨?_, rfl⟩))
    · simp [bop, c]
    · simp [bop, c, c2]
    · simp [bop, c, c2]
  · refine ifn (by decide) ?_
    refine ifp rfl ?_
    exact ⟨rfl, rfl⟩
  · refine ifn (by decide) ?_
    refine ifn (by decide) ?_
    refine ifp rfl ?_
    exact ⟨rfl, rfl⟩
  · refine ifn (by decide) ?_
    refine ifn (by decide) ?_
    refine ifn (by decide) ?_
    refine ifp rfl ?_
    exact ⟨rfl, rfl⟩
  · refine ifn (by decide) ?_
    refine ifn (by decide) ?_
    refine ifn (by decide) ?_
    refine ifn (by decide) ?_
    refine ifp rfl ?_
    refine ifs (fun c => ⟨c, ?_, rfl⟩) (fun c => ⟨?_, rfl⟩)
    · simp [bop, c]
    · simp [bop, Classical.not_not.mp c]
  · refine ifn (by decide) ?_
    refine ifn (by decide) ?_
    refine ifn (by decide) ?_
    refine ifn (by decide) ?_
    refine ifn (by decide) ?_
    refine ifp rfl ?_
    refine ifs (fun c => p_tr0.use ⟨?_, rfl⟩) (fun c => p_tr1.use ⟨?_, rfl⟩)
    · simp [bop, c]
    · simp [bop, c]
  · refine ifn (by decide) ?_
    refine ifn (by decide) ?_
    refine ifn (by decide) ?_
    refine ifn (by decide) ?_
    refine ifn (by decide) ?_
    refine ifn (by decide) ?_
    refine ifp rfl ?_
    refine ifs (fun c => p_tr0.use ⟨?_, rfl⟩) (fun c => p_tr1.use ⟨?_, rfl⟩)
    · simp [bop, c]
    · simp [bop, Classical.not_not.mp c]
  · refine ifn (by decide) ?_
    refine ifn (by decide) ?_
    refine ifn (by decide) ?_
    refine ifn (by decide) ?_
    refine ifn (by decide) ?_
    refine ifn (by decide) ?_
    refine ifn (by decide) ?_
    refine ifp rfl ?_
    refine ifs (fun c => p_tr0.use ⟨?_, rfl⟩) (fun c => p_tr1.use ⟨?_, rfl⟩)
    · simp [bop, c]
    · simp [bop, c]
  · refine ifn (by decide) ?_
    refine ifn (by decide) ?_
    refine ifn (by decide) ?_
    refine ifn (by decide) ?_
    refine ifn (by decide) ?_
    refine ifn (by decide) ?_
    refine ifn (by decide) ?_
    refine ifn (by decide) ?_
    refine ifp rfl ?_
    refine ifs (fun c => p_tr1.use ⟨?_, rfl⟩) (fun c => ifs (fun c2 => p_tr0.use ⟨?_, rfl⟩) (fun c2 => p_tr1.use ⟨?_, rfl⟩))
    · simp [bop, c]
    · simp [bop, Classical.not_not.mp c, c2]
    · simp [bop, Classical.not_not.mp c, c2]
  · refine ifn (by decide) ?_
    refine ifn (by decide) ?_
    refine ifn (by decide) ?_
    refine ifn (by decide) ?_
    refine ifn (by decide) ?_
    refine ifn (by decide) ?_
    refine ifn (by decide) ?_
    refine ifn (by decide) ?_
    refine ifn (by decide) ?_
    refine ifs (fun c => ⟨c, ?_, rfl⟩) (fun c => ⟨?_, rfl⟩)
    · simp [bop, c]
    · simp [bop, Classical.not_not.mp c]
theorem div_m1 (x : Int32) : x / (-1) = -x := by
  apply Int32.toInt_inj.1
  have e : (-1 : Int32).toInt = -1 := rfl
  rw [Int32.toInt_div, e, Int32.toInt_neg, Int.tdiv_neg, Int.tdiv_one]
theorem p_twoOf {w : Nat} {x y : Int32} (hw : isOp w) : Pu (D + 1) 165 [vi (iZ (w : Int)), vi x, vi y] I J b (bop w x y) := by
  refine t_X10_twoOf _ _ _ I J b ?_
  rcases hw with rfl | rfl | rfl | rfl | rfl | rfl | rfl | rfl | rfl | rfl
  · refine ifn (by decide) ?_
    refine ifp rfl ?_
    refine ifs (fun c => ⟨?_, rfl⟩) (fun c => ifs (fun c2 => ⟨?_, rfl⟩) (fun c2 => ⟨?_, rfl⟩))
    · simp [bop, c]
    · simp [bop, c, c2]
    · simp [bop, c, c2]
  · refine ifn (by decide) ?_
    refine ifn (by decide) ?_
    refine ifn (by decide) ?_
    refine ifn (by decide) ?_
    refine ifn (by decide) ?_
    refine ifp rfl ?_
    exact ⟨rfl, rfl⟩
  · refine ifn (by decide) ?_
    refine ifn (by decide) ?_
    refine ifn (by decide) ?_
    refine ifn (by decide) ?_
    refine ifn (by decide) ?_
    refine ifn (by decide) ?_
    refine ifp rfl ?_
    exact ⟨rfl, rfl⟩
  · refine ifn (by decide) ?_
    refine ifn (by decide) ?_
    refine ifn (by decide) ?_
    refine ifn (by decide) ?_
    refine ifn (by decide) ?_
    refine ifn (by decide) ?_
    refine ifn (by decide) ?_
    refine ifn (by decide) ?_
    refine ifp rfl ?_
    exact ⟨rfl, rfl⟩
  · refine ifn (by decide) ?_
    refine ifn (by decide) ?_
    refine ifn (by decide) ?_
    refine ifn (by decide) ?_
    refine ifn (by decide) ?_
    refine ifn (by decide) ?_
    refine ifn (by decide) ?_
    refine ifn (by decide) ?_
    refine ifn (by decide) ?_
    refine ifn (by decide) ?_
    refine ifp rfl ?_
    refine ifs (fun c => ifs (fun c2 => ⟨c, ?_, rfl⟩) (fun c2 => ⟨?_, rfl⟩)) (fun c => ⟨?_, rfl⟩)
    · simp [bop, c]
    · have c3 := Classical.not_not.mp c2
      subst c3
      rw [← div_m1]
      rfl
    · simp [bop, Classical.not_not.mp c]
  · refine ifn (by decide) ?_
    refine ifn (by decide) ?_
    refine ifn (by decide) ?_
    refine ifn (by decide) ?_
    refine ifn (by decide) ?_
    refine ifn (by decide) ?_
    refine ifn (by decide) ?_
    refine ifn (by decide) ?_
    refine ifn (by decide) ?_
    refine ifn (by decide) ?_
    refine ifn (by decide) ?_
    refine ifn (by decide) ?_
    refine ifn (by decide) ?_
    refine ifn (by decide) ?_
    refine ifn (by decide) ?_
    refine ifn (by decide) ?_
    refine ifn (by decide) ?_
    refine ifn (by decide) ?_
    refine ifn (by decide) ?_
    refine ifn (by decide) ?_
    refine ifn (by decide) ?_
    refine ifn (by decide) ?_
    refine ifn (by decide) ?_
    refine ifp rfl ?_
    refine ifs (fun c => ⟨?_, rfl⟩) (fun c => ⟨?_, rfl⟩)
    · simp [bop, c]
    · simp [bop, c]
  · refine ifn (by decide) ?_
    refine ifn (by decide) ?_
    refine ifn (by decide) ?_
    refine ifn (by decide) ?_
    refine ifn (by decide) ?_
    refine ifn (by decide) ?_
    refine ifn (by decide) ?_
    refine ifn (by decide) ?_
    refine ifn (by decide) ?_
    refine ifn (by decide) ?_
    refine ifn (by decide) ?_
    refine ifn (by decide) ?_
    refine ifn (by decide) ?_
    refine ifn (by decide) ?_
    refine ifn (by decide) ?_
    refine ifn (by decide) ?_
    refine ifn (by decide) ?_
    refine ifn (by decide) ?_
    refine ifn (by decide) ?_
    refine ifn (by decide) ?_
    refine ifn (by decide) ?_
    refine ifn (by decide) ?_
    refine ifn (by decide) ?_
    refine ifn (by decide) ?_
    refine ifp rfl ?_
    refine ifs (fun c => ⟨?_, rfl⟩) (fun c => ⟨?_, rfl⟩)
    · simp [bop, c]
    · simp [bop, Classical.not_not.mp c]
  · refine ifn (by decide) ?_
    refine ifn (by decide) ?_
    refine ifn (by decide) ?_
    refine ifn (by decide) ?_
    refine ifn (by decide) ?_
    refine ifn (by decide) ?_
    refine ifn (by decide) ?_
    refine ifn (by decide) ?_
    refine ifn (by decide) ?_
    refine ifn (by decide) ?_
    refine ifn (by decide) ?_
    refine ifn (by decide) ?_
    refine ifn (by decide) ?_
    refine ifn (by decide) ?_
    refine ifn (by decide) ?_
    refine ifn (by decide) ?_
    refine ifn (by decide) ?_
    refine ifn (by decide) ?_
    refine ifn (by decide) ?_
    refine ifn (by decide) ?_
    refine ifn (by decide) ?_
    refine ifn (by decide) ?_
    refine ifn (by decide) ?_
    refine ifn (by decide) ?_
    refine ifn (by decide) ?_
    refine ifp rfl ?_
    refine ifs (fun c => ⟨?_, rfl⟩) (fun c => ⟨?_, rfl⟩)
    · simp [bop, c]
    · simp [bop, c]
  · refine ifn (by decide) ?_
    refine ifn (by decide) ?_
    refine ifn (by decide) ?_
    refine ifn (by decide) ?_
    refine ifn (by decide) ?_
    refine ifn (by decide) ?_
    refine ifn (by decide) ?_
    refine ifn (by decide) ?_
    refine ifn (by decide) ?_
    refine ifn (by decide) ?_
    refine ifn (by decide) ?_
    refine ifn (by decide) ?_
    refine ifn (by decide) ?_
    refine ifn (by decide) ?_
    refine ifn (by decide) ?_
    refine ifn (by decide) ?_
    refine ifn (by decide) ?_
    refine ifn (by decide) ?_
    refine ifn (by decide) ?_
    refine ifn (by decide) ?_
    refine ifn (by decide) ?_
    refine ifn (by decide) ?_
    refine ifn (by decide) ?_
    refine ifn (by decide) ?_
    refine ifn (by decide) ?_
    refine ifn (by decide) ?_
    refine ifs (fun c => ⟨?_, rfl⟩) (fun c => ifs (fun c2 => ⟨?_, rfl⟩) (fun c2 => ⟨?_, rfl⟩))
    · simp [bop, c]
    · simp [bop, Classical.not_not.mp c, c2]
    · simp [bop, Classical.not_not.mp c, c2]
  · refine ifp rfl ?_
    refine ifs (fun c => ⟨?_, rfl⟩) (fun c => ifs (fun c2 => ⟨c, ?_, rfl⟩) (fun c2 => ⟨?_, rfl⟩))
    · simp [bop, c]
    · simp [bop, c]
    · have c3 := Classical.not_not.mp c2
      subst c3
      have e : x - x / (-1) * (-1) = 0 := by
        rw [div_m1, Int32.neg_mul, Int32.mul_neg, Int32.mul_one, Int32.neg_neg, Int32.sub_self]
      simp only [bop]
      rw [e]
      rfl
end OPS
