/-! TREES, by program (wip/whole/gen16.py): what each method does between its cuts -/
set_option maxRecDepth 20000 in
theorem t_X10_in {D : Nat} (l0 : Int32) (l1 : Int32) (l2 : Int32) (I : IM) (J : JM) (b : Bool) {Q : Option AV → AH → Prop} (h : (if l0 < l1 then Q (some (vi 0)) (101, I, J, R0 b) else (if l2 < l0 then Q (some (vi 0)) (101, I, J, R0 b) else Q (some (vi 1)) (101, I, J, R0 b)))) : Call (D + 1) 135 [vi l0, vi l1, vi l2] (101, I, J, R0 b) Q := by
  refine Call.of rfl ?_
  show WP D 135 0 [vi l0, vi l1, vi l2] [] (101, I, J, R0 b) Q
  refine WP.blk (pc' := 2) (L' := [vi l0, vi l1, vi l2]) (st' := [vi l1, vi l0]) (h' := (101, I, J, R0 b)) 2 rfl ?_
  refine WP.icmp_lt (t := 14) (L' := [vi l0, vi l1, vi l2]) rfl rfl rfl rfl h (fun h => ?_) (fun h => ?_)
  · refine WP.blk (pc' := 15) (L' := [vn, vn, vn]) (st' := [vi 0]) (h' := (101, I, J, R0 b)) 1 rfl ?_
    exact WP.ret rfl rfl h
  · refine WP.blk (pc' := 7) (L' := [vi l0, vi l1, vi l2]) (st' := [vi l2, vi l0]) (h' := (101, I, J, R0 b)) 2 rfl ?_
    refine WP.icmp_gt (t := 14) (L' := [vi l0, vi l1, vi l2]) rfl rfl rfl rfl h (fun h => ?_) (fun h => ?_)
    · refine WP.blk (pc' := 15) (L' := [vn, vn, vn]) (st' := [vi 0]) (h' := (101, I, J, R0 b)) 1 rfl ?_
      exact WP.ret rfl rfl h
    · refine WP.blk (pc' := 15) (L' := [vi l0, vi l1, vi l2]) (st' := [vi 1]) (h' := (101, I, J, R0 b)) 2 rfl ?_
      exact WP.ret rfl rfl h
set_option maxRecDepth 20000 in
theorem t_X10_bitsOf {D : Nat} (l0 : Int32) (I : IM) (J : JM) (b : Bool) {Q : Option AV → AH → Prop} (h : WP D 136 4 [vn, vi 0, vi l0] [] (101, I, J, R0 b) Q) : Call (D + 1) 136 [vi l0] (101, I, J, R0 b) Q := by
  refine Call.of rfl ?_
  show WP D 136 0 [vi l0, vn, vn] [] (101, I, J, R0 b) Q
  refine WP.blk (pc' := 4) (L' := [vi l0, vi 0, vi l0]) (st' := []) (h' := (101, I, J, R0 b)) 4 rfl ?_
  exact WP.mask rfl rfl h
set_option maxRecDepth 20000 in
theorem t_X10_bitsOf_4 {D : Nat} (l1 : Int32) (l2 : Int32) (I : IM) (J : JM) (b : Bool) {Q : Option AV → AH → Prop} (h : (if l2 = 0 then Q (some (vi l1)) (101, I, J, R0 b) else WP D 136 4 [vn, vi (l1 + 1), vi (l2 &&& (l2 - (1 : Int32)))] [] (101, I, J, R0 b) Q)) : WP D 136 4 [vn, vi l1, vi l2] [] (101, I, J, R0 b) Q := by
  refine WP.blk (pc' := 5) (L' := [vn, vi l1, vi l2]) (st' := [vi l2]) (h' := (101, I, J, R0 b)) 1 rfl ?_
  refine WP.if_eq (t := 20) (L' := [vn, vi l1, vi l2]) rfl rfl rfl rfl h (fun h => ?_) (fun h => ?_)
  · refine WP.blk (pc' := 21) (L' := [vn, vi l1, vi l2]) (st' := [vi l1]) (h' := (101, I, J, R0 b)) 1 rfl ?_
    exact WP.ret rfl rfl h
  · refine WP.blk (pc' := 4) (L' := [vn, vi (l1 + 1), vi (l2 &&& (l2 - (1 : Int32)))]) (st' := []) (h' := (101, I, J, R0 b)) 8 rfl ?_
    exact WP.mask rfl rfl h
set_option maxRecDepth 20000 in
theorem t_X10_isJoint {D : Nat} (l1 : Int32) (I : IM) (J : JM) (b : Bool) {Q : Option AV → AH → Prop} (h : (Call D 135 [vi l1, vi 0, vi ((I 10 0 1) - (1 : Int32))] (101, I, J, R0 b) (RIf b fun x1 I2 J3 => (x1 &&& 1 = x1 ∧ Q (some (vi x1)) (101, I2, J3, R0 b))))) : Call (D + 1) 137 [vr 10 0, vi l1] (101, I, J, R0 b) Q := by
  refine Call.of rfl ?_
  show WP D 137 0 [vr 10 0, vi l1] [] (101, I, J, R0 b) Q
  refine WP.blk (pc' := 8) (L' := [vr 10 0, vi l1]) (st' := [vi ((I 10 0 1) - (1 : Int32)), vi 0, vi l1]) (h' := (101, I, J, R0 b)) 6 rfl ?_
  refine WP.cal (y' := 135) (as := [vi l1, vi 0, vi ((I 10 0 1) - (1 : Int32))]) (L' := [vr 10 0, vi l1]) (rest := []) rfl (fun f r h' hf => callS_ok hf rfl rfl rfl) h ?_
  rintro _ _ ⟨x1, I2, J3, rfl, rfl, h⟩
  exact WP.retg (b := decide (x1 &&& 1 = x1) || false) rfl (by rw [decide_eq_true h.1]; rfl) rfl h.2
set_option maxRecDepth 20000 in
theorem t_X10_addJoint {D : Nat} (l1 : Int32) (l2 : Int32) (l3 : Int32) (I : IM) (J : JM) (b : Bool) {Q : Option AV → AH → Prop} (h : (vp_in (I 10 0 1) 7 ∧ (vp_in (I 10 0 1) 7 ∧ (vp_in (I 10 0 1) 7 ∧ (vp_in (I 10 0 1) 7 ∧ (vp_in (I 10 0 1) 7 ∧ (vp_in (I 10 0 1) 7 ∧ Q (some (vi (((I 10 0 1) + (1 : Int32)) - (1 : Int32)))) (101, (updI (updI (updI (updI (updI (updI (updI I 43 0 (I 10 0 1).toNatClampNeg l1) 44 0 (I 10 0 1).toNatClampNeg l2) 45 0 (I 10 0 1).toNatClampNeg l3) 46 0 (I 10 0 1).toNatClampNeg 1) 47 0 (I 10 0 1).toNatClampNeg 0) 48 0 (I 10 0 1).toNatClampNeg 0) 10 0 1 ((I 10 0 1) + (1 : Int32))), J, R0 b)))))))) : Call (D + 1) 138 [vr 10 0, vi l1, vi l2, vi l3] (101, I, J, R0 b) Q := by
  refine Call.of rfl ?_
  show WP D 138 0 [vr 10 0, vi l1, vi l2, vi l3] [] (101, I, J, R0 b) Q
  refine WP.blk (pc' := 9) (L' := [vr 10 0, vi l1, vi l2, vi l3]) (st' := [vi l1, vi (I 10 0 1), vr 43 0]) (h' := (101, I, J, R0 b)) 5 rfl ?_
  refine WP.step (pc' := 10) (L' := [vr 10 0, vi l1, vi l2, vi l3]) (st' := []) (h' := (101, (updI I 43 0 (I 10 0 1).toNatClampNeg l1), J, R0 b)) rfl (iastore_ok (n := 7) rfl rfl rfl (inA_of h.1)) ?_
  have h := And.right h
  refine WP.blk (pc' := 19) (L' := [vr 10 0, vi l1, vi l2, vi l3]) (st' := [vi l2, vi (I 10 0 1), vr 44 0]) (h' := (101, (updI I 43 0 (I 10 0 1).toNatClampNeg l1), J, R0 b)) 5 rfl ?_
  refine WP.step (pc' := 20) (L' := [vr 10 0, vi l1, vi l2, vi l3]) (st' := []) (h' := (101, (updI (updI I 43 0 (I 10 0 1).toNatClampNeg l1) 44 0 (I 10 0 1).toNatClampNeg l2), J, R0 b)) rfl (iastore_ok (n := 7) rfl rfl rfl (inA_of h.1)) ?_
  have h := And.right h
  refine WP.blk (pc' := 29) (L' := [vr 10 0, vi l1, vi l2, vi l3]) (st' := [vi l3, vi (I 10 0 1), vr 45 0]) (h' := (101, (updI (updI I 43 0 (I 10 0 1).toNatClampNeg l1) 44 0 (I 10 0 1).toNatClampNeg l2), J, R0 b)) 5 rfl ?_
  refine WP.step (pc' := 30) (L' := [vr 10 0, vi l1, vi l2, vi l3]) (st' := []) (h' := (101, (updI (updI (updI I 43 0 (I 10 0 1).toNatClampNeg l1) 44 0 (I 10 0 1).toNatClampNeg l2) 45 0 (I 10 0 1).toNatClampNeg l3), J, R0 b)) rfl (iastore_ok (n := 7) rfl rfl rfl (inA_of h.1)) ?_
  have h := And.right h
  refine WP.blk (pc' := 39) (L' := [vr 10 0, vi l1, vi l2, vi l3]) (st' := [vi 1, vi (I 10 0 1), vr 46 0]) (h' := (101, (updI (updI (updI I 43 0 (I 10 0 1).toNatClampNeg l1) 44 0 (I 10 0 1).toNatClampNeg l2) 45 0 (I 10 0 1).toNatClampNeg l3), J, R0 b)) 5 rfl ?_
  refine WP.step (pc' := 40) (L' := [vr 10 0, vi l1, vi l2, vi l3]) (st' := []) (h' := (101, (updI (updI (updI (updI I 43 0 (I 10 0 1).toNatClampNeg l1) 44 0 (I 10 0 1).toNatClampNeg l2) 45 0 (I 10 0 1).toNatClampNeg l3) 46 0 (I 10 0 1).toNatClampNeg 1), J, R0 b)) rfl (iastore_ok (n := 7) rfl rfl rfl (inA_of h.1)) ?_
  have h := And.right h
  refine WP.blk (pc' := 49) (L' := [vr 10 0, vi l1, vi l2, vi l3]) (st' := [vi 0, vi (I 10 0 1), vr 47 0]) (h' := (101, (updI (updI (updI (updI I 43 0 (I 10 0 1).toNatClampNeg l1) 44 0 (I 10 0 1).toNatClampNeg l2) 45 0 (I 10 0 1).toNatClampNeg l3) 46 0 (I 10 0 1).toNatClampNeg 1), J, R0 b)) 5 rfl ?_
  refine WP.step (pc' := 50) (L' := [vr 10 0, vi l1, vi l2, vi l3]) (st' := []) (h' := (101, (updI (updI (updI (updI (updI I 43 0 (I 10 0 1).toNatClampNeg l1) 44 0 (I 10 0 1).toNatClampNeg l2) 45 0 (I 10 0 1).toNatClampNeg l3) 46 0 (I 10 0 1).toNatClampNeg 1) 47 0 (I 10 0 1).toNatClampNeg 0), J, R0 b)) rfl (iastore_ok (n := 7) rfl rfl rfl (inA_of h.1)) ?_
  have h := And.right h
  refine WP.blk (pc' := 59) (L' := [vr 10 0, vi l1, vi l2, vi l3]) (st' := [vi 0, vi (I 10 0 1), vr 48 0]) (h' := (101, (updI (updI (updI (updI (updI I 43 0 (I 10 0 1).toNatClampNeg l1) 44 0 (I 10 0 1).toNatClampNeg l2) 45 0 (I 10 0 1).toNatClampNeg l3) 46 0 (I 10 0 1).toNatClampNeg 1) 47 0 (I 10 0 1).toNatClampNeg 0), J, R0 b)) 5 rfl ?_
  refine WP.step (pc' := 60) (L' := [vr 10 0, vi l1, vi l2, vi l3]) (st' := []) (h' := (101, (updI (updI (updI (updI (updI (updI I 43 0 (I 10 0 1).toNatClampNeg l1) 44 0 (I 10 0 1).toNatClampNeg l2) 45 0 (I 10 0 1).toNatClampNeg l3) 46 0 (I 10 0 1).toNatClampNeg 1) 47 0 (I 10 0 1).toNatClampNeg 0) 48 0 (I 10 0 1).toNatClampNeg 0), J, R0 b)) rfl (iastore_ok (n := 7) rfl rfl rfl (inA_of h.1)) ?_
  have h := And.right h
  refine WP.blk (pc' := 76) (L' := [vr 10 0, vi l1, vi l2, vi l3]) (st' := [vi (((I 10 0 1) + (1 : Int32)) - (1 : Int32))]) (h' := (101, (updI (updI (updI (updI (updI (updI (updI I 43 0 (I 10 0 1).toNatClampNeg l1) 44 0 (I 10 0 1).toNatClampNeg l2) 45 0 (I 10 0 1).toNatClampNeg l3) 46 0 (I 10 0 1).toNatClampNeg 1) 47 0 (I 10 0 1).toNatClampNeg 0) 48 0 (I 10 0 1).toNatClampNeg 0) 10 0 1 ((I 10 0 1) + (1 : Int32))), J, R0 b)) 10 rfl ?_
  exact WP.ret rfl rfl h
set_option maxRecDepth 20000 in
theorem t_X10_joint {D : Nat} (l1 : Int32) (l2 : Int32) (I : IM) (J : JM) (b : Bool) {Q : Option AV → AH → Prop} (h : (Call D 135 [vi l1, vi 1, vi 9] (101, I, J, R0 b) (RIf b fun x1 I2 J3 => (if x1 = 0 then Q (some (vi (-1))) (101, I2, J3, R0 b) else (Call D 135 [vi l2, vi 0, vi 3] (101, I2, J3, R0 b) (RIf b fun x4 I5 J6 => (if ¬ x4 = 0 then (if ¬ (I5 10 0 1) = (7 : Int32) then (Call D 138 [vr 10 0, vi l1, vi l2, vi 1] (101, I5, J6, R0 b) (RIf b fun x7 I8 J9 => Q (some (vi x7)) (101, I8, J9, R0 b))) else Q (some (vi (-3))) (101, I5, J6, R0 b)) else Q (some (vi (-1))) (101, I5, J6, R0 b)))))))) : Call (D + 1) 139 [vr 10 0, vi l1, vi l2] (101, I, J, R0 b) Q := by
  refine Call.of rfl ?_
  show WP D 139 0 [vr 10 0, vi l1, vi l2] [] (101, I, J, R0 b) Q
  refine WP.blk (pc' := 4) (L' := [vr 10 0, vi l1, vi l2]) (st' := [vi 9, vi 1, vi l1]) (h' := (101, I, J, R0 b)) 3 rfl ?_
  refine WP.cal (y' := 135) (as := [vi l1, vi 1, vi 9]) (L' := [vr 10 0, vi l1, vi l2]) (rest := []) rfl (fun f r h' hf => callS_ok hf rfl rfl rfl) h ?_
  rintro _ _ ⟨x1, I2, J3, rfl, rfl, h⟩
  refine WP.if_eq (t := 19) (L' := [vr 10 0, vi l1, vi l2]) rfl rfl rfl rfl h (fun h => ?_) (fun h => ?_)
  · refine WP.blk (pc' := 20) (L' := [vn, vn, vn]) (st' := [vi (-1)]) (h' := (101, I2, J3, R0 b)) 1 rfl ?_
    exact WP.ret rfl rfl h
  · refine WP.blk (pc' := 13) (L' := [vr 10 0, vi l1, vi l2]) (st' := [vi 3, vi 0, vi l2]) (h' := (101, I2, J3, R0 b)) 3 rfl ?_
    refine WP.cal (y' := 135) (as := [vi l2, vi 0, vi 3]) (L' := [vr 10 0, vi l1, vi l2]) (rest := []) rfl (fun f r h' hf => callS_ok hf rfl rfl rfl) h ?_
    rintro _ _ ⟨x4, I5, J6, rfl, rfl, h⟩
    refine WP.if_ne (t := 21) (L' := [vr 10 0, vi l1, vi l2]) rfl rfl rfl rfl h (fun h => ?_) (fun h => ?_)
    · refine WP.blk (pc' := 27) (L' := [vr 10 0, vi l1, vi l2]) (st' := [vi 7, vi (I5 10 0 1)]) (h' := (101, I5, J6, R0 b)) 3 rfl ?_
      refine WP.icmp_ne (t := 35) (L' := [vr 10 0, vi l1, vi l2]) rfl rfl rfl rfl h (fun h => ?_) (fun h => ?_)
      · refine WP.blk (pc' := 39) (L' := [vr 10 0, vi l1, vi l2]) (st' := [vi 1, vi l2, vi l1, vr 10 0]) (h' := (101, I5, J6, R0 b)) 4 rfl ?_
        refine WP.cal (y' := 138) (as := [vr 10 0, vi l1, vi l2, vi 1]) (L' := [vr 10 0, vi l1, vi l2]) (rest := []) rfl (fun f r h' hf => callV_ok hf rfl rfl rfl) h ?_
        rintro _ _ ⟨x7, I8, J9, rfl, rfl, h⟩
        exact WP.ret rfl rfl h
      · refine WP.blk (pc' := 42) (L' := [vr 10 0, vi l1, vi l2]) (st' := [vi (-3)]) (h' := (101, I5, J6, R0 b)) 2 rfl ?_
        exact WP.ret rfl rfl h
    · refine WP.blk (pc' := 20) (L' := [vn, vn, vn]) (st' := [vi (-1)]) (h' := (101, I5, J6, R0 b)) 1 rfl ?_
      exact WP.ret rfl rfl h
set_option maxRecDepth 20000 in
theorem t_X10_joints {D : Nat} (l1 : Int32) (l2 : Int32) (l3 : Int32) (I : IM) (J : JM) (b : Bool) {Q : Option AV → AH → Prop} (h : (Call D 237 [vi l1] (101, I, J, R0 b) (RIf b fun x1 I2 J3 => (if x1 = 0 then Q (some (vi (-1))) (101, I2, J3, R0 b) else (Call D 135 [vi l3, vi 1, vi 7] (101, I2, J3, R0 b) (RIf b fun x4 I5 J6 => (if ¬ x4 = 0 then (vp_in l1 6 ∧ (if (I5 81 0 l1.toNatClampNeg) = (-1 : Int32) then (vp_in l1 6 ∧ (if ¬ (I5 81 0 l1.toNatClampNeg) = (-1 : Int32) then WP D 140 58 [vr 10 0, vi l1, vi l2, vi l3, vi 0, vn, vn, vn] [] (101, I5, J6, R0 b) Q else Q (some (vi 0)) (101, I5, J6, R0 b))) else (vp_in l1 6 ∧ (if (I5 81 0 l1.toNatClampNeg) = (-2 : Int32) then (vp_in l1 6 ∧ (if ¬ (I5 81 0 l1.toNatClampNeg) = (-1 : Int32) then WP D 140 58 [vr 10 0, vi l1, vi l2, vi l3, vi 0, vn, vn, vn] [] (101, I5, J6, R0 b) Q else Q (some (vi 0)) (101, I5, J6, R0 b))) else Q (some (vi (-12))) (101, I5, J6, R0 b))))) else Q (some (vi (-1))) (101, I5, J6, R0 b)))))))) : Call (D + 1) 140 [vr 10 0, vi l1, vi l2, vi l3] (101, I, J, R0 b) Q := by
  refine Call.of rfl ?_
  show WP D 140 0 [vr 10 0, vi l1, vi l2, vi l3, vn, vn, vn, vn] [] (101, I, J, R0 b) Q
  refine WP.blk (pc' := 1) (L' := [vr 10 0, vi l1, vi l2, vi l3, vn, vn, vn, vn]) (st' := [vi l1]) (h' := (101, I, J, R0 b)) 1 rfl ?_
  refine WP.cal (y' := 237) (as := [vi l1]) (L' := [vr 10 0, vi l1, vi l2, vi l3, vn, vn, vn, vn]) (rest := []) rfl (fun f r h' hf => callS_ok hf rfl rfl rfl) h ?_
  rintro _ _ ⟨x1, I2, J3, rfl, rfl, h⟩
  refine WP.if_eq (t := 17) (L' := [vr 10 0, vi l1, vi l2, vi l3, vn, vn, vn, vn]) rfl rfl rfl rfl h (fun h => ?_) (fun h => ?_)
  · refine WP.blk (pc' := 18) (L' := [vn, vn, vn, vn, vn, vn, vn, vn]) (st' := [vi (-1)]) (h' := (101, I2, J3, R0 b)) 1 rfl ?_
    exact WP.ret rfl rfl h
  · refine WP.blk (pc' := 11) (L' := [vr 10 0, vi l1, vi l2, vi l3, vn, vn, vn, vn]) (st' := [vi 7, vi 1, vi l3]) (h' := (101, I2, J3, R0 b)) 3 rfl ?_
    refine WP.cal (y' := 135) (as := [vi l3, vi 1, vi 7]) (L' := [vr 10 0, vi l1, vi l2, vi l3, vn, vn, vn, vn]) (rest := []) rfl (fun f r h' hf => callS_ok hf rfl rfl rfl) h ?_
    rintro _ _ ⟨x4, I5, J6, rfl, rfl, h⟩
    refine WP.if_ne (t := 19) (L' := [vr 10 0, vi l1, vi l2, vi l3, vn, vn, vn, vn]) rfl rfl rfl rfl h (fun h => ?_) (fun h => ?_)
    · refine WP.blk (pc' := 24) (L' := [vr 10 0, vi l1, vi l2, vi l3, vn, vn, vn, vn]) (st' := [vi l1, vr 81 0]) (h' := (101, I5, J6, R0 b)) 3 rfl ?_
      refine WP.step (pc' := 25) (L' := [vr 10 0, vi l1, vi l2, vi l3, vn, vn, vn, vn]) (st' := [vi (I5 81 0 l1.toNatClampNeg)]) (h' := (101, I5, J6, R0 b)) rfl (iaload_ok (n := 6) rfl rfl rfl (inA_of h.1)) ?_
      have h := And.right h
      refine WP.blk (pc' := 26) (L' := [vr 10 0, vi l1, vi l2, vi l3, vn, vn, vn, vn]) (st' := [vi (-1), vi (I5 81 0 l1.toNatClampNeg)]) (h' := (101, I5, J6, R0 b)) 1 rfl ?_
      refine WP.icmp_eq (t := 43) (L' := [vr 10 0, vi l1, vi l2, vi l3, vn, vn, vn, vn]) rfl rfl rfl rfl h (fun h => ?_) (fun h => ?_)
      · refine WP.blk (pc' := 48) (L' := [vr 10 0, vi l1, vi l2, vi l3, vn, vn, vn, vn]) (st' := [vi l1, vr 81 0]) (h' := (101, I5, J6, R0 b)) 3 rfl ?_
        refine WP.step (pc' := 49) (L' := [vr 10 0, vi l1, vi l2, vi l3, vn, vn, vn, vn]) (st' := [vi (I5 81 0 l1.toNatClampNeg)]) (h' := (101, I5, J6, R0 b)) rfl (iaload_ok (n := 6) rfl rfl rfl (inA_of h.1)) ?_
        have h := And.right h
        refine WP.blk (pc' := 50) (L' := [vr 10 0, vi l1, vi l2, vi l3, vn, vn, vn, vn]) (st' := [vi (-1), vi (I5 81 0 l1.toNatClampNeg)]) (h' := (101, I5, J6, R0 b)) 1 rfl ?_
        refine WP.icmp_ne (t := 55) (L' := [vr 10 0, vi l1, vi l2, vi l3, vn, vn, vn, vn]) rfl rfl rfl rfl h (fun h => ?_) (fun h => ?_)
        · refine WP.blk (pc' := 58) (L' := [vr 10 0, vi l1, vi l2, vi l3, vi 0, vn, vn, vn]) (st' := []) (h' := (101, I5, J6, R0 b)) 2 rfl ?_
          exact WP.mask rfl rfl h
        · refine WP.blk (pc' := 54) (L' := [vr 10 0, vi l1, vi l2, vi l3, vn, vn, vn, vn]) (st' := [vi 0]) (h' := (101, I5, J6, R0 b)) 1 rfl ?_
          exact WP.ret rfl rfl h
      · refine WP.blk (pc' := 34) (L' := [vr 10 0, vi l1, vi l2, vi l3, vn, vn, vn, vn]) (st' := [vi l1, vr 81 0]) (h' := (101, I5, J6, R0 b)) 3 rfl ?_
        refine WP.step (pc' := 35) (L' := [vr 10 0, vi l1, vi l2, vi l3, vn, vn, vn, vn]) (st' := [vi (I5 81 0 l1.toNatClampNeg)]) (h' := (101, I5, J6, R0 b)) rfl (iaload_ok (n := 6) rfl rfl rfl (inA_of h.1)) ?_
        have h := And.right h
        refine WP.blk (pc' := 37) (L' := [vr 10 0, vi l1, vi l2, vi l3, vn, vn, vn, vn]) (st' := [vi (-2), vi (I5 81 0 l1.toNatClampNeg)]) (h' := (101, I5, J6, R0 b)) 1 rfl ?_
        refine WP.icmp_eq (t := 43) (L' := [vr 10 0, vi l1, vi l2, vi l3, vn, vn, vn, vn]) rfl rfl rfl rfl h (fun h => ?_) (fun h => ?_)
        · refine WP.blk (pc' := 48) (L' := [vr 10 0, vi l1, vi l2, vi l3, vn, vn, vn, vn]) (st' := [vi l1, vr 81 0]) (h' := (101, I5, J6, R0 b)) 3 rfl ?_
          refine WP.step (pc' := 49) (L' := [vr 10 0, vi l1, vi l2, vi l3, vn, vn, vn, vn]) (st' := [vi (I5 81 0 l1.toNatClampNeg)]) (h' := (101, I5, J6, R0 b)) rfl (iaload_ok (n := 6) rfl rfl rfl (inA_of h.1)) ?_
          have h := And.right h
          refine WP.blk (pc' := 50) (L' := [vr 10 0, vi l1, vi l2, vi l3, vn, vn, vn, vn]) (st' := [vi (-1), vi (I5 81 0 l1.toNatClampNeg)]) (h' := (101, I5, J6, R0 b)) 1 rfl ?_
          refine WP.icmp_ne (t := 55) (L' := [vr 10 0, vi l1, vi l2, vi l3, vn, vn, vn, vn]) rfl rfl rfl rfl h (fun h => ?_) (fun h => ?_)
          · refine WP.blk (pc' := 58) (L' := [vr 10 0, vi l1, vi l2, vi l3, vi 0, vn, vn, vn]) (st' := []) (h' := (101, I5, J6, R0 b)) 2 rfl ?_
            exact WP.mask rfl rfl h
          · refine WP.blk (pc' := 54) (L' := [vr 10 0, vi l1, vi l2, vi l3, vn, vn, vn, vn]) (st' := [vi 0]) (h' := (101, I5, J6, R0 b)) 1 rfl ?_
            exact WP.ret rfl rfl h
        · refine WP.blk (pc' := 42) (L' := [vr 10 0, vi l1, vi l2, vi l3, vn, vn, vn, vn]) (st' := [vi (-12)]) (h' := (101, I5, J6, R0 b)) 1 rfl ?_
          exact WP.ret rfl rfl h
    · refine WP.blk (pc' := 18) (L' := [vn, vn, vn, vn, vn, vn, vn, vn]) (st' := [vi (-1)]) (h' := (101, I5, J6, R0 b)) 1 rfl ?_
      exact WP.ret rfl rfl h
set_option maxRecDepth 20000 in
theorem t_X10_joints_58 {D : Nat} (l1 : Int32) (l2 : Int32) (l3 : Int32) (l4 : Int32) (I : IM) (J : JM) (b : Bool) {Q : Option AV → AH → Prop} (h : (if l3 ≤ l4 then Q (some (vi l3)) (101, I, J, R0 b) else (if (lg_cmp ((l2).toInt64 + (((3 : Int32) * l4)).toInt64) (0 : Int64)) < 0 then Q (some (vi l4)) (101, I, J, R0 b) else (vp_in l1 6 ∧ (if 0 ≤ (lg_cmp (((l2).toInt64 + (((3 : Int32) * l4)).toInt64) + (2 : Int64)) ((I 82 0 l1.toNatClampNeg)).toInt64) then Q (some (vi l4)) (101, I, J, R0 b) else (if ¬ (I 10 0 1) = (7 : Int32) then (vp_in (((60 : Int32) * l1) + (((l2).toInt64 + (((3 : Int32) * l4)).toInt64)).toInt32) 360 ∧ (Call D 135 [vi ((J 83 0 (((60 : Int32) * l1) + (((l2).toInt64 + (((3 : Int32) * l4)).toInt64)).toInt32).toNatClampNeg)).toInt32, vi 1, vi 9] (101, I, J, R0 b) (RIf b fun x7 I8 J9 => (if x7 = 0 then Q (some (vi l4)) (101, I8, J9, R0 b) else (vp_in ((((60 : Int32) * l1) + (((l2).toInt64 + (((3 : Int32) * l4)).toInt64)).toInt32) + (1 : Int32)) 360 ∧ (Call D 135 [vi ((J9 83 0 ((((60 : Int32) * l1) + (((l2).toInt64 + (((3 : Int32) * l4)).toInt64)).toInt32) + (1 : Int32)).toNatClampNeg)).toInt32, vi 0, vi 3] (101, I8, J9, R0 b) (RIf b fun x10 I11 J12 => (if x10 = 0 then Q (some (vi l4)) (101, I11, J12, R0 b) else (vp_in ((((60 : Int32) * l1) + (((l2).toInt64 + (((3 : Int32) * l4)).toInt64)).toInt32) + (2 : Int32)) 360 ∧ (Call D 135 [vi ((J12 83 0 ((((60 : Int32) * l1) + (((l2).toInt64 + (((3 : Int32) * l4)).toInt64)).toInt32) + (2 : Int32)).toNatClampNeg)).toInt32, vi 0, vi 2] (101, I11, J12, R0 b) (RIf b fun x13 I14 J15 => (if ¬ x13 = 0 then (vp_in (((60 : Int32) * l1) + (((l2).toInt64 + (((3 : Int32) * l4)).toInt64)).toInt32) 360 ∧ (vp_in ((((60 : Int32) * l1) + (((l2).toInt64 + (((3 : Int32) * l4)).toInt64)).toInt32) + (1 : Int32)) 360 ∧ (vp_in ((((60 : Int32) * l1) + (((l2).toInt64 + (((3 : Int32) * l4)).toInt64)).toInt32) + (2 : Int32)) 360 ∧ (Call D 138 [vr 10 0, vi ((J15 83 0 (((60 : Int32) * l1) + (((l2).toInt64 + (((3 : Int32) * l4)).toInt64)).toInt32).toNatClampNeg)).toInt32, vi ((J15 83 0 ((((60 : Int32) * l1) + (((l2).toInt64 + (((3 : Int32) * l4)).toInt64)).toInt32) + (1 : Int32)).toNatClampNeg)).toInt32, vi ((J15 83 0 ((((60 : Int32) * l1) + (((l2).toInt64 + (((3 : Int32) * l4)).toInt64)).toInt32) + (2 : Int32)).toNatClampNeg)).toInt32] (101, I14, J15, R0 b) (RIf b fun x16 I17 J18 => WP D 140 58 [vr 10 0, vi l1, vi l2, vi l3, vi (l4 + 1), vn, vn, vn] [] (101, I17, J18, R0 b) Q))))) else Q (some (vi l4)) (101, I14, J15, R0 b))))))))))))) else Q (some (vi l4)) (101, I, J, R0 b))))))) : WP D 140 58 [vr 10 0, vi l1, vi l2, vi l3, vi l4, vn, vn, vn] [] (101, I, J, R0 b) Q := by
  refine WP.blk (pc' := 61) (L' := [vr 10 0, vi l1, vi l2, vi l3, vi l4, vn, vn, vn]) (st' := [vi l3, vi l4]) (h' := (101, I, J, R0 b)) 2 rfl ?_
  refine WP.icmp_ge (t := 215) (L' := [vr 10 0, vi l1, vi l2, vi l3, vi l4, vn, vn, vn]) rfl rfl rfl rfl h (fun h => ?_) (fun h => ?_)
  · refine WP.blk (pc' := 216) (L' := [vr 10 0, vi l1, vi l2, vi l3, vi l4, vn, vn, vn]) (st' := [vi l3]) (h' := (101, I, J, R0 b)) 1 rfl ?_
    exact WP.ret rfl rfl h
  · refine WP.blk (pc' := 78) (L' := [vr 10 0, vi l1, vi l2, vi l3, vi l4, vl ((l2).toInt64 + (((3 : Int32) * l4)).toInt64), vn, vn]) (st' := [vi (lg_cmp ((l2).toInt64 + (((3 : Int32) * l4)).toInt64) (0 : Int64))]) (h' := (101, I, J, R0 b)) 11 rfl ?_
    refine WP.if_lt (t := 107) (L' := [vr 10 0, vi l1, vi l2, vi l3, vi l4, vl ((l2).toInt64 + (((3 : Int32) * l4)).toInt64), vn, vn]) rfl rfl rfl rfl h (fun h => ?_) (fun h => ?_)
    · refine WP.blk (pc' := 109) (L' := [vn, vn, vn, vn, vi l4, vn, vn, vn]) (st' := [vi l4]) (h' := (101, I, J, R0 b)) 1 rfl ?_
      exact WP.ret rfl rfl h
    · refine WP.blk (pc' := 92) (L' := [vr 10 0, vi l1, vi l2, vi l3, vi l4, vl ((l2).toInt64 + (((3 : Int32) * l4)).toInt64), vn, vn]) (st' := [vi l1, vr 82 0, vl (((l2).toInt64 + (((3 : Int32) * l4)).toInt64) + (2 : Int64))]) (h' := (101, I, J, R0 b)) 6 rfl ?_
      refine WP.step (pc' := 93) (L' := [vr 10 0, vi l1, vi l2, vi l3, vi l4, vl ((l2).toInt64 + (((3 : Int32) * l4)).toInt64), vn, vn]) (st' := [vi (I 82 0 l1.toNatClampNeg), vl (((l2).toInt64 + (((3 : Int32) * l4)).toInt64) + (2 : Int64))]) (h' := (101, I, J, R0 b)) rfl (iaload_ok (n := 6) rfl rfl rfl (inA_of h.1)) ?_
      have h := And.right h
      refine WP.blk (pc' := 95) (L' := [vr 10 0, vi l1, vi l2, vi l3, vi l4, vl ((l2).toInt64 + (((3 : Int32) * l4)).toInt64), vn, vn]) (st' := [vi (lg_cmp (((l2).toInt64 + (((3 : Int32) * l4)).toInt64) + (2 : Int64)) ((I 82 0 l1.toNatClampNeg)).toInt64)]) (h' := (101, I, J, R0 b)) 2 rfl ?_
      refine WP.if_ge (t := 107) (L' := [vr 10 0, vi l1, vi l2, vi l3, vi l4, vl ((l2).toInt64 + (((3 : Int32) * l4)).toInt64), vn, vn]) rfl rfl rfl rfl h (fun h => ?_) (fun h => ?_)
      · refine WP.blk (pc' := 109) (L' := [vn, vn, vn, vn, vi l4, vn, vn, vn]) (st' := [vi l4]) (h' := (101, I, J, R0 b)) 1 rfl ?_
        exact WP.ret rfl rfl h
      · refine WP.blk (pc' := 104) (L' := [vr 10 0, vi l1, vi l2, vi l3, vi l4, vl ((l2).toInt64 + (((3 : Int32) * l4)).toInt64), vn, vn]) (st' := [vi 7, vi (I 10 0 1)]) (h' := (101, I, J, R0 b)) 3 rfl ?_
        refine WP.icmp_ne (t := 110) (L' := [vr 10 0, vi l1, vi l2, vi l3, vi l4, vl ((l2).toInt64 + (((3 : Int32) * l4)).toInt64), vn, vn]) rfl rfl rfl rfl h (fun h => ?_) (fun h => ?_)
        · refine WP.blk (pc' := 126) (L' := [vr 10 0, vi l1, vi l2, vi l3, vi l4, vl ((l2).toInt64 + (((3 : Int32) * l4)).toInt64), vn, vi (((60 : Int32) * l1) + (((l2).toInt64 + (((3 : Int32) * l4)).toInt64)).toInt32)]) (st' := [vi (((60 : Int32) * l1) + (((l2).toInt64 + (((3 : Int32) * l4)).toInt64)).toInt32), vr 83 0]) (h' := (101, I, J, R0 b)) 10 rfl ?_
          refine WP.step (pc' := 127) (L' := [vr 10 0, vi l1, vi l2, vi l3, vi l4, vl ((l2).toInt64 + (((3 : Int32) * l4)).toInt64), vn, vi (((60 : Int32) * l1) + (((l2).toInt64 + (((3 : Int32) * l4)).toInt64)).toInt32)]) (st' := [vl (J 83 0 (((60 : Int32) * l1) + (((l2).toInt64 + (((3 : Int32) * l4)).toInt64)).toInt32).toNatClampNeg)]) (h' := (101, I, J, R0 b)) rfl (laload_ok (n := 360) rfl rfl rfl (inA_of h.1)) ?_
          have h := And.right h
          refine WP.blk (pc' := 131) (L' := [vr 10 0, vi l1, vi l2, vi l3, vi l4, vl ((l2).toInt64 + (((3 : Int32) * l4)).toInt64), vn, vi (((60 : Int32) * l1) + (((l2).toInt64 + (((3 : Int32) * l4)).toInt64)).toInt32)]) (st' := [vi 9, vi 1, vi ((J 83 0 (((60 : Int32) * l1) + (((l2).toInt64 + (((3 : Int32) * l4)).toInt64)).toInt32).toNatClampNeg)).toInt32]) (h' := (101, I, J, R0 b)) 3 rfl ?_
          refine WP.cal (y' := 135) (as := [vi ((J 83 0 (((60 : Int32) * l1) + (((l2).toInt64 + (((3 : Int32) * l4)).toInt64)).toInt32).toNatClampNeg)).toInt32, vi 1, vi 9]) (L' := [vr 10 0, vi l1, vi l2, vi l3, vi l4, vl ((l2).toInt64 + (((3 : Int32) * l4)).toInt64), vn, vi (((60 : Int32) * l1) + (((l2).toInt64 + (((3 : Int32) * l4)).toInt64)).toInt32)]) (rest := []) rfl (fun f r h' hf => callS_ok hf rfl rfl rfl) h ?_
          rintro _ _ ⟨x7, I8, J9, rfl, rfl, h⟩
          refine WP.if_eq (t := 173) (L' := [vr 10 0, vi l1, vi l2, vi l3, vi l4, vl ((l2).toInt64 + (((3 : Int32) * l4)).toInt64), vn, vi (((60 : Int32) * l1) + (((l2).toInt64 + (((3 : Int32) * l4)).toInt64)).toInt32)]) rfl rfl rfl rfl h (fun h => ?_) (fun h => ?_)
          · refine WP.blk (pc' := 175) (L' := [vn, vn, vn, vn, vi l4, vn, vn, vn]) (st' := [vi l4]) (h' := (101, I8, J9, R0 b)) 1 rfl ?_
            exact WP.ret rfl rfl h
          · refine WP.blk (pc' := 145) (L' := [vr 10 0, vi l1, vi l2, vi l3, vi l4, vl ((l2).toInt64 + (((3 : Int32) * l4)).toInt64), vn, vi (((60 : Int32) * l1) + (((l2).toInt64 + (((3 : Int32) * l4)).toInt64)).toInt32)]) (st' := [vi ((((60 : Int32) * l1) + (((l2).toInt64 + (((3 : Int32) * l4)).toInt64)).toInt32) + (1 : Int32)), vr 83 0]) (h' := (101, I8, J9, R0 b)) 5 rfl ?_
            refine WP.step (pc' := 146) (L' := [vr 10 0, vi l1, vi l2, vi l3, vi l4, vl ((l2).toInt64 + (((3 : Int32) * l4)).toInt64), vn, vi (((60 : Int32) * l1) + (((l2).toInt64 + (((3 : Int32) * l4)).toInt64)).toInt32)]) (st' := [vl (J9 83 0 ((((60 : Int32) * l1) + (((l2).toInt64 + (((3 : Int32) * l4)).toInt64)).toInt32) + (1 : Int32)).toNatClampNeg)]) (h' := (101, I8, J9, R0 b)) rfl (laload_ok (n := 360) rfl rfl rfl (inA_of h.1)) ?_
            have h := And.right h
            refine WP.blk (pc' := 149) (L' := [vr 10 0, vi l1, vi l2, vi l3, vi l4, vl ((l2).toInt64 + (((3 : Int32) * l4)).toInt64), vn, vi (((60 : Int32) * l1) + (((l2).toInt64 + (((3 : Int32) * l4)).toInt64)).toInt32)]) (st' := [vi 3, vi 0, vi ((J9 83 0 ((((60 : Int32) * l1) + (((l2).toInt64 + (((3 : Int32) * l4)).toInt64)).toInt32) + (1 : Int32)).toNatClampNeg)).toInt32]) (h' := (101, I8, J9, R0 b)) 3 rfl ?_
            refine WP.cal (y' := 135) (as := [vi ((J9 83 0 ((((60 : Int32) * l1) + (((l2).toInt64 + (((3 : Int32) * l4)).toInt64)).toInt32) + (1 : Int32)).toNatClampNeg)).toInt32, vi 0, vi 3]) (L' := [vr 10 0, vi l1, vi l2, vi l3, vi l4, vl ((l2).toInt64 + (((3 : Int32) * l4)).toInt64), vn, vi (((60 : Int32) * l1) + (((l2).toInt64 + (((3 : Int32) * l4)).toInt64)).toInt32)]) (rest := []) rfl (fun f r h' hf => callS_ok hf rfl rfl rfl) h ?_
            rintro _ _ ⟨x10, I11, J12, rfl, rfl, h⟩
            refine WP.if_eq (t := 173) (L' := [vr 10 0, vi l1, vi l2, vi l3, vi l4, vl ((l2).toInt64 + (((3 : Int32) * l4)).toInt64), vn, vi (((60 : Int32) * l1) + (((l2).toInt64 + (((3 : Int32) * l4)).toInt64)).toInt32)]) rfl rfl rfl rfl h (fun h => ?_) (fun h => ?_)
            · refine WP.blk (pc' := 175) (L' := [vn, vn, vn, vn, vi l4, vn, vn, vn]) (st' := [vi l4]) (h' := (101, I11, J12, R0 b)) 1 rfl ?_
              exact WP.ret rfl rfl h
            · refine WP.blk (pc' := 163) (L' := [vr 10 0, vi l1, vi l2, vi l3, vi l4, vl ((l2).toInt64 + (((3 : Int32) * l4)).toInt64), vn, vi (((60 : Int32) * l1) + (((l2).toInt64 + (((3 : Int32) * l4)).toInt64)).toInt32)]) (st' := [vi ((((60 : Int32) * l1) + (((l2).toInt64 + (((3 : Int32) * l4)).toInt64)).toInt32) + (2 : Int32)), vr 83 0]) (h' := (101, I11, J12, R0 b)) 5 rfl ?_
              refine WP.step (pc' := 164) (L' := [vr 10 0, vi l1, vi l2, vi l3, vi l4, vl ((l2).toInt64 + (((3 : Int32) * l4)).toInt64), vn, vi (((60 : Int32) * l1) + (((l2).toInt64 + (((3 : Int32) * l4)).toInt64)).toInt32)]) (st' := [vl (J12 83 0 ((((60 : Int32) * l1) + (((l2).toInt64 + (((3 : Int32) * l4)).toInt64)).toInt32) + (2 : Int32)).toNatClampNeg)]) (h' := (101, I11, J12, R0 b)) rfl (laload_ok (n := 360) rfl rfl rfl (inA_of h.1)) ?_
              have h := And.right h
              refine WP.blk (pc' := 167) (L' := [vr 10 0, vi l1, vi l2, vi l3, vi l4, vl ((l2).toInt64 + (((3 : Int32) * l4)).toInt64), vn, vi (((60 : Int32) * l1) + (((l2).toInt64 + (((3 : Int32) * l4)).toInt64)).toInt32)]) (st' := [vi 2, vi 0, vi ((J12 83 0 ((((60 : Int32) * l1) + (((l2).toInt64 + (((3 : Int32) * l4)).toInt64)).toInt32) + (2 : Int32)).toNatClampNeg)).toInt32]) (h' := (101, I11, J12, R0 b)) 3 rfl ?_
              refine WP.cal (y' := 135) (as := [vi ((J12 83 0 ((((60 : Int32) * l1) + (((l2).toInt64 + (((3 : Int32) * l4)).toInt64)).toInt32) + (2 : Int32)).toNatClampNeg)).toInt32, vi 0, vi 2]) (L' := [vr 10 0, vi l1, vi l2, vi l3, vi l4, vl ((l2).toInt64 + (((3 : Int32) * l4)).toInt64), vn, vi (((60 : Int32) * l1) + (((l2).toInt64 + (((3 : Int32) * l4)).toInt64)).toInt32)]) (rest := []) rfl (fun f r h' hf => callS_ok hf rfl rfl rfl) h ?_
              rintro _ _ ⟨x13, I14, J15, rfl, rfl, h⟩
              refine WP.if_ne (t := 176) (L' := [vr 10 0, vi l1, vi l2, vi l3, vi l4, vl ((l2).toInt64 + (((3 : Int32) * l4)).toInt64), vn, vi (((60 : Int32) * l1) + (((l2).toInt64 + (((3 : Int32) * l4)).toInt64)).toInt32)]) rfl rfl rfl rfl h (fun h => ?_) (fun h => ?_)
              · refine WP.blk (pc' := 183) (L' := [vr 10 0, vi l1, vi l2, vi l3, vi l4, vl ((l2).toInt64 + (((3 : Int32) * l4)).toInt64), vn, vi (((60 : Int32) * l1) + (((l2).toInt64 + (((3 : Int32) * l4)).toInt64)).toInt32)]) (st' := [vi (((60 : Int32) * l1) + (((l2).toInt64 + (((3 : Int32) * l4)).toInt64)).toInt32), vr 83 0, vr 10 0]) (h' := (101, I14, J15, R0 b)) 4 rfl ?_
                refine WP.step (pc' := 184) (L' := [vr 10 0, vi l1, vi l2, vi l3, vi l4, vl ((l2).toInt64 + (((3 : Int32) * l4)).toInt64), vn, vi (((60 : Int32) * l1) + (((l2).toInt64 + (((3 : Int32) * l4)).toInt64)).toInt32)]) (st' := [vl (J15 83 0 (((60 : Int32) * l1) + (((l2).toInt64 + (((3 : Int32) * l4)).toInt64)).toInt32).toNatClampNeg), vr 10 0]) (h' := (101, I14, J15, R0 b)) rfl (laload_ok (n := 360) rfl rfl rfl (inA_of h.1)) ?_
                have h := And.right h
                refine WP.blk (pc' := 193) (L' := [vr 10 0, vi l1, vi l2, vi l3, vi l4, vl ((l2).toInt64 + (((3 : Int32) * l4)).toInt64), vn, vi (((60 : Int32) * l1) + (((l2).toInt64 + (((3 : Int32) * l4)).toInt64)).toInt32)]) (st' := [vi ((((60 : Int32) * l1) + (((l2).toInt64 + (((3 : Int32) * l4)).toInt64)).toInt32) + (1 : Int32)), vr 83 0, vi ((J15 83 0 (((60 : Int32) * l1) + (((l2).toInt64 + (((3 : Int32) * l4)).toInt64)).toInt32).toNatClampNeg)).toInt32, vr 10 0]) (h' := (101, I14, J15, R0 b)) 6 rfl ?_
                refine WP.step (pc' := 194) (L' := [vr 10 0, vi l1, vi l2, vi l3, vi l4, vl ((l2).toInt64 + (((3 : Int32) * l4)).toInt64), vn, vi (((60 : Int32) * l1) + (((l2).toInt64 + (((3 : Int32) * l4)).toInt64)).toInt32)]) (st' := [vl (J15 83 0 ((((60 : Int32) * l1) + (((l2).toInt64 + (((3 : Int32) * l4)).toInt64)).toInt32) + (1 : Int32)).toNatClampNeg), vi ((J15 83 0 (((60 : Int32) * l1) + (((l2).toInt64 + (((3 : Int32) * l4)).toInt64)).toInt32).toNatClampNeg)).toInt32, vr 10 0]) (h' := (101, I14, J15, R0 b)) rfl (laload_ok (n := 360) rfl rfl rfl (inA_of h.1)) ?_
                have h := And.right h
                refine WP.blk (pc' := 203) (L' := [vr 10 0, vi l1, vi l2, vi l3, vi l4, vl ((l2).toInt64 + (((3 : Int32) * l4)).toInt64), vn, vi (((60 : Int32) * l1) + (((l2).toInt64 + (((3 : Int32) * l4)).toInt64)).toInt32)]) (st' := [vi ((((60 : Int32) * l1) + (((l2).toInt64 + (((3 : Int32) * l4)).toInt64)).toInt32) + (2 : Int32)), vr 83 0, vi ((J15 83 0 ((((60 : Int32) * l1) + (((l2).toInt64 + (((3 : Int32) * l4)).toInt64)).toInt32) + (1 : Int32)).toNatClampNeg)).toInt32, vi ((J15 83 0 (((60 : Int32) * l1) + (((l2).toInt64 + (((3 : Int32) * l4)).toInt64)).toInt32).toNatClampNeg)).toInt32, vr 10 0]) (h' := (101, I14, J15, R0 b)) 6 rfl ?_
                refine WP.step (pc' := 204) (L' := [vr 10 0, vi l1, vi l2, vi l3, vi l4, vl ((l2).toInt64 + (((3 : Int32) * l4)).toInt64), vn, vi (((60 : Int32) * l1) + (((l2).toInt64 + (((3 : Int32) * l4)).toInt64)).toInt32)]) (st' := [vl (J15 83 0 ((((60 : Int32) * l1) + (((l2).toInt64 + (((3 : Int32) * l4)).toInt64)).toInt32) + (2 : Int32)).toNatClampNeg), vi ((J15 83 0 ((((60 : Int32) * l1) + (((l2).toInt64 + (((3 : Int32) * l4)).toInt64)).toInt32) + (1 : Int32)).toNatClampNeg)).toInt32, vi ((J15 83 0 (((60 : Int32) * l1) + (((l2).toInt64 + (((3 : Int32) * l4)).toInt64)).toInt32).toNatClampNeg)).toInt32, vr 10 0]) (h' := (101, I14, J15, R0 b)) rfl (laload_ok (n := 360) rfl rfl rfl (inA_of h.1)) ?_
                have h := And.right h
                refine WP.blk (pc' := 205) (L' := [vr 10 0, vi l1, vi l2, vi l3, vi l4, vl ((l2).toInt64 + (((3 : Int32) * l4)).toInt64), vn, vi (((60 : Int32) * l1) + (((l2).toInt64 + (((3 : Int32) * l4)).toInt64)).toInt32)]) (st' := [vi ((J15 83 0 ((((60 : Int32) * l1) + (((l2).toInt64 + (((3 : Int32) * l4)).toInt64)).toInt32) + (2 : Int32)).toNatClampNeg)).toInt32, vi ((J15 83 0 ((((60 : Int32) * l1) + (((l2).toInt64 + (((3 : Int32) * l4)).toInt64)).toInt32) + (1 : Int32)).toNatClampNeg)).toInt32, vi ((J15 83 0 (((60 : Int32) * l1) + (((l2).toInt64 + (((3 : Int32) * l4)).toInt64)).toInt32).toNatClampNeg)).toInt32, vr 10 0]) (h' := (101, I14, J15, R0 b)) 1 rfl ?_
                refine WP.cal (y' := 138) (as := [vr 10 0, vi ((J15 83 0 (((60 : Int32) * l1) + (((l2).toInt64 + (((3 : Int32) * l4)).toInt64)).toInt32).toNatClampNeg)).toInt32, vi ((J15 83 0 ((((60 : Int32) * l1) + (((l2).toInt64 + (((3 : Int32) * l4)).toInt64)).toInt32) + (1 : Int32)).toNatClampNeg)).toInt32, vi ((J15 83 0 ((((60 : Int32) * l1) + (((l2).toInt64 + (((3 : Int32) * l4)).toInt64)).toInt32) + (2 : Int32)).toNatClampNeg)).toInt32]) (L' := [vr 10 0, vi l1, vi l2, vi l3, vi l4, vl ((l2).toInt64 + (((3 : Int32) * l4)).toInt64), vn, vi (((60 : Int32) * l1) + (((l2).toInt64 + (((3 : Int32) * l4)).toInt64)).toInt32)]) (rest := []) rfl (fun f r h' hf => callV_ok hf rfl rfl rfl) h ?_
                rintro _ _ ⟨x16, I17, J18, rfl, rfl, h⟩
                refine WP.blk (pc' := 58) (L' := [vr 10 0, vi l1, vi l2, vi l3, vi (l4 + 1), vl ((l2).toInt64 + (((3 : Int32) * l4)).toInt64), vn, vi (((60 : Int32) * l1) + (((l2).toInt64 + (((3 : Int32) * l4)).toInt64)).toInt32)]) (st' := []) (h' := (101, I17, J18, R0 b)) 3 rfl ?_
                exact WP.mask rfl rfl h
              · refine WP.blk (pc' := 175) (L' := [vn, vn, vn, vn, vi l4, vn, vn, vn]) (st' := [vi l4]) (h' := (101, I14, J15, R0 b)) 1 rfl ?_
                exact WP.ret rfl rfl h
        · refine WP.blk (pc' := 109) (L' := [vn, vn, vn, vn, vi l4, vn, vn, vn]) (st' := [vi l4]) (h' := (101, I, J, R0 b)) 1 rfl ?_
          exact WP.ret rfl rfl h
set_option maxRecDepth 20000 in
theorem t_X10_valueAt {D : Nat} (l1 : Int32) (l2 : Int32) (I : IM) (J : JM) (b : Bool) {Q : Option AV → AH → Prop} (h : (if l1 = 0 then (vp_in l2 7 ∧ Q (some (vi (I 43 0 l2.toNatClampNeg))) (101, I, J, R0 b)) else (if l1 = 1 then (vp_in l2 7 ∧ Q (some (vi (I 44 0 l2.toNatClampNeg))) (101, I, J, R0 b)) else (if l1 = 2 then (vp_in l2 7 ∧ Q (some (vi (I 45 0 l2.toNatClampNeg))) (101, I, J, R0 b)) else (if l1 = 3 then (vp_in l2 7 ∧ Q (some (vi (I 46 0 l2.toNatClampNeg))) (101, I, J, R0 b)) else (if l1 = 4 then (vp_in l2 7 ∧ Q (some (vi (I 47 0 l2.toNatClampNeg))) (101, I, J, R0 b)) else (if l1 = 5 then (vp_in l2 7 ∧ Q (some (vi (I 48 0 l2.toNatClampNeg))) (101, I, J, R0 b)) else (if l1 = 6 then Q (some (vi (I 10 0 8))) (101, I, J, R0 b) else (if l1 = 7 then Q (some (vi (I 10 0 9))) (101, I, J, R0 b) else (if l1 = 8 then Q (some (vi (I 10 0 10))) (101, I, J, R0 b) else (if l1 = 9 then Q (some (vi (I 10 0 11))) (101, I, J, R0 b) else Q (some (vi (I 10 0 12))) (101, I, J, R0 b)))))))))))) : Call (D + 1) 141 [vr 10 0, vi l1, vi l2] (101, I, J, R0 b) Q := by
  refine Call.of rfl ?_
  show WP D 141 0 [vr 10 0, vi l1, vi l2] [] (101, I, J, R0 b) Q
  refine WP.blk (pc' := 1) (L' := [vr 10 0, vi l1, vi l2]) (st' := [vi l1]) (h' := (101, I, J, R0 b)) 1 rfl ?_
  refine WP.step (pc' := swf [(0, 56), (1, 63), (2, 70), (3, 77), (4, 84), (5, 91), (6, 98), (7, 103), (8, 108), (9, 113)] 118 l1) (L' := [vr 10 0, vi l1, vi l2]) (st' := []) (h' := (101, I, J, R0 b)) rfl rfl ?_
  refine WP.ite (c := l1 = 0) (pc1 := 56) (pc2 := swf [(1, 63), (2, 70), (3, 77), (4, 84), (5, 91), (6, 98), (7, 103), (8, 108), (9, 113)] 118 l1) h (fun h => ?_) (fun h => ?_)
  · refine WP.blk (pc' := 61) (L' := [vr 10 0, vi l1, vi l2]) (st' := [vi l2, vr 43 0]) (h' := (101, I, J, R0 b)) 3 rfl ?_
    refine WP.step (pc' := 62) (L' := [vr 10 0, vi l1, vi l2]) (st' := [vi (I 43 0 l2.toNatClampNeg)]) (h' := (101, I, J, R0 b)) rfl (iaload_ok (n := 7) rfl rfl rfl (inA_of h.1)) ?_
    have h := And.right h
    exact WP.ret rfl rfl h
  · refine WP.ite (c := l1 = 1) (pc1 := 63) (pc2 := swf [(2, 70), (3, 77), (4, 84), (5, 91), (6, 98), (7, 103), (8, 108), (9, 113)] 118 l1) h (fun h => ?_) (fun h => ?_)
    · refine WP.blk (pc' := 68) (L' := [vr 10 0, vi l1, vi l2]) (st' := [vi l2, vr 44 0]) (h' := (101, I, J, R0 b)) 3 rfl ?_
      refine WP.step (pc' := 69) (L' := [vr 10 0, vi l1, vi l2]) (st' := [vi (I 44 0 l2.toNatClampNeg)]) (h' := (101, I, J, R0 b)) rfl (iaload_ok (n := 7) rfl rfl rfl (inA_of h.1)) ?_
      have h := And.right h
      exact WP.ret rfl rfl h
    · refine WP.ite (c := l1 = 2) (pc1 := 70) (pc2 := swf [(3, 77), (4, 84), (5, 91), (6, 98), (7, 103), (8, 108), (9, 113)] 118 l1) h (fun h => ?_) (fun h => ?_)
      · refine WP.blk (pc' := 75) (L' := [vr 10 0, vi l1, vi l2]) (st' := [vi l2, vr 45 0]) (h' := (101, I, J, R0 b)) 3 rfl ?_
        refine WP.step (pc' := 76) (L' := [vr 10 0, vi l1, vi l2]) (st' := [vi (I 45 0 l2.toNatClampNeg)]) (h' := (101, I, J, R0 b)) rfl (iaload_ok (n := 7) rfl rfl rfl (inA_of h.1)) ?_
        have h := And.right h
        exact WP.ret rfl rfl h
      · refine WP.ite (c := l1 = 3) (pc1 := 77) (pc2 := swf [(4, 84), (5, 91), (6, 98), (7, 103), (8, 108), (9, 113)] 118 l1) h (fun h => ?_) (fun h => ?_)
        · refine WP.blk (pc' := 82) (L' := [vr 10 0, vi l1, vi l2]) (st' := [vi l2, vr 46 0]) (h' := (101, I, J, R0 b)) 3 rfl ?_
          refine WP.step (pc' := 83) (L' := [vr 10 0, vi l1, vi l2]) (st' := [vi (I 46 0 l2.toNatClampNeg)]) (h' := (101, I, J, R0 b)) rfl (iaload_ok (n := 7) rfl rfl rfl (inA_of h.1)) ?_
          have h := And.right h
          exact WP.ret rfl rfl h
        · refine WP.ite (c := l1 = 4) (pc1 := 84) (pc2 := swf [(5, 91), (6, 98), (7, 103), (8, 108), (9, 113)] 118 l1) h (fun h => ?_) (fun h => ?_)
          · refine WP.blk (pc' := 89) (L' := [vr 10 0, vi l1, vi l2]) (st' := [vi l2, vr 47 0]) (h' := (101, I, J, R0 b)) 3 rfl ?_
            refine WP.step (pc' := 90) (L' := [vr 10 0, vi l1, vi l2]) (st' := [vi (I 47 0 l2.toNatClampNeg)]) (h' := (101, I, J, R0 b)) rfl (iaload_ok (n := 7) rfl rfl rfl (inA_of h.1)) ?_
            have h := And.right h
            exact WP.ret rfl rfl h
          · refine WP.ite (c := l1 = 5) (pc1 := 91) (pc2 := swf [(6, 98), (7, 103), (8, 108), (9, 113)] 118 l1) h (fun h => ?_) (fun h => ?_)
            · refine WP.blk (pc' := 96) (L' := [vr 10 0, vi l1, vi l2]) (st' := [vi l2, vr 48 0]) (h' := (101, I, J, R0 b)) 3 rfl ?_
              refine WP.step (pc' := 97) (L' := [vr 10 0, vi l1, vi l2]) (st' := [vi (I 48 0 l2.toNatClampNeg)]) (h' := (101, I, J, R0 b)) rfl (iaload_ok (n := 7) rfl rfl rfl (inA_of h.1)) ?_
              have h := And.right h
              exact WP.ret rfl rfl h
            · refine WP.ite (c := l1 = 6) (pc1 := 98) (pc2 := swf [(7, 103), (8, 108), (9, 113)] 118 l1) h (fun h => ?_) (fun h => ?_)
              · refine WP.blk (pc' := 102) (L' := [vr 10 0, vi l1, vi l2]) (st' := [vi (I 10 0 8)]) (h' := (101, I, J, R0 b)) 2 rfl ?_
                exact WP.ret rfl rfl h
              · refine WP.ite (c := l1 = 7) (pc1 := 103) (pc2 := swf [(8, 108), (9, 113)] 118 l1) h (fun h => ?_) (fun h => ?_)
                · refine WP.blk (pc' := 107) (L' := [vr 10 0, vi l1, vi l2]) (st' := [vi (I 10 0 9)]) (h' := (101, I, J, R0 b)) 2 rfl ?_
                  exact WP.ret rfl rfl h
                · refine WP.ite (c := l1 = 8) (pc1 := 108) (pc2 := swf [(9, 113)] 118 l1) h (fun h => ?_) (fun h => ?_)
                  · refine WP.blk (pc' := 112) (L' := [vr 10 0, vi l1, vi l2]) (st' := [vi (I 10 0 10)]) (h' := (101, I, J, R0 b)) 2 rfl ?_
                    exact WP.ret rfl rfl h
                  · refine WP.ite (c := l1 = 9) (pc1 := 113) (pc2 := swf [] 118 l1) h (fun h => ?_) (fun h => ?_)
                    · refine WP.blk (pc' := 117) (L' := [vr 10 0, vi l1, vi l2]) (st' := [vi (I 10 0 11)]) (h' := (101, I, J, R0 b)) 2 rfl ?_
                      exact WP.ret rfl rfl h
                    · show WP D 141 118 [vr 10 0, vi l1, vi l2] [] (101, I, J, R0 b) Q
                      refine WP.blk (pc' := 122) (L' := [vr 10 0, vi l1, vi l2]) (st' := [vi (I 10 0 12)]) (h' := (101, I, J, R0 b)) 2 rfl ?_
                      exact WP.ret rfl rfl h
set_option maxRecDepth 20000 in
theorem t_X10_lays {D : Nat} (l1 : Int32) (l2 : Int32) (l3 : Int32) (I : IM) (J : JM) (b : Bool) {Q : Option AV → AH → Prop} (h : (if l1 = 0 then (vp_in l2 7 ∧ Q none (101, (updI I 43 0 l2.toNatClampNeg l3), J, R0 b)) else (if l1 = 1 then (vp_in l2 7 ∧ Q none (101, (updI I 44 0 l2.toNatClampNeg l3), J, R0 b)) else (if l1 = 2 then (vp_in l2 7 ∧ Q none (101, (updI I 45 0 l2.toNatClampNeg l3), J, R0 b)) else (if l1 = 3 then (vp_in l2 7 ∧ Q none (101, (updI I 46 0 l2.toNatClampNeg l3), J, R0 b)) else (if l1 = 4 then (vp_in l2 7 ∧ Q none (101, (updI I 47 0 l2.toNatClampNeg l3), J, R0 b)) else (if l1 = 5 then (vp_in l2 7 ∧ Q none (101, (updI I 48 0 l2.toNatClampNeg l3), J, R0 b)) else (if l1 = 6 then Q none (101, (updI I 10 0 8 l3), J, R0 b) else (if l1 = 7 then Q none (101, (updI I 10 0 9 l3), J, R0 b) else (if l1 = 8 then Q none (101, (updI I 10 0 10 l3), J, R0 b) else (if l1 = 9 then Q none (101, (updI I 10 0 11 l3), J, R0 b) else Q none (101, (updI I 10 0 12 l3), J, R0 b)))))))))))) : Call (D + 1) 142 [vr 10 0, vi l1, vi l2, vi l3] (101, I, J, R0 b) Q := by
  refine Call.of rfl ?_
  show WP D 142 0 [vr 10 0, vi l1, vi l2, vi l3] [] (101, I, J, R0 b) Q
  refine WP.blk (pc' := 1) (L' := [vr 10 0, vi l1, vi l2, vi l3]) (st' := [vi l1]) (h' := (101, I, J, R0 b)) 1 rfl ?_
  refine WP.step (pc' := swf [(0, 56), (1, 66), (2, 76), (3, 86), (4, 96), (5, 106), (6, 116), (7, 124), (8, 132), (9, 140)] 148 l1) (L' := [vr 10 0, vi l1, vi l2, vi l3]) (st' := []) (h' := (101, I, J, R0 b)) rfl rfl ?_
  refine WP.ite (c := l1 = 0) (pc1 := 56) (pc2 := swf [(1, 66), (2, 76), (3, 86), (4, 96), (5, 106), (6, 116), (7, 124), (8, 132), (9, 140)] 148 l1) h (fun h => ?_) (fun h => ?_)
  · refine WP.blk (pc' := 62) (L' := [vr 10 0, vi l1, vi l2, vi l3]) (st' := [vi l3, vi l2, vr 43 0]) (h' := (101, I, J, R0 b)) 4 rfl ?_
    refine WP.step (pc' := 63) (L' := [vr 10 0, vi l1, vi l2, vi l3]) (st' := []) (h' := (101, (updI I 43 0 l2.toNatClampNeg l3), J, R0 b)) rfl (iastore_ok (n := 7) rfl rfl rfl (inA_of h.1)) ?_
    have h := And.right h
    refine WP.blk (pc' := 153) (L' := [vr 10 0, vi l1, vi l2, vi l3]) (st' := []) (h' := (101, (updI I 43 0 l2.toNatClampNeg l3), J, R0 b)) 1 rfl ?_
    exact WP.ret rfl rfl h
  · refine WP.ite (c := l1 = 1) (pc1 := 66) (pc2 := swf [(2, 76), (3, 86), (4, 96), (5, 106), (6, 116), (7, 124), (8, 132), (9, 140)] 148 l1) h (fun h => ?_) (fun h => ?_)
    · refine WP.blk (pc' := 72) (L' := [vr 10 0, vi l1, vi l2, vi l3]) (st' := [vi l3, vi l2, vr 44 0]) (h' := (101, I, J, R0 b)) 4 rfl ?_
      refine WP.step (pc' := 73) (L' := [vr 10 0, vi l1, vi l2, vi l3]) (st' := []) (h' := (101, (updI I 44 0 l2.toNatClampNeg l3), J, R0 b)) rfl (iastore_ok (n := 7) rfl rfl rfl (inA_of h.1)) ?_
      have h := And.right h
      refine WP.blk (pc' := 153) (L' := [vr 10 0, vi l1, vi l2, vi l3]) (st' := []) (h' := (101, (updI I 44 0 l2.toNatClampNeg l3), J, R0 b)) 1 rfl ?_
      exact WP.ret rfl rfl h
    · refine WP.ite (c := l1 = 2) (pc1 := 76) (pc2 := swf [(3, 86), (4, 96), (5, 106), (6, 116), (7, 124), (8, 132), (9, 140)] 148 l1) h (fun h => ?_) (fun h => ?_)
      · refine WP.blk (pc' := 82) (L' := [vr 10 0, vi l1, vi l2, vi l3]) (st' := [vi l3, vi l2, vr 45 0]) (h' := (101, I, J, R0 b)) 4 rfl ?_
        refine WP.step (pc' := 83) (L' := [vr 10 0, vi l1, vi l2, vi l3]) (st' := []) (h' := (101, (updI I 45 0 l2.toNatClampNeg l3), J, R0 b)) rfl (iastore_ok (n := 7) rfl rfl rfl (inA_of h.1)) ?_
        have h := And.right h
        refine WP.blk (pc' := 153) (L' := [vr 10 0, vi l1, vi l2, vi l3]) (st' := []) (h' := (101, (updI I 45 0 l2.toNatClampNeg l3), J, R0 b)) 1 rfl ?_
        exact WP.ret rfl rfl h
      · refine WP.ite (c := l1 = 3) (pc1 := 86) (pc2 := swf [(4, 96), (5, 106), (6, 116), (7, 124), (8, 132), (9, 140)] 148 l1) h (fun h => ?_) (fun h => ?_)
        · refine WP.blk (pc' := 92) (L' := [vr 10 0, vi l1, vi l2, vi l3]) (st' := [vi l3, vi l2, vr 46 0]) (h' := (101, I, J, R0 b)) 4 rfl ?_
          refine WP.step (pc' := 93) (L' := [vr 10 0, vi l1, vi l2, vi l3]) (st' := []) (h' := (101, (updI I 46 0 l2.toNatClampNeg l3), J, R0 b)) rfl (iastore_ok (n := 7) rfl rfl rfl (inA_of h.1)) ?_
          have h := And.right h
          refine WP.blk (pc' := 153) (L' := [vr 10 0, vi l1, vi l2, vi l3]) (st' := []) (h' := (101, (updI I 46 0 l2.toNatClampNeg l3), J, R0 b)) 1 rfl ?_
          exact WP.ret rfl rfl h
        · refine WP.ite (c := l1 = 4) (pc1 := 96) (pc2 := swf [(5, 106), (6, 116), (7, 124), (8, 132), (9, 140)] 148 l1) h (fun h => ?_) (fun h => ?_)
          · refine WP.blk (pc' := 102) (L' := [vr 10 0, vi l1, vi l2, vi l3]) (st' := [vi l3, vi l2, vr 47 0]) (h' := (101, I, J, R0 b)) 4 rfl ?_
            refine WP.step (pc' := 103) (L' := [vr 10 0, vi l1, vi l2, vi l3]) (st' := []) (h' := (101, (updI I 47 0 l2.toNatClampNeg l3), J, R0 b)) rfl (iastore_ok (n := 7) rfl rfl rfl (inA_of h.1)) ?_
            have h := And.right h
            refine WP.blk (pc' := 153) (L' := [vr 10 0, vi l1, vi l2, vi l3]) (st' := []) (h' := (101, (updI I 47 0 l2.toNatClampNeg l3), J, R0 b)) 1 rfl ?_
            exact WP.ret rfl rfl h
          · refine WP.ite (c := l1 = 5) (pc1 := 106) (pc2 := swf [(6, 116), (7, 124), (8, 132), (9, 140)] 148 l1) h (fun h => ?_) (fun h => ?_)
            · refine WP.blk (pc' := 112) (L' := [vr 10 0, vi l1, vi l2, vi l3]) (st' := [vi l3, vi l2, vr 48 0]) (h' := (101, I, J, R0 b)) 4 rfl ?_
              refine WP.step (pc' := 113) (L' := [vr 10 0, vi l1, vi l2, vi l3]) (st' := []) (h' := (101, (updI I 48 0 l2.toNatClampNeg l3), J, R0 b)) rfl (iastore_ok (n := 7) rfl rfl rfl (inA_of h.1)) ?_
              have h := And.right h
              refine WP.blk (pc' := 153) (L' := [vr 10 0, vi l1, vi l2, vi l3]) (st' := []) (h' := (101, (updI I 48 0 l2.toNatClampNeg l3), J, R0 b)) 1 rfl ?_
              exact WP.ret rfl rfl h
            · refine WP.ite (c := l1 = 6) (pc1 := 116) (pc2 := swf [(7, 124), (8, 132), (9, 140)] 148 l1) h (fun h => ?_) (fun h => ?_)
              · refine WP.blk (pc' := 153) (L' := [vr 10 0, vi l1, vi l2, vi l3]) (st' := []) (h' := (101, (updI I 10 0 8 l3), J, R0 b)) 4 rfl ?_
                exact WP.ret rfl rfl h
              · refine WP.ite (c := l1 = 7) (pc1 := 124) (pc2 := swf [(8, 132), (9, 140)] 148 l1) h (fun h => ?_) (fun h => ?_)
                · refine WP.blk (pc' := 153) (L' := [vr 10 0, vi l1, vi l2, vi l3]) (st' := []) (h' := (101, (updI I 10 0 9 l3), J, R0 b)) 4 rfl ?_
                  exact WP.ret rfl rfl h
                · refine WP.ite (c := l1 = 8) (pc1 := 132) (pc2 := swf [(9, 140)] 148 l1) h (fun h => ?_) (fun h => ?_)
                  · refine WP.blk (pc' := 153) (L' := [vr 10 0, vi l1, vi l2, vi l3]) (st' := []) (h' := (101, (updI I 10 0 10 l3), J, R0 b)) 4 rfl ?_
                    exact WP.ret rfl rfl h
                  · refine WP.ite (c := l1 = 9) (pc1 := 140) (pc2 := swf [] 148 l1) h (fun h => ?_) (fun h => ?_)
                    · refine WP.blk (pc' := 153) (L' := [vr 10 0, vi l1, vi l2, vi l3]) (st' := []) (h' := (101, (updI I 10 0 11 l3), J, R0 b)) 4 rfl ?_
                      exact WP.ret rfl rfl h
                    · show WP D 142 148 [vr 10 0, vi l1, vi l2, vi l3] [] (101, I, J, R0 b) Q
                      refine WP.blk (pc' := 153) (L' := [vr 10 0, vi l1, vi l2, vi l3]) (st' := []) (h' := (101, (updI I 10 0 12 l3), J, R0 b)) 3 rfl ?_
                      exact WP.ret rfl rfl h
set_option maxRecDepth 20000 in
theorem t_X10_changes {D : Nat} (l1 : Int32) (l2 : Int32) (l3 : Int32) (I : IM) (J : JM) (b : Bool) {Q : Option AV → AH → Prop} (h : (Call D 141 [vr 10 0, vi l1, vi l2] (101, I, J, R0 b) (RIf b fun x1 I2 J3 => (if ¬ x1 = l3 then (if ¬ (I2 10 0 13) = (40 : Int32) then (vp_in (I2 10 0 13) 40 ∧ (vp_in (I2 10 0 13) 40 ∧ (vp_in (I2 10 0 13) 40 ∧ (vp_in (I2 10 0 13) 40 ∧ (Call D 142 [vr 10 0, vi l1, vi l2, vi l3] (101, (updI (updI (updI (updI (updI (updI I2 10 0 14 0) 49 0 (I2 10 0 13).toNatClampNeg l1) 50 0 (I2 10 0 13).toNatClampNeg l2) 51 0 (I2 10 0 13).toNatClampNeg x1) 52 0 (I2 10 0 13).toNatClampNeg l3) 10 0 13 ((I2 10 0 13) + (1 : Int32))), J3, R0 b) (RVf b fun I5 J6 => Q (some (vi x1)) (101, I5, J6, R0 b))))))) else WP D 143 34 [vr 10 0, vi l1, vi l2, vi l3, vi x1, vi 1] [] (101, (updI I2 10 0 14 0), J3, R0 b) Q) else Q (some (vi x1)) (101, I2, J3, R0 b))))) : Call (D + 1) 143 [vr 10 0, vi l1, vi l2, vi l3] (101, I, J, R0 b) Q := by
  refine Call.of rfl ?_
  show WP D 143 0 [vr 10 0, vi l1, vi l2, vi l3, vn, vn] [] (101, I, J, R0 b) Q
  refine WP.blk (pc' := 3) (L' := [vr 10 0, vi l1, vi l2, vi l3, vn, vn]) (st' := [vi l2, vi l1, vr 10 0]) (h' := (101, I, J, R0 b)) 3 rfl ?_
  refine WP.cal (y' := 141) (as := [vr 10 0, vi l1, vi l2]) (L' := [vr 10 0, vi l1, vi l2, vi l3, vn, vn]) (rest := []) rfl (fun f r h' hf => callV_ok hf rfl rfl rfl) h ?_
  rintro _ _ ⟨x1, I2, J3, rfl, rfl, h⟩
  refine WP.blk (pc' := 11) (L' := [vr 10 0, vi l1, vi l2, vi l3, vi x1, vn]) (st' := [vi l3, vi x1]) (h' := (101, I2, J3, R0 b)) 3 rfl ?_
  refine WP.icmp_ne (t := 17) (L' := [vr 10 0, vi l1, vi l2, vi l3, vi x1, vn]) rfl rfl rfl rfl h (fun h => ?_) (fun h => ?_)
  · refine WP.blk (pc' := 28) (L' := [vr 10 0, vi l1, vi l2, vi l3, vi x1, vn]) (st' := [vi 40, vi (I2 10 0 13)]) (h' := (101, (updI I2 10 0 14 0), J3, R0 b)) 6 rfl ?_
    refine WP.icmp_ne (t := 121) (L' := [vr 10 0, vi l1, vi l2, vi l3, vi x1, vn]) rfl rfl rfl rfl h (fun h => ?_) (fun h => ?_)
    · refine WP.blk (pc' := 130) (L' := [vr 10 0, vi l1, vi l2, vi l3, vi x1, vn]) (st' := [vi l1, vi (I2 10 0 13), vr 49 0]) (h' := (101, (updI I2 10 0 14 0), J3, R0 b)) 5 rfl ?_
      refine WP.step (pc' := 131) (L' := [vr 10 0, vi l1, vi l2, vi l3, vi x1, vn]) (st' := []) (h' := (101, (updI (updI I2 10 0 14 0) 49 0 (I2 10 0 13).toNatClampNeg l1), J3, R0 b)) rfl (iastore_ok (n := 40) rfl rfl rfl (inA_of h.1)) ?_
      have h := And.right h
      refine WP.blk (pc' := 140) (L' := [vr 10 0, vi l1, vi l2, vi l3, vi x1, vn]) (st' := [vi l2, vi (I2 10 0 13), vr 50 0]) (h' := (101, (updI (updI I2 10 0 14 0) 49 0 (I2 10 0 13).toNatClampNeg l1), J3, R0 b)) 5 rfl ?_
      refine WP.step (pc' := 141) (L' := [vr 10 0, vi l1, vi l2, vi l3, vi x1, vn]) (st' := []) (h' := (101, (updI (updI (updI I2 10 0 14 0) 49 0 (I2 10 0 13).toNatClampNeg l1) 50 0 (I2 10 0 13).toNatClampNeg l2), J3, R0 b)) rfl (iastore_ok (n := 40) rfl rfl rfl (inA_of h.1)) ?_
      have h := And.right h
      refine WP.blk (pc' := 151) (L' := [vr 10 0, vi l1, vi l2, vi l3, vi x1, vn]) (st' := [vi x1, vi (I2 10 0 13), vr 51 0]) (h' := (101, (updI (updI (updI I2 10 0 14 0) 49 0 (I2 10 0 13).toNatClampNeg l1) 50 0 (I2 10 0 13).toNatClampNeg l2), J3, R0 b)) 5 rfl ?_
      refine WP.step (pc' := 152) (L' := [vr 10 0, vi l1, vi l2, vi l3, vi x1, vn]) (st' := []) (h' := (101, (updI (updI (updI (updI I2 10 0 14 0) 49 0 (I2 10 0 13).toNatClampNeg l1) 50 0 (I2 10 0 13).toNatClampNeg l2) 51 0 (I2 10 0 13).toNatClampNeg x1), J3, R0 b)) rfl (iastore_ok (n := 40) rfl rfl rfl (inA_of h.1)) ?_
      have h := And.right h
      refine WP.blk (pc' := 161) (L' := [vr 10 0, vi l1, vi l2, vi l3, vi x1, vn]) (st' := [vi l3, vi (I2 10 0 13), vr 52 0]) (h' := (101, (updI (updI (updI (updI I2 10 0 14 0) 49 0 (I2 10 0 13).toNatClampNeg l1) 50 0 (I2 10 0 13).toNatClampNeg l2) 51 0 (I2 10 0 13).toNatClampNeg x1), J3, R0 b)) 5 rfl ?_
      refine WP.step (pc' := 162) (L' := [vr 10 0, vi l1, vi l2, vi l3, vi x1, vn]) (st' := []) (h' := (101, (updI (updI (updI (updI (updI I2 10 0 14 0) 49 0 (I2 10 0 13).toNatClampNeg l1) 50 0 (I2 10 0 13).toNatClampNeg l2) 51 0 (I2 10 0 13).toNatClampNeg x1) 52 0 (I2 10 0 13).toNatClampNeg l3), J3, R0 b)) rfl (iastore_ok (n := 40) rfl rfl rfl (inA_of h.1)) ?_
      have h := And.right h
      refine WP.blk (pc' := 176) (L' := [vr 10 0, vi l1, vi l2, vi l3, vi x1, vn]) (st' := [vi l3, vi l2, vi l1, vr 10 0]) (h' := (101, (updI (updI (updI (updI (updI (updI I2 10 0 14 0) 49 0 (I2 10 0 13).toNatClampNeg l1) 50 0 (I2 10 0 13).toNatClampNeg l2) 51 0 (I2 10 0 13).toNatClampNeg x1) 52 0 (I2 10 0 13).toNatClampNeg l3) 10 0 13 ((I2 10 0 13) + (1 : Int32))), J3, R0 b)) 10 rfl ?_
      refine WP.cal (y' := 142) (as := [vr 10 0, vi l1, vi l2, vi l3]) (L' := [vr 10 0, vi l1, vi l2, vi l3, vi x1, vn]) (rest := []) rfl (fun f r h' hf => callV_ok hf rfl rfl rfl) h ?_
      rintro _ _ ⟨I5, J6, rfl, rfl, h⟩
      refine WP.blk (pc' := 181) (L' := [vr 10 0, vi l1, vi l2, vi l3, vi x1, vn]) (st' := [vi x1]) (h' := (101, I5, J6, R0 b)) 1 rfl ?_
      exact WP.ret rfl rfl h
    · refine WP.blk (pc' := 34) (L' := [vr 10 0, vi l1, vi l2, vi l3, vi x1, vi 1]) (st' := []) (h' := (101, (updI I2 10 0 14 0), J3, R0 b)) 2 rfl ?_
      exact WP.mask rfl rfl h
  · refine WP.blk (pc' := 16) (L' := [vr 10 0, vi l1, vi l2, vi l3, vi x1, vn]) (st' := [vi x1]) (h' := (101, I2, J3, R0 b)) 1 rfl ?_
    exact WP.ret rfl rfl h
set_option maxRecDepth 20000 in
theorem t_X10_changes_34 {D : Nat} (l1 : Int32) (l2 : Int32) (l3 : Int32) (l4 : Int32) (l5 : Int32) (I : IM) (J : JM) (b : Bool) {Q : Option AV → AH → Prop} (h : (if (40 : Int32) ≤ l5 then (vp_in ((I 10 0 13) - (1 : Int32)) 40 ∧ (vp_in ((I 10 0 13) - (1 : Int32)) 40 ∧ (vp_in ((I 10 0 13) - (1 : Int32)) 40 ∧ (vp_in ((I 10 0 13) - (1 : Int32)) 40 ∧ (Call D 142 [vr 10 0, vi l1, vi l2, vi l3] (101, (updI (updI (updI (updI (updI (updI I 10 0 13 ((I 10 0 13) - (1 : Int32))) 49 0 ((I 10 0 13) - (1 : Int32)).toNatClampNeg l1) 50 0 ((I 10 0 13) - (1 : Int32)).toNatClampNeg l2) 51 0 ((I 10 0 13) - (1 : Int32)).toNatClampNeg l4) 52 0 ((I 10 0 13) - (1 : Int32)).toNatClampNeg l3) 10 0 13 (((I 10 0 13) - (1 : Int32)) + (1 : Int32))), J, R0 b) (RVf b fun I8 J9 => Q (some (vi l4)) (101, I8, J9, R0 b))))))) else (vp_in l5 40 ∧ (vp_in (l5 - (1 : Int32)) 40 ∧ (vp_in l5 40 ∧ (vp_in (l5 - (1 : Int32)) 40 ∧ (vp_in l5 40 ∧ (vp_in (l5 - (1 : Int32)) 40 ∧ (vp_in l5 40 ∧ (vp_in (l5 - (1 : Int32)) 40 ∧ WP D 143 34 [vr 10 0, vi l1, vi l2, vi l3, vi l4, vi (l5 + 1)] [] (101, (updI (updI (updI (updI I 49 0 (l5 - (1 : Int32)).toNatClampNeg (I 49 0 l5.toNatClampNeg)) 50 0 (l5 - (1 : Int32)).toNatClampNeg (I 50 0 l5.toNatClampNeg)) 51 0 (l5 - (1 : Int32)).toNatClampNeg (I 51 0 l5.toNatClampNeg)) 52 0 (l5 - (1 : Int32)).toNatClampNeg (I 52 0 l5.toNatClampNeg)), J, R0 b) Q)))))))))) : WP D 143 34 [vr 10 0, vi l1, vi l2, vi l3, vi l4, vi l5] [] (101, I, J, R0 b) Q := by
  refine WP.blk (pc' := 38) (L' := [vr 10 0, vi l1, vi l2, vi l3, vi l4, vi l5]) (st' := [vi 40, vi l5]) (h' := (101, I, J, R0 b)) 2 rfl ?_
  refine WP.icmp_ge (t := 111) (L' := [vr 10 0, vi l1, vi l2, vi l3, vi l4, vi l5]) rfl rfl rfl rfl h (fun h => ?_) (fun h => ?_)
  · refine WP.blk (pc' := 130) (L' := [vr 10 0, vi l1, vi l2, vi l3, vi l4, vn]) (st' := [vi l1, vi ((I 10 0 13) - (1 : Int32)), vr 49 0]) (h' := (101, (updI I 10 0 13 ((I 10 0 13) - (1 : Int32))), J, R0 b)) 11 rfl ?_
    refine WP.step (pc' := 131) (L' := [vr 10 0, vi l1, vi l2, vi l3, vi l4, vn]) (st' := []) (h' := (101, (updI (updI I 10 0 13 ((I 10 0 13) - (1 : Int32))) 49 0 ((I 10 0 13) - (1 : Int32)).toNatClampNeg l1), J, R0 b)) rfl (iastore_ok (n := 40) rfl rfl rfl (inA_of h.1)) ?_
    have h := And.right h
    refine WP.blk (pc' := 140) (L' := [vr 10 0, vi l1, vi l2, vi l3, vi l4, vn]) (st' := [vi l2, vi ((I 10 0 13) - (1 : Int32)), vr 50 0]) (h' := (101, (updI (updI I 10 0 13 ((I 10 0 13) - (1 : Int32))) 49 0 ((I 10 0 13) - (1 : Int32)).toNatClampNeg l1), J, R0 b)) 5 rfl ?_
    refine WP.step (pc' := 141) (L' := [vr 10 0, vi l1, vi l2, vi l3, vi l4, vn]) (st' := []) (h' := (101, (updI (updI (updI I 10 0 13 ((I 10 0 13) - (1 : Int32))) 49 0 ((I 10 0 13) - (1 : Int32)).toNatClampNeg l1) 50 0 ((I 10 0 13) - (1 : Int32)).toNatClampNeg l2), J, R0 b)) rfl (iastore_ok (n := 40) rfl rfl rfl (inA_of h.1)) ?_
    have h := And.right h
    refine WP.blk (pc' := 151) (L' := [vr 10 0, vi l1, vi l2, vi l3, vi l4, vn]) (st' := [vi l4, vi ((I 10 0 13) - (1 : Int32)), vr 51 0]) (h' := (101, (updI (updI (updI I 10 0 13 ((I 10 0 13) - (1 : Int32))) 49 0 ((I 10 0 13) - (1 : Int32)).toNatClampNeg l1) 50 0 ((I 10 0 13) - (1 : Int32)).toNatClampNeg l2), J, R0 b)) 5 rfl ?_
    refine WP.step (pc' := 152) (L' := [vr 10 0, vi l1, vi l2, vi l3, vi l4, vn]) (st' := []) (h' := (101, (updI (updI (updI (updI I 10 0 13 ((I 10 0 13) - (1 : Int32))) 49 0 ((I 10 0 13) - (1 : Int32)).toNatClampNeg l1) 50 0 ((I 10 0 13) - (1 : Int32)).toNatClampNeg l2) 51 0 ((I 10 0 13) - (1 : Int32)).toNatClampNeg l4), J, R0 b)) rfl (iastore_ok (n := 40) rfl rfl rfl (inA_of h.1)) ?_
    have h := And.right h
    refine WP.blk (pc' := 161) (L' := [vr 10 0, vi l1, vi l2, vi l3, vi l4, vn]) (st' := [vi l3, vi ((I 10 0 13) - (1 : Int32)), vr 52 0]) (h' := (101, (updI (updI (updI (updI I 10 0 13 ((I 10 0 13) - (1 : Int32))) 49 0 ((I 10 0 13) - (1 : Int32)).toNatClampNeg l1) 50 0 ((I 10 0 13) - (1 : Int32)).toNatClampNeg l2) 51 0 ((I 10 0 13) - (1 : Int32)).toNatClampNeg l4), J, R0 b)) 5 rfl ?_
    refine WP.step (pc' := 162) (L' := [vr 10 0, vi l1, vi l2, vi l3, vi l4, vn]) (st' := []) (h' := (101, (updI (updI (updI (updI (updI I 10 0 13 ((I 10 0 13) - (1 : Int32))) 49 0 ((I 10 0 13) - (1 : Int32)).toNatClampNeg l1) 50 0 ((I 10 0 13) - (1 : Int32)).toNatClampNeg l2) 51 0 ((I 10 0 13) - (1 : Int32)).toNatClampNeg l4) 52 0 ((I 10 0 13) - (1 : Int32)).toNatClampNeg l3), J, R0 b)) rfl (iastore_ok (n := 40) rfl rfl rfl (inA_of h.1)) ?_
    have h := And.right h
    refine WP.blk (pc' := 176) (L' := [vr 10 0, vi l1, vi l2, vi l3, vi l4, vn]) (st' := [vi l3, vi l2, vi l1, vr 10 0]) (h' := (101, (updI (updI (updI (updI (updI (updI I 10 0 13 ((I 10 0 13) - (1 : Int32))) 49 0 ((I 10 0 13) - (1 : Int32)).toNatClampNeg l1) 50 0 ((I 10 0 13) - (1 : Int32)).toNatClampNeg l2) 51 0 ((I 10 0 13) - (1 : Int32)).toNatClampNeg l4) 52 0 ((I 10 0 13) - (1 : Int32)).toNatClampNeg l3) 10 0 13 (((I 10 0 13) - (1 : Int32)) + (1 : Int32))), J, R0 b)) 10 rfl ?_
    refine WP.cal (y' := 142) (as := [vr 10 0, vi l1, vi l2, vi l3]) (L' := [vr 10 0, vi l1, vi l2, vi l3, vi l4, vn]) (rest := []) rfl (fun f r h' hf => callV_ok hf rfl rfl rfl) h ?_
    rintro _ _ ⟨I8, J9, rfl, rfl, h⟩
    refine WP.blk (pc' := 181) (L' := [vr 10 0, vi l1, vi l2, vi l3, vi l4, vn]) (st' := [vi l4]) (h' := (101, I8, J9, R0 b)) 1 rfl ?_
    exact WP.ret rfl rfl h
  · refine WP.blk (pc' := 55) (L' := [vr 10 0, vi l1, vi l2, vi l3, vi l4, vi l5]) (st' := [vi l5, vr 49 0, vi (l5 - (1 : Int32)), vr 49 0]) (h' := (101, I, J, R0 b)) 8 rfl ?_
    refine WP.step (pc' := 56) (L' := [vr 10 0, vi l1, vi l2, vi l3, vi l4, vi l5]) (st' := [vi (I 49 0 l5.toNatClampNeg), vi (l5 - (1 : Int32)), vr 49 0]) (h' := (101, I, J, R0 b)) rfl (iaload_ok (n := 40) rfl rfl rfl (inA_of h.1)) ?_
    have h := And.right h
    refine WP.step (pc' := 57) (L' := [vr 10 0, vi l1, vi l2, vi l3, vi l4, vi l5]) (st' := []) (h' := (101, (updI I 49 0 (l5 - (1 : Int32)).toNatClampNeg (I 49 0 l5.toNatClampNeg)), J, R0 b)) rfl (iastore_ok (n := 40) rfl rfl rfl (inA_of h.1)) ?_
    have h := And.right h
    refine WP.blk (pc' := 71) (L' := [vr 10 0, vi l1, vi l2, vi l3, vi l4, vi l5]) (st' := [vi l5, vr 50 0, vi (l5 - (1 : Int32)), vr 50 0]) (h' := (101, (updI I 49 0 (l5 - (1 : Int32)).toNatClampNeg (I 49 0 l5.toNatClampNeg)), J, R0 b)) 8 rfl ?_
    refine WP.step (pc' := 72) (L' := [vr 10 0, vi l1, vi l2, vi l3, vi l4, vi l5]) (st' := [vi (I 50 0 l5.toNatClampNeg), vi (l5 - (1 : Int32)), vr 50 0]) (h' := (101, (updI I 49 0 (l5 - (1 : Int32)).toNatClampNeg (I 49 0 l5.toNatClampNeg)), J, R0 b)) rfl (iaload_ok (n := 40) rfl rfl rfl (inA_of h.1)) ?_
    have h := And.right h
    refine WP.step (pc' := 73) (L' := [vr 10 0, vi l1, vi l2, vi l3, vi l4, vi l5]) (st' := []) (h' := (101, (updI (updI I 49 0 (l5 - (1 : Int32)).toNatClampNeg (I 49 0 l5.toNatClampNeg)) 50 0 (l5 - (1 : Int32)).toNatClampNeg (I 50 0 l5.toNatClampNeg)), J, R0 b)) rfl (iastore_ok (n := 40) rfl rfl rfl (inA_of h.1)) ?_
    have h := And.right h
    refine WP.blk (pc' := 87) (L' := [vr 10 0, vi l1, vi l2, vi l3, vi l4, vi l5]) (st' := [vi l5, vr 51 0, vi (l5 - (1 : Int32)), vr 51 0]) (h' := (101, (updI (updI I 49 0 (l5 - (1 : Int32)).toNatClampNeg (I 49 0 l5.toNatClampNeg)) 50 0 (l5 - (1 : Int32)).toNatClampNeg (I 50 0 l5.toNatClampNeg)), J, R0 b)) 8 rfl ?_
    refine WP.step (pc' := 88) (L' := [vr 10 0, vi l1, vi l2, vi l3, vi l4, vi l5]) (st' := [vi (I 51 0 l5.toNatClampNeg), vi (l5 - (1 : Int32)), vr 51 0]) (h' := (101, (updI (updI I 49 0 (l5 - (1 : Int32)).toNatClampNeg (I 49 0 l5.toNatClampNeg)) 50 0 (l5 - (1 : Int32)).toNatClampNeg (I 50 0 l5.toNatClampNeg)), J, R0 b)) rfl (iaload_ok (n := 40) rfl rfl rfl (inA_of h.1)) ?_
    have h := And.right h
    refine WP.step (pc' := 89) (L' := [vr 10 0, vi l1, vi l2, vi l3, vi l4, vi l5]) (st' := []) (h' := (101, (updI (updI (updI I 49 0 (l5 - (1 : Int32)).toNatClampNeg (I 49 0 l5.toNatClampNeg)) 50 0 (l5 - (1 : Int32)).toNatClampNeg (I 50 0 l5.toNatClampNeg)) 51 0 (l5 - (1 : Int32)).toNatClampNeg (I 51 0 l5.toNatClampNeg)), J, R0 b)) rfl (iastore_ok (n := 40) rfl rfl rfl (inA_of h.1)) ?_
    have h := And.right h
    refine WP.blk (pc' := 103) (L' := [vr 10 0, vi l1, vi l2, vi l3, vi l4, vi l5]) (st' := [vi l5, vr 52 0, vi (l5 - (1 : Int32)), vr 52 0]) (h' := (101, (updI (updI (updI I 49 0 (l5 - (1 : Int32)).toNatClampNeg (I 49 0 l5.toNatClampNeg)) 50 0 (l5 - (1 : Int32)).toNatClampNeg (I 50 0 l5.toNatClampNeg)) 51 0 (l5 - (1 : Int32)).toNatClampNeg (I 51 0 l5.toNatClampNeg)), J, R0 b)) 8 rfl ?_
    refine WP.step (pc' := 104) (L' := [vr 10 0, vi l1, vi l2, vi l3, vi l4, vi l5]) (st' := [vi (I 52 0 l5.toNatClampNeg), vi (l5 - (1 : Int32)), vr 52 0]) (h' := (101, (updI (updI (updI I 49 0 (l5 - (1 : Int32)).toNatClampNeg (I 49 0 l5.toNatClampNeg)) 50 0 (l5 - (1 : Int32)).toNatClampNeg (I 50 0 l5.toNatClampNeg)) 51 0 (l5 - (1 : Int32)).toNatClampNeg (I 51 0 l5.toNatClampNeg)), J, R0 b)) rfl (iaload_ok (n := 40) rfl rfl rfl (inA_of h.1)) ?_
    have h := And.right h
    refine WP.step (pc' := 105) (L' := [vr 10 0, vi l1, vi l2, vi l3, vi l4, vi l5]) (st' := []) (h' := (101, (updI (updI (updI (updI I 49 0 (l5 - (1 : Int32)).toNatClampNeg (I 49 0 l5.toNatClampNeg)) 50 0 (l5 - (1 : Int32)).toNatClampNeg (I 50 0 l5.toNatClampNeg)) 51 0 (l5 - (1 : Int32)).toNatClampNeg (I 51 0 l5.toNatClampNeg)) 52 0 (l5 - (1 : Int32)).toNatClampNeg (I 52 0 l5.toNatClampNeg)), J, R0 b)) rfl (iastore_ok (n := 40) rfl rfl rfl (inA_of h.1)) ?_
    have h := And.right h
    refine WP.blk (pc' := 34) (L' := [vr 10 0, vi l1, vi l2, vi l3, vi l4, vi (l5 + 1)]) (st' := []) (h' := (101, (updI (updI (updI (updI I 49 0 (l5 - (1 : Int32)).toNatClampNeg (I 49 0 l5.toNatClampNeg)) 50 0 (l5 - (1 : Int32)).toNatClampNeg (I 50 0 l5.toNatClampNeg)) 51 0 (l5 - (1 : Int32)).toNatClampNeg (I 51 0 l5.toNatClampNeg)) 52 0 (l5 - (1 : Int32)).toNatClampNeg (I 52 0 l5.toNatClampNeg)), J, R0 b)) 2 rfl ?_
    exact WP.mask rfl rfl h
set_option maxRecDepth 20000 in
theorem t_X10_undo {D : Nat}  (I : IM) (J : JM) (b : Bool) {Q : Option AV → AH → Prop} (h : (if ¬ (I 10 0 13) = 0 then (vp_in ((I 10 0 13) - (1 : Int32)) 40 ∧ (vp_in ((I 10 0 13) - (1 : Int32)) 40 ∧ (vp_in ((I 10 0 13) - (1 : Int32)) 40 ∧ (Call D 142 [vr 10 0, vi (I 49 0 ((I 10 0 13) - (1 : Int32)).toNatClampNeg), vi (I 50 0 ((I 10 0 13) - (1 : Int32)).toNatClampNeg), vi (I 51 0 ((I 10 0 13) - (1 : Int32)).toNatClampNeg)] (101, (updI (updI I 10 0 13 ((I 10 0 13) - (1 : Int32))) 10 0 14 ((I 10 0 14) + (1 : Int32))), J, R0 b) (RVf b fun I2 J3 => Q (some (vi (I2 10 0 13))) (101, I2, J3, R0 b)))))) else Q (some (vi (-5))) (101, I, J, R0 b))) : Call (D + 1) 144 [vr 10 0] (101, I, J, R0 b) Q := by
  refine Call.of rfl ?_
  show WP D 144 0 [vr 10 0] [] (101, I, J, R0 b) Q
  refine WP.blk (pc' := 4) (L' := [vr 10 0]) (st' := [vi (I 10 0 13)]) (h' := (101, I, J, R0 b)) 2 rfl ?_
  refine WP.if_ne (t := 10) (L' := [vr 10 0]) rfl rfl rfl rfl h (fun h => ?_) (fun h => ?_)
  · refine WP.blk (pc' := 39) (L' := [vr 10 0]) (st' := [vi ((I 10 0 13) - (1 : Int32)), vr 49 0, vr 10 0]) (h' := (101, (updI (updI I 10 0 13 ((I 10 0 13) - (1 : Int32))) 10 0 14 ((I 10 0 14) + (1 : Int32))), J, R0 b)) 17 rfl ?_
    refine WP.step (pc' := 40) (L' := [vr 10 0]) (st' := [vi (I 49 0 ((I 10 0 13) - (1 : Int32)).toNatClampNeg), vr 10 0]) (h' := (101, (updI (updI I 10 0 13 ((I 10 0 13) - (1 : Int32))) 10 0 14 ((I 10 0 14) + (1 : Int32))), J, R0 b)) rfl (iaload_ok (n := 40) rfl rfl rfl (inA_of h.1)) ?_
    have h := And.right h
    refine WP.blk (pc' := 48) (L' := [vr 10 0]) (st' := [vi ((I 10 0 13) - (1 : Int32)), vr 50 0, vi (I 49 0 ((I 10 0 13) - (1 : Int32)).toNatClampNeg), vr 10 0]) (h' := (101, (updI (updI I 10 0 13 ((I 10 0 13) - (1 : Int32))) 10 0 14 ((I 10 0 14) + (1 : Int32))), J, R0 b)) 4 rfl ?_
    refine WP.step (pc' := 49) (L' := [vr 10 0]) (st' := [vi (I 50 0 ((I 10 0 13) - (1 : Int32)).toNatClampNeg), vi (I 49 0 ((I 10 0 13) - (1 : Int32)).toNatClampNeg), vr 10 0]) (h' := (101, (updI (updI I 10 0 13 ((I 10 0 13) - (1 : Int32))) 10 0 14 ((I 10 0 14) + (1 : Int32))), J, R0 b)) rfl (iaload_ok (n := 40) rfl rfl rfl (inA_of h.1)) ?_
    have h := And.right h
    refine WP.blk (pc' := 57) (L' := [vr 10 0]) (st' := [vi ((I 10 0 13) - (1 : Int32)), vr 51 0, vi (I 50 0 ((I 10 0 13) - (1 : Int32)).toNatClampNeg), vi (I 49 0 ((I 10 0 13) - (1 : Int32)).toNatClampNeg), vr 10 0]) (h' := (101, (updI (updI I 10 0 13 ((I 10 0 13) - (1 : Int32))) 10 0 14 ((I 10 0 14) + (1 : Int32))), J, R0 b)) 4 rfl ?_
    refine WP.step (pc' := 58) (L' := [vr 10 0]) (st' := [vi (I 51 0 ((I 10 0 13) - (1 : Int32)).toNatClampNeg), vi (I 50 0 ((I 10 0 13) - (1 : Int32)).toNatClampNeg), vi (I 49 0 ((I 10 0 13) - (1 : Int32)).toNatClampNeg), vr 10 0]) (h' := (101, (updI (updI I 10 0 13 ((I 10 0 13) - (1 : Int32))) 10 0 14 ((I 10 0 14) + (1 : Int32))), J, R0 b)) rfl (iaload_ok (n := 40) rfl rfl rfl (inA_of h.1)) ?_
    have h := And.right h
    refine WP.cal (y' := 142) (as := [vr 10 0, vi (I 49 0 ((I 10 0 13) - (1 : Int32)).toNatClampNeg), vi (I 50 0 ((I 10 0 13) - (1 : Int32)).toNatClampNeg), vi (I 51 0 ((I 10 0 13) - (1 : Int32)).toNatClampNeg)]) (L' := [vr 10 0]) (rest := []) rfl (fun f r h' hf => callV_ok hf rfl rfl rfl) h ?_
    rintro _ _ ⟨I2, J3, rfl, rfl, h⟩
    refine WP.blk (pc' := 65) (L' := [vr 10 0]) (st' := [vi (I2 10 0 13)]) (h' := (101, I2, J3, R0 b)) 2 rfl ?_
    exact WP.ret rfl rfl h
  · refine WP.blk (pc' := 9) (L' := [vr 10 0]) (st' := [vi (-5)]) (h' := (101, I, J, R0 b)) 1 rfl ?_
    exact WP.ret rfl rfl h
set_option maxRecDepth 20000 in
theorem t_X10_redo {D : Nat}  (I : IM) (J : JM) (b : Bool) {Q : Option AV → AH → Prop} (h : (if ¬ (I 10 0 14) = 0 then (vp_in (I 10 0 13) 40 ∧ (vp_in (I 10 0 13) 40 ∧ (vp_in (I 10 0 13) 40 ∧ (Call D 142 [vr 10 0, vi (I 49 0 (I 10 0 13).toNatClampNeg), vi (I 50 0 (I 10 0 13).toNatClampNeg), vi (I 52 0 (I 10 0 13).toNatClampNeg)] (101, I, J, R0 b) (RVf b fun I2 J3 => Q (some (vi ((I2 10 0 14) - (1 : Int32)))) (101, (updI (updI I2 10 0 13 ((I2 10 0 13) + (1 : Int32))) 10 0 14 ((I2 10 0 14) - (1 : Int32))), J3, R0 b)))))) else Q (some (vi (-5))) (101, I, J, R0 b))) : Call (D + 1) 145 [vr 10 0] (101, I, J, R0 b) Q := by
  refine Call.of rfl ?_
  show WP D 145 0 [vr 10 0] [] (101, I, J, R0 b) Q
  refine WP.blk (pc' := 4) (L' := [vr 10 0]) (st' := [vi (I 10 0 14)]) (h' := (101, I, J, R0 b)) 2 rfl ?_
  refine WP.if_ne (t := 10) (L' := [vr 10 0]) rfl rfl rfl rfl h (fun h => ?_) (fun h => ?_)
  · refine WP.blk (pc' := 19) (L' := [vr 10 0]) (st' := [vi (I 10 0 13), vr 49 0, vr 10 0]) (h' := (101, I, J, R0 b)) 5 rfl ?_
    refine WP.step (pc' := 20) (L' := [vr 10 0]) (st' := [vi (I 49 0 (I 10 0 13).toNatClampNeg), vr 10 0]) (h' := (101, I, J, R0 b)) rfl (iaload_ok (n := 40) rfl rfl rfl (inA_of h.1)) ?_
    have h := And.right h
    refine WP.blk (pc' := 28) (L' := [vr 10 0]) (st' := [vi (I 10 0 13), vr 50 0, vi (I 49 0 (I 10 0 13).toNatClampNeg), vr 10 0]) (h' := (101, I, J, R0 b)) 4 rfl ?_
    refine WP.step (pc' := 29) (L' := [vr 10 0]) (st' := [vi (I 50 0 (I 10 0 13).toNatClampNeg), vi (I 49 0 (I 10 0 13).toNatClampNeg), vr 10 0]) (h' := (101, I, J, R0 b)) rfl (iaload_ok (n := 40) rfl rfl rfl (inA_of h.1)) ?_
    have h := And.right h
    refine WP.blk (pc' := 37) (L' := [vr 10 0]) (st' := [vi (I 10 0 13), vr 52 0, vi (I 50 0 (I 10 0 13).toNatClampNeg), vi (I 49 0 (I 10 0 13).toNatClampNeg), vr 10 0]) (h' := (101, I, J, R0 b)) 4 rfl ?_
    refine WP.step (pc' := 38) (L' := [vr 10 0]) (st' := [vi (I 52 0 (I 10 0 13).toNatClampNeg), vi (I 50 0 (I 10 0 13).toNatClampNeg), vi (I 49 0 (I 10 0 13).toNatClampNeg), vr 10 0]) (h' := (101, I, J, R0 b)) rfl (iaload_ok (n := 40) rfl rfl rfl (inA_of h.1)) ?_
    have h := And.right h
    refine WP.cal (y' := 142) (as := [vr 10 0, vi (I 49 0 (I 10 0 13).toNatClampNeg), vi (I 50 0 (I 10 0 13).toNatClampNeg), vi (I 52 0 (I 10 0 13).toNatClampNeg)]) (L' := [vr 10 0]) (rest := []) rfl (fun f r h' hf => callV_ok hf rfl rfl rfl) h ?_
    rintro _ _ ⟨I2, J3, rfl, rfl, h⟩
    refine WP.blk (pc' := 65) (L' := [vr 10 0]) (st' := [vi ((I2 10 0 14) - (1 : Int32))]) (h' := (101, (updI (updI I2 10 0 13 ((I2 10 0 13) + (1 : Int32))) 10 0 14 ((I2 10 0 14) - (1 : Int32))), J3, R0 b)) 14 rfl ?_
    exact WP.ret rfl rfl h
  · refine WP.blk (pc' := 9) (L' := [vr 10 0]) (st' := [vi (-5)]) (h' := (101, I, J, R0 b)) 1 rfl ?_
    exact WP.ret rfl rfl h
set_option maxRecDepth 20000 in
theorem t_X10_isOne {D : Nat} (l1 : Int32) (l2 : Int32) (I : IM) (J : JM) (b : Bool) {Q : Option AV → AH → Prop} (h : (Call D 135 [vi l2, vi 0, vi 5] (101, I, J, R0 b) (RIf b fun x1 I2 J3 => (if x1 = 0 then (Call D 135 [vi l2, vi 6, vi 10] (101, I2, J3, R0 b) (RIf b fun x4 I5 J6 => (if x4 = 0 then Q (some (vi 0)) (101, I5, J6, R0 b) else (if ¬ l1 = 0 then Q (some (vi 0)) (101, I5, J6, R0 b) else Q (some (vi 1)) (101, I5, J6, R0 b))))) else (Call D 137 [vr 10 0, vi l1] (101, I2, J3, R0 b) (RIf b fun x7 I8 J9 => (x7 &&& 1 = x7 ∧ Q (some (vi x7)) (101, I8, J9, R0 b)))))))) : Call (D + 1) 146 [vr 10 0, vi l1, vi l2] (101, I, J, R0 b) Q := by
  refine Call.of rfl ?_
  show WP D 146 0 [vr 10 0, vi l1, vi l2] [] (101, I, J, R0 b) Q
  refine WP.blk (pc' := 3) (L' := [vr 10 0, vi l1, vi l2]) (st' := [vi 5, vi 0, vi l2]) (h' := (101, I, J, R0 b)) 3 rfl ?_
  refine WP.cal (y' := 135) (as := [vi l2, vi 0, vi 5]) (L' := [vr 10 0, vi l1, vi l2]) (rest := []) rfl (fun f r h' hf => callS_ok hf rfl rfl rfl) h ?_
  rintro _ _ ⟨x1, I2, J3, rfl, rfl, h⟩
  refine WP.if_eq (t := 17) (L' := [vr 10 0, vi l1, vi l2]) rfl rfl rfl rfl h (fun h => ?_) (fun h => ?_)
  · refine WP.blk (pc' := 22) (L' := [vr 10 0, vi l1, vi l2]) (st' := [vi 10, vi 6, vi l2]) (h' := (101, I2, J3, R0 b)) 3 rfl ?_
    refine WP.cal (y' := 135) (as := [vi l2, vi 6, vi 10]) (L' := [vr 10 0, vi l1, vi l2]) (rest := []) rfl (fun f r h' hf => callS_ok hf rfl rfl rfl) h ?_
    rintro _ _ ⟨x4, I5, J6, rfl, rfl, h⟩
    refine WP.if_eq (t := 36) (L' := [vr 10 0, vi l1, vi l2]) rfl rfl rfl rfl h (fun h => ?_) (fun h => ?_)
    · refine WP.blk (pc' := 37) (L' := [vn, vn, vn]) (st' := [vi 0]) (h' := (101, I5, J6, R0 b)) 1 rfl ?_
      exact WP.ret rfl rfl h
    · refine WP.blk (pc' := 29) (L' := [vr 10 0, vi l1, vi l2]) (st' := [vi l1]) (h' := (101, I5, J6, R0 b)) 1 rfl ?_
      refine WP.if_ne (t := 36) (L' := [vr 10 0, vi l1, vi l2]) rfl rfl rfl rfl h (fun h => ?_) (fun h => ?_)
      · refine WP.blk (pc' := 37) (L' := [vn, vn, vn]) (st' := [vi 0]) (h' := (101, I5, J6, R0 b)) 1 rfl ?_
        exact WP.ret rfl rfl h
      · refine WP.blk (pc' := 37) (L' := [vr 10 0, vi l1, vi l2]) (st' := [vi 1]) (h' := (101, I5, J6, R0 b)) 2 rfl ?_
        exact WP.ret rfl rfl h
  · refine WP.blk (pc' := 11) (L' := [vr 10 0, vi l1, vi l2]) (st' := [vi l1, vr 10 0]) (h' := (101, I2, J3, R0 b)) 2 rfl ?_
    refine WP.cal (y' := 137) (as := [vr 10 0, vi l1]) (L' := [vr 10 0, vi l1, vi l2]) (rest := []) rfl (fun f r h' hf => callV_ok hf rfl rfl rfl) h ?_
    rintro _ _ ⟨x7, I8, J9, rfl, rfl, h⟩
    refine WP.blk (pc' := 37) (L' := [vr 10 0, vi l1, vi l2]) (st' := [vi x7]) (h' := (101, I8, J9, R0 b)) 1 rfl ?_
    exact WP.retg (b := decide (x7 &&& 1 = x7) || false) rfl (by rw [decide_eq_true h.1]; rfl) rfl h.2
set_option maxRecDepth 20000 in
theorem t_X10_mayBe {D : Nat} (l0 : Int32) (l1 : Int32) (l2 : Int32) (I : IM) (J : JM) (b : Bool) {Q : Option AV → AH → Prop} (h : (if l1 = 0 then (Call D 135 [vi l2, vi 1, vi 9] (101, I, J, R0 b) (RIf b fun x1 I2 J3 => (x1 &&& 1 = x1 ∧ Q (some (vi x1)) (101, I2, J3, R0 b)))) else (if l1 = 1 then (Call D 135 [vi l2, vi 0, vi 3] (101, I, J, R0 b) (RIf b fun x4 I5 J6 => (x4 &&& 1 = x4 ∧ Q (some (vi x4)) (101, I5, J6, R0 b)))) else (if l1 = 2 then (Call D 135 [vi l2, vi 0, vi 2] (101, I, J, R0 b) (RIf b fun x7 I8 J9 => (x7 &&& 1 = x7 ∧ Q (some (vi x7)) (101, I8, J9, R0 b)))) else (if l1 = 3 then (Call D 135 [vi l2, vi 0, vi 1] (101, I, J, R0 b) (RIf b fun x10 I11 J12 => (x10 &&& 1 = x10 ∧ Q (some (vi x10)) (101, I11, J12, R0 b)))) else (if l1 = 4 then (Call D 135 [vi l2, vi 0, vi 127] (101, I, J, R0 b) (RIf b fun x13 I14 J15 => (if x13 = 0 then Q (some (vi 0)) (101, I14, J15, R0 b) else (if ¬ ((l2 >>> (l0 &&& 31)) &&& (1 : Int32)) = 0 then Q (some (vi 0)) (101, I14, J15, R0 b) else Q (some (vi 1)) (101, I14, J15, R0 b))))) else (if l1 = 5 then (Call D 135 [vi l2, vi 0, vi 127] (101, I, J, R0 b) (RIf b fun x16 I17 J18 => (if x16 = 0 then Q (some (vi 0)) (101, I17, J18, R0 b) else (if ¬ ((l2 >>> (l0 &&& 31)) &&& (1 : Int32)) = 0 then Q (some (vi 0)) (101, I17, J18, R0 b) else Q (some (vi 1)) (101, I17, J18, R0 b))))) else (if l1 = 6 then (Call D 135 [vi l2, vi 0, vi 3] (101, I, J, R0 b) (RIf b fun x19 I20 J21 => (x19 &&& 1 = x19 ∧ Q (some (vi x19)) (101, I20, J21, R0 b)))) else (if l1 = 7 then (Call D 135 [vi l2, vi 0, vi 6] (101, I, J, R0 b) (RIf b fun x22 I23 J24 => (x22 &&& 1 = x22 ∧ Q (some (vi x22)) (101, I23, J24, R0 b)))) else (if l1 = 8 then (Call D 135 [vi l2, vi 0, vi 99] (101, I, J, R0 b) (RIf b fun x25 I26 J27 => (x25 &&& 1 = x25 ∧ Q (some (vi x25)) (101, I26, J27, R0 b)))) else (if l1 = 9 then (Call D 135 [vi l2, vi 0, vi 30] (101, I, J, R0 b) (RIf b fun x28 I29 J30 => (x28 &&& 1 = x28 ∧ Q (some (vi x28)) (101, I29, J30, R0 b)))) else (Call D 135 [vi l2, vi 0, vi 12] (101, I, J, R0 b) (RIf b fun x31 I32 J33 => (x31 &&& 1 = x31 ∧ Q (some (vi x31)) (101, I32, J33, R0 b))))))))))))))) : Call (D + 1) 147 [vi l0, vi l1, vi l2] (101, I, J, R0 b) Q := by
  refine Call.of rfl ?_
  show WP D 147 0 [vi l0, vi l1, vi l2] [] (101, I, J, R0 b) Q
  refine WP.blk (pc' := 1) (L' := [vi l0, vi l1, vi l2]) (st' := [vi l1]) (h' := (101, I, J, R0 b)) 1 rfl ?_
  refine WP.step (pc' := swf [(0, 56), (1, 64), (2, 71), (3, 78), (4, 85), (5, 109), (6, 133), (7, 140), (8, 148), (9, 156)] 164 l1) (L' := [vi l0, vi l1, vi l2]) (st' := []) (h' := (101, I, J, R0 b)) rfl rfl ?_
  refine WP.ite (c := l1 = 0) (pc1 := 56) (pc2 := swf [(1, 64), (2, 71), (3, 78), (4, 85), (5, 109), (6, 133), (7, 140), (8, 148), (9, 156)] 164 l1) h (fun h => ?_) (fun h => ?_)
  · refine WP.blk (pc' := 60) (L' := [vi l0, vi l1, vi l2]) (st' := [vi 9, vi 1, vi l2]) (h' := (101, I, J, R0 b)) 3 rfl ?_
    refine WP.cal (y' := 135) (as := [vi l2, vi 1, vi 9]) (L' := [vi l0, vi l1, vi l2]) (rest := []) rfl (fun f r h' hf => callS_ok hf rfl rfl rfl) h ?_
    rintro _ _ ⟨x1, I2, J3, rfl, rfl, h⟩
    exact WP.retg (b := decide (x1 &&& 1 = x1) || false) rfl (by rw [decide_eq_true h.1]; rfl) rfl h.2
  · refine WP.ite (c := l1 = 1) (pc1 := 64) (pc2 := swf [(2, 71), (3, 78), (4, 85), (5, 109), (6, 133), (7, 140), (8, 148), (9, 156)] 164 l1) h (fun h => ?_) (fun h => ?_)
    · refine WP.blk (pc' := 67) (L' := [vi l0, vi l1, vi l2]) (st' := [vi 3, vi 0, vi l2]) (h' := (101, I, J, R0 b)) 3 rfl ?_
      refine WP.cal (y' := 135) (as := [vi l2, vi 0, vi 3]) (L' := [vi l0, vi l1, vi l2]) (rest := []) rfl (fun f r h' hf => callS_ok hf rfl rfl rfl) h ?_
      rintro _ _ ⟨x4, I5, J6, rfl, rfl, h⟩
      exact WP.retg (b := decide (x4 &&& 1 = x4) || false) rfl (by rw [decide_eq_true h.1]; rfl) rfl h.2
    · refine WP.ite (c := l1 = 2) (pc1 := 71) (pc2 := swf [(3, 78), (4, 85), (5, 109), (6, 133), (7, 140), (8, 148), (9, 156)] 164 l1) h (fun h => ?_) (fun h => ?_)
      · refine WP.blk (pc' := 74) (L' := [vi l0, vi l1, vi l2]) (st' := [vi 2, vi 0, vi l2]) (h' := (101, I, J, R0 b)) 3 rfl ?_
        refine WP.cal (y' := 135) (as := [vi l2, vi 0, vi 2]) (L' := [vi l0, vi l1, vi l2]) (rest := []) rfl (fun f r h' hf => callS_ok hf rfl rfl rfl) h ?_
        rintro _ _ ⟨x7, I8, J9, rfl, rfl, h⟩
        exact WP.retg (b := decide (x7 &&& 1 = x7) || false) rfl (by rw [decide_eq_true h.1]; rfl) rfl h.2
      · refine WP.ite (c := l1 = 3) (pc1 := 78) (pc2 := swf [(4, 85), (5, 109), (6, 133), (7, 140), (8, 148), (9, 156)] 164 l1) h (fun h => ?_) (fun h => ?_)
        · refine WP.blk (pc' := 81) (L' := [vi l0, vi l1, vi l2]) (st' := [vi 1, vi 0, vi l2]) (h' := (101, I, J, R0 b)) 3 rfl ?_
          refine WP.cal (y' := 135) (as := [vi l2, vi 0, vi 1]) (L' := [vi l0, vi l1, vi l2]) (rest := []) rfl (fun f r h' hf => callS_ok hf rfl rfl rfl) h ?_
          rintro _ _ ⟨x10, I11, J12, rfl, rfl, h⟩
          exact WP.retg (b := decide (x10 &&& 1 = x10) || false) rfl (by rw [decide_eq_true h.1]; rfl) rfl h.2
        · refine WP.ite (c := l1 = 4) (pc1 := 85) (pc2 := swf [(5, 109), (6, 133), (7, 140), (8, 148), (9, 156)] 164 l1) h (fun h => ?_) (fun h => ?_)
          · refine WP.blk (pc' := 89) (L' := [vi l0, vi l1, vi l2]) (st' := [vi 127, vi 0, vi l2]) (h' := (101, I, J, R0 b)) 3 rfl ?_
            refine WP.cal (y' := 135) (as := [vi l2, vi 0, vi 127]) (L' := [vi l0, vi l1, vi l2]) (rest := []) rfl (fun f r h' hf => callS_ok hf rfl rfl rfl) h ?_
            rintro _ _ ⟨x13, I14, J15, rfl, rfl, h⟩
            refine WP.if_eq (t := 107) (L' := [vi l0, vi l1, vi l2]) rfl rfl rfl rfl h (fun h => ?_) (fun h => ?_)
            · refine WP.blk (pc' := 108) (L' := [vn, vn, vn]) (st' := [vi 0]) (h' := (101, I14, J15, R0 b)) 1 rfl ?_
              exact WP.ret rfl rfl h
            · refine WP.blk (pc' := 100) (L' := [vi l0, vi l1, vi l2]) (st' := [vi ((l2 >>> (l0 &&& 31)) &&& (1 : Int32))]) (h' := (101, I14, J15, R0 b)) 5 rfl ?_
              refine WP.if_ne (t := 107) (L' := [vi l0, vi l1, vi l2]) rfl rfl rfl rfl h (fun h => ?_) (fun h => ?_)
              · refine WP.blk (pc' := 108) (L' := [vn, vn, vn]) (st' := [vi 0]) (h' := (101, I14, J15, R0 b)) 1 rfl ?_
                exact WP.ret rfl rfl h
              · refine WP.blk (pc' := 108) (L' := [vi l0, vi l1, vi l2]) (st' := [vi 1]) (h' := (101, I14, J15, R0 b)) 2 rfl ?_
                exact WP.ret rfl rfl h
          · refine WP.ite (c := l1 = 5) (pc1 := 109) (pc2 := swf [(6, 133), (7, 140), (8, 148), (9, 156)] 164 l1) h (fun h => ?_) (fun h => ?_)
            · refine WP.blk (pc' := 113) (L' := [vi l0, vi l1, vi l2]) (st' := [vi 127, vi 0, vi l2]) (h' := (101, I, J, R0 b)) 3 rfl ?_
              refine WP.cal (y' := 135) (as := [vi l2, vi 0, vi 127]) (L' := [vi l0, vi l1, vi l2]) (rest := []) rfl (fun f r h' hf => callS_ok hf rfl rfl rfl) h ?_
              rintro _ _ ⟨x16, I17, J18, rfl, rfl, h⟩
              refine WP.if_eq (t := 131) (L' := [vi l0, vi l1, vi l2]) rfl rfl rfl rfl h (fun h => ?_) (fun h => ?_)
              · refine WP.blk (pc' := 132) (L' := [vn, vn, vn]) (st' := [vi 0]) (h' := (101, I17, J18, R0 b)) 1 rfl ?_
                exact WP.ret rfl rfl h
              · refine WP.blk (pc' := 124) (L' := [vi l0, vi l1, vi l2]) (st' := [vi ((l2 >>> (l0 &&& 31)) &&& (1 : Int32))]) (h' := (101, I17, J18, R0 b)) 5 rfl ?_
                refine WP.if_ne (t := 131) (L' := [vi l0, vi l1, vi l2]) rfl rfl rfl rfl h (fun h => ?_) (fun h => ?_)
                · refine WP.blk (pc' := 132) (L' := [vn, vn, vn]) (st' := [vi 0]) (h' := (101, I17, J18, R0 b)) 1 rfl ?_
                  exact WP.ret rfl rfl h
                · refine WP.blk (pc' := 132) (L' := [vi l0, vi l1, vi l2]) (st' := [vi 1]) (h' := (101, I17, J18, R0 b)) 2 rfl ?_
                  exact WP.ret rfl rfl h
            · refine WP.ite (c := l1 = 6) (pc1 := 133) (pc2 := swf [(7, 140), (8, 148), (9, 156)] 164 l1) h (fun h => ?_) (fun h => ?_)
              · refine WP.blk (pc' := 136) (L' := [vi l0, vi l1, vi l2]) (st' := [vi 3, vi 0, vi l2]) (h' := (101, I, J, R0 b)) 3 rfl ?_
                refine WP.cal (y' := 135) (as := [vi l2, vi 0, vi 3]) (L' := [vi l0, vi l1, vi l2]) (rest := []) rfl (fun f r h' hf => callS_ok hf rfl rfl rfl) h ?_
                rintro _ _ ⟨x19, I20, J21, rfl, rfl, h⟩
                exact WP.retg (b := decide (x19 &&& 1 = x19) || false) rfl (by rw [decide_eq_true h.1]; rfl) rfl h.2
              · refine WP.ite (c := l1 = 7) (pc1 := 140) (pc2 := swf [(8, 148), (9, 156)] 164 l1) h (fun h => ?_) (fun h => ?_)
                · refine WP.blk (pc' := 144) (L' := [vi l0, vi l1, vi l2]) (st' := [vi 6, vi 0, vi l2]) (h' := (101, I, J, R0 b)) 3 rfl ?_
                  refine WP.cal (y' := 135) (as := [vi l2, vi 0, vi 6]) (L' := [vi l0, vi l1, vi l2]) (rest := []) rfl (fun f r h' hf => callS_ok hf rfl rfl rfl) h ?_
                  rintro _ _ ⟨x22, I23, J24, rfl, rfl, h⟩
                  exact WP.retg (b := decide (x22 &&& 1 = x22) || false) rfl (by rw [decide_eq_true h.1]; rfl) rfl h.2
                · refine WP.ite (c := l1 = 8) (pc1 := 148) (pc2 := swf [(9, 156)] 164 l1) h (fun h => ?_) (fun h => ?_)
                  · refine WP.blk (pc' := 152) (L' := [vi l0, vi l1, vi l2]) (st' := [vi 99, vi 0, vi l2]) (h' := (101, I, J, R0 b)) 3 rfl ?_
                    refine WP.cal (y' := 135) (as := [vi l2, vi 0, vi 99]) (L' := [vi l0, vi l1, vi l2]) (rest := []) rfl (fun f r h' hf => callS_ok hf rfl rfl rfl) h ?_
                    rintro _ _ ⟨x25, I26, J27, rfl, rfl, h⟩
                    exact WP.retg (b := decide (x25 &&& 1 = x25) || false) rfl (by rw [decide_eq_true h.1]; rfl) rfl h.2
                  · refine WP.ite (c := l1 = 9) (pc1 := 156) (pc2 := swf [] 164 l1) h (fun h => ?_) (fun h => ?_)
                    · refine WP.blk (pc' := 160) (L' := [vi l0, vi l1, vi l2]) (st' := [vi 30, vi 0, vi l2]) (h' := (101, I, J, R0 b)) 3 rfl ?_
                      refine WP.cal (y' := 135) (as := [vi l2, vi 0, vi 30]) (L' := [vi l0, vi l1, vi l2]) (rest := []) rfl (fun f r h' hf => callS_ok hf rfl rfl rfl) h ?_
                      rintro _ _ ⟨x28, I29, J30, rfl, rfl, h⟩
                      exact WP.retg (b := decide (x28 &&& 1 = x28) || false) rfl (by rw [decide_eq_true h.1]; rfl) rfl h.2
                    · show WP D 147 164 [vi l0, vi l1, vi l2] [] (101, I, J, R0 b) Q
                      refine WP.blk (pc' := 168) (L' := [vi l0, vi l1, vi l2]) (st' := [vi 12, vi 0, vi l2]) (h' := (101, I, J, R0 b)) 3 rfl ?_
                      refine WP.cal (y' := 135) (as := [vi l2, vi 0, vi 12]) (L' := [vi l0, vi l1, vi l2]) (rest := []) rfl (fun f r h' hf => callS_ok hf rfl rfl rfl) h ?_
                      rintro _ _ ⟨x31, I32, J33, rfl, rfl, h⟩
                      exact WP.retg (b := decide (x31 &&& 1 = x31) || false) rfl (by rw [decide_eq_true h.1]; rfl) rfl h.2
set_option maxRecDepth 20000 in
theorem t_X10_mend {D : Nat} (l1 : Int32) (l2 : Int32) (l3 : Int32) (I : IM) (J : JM) (b : Bool) {Q : Option AV → AH → Prop} (h : (Call D 146 [vr 10 0, vi l1, vi l2] (101, I, J, R0 b) (RIf b fun x1 I2 J3 => (if x1 = 0 then Q (some (vi (-1))) (101, I2, J3, R0 b) else (Call D 147 [vi l1, vi l2, vi l3] (101, I2, J3, R0 b) (RIf b fun x4 I5 J6 => (if x4 = 0 then Q (some (vi (-1))) (101, I5, J6, R0 b) else (Call D 143 [vr 10 0, vi l2, vi l1, vi l3] (101, I5, J6, R0 b) (RIf b fun x7 I8 J9 => Q (some (vi x7)) (101, I8, J9, R0 b)))))))))) : Call (D + 1) 148 [vr 10 0, vi l1, vi l2, vi l3] (101, I, J, R0 b) Q := by
  refine Call.of rfl ?_
  show WP D 148 0 [vr 10 0, vi l1, vi l2, vi l3] [] (101, I, J, R0 b) Q
  refine WP.blk (pc' := 3) (L' := [vr 10 0, vi l1, vi l2, vi l3]) (st' := [vi l2, vi l1, vr 10 0]) (h' := (101, I, J, R0 b)) 3 rfl ?_
  refine WP.cal (y' := 146) (as := [vr 10 0, vi l1, vi l2]) (L' := [vr 10 0, vi l1, vi l2, vi l3]) (rest := []) rfl (fun f r h' hf => callV_ok hf rfl rfl rfl) h ?_
  rintro _ _ ⟨x1, I2, J3, rfl, rfl, h⟩
  refine WP.if_eq (t := 28) (L' := [vr 10 0, vi l1, vi l2, vi l3]) rfl rfl rfl rfl h (fun h => ?_) (fun h => ?_)
  · refine WP.blk (pc' := 29) (L' := [vn, vn, vn, vn]) (st' := [vi (-1)]) (h' := (101, I2, J3, R0 b)) 1 rfl ?_
    exact WP.ret rfl rfl h
  · refine WP.blk (pc' := 12) (L' := [vr 10 0, vi l1, vi l2, vi l3]) (st' := [vi l3, vi l2, vi l1]) (h' := (101, I2, J3, R0 b)) 3 rfl ?_
    refine WP.cal (y' := 147) (as := [vi l1, vi l2, vi l3]) (L' := [vr 10 0, vi l1, vi l2, vi l3]) (rest := []) rfl (fun f r h' hf => callS_ok hf rfl rfl rfl) h ?_
    rintro _ _ ⟨x4, I5, J6, rfl, rfl, h⟩
    refine WP.if_eq (t := 28) (L' := [vr 10 0, vi l1, vi l2, vi l3]) rfl rfl rfl rfl h (fun h => ?_) (fun h => ?_)
    · refine WP.blk (pc' := 29) (L' := [vn, vn, vn, vn]) (st' := [vi (-1)]) (h' := (101, I5, J6, R0 b)) 1 rfl ?_
      exact WP.ret rfl rfl h
    · refine WP.blk (pc' := 22) (L' := [vr 10 0, vi l1, vi l2, vi l3]) (st' := [vi l3, vi l1, vi l2, vr 10 0]) (h' := (101, I5, J6, R0 b)) 4 rfl ?_
      refine WP.cal (y' := 143) (as := [vr 10 0, vi l2, vi l1, vi l3]) (L' := [vr 10 0, vi l1, vi l2, vi l3]) (rest := []) rfl (fun f r h' hf => callV_ok hf rfl rfl rfl) h ?_
      rintro _ _ ⟨x7, I8, J9, rfl, rfl, h⟩
      refine WP.blk (pc' := 29) (L' := [vr 10 0, vi l1, vi l2, vi l3]) (st' := [vi x7]) (h' := (101, I8, J9, R0 b)) 1 rfl ?_
      exact WP.ret rfl rfl h
set_option maxRecDepth 20000 in
theorem t_X10_of {D : Nat} (l1 : Int32) (l2 : Int32) (I : IM) (J : JM) (b : Bool) {Q : Option AV → AH → Prop} (h : (if ¬ l2 = (11 : Int32) then (if ¬ l2 = (12 : Int32) then (Call D 146 [vr 10 0, vi l1, vi l2] (101, I, J, R0 b) (RIf b fun x1 I2 J3 => (if x1 = 0 then Q (some (vi (-1))) (101, I2, J3, R0 b) else (Call D 141 [vr 10 0, vi l2, vi l1] (101, I2, J3, R0 b) (RIf b fun x4 I5 J6 => Q (some (vi x4)) (101, I5, J6, R0 b)))))) else (if ¬ l1 = 0 then Q (some (vi (-1))) (101, I, J, R0 b) else Q (some (vi (I 10 0 58))) (101, I, J, R0 b))) else (if ¬ l1 = 0 then Q (some (vi (-1))) (101, I, J, R0 b) else Q (some (vi (I 10 0 57))) (101, I, J, R0 b)))) : Call (D + 1) 149 [vr 10 0, vi l1, vi l2] (101, I, J, R0 b) Q := by
  refine Call.of rfl ?_
  show WP D 149 0 [vr 10 0, vi l1, vi l2] [] (101, I, J, R0 b) Q
  refine WP.blk (pc' := 3) (L' := [vr 10 0, vi l1, vi l2]) (st' := [vi 11, vi l2]) (h' := (101, I, J, R0 b)) 2 rfl ?_
  refine WP.icmp_ne (t := 19) (L' := [vr 10 0, vi l1, vi l2]) rfl rfl rfl rfl h (fun h => ?_) (fun h => ?_)
  · refine WP.blk (pc' := 22) (L' := [vr 10 0, vi l1, vi l2]) (st' := [vi 12, vi l2]) (h' := (101, I, J, R0 b)) 2 rfl ?_
    refine WP.icmp_ne (t := 38) (L' := [vr 10 0, vi l1, vi l2]) rfl rfl rfl rfl h (fun h => ?_) (fun h => ?_)
    · refine WP.blk (pc' := 41) (L' := [vr 10 0, vi l1, vi l2]) (st' := [vi l2, vi l1, vr 10 0]) (h' := (101, I, J, R0 b)) 3 rfl ?_
      refine WP.cal (y' := 146) (as := [vr 10 0, vi l1, vi l2]) (L' := [vr 10 0, vi l1, vi l2]) (rest := []) rfl (fun f r h' hf => callV_ok hf rfl rfl rfl) h ?_
      rintro _ _ ⟨x1, I2, J3, rfl, rfl, h⟩
      refine WP.if_eq (t := 56) (L' := [vr 10 0, vi l1, vi l2]) rfl rfl rfl rfl h (fun h => ?_) (fun h => ?_)
      · refine WP.blk (pc' := 57) (L' := [vr 10 0, vi l1, vi l2]) (st' := [vi (-1)]) (h' := (101, I2, J3, R0 b)) 1 rfl ?_
        exact WP.ret rfl rfl h
      · refine WP.blk (pc' := 50) (L' := [vr 10 0, vi l1, vi l2]) (st' := [vi l1, vi l2, vr 10 0]) (h' := (101, I2, J3, R0 b)) 3 rfl ?_
        refine WP.cal (y' := 141) (as := [vr 10 0, vi l2, vi l1]) (L' := [vr 10 0, vi l1, vi l2]) (rest := []) rfl (fun f r h' hf => callV_ok hf rfl rfl rfl) h ?_
        rintro _ _ ⟨x4, I5, J6, rfl, rfl, h⟩
        refine WP.blk (pc' := 57) (L' := [vr 10 0, vi l1, vi l2]) (st' := [vi x4]) (h' := (101, I5, J6, R0 b)) 1 rfl ?_
        exact WP.ret rfl rfl h
    · refine WP.blk (pc' := 26) (L' := [vr 10 0, vi l1, vi l2]) (st' := [vi l1]) (h' := (101, I, J, R0 b)) 1 rfl ?_
      refine WP.if_ne (t := 36) (L' := [vr 10 0, vi l1, vi l2]) rfl rfl rfl rfl h (fun h => ?_) (fun h => ?_)
      · refine WP.blk (pc' := 37) (L' := [vr 10 0, vi l1, vi l2]) (st' := [vi (-1)]) (h' := (101, I, J, R0 b)) 1 rfl ?_
        exact WP.ret rfl rfl h
      · refine WP.blk (pc' := 37) (L' := [vr 10 0, vi l1, vi l2]) (st' := [vi (I 10 0 58)]) (h' := (101, I, J, R0 b)) 3 rfl ?_
        exact WP.ret rfl rfl h
  · refine WP.blk (pc' := 7) (L' := [vr 10 0, vi l1, vi l2]) (st' := [vi l1]) (h' := (101, I, J, R0 b)) 1 rfl ?_
    refine WP.if_ne (t := 17) (L' := [vr 10 0, vi l1, vi l2]) rfl rfl rfl rfl h (fun h => ?_) (fun h => ?_)
    · refine WP.blk (pc' := 18) (L' := [vr 10 0, vi l1, vi l2]) (st' := [vi (-1)]) (h' := (101, I, J, R0 b)) 1 rfl ?_
      exact WP.ret rfl rfl h
    · refine WP.blk (pc' := 18) (L' := [vr 10 0, vi l1, vi l2]) (st' := [vi (I 10 0 57)]) (h' := (101, I, J, R0 b)) 3 rfl ?_
      exact WP.ret rfl rfl h
set_option maxRecDepth 20000 in
theorem t_X10_feed {D : Nat} (l1 : Int32) (I : IM) (J : JM) (b : Bool) {Q : Option AV → AH → Prop} (h : (Call D 135 [vi l1, vi 0, vi 255] (101, I, J, R0 b) (RIf b fun x1 I2 J3 => (if ¬ x1 = 0 then (if ¬ (I2 10 0 20) = (120 : Int32) then (vp_in (I2 10 0 20) 120 ∧ Q (some (vi ((I2 10 0 20) + (1 : Int32)))) (101, (updI (updI I2 53 0 (I2 10 0 20).toNatClampNeg ((l1).toInt8.toInt32).toInt8.toInt32) 10 0 20 ((I2 10 0 20) + (1 : Int32))), J3, R0 b)) else Q (some (vi (-3))) (101, I2, J3, R0 b)) else Q (some (vi (-1))) (101, I2, J3, R0 b))))) : Call (D + 1) 150 [vr 10 0, vi l1] (101, I, J, R0 b) Q := by
  refine Call.of rfl ?_
  show WP D 150 0 [vr 10 0, vi l1] [] (101, I, J, R0 b) Q
  refine WP.blk (pc' := 5) (L' := [vr 10 0, vi l1]) (st' := [vi 255, vi 0, vi l1]) (h' := (101, I, J, R0 b)) 3 rfl ?_
  refine WP.cal (y' := 135) (as := [vi l1, vi 0, vi 255]) (L' := [vr 10 0, vi l1]) (rest := []) rfl (fun f r h' hf => callS_ok hf rfl rfl rfl) h ?_
  rintro _ _ ⟨x1, I2, J3, rfl, rfl, h⟩
  refine WP.if_ne (t := 13) (L' := [vr 10 0, vi l1]) rfl rfl rfl rfl h (fun h => ?_) (fun h => ?_)
  · refine WP.blk (pc' := 19) (L' := [vr 10 0, vi l1]) (st' := [vi 120, vi (I2 10 0 20)]) (h' := (101, I2, J3, R0 b)) 3 rfl ?_
    refine WP.icmp_ne (t := 25) (L' := [vr 10 0, vi l1]) rfl rfl rfl rfl h (fun h => ?_) (fun h => ?_)
    · refine WP.blk (pc' := 35) (L' := [vr 10 0, vi l1]) (st' := [vi (l1).toInt8.toInt32, vi (I2 10 0 20), vr 53 0]) (h' := (101, I2, J3, R0 b)) 6 rfl ?_
      refine WP.step (pc' := 36) (L' := [vr 10 0, vi l1]) (st' := []) (h' := (101, (updI I2 53 0 (I2 10 0 20).toNatClampNeg ((l1).toInt8.toInt32).toInt8.toInt32), J3, R0 b)) rfl (bastore_ok (n := 120) rfl rfl rfl (inA_of h.1)) ?_
      have h := And.right h
      refine WP.blk (pc' := 50) (L' := [vr 10 0, vi l1]) (st' := [vi ((I2 10 0 20) + (1 : Int32))]) (h' := (101, (updI (updI I2 53 0 (I2 10 0 20).toNatClampNeg ((l1).toInt8.toInt32).toInt8.toInt32) 10 0 20 ((I2 10 0 20) + (1 : Int32))), J3, R0 b)) 8 rfl ?_
      exact WP.ret rfl rfl h
    · refine WP.blk (pc' := 24) (L' := [vr 10 0, vi l1]) (st' := [vi (-3)]) (h' := (101, I2, J3, R0 b)) 1 rfl ?_
      exact WP.ret rfl rfl h
  · refine WP.blk (pc' := 12) (L' := [vr 10 0, vi l1]) (st' := [vi (-1)]) (h' := (101, I2, J3, R0 b)) 1 rfl ?_
    exact WP.ret rfl rfl h
set_option maxRecDepth 20000 in
theorem t_X10_look {D : Nat}  (I : IM) (J : JM) (b : Bool) {Q : Option AV → AH → Prop} (h : (if (I 10 0 20) ≤ (I 10 0 21) then Q (some (vi (-1))) (101, I, J, R0 b) else (vp_in (I 10 0 21) 120 ∧ Q (some (vi (I 53 0 (I 10 0 21).toNatClampNeg))) (101, I, J, R0 b)))) : Call (D + 1) 151 [vr 10 0] (101, I, J, R0 b) Q := by
  refine Call.of rfl ?_
  show WP D 151 0 [vr 10 0] [] (101, I, J, R0 b) Q
  refine WP.blk (pc' := 8) (L' := [vr 10 0]) (st' := [vi (I 10 0 20), vi (I 10 0 21)]) (h' := (101, I, J, R0 b)) 4 rfl ?_
  refine WP.icmp_ge (t := 23) (L' := [vr 10 0]) rfl rfl rfl rfl h (fun h => ?_) (fun h => ?_)
  · refine WP.blk (pc' := 24) (L' := [vr 10 0]) (st' := [vi (-1)]) (h' := (101, I, J, R0 b)) 1 rfl ?_
    exact WP.ret rfl rfl h
  · refine WP.blk (pc' := 19) (L' := [vr 10 0]) (st' := [vi (I 10 0 21), vr 53 0]) (h' := (101, I, J, R0 b)) 4 rfl ?_
    refine WP.step (pc' := 20) (L' := [vr 10 0]) (st' := [vi (I 53 0 (I 10 0 21).toNatClampNeg)]) (h' := (101, I, J, R0 b)) rfl (baload_ok (n := 120) rfl rfl rfl (inA_of h.1)) ?_
    have h := And.right h
    refine WP.blk (pc' := 24) (L' := [vr 10 0]) (st' := [vi (I 53 0 (I 10 0 21).toNatClampNeg)]) (h' := (101, I, J, R0 b)) 1 rfl ?_
    exact WP.ret rfl rfl h
set_option maxRecDepth 20000 in
theorem t_X10_faulty {D : Nat}  (I : IM) (J : JM) (b : Bool) {Q : Option AV → AH → Prop} (h : (if 0 ≤ (I 10 0 22) then Q none (101, I, J, R0 b) else Q none (101, (updI I 10 0 22 (I 10 0 21)), J, R0 b))) : Call (D + 1) 152 [vr 10 0] (101, I, J, R0 b) Q := by
  refine Call.of rfl ?_
  show WP D 152 0 [vr 10 0] [] (101, I, J, R0 b) Q
  refine WP.blk (pc' := 4) (L' := [vr 10 0]) (st' := [vi (I 10 0 22)]) (h' := (101, I, J, R0 b)) 2 rfl ?_
  refine WP.if_ge (t := 15) (L' := [vr 10 0]) rfl rfl rfl rfl h (fun h => ?_) (fun h => ?_)
  · exact WP.ret rfl rfl h
  · refine WP.blk (pc' := 15) (L' := [vr 10 0]) (st' := []) (h' := (101, (updI I 10 0 22 (I 10 0 21)), J, R0 b)) 4 rfl ?_
    exact WP.ret rfl rfl h
set_option maxRecDepth 20000 in
theorem t_X10_addStep {D : Nat} (l1 : Int32) (l2 : Int32) (I : IM) (J : JM) (b : Bool) {Q : Option AV → AH → Prop} (h : (vp_in ((130 : Int32) + (I 10 0 24)) 260 ∧ (vp_in ((130 : Int32) + (I 10 0 24)) 260 ∧ Q none (101, (updI (updI (updI I 54 0 ((130 : Int32) + (I 10 0 24)).toNatClampNeg ((l1).toInt8.toInt32).toInt8.toInt32) 55 0 ((130 : Int32) + (I 10 0 24)).toNatClampNeg l2) 10 0 24 ((I 10 0 24) + (1 : Int32))), J, R0 b)))) : Call (D + 1) 153 [vr 10 0, vi l1, vi l2] (101, I, J, R0 b) Q := by
  refine Call.of rfl ?_
  show WP D 153 0 [vr 10 0, vi l1, vi l2] [] (101, I, J, R0 b) Q
  refine WP.blk (pc' := 14) (L' := [vr 10 0, vi l1, vi l2]) (st' := [vi (l1).toInt8.toInt32, vi ((130 : Int32) + (I 10 0 24)), vr 54 0]) (h' := (101, I, J, R0 b)) 8 rfl ?_
  refine WP.step (pc' := 15) (L' := [vr 10 0, vi l1, vi l2]) (st' := []) (h' := (101, (updI I 54 0 ((130 : Int32) + (I 10 0 24)).toNatClampNeg ((l1).toInt8.toInt32).toInt8.toInt32), J, R0 b)) rfl (bastore_ok (n := 260) rfl rfl rfl (inA_of h.1)) ?_
  have h := And.right h
  refine WP.blk (pc' := 28) (L' := [vr 10 0, vi l1, vi l2]) (st' := [vi l2, vi ((130 : Int32) + (I 10 0 24)), vr 55 0]) (h' := (101, (updI I 54 0 ((130 : Int32) + (I 10 0 24)).toNatClampNeg ((l1).toInt8.toInt32).toInt8.toInt32), J, R0 b)) 7 rfl ?_
  refine WP.step (pc' := 29) (L' := [vr 10 0, vi l1, vi l2]) (st' := []) (h' := (101, (updI (updI I 54 0 ((130 : Int32) + (I 10 0 24)).toNatClampNeg ((l1).toInt8.toInt32).toInt8.toInt32) 55 0 ((130 : Int32) + (I 10 0 24)).toNatClampNeg l2), J, R0 b)) rfl (iastore_ok (n := 260) rfl rfl rfl (inA_of h.1)) ?_
  have h := And.right h
  refine WP.blk (pc' := 39) (L' := [vr 10 0, vi l1, vi l2]) (st' := []) (h' := (101, (updI (updI (updI I 54 0 ((130 : Int32) + (I 10 0 24)).toNatClampNeg ((l1).toInt8.toInt32).toInt8.toInt32) 55 0 ((130 : Int32) + (I 10 0 24)).toNatClampNeg l2) 10 0 24 ((I 10 0 24) + (1 : Int32))), J, R0 b)) 6 rfl ?_
  exact WP.ret rfl rfl h
set_option maxRecDepth 20000 in
theorem t_X10_nameOf {D : Nat} (l0 : Int32) (I : IM) (J : JM) (b : Bool) {Q : Option AV → AH → Prop} (h : (if l0 = 102 then Q (some (vi 2)) (101, I, J, R0 b) else (if l0 = 103 then Q (some (vi 0)) (101, I, J, R0 b) else (if l0 = 104 then Q (some (vi 3)) (101, I, J, R0 b) else (if l0 = 105 then Q (some (vi (-1))) (101, I, J, R0 b) else (if l0 = 106 then Q (some (vi (-1))) (101, I, J, R0 b) else (if l0 = 107 then Q (some (vi 5)) (101, I, J, R0 b) else (if l0 = 108 then Q (some (vi (-1))) (101, I, J, R0 b) else (if l0 = 109 then Q (some (vi (-1))) (101, I, J, R0 b) else (if l0 = 110 then Q (some (vi 4)) (101, I, J, R0 b) else (if l0 = 111 then Q (some (vi (-1))) (101, I, J, R0 b) else (if l0 = 112 then Q (some (vi (-1))) (101, I, J, R0 b) else (if l0 = 113 then Q (some (vi (-1))) (101, I, J, R0 b) else (if l0 = 114 then Q (some (vi (-1))) (101, I, J, R0 b) else (if l0 = 115 then Q (some (vi (-1))) (101, I, J, R0 b) else (if l0 = 116 then Q (some (vi (-1))) (101, I, J, R0 b) else (if l0 = 117 then Q (some (vi (-1))) (101, I, J, R0 b) else (if l0 = 118 then Q (some (vi (-1))) (101, I, J, R0 b) else (if l0 = 119 then Q (some (vi 1)) (101, I, J, R0 b) else Q (some (vi (-1))) (101, I, J, R0 b)))))))))))))))))))) : Call (D + 1) 154 [vi l0] (101, I, J, R0 b) Q := by
  refine Call.of rfl ?_
  show WP D 154 0 [vi l0] [] (101, I, J, R0 b) Q
  refine WP.blk (pc' := 1) (L' := [vi l0]) (st' := [vi l0]) (h' := (101, I, J, R0 b)) 1 rfl ?_
  refine WP.step (pc' := swf [(102, 92), (103, 88), (104, 94), (105, 100), (106, 100), (107, 98), (108, 100), (109, 100), (110, 96), (111, 100), (112, 100), (113, 100), (114, 100), (115, 100), (116, 100), (117, 100), (118, 100), (119, 90)] 100 l0) (L' := [vi l0]) (st' := []) (h' := (101, I, J, R0 b)) rfl rfl ?_
  refine WP.ite (c := l0 = 102) (pc1 := 92) (pc2 := swf [(103, 88), (104, 94), (105, 100), (106, 100), (107, 98), (108, 100), (109, 100), (110, 96), (111, 100), (112, 100), (113, 100), (114, 100), (115, 100), (116, 100), (117, 100), (118, 100), (119, 90)] 100 l0) h (fun h => ?_) (fun h => ?_)
  · refine WP.blk (pc' := 93) (L' := [vi l0]) (st' := [vi 2]) (h' := (101, I, J, R0 b)) 1 rfl ?_
    exact WP.ret rfl rfl h
  · refine WP.ite (c := l0 = 103) (pc1 := 88) (pc2 := swf [(104, 94), (105, 100), (106, 100), (107, 98), (108, 100), (109, 100), (110, 96), (111, 100), (112, 100), (113, 100), (114, 100), (115, 100), (116, 100), (117, 100), (118, 100), (119, 90)] 100 l0) h (fun h => ?_) (fun h => ?_)
    · refine WP.blk (pc' := 89) (L' := [vi l0]) (st' := [vi 0]) (h' := (101, I, J, R0 b)) 1 rfl ?_
      exact WP.ret rfl rfl h
    · refine WP.ite (c := l0 = 104) (pc1 := 94) (pc2 := swf [(105, 100), (106, 100), (107, 98), (108, 100), (109, 100), (110, 96), (111, 100), (112, 100), (113, 100), (114, 100), (115, 100), (116, 100), (117, 100), (118, 100), (119, 90)] 100 l0) h (fun h => ?_) (fun h => ?_)
      · refine WP.blk (pc' := 95) (L' := [vi l0]) (st' := [vi 3]) (h' := (101, I, J, R0 b)) 1 rfl ?_
        exact WP.ret rfl rfl h
      · refine WP.ite (c := l0 = 105) (pc1 := 100) (pc2 := swf [(106, 100), (107, 98), (108, 100), (109, 100), (110, 96), (111, 100), (112, 100), (113, 100), (114, 100), (115, 100), (116, 100), (117, 100), (118, 100), (119, 90)] 100 l0) h (fun h => ?_) (fun h => ?_)
        · refine WP.blk (pc' := 101) (L' := [vi l0]) (st' := [vi (-1)]) (h' := (101, I, J, R0 b)) 1 rfl ?_
          exact WP.ret rfl rfl h
        · refine WP.ite (c := l0 = 106) (pc1 := 100) (pc2 := swf [(107, 98), (108, 100), (109, 100), (110, 96), (111, 100), (112, 100), (113, 100), (114, 100), (115, 100), (116, 100), (117, 100), (118, 100), (119, 90)] 100 l0) h (fun h => ?_) (fun h => ?_)
          · refine WP.blk (pc' := 101) (L' := [vi l0]) (st' := [vi (-1)]) (h' := (101, I, J, R0 b)) 1 rfl ?_
            exact WP.ret rfl rfl h
          · refine WP.ite (c := l0 = 107) (pc1 := 98) (pc2 := swf [(108, 100), (109, 100), (110, 96), (111, 100), (112, 100), (113, 100), (114, 100), (115, 100), (116, 100), (117, 100), (118, 100), (119, 90)] 100 l0) h (fun h => ?_) (fun h => ?_)
            · refine WP.blk (pc' := 99) (L' := [vi l0]) (st' := [vi 5]) (h' := (101, I, J, R0 b)) 1 rfl ?_
              exact WP.ret rfl rfl h
            · refine WP.ite (c := l0 = 108) (pc1 := 100) (pc2 := swf [(109, 100), (110, 96), (111, 100), (112, 100), (113, 100), (114, 100), (115, 100), (116, 100), (117, 100), (118, 100), (119, 90)] 100 l0) h (fun h => ?_) (fun h => ?_)
              · refine WP.blk (pc' := 101) (L' := [vi l0]) (st' := [vi (-1)]) (h' := (101, I, J, R0 b)) 1 rfl ?_
                exact WP.ret rfl rfl h
              · refine WP.ite (c := l0 = 109) (pc1 := 100) (pc2 := swf [(110, 96), (111, 100), (112, 100), (113, 100), (114, 100), (115, 100), (116, 100), (117, 100), (118, 100), (119, 90)] 100 l0) h (fun h => ?_) (fun h => ?_)
                · refine WP.blk (pc' := 101) (L' := [vi l0]) (st' := [vi (-1)]) (h' := (101, I, J, R0 b)) 1 rfl ?_
                  exact WP.ret rfl rfl h
                · refine WP.ite (c := l0 = 110) (pc1 := 96) (pc2 := swf [(111, 100), (112, 100), (113, 100), (114, 100), (115, 100), (116, 100), (117, 100), (118, 100), (119, 90)] 100 l0) h (fun h => ?_) (fun h => ?_)
                  · refine WP.blk (pc' := 97) (L' := [vi l0]) (st' := [vi 4]) (h' := (101, I, J, R0 b)) 1 rfl ?_
                    exact WP.ret rfl rfl h
                  · refine WP.ite (c := l0 = 111) (pc1 := 100) (pc2 := swf [(112, 100), (113, 100), (114, 100), (115, 100), (116, 100), (117, 100), (118, 100), (119, 90)] 100 l0) h (fun h => ?_) (fun h => ?_)
                    · refine WP.blk (pc' := 101) (L' := [vi l0]) (st' := [vi (-1)]) (h' := (101, I, J, R0 b)) 1 rfl ?_
                      exact WP.ret rfl rfl h
                    · refine WP.ite (c := l0 = 112) (pc1 := 100) (pc2 := swf [(113, 100), (114, 100), (115, 100), (116, 100), (117, 100), (118, 100), (119, 90)] 100 l0) h (fun h => ?_) (fun h => ?_)
                      · refine WP.blk (pc' := 101) (L' := [vi l0]) (st' := [vi (-1)]) (h' := (101, I, J, R0 b)) 1 rfl ?_
                        exact WP.ret rfl rfl h
                      · refine WP.ite (c := l0 = 113) (pc1 := 100) (pc2 := swf [(114, 100), (115, 100), (116, 100), (117, 100), (118, 100), (119, 90)] 100 l0) h (fun h => ?_) (fun h => ?_)
                        · refine WP.blk (pc' := 101) (L' := [vi l0]) (st' := [vi (-1)]) (h' := (101, I, J, R0 b)) 1 rfl ?_
                          exact WP.ret rfl rfl h
                        · refine WP.ite (c := l0 = 114) (pc1 := 100) (pc2 := swf [(115, 100), (116, 100), (117, 100), (118, 100), (119, 90)] 100 l0) h (fun h => ?_) (fun h => ?_)
                          · refine WP.blk (pc' := 101) (L' := [vi l0]) (st' := [vi (-1)]) (h' := (101, I, J, R0 b)) 1 rfl ?_
                            exact WP.ret rfl rfl h
                          · refine WP.ite (c := l0 = 115) (pc1 := 100) (pc2 := swf [(116, 100), (117, 100), (118, 100), (119, 90)] 100 l0) h (fun h => ?_) (fun h => ?_)
                            · refine WP.blk (pc' := 101) (L' := [vi l0]) (st' := [vi (-1)]) (h' := (101, I, J, R0 b)) 1 rfl ?_
                              exact WP.ret rfl rfl h
                            · refine WP.ite (c := l0 = 116) (pc1 := 100) (pc2 := swf [(117, 100), (118, 100), (119, 90)] 100 l0) h (fun h => ?_) (fun h => ?_)
                              · refine WP.blk (pc' := 101) (L' := [vi l0]) (st' := [vi (-1)]) (h' := (101, I, J, R0 b)) 1 rfl ?_
                                exact WP.ret rfl rfl h
                              · refine WP.ite (c := l0 = 117) (pc1 := 100) (pc2 := swf [(118, 100), (119, 90)] 100 l0) h (fun h => ?_) (fun h => ?_)
                                · refine WP.blk (pc' := 101) (L' := [vi l0]) (st' := [vi (-1)]) (h' := (101, I, J, R0 b)) 1 rfl ?_
                                  exact WP.ret rfl rfl h
                                · refine WP.ite (c := l0 = 118) (pc1 := 100) (pc2 := swf [(119, 90)] 100 l0) h (fun h => ?_) (fun h => ?_)
                                  · refine WP.blk (pc' := 101) (L' := [vi l0]) (st' := [vi (-1)]) (h' := (101, I, J, R0 b)) 1 rfl ?_
                                    exact WP.ret rfl rfl h
                                  · refine WP.ite (c := l0 = 119) (pc1 := 90) (pc2 := swf [] 100 l0) h (fun h => ?_) (fun h => ?_)
                                    · refine WP.blk (pc' := 91) (L' := [vi l0]) (st' := [vi 1]) (h' := (101, I, J, R0 b)) 1 rfl ?_
                                      exact WP.ret rfl rfl h
                                    · show WP D 154 100 [vi l0] [] (101, I, J, R0 b) Q
                                      refine WP.blk (pc' := 101) (L' := [vi l0]) (st' := [vi (-1)]) (h' := (101, I, J, R0 b)) 1 rfl ?_
                                      exact WP.ret rfl rfl h
set_option maxRecDepth 20000 in
theorem t_X10_opens {D : Nat}  (I : IM) (J : JM) (b : Bool) {Q : Option AV → AH → Prop} (h : (if ¬ (I 10 0 23) = (6 : Int32) then Q (some (vi 1)) (101, (updI (updI I 10 0 23 ((I 10 0 23) + (1 : Int32))) 10 0 21 ((I 10 0 21) + (1 : Int32))), J, R0 b) else (Call D 152 [vr 10 0] (101, I, J, R0 b) (RVf b fun I2 J3 => Q (some (vi 0)) (101, I2, J3, R0 b))))) : Call (D + 1) 155 [vr 10 0] (101, I, J, R0 b) Q := by
  refine Call.of rfl ?_
  show WP D 155 0 [vr 10 0] [] (101, I, J, R0 b) Q
  refine WP.blk (pc' := 6) (L' := [vr 10 0]) (st' := [vi 6, vi (I 10 0 23)]) (h' := (101, I, J, R0 b)) 3 rfl ?_
  refine WP.icmp_ne (t := 15) (L' := [vr 10 0]) rfl rfl rfl rfl h (fun h => ?_) (fun h => ?_)
  · refine WP.blk (pc' := 36) (L' := [vr 10 0]) (st' := [vi 1]) (h' := (101, (updI (updI I 10 0 23 ((I 10 0 23) + (1 : Int32))) 10 0 21 ((I 10 0 21) + (1 : Int32))), J, R0 b)) 13 rfl ?_
    exact WP.ret rfl rfl h
  · refine WP.blk (pc' := 10) (L' := [vr 10 0]) (st' := [vr 10 0]) (h' := (101, I, J, R0 b)) 1 rfl ?_
    refine WP.cal (y' := 152) (as := [vr 10 0]) (L' := [vr 10 0]) (rest := []) rfl (fun f r h' hf => callV_ok hf rfl rfl rfl) h ?_
    rintro _ _ ⟨I2, J3, rfl, rfl, h⟩
    refine WP.blk (pc' := 14) (L' := [vr 10 0]) (st' := [vi 0]) (h' := (101, I2, J3, R0 b)) 1 rfl ?_
    exact WP.ret rfl rfl h
set_option maxRecDepth 20000 in
theorem t_X10_figure {D : Nat}  (I : IM) (J : JM) (b : Bool) {Q : Option AV → AH → Prop} (h : WP D 156 4 [vr 10 0, vi 0, vi 0] [] (101, I, J, R0 b) Q) : Call (D + 1) 156 [vr 10 0] (101, I, J, R0 b) Q := by
  refine Call.of rfl ?_
  show WP D 156 0 [vr 10 0, vn, vn] [] (101, I, J, R0 b) Q
  refine WP.blk (pc' := 4) (L' := [vr 10 0, vi 0, vi 0]) (st' := []) (h' := (101, I, J, R0 b)) 4 rfl ?_
  exact WP.mask rfl rfl h
set_option maxRecDepth 20000 in
theorem t_X10_figure_4 {D : Nat} (l1 : Int32) (l2 : Int32) (I : IM) (J : JM) (b : Bool) {Q : Option AV → AH → Prop} (h : (if (4 : Int32) ≤ l2 then (if l2 = 0 then (Call D 152 [vr 10 0] (101, I, J, R0 b) (RVf b fun I2 J3 => (Call D 153 [vr 10 0, vi 1, vi l1] (101, I2, J3, R0 b) (RVf b fun I5 J6 => Q none (101, I5, J6, R0 b))))) else (Call D 151 [vr 10 0] (101, I, J, R0 b) (RIf b fun x7 I8 J9 => (Call D 135 [vi x7, vi 48, vi 57] (101, I8, J9, R0 b) (RIf b fun x10 I11 J12 => (if x10 = 0 then (Call D 153 [vr 10 0, vi 1, vi l1] (101, I11, J12, R0 b) (RVf b fun I14 J15 => Q none (101, I14, J15, R0 b))) else (Call D 152 [vr 10 0] (101, I11, J12, R0 b) (RVf b fun I17 J18 => (Call D 153 [vr 10 0, vi 1, vi l1] (101, I17, J18, R0 b) (RVf b fun I20 J21 => Q none (101, I20, J21, R0 b))))))))))) else (Call D 151 [vr 10 0] (101, I, J, R0 b) (RIf b fun x22 I23 J24 => (Call D 135 [vi x22, vi 48, vi 57] (101, I23, J24, R0 b) (RIf b fun x25 I26 J27 => (if x25 = 0 then (if l2 = 0 then (Call D 152 [vr 10 0] (101, I26, J27, R0 b) (RVf b fun I29 J30 => (Call D 153 [vr 10 0, vi 1, vi l1] (101, I29, J30, R0 b) (RVf b fun I32 J33 => Q none (101, I32, J33, R0 b))))) else (Call D 151 [vr 10 0] (101, I26, J27, R0 b) (RIf b fun x34 I35 J36 => (Call D 135 [vi x34, vi 48, vi 57] (101, I35, J36, R0 b) (RIf b fun x37 I38 J39 => (if x37 = 0 then (Call D 153 [vr 10 0, vi 1, vi l1] (101, I38, J39, R0 b) (RVf b fun I41 J42 => Q none (101, I41, J42, R0 b))) else (Call D 152 [vr 10 0] (101, I38, J39, R0 b) (RVf b fun I44 J45 => (Call D 153 [vr 10 0, vi 1, vi l1] (101, I44, J45, R0 b) (RVf b fun I47 J48 => Q none (101, I47, J48, R0 b))))))))))) else (Call D 151 [vr 10 0] (101, I26, J27, R0 b) (RIf b fun x49 I50 J51 => WP D 156 4 [vr 10 0, vi ((((10 : Int32) * l1) + x49) - (48 : Int32)), vi (l2 + 1)] [] (101, (updI I50 10 0 21 ((I50 10 0 21) + (1 : Int32))), J51, R0 b) Q))))))))) : WP D 156 4 [vr 10 0, vi l1, vi l2] [] (101, I, J, R0 b) Q := by
  refine WP.blk (pc' := 6) (L' := [vr 10 0, vi l1, vi l2]) (st' := [vi 4, vi l2]) (h' := (101, I, J, R0 b)) 2 rfl ?_
  refine WP.icmp_ge (t := 52) (L' := [vr 10 0, vi l1, vi l2]) rfl rfl rfl rfl h (fun h => ?_) (fun h => ?_)
  · refine WP.blk (pc' := 53) (L' := [vr 10 0, vi l1, vi l2]) (st' := [vi l2]) (h' := (101, I, J, R0 b)) 1 rfl ?_
    refine WP.if_eq (t := 70) (L' := [vr 10 0, vi l1, vi l2]) rfl rfl rfl rfl h (fun h => ?_) (fun h => ?_)
    · refine WP.blk (pc' := 71) (L' := [vr 10 0, vi l1, vn]) (st' := [vr 10 0]) (h' := (101, I, J, R0 b)) 1 rfl ?_
      refine WP.cal (y' := 152) (as := [vr 10 0]) (L' := [vr 10 0, vi l1, vn]) (rest := []) rfl (fun f r h' hf => callV_ok hf rfl rfl rfl) h ?_
      rintro _ _ ⟨I2, J3, rfl, rfl, h⟩
      refine WP.blk (pc' := 77) (L' := [vr 10 0, vi l1, vn]) (st' := [vi l1, vi 1, vr 10 0]) (h' := (101, I2, J3, R0 b)) 3 rfl ?_
      refine WP.cal (y' := 153) (as := [vr 10 0, vi 1, vi l1]) (L' := [vr 10 0, vi l1, vn]) (rest := []) rfl (fun f r h' hf => callV_ok hf rfl rfl rfl) h ?_
      rintro _ _ ⟨I5, J6, rfl, rfl, h⟩
      exact WP.ret rfl rfl h
    · refine WP.blk (pc' := 57) (L' := [vr 10 0, vi l1, vi l2]) (st' := [vr 10 0]) (h' := (101, I, J, R0 b)) 1 rfl ?_
      refine WP.cal (y' := 151) (as := [vr 10 0]) (L' := [vr 10 0, vi l1, vi l2]) (rest := []) rfl (fun f r h' hf => callV_ok hf rfl rfl rfl) h ?_
      rintro _ _ ⟨x7, I8, J9, rfl, rfl, h⟩
      refine WP.blk (pc' := 64) (L' := [vr 10 0, vi l1, vi l2]) (st' := [vi 57, vi 48, vi x7]) (h' := (101, I8, J9, R0 b)) 2 rfl ?_
      refine WP.cal (y' := 135) (as := [vi x7, vi 48, vi 57]) (L' := [vr 10 0, vi l1, vi l2]) (rest := []) rfl (fun f r h' hf => callS_ok hf rfl rfl rfl) h ?_
      rintro _ _ ⟨x10, I11, J12, rfl, rfl, h⟩
      refine WP.if_eq (t := 74) (L' := [vr 10 0, vi l1, vi l2]) rfl rfl rfl rfl h (fun h => ?_) (fun h => ?_)
      · refine WP.blk (pc' := 77) (L' := [vr 10 0, vi l1, vn]) (st' := [vi l1, vi 1, vr 10 0]) (h' := (101, I11, J12, R0 b)) 3 rfl ?_
        refine WP.cal (y' := 153) (as := [vr 10 0, vi 1, vi l1]) (L' := [vr 10 0, vi l1, vn]) (rest := []) rfl (fun f r h' hf => callV_ok hf rfl rfl rfl) h ?_
        rintro _ _ ⟨I14, J15, rfl, rfl, h⟩
        exact WP.ret rfl rfl h
      · refine WP.blk (pc' := 71) (L' := [vr 10 0, vi l1, vn]) (st' := [vr 10 0]) (h' := (101, I11, J12, R0 b)) 1 rfl ?_
        refine WP.cal (y' := 152) (as := [vr 10 0]) (L' := [vr 10 0, vi l1, vn]) (rest := []) rfl (fun f r h' hf => callV_ok hf rfl rfl rfl) h ?_
        rintro _ _ ⟨I17, J18, rfl, rfl, h⟩
        refine WP.blk (pc' := 77) (L' := [vr 10 0, vi l1, vn]) (st' := [vi l1, vi 1, vr 10 0]) (h' := (101, I17, J18, R0 b)) 3 rfl ?_
        refine WP.cal (y' := 153) (as := [vr 10 0, vi 1, vi l1]) (L' := [vr 10 0, vi l1, vn]) (rest := []) rfl (fun f r h' hf => callV_ok hf rfl rfl rfl) h ?_
        rintro _ _ ⟨I20, J21, rfl, rfl, h⟩
        exact WP.ret rfl rfl h
  · refine WP.blk (pc' := 10) (L' := [vr 10 0, vi l1, vi l2]) (st' := [vr 10 0]) (h' := (101, I, J, R0 b)) 1 rfl ?_
    refine WP.cal (y' := 151) (as := [vr 10 0]) (L' := [vr 10 0, vi l1, vi l2]) (rest := []) rfl (fun f r h' hf => callV_ok hf rfl rfl rfl) h ?_
    rintro _ _ ⟨x22, I23, J24, rfl, rfl, h⟩
    refine WP.blk (pc' := 17) (L' := [vr 10 0, vi l1, vi l2]) (st' := [vi 57, vi 48, vi x22]) (h' := (101, I23, J24, R0 b)) 2 rfl ?_
    refine WP.cal (y' := 135) (as := [vi x22, vi 48, vi 57]) (L' := [vr 10 0, vi l1, vi l2]) (rest := []) rfl (fun f r h' hf => callS_ok hf rfl rfl rfl) h ?_
    rintro _ _ ⟨x25, I26, J27, rfl, rfl, h⟩
    refine WP.if_eq (t := 52) (L' := [vr 10 0, vi l1, vi l2]) rfl rfl rfl rfl h (fun h => ?_) (fun h => ?_)
    · refine WP.blk (pc' := 53) (L' := [vr 10 0, vi l1, vi l2]) (st' := [vi l2]) (h' := (101, I26, J27, R0 b)) 1 rfl ?_
      refine WP.if_eq (t := 70) (L' := [vr 10 0, vi l1, vi l2]) rfl rfl rfl rfl h (fun h => ?_) (fun h => ?_)
      · refine WP.blk (pc' := 71) (L' := [vr 10 0, vi l1, vn]) (st' := [vr 10 0]) (h' := (101, I26, J27, R0 b)) 1 rfl ?_
        refine WP.cal (y' := 152) (as := [vr 10 0]) (L' := [vr 10 0, vi l1, vn]) (rest := []) rfl (fun f r h' hf => callV_ok hf rfl rfl rfl) h ?_
        rintro _ _ ⟨I29, J30, rfl, rfl, h⟩
        refine WP.blk (pc' := 77) (L' := [vr 10 0, vi l1, vn]) (st' := [vi l1, vi 1, vr 10 0]) (h' := (101, I29, J30, R0 b)) 3 rfl ?_
        refine WP.cal (y' := 153) (as := [vr 10 0, vi 1, vi l1]) (L' := [vr 10 0, vi l1, vn]) (rest := []) rfl (fun f r h' hf => callV_ok hf rfl rfl rfl) h ?_
        rintro _ _ ⟨I32, J33, rfl, rfl, h⟩
        exact WP.ret rfl rfl h
      · refine WP.blk (pc' := 57) (L' := [vr 10 0, vi l1, vi l2]) (st' := [vr 10 0]) (h' := (101, I26, J27, R0 b)) 1 rfl ?_
        refine WP.cal (y' := 151) (as := [vr 10 0]) (L' := [vr 10 0, vi l1, vi l2]) (rest := []) rfl (fun f r h' hf => callV_ok hf rfl rfl rfl) h ?_
        rintro _ _ ⟨x34, I35, J36, rfl, rfl, h⟩
        refine WP.blk (pc' := 64) (L' := [vr 10 0, vi l1, vi l2]) (st' := [vi 57, vi 48, vi x34]) (h' := (101, I35, J36, R0 b)) 2 rfl ?_
        refine WP.cal (y' := 135) (as := [vi x34, vi 48, vi 57]) (L' := [vr 10 0, vi l1, vi l2]) (rest := []) rfl (fun f r h' hf => callS_ok hf rfl rfl rfl) h ?_
        rintro _ _ ⟨x37, I38, J39, rfl, rfl, h⟩
        refine WP.if_eq (t := 74) (L' := [vr 10 0, vi l1, vi l2]) rfl rfl rfl rfl h (fun h => ?_) (fun h => ?_)
        · refine WP.blk (pc' := 77) (L' := [vr 10 0, vi l1, vn]) (st' := [vi l1, vi 1, vr 10 0]) (h' := (101, I38, J39, R0 b)) 3 rfl ?_
          refine WP.cal (y' := 153) (as := [vr 10 0, vi 1, vi l1]) (L' := [vr 10 0, vi l1, vn]) (rest := []) rfl (fun f r h' hf => callV_ok hf rfl rfl rfl) h ?_
          rintro _ _ ⟨I41, J42, rfl, rfl, h⟩
          exact WP.ret rfl rfl h
        · refine WP.blk (pc' := 71) (L' := [vr 10 0, vi l1, vn]) (st' := [vr 10 0]) (h' := (101, I38, J39, R0 b)) 1 rfl ?_
          refine WP.cal (y' := 152) (as := [vr 10 0]) (L' := [vr 10 0, vi l1, vn]) (rest := []) rfl (fun f r h' hf => callV_ok hf rfl rfl rfl) h ?_
          rintro _ _ ⟨I44, J45, rfl, rfl, h⟩
          refine WP.blk (pc' := 77) (L' := [vr 10 0, vi l1, vn]) (st' := [vi l1, vi 1, vr 10 0]) (h' := (101, I44, J45, R0 b)) 3 rfl ?_
          refine WP.cal (y' := 153) (as := [vr 10 0, vi 1, vi l1]) (L' := [vr 10 0, vi l1, vn]) (rest := []) rfl (fun f r h' hf => callV_ok hf rfl rfl rfl) h ?_
          rintro _ _ ⟨I47, J48, rfl, rfl, h⟩
          exact WP.ret rfl rfl h
    · refine WP.blk (pc' := 28) (L' := [vr 10 0, vi l1, vi l2]) (st' := [vr 10 0, vi ((10 : Int32) * l1)]) (h' := (101, I26, J27, R0 b)) 4 rfl ?_
      refine WP.cal (y' := 151) (as := [vr 10 0]) (L' := [vr 10 0, vi l1, vi l2]) (rest := [vi ((10 : Int32) * l1)]) rfl (fun f r h' hf => callV_ok hf rfl rfl rfl) h ?_
      rintro _ _ ⟨x49, I50, J51, rfl, rfl, h⟩
      refine WP.blk (pc' := 4) (L' := [vr 10 0, vi ((((10 : Int32) * l1) + x49) - (48 : Int32)), vi (l2 + 1)]) (st' := []) (h' := (101, (updI I50 10 0 21 ((I50 10 0 21) + (1 : Int32))), J51, R0 b)) 12 rfl ?_
      exact WP.mask rfl rfl h
set_option maxRecDepth 20000 in
theorem t_X10_operand {D : Nat}  (I : IM) (J : JM) (b : Bool) {Q : Option AV → AH → Prop} (h : (Call D 151 [vr 10 0] (101, I, J, R0 b) (RIf b fun x1 I2 J3 => (Call D 154 [vi x1] (101, I2, J3, R0 b) (RIf b fun x4 I5 J6 => (if x4 < 0 then (if x1 = (33 : Int32) then (Call D 155 [vr 10 0] (101, I5, J6, R0 b) (RIf b fun x7 I8 J9 => (if ¬ x7 = 0 then (Call D 157 [vr 10 0] (101, I8, J9, R0 b) (RVf b fun I11 J12 => (if ¬ x1 = (33 : Int32) then (Call D 153 [vr 10 0, vi 4, vi 0] (101, (updI I11 10 0 23 ((I11 10 0 23) - (1 : Int32))), J12, R0 b) (RVf b fun I14 J15 => Q none (101, I14, J15, R0 b))) else (Call D 153 [vr 10 0, vi 3, vi 0] (101, (updI I11 10 0 23 ((I11 10 0 23) - (1 : Int32))), J12, R0 b) (RVf b fun I17 J18 => Q none (101, I17, J18, R0 b)))))) else Q none (101, I8, J9, R0 b)))) else (if ¬ x1 = (45 : Int32) then (if ¬ x1 = (40 : Int32) then (Call D 156 [vr 10 0] (101, I5, J6, R0 b) (RVf b fun I20 J21 => Q none (101, I20, J21, R0 b))) else (Call D 155 [vr 10 0] (101, I5, J6, R0 b) (RIf b fun x22 I23 J24 => (if ¬ x22 = 0 then (Call D 162 [vr 10 0] (101, I23, J24, R0 b) (RVf b fun I26 J27 => (if (I26 10 0 22) < 0 then (Call D 151 [vr 10 0] (101, I26, J27, R0 b) (RIf b fun x28 I29 J30 => (if x28 = (41 : Int32) then Q none (101, (updI (updI I29 10 0 21 ((I29 10 0 21) + (1 : Int32))) 10 0 23 ((I29 10 0 23) - (1 : Int32))), J30, R0 b) else (Call D 152 [vr 10 0] (101, I29, J30, R0 b) (RVf b fun I32 J33 => Q none (101, I32, J33, R0 b)))))) else Q none (101, I26, J27, R0 b)))) else Q none (101, I23, J24, R0 b))))) else (Call D 155 [vr 10 0] (101, I5, J6, R0 b) (RIf b fun x34 I35 J36 => (if ¬ x34 = 0 then (Call D 157 [vr 10 0] (101, I35, J36, R0 b) (RVf b fun I38 J39 => (if ¬ x1 = (33 : Int32) then (Call D 153 [vr 10 0, vi 4, vi 0] (101, (updI I38 10 0 23 ((I38 10 0 23) - (1 : Int32))), J39, R0 b) (RVf b fun I41 J42 => Q none (101, I41, J42, R0 b))) else (Call D 153 [vr 10 0, vi 3, vi 0] (101, (updI I38 10 0 23 ((I38 10 0 23) - (1 : Int32))), J39, R0 b) (RVf b fun I44 J45 => Q none (101, I44, J45, R0 b)))))) else Q none (101, I35, J36, R0 b)))))) else (Call D 154 [vi x1] (101, I5, J6, R0 b) (RIf b fun x46 I47 J48 => (Call D 153 [vr 10 0, vi 2, vi x46] (101, I47, J48, R0 b) (RVf b fun I50 J51 => Q none (101, (updI I50 10 0 21 ((I50 10 0 21) + (1 : Int32))), J51, R0 b))))))))))) : Call (D + 1) 157 [vr 10 0] (101, I, J, R0 b) Q := by
  refine Call.of rfl ?_
  show WP D 157 0 [vr 10 0, vn] [] (101, I, J, R0 b) Q
  refine WP.blk (pc' := 1) (L' := [vr 10 0, vn]) (st' := [vr 10 0]) (h' := (101, I, J, R0 b)) 1 rfl ?_
  refine WP.cal (y' := 151) (as := [vr 10 0]) (L' := [vr 10 0, vn]) (rest := []) rfl (fun f r h' hf => callV_ok hf rfl rfl rfl) h ?_
  rintro _ _ ⟨x1, I2, J3, rfl, rfl, h⟩
  refine WP.blk (pc' := 6) (L' := [vr 10 0, vi x1]) (st' := [vi x1]) (h' := (101, I2, J3, R0 b)) 2 rfl ?_
  refine WP.cal (y' := 154) (as := [vi x1]) (L' := [vr 10 0, vi x1]) (rest := []) rfl (fun f r h' hf => callS_ok hf rfl rfl rfl) h ?_
  rintro _ _ ⟨x4, I5, J6, rfl, rfl, h⟩
  refine WP.if_lt (t := 34) (L' := [vr 10 0, vi x1]) rfl rfl rfl rfl h (fun h => ?_) (fun h => ?_)
  · refine WP.blk (pc' := 37) (L' := [vr 10 0, vi x1]) (st' := [vi 33, vi x1]) (h' := (101, I5, J6, R0 b)) 2 rfl ?_
    refine WP.icmp_eq (t := 46) (L' := [vr 10 0, vi x1]) rfl rfl rfl rfl h (fun h => ?_) (fun h => ?_)
    · refine WP.blk (pc' := 47) (L' := [vr 10 0, vi x1]) (st' := [vr 10 0]) (h' := (101, I5, J6, R0 b)) 1 rfl ?_
      refine WP.cal (y' := 155) (as := [vr 10 0]) (L' := [vr 10 0, vi x1]) (rest := []) rfl (fun f r h' hf => callV_ok hf rfl rfl rfl) h ?_
      rintro _ _ ⟨x7, I8, J9, rfl, rfl, h⟩
      refine WP.if_ne (t := 54) (L' := [vr 10 0, vi x1]) rfl rfl rfl rfl h (fun h => ?_) (fun h => ?_)
      · refine WP.blk (pc' := 55) (L' := [vr 10 0, vi x1]) (st' := [vr 10 0]) (h' := (101, I8, J9, R0 b)) 1 rfl ?_
        refine WP.cal (y' := 157) (as := [vr 10 0]) (L' := [vr 10 0, vi x1]) (rest := []) rfl (fun f r h' hf => callV_ok hf rfl rfl rfl) h ?_
        rintro _ _ ⟨I11, J12, rfl, rfl, h⟩
        refine WP.blk (pc' := 72) (L' := [vr 10 0, vi x1]) (st' := [vi 33, vi x1, vr 10 0]) (h' := (101, (updI I11 10 0 23 ((I11 10 0 23) - (1 : Int32))), J12, R0 b)) 9 rfl ?_
        refine WP.icmp_ne (t := 79) (L' := [vr 10 0, vi x1]) rfl rfl rfl rfl h (fun h => ?_) (fun h => ?_)
        · refine WP.blk (pc' := 81) (L' := [vn, vn]) (st' := [vi 0, vi 4, vr 10 0]) (h' := (101, (updI I11 10 0 23 ((I11 10 0 23) - (1 : Int32))), J12, R0 b)) 2 rfl ?_
          refine WP.cal (y' := 153) (as := [vr 10 0, vi 4, vi 0]) (L' := [vn, vn]) (rest := []) rfl (fun f r h' hf => callV_ok hf rfl rfl rfl) h ?_
          rintro _ _ ⟨I14, J15, rfl, rfl, h⟩
          refine WP.blk (pc' := 154) (L' := [vn, vn]) (st' := []) (h' := (101, I14, J15, R0 b)) 1 rfl ?_
          exact WP.ret rfl rfl h
        · refine WP.blk (pc' := 81) (L' := [vn, vn]) (st' := [vi 0, vi 3, vr 10 0]) (h' := (101, (updI I11 10 0 23 ((I11 10 0 23) - (1 : Int32))), J12, R0 b)) 3 rfl ?_
          refine WP.cal (y' := 153) (as := [vr 10 0, vi 3, vi 0]) (L' := [vn, vn]) (rest := []) rfl (fun f r h' hf => callV_ok hf rfl rfl rfl) h ?_
          rintro _ _ ⟨I17, J18, rfl, rfl, h⟩
          refine WP.blk (pc' := 154) (L' := [vn, vn]) (st' := []) (h' := (101, I17, J18, R0 b)) 1 rfl ?_
          exact WP.ret rfl rfl h
      · exact WP.ret rfl rfl h
    · refine WP.blk (pc' := 43) (L' := [vr 10 0, vi x1]) (st' := [vi 45, vi x1]) (h' := (101, I5, J6, R0 b)) 2 rfl ?_
      refine WP.icmp_ne (t := 87) (L' := [vr 10 0, vi x1]) rfl rfl rfl rfl h (fun h => ?_) (fun h => ?_)
      · refine WP.blk (pc' := 90) (L' := [vr 10 0, vi x1]) (st' := [vi 40, vi x1]) (h' := (101, I5, J6, R0 b)) 2 rfl ?_
        refine WP.icmp_ne (t := 150) (L' := [vr 10 0, vi x1]) rfl rfl rfl rfl h (fun h => ?_) (fun h => ?_)
        · refine WP.blk (pc' := 151) (L' := [vr 10 0, vi x1]) (st' := [vr 10 0]) (h' := (101, I5, J6, R0 b)) 1 rfl ?_
          refine WP.cal (y' := 156) (as := [vr 10 0]) (L' := [vr 10 0, vi x1]) (rest := []) rfl (fun f r h' hf => callV_ok hf rfl rfl rfl) h ?_
          rintro _ _ ⟨I20, J21, rfl, rfl, h⟩
          exact WP.ret rfl rfl h
        · refine WP.blk (pc' := 94) (L' := [vr 10 0, vi x1]) (st' := [vr 10 0]) (h' := (101, I5, J6, R0 b)) 1 rfl ?_
          refine WP.cal (y' := 155) (as := [vr 10 0]) (L' := [vr 10 0, vi x1]) (rest := []) rfl (fun f r h' hf => callV_ok hf rfl rfl rfl) h ?_
          rintro _ _ ⟨x22, I23, J24, rfl, rfl, h⟩
          refine WP.if_ne (t := 101) (L' := [vr 10 0, vi x1]) rfl rfl rfl rfl h (fun h => ?_) (fun h => ?_)
          · refine WP.blk (pc' := 102) (L' := [vr 10 0, vi x1]) (st' := [vr 10 0]) (h' := (101, I23, J24, R0 b)) 1 rfl ?_
            refine WP.cal (y' := 162) (as := [vr 10 0]) (L' := [vr 10 0, vi x1]) (rest := []) rfl (fun f r h' hf => callV_ok hf rfl rfl rfl) h ?_
            rintro _ _ ⟨I26, J27, rfl, rfl, h⟩
            refine WP.blk (pc' := 109) (L' := [vr 10 0, vi x1]) (st' := [vi (I26 10 0 22)]) (h' := (101, I26, J27, R0 b)) 2 rfl ?_
            refine WP.if_lt (t := 113) (L' := [vr 10 0, vi x1]) rfl rfl rfl rfl h (fun h => ?_) (fun h => ?_)
            · refine WP.blk (pc' := 114) (L' := [vr 10 0, vi x1]) (st' := [vr 10 0]) (h' := (101, I26, J27, R0 b)) 1 rfl ?_
              refine WP.cal (y' := 151) (as := [vr 10 0]) (L' := [vr 10 0, vi x1]) (rest := []) rfl (fun f r h' hf => callV_ok hf rfl rfl rfl) h ?_
              rintro _ _ ⟨x28, I29, J30, rfl, rfl, h⟩
              refine WP.blk (pc' := 119) (L' := [vr 10 0, vi x1]) (st' := [vi 41, vi x28]) (h' := (101, I29, J30, R0 b)) 1 rfl ?_
              refine WP.icmp_eq (t := 127) (L' := [vr 10 0, vi x1]) rfl rfl rfl rfl h (fun h => ?_) (fun h => ?_)
              · refine WP.blk (pc' := 154) (L' := [vr 10 0, vi x1]) (st' := []) (h' := (101, (updI (updI I29 10 0 21 ((I29 10 0 21) + (1 : Int32))) 10 0 23 ((I29 10 0 23) - (1 : Int32))), J30, R0 b)) 13 rfl ?_
                exact WP.ret rfl rfl h
              · refine WP.blk (pc' := 123) (L' := [vr 10 0, vi x1]) (st' := [vr 10 0]) (h' := (101, I29, J30, R0 b)) 1 rfl ?_
                refine WP.cal (y' := 152) (as := [vr 10 0]) (L' := [vr 10 0, vi x1]) (rest := []) rfl (fun f r h' hf => callV_ok hf rfl rfl rfl) h ?_
                rintro _ _ ⟨I32, J33, rfl, rfl, h⟩
                exact WP.ret rfl rfl h
            · exact WP.ret rfl rfl h
          · exact WP.ret rfl rfl h
      · refine WP.blk (pc' := 47) (L' := [vr 10 0, vi x1]) (st' := [vr 10 0]) (h' := (101, I5, J6, R0 b)) 1 rfl ?_
        refine WP.cal (y' := 155) (as := [vr 10 0]) (L' := [vr 10 0, vi x1]) (rest := []) rfl (fun f r h' hf => callV_ok hf rfl rfl rfl) h ?_
        rintro _ _ ⟨x34, I35, J36, rfl, rfl, h⟩
        refine WP.if_ne (t := 54) (L' := [vr 10 0, vi x1]) rfl rfl rfl rfl h (fun h => ?_) (fun h => ?_)
        · refine WP.blk (pc' := 55) (L' := [vr 10 0, vi x1]) (st' := [vr 10 0]) (h' := (101, I35, J36, R0 b)) 1 rfl ?_
          refine WP.cal (y' := 157) (as := [vr 10 0]) (L' := [vr 10 0, vi x1]) (rest := []) rfl (fun f r h' hf => callV_ok hf rfl rfl rfl) h ?_
          rintro _ _ ⟨I38, J39, rfl, rfl, h⟩
          refine WP.blk (pc' := 72) (L' := [vr 10 0, vi x1]) (st' := [vi 33, vi x1, vr 10 0]) (h' := (101, (updI I38 10 0 23 ((I38 10 0 23) - (1 : Int32))), J39, R0 b)) 9 rfl ?_
          refine WP.icmp_ne (t := 79) (L' := [vr 10 0, vi x1]) rfl rfl rfl rfl h (fun h => ?_) (fun h => ?_)
          · refine WP.blk (pc' := 81) (L' := [vn, vn]) (st' := [vi 0, vi 4, vr 10 0]) (h' := (101, (updI I38 10 0 23 ((I38 10 0 23) - (1 : Int32))), J39, R0 b)) 2 rfl ?_
            refine WP.cal (y' := 153) (as := [vr 10 0, vi 4, vi 0]) (L' := [vn, vn]) (rest := []) rfl (fun f r h' hf => callV_ok hf rfl rfl rfl) h ?_
            rintro _ _ ⟨I41, J42, rfl, rfl, h⟩
            refine WP.blk (pc' := 154) (L' := [vn, vn]) (st' := []) (h' := (101, I41, J42, R0 b)) 1 rfl ?_
            exact WP.ret rfl rfl h
          · refine WP.blk (pc' := 81) (L' := [vn, vn]) (st' := [vi 0, vi 3, vr 10 0]) (h' := (101, (updI I38 10 0 23 ((I38 10 0 23) - (1 : Int32))), J39, R0 b)) 3 rfl ?_
            refine WP.cal (y' := 153) (as := [vr 10 0, vi 3, vi 0]) (L' := [vn, vn]) (rest := []) rfl (fun f r h' hf => callV_ok hf rfl rfl rfl) h ?_
            rintro _ _ ⟨I44, J45, rfl, rfl, h⟩
            refine WP.blk (pc' := 154) (L' := [vn, vn]) (st' := []) (h' := (101, I44, J45, R0 b)) 1 rfl ?_
            exact WP.ret rfl rfl h
        · exact WP.ret rfl rfl h
  · refine WP.blk (pc' := 15) (L' := [vr 10 0, vi x1]) (st' := [vi x1, vi 2, vr 10 0]) (h' := (101, I5, J6, R0 b)) 3 rfl ?_
    refine WP.cal (y' := 154) (as := [vi x1]) (L' := [vr 10 0, vi x1]) (rest := [vi 2, vr 10 0]) rfl (fun f r h' hf => callS_ok hf rfl rfl rfl) h ?_
    rintro _ _ ⟨x46, I47, J48, rfl, rfl, h⟩
    refine WP.cal (y' := 153) (as := [vr 10 0, vi 2, vi x46]) (L' := [vr 10 0, vi x1]) (rest := []) rfl (fun f r h' hf => callV_ok hf rfl rfl rfl) h ?_
    rintro _ _ ⟨I50, J51, rfl, rfl, h⟩
    refine WP.blk (pc' := 154) (L' := [vr 10 0, vi x1]) (st' := []) (h' := (101, (updI I50 10 0 21 ((I50 10 0 21) + (1 : Int32))), J51, R0 b)) 7 rfl ?_
    exact WP.ret rfl rfl h
set_option maxRecDepth 20000 in
theorem t_X10_product {D : Nat}  (I : IM) (J : JM) (b : Bool) {Q : Option AV → AH → Prop} (h : (Call D 157 [vr 10 0] (101, I, J, R0 b) (RVf b fun I2 J3 => WP D 158 4 [vr 10 0, vn] [] (101, I2, J3, R0 b) Q))) : Call (D + 1) 158 [vr 10 0] (101, I, J, R0 b) Q := by
  refine Call.of rfl ?_
  show WP D 158 0 [vr 10 0, vn] [] (101, I, J, R0 b) Q
  refine WP.blk (pc' := 1) (L' := [vr 10 0, vn]) (st' := [vr 10 0]) (h' := (101, I, J, R0 b)) 1 rfl ?_
  refine WP.cal (y' := 157) (as := [vr 10 0]) (L' := [vr 10 0, vn]) (rest := []) rfl (fun f r h' hf => callV_ok hf rfl rfl rfl) h ?_
  rintro _ _ ⟨I2, J3, rfl, rfl, h⟩
  exact WP.mask rfl rfl h
set_option maxRecDepth 20000 in
theorem t_X10_product_4 {D : Nat}  (I : IM) (J : JM) (b : Bool) {Q : Option AV → AH → Prop} (h : (if 0 ≤ (I 10 0 22) then Q none (101, I, J, R0 b) else (Call D 151 [vr 10 0] (101, I, J, R0 b) (RIf b fun x4 I5 J6 => (if x4 = (42 : Int32) then (Call D 151 [vr 10 0] (101, I5, J6, R0 b) (RIf b fun x7 I8 J9 => (Call D 157 [vr 10 0] (101, (updI I8 10 0 21 ((I8 10 0 21) + (1 : Int32))), J9, R0 b) (RVf b fun I11 J12 => (Call D 153 [vr 10 0, vi x7, vi 0] (101, I11, J12, R0 b) (RVf b fun I14 J15 => WP D 158 4 [vr 10 0, vn] [] (101, I14, J15, R0 b) Q)))))) else (Call D 151 [vr 10 0] (101, I5, J6, R0 b) (RIf b fun x16 I17 J18 => (if x16 = (47 : Int32) then (Call D 151 [vr 10 0] (101, I17, J18, R0 b) (RIf b fun x19 I20 J21 => (Call D 157 [vr 10 0] (101, (updI I20 10 0 21 ((I20 10 0 21) + (1 : Int32))), J21, R0 b) (RVf b fun I23 J24 => (Call D 153 [vr 10 0, vi x19, vi 0] (101, I23, J24, R0 b) (RVf b fun I26 J27 => WP D 158 4 [vr 10 0, vn] [] (101, I26, J27, R0 b) Q)))))) else (Call D 151 [vr 10 0] (101, I17, J18, R0 b) (RIf b fun x28 I29 J30 => (if ¬ x28 = (37 : Int32) then Q none (101, I29, J30, R0 b) else (Call D 151 [vr 10 0] (101, I29, J30, R0 b) (RIf b fun x31 I32 J33 => (Call D 157 [vr 10 0] (101, (updI I32 10 0 21 ((I32 10 0 21) + (1 : Int32))), J33, R0 b) (RVf b fun I35 J36 => (Call D 153 [vr 10 0, vi x31, vi 0] (101, I35, J36, R0 b) (RVf b fun I38 J39 => WP D 158 4 [vr 10 0, vn] [] (101, I38, J39, R0 b) Q))))))))))))))))) : WP D 158 4 [vr 10 0, vn] [] (101, I, J, R0 b) Q := by
  refine WP.blk (pc' := 8) (L' := [vr 10 0, vn]) (st' := [vi (I 10 0 22)]) (h' := (101, I, J, R0 b)) 2 rfl ?_
  refine WP.if_ge (t := 66) (L' := [vr 10 0, vn]) rfl rfl rfl rfl h (fun h => ?_) (fun h => ?_)
  · exact WP.ret rfl rfl h
  · refine WP.blk (pc' := 12) (L' := [vr 10 0, vn]) (st' := [vr 10 0]) (h' := (101, I, J, R0 b)) 1 rfl ?_
    refine WP.cal (y' := 151) (as := [vr 10 0]) (L' := [vr 10 0, vn]) (rest := []) rfl (fun f r h' hf => callV_ok hf rfl rfl rfl) h ?_
    rintro _ _ ⟨x4, I5, J6, rfl, rfl, h⟩
    refine WP.blk (pc' := 17) (L' := [vr 10 0, vn]) (st' := [vi 42, vi x4]) (h' := (101, I5, J6, R0 b)) 1 rfl ?_
    refine WP.icmp_eq (t := 38) (L' := [vr 10 0, vn]) rfl rfl rfl rfl h (fun h => ?_) (fun h => ?_)
    · refine WP.blk (pc' := 39) (L' := [vr 10 0, vn]) (st' := [vr 10 0]) (h' := (101, I5, J6, R0 b)) 1 rfl ?_
      refine WP.cal (y' := 151) (as := [vr 10 0]) (L' := [vr 10 0, vn]) (rest := []) rfl (fun f r h' hf => callV_ok hf rfl rfl rfl) h ?_
      rintro _ _ ⟨x7, I8, J9, rfl, rfl, h⟩
      refine WP.blk (pc' := 54) (L' := [vr 10 0, vi x7]) (st' := [vr 10 0]) (h' := (101, (updI I8 10 0 21 ((I8 10 0 21) + (1 : Int32))), J9, R0 b)) 8 rfl ?_
      refine WP.cal (y' := 157) (as := [vr 10 0]) (L' := [vr 10 0, vi x7]) (rest := []) rfl (fun f r h' hf => callV_ok hf rfl rfl rfl) h ?_
      rintro _ _ ⟨I11, J12, rfl, rfl, h⟩
      refine WP.blk (pc' := 60) (L' := [vr 10 0, vi x7]) (st' := [vi 0, vi x7, vr 10 0]) (h' := (101, I11, J12, R0 b)) 3 rfl ?_
      refine WP.cal (y' := 153) (as := [vr 10 0, vi x7, vi 0]) (L' := [vr 10 0, vi x7]) (rest := []) rfl (fun f r h' hf => callV_ok hf rfl rfl rfl) h ?_
      rintro _ _ ⟨I14, J15, rfl, rfl, h⟩
      refine WP.blk (pc' := 4) (L' := [vr 10 0, vi x7]) (st' := []) (h' := (101, I14, J15, R0 b)) 1 rfl ?_
      exact WP.mask rfl rfl h
    · refine WP.blk (pc' := 21) (L' := [vr 10 0, vn]) (st' := [vr 10 0]) (h' := (101, I5, J6, R0 b)) 1 rfl ?_
      refine WP.cal (y' := 151) (as := [vr 10 0]) (L' := [vr 10 0, vn]) (rest := []) rfl (fun f r h' hf => callV_ok hf rfl rfl rfl) h ?_
      rintro _ _ ⟨x16, I17, J18, rfl, rfl, h⟩
      refine WP.blk (pc' := 26) (L' := [vr 10 0, vn]) (st' := [vi 47, vi x16]) (h' := (101, I17, J18, R0 b)) 1 rfl ?_
      refine WP.icmp_eq (t := 38) (L' := [vr 10 0, vn]) rfl rfl rfl rfl h (fun h => ?_) (fun h => ?_)
      · refine WP.blk (pc' := 39) (L' := [vr 10 0, vn]) (st' := [vr 10 0]) (h' := (101, I17, J18, R0 b)) 1 rfl ?_
        refine WP.cal (y' := 151) (as := [vr 10 0]) (L' := [vr 10 0, vn]) (rest := []) rfl (fun f r h' hf => callV_ok hf rfl rfl rfl) h ?_
        rintro _ _ ⟨x19, I20, J21, rfl, rfl, h⟩
        refine WP.blk (pc' := 54) (L' := [vr 10 0, vi x19]) (st' := [vr 10 0]) (h' := (101, (updI I20 10 0 21 ((I20 10 0 21) + (1 : Int32))), J21, R0 b)) 8 rfl ?_
        refine WP.cal (y' := 157) (as := [vr 10 0]) (L' := [vr 10 0, vi x19]) (rest := []) rfl (fun f r h' hf => callV_ok hf rfl rfl rfl) h ?_
        rintro _ _ ⟨I23, J24, rfl, rfl, h⟩
        refine WP.blk (pc' := 60) (L' := [vr 10 0, vi x19]) (st' := [vi 0, vi x19, vr 10 0]) (h' := (101, I23, J24, R0 b)) 3 rfl ?_
        refine WP.cal (y' := 153) (as := [vr 10 0, vi x19, vi 0]) (L' := [vr 10 0, vi x19]) (rest := []) rfl (fun f r h' hf => callV_ok hf rfl rfl rfl) h ?_
        rintro _ _ ⟨I26, J27, rfl, rfl, h⟩
        refine WP.blk (pc' := 4) (L' := [vr 10 0, vi x19]) (st' := []) (h' := (101, I26, J27, R0 b)) 1 rfl ?_
        exact WP.mask rfl rfl h
      · refine WP.blk (pc' := 30) (L' := [vr 10 0, vn]) (st' := [vr 10 0]) (h' := (101, I17, J18, R0 b)) 1 rfl ?_
        refine WP.cal (y' := 151) (as := [vr 10 0]) (L' := [vr 10 0, vn]) (rest := []) rfl (fun f r h' hf => callV_ok hf rfl rfl rfl) h ?_
        rintro _ _ ⟨x28, I29, J30, rfl, rfl, h⟩
        refine WP.blk (pc' := 35) (L' := [vr 10 0, vn]) (st' := [vi 37, vi x28]) (h' := (101, I29, J30, R0 b)) 1 rfl ?_
        refine WP.icmp_ne (t := 66) (L' := [vr 10 0, vn]) rfl rfl rfl rfl h (fun h => ?_) (fun h => ?_)
        · exact WP.ret rfl rfl h
        · refine WP.blk (pc' := 39) (L' := [vr 10 0, vn]) (st' := [vr 10 0]) (h' := (101, I29, J30, R0 b)) 1 rfl ?_
          refine WP.cal (y' := 151) (as := [vr 10 0]) (L' := [vr 10 0, vn]) (rest := []) rfl (fun f r h' hf => callV_ok hf rfl rfl rfl) h ?_
          rintro _ _ ⟨x31, I32, J33, rfl, rfl, h⟩
          refine WP.blk (pc' := 54) (L' := [vr 10 0, vi x31]) (st' := [vr 10 0]) (h' := (101, (updI I32 10 0 21 ((I32 10 0 21) + (1 : Int32))), J33, R0 b)) 8 rfl ?_
          refine WP.cal (y' := 157) (as := [vr 10 0]) (L' := [vr 10 0, vi x31]) (rest := []) rfl (fun f r h' hf => callV_ok hf rfl rfl rfl) h ?_
          rintro _ _ ⟨I35, J36, rfl, rfl, h⟩
          refine WP.blk (pc' := 60) (L' := [vr 10 0, vi x31]) (st' := [vi 0, vi x31, vr 10 0]) (h' := (101, I35, J36, R0 b)) 3 rfl ?_
          refine WP.cal (y' := 153) (as := [vr 10 0, vi x31, vi 0]) (L' := [vr 10 0, vi x31]) (rest := []) rfl (fun f r h' hf => callV_ok hf rfl rfl rfl) h ?_
          rintro _ _ ⟨I38, J39, rfl, rfl, h⟩
          refine WP.blk (pc' := 4) (L' := [vr 10 0, vi x31]) (st' := []) (h' := (101, I38, J39, R0 b)) 1 rfl ?_
          exact WP.mask rfl rfl h
set_option maxRecDepth 20000 in
theorem t_X10_sum {D : Nat}  (I : IM) (J : JM) (b : Bool) {Q : Option AV → AH → Prop} (h : (Call D 158 [vr 10 0] (101, I, J, R0 b) (RVf b fun I2 J3 => WP D 159 4 [vr 10 0, vn] [] (101, I2, J3, R0 b) Q))) : Call (D + 1) 159 [vr 10 0] (101, I, J, R0 b) Q := by
  refine Call.of rfl ?_
  show WP D 159 0 [vr 10 0, vn] [] (101, I, J, R0 b) Q
  refine WP.blk (pc' := 1) (L' := [vr 10 0, vn]) (st' := [vr 10 0]) (h' := (101, I, J, R0 b)) 1 rfl ?_
  refine WP.cal (y' := 158) (as := [vr 10 0]) (L' := [vr 10 0, vn]) (rest := []) rfl (fun f r h' hf => callV_ok hf rfl rfl rfl) h ?_
  rintro _ _ ⟨I2, J3, rfl, rfl, h⟩
  exact WP.mask rfl rfl h
set_option maxRecDepth 20000 in
theorem t_X10_sum_4 {D : Nat}  (I : IM) (J : JM) (b : Bool) {Q : Option AV → AH → Prop} (h : (if 0 ≤ (I 10 0 22) then Q none (101, I, J, R0 b) else (Call D 151 [vr 10 0] (101, I, J, R0 b) (RIf b fun x4 I5 J6 => (if x4 = (43 : Int32) then (Call D 151 [vr 10 0] (101, I5, J6, R0 b) (RIf b fun x7 I8 J9 => (Call D 158 [vr 10 0] (101, (updI I8 10 0 21 ((I8 10 0 21) + (1 : Int32))), J9, R0 b) (RVf b fun I11 J12 => (Call D 153 [vr 10 0, vi x7, vi 0] (101, I11, J12, R0 b) (RVf b fun I14 J15 => WP D 159 4 [vr 10 0, vn] [] (101, I14, J15, R0 b) Q)))))) else (Call D 151 [vr 10 0] (101, I5, J6, R0 b) (RIf b fun x16 I17 J18 => (if ¬ x16 = (45 : Int32) then Q none (101, I17, J18, R0 b) else (Call D 151 [vr 10 0] (101, I17, J18, R0 b) (RIf b fun x19 I20 J21 => (Call D 158 [vr 10 0] (101, (updI I20 10 0 21 ((I20 10 0 21) + (1 : Int32))), J21, R0 b) (RVf b fun I23 J24 => (Call D 153 [vr 10 0, vi x19, vi 0] (101, I23, J24, R0 b) (RVf b fun I26 J27 => WP D 159 4 [vr 10 0, vn] [] (101, I26, J27, R0 b) Q)))))))))))))) : WP D 159 4 [vr 10 0, vn] [] (101, I, J, R0 b) Q := by
  refine WP.blk (pc' := 8) (L' := [vr 10 0, vn]) (st' := [vi (I 10 0 22)]) (h' := (101, I, J, R0 b)) 2 rfl ?_
  refine WP.if_ge (t := 57) (L' := [vr 10 0, vn]) rfl rfl rfl rfl h (fun h => ?_) (fun h => ?_)
  · exact WP.ret rfl rfl h
  · refine WP.blk (pc' := 12) (L' := [vr 10 0, vn]) (st' := [vr 10 0]) (h' := (101, I, J, R0 b)) 1 rfl ?_
    refine WP.cal (y' := 151) (as := [vr 10 0]) (L' := [vr 10 0, vn]) (rest := []) rfl (fun f r h' hf => callV_ok hf rfl rfl rfl) h ?_
    rintro _ _ ⟨x4, I5, J6, rfl, rfl, h⟩
    refine WP.blk (pc' := 17) (L' := [vr 10 0, vn]) (st' := [vi 43, vi x4]) (h' := (101, I5, J6, R0 b)) 1 rfl ?_
    refine WP.icmp_eq (t := 29) (L' := [vr 10 0, vn]) rfl rfl rfl rfl h (fun h => ?_) (fun h => ?_)
    · refine WP.blk (pc' := 30) (L' := [vr 10 0, vn]) (st' := [vr 10 0]) (h' := (101, I5, J6, R0 b)) 1 rfl ?_
      refine WP.cal (y' := 151) (as := [vr 10 0]) (L' := [vr 10 0, vn]) (rest := []) rfl (fun f r h' hf => callV_ok hf rfl rfl rfl) h ?_
      rintro _ _ ⟨x7, I8, J9, rfl, rfl, h⟩
      refine WP.blk (pc' := 45) (L' := [vr 10 0, vi x7]) (st' := [vr 10 0]) (h' := (101, (updI I8 10 0 21 ((I8 10 0 21) + (1 : Int32))), J9, R0 b)) 8 rfl ?_
      refine WP.cal (y' := 158) (as := [vr 10 0]) (L' := [vr 10 0, vi x7]) (rest := []) rfl (fun f r h' hf => callV_ok hf rfl rfl rfl) h ?_
      rintro _ _ ⟨I11, J12, rfl, rfl, h⟩
      refine WP.blk (pc' := 51) (L' := [vr 10 0, vi x7]) (st' := [vi 0, vi x7, vr 10 0]) (h' := (101, I11, J12, R0 b)) 3 rfl ?_
      refine WP.cal (y' := 153) (as := [vr 10 0, vi x7, vi 0]) (L' := [vr 10 0, vi x7]) (rest := []) rfl (fun f r h' hf => callV_ok hf rfl rfl rfl) h ?_
      rintro _ _ ⟨I14, J15, rfl, rfl, h⟩
      refine WP.blk (pc' := 4) (L' := [vr 10 0, vi x7]) (st' := []) (h' := (101, I14, J15, R0 b)) 1 rfl ?_
      exact WP.mask rfl rfl h
    · refine WP.blk (pc' := 21) (L' := [vr 10 0, vn]) (st' := [vr 10 0]) (h' := (101, I5, J6, R0 b)) 1 rfl ?_
      refine WP.cal (y' := 151) (as := [vr 10 0]) (L' := [vr 10 0, vn]) (rest := []) rfl (fun f r h' hf => callV_ok hf rfl rfl rfl) h ?_
      rintro _ _ ⟨x16, I17, J18, rfl, rfl, h⟩
      refine WP.blk (pc' := 26) (L' := [vr 10 0, vn]) (st' := [vi 45, vi x16]) (h' := (101, I17, J18, R0 b)) 1 rfl ?_
      refine WP.icmp_ne (t := 57) (L' := [vr 10 0, vn]) rfl rfl rfl rfl h (fun h => ?_) (fun h => ?_)
      · exact WP.ret rfl rfl h
      · refine WP.blk (pc' := 30) (L' := [vr 10 0, vn]) (st' := [vr 10 0]) (h' := (101, I17, J18, R0 b)) 1 rfl ?_
        refine WP.cal (y' := 151) (as := [vr 10 0]) (L' := [vr 10 0, vn]) (rest := []) rfl (fun f r h' hf => callV_ok hf rfl rfl rfl) h ?_
        rintro _ _ ⟨x19, I20, J21, rfl, rfl, h⟩
        refine WP.blk (pc' := 45) (L' := [vr 10 0, vi x19]) (st' := [vr 10 0]) (h' := (101, (updI I20 10 0 21 ((I20 10 0 21) + (1 : Int32))), J21, R0 b)) 8 rfl ?_
        refine WP.cal (y' := 158) (as := [vr 10 0]) (L' := [vr 10 0, vi x19]) (rest := []) rfl (fun f r h' hf => callV_ok hf rfl rfl rfl) h ?_
        rintro _ _ ⟨I23, J24, rfl, rfl, h⟩
        refine WP.blk (pc' := 51) (L' := [vr 10 0, vi x19]) (st' := [vi 0, vi x19, vr 10 0]) (h' := (101, I23, J24, R0 b)) 3 rfl ?_
        refine WP.cal (y' := 153) (as := [vr 10 0, vi x19, vi 0]) (L' := [vr 10 0, vi x19]) (rest := []) rfl (fun f r h' hf => callV_ok hf rfl rfl rfl) h ?_
        rintro _ _ ⟨I26, J27, rfl, rfl, h⟩
        refine WP.blk (pc' := 4) (L' := [vr 10 0, vi x19]) (st' := []) (h' := (101, I26, J27, R0 b)) 1 rfl ?_
        exact WP.mask rfl rfl h
set_option maxRecDepth 20000 in
theorem t_X10_compared {D : Nat}  (I : IM) (J : JM) (b : Bool) {Q : Option AV → AH → Prop} (h : (Call D 159 [vr 10 0] (101, I, J, R0 b) (RVf b fun I2 J3 => (Call D 151 [vr 10 0] (101, I2, J3, R0 b) (RIf b fun x4 I5 J6 => (if 0 ≤ (I5 10 0 22) then Q none (101, I5, J6, R0 b) else (if x4 = (60 : Int32) then (Call D 159 [vr 10 0] (101, (updI I5 10 0 21 ((I5 10 0 21) + (1 : Int32))), J6, R0 b) (RVf b fun I8 J9 => (Call D 153 [vr 10 0, vi x4, vi 0] (101, I8, J9, R0 b) (RVf b fun I11 J12 => Q none (101, I11, J12, R0 b))))) else (if x4 = (61 : Int32) then (Call D 159 [vr 10 0] (101, (updI I5 10 0 21 ((I5 10 0 21) + (1 : Int32))), J6, R0 b) (RVf b fun I14 J15 => (Call D 153 [vr 10 0, vi x4, vi 0] (101, I14, J15, R0 b) (RVf b fun I17 J18 => Q none (101, I17, J18, R0 b))))) else (if x4 = (62 : Int32) then (Call D 159 [vr 10 0] (101, (updI I5 10 0 21 ((I5 10 0 21) + (1 : Int32))), J6, R0 b) (RVf b fun I20 J21 => (Call D 153 [vr 10 0, vi x4, vi 0] (101, I20, J21, R0 b) (RVf b fun I23 J24 => Q none (101, I23, J24, R0 b))))) else Q none (101, I5, J6, R0 b)))))))))) : Call (D + 1) 160 [vr 10 0] (101, I, J, R0 b) Q := by
  refine Call.of rfl ?_
  show WP D 160 0 [vr 10 0, vn] [] (101, I, J, R0 b) Q
  refine WP.blk (pc' := 1) (L' := [vr 10 0, vn]) (st' := [vr 10 0]) (h' := (101, I, J, R0 b)) 1 rfl ?_
  refine WP.cal (y' := 159) (as := [vr 10 0]) (L' := [vr 10 0, vn]) (rest := []) rfl (fun f r h' hf => callV_ok hf rfl rfl rfl) h ?_
  rintro _ _ ⟨I2, J3, rfl, rfl, h⟩
  refine WP.blk (pc' := 5) (L' := [vr 10 0, vn]) (st' := [vr 10 0]) (h' := (101, I2, J3, R0 b)) 1 rfl ?_
  refine WP.cal (y' := 151) (as := [vr 10 0]) (L' := [vr 10 0, vn]) (rest := []) rfl (fun f r h' hf => callV_ok hf rfl rfl rfl) h ?_
  rintro _ _ ⟨x4, I5, J6, rfl, rfl, h⟩
  refine WP.blk (pc' := 13) (L' := [vr 10 0, vi x4]) (st' := [vi (I5 10 0 22)]) (h' := (101, I5, J6, R0 b)) 3 rfl ?_
  refine WP.if_ge (t := 34) (L' := [vr 10 0, vi x4]) rfl rfl rfl rfl h (fun h => ?_) (fun h => ?_)
  · exact WP.ret rfl rfl h
  · refine WP.blk (pc' := 19) (L' := [vr 10 0, vi x4]) (st' := [vi 60, vi x4]) (h' := (101, I5, J6, R0 b)) 2 rfl ?_
    refine WP.icmp_eq (t := 35) (L' := [vr 10 0, vi x4]) rfl rfl rfl rfl h (fun h => ?_) (fun h => ?_)
    · refine WP.blk (pc' := 46) (L' := [vr 10 0, vi x4]) (st' := [vr 10 0]) (h' := (101, (updI I5 10 0 21 ((I5 10 0 21) + (1 : Int32))), J6, R0 b)) 7 rfl ?_
      refine WP.cal (y' := 159) (as := [vr 10 0]) (L' := [vr 10 0, vi x4]) (rest := []) rfl (fun f r h' hf => callV_ok hf rfl rfl rfl) h ?_
      rintro _ _ ⟨I8, J9, rfl, rfl, h⟩
      refine WP.blk (pc' := 52) (L' := [vr 10 0, vi x4]) (st' := [vi 0, vi x4, vr 10 0]) (h' := (101, I8, J9, R0 b)) 3 rfl ?_
      refine WP.cal (y' := 153) (as := [vr 10 0, vi x4, vi 0]) (L' := [vr 10 0, vi x4]) (rest := []) rfl (fun f r h' hf => callV_ok hf rfl rfl rfl) h ?_
      rintro _ _ ⟨I11, J12, rfl, rfl, h⟩
      exact WP.ret rfl rfl h
    · refine WP.blk (pc' := 25) (L' := [vr 10 0, vi x4]) (st' := [vi 61, vi x4]) (h' := (101, I5, J6, R0 b)) 2 rfl ?_
      refine WP.icmp_eq (t := 35) (L' := [vr 10 0, vi x4]) rfl rfl rfl rfl h (fun h => ?_) (fun h => ?_)
      · refine WP.blk (pc' := 46) (L' := [vr 10 0, vi x4]) (st' := [vr 10 0]) (h' := (101, (updI I5 10 0 21 ((I5 10 0 21) + (1 : Int32))), J6, R0 b)) 7 rfl ?_
        refine WP.cal (y' := 159) (as := [vr 10 0]) (L' := [vr 10 0, vi x4]) (rest := []) rfl (fun f r h' hf => callV_ok hf rfl rfl rfl) h ?_
        rintro _ _ ⟨I14, J15, rfl, rfl, h⟩
        refine WP.blk (pc' := 52) (L' := [vr 10 0, vi x4]) (st' := [vi 0, vi x4, vr 10 0]) (h' := (101, I14, J15, R0 b)) 3 rfl ?_
        refine WP.cal (y' := 153) (as := [vr 10 0, vi x4, vi 0]) (L' := [vr 10 0, vi x4]) (rest := []) rfl (fun f r h' hf => callV_ok hf rfl rfl rfl) h ?_
        rintro _ _ ⟨I17, J18, rfl, rfl, h⟩
        exact WP.ret rfl rfl h
      · refine WP.blk (pc' := 31) (L' := [vr 10 0, vi x4]) (st' := [vi 62, vi x4]) (h' := (101, I5, J6, R0 b)) 2 rfl ?_
        refine WP.icmp_eq (t := 35) (L' := [vr 10 0, vi x4]) rfl rfl rfl rfl h (fun h => ?_) (fun h => ?_)
        · refine WP.blk (pc' := 46) (L' := [vr 10 0, vi x4]) (st' := [vr 10 0]) (h' := (101, (updI I5 10 0 21 ((I5 10 0 21) + (1 : Int32))), J6, R0 b)) 7 rfl ?_
          refine WP.cal (y' := 159) (as := [vr 10 0]) (L' := [vr 10 0, vi x4]) (rest := []) rfl (fun f r h' hf => callV_ok hf rfl rfl rfl) h ?_
          rintro _ _ ⟨I20, J21, rfl, rfl, h⟩
          refine WP.blk (pc' := 52) (L' := [vr 10 0, vi x4]) (st' := [vi 0, vi x4, vr 10 0]) (h' := (101, I20, J21, R0 b)) 3 rfl ?_
          refine WP.cal (y' := 153) (as := [vr 10 0, vi x4, vi 0]) (L' := [vr 10 0, vi x4]) (rest := []) rfl (fun f r h' hf => callV_ok hf rfl rfl rfl) h ?_
          rintro _ _ ⟨I23, J24, rfl, rfl, h⟩
          exact WP.ret rfl rfl h
        · exact WP.ret rfl rfl h
set_option maxRecDepth 20000 in
theorem t_X10_both {D : Nat}  (I : IM) (J : JM) (b : Bool) {Q : Option AV → AH → Prop} (h : (Call D 160 [vr 10 0] (101, I, J, R0 b) (RVf b fun I2 J3 => WP D 161 4 [vr 10 0] [] (101, I2, J3, R0 b) Q))) : Call (D + 1) 161 [vr 10 0] (101, I, J, R0 b) Q := by
  refine Call.of rfl ?_
  show WP D 161 0 [vr 10 0] [] (101, I, J, R0 b) Q
  refine WP.blk (pc' := 1) (L' := [vr 10 0]) (st' := [vr 10 0]) (h' := (101, I, J, R0 b)) 1 rfl ?_
  refine WP.cal (y' := 160) (as := [vr 10 0]) (L' := [vr 10 0]) (rest := []) rfl (fun f r h' hf => callV_ok hf rfl rfl rfl) h ?_
  rintro _ _ ⟨I2, J3, rfl, rfl, h⟩
  exact WP.mask rfl rfl h
set_option maxRecDepth 20000 in
theorem t_X10_both_4 {D : Nat}  (I : IM) (J : JM) (b : Bool) {Q : Option AV → AH → Prop} (h : (if 0 ≤ (I 10 0 22) then Q none (101, I, J, R0 b) else (Call D 151 [vr 10 0] (101, I, J, R0 b) (RIf b fun x4 I5 J6 => (if ¬ x4 = (38 : Int32) then Q none (101, I5, J6, R0 b) else (Call D 160 [vr 10 0] (101, (updI I5 10 0 21 ((I5 10 0 21) + (1 : Int32))), J6, R0 b) (RVf b fun I8 J9 => (Call D 153 [vr 10 0, vi 38, vi 0] (101, I8, J9, R0 b) (RVf b fun I11 J12 => WP D 161 4 [vr 10 0] [] (101, I11, J12, R0 b) Q))))))))) : WP D 161 4 [vr 10 0] [] (101, I, J, R0 b) Q := by
  refine WP.blk (pc' := 8) (L' := [vr 10 0]) (st' := [vi (I 10 0 22)]) (h' := (101, I, J, R0 b)) 2 rfl ?_
  refine WP.if_ge (t := 44) (L' := [vr 10 0]) rfl rfl rfl rfl h (fun h => ?_) (fun h => ?_)
  · exact WP.ret rfl rfl h
  · refine WP.blk (pc' := 12) (L' := [vr 10 0]) (st' := [vr 10 0]) (h' := (101, I, J, R0 b)) 1 rfl ?_
    refine WP.cal (y' := 151) (as := [vr 10 0]) (L' := [vr 10 0]) (rest := []) rfl (fun f r h' hf => callV_ok hf rfl rfl rfl) h ?_
    rintro _ _ ⟨x4, I5, J6, rfl, rfl, h⟩
    refine WP.blk (pc' := 17) (L' := [vr 10 0]) (st' := [vi 38, vi x4]) (h' := (101, I5, J6, R0 b)) 1 rfl ?_
    refine WP.icmp_ne (t := 44) (L' := [vr 10 0]) rfl rfl rfl rfl h (fun h => ?_) (fun h => ?_)
    · exact WP.ret rfl rfl h
    · refine WP.blk (pc' := 31) (L' := [vr 10 0]) (st' := [vr 10 0]) (h' := (101, (updI I5 10 0 21 ((I5 10 0 21) + (1 : Int32))), J6, R0 b)) 7 rfl ?_
      refine WP.cal (y' := 160) (as := [vr 10 0]) (L' := [vr 10 0]) (rest := []) rfl (fun f r h' hf => callV_ok hf rfl rfl rfl) h ?_
      rintro _ _ ⟨I8, J9, rfl, rfl, h⟩
      refine WP.blk (pc' := 38) (L' := [vr 10 0]) (st' := [vi 0, vi 38, vr 10 0]) (h' := (101, I8, J9, R0 b)) 3 rfl ?_
      refine WP.cal (y' := 153) (as := [vr 10 0, vi 38, vi 0]) (L' := [vr 10 0]) (rest := []) rfl (fun f r h' hf => callV_ok hf rfl rfl rfl) h ?_
      rintro _ _ ⟨I11, J12, rfl, rfl, h⟩
      refine WP.blk (pc' := 4) (L' := [vr 10 0]) (st' := []) (h' := (101, I11, J12, R0 b)) 1 rfl ?_
      exact WP.mask rfl rfl h
set_option maxRecDepth 20000 in
theorem t_X10_either {D : Nat}  (I : IM) (J : JM) (b : Bool) {Q : Option AV → AH → Prop} (h : (Call D 161 [vr 10 0] (101, I, J, R0 b) (RVf b fun I2 J3 => WP D 162 4 [vr 10 0] [] (101, I2, J3, R0 b) Q))) : Call (D + 1) 162 [vr 10 0] (101, I, J, R0 b) Q := by
  refine Call.of rfl ?_
  show WP D 162 0 [vr 10 0] [] (101, I, J, R0 b) Q
  refine WP.blk (pc' := 1) (L' := [vr 10 0]) (st' := [vr 10 0]) (h' := (101, I, J, R0 b)) 1 rfl ?_
  refine WP.cal (y' := 161) (as := [vr 10 0]) (L' := [vr 10 0]) (rest := []) rfl (fun f r h' hf => callV_ok hf rfl rfl rfl) h ?_
  rintro _ _ ⟨I2, J3, rfl, rfl, h⟩
  exact WP.mask rfl rfl h
set_option maxRecDepth 20000 in
theorem t_X10_either_4 {D : Nat}  (I : IM) (J : JM) (b : Bool) {Q : Option AV → AH → Prop} (h : (if 0 ≤ (I 10 0 22) then Q none (101, I, J, R0 b) else (Call D 151 [vr 10 0] (101, I, J, R0 b) (RIf b fun x4 I5 J6 => (if ¬ x4 = (124 : Int32) then Q none (101, I5, J6, R0 b) else (Call D 161 [vr 10 0] (101, (updI I5 10 0 21 ((I5 10 0 21) + (1 : Int32))), J6, R0 b) (RVf b fun I8 J9 => (Call D 153 [vr 10 0, vi 124, vi 0] (101, I8, J9, R0 b) (RVf b fun I11 J12 => WP D 162 4 [vr 10 0] [] (101, I11, J12, R0 b) Q))))))))) : WP D 162 4 [vr 10 0] [] (101, I, J, R0 b) Q := by
  refine WP.blk (pc' := 8) (L' := [vr 10 0]) (st' := [vi (I 10 0 22)]) (h' := (101, I, J, R0 b)) 2 rfl ?_
  refine WP.if_ge (t := 44) (L' := [vr 10 0]) rfl rfl rfl rfl h (fun h => ?_) (fun h => ?_)
  · exact WP.ret rfl rfl h
  · refine WP.blk (pc' := 12) (L' := [vr 10 0]) (st' := [vr 10 0]) (h' := (101, I, J, R0 b)) 1 rfl ?_
    refine WP.cal (y' := 151) (as := [vr 10 0]) (L' := [vr 10 0]) (rest := []) rfl (fun f r h' hf => callV_ok hf rfl rfl rfl) h ?_
    rintro _ _ ⟨x4, I5, J6, rfl, rfl, h⟩
    refine WP.blk (pc' := 17) (L' := [vr 10 0]) (st' := [vi 124, vi x4]) (h' := (101, I5, J6, R0 b)) 1 rfl ?_
    refine WP.icmp_ne (t := 44) (L' := [vr 10 0]) rfl rfl rfl rfl h (fun h => ?_) (fun h => ?_)
    · exact WP.ret rfl rfl h
    · refine WP.blk (pc' := 31) (L' := [vr 10 0]) (st' := [vr 10 0]) (h' := (101, (updI I5 10 0 21 ((I5 10 0 21) + (1 : Int32))), J6, R0 b)) 7 rfl ?_
      refine WP.cal (y' := 161) (as := [vr 10 0]) (L' := [vr 10 0]) (rest := []) rfl (fun f r h' hf => callV_ok hf rfl rfl rfl) h ?_
      rintro _ _ ⟨I8, J9, rfl, rfl, h⟩
      refine WP.blk (pc' := 38) (L' := [vr 10 0]) (st' := [vi 0, vi 124, vr 10 0]) (h' := (101, I8, J9, R0 b)) 3 rfl ?_
      refine WP.cal (y' := 153) (as := [vr 10 0, vi 124, vi 0]) (L' := [vr 10 0]) (rest := []) rfl (fun f r h' hf => callV_ok hf rfl rfl rfl) h ?_
      rintro _ _ ⟨I11, J12, rfl, rfl, h⟩
      refine WP.blk (pc' := 4) (L' := [vr 10 0]) (st' := []) (h' := (101, I11, J12, R0 b)) 1 rfl ?_
      exact WP.mask rfl rfl h
set_option maxRecDepth 20000 in
theorem t_X10_line {D : Nat}  (I : IM) (J : JM) (b : Bool) {Q : Option AV → AH → Prop} (h : (vp_in ((61 : Int32) + (I 56 0 1)) 122 ∧ (Call D 162 [vr 10 0] (101, (updI I 57 0 ((61 : Int32) + (I 56 0 1)).toNatClampNeg (((I 10 0 24)).toInt16.toInt32).toInt16.toInt32), J, R0 b) (RVf b fun I2 J3 => (if 0 ≤ (I2 10 0 22) then (vp_in ((61 : Int32) + (I 56 0 1)) 122 ∧ Q none (101, (updI (updI I2 58 0 ((61 : Int32) + (I 56 0 1)).toNatClampNeg (((I2 10 0 24)).toInt16.toInt32).toInt16.toInt32) 56 0 1 ((I2 56 0 1) + (1 : Int32))), J3, R0 b)) else (Call D 151 [vr 10 0] (101, I2, J3, R0 b) (RIf b fun x4 I5 J6 => (if ¬ x4 = (63 : Int32) then (vp_in ((61 : Int32) + (I 56 0 1)) 122 ∧ Q none (101, (updI (updI I5 58 0 ((61 : Int32) + (I 56 0 1)).toNatClampNeg (((I5 10 0 24)).toInt16.toInt32).toInt16.toInt32) 56 0 1 ((I5 56 0 1) + (1 : Int32))), J6, R0 b)) else (vp_in ((61 : Int32) + (I 56 0 1)) 122 ∧ (Call D 162 [vr 10 0] (101, (updI (updI I5 10 0 21 ((I5 10 0 21) + (1 : Int32))) 57 0 ((61 : Int32) + (I 56 0 1)).toNatClampNeg (((I5 10 0 24)).toInt16.toInt32).toInt16.toInt32), J6, R0 b) (RVf b fun I8 J9 => (vp_in ((61 : Int32) + (I 56 0 1)) 122 ∧ Q none (101, (updI (updI I8 58 0 ((61 : Int32) + (I 56 0 1)).toNatClampNeg (((I8 10 0 24)).toInt16.toInt32).toInt16.toInt32) 56 0 1 ((I8 56 0 1) + (1 : Int32))), J9, R0 b))))))))))))) : Call (D + 1) 163 [vr 10 0] (101, I, J, R0 b) Q := by
  refine Call.of rfl ?_
  show WP D 163 0 [vr 10 0, vn] [] (101, I, J, R0 b) Q
  refine WP.blk (pc' := 20) (L' := [vr 10 0, vi ((61 : Int32) + (I 56 0 1))]) (st' := [vi ((I 10 0 24)).toInt16.toInt32, vi ((61 : Int32) + (I 56 0 1)), vr 57 0]) (h' := (101, I, J, R0 b)) 13 rfl ?_
  refine WP.step (pc' := 21) (L' := [vr 10 0, vi ((61 : Int32) + (I 56 0 1))]) (st' := []) (h' := (101, (updI I 57 0 ((61 : Int32) + (I 56 0 1)).toNatClampNeg (((I 10 0 24)).toInt16.toInt32).toInt16.toInt32), J, R0 b)) rfl (sastore_ok (n := 122) rfl rfl rfl (inA_of h.1)) ?_
  have h := And.right h
  refine WP.blk (pc' := 22) (L' := [vr 10 0, vi ((61 : Int32) + (I 56 0 1))]) (st' := [vr 10 0]) (h' := (101, (updI I 57 0 ((61 : Int32) + (I 56 0 1)).toNatClampNeg (((I 10 0 24)).toInt16.toInt32).toInt16.toInt32), J, R0 b)) 1 rfl ?_
  refine WP.cal (y' := 162) (as := [vr 10 0]) (L' := [vr 10 0, vi ((61 : Int32) + (I 56 0 1))]) (rest := []) rfl (fun f r h' hf => callV_ok hf rfl rfl rfl) h ?_
  rintro _ _ ⟨I2, J3, rfl, rfl, h⟩
  refine WP.blk (pc' := 29) (L' := [vr 10 0, vi ((61 : Int32) + (I 56 0 1))]) (st' := [vi (I2 10 0 22)]) (h' := (101, I2, J3, R0 b)) 2 rfl ?_
  refine WP.if_ge (t := 66) (L' := [vr 10 0, vi ((61 : Int32) + (I 56 0 1))]) rfl rfl rfl rfl h (fun h => ?_) (fun h => ?_)
  · refine WP.blk (pc' := 76) (L' := [vr 10 0, vi ((61 : Int32) + (I 56 0 1))]) (st' := [vi ((I2 10 0 24)).toInt16.toInt32, vi ((61 : Int32) + (I 56 0 1)), vr 58 0]) (h' := (101, I2, J3, R0 b)) 6 rfl ?_
    refine WP.step (pc' := 77) (L' := [vr 10 0, vi ((61 : Int32) + (I 56 0 1))]) (st' := []) (h' := (101, (updI I2 58 0 ((61 : Int32) + (I 56 0 1)).toNatClampNeg (((I2 10 0 24)).toInt16.toInt32).toInt16.toInt32), J3, R0 b)) rfl (sastore_ok (n := 122) rfl rfl rfl (inA_of h.1)) ?_
    have h := And.right h
    refine WP.blk (pc' := 87) (L' := [vr 10 0, vi ((61 : Int32) + (I 56 0 1))]) (st' := []) (h' := (101, (updI (updI I2 58 0 ((61 : Int32) + (I 56 0 1)).toNatClampNeg (((I2 10 0 24)).toInt16.toInt32).toInt16.toInt32) 56 0 1 ((I2 56 0 1) + (1 : Int32))), J3, R0 b)) 8 rfl ?_
    exact WP.ret rfl rfl h
  · refine WP.blk (pc' := 33) (L' := [vr 10 0, vi ((61 : Int32) + (I 56 0 1))]) (st' := [vr 10 0]) (h' := (101, I2, J3, R0 b)) 1 rfl ?_
    refine WP.cal (y' := 151) (as := [vr 10 0]) (L' := [vr 10 0, vi ((61 : Int32) + (I 56 0 1))]) (rest := []) rfl (fun f r h' hf => callV_ok hf rfl rfl rfl) h ?_
    rintro _ _ ⟨x4, I5, J6, rfl, rfl, h⟩
    refine WP.blk (pc' := 38) (L' := [vr 10 0, vi ((61 : Int32) + (I 56 0 1))]) (st' := [vi 63, vi x4]) (h' := (101, I5, J6, R0 b)) 1 rfl ?_
    refine WP.icmp_ne (t := 66) (L' := [vr 10 0, vi ((61 : Int32) + (I 56 0 1))]) rfl rfl rfl rfl h (fun h => ?_) (fun h => ?_)
    · refine WP.blk (pc' := 76) (L' := [vr 10 0, vi ((61 : Int32) + (I 56 0 1))]) (st' := [vi ((I5 10 0 24)).toInt16.toInt32, vi ((61 : Int32) + (I 56 0 1)), vr 58 0]) (h' := (101, I5, J6, R0 b)) 6 rfl ?_
      refine WP.step (pc' := 77) (L' := [vr 10 0, vi ((61 : Int32) + (I 56 0 1))]) (st' := []) (h' := (101, (updI I5 58 0 ((61 : Int32) + (I 56 0 1)).toNatClampNeg (((I5 10 0 24)).toInt16.toInt32).toInt16.toInt32), J6, R0 b)) rfl (sastore_ok (n := 122) rfl rfl rfl (inA_of h.1)) ?_
      have h := And.right h
      refine WP.blk (pc' := 87) (L' := [vr 10 0, vi ((61 : Int32) + (I 56 0 1))]) (st' := []) (h' := (101, (updI (updI I5 58 0 ((61 : Int32) + (I 56 0 1)).toNatClampNeg (((I5 10 0 24)).toInt16.toInt32).toInt16.toInt32) 56 0 1 ((I5 56 0 1) + (1 : Int32))), J6, R0 b)) 8 rfl ?_
      exact WP.ret rfl rfl h
    · refine WP.blk (pc' := 61) (L' := [vr 10 0, vi ((61 : Int32) + (I 56 0 1))]) (st' := [vi ((I5 10 0 24)).toInt16.toInt32, vi ((61 : Int32) + (I 56 0 1)), vr 57 0]) (h' := (101, (updI I5 10 0 21 ((I5 10 0 21) + (1 : Int32))), J6, R0 b)) 12 rfl ?_
      refine WP.step (pc' := 62) (L' := [vr 10 0, vi ((61 : Int32) + (I 56 0 1))]) (st' := []) (h' := (101, (updI (updI I5 10 0 21 ((I5 10 0 21) + (1 : Int32))) 57 0 ((61 : Int32) + (I 56 0 1)).toNatClampNeg (((I5 10 0 24)).toInt16.toInt32).toInt16.toInt32), J6, R0 b)) rfl (sastore_ok (n := 122) rfl rfl rfl (inA_of h.1)) ?_
      have h := And.right h
      refine WP.blk (pc' := 63) (L' := [vr 10 0, vi ((61 : Int32) + (I 56 0 1))]) (st' := [vr 10 0]) (h' := (101, (updI (updI I5 10 0 21 ((I5 10 0 21) + (1 : Int32))) 57 0 ((61 : Int32) + (I 56 0 1)).toNatClampNeg (((I5 10 0 24)).toInt16.toInt32).toInt16.toInt32), J6, R0 b)) 1 rfl ?_
      refine WP.cal (y' := 162) (as := [vr 10 0]) (L' := [vr 10 0, vi ((61 : Int32) + (I 56 0 1))]) (rest := []) rfl (fun f r h' hf => callV_ok hf rfl rfl rfl) h ?_
      rintro _ _ ⟨I8, J9, rfl, rfl, h⟩
      refine WP.blk (pc' := 76) (L' := [vr 10 0, vi ((61 : Int32) + (I 56 0 1))]) (st' := [vi ((I8 10 0 24)).toInt16.toInt32, vi ((61 : Int32) + (I 56 0 1)), vr 58 0]) (h' := (101, I8, J9, R0 b)) 6 rfl ?_
      refine WP.step (pc' := 77) (L' := [vr 10 0, vi ((61 : Int32) + (I 56 0 1))]) (st' := []) (h' := (101, (updI I8 58 0 ((61 : Int32) + (I 56 0 1)).toNatClampNeg (((I8 10 0 24)).toInt16.toInt32).toInt16.toInt32), J9, R0 b)) rfl (sastore_ok (n := 122) rfl rfl rfl (inA_of h.1)) ?_
      have h := And.right h
      refine WP.blk (pc' := 87) (L' := [vr 10 0, vi ((61 : Int32) + (I 56 0 1))]) (st' := []) (h' := (101, (updI (updI I8 58 0 ((61 : Int32) + (I 56 0 1)).toNatClampNeg (((I8 10 0 24)).toInt16.toInt32).toInt16.toInt32) 56 0 1 ((I8 56 0 1) + (1 : Int32))), J9, R0 b)) 8 rfl ?_
      exact WP.ret rfl rfl h
set_option maxRecDepth 20000 in
theorem t_X10_readText {D : Nat} (l1 : Int32) (I : IM) (J : JM) (b : Bool) {Q : Option AV → AH → Prop} (h : (Call D 163 [vr 10 0] (101, (updI (updI (updI (updI (updI I 10 0 21 0) 10 0 22 (-1)) 10 0 23 0) 10 0 24 0) 56 0 1 0), J, R0 b) (RVf b fun I2 J3 => WP D 164 31 [vr 10 0, vi l1, vn] [] (101, I2, J3, R0 b) Q))) : Call (D + 1) 164 [vr 10 0, vi l1] (101, I, J, R0 b) Q := by
  refine Call.of rfl ?_
  show WP D 164 0 [vr 10 0, vi l1, vn] [] (101, I, J, R0 b) Q
  refine WP.blk (pc' := 28) (L' := [vr 10 0, vi l1, vn]) (st' := [vr 10 0]) (h' := (101, (updI (updI (updI (updI (updI I 10 0 21 0) 10 0 22 (-1)) 10 0 23 0) 10 0 24 0) 56 0 1 0), J, R0 b)) 18 rfl ?_
  refine WP.cal (y' := 163) (as := [vr 10 0]) (L' := [vr 10 0, vi l1, vn]) (rest := []) rfl (fun f r h' hf => callV_ok hf rfl rfl rfl) h ?_
  rintro _ _ ⟨I2, J3, rfl, rfl, h⟩
  exact WP.mask rfl rfl h
set_option maxRecDepth 20000 in
theorem t_X10_readText_31 {D : Nat} (l1 : Int32) (I : IM) (J : JM) (b : Bool) {Q : Option AV → AH → Prop} (h : (if 0 ≤ (I 10 0 22) then (if 0 ≤ (I 10 0 22) then (if (I 10 0 22) < 0 then WP D 164 105 [vr 10 0, vi l1, vi 0] [] (101, (updI I 10 0 20 0), J, R0 b) Q else Q (some (vi (I 10 0 22))) (101, (updI I 10 0 20 0), J, R0 b)) else (if (I 10 0 20) ≤ (I 10 0 21) then (if (I 10 0 22) < 0 then WP D 164 105 [vr 10 0, vi l1, vi 0] [] (101, (updI I 10 0 20 0), J, R0 b) Q else Q (some (vi (I 10 0 22))) (101, (updI I 10 0 20 0), J, R0 b)) else (Call D 152 [vr 10 0] (101, I, J, R0 b) (RVf b fun I5 J6 => (if (I5 10 0 22) < 0 then WP D 164 105 [vr 10 0, vi l1, vi 0] [] (101, (updI I5 10 0 20 0), J6, R0 b) Q else Q (some (vi (I5 10 0 22))) (101, (updI I5 10 0 20 0), J6, R0 b)))))) else (Call D 151 [vr 10 0] (101, I, J, R0 b) (RIf b fun x7 I8 J9 => (if ¬ x7 = (59 : Int32) then (if 0 ≤ (I8 10 0 22) then (if (I8 10 0 22) < 0 then WP D 164 105 [vr 10 0, vi l1, vi 0] [] (101, (updI I8 10 0 20 0), J9, R0 b) Q else Q (some (vi (I8 10 0 22))) (101, (updI I8 10 0 20 0), J9, R0 b)) else (if (I8 10 0 20) ≤ (I8 10 0 21) then (if (I8 10 0 22) < 0 then WP D 164 105 [vr 10 0, vi l1, vi 0] [] (101, (updI I8 10 0 20 0), J9, R0 b) Q else Q (some (vi (I8 10 0 22))) (101, (updI I8 10 0 20 0), J9, R0 b)) else (Call D 152 [vr 10 0] (101, I8, J9, R0 b) (RVf b fun I11 J12 => (if (I11 10 0 22) < 0 then WP D 164 105 [vr 10 0, vi l1, vi 0] [] (101, (updI I11 10 0 20 0), J12, R0 b) Q else Q (some (vi (I11 10 0 22))) (101, (updI I11 10 0 20 0), J12, R0 b)))))) else (Call D 163 [vr 10 0] (101, (updI I8 10 0 21 ((I8 10 0 21) + (1 : Int32))), J9, R0 b) (RVf b fun I14 J15 => WP D 164 31 [vr 10 0, vi l1, vn] [] (101, I14, J15, R0 b) Q))))))) : WP D 164 31 [vr 10 0, vi l1, vn] [] (101, I, J, R0 b) Q := by
  refine WP.blk (pc' := 35) (L' := [vr 10 0, vi l1, vn]) (st' := [vi (I 10 0 22)]) (h' := (101, I, J, R0 b)) 2 rfl ?_
  refine WP.if_ge (t := 64) (L' := [vr 10 0, vi l1, vn]) rfl rfl rfl rfl h (fun h => ?_) (fun h => ?_)
  · refine WP.blk (pc' := 68) (L' := [vr 10 0, vi l1, vn]) (st' := [vi (I 10 0 22)]) (h' := (101, I, J, R0 b)) 2 rfl ?_
    refine WP.if_ge (t := 86) (L' := [vr 10 0, vi l1, vn]) rfl rfl rfl rfl h (fun h => ?_) (fun h => ?_)
    · refine WP.blk (pc' := 95) (L' := [vr 10 0, vi l1, vn]) (st' := [vi (I 10 0 22)]) (h' := (101, (updI I 10 0 20 0), J, R0 b)) 5 rfl ?_
      refine WP.if_lt (t := 103) (L' := [vr 10 0, vi l1, vn]) rfl rfl rfl rfl h (fun h => ?_) (fun h => ?_)
      · refine WP.blk (pc' := 105) (L' := [vr 10 0, vi l1, vi 0]) (st' := []) (h' := (101, (updI I 10 0 20 0), J, R0 b)) 2 rfl ?_
        exact WP.mask rfl rfl h
      · refine WP.blk (pc' := 102) (L' := [vr 10 0, vi l1, vn]) (st' := [vi (I 10 0 22)]) (h' := (101, (updI I 10 0 20 0), J, R0 b)) 2 rfl ?_
        exact WP.ret rfl rfl h
    · refine WP.blk (pc' := 79) (L' := [vr 10 0, vi l1, vn]) (st' := [vi (I 10 0 20), vi (I 10 0 21)]) (h' := (101, I, J, R0 b)) 4 rfl ?_
      refine WP.icmp_ge (t := 86) (L' := [vr 10 0, vi l1, vn]) rfl rfl rfl rfl h (fun h => ?_) (fun h => ?_)
      · refine WP.blk (pc' := 95) (L' := [vr 10 0, vi l1, vn]) (st' := [vi (I 10 0 22)]) (h' := (101, (updI I 10 0 20 0), J, R0 b)) 5 rfl ?_
        refine WP.if_lt (t := 103) (L' := [vr 10 0, vi l1, vn]) rfl rfl rfl rfl h (fun h => ?_) (fun h => ?_)
        · refine WP.blk (pc' := 105) (L' := [vr 10 0, vi l1, vi 0]) (st' := []) (h' := (101, (updI I 10 0 20 0), J, R0 b)) 2 rfl ?_
          exact WP.mask rfl rfl h
        · refine WP.blk (pc' := 102) (L' := [vr 10 0, vi l1, vn]) (st' := [vi (I 10 0 22)]) (h' := (101, (updI I 10 0 20 0), J, R0 b)) 2 rfl ?_
          exact WP.ret rfl rfl h
      · refine WP.blk (pc' := 83) (L' := [vr 10 0, vi l1, vn]) (st' := [vr 10 0]) (h' := (101, I, J, R0 b)) 1 rfl ?_
        refine WP.cal (y' := 152) (as := [vr 10 0]) (L' := [vr 10 0, vi l1, vn]) (rest := []) rfl (fun f r h' hf => callV_ok hf rfl rfl rfl) h ?_
        rintro _ _ ⟨I5, J6, rfl, rfl, h⟩
        refine WP.blk (pc' := 95) (L' := [vr 10 0, vi l1, vn]) (st' := [vi (I5 10 0 22)]) (h' := (101, (updI I5 10 0 20 0), J6, R0 b)) 5 rfl ?_
        refine WP.if_lt (t := 103) (L' := [vr 10 0, vi l1, vn]) rfl rfl rfl rfl h (fun h => ?_) (fun h => ?_)
        · refine WP.blk (pc' := 105) (L' := [vr 10 0, vi l1, vi 0]) (st' := []) (h' := (101, (updI I5 10 0 20 0), J6, R0 b)) 2 rfl ?_
          exact WP.mask rfl rfl h
        · refine WP.blk (pc' := 102) (L' := [vr 10 0, vi l1, vn]) (st' := [vi (I5 10 0 22)]) (h' := (101, (updI I5 10 0 20 0), J6, R0 b)) 2 rfl ?_
          exact WP.ret rfl rfl h
  · refine WP.blk (pc' := 39) (L' := [vr 10 0, vi l1, vn]) (st' := [vr 10 0]) (h' := (101, I, J, R0 b)) 1 rfl ?_
    refine WP.cal (y' := 151) (as := [vr 10 0]) (L' := [vr 10 0, vi l1, vn]) (rest := []) rfl (fun f r h' hf => callV_ok hf rfl rfl rfl) h ?_
    rintro _ _ ⟨x7, I8, J9, rfl, rfl, h⟩
    refine WP.blk (pc' := 44) (L' := [vr 10 0, vi l1, vn]) (st' := [vi 59, vi x7]) (h' := (101, I8, J9, R0 b)) 1 rfl ?_
    refine WP.icmp_ne (t := 64) (L' := [vr 10 0, vi l1, vn]) rfl rfl rfl rfl h (fun h => ?_) (fun h => ?_)
    · refine WP.blk (pc' := 68) (L' := [vr 10 0, vi l1, vn]) (st' := [vi (I8 10 0 22)]) (h' := (101, I8, J9, R0 b)) 2 rfl ?_
      refine WP.if_ge (t := 86) (L' := [vr 10 0, vi l1, vn]) rfl rfl rfl rfl h (fun h => ?_) (fun h => ?_)
      · refine WP.blk (pc' := 95) (L' := [vr 10 0, vi l1, vn]) (st' := [vi (I8 10 0 22)]) (h' := (101, (updI I8 10 0 20 0), J9, R0 b)) 5 rfl ?_
        refine WP.if_lt (t := 103) (L' := [vr 10 0, vi l1, vn]) rfl rfl rfl rfl h (fun h => ?_) (fun h => ?_)
        · refine WP.blk (pc' := 105) (L' := [vr 10 0, vi l1, vi 0]) (st' := []) (h' := (101, (updI I8 10 0 20 0), J9, R0 b)) 2 rfl ?_
          exact WP.mask rfl rfl h
        · refine WP.blk (pc' := 102) (L' := [vr 10 0, vi l1, vn]) (st' := [vi (I8 10 0 22)]) (h' := (101, (updI I8 10 0 20 0), J9, R0 b)) 2 rfl ?_
          exact WP.ret rfl rfl h
      · refine WP.blk (pc' := 79) (L' := [vr 10 0, vi l1, vn]) (st' := [vi (I8 10 0 20), vi (I8 10 0 21)]) (h' := (101, I8, J9, R0 b)) 4 rfl ?_
        refine WP.icmp_ge (t := 86) (L' := [vr 10 0, vi l1, vn]) rfl rfl rfl rfl h (fun h => ?_) (fun h => ?_)
        · refine WP.blk (pc' := 95) (L' := [vr 10 0, vi l1, vn]) (st' := [vi (I8 10 0 22)]) (h' := (101, (updI I8 10 0 20 0), J9, R0 b)) 5 rfl ?_
          refine WP.if_lt (t := 103) (L' := [vr 10 0, vi l1, vn]) rfl rfl rfl rfl h (fun h => ?_) (fun h => ?_)
          · refine WP.blk (pc' := 105) (L' := [vr 10 0, vi l1, vi 0]) (st' := []) (h' := (101, (updI I8 10 0 20 0), J9, R0 b)) 2 rfl ?_
            exact WP.mask rfl rfl h
          · refine WP.blk (pc' := 102) (L' := [vr 10 0, vi l1, vn]) (st' := [vi (I8 10 0 22)]) (h' := (101, (updI I8 10 0 20 0), J9, R0 b)) 2 rfl ?_
            exact WP.ret rfl rfl h
        · refine WP.blk (pc' := 83) (L' := [vr 10 0, vi l1, vn]) (st' := [vr 10 0]) (h' := (101, I8, J9, R0 b)) 1 rfl ?_
          refine WP.cal (y' := 152) (as := [vr 10 0]) (L' := [vr 10 0, vi l1, vn]) (rest := []) rfl (fun f r h' hf => callV_ok hf rfl rfl rfl) h ?_
          rintro _ _ ⟨I11, J12, rfl, rfl, h⟩
          refine WP.blk (pc' := 95) (L' := [vr 10 0, vi l1, vn]) (st' := [vi (I11 10 0 22)]) (h' := (101, (updI I11 10 0 20 0), J12, R0 b)) 5 rfl ?_
          refine WP.if_lt (t := 103) (L' := [vr 10 0, vi l1, vn]) rfl rfl rfl rfl h (fun h => ?_) (fun h => ?_)
          · refine WP.blk (pc' := 105) (L' := [vr 10 0, vi l1, vi 0]) (st' := []) (h' := (101, (updI I11 10 0 20 0), J12, R0 b)) 2 rfl ?_
            exact WP.mask rfl rfl h
          · refine WP.blk (pc' := 102) (L' := [vr 10 0, vi l1, vn]) (st' := [vi (I11 10 0 22)]) (h' := (101, (updI I11 10 0 20 0), J12, R0 b)) 2 rfl ?_
            exact WP.ret rfl rfl h
    · refine WP.blk (pc' := 58) (L' := [vr 10 0, vi l1, vn]) (st' := [vr 10 0]) (h' := (101, (updI I8 10 0 21 ((I8 10 0 21) + (1 : Int32))), J9, R0 b)) 7 rfl ?_
      refine WP.cal (y' := 163) (as := [vr 10 0]) (L' := [vr 10 0, vi l1, vn]) (rest := []) rfl (fun f r h' hf => callV_ok hf rfl rfl rfl) h ?_
      rintro _ _ ⟨I14, J15, rfl, rfl, h⟩
      refine WP.blk (pc' := 31) (L' := [vr 10 0, vi l1, vn]) (st' := []) (h' := (101, I14, J15, R0 b)) 1 rfl ?_
      exact WP.mask rfl rfl h
set_option maxRecDepth 20000 in
theorem t_X10_readText_105 {D : Nat} (l1 : Int32) (l2 : Int32) (I : IM) (J : JM) (b : Bool) {Q : Option AV → AH → Prop} (h : (if (I 10 0 24) ≤ l2 then (vp_in l1 2 ∧ WP D 164 177 [vr 10 0, vi l1, vi 0] [] (101, (updI I 56 0 l1.toNatClampNeg (I 56 0 1)), J, R0 b) Q) else (vp_in ((130 : Int32) + l2) 260 ∧ (vp_in (((130 : Int32) * l1) + l2) 260 ∧ (vp_in ((130 : Int32) + l2) 260 ∧ (vp_in (((130 : Int32) * l1) + l2) 260 ∧ WP D 164 105 [vr 10 0, vi l1, vi (l2 + 1)] [] (101, (updI (updI I 54 0 (((130 : Int32) * l1) + l2).toNatClampNeg ((I 54 0 ((130 : Int32) + l2).toNatClampNeg)).toInt8.toInt32) 55 0 (((130 : Int32) * l1) + l2).toNatClampNeg (I 55 0 ((130 : Int32) + l2).toNatClampNeg)), J, R0 b) Q)))))) : WP D 164 105 [vr 10 0, vi l1, vi l2] [] (101, I, J, R0 b) Q := by
  refine WP.blk (pc' := 110) (L' := [vr 10 0, vi l1, vi l2]) (st' := [vi (I 10 0 24), vi l2]) (h' := (101, I, J, R0 b)) 3 rfl ?_
  refine WP.icmp_ge (t := 163) (L' := [vr 10 0, vi l1, vi l2]) rfl rfl rfl rfl h (fun h => ?_) (fun h => ?_)
  · refine WP.blk (pc' := 174) (L' := [vr 10 0, vi l1, vi l2]) (st' := [vi (I 56 0 1), vi l1, vr 56 0]) (h' := (101, I, J, R0 b)) 7 rfl ?_
    refine WP.step (pc' := 175) (L' := [vr 10 0, vi l1, vi l2]) (st' := []) (h' := (101, (updI I 56 0 l1.toNatClampNeg (I 56 0 1)), J, R0 b)) rfl (iastore_ok (n := 2) rfl rfl rfl (inA_of h.1)) ?_
    have h := And.right h
    refine WP.blk (pc' := 177) (L' := [vr 10 0, vi l1, vi 0]) (st' := []) (h' := (101, (updI I 56 0 l1.toNatClampNeg (I 56 0 1)), J, R0 b)) 2 rfl ?_
    exact WP.mask rfl rfl h
  · refine WP.blk (pc' := 133) (L' := [vr 10 0, vi l1, vi l2]) (st' := [vi ((130 : Int32) + l2), vr 54 0, vi (((130 : Int32) * l1) + l2), vr 54 0]) (h' := (101, I, J, R0 b)) 12 rfl ?_
    refine WP.step (pc' := 134) (L' := [vr 10 0, vi l1, vi l2]) (st' := [vi (I 54 0 ((130 : Int32) + l2).toNatClampNeg), vi (((130 : Int32) * l1) + l2), vr 54 0]) (h' := (101, I, J, R0 b)) rfl (baload_ok (n := 260) rfl rfl rfl (inA_of h.1)) ?_
    have h := And.right h
    refine WP.step (pc' := 135) (L' := [vr 10 0, vi l1, vi l2]) (st' := []) (h' := (101, (updI I 54 0 (((130 : Int32) * l1) + l2).toNatClampNeg ((I 54 0 ((130 : Int32) + l2).toNatClampNeg)).toInt8.toInt32), J, R0 b)) rfl (bastore_ok (n := 260) rfl rfl rfl (inA_of h.1)) ?_
    have h := And.right h
    refine WP.blk (pc' := 155) (L' := [vr 10 0, vi l1, vi l2]) (st' := [vi ((130 : Int32) + l2), vr 55 0, vi (((130 : Int32) * l1) + l2), vr 55 0]) (h' := (101, (updI I 54 0 (((130 : Int32) * l1) + l2).toNatClampNeg ((I 54 0 ((130 : Int32) + l2).toNatClampNeg)).toInt8.toInt32), J, R0 b)) 12 rfl ?_
    refine WP.step (pc' := 156) (L' := [vr 10 0, vi l1, vi l2]) (st' := [vi (I 55 0 ((130 : Int32) + l2).toNatClampNeg), vi (((130 : Int32) * l1) + l2), vr 55 0]) (h' := (101, (updI I 54 0 (((130 : Int32) * l1) + l2).toNatClampNeg ((I 54 0 ((130 : Int32) + l2).toNatClampNeg)).toInt8.toInt32), J, R0 b)) rfl (iaload_ok (n := 260) rfl rfl rfl (inA_of h.1)) ?_
    have h := And.right h
    refine WP.step (pc' := 157) (L' := [vr 10 0, vi l1, vi l2]) (st' := []) (h' := (101, (updI (updI I 54 0 (((130 : Int32) * l1) + l2).toNatClampNeg ((I 54 0 ((130 : Int32) + l2).toNatClampNeg)).toInt8.toInt32) 55 0 (((130 : Int32) * l1) + l2).toNatClampNeg (I 55 0 ((130 : Int32) + l2).toNatClampNeg)), J, R0 b)) rfl (iastore_ok (n := 260) rfl rfl rfl (inA_of h.1)) ?_
    have h := And.right h
    refine WP.blk (pc' := 105) (L' := [vr 10 0, vi l1, vi (l2 + 1)]) (st' := []) (h' := (101, (updI (updI I 54 0 (((130 : Int32) * l1) + l2).toNatClampNeg ((I 54 0 ((130 : Int32) + l2).toNatClampNeg)).toInt8.toInt32) 55 0 (((130 : Int32) * l1) + l2).toNatClampNeg (I 55 0 ((130 : Int32) + l2).toNatClampNeg)), J, R0 b)) 2 rfl ?_
    exact WP.mask rfl rfl h
set_option maxRecDepth 20000 in
theorem t_X10_readText_177 {D : Nat} (l1 : Int32) (l2 : Int32) (I : IM) (J : JM) (b : Bool) {Q : Option AV → AH → Prop} (h : (vp_in l1 2 ∧ (if (I 56 0 l1.toNatClampNeg) ≤ l2 then Q (some (vi (-1))) (101, I, J, R0 b) else (vp_in ((61 : Int32) + l2) 122 ∧ (vp_in (((61 : Int32) * l1) + l2) 122 ∧ (vp_in ((61 : Int32) + l2) 122 ∧ (vp_in (((61 : Int32) * l1) + l2) 122 ∧ WP D 164 177 [vr 10 0, vi l1, vi (l2 + 1)] [] (101, (updI (updI I 57 0 (((61 : Int32) * l1) + l2).toNatClampNeg ((I 57 0 ((61 : Int32) + l2).toNatClampNeg)).toInt16.toInt32) 58 0 (((61 : Int32) * l1) + l2).toNatClampNeg ((I 58 0 ((61 : Int32) + l2).toNatClampNeg)).toInt16.toInt32), J, R0 b) Q))))))) : WP D 164 177 [vr 10 0, vi l1, vi l2] [] (101, I, J, R0 b) Q := by
  refine WP.blk (pc' := 183) (L' := [vr 10 0, vi l1, vi l2]) (st' := [vi l1, vr 56 0, vi l2]) (h' := (101, I, J, R0 b)) 4 rfl ?_
  refine WP.step (pc' := 184) (L' := [vr 10 0, vi l1, vi l2]) (st' := [vi (I 56 0 l1.toNatClampNeg), vi l2]) (h' := (101, I, J, R0 b)) rfl (iaload_ok (n := 2) rfl rfl rfl (inA_of h.1)) ?_
  have h := And.right h
  refine WP.icmp_ge (t := 233) (L' := [vr 10 0, vi l1, vi l2]) rfl rfl rfl rfl h (fun h => ?_) (fun h => ?_)
  · refine WP.blk (pc' := 234) (L' := [vr 10 0, vi l1, vi l2]) (st' := [vi (-1)]) (h' := (101, I, J, R0 b)) 1 rfl ?_
    exact WP.ret rfl rfl h
  · refine WP.blk (pc' := 205) (L' := [vr 10 0, vi l1, vi l2]) (st' := [vi ((61 : Int32) + l2), vr 57 0, vi (((61 : Int32) * l1) + l2), vr 57 0]) (h' := (101, I, J, R0 b)) 12 rfl ?_
    refine WP.step (pc' := 206) (L' := [vr 10 0, vi l1, vi l2]) (st' := [vi (I 57 0 ((61 : Int32) + l2).toNatClampNeg), vi (((61 : Int32) * l1) + l2), vr 57 0]) (h' := (101, I, J, R0 b)) rfl (saload_ok (n := 122) rfl rfl rfl (inA_of h.1)) ?_
    have h := And.right h
    refine WP.step (pc' := 207) (L' := [vr 10 0, vi l1, vi l2]) (st' := []) (h' := (101, (updI I 57 0 (((61 : Int32) * l1) + l2).toNatClampNeg ((I 57 0 ((61 : Int32) + l2).toNatClampNeg)).toInt16.toInt32), J, R0 b)) rfl (sastore_ok (n := 122) rfl rfl rfl (inA_of h.1)) ?_
    have h := And.right h
    refine WP.blk (pc' := 225) (L' := [vr 10 0, vi l1, vi l2]) (st' := [vi ((61 : Int32) + l2), vr 58 0, vi (((61 : Int32) * l1) + l2), vr 58 0]) (h' := (101, (updI I 57 0 (((61 : Int32) * l1) + l2).toNatClampNeg ((I 57 0 ((61 : Int32) + l2).toNatClampNeg)).toInt16.toInt32), J, R0 b)) 12 rfl ?_
    refine WP.step (pc' := 226) (L' := [vr 10 0, vi l1, vi l2]) (st' := [vi (I 58 0 ((61 : Int32) + l2).toNatClampNeg), vi (((61 : Int32) * l1) + l2), vr 58 0]) (h' := (101, (updI I 57 0 (((61 : Int32) * l1) + l2).toNatClampNeg ((I 57 0 ((61 : Int32) + l2).toNatClampNeg)).toInt16.toInt32), J, R0 b)) rfl (saload_ok (n := 122) rfl rfl rfl (inA_of h.1)) ?_
    have h := And.right h
    refine WP.step (pc' := 227) (L' := [vr 10 0, vi l1, vi l2]) (st' := []) (h' := (101, (updI (updI I 57 0 (((61 : Int32) * l1) + l2).toNatClampNeg ((I 57 0 ((61 : Int32) + l2).toNatClampNeg)).toInt16.toInt32) 58 0 (((61 : Int32) * l1) + l2).toNatClampNeg ((I 58 0 ((61 : Int32) + l2).toNatClampNeg)).toInt16.toInt32), J, R0 b)) rfl (sastore_ok (n := 122) rfl rfl rfl (inA_of h.1)) ?_
    have h := And.right h
    refine WP.blk (pc' := 177) (L' := [vr 10 0, vi l1, vi (l2 + 1)]) (st' := []) (h' := (101, (updI (updI I 57 0 (((61 : Int32) * l1) + l2).toNatClampNeg ((I 57 0 ((61 : Int32) + l2).toNatClampNeg)).toInt16.toInt32) 58 0 (((61 : Int32) * l1) + l2).toNatClampNeg ((I 58 0 ((61 : Int32) + l2).toNatClampNeg)).toInt16.toInt32), J, R0 b)) 2 rfl ?_
    exact WP.mask rfl rfl h
set_option maxRecDepth 20000 in
theorem t_X10_twoOf {D : Nat} (l0 : Int32) (l1 : Int32) (l2 : Int32) (I : IM) (J : JM) (b : Bool) {Q : Option AV → AH → Prop} (h : (if l0 = 37 then (if l2 = 0 then Q (some (vi 0)) (101, I, J, R0 b) else (if ¬ l2 = (-1 : Int32) then (¬ l2 = 0 ∧ Q (some (vi (l1 - l1 / l2 * l2))) (101, I, J, R0 b)) else Q (some (vi 0)) (101, I, J, R0 b))) else (if l0 = 38 then (if l1 = 0 then Q (some (vi 0)) (101, I, J, R0 b) else (if l2 = 0 then Q (some (vi 0)) (101, I, J, R0 b) else Q (some (vi 1)) (101, I, J, R0 b))) else (if l0 = 39 then (if ¬ l1 = 0 then Q (some (vi 1)) (101, I, J, R0 b) else (if l2 = 0 then Q (some (vi 0)) (101, I, J, R0 b) else Q (some (vi 1)) (101, I, J, R0 b))) else (if l0 = 40 then (if ¬ l1 = 0 then Q (some (vi 1)) (101, I, J, R0 b) else (if l2 = 0 then Q (some (vi 0)) (101, I, J, R0 b) else Q (some (vi 1)) (101, I, J, R0 b))) else (if l0 = 41 then (if ¬ l1 = 0 then Q (some (vi 1)) (101, I, J, R0 b) else (if l2 = 0 then Q (some (vi 0)) (101, I, J, R0 b) else Q (some (vi 1)) (101, I, J, R0 b))) else (if l0 = 42 then Q (some (vi (l1 * l2))) (101, I, J, R0 b) else (if l0 = 43 then Q (some (vi (l1 + l2))) (101, I, J, R0 b) else (if l0 = 44 then (if ¬ l1 = 0 then Q (some (vi 1)) (101, I, J, R0 b) else (if l2 = 0 then Q (some (vi 0)) (101, I, J, R0 b) else Q (some (vi 1)) (101, I, J, R0 b))) else (if l0 = 45 then Q (some (vi (l1 - l2))) (101, I, J, R0 b) else (if l0 = 46 then (if ¬ l1 = 0 then Q (some (vi 1)) (101, I, J, R0 b) else (if l2 = 0 then Q (some (vi 0)) (101, I, J, R0 b) else Q (some (vi 1)) (101, I, J, R0 b))) else (if l0 = 47 then (if ¬ l2 = 0 then (if ¬ l2 = (-1 : Int32) then (¬ l2 = 0 ∧ Q (some (vi (l1 / l2))) (101, I, J, R0 b)) else Q (some (vi (-l1))) (101, I, J, R0 b)) else Q (some (vi 0)) (101, I, J, R0 b)) else (if l0 = 48 then (if ¬ l1 = 0 then Q (some (vi 1)) (101, I, J, R0 b) else (if l2 = 0 then Q (some (vi 0)) (101, I, J, R0 b) else Q (some (vi 1)) (101, I, J, R0 b))) else (if l0 = 49 then (if ¬ l1 = 0 then Q (some (vi 1)) (101, I, J, R0 b) else (if l2 = 0 then Q (some (vi 0)) (101, I, J, R0 b) else Q (some (vi 1)) (101, I, J, R0 b))) else (if l0 = 50 then (if ¬ l1 = 0 then Q (some (vi 1)) (101, I, J, R0 b) else (if l2 = 0 then Q (some (vi 0)) (101, I, J, R0 b) else Q (some (vi 1)) (101, I, J, R0 b))) else (if l0 = 51 then (if ¬ l1 = 0 then Q (some (vi 1)) (101, I, J, R0 b) else (if l2 = 0 then Q (some (vi 0)) (101, I, J, R0 b) else Q (some (vi 1)) (101, I, J, R0 b))) else (if l0 = 52 then (if ¬ l1 = 0 then Q (some (vi 1)) (101, I, J, R0 b) else (if l2 = 0 then Q (some (vi 0)) (101, I, J, R0 b) else Q (some (vi 1)) (101, I, J, R0 b))) else (if l0 = 53 then (if ¬ l1 = 0 then Q (some (vi 1)) (101, I, J, R0 b) else (if l2 = 0 then Q (some (vi 0)) (101, I, J, R0 b) else Q (some (vi 1)) (101, I, J, R0 b))) else (if l0 = 54 then (if ¬ l1 = 0 then Q (some (vi 1)) (101, I, J, R0 b) else (if l2 = 0 then Q (some (vi 0)) (101, I, J, R0 b) else Q (some (vi 1)) (101, I, J, R0 b))) else (if l0 = 55 then (if ¬ l1 = 0 then Q (some (vi 1)) (101, I, J, R0 b) else (if l2 = 0 then Q (some (vi 0)) (101, I, J, R0 b) else Q (some (vi 1)) (101, I, J, R0 b))) else (if l0 = 56 then (if ¬ l1 = 0 then Q (some (vi 1)) (101, I, J, R0 b) else (if l2 = 0 then Q (some (vi 0)) (101, I, J, R0 b) else Q (some (vi 1)) (101, I, J, R0 b))) else (if l0 = 57 then (if ¬ l1 = 0 then Q (some (vi 1)) (101, I, J, R0 b) else (if l2 = 0 then Q (some (vi 0)) (101, I, J, R0 b) else Q (some (vi 1)) (101, I, J, R0 b))) else (if l0 = 58 then (if ¬ l1 = 0 then Q (some (vi 1)) (101, I, J, R0 b) else (if l2 = 0 then Q (some (vi 0)) (101, I, J, R0 b) else Q (some (vi 1)) (101, I, J, R0 b))) else (if l0 = 59 then (if ¬ l1 = 0 then Q (some (vi 1)) (101, I, J, R0 b) else (if l2 = 0 then Q (some (vi 0)) (101, I, J, R0 b) else Q (some (vi 1)) (101, I, J, R0 b))) else (if l0 = 60 then (if l2 ≤ l1 then Q (some (vi 0)) (101, I, J, R0 b) else Q (some (vi 1)) (101, I, J, R0 b)) else (if l0 = 61 then (if ¬ l1 = l2 then Q (some (vi 0)) (101, I, J, R0 b) else Q (some (vi 1)) (101, I, J, R0 b)) else (if l0 = 62 then (if l1 ≤ l2 then Q (some (vi 0)) (101, I, J, R0 b) else Q (some (vi 1)) (101, I, J, R0 b)) else (if ¬ l1 = 0 then Q (some (vi 1)) (101, I, J, R0 b) else (if l2 = 0 then Q (some (vi 0)) (101, I, J, R0 b) else Q (some (vi 1)) (101, I, J, R0 b)))))))))))))))))))))))))))))) : Call (D + 1) 165 [vi l0, vi l1, vi l2] (101, I, J, R0 b) Q := by
  refine Call.of rfl ?_
  show WP D 165 0 [vi l0, vi l1, vi l2] [] (101, I, J, R0 b) Q
  refine WP.blk (pc' := 1) (L' := [vi l0, vi l1, vi l2]) (st' := [vi l0]) (h' := (101, I, J, R0 b)) 1 rfl ?_
  refine WP.step (pc' := swf [(37, 154), (38, 204), (39, 218), (40, 218), (41, 218), (42, 128), (43, 120), (44, 218), (45, 124), (46, 218), (47, 132), (48, 218), (49, 218), (50, 218), (51, 218), (52, 218), (53, 218), (54, 218), (55, 218), (56, 218), (57, 218), (58, 218), (59, 218), (60, 171), (61, 182), (62, 193)] 218 l0) (L' := [vi l0, vi l1, vi l2]) (st' := []) (h' := (101, I, J, R0 b)) rfl rfl ?_
  refine WP.ite (c := l0 = 37) (pc1 := 154) (pc2 := swf [(38, 204), (39, 218), (40, 218), (41, 218), (42, 128), (43, 120), (44, 218), (45, 124), (46, 218), (47, 132), (48, 218), (49, 218), (50, 218), (51, 218), (52, 218), (53, 218), (54, 218), (55, 218), (56, 218), (57, 218), (58, 218), (59, 218), (60, 171), (61, 182), (62, 193)] 218 l0) h (fun h => ?_) (fun h => ?_)
  · refine WP.blk (pc' := 155) (L' := [vi l0, vi l1, vi l2]) (st' := [vi l2]) (h' := (101, I, J, R0 b)) 1 rfl ?_
    refine WP.if_eq (t := 163) (L' := [vi l0, vi l1, vi l2]) rfl rfl rfl rfl h (fun h => ?_) (fun h => ?_)
    · refine WP.blk (pc' := 170) (L' := [vn, vn, vn]) (st' := [vi 0]) (h' := (101, I, J, R0 b)) 2 rfl ?_
      exact WP.ret rfl rfl h
    · refine WP.blk (pc' := 160) (L' := [vi l0, vi l1, vi l2]) (st' := [vi (-1), vi l2]) (h' := (101, I, J, R0 b)) 2 rfl ?_
      refine WP.icmp_ne (t := 167) (L' := [vi l0, vi l1, vi l2]) rfl rfl rfl rfl h (fun h => ?_) (fun h => ?_)
      · refine WP.blk (pc' := 169) (L' := [vi l0, vi l1, vi l2]) (st' := [vi l2, vi l1]) (h' := (101, I, J, R0 b)) 2 rfl ?_
        refine WP.g2 (pc' := 170) (L' := [vi l0, vi l1, vi l2]) (st' := [vi (l1 - l1 / l2 * l2)]) (h' := (101, I, J, R0 b)) (b := !(decide (l2 = 0))) rfl (not_dec h.1) rfl ?_
        have h := And.right h
        exact WP.ret rfl rfl h
      · refine WP.blk (pc' := 170) (L' := [vn, vn, vn]) (st' := [vi 0]) (h' := (101, I, J, R0 b)) 2 rfl ?_
        exact WP.ret rfl rfl h
  · refine WP.ite (c := l0 = 38) (pc1 := 204) (pc2 := swf [(39, 218), (40, 218), (41, 218), (42, 128), (43, 120), (44, 218), (45, 124), (46, 218), (47, 132), (48, 218), (49, 218), (50, 218), (51, 218), (52, 218), (53, 218), (54, 218), (55, 218), (56, 218), (57, 218), (58, 218), (59, 218), (60, 171), (61, 182), (62, 193)] 218 l0) h (fun h => ?_) (fun h => ?_)
    · refine WP.blk (pc' := 205) (L' := [vi l0, vi l1, vi l2]) (st' := [vi l1]) (h' := (101, I, J, R0 b)) 1 rfl ?_
      refine WP.if_eq (t := 216) (L' := [vi l0, vi l1, vi l2]) rfl rfl rfl rfl h (fun h => ?_) (fun h => ?_)
      · refine WP.blk (pc' := 217) (L' := [vn, vn, vn]) (st' := [vi 0]) (h' := (101, I, J, R0 b)) 1 rfl ?_
        exact WP.ret rfl rfl h
      · refine WP.blk (pc' := 209) (L' := [vi l0, vi l1, vi l2]) (st' := [vi l2]) (h' := (101, I, J, R0 b)) 1 rfl ?_
        refine WP.if_eq (t := 216) (L' := [vi l0, vi l1, vi l2]) rfl rfl rfl rfl h (fun h => ?_) (fun h => ?_)
        · refine WP.blk (pc' := 217) (L' := [vn, vn, vn]) (st' := [vi 0]) (h' := (101, I, J, R0 b)) 1 rfl ?_
          exact WP.ret rfl rfl h
        · refine WP.blk (pc' := 217) (L' := [vi l0, vi l1, vi l2]) (st' := [vi 1]) (h' := (101, I, J, R0 b)) 2 rfl ?_
          exact WP.ret rfl rfl h
    · refine WP.ite (c := l0 = 39) (pc1 := 218) (pc2 := swf [(40, 218), (41, 218), (42, 128), (43, 120), (44, 218), (45, 124), (46, 218), (47, 132), (48, 218), (49, 218), (50, 218), (51, 218), (52, 218), (53, 218), (54, 218), (55, 218), (56, 218), (57, 218), (58, 218), (59, 218), (60, 171), (61, 182), (62, 193)] 218 l0) h (fun h => ?_) (fun h => ?_)
      · refine WP.blk (pc' := 219) (L' := [vi l0, vi l1, vi l2]) (st' := [vi l1]) (h' := (101, I, J, R0 b)) 1 rfl ?_
        refine WP.if_ne (t := 226) (L' := [vi l0, vi l1, vi l2]) rfl rfl rfl rfl h (fun h => ?_) (fun h => ?_)
        · refine WP.blk (pc' := 231) (L' := [vn, vn, vn]) (st' := [vi 1]) (h' := (101, I, J, R0 b)) 2 rfl ?_
          exact WP.ret rfl rfl h
        · refine WP.blk (pc' := 223) (L' := [vi l0, vi l1, vi l2]) (st' := [vi l2]) (h' := (101, I, J, R0 b)) 1 rfl ?_
          refine WP.if_eq (t := 230) (L' := [vi l0, vi l1, vi l2]) rfl rfl rfl rfl h (fun h => ?_) (fun h => ?_)
          · refine WP.blk (pc' := 231) (L' := [vi l0, vi l1, vi l2]) (st' := [vi 0]) (h' := (101, I, J, R0 b)) 1 rfl ?_
            exact WP.ret rfl rfl h
          · refine WP.blk (pc' := 231) (L' := [vn, vn, vn]) (st' := [vi 1]) (h' := (101, I, J, R0 b)) 2 rfl ?_
            exact WP.ret rfl rfl h
      · refine WP.ite (c := l0 = 40) (pc1 := 218) (pc2 := swf [(41, 218), (42, 128), (43, 120), (44, 218), (45, 124), (46, 218), (47, 132), (48, 218), (49, 218), (50, 218), (51, 218), (52, 218), (53, 218), (54, 218), (55, 218), (56, 218), (57, 218), (58, 218), (59, 218), (60, 171), (61, 182), (62, 193)] 218 l0) h (fun h => ?_) (fun h => ?_)
        · refine WP.blk (pc' := 219) (L' := [vi l0, vi l1, vi l2]) (st' := [vi l1]) (h' := (101, I, J, R0 b)) 1 rfl ?_
          refine WP.if_ne (t := 226) (L' := [vi l0, vi l1, vi l2]) rfl rfl rfl rfl h (fun h => ?_) (fun h => ?_)
          · refine WP.blk (pc' := 231) (L' := [vn, vn, vn]) (st' := [vi 1]) (h' := (101, I, J, R0 b)) 2 rfl ?_
            exact WP.ret rfl rfl h
          · refine WP.blk (pc' := 223) (L' := [vi l0, vi l1, vi l2]) (st' := [vi l2]) (h' := (101, I, J, R0 b)) 1 rfl ?_
            refine WP.if_eq (t := 230) (L' := [vi l0, vi l1, vi l2]) rfl rfl rfl rfl h (fun h => ?_) (fun h => ?_)
            · refine WP.blk (pc' := 231) (L' := [vi l0, vi l1, vi l2]) (st' := [vi 0]) (h' := (101, I, J, R0 b)) 1 rfl ?_
              exact WP.ret rfl rfl h
            · refine WP.blk (pc' := 231) (L' := [vn, vn, vn]) (st' := [vi 1]) (h' := (101, I, J, R0 b)) 2 rfl ?_
              exact WP.ret rfl rfl h
        · refine WP.ite (c := l0 = 41) (pc1 := 218) (pc2 := swf [(42, 128), (43, 120), (44, 218), (45, 124), (46, 218), (47, 132), (48, 218), (49, 218), (50, 218), (51, 218), (52, 218), (53, 218), (54, 218), (55, 218), (56, 218), (57, 218), (58, 218), (59, 218), (60, 171), (61, 182), (62, 193)] 218 l0) h (fun h => ?_) (fun h => ?_)
          · refine WP.blk (pc' := 219) (L' := [vi l0, vi l1, vi l2]) (st' := [vi l1]) (h' := (101, I, J, R0 b)) 1 rfl ?_
            refine WP.if_ne (t := 226) (L' := [vi l0, vi l1, vi l2]) rfl rfl rfl rfl h (fun h => ?_) (fun h => ?_)
            · refine WP.blk (pc' := 231) (L' := [vn, vn, vn]) (st' := [vi 1]) (h' := (101, I, J, R0 b)) 2 rfl ?_
              exact WP.ret rfl rfl h
            · refine WP.blk (pc' := 223) (L' := [vi l0, vi l1, vi l2]) (st' := [vi l2]) (h' := (101, I, J, R0 b)) 1 rfl ?_
              refine WP.if_eq (t := 230) (L' := [vi l0, vi l1, vi l2]) rfl rfl rfl rfl h (fun h => ?_) (fun h => ?_)
              · refine WP.blk (pc' := 231) (L' := [vi l0, vi l1, vi l2]) (st' := [vi 0]) (h' := (101, I, J, R0 b)) 1 rfl ?_
                exact WP.ret rfl rfl h
              · refine WP.blk (pc' := 231) (L' := [vn, vn, vn]) (st' := [vi 1]) (h' := (101, I, J, R0 b)) 2 rfl ?_
                exact WP.ret rfl rfl h
          · refine WP.ite (c := l0 = 42) (pc1 := 128) (pc2 := swf [(43, 120), (44, 218), (45, 124), (46, 218), (47, 132), (48, 218), (49, 218), (50, 218), (51, 218), (52, 218), (53, 218), (54, 218), (55, 218), (56, 218), (57, 218), (58, 218), (59, 218), (60, 171), (61, 182), (62, 193)] 218 l0) h (fun h => ?_) (fun h => ?_)
            · refine WP.blk (pc' := 131) (L' := [vi l0, vi l1, vi l2]) (st' := [vi (l1 * l2)]) (h' := (101, I, J, R0 b)) 3 rfl ?_
              exact WP.ret rfl rfl h
            · refine WP.ite (c := l0 = 43) (pc1 := 120) (pc2 := swf [(44, 218), (45, 124), (46, 218), (47, 132), (48, 218), (49, 218), (50, 218), (51, 218), (52, 218), (53, 218), (54, 218), (55, 218), (56, 218), (57, 218), (58, 218), (59, 218), (60, 171), (61, 182), (62, 193)] 218 l0) h (fun h => ?_) (fun h => ?_)
              · refine WP.blk (pc' := 123) (L' := [vi l0, vi l1, vi l2]) (st' := [vi (l1 + l2)]) (h' := (101, I, J, R0 b)) 3 rfl ?_
                exact WP.ret rfl rfl h
              · refine WP.ite (c := l0 = 44) (pc1 := 218) (pc2 := swf [(45, 124), (46, 218), (47, 132), (48, 218), (49, 218), (50, 218), (51, 218), (52, 218), (53, 218), (54, 218), (55, 218), (56, 218), (57, 218), (58, 218), (59, 218), (60, 171), (61, 182), (62, 193)] 218 l0) h (fun h => ?_) (fun h => ?_)
                · refine WP.blk (pc' := 219) (L' := [vi l0, vi l1, vi l2]) (st' := [vi l1]) (h' := (101, I, J, R0 b)) 1 rfl ?_
                  refine WP.if_ne (t := 226) (L' := [vi l0, vi l1, vi l2]) rfl rfl rfl rfl h (fun h => ?_) (fun h => ?_)
                  · refine WP.blk (pc' := 231) (L' := [vn, vn, vn]) (st' := [vi 1]) (h' := (101, I, J, R0 b)) 2 rfl ?_
                    exact WP.ret rfl rfl h
                  · refine WP.blk (pc' := 223) (L' := [vi l0, vi l1, vi l2]) (st' := [vi l2]) (h' := (101, I, J, R0 b)) 1 rfl ?_
                    refine WP.if_eq (t := 230) (L' := [vi l0, vi l1, vi l2]) rfl rfl rfl rfl h (fun h => ?_) (fun h => ?_)
                    · refine WP.blk (pc' := 231) (L' := [vi l0, vi l1, vi l2]) (st' := [vi 0]) (h' := (101, I, J, R0 b)) 1 rfl ?_
                      exact WP.ret rfl rfl h
                    · refine WP.blk (pc' := 231) (L' := [vn, vn, vn]) (st' := [vi 1]) (h' := (101, I, J, R0 b)) 2 rfl ?_
                      exact WP.ret rfl rfl h
                · refine WP.ite (c := l0 = 45) (pc1 := 124) (pc2 := swf [(46, 218), (47, 132), (48, 218), (49, 218), (50, 218), (51, 218), (52, 218), (53, 218), (54, 218), (55, 218), (56, 218), (57, 218), (58, 218), (59, 218), (60, 171), (61, 182), (62, 193)] 218 l0) h (fun h => ?_) (fun h => ?_)
                  · refine WP.blk (pc' := 127) (L' := [vi l0, vi l1, vi l2]) (st' := [vi (l1 - l2)]) (h' := (101, I, J, R0 b)) 3 rfl ?_
                    exact WP.ret rfl rfl h
                  · refine WP.ite (c := l0 = 46) (pc1 := 218) (pc2 := swf [(47, 132), (48, 218), (49, 218), (50, 218), (51, 218), (52, 218), (53, 218), (54, 218), (55, 218), (56, 218), (57, 218), (58, 218), (59, 218), (60, 171), (61, 182), (62, 193)] 218 l0) h (fun h => ?_) (fun h => ?_)
                    · refine WP.blk (pc' := 219) (L' := [vi l0, vi l1, vi l2]) (st' := [vi l1]) (h' := (101, I, J, R0 b)) 1 rfl ?_
                      refine WP.if_ne (t := 226) (L' := [vi l0, vi l1, vi l2]) rfl rfl rfl rfl h (fun h => ?_) (fun h => ?_)
                      · refine WP.blk (pc' := 231) (L' := [vn, vn, vn]) (st' := [vi 1]) (h' := (101, I, J, R0 b)) 2 rfl ?_
                        exact WP.ret rfl rfl h
                      · refine WP.blk (pc' := 223) (L' := [vi l0, vi l1, vi l2]) (st' := [vi l2]) (h' := (101, I, J, R0 b)) 1 rfl ?_
                        refine WP.if_eq (t := 230) (L' := [vi l0, vi l1, vi l2]) rfl rfl rfl rfl h (fun h => ?_) (fun h => ?_)
                        · refine WP.blk (pc' := 231) (L' := [vi l0, vi l1, vi l2]) (st' := [vi 0]) (h' := (101, I, J, R0 b)) 1 rfl ?_
                          exact WP.ret rfl rfl h
                        · refine WP.blk (pc' := 231) (L' := [vn, vn, vn]) (st' := [vi 1]) (h' := (101, I, J, R0 b)) 2 rfl ?_
                          exact WP.ret rfl rfl h
                    · refine WP.ite (c := l0 = 47) (pc1 := 132) (pc2 := swf [(48, 218), (49, 218), (50, 218), (51, 218), (52, 218), (53, 218), (54, 218), (55, 218), (56, 218), (57, 218), (58, 218), (59, 218), (60, 171), (61, 182), (62, 193)] 218 l0) h (fun h => ?_) (fun h => ?_)
                      · refine WP.blk (pc' := 133) (L' := [vi l0, vi l1, vi l2]) (st' := [vi l2]) (h' := (101, I, J, R0 b)) 1 rfl ?_
                        refine WP.if_ne (t := 140) (L' := [vi l0, vi l1, vi l2]) rfl rfl rfl rfl h (fun h => ?_) (fun h => ?_)
                        · refine WP.blk (pc' := 142) (L' := [vi l0, vi l1, vi l2]) (st' := [vi (-1), vi l2]) (h' := (101, I, J, R0 b)) 2 rfl ?_
                          refine WP.icmp_ne (t := 150) (L' := [vi l0, vi l1, vi l2]) rfl rfl rfl rfl h (fun h => ?_) (fun h => ?_)
                          · refine WP.blk (pc' := 152) (L' := [vi l0, vi l1, vi l2]) (st' := [vi l2, vi l1]) (h' := (101, I, J, R0 b)) 2 rfl ?_
                            refine WP.g2 (pc' := 153) (L' := [vi l0, vi l1, vi l2]) (st' := [vi (l1 / l2)]) (h' := (101, I, J, R0 b)) (b := !(decide (l2 = 0))) rfl (not_dec h.1) rfl ?_
                            have h := And.right h
                            exact WP.ret rfl rfl h
                          · refine WP.blk (pc' := 153) (L' := [vi l0, vi l1, vi l2]) (st' := [vi (-l1)]) (h' := (101, I, J, R0 b)) 3 rfl ?_
                            exact WP.ret rfl rfl h
                        · refine WP.blk (pc' := 153) (L' := [vi l0, vi l1, vi l2]) (st' := [vi 0]) (h' := (101, I, J, R0 b)) 2 rfl ?_
                          exact WP.ret rfl rfl h
                      · refine WP.ite (c := l0 = 48) (pc1 := 218) (pc2 := swf [(49, 218), (50, 218), (51, 218), (52, 218), (53, 218), (54, 218), (55, 218), (56, 218), (57, 218), (58, 218), (59, 218), (60, 171), (61, 182), (62, 193)] 218 l0) h (fun h => ?_) (fun h => ?_)
                        · refine WP.blk (pc' := 219) (L' := [vi l0, vi l1, vi l2]) (st' := [vi l1]) (h' := (101, I, J, R0 b)) 1 rfl ?_
                          refine WP.if_ne (t := 226) (L' := [vi l0, vi l1, vi l2]) rfl rfl rfl rfl h (fun h => ?_) (fun h => ?_)
                          · refine WP.blk (pc' := 231) (L' := [vn, vn, vn]) (st' := [vi 1]) (h' := (101, I, J, R0 b)) 2 rfl ?_
                            exact WP.ret rfl rfl h
                          · refine WP.blk (pc' := 223) (L' := [vi l0, vi l1, vi l2]) (st' := [vi l2]) (h' := (101, I, J, R0 b)) 1 rfl ?_
                            refine WP.if_eq (t := 230) (L' := [vi l0, vi l1, vi l2]) rfl rfl rfl rfl h (fun h => ?_) (fun h => ?_)
                            · refine WP.blk (pc' := 231) (L' := [vi l0, vi l1, vi l2]) (st' := [vi 0]) (h' := (101, I, J, R0 b)) 1 rfl ?_
                              exact WP.ret rfl rfl h
                            · refine WP.blk (pc' := 231) (L' := [vn, vn, vn]) (st' := [vi 1]) (h' := (101, I, J, R0 b)) 2 rfl ?_
                              exact WP.ret rfl rfl h
                        · refine WP.ite (c := l0 = 49) (pc1 := 218) (pc2 := swf [(50, 218), (51, 218), (52, 218), (53, 218), (54, 218), (55, 218), (56, 218), (57, 218), (58, 218), (59, 218), (60, 171), (61, 182), (62, 193)] 218 l0) h (fun h => ?_) (fun h => ?_)
                          · refine WP.blk (pc' := 219) (L' := [vi l0, vi l1, vi l2]) (st' := [vi l1]) (h' := (101, I, J, R0 b)) 1 rfl ?_
                            refine WP.if_ne (t := 226) (L' := [vi l0, vi l1, vi l2]) rfl rfl rfl rfl h (fun h => ?_) (fun h => ?_)
                            · refine WP.blk (pc' := 231) (L' := [vn, vn, vn]) (st' := [vi 1]) (h' := (101, I, J, R0 b)) 2 rfl ?_
                              exact WP.ret rfl rfl h
                            · refine WP.blk (pc' := 223) (L' := [vi l0, vi l1, vi l2]) (st' := [vi l2]) (h' := (101, I, J, R0 b)) 1 rfl ?_
                              refine WP.if_eq (t := 230) (L' := [vi l0, vi l1, vi l2]) rfl rfl rfl rfl h (fun h => ?_) (fun h => ?_)
                              · refine WP.blk (pc' := 231) (L' := [vi l0, vi l1, vi l2]) (st' := [vi 0]) (h' := (101, I, J, R0 b)) 1 rfl ?_
                                exact WP.ret rfl rfl h
                              · refine WP.blk (pc' := 231) (L' := [vn, vn, vn]) (st' := [vi 1]) (h' := (101, I, J, R0 b)) 2 rfl ?_
                                exact WP.ret rfl rfl h
                          · refine WP.ite (c := l0 = 50) (pc1 := 218) (pc2 := swf [(51, 218), (52, 218), (53, 218), (54, 218), (55, 218), (56, 218), (57, 218), (58, 218), (59, 218), (60, 171), (61, 182), (62, 193)] 218 l0) h (fun h => ?_) (fun h => ?_)
                            · refine WP.blk (pc' := 219) (L' := [vi l0, vi l1, vi l2]) (st' := [vi l1]) (h' := (101, I, J, R0 b)) 1 rfl ?_
                              refine WP.if_ne (t := 226) (L' := [vi l0, vi l1, vi l2]) rfl rfl rfl rfl h (fun h => ?_) (fun h => ?_)
                              · refine WP.blk (pc' := 231) (L' := [vn, vn, vn]) (st' := [vi 1]) (h' := (101, I, J, R0 b)) 2 rfl ?_
                                exact WP.ret rfl rfl h
                              · refine WP.blk (pc' := 223) (L' := [vi l0, vi l1, vi l2]) (st' := [vi l2]) (h' := (101, I, J, R0 b)) 1 rfl ?_
                                refine WP.if_eq (t := 230) (L' := [vi l0, vi l1, vi l2]) rfl rfl rfl rfl h (fun h => ?_) (fun h => ?_)
                                · refine WP.blk (pc' := 231) (L' := [vi l0, vi l1, vi l2]) (st' := [vi 0]) (h' := (101, I, J, R0 b)) 1 rfl ?_
                                  exact WP.ret rfl rfl h
                                · refine WP.blk (pc' := 231) (L' := [vn, vn, vn]) (st' := [vi 1]) (h' := (101, I, J, R0 b)) 2 rfl ?_
                                  exact WP.ret rfl rfl h
                            · refine WP.ite (c := l0 = 51) (pc1 := 218) (pc2 := swf [(52, 218), (53, 218), (54, 218), (55, 218), (56, 218), (57, 218), (58, 218), (59, 218), (60, 171), (61, 182), (62, 193)] 218 l0) h (fun h => ?_) (fun h => ?_)
                              · refine WP.blk (pc' := 219) (L' := [vi l0, vi l1, vi l2]) (st' := [vi l1]) (h' := (101, I, J, R0 b)) 1 rfl ?_
                                refine WP.if_ne (t := 226) (L' := [vi l0, vi l1, vi l2]) rfl rfl rfl rfl h (fun h => ?_) (fun h => ?_)
                                · refine WP.blk (pc' := 231) (L' := [vn, vn, vn]) (st' := [vi 1]) (h' := (101, I, J, R0 b)) 2 rfl ?_
                                  exact WP.ret rfl rfl h
                                · refine WP.blk (pc' := 223) (L' := [vi l0, vi l1, vi l2]) (st' := [vi l2]) (h' := (101, I, J, R0 b)) 1 rfl ?_
                                  refine WP.if_eq (t := 230) (L' := [vi l0, vi l1, vi l2]) rfl rfl rfl rfl h (fun h => ?_) (fun h => ?_)
                                  · refine WP.blk (pc' := 231) (L' := [vi l0, vi l1, vi l2]) (st' := [vi 0]) (h' := (101, I, J, R0 b)) 1 rfl ?_
                                    exact WP.ret rfl rfl h
                                  · refine WP.blk (pc' := 231) (L' := [vn, vn, vn]) (st' := [vi 1]) (h' := (101, I, J, R0 b)) 2 rfl ?_
                                    exact WP.ret rfl rfl h
                              · refine WP.ite (c := l0 = 52) (pc1 := 218) (pc2 := swf [(53, 218), (54, 218), (55, 218), (56, 218), (57, 218), (58, 218), (59, 218), (60, 171), (61, 182), (62, 193)] 218 l0) h (fun h => ?_) (fun h => ?_)
                                · refine WP.blk (pc' := 219) (L' := [vi l0, vi l1, vi l2]) (st' := [vi l1]) (h' := (101, I, J, R0 b)) 1 rfl ?_
                                  refine WP.if_ne (t := 226) (L' := [vi l0, vi l1, vi l2]) rfl rfl rfl rfl h (fun h => ?_) (fun h => ?_)
                                  · refine WP.blk (pc' := 231) (L' := [vn, vn, vn]) (st' := [vi 1]) (h' := (101, I, J, R0 b)) 2 rfl ?_
                                    exact WP.ret rfl rfl h
                                  · refine WP.blk (pc' := 223) (L' := [vi l0, vi l1, vi l2]) (st' := [vi l2]) (h' := (101, I, J, R0 b)) 1 rfl ?_
                                    refine WP.if_eq (t := 230) (L' := [vi l0, vi l1, vi l2]) rfl rfl rfl rfl h (fun h => ?_) (fun h => ?_)
                                    · refine WP.blk (pc' := 231) (L' := [vi l0, vi l1, vi l2]) (st' := [vi 0]) (h' := (101, I, J, R0 b)) 1 rfl ?_
                                      exact WP.ret rfl rfl h
                                    · refine WP.blk (pc' := 231) (L' := [vn, vn, vn]) (st' := [vi 1]) (h' := (101, I, J, R0 b)) 2 rfl ?_
                                      exact WP.ret rfl rfl h
                                · refine WP.ite (c := l0 = 53) (pc1 := 218) (pc2 := swf [(54, 218), (55, 218), (56, 218), (57, 218), (58, 218), (59, 218), (60, 171), (61, 182), (62, 193)] 218 l0) h (fun h => ?_) (fun h => ?_)
                                  · refine WP.blk (pc' := 219) (L' := [vi l0, vi l1, vi l2]) (st' := [vi l1]) (h' := (101, I, J, R0 b)) 1 rfl ?_
                                    refine WP.if_ne (t := 226) (L' := [vi l0, vi l1, vi l2]) rfl rfl rfl rfl h (fun h => ?_) (fun h => ?_)
                                    · refine WP.blk (pc' := 231) (L' := [vn, vn, vn]) (st' := [vi 1]) (h' := (101, I, J, R0 b)) 2 rfl ?_
                                      exact WP.ret rfl rfl h
                                    · refine WP.blk (pc' := 223) (L' := [vi l0, vi l1, vi l2]) (st' := [vi l2]) (h' := (101, I, J, R0 b)) 1 rfl ?_
                                      refine WP.if_eq (t := 230) (L' := [vi l0, vi l1, vi l2]) rfl rfl rfl rfl h (fun h => ?_) (fun h => ?_)
                                      · refine WP.blk (pc' := 231) (L' := [vi l0, vi l1, vi l2]) (st' := [vi 0]) (h' := (101, I, J, R0 b)) 1 rfl ?_
                                        exact WP.ret rfl rfl h
                                      · refine WP.blk (pc' := 231) (L' := [vn, vn, vn]) (st' := [vi 1]) (h' := (101, I, J, R0 b)) 2 rfl ?_
                                        exact WP.ret rfl rfl h
                                  · refine WP.ite (c := l0 = 54) (pc1 := 218) (pc2 := swf [(55, 218), (56, 218), (57, 218), (58, 218), (59, 218), (60, 171), (61, 182), (62, 193)] 218 l0) h (fun h => ?_) (fun h => ?_)
                                    · refine WP.blk (pc' := 219) (L' := [vi l0, vi l1, vi l2]) (st' := [vi l1]) (h' := (101, I, J, R0 b)) 1 rfl ?_
                                      refine WP.if_ne (t := 226) (L' := [vi l0, vi l1, vi l2]) rfl rfl rfl rfl h (fun h => ?_) (fun h => ?_)
                                      · refine WP.blk (pc' := 231) (L' := [vn, vn, vn]) (st' := [vi 1]) (h' := (101, I, J, R0 b)) 2 rfl ?_
                                        exact WP.ret rfl rfl h
                                      · refine WP.blk (pc' := 223) (L' := [vi l0, vi l1, vi l2]) (st' := [vi l2]) (h' := (101, I, J, R0 b)) 1 rfl ?_
                                        refine WP.if_eq (t := 230) (L' := [vi l0, vi l1, vi l2]) rfl rfl rfl rfl h (fun h => ?_) (fun h => ?_)
                                        · refine WP.blk (pc' := 231) (L' := [vi l0, vi l1, vi l2]) (st' := [vi 0]) (h' := (101, I, J, R0 b)) 1 rfl ?_
                                          exact WP.ret rfl rfl h
                                        · refine WP.blk (pc' := 231) (L' := [vn, vn, vn]) (st' := [vi 1]) (h' := (101, I, J, R0 b)) 2 rfl ?_
                                          exact WP.ret rfl rfl h
                                    · refine WP.ite (c := l0 = 55) (pc1 := 218) (pc2 := swf [(56, 218), (57, 218), (58, 218), (59, 218), (60, 171), (61, 182), (62, 193)] 218 l0) h (fun h => ?_) (fun h => ?_)
                                      · refine WP.blk (pc' := 219) (L' := [vi l0, vi l1, vi l2]) (st' := [vi l1]) (h' := (101, I, J, R0 b)) 1 rfl ?_
                                        refine WP.if_ne (t := 226) (L' := [vi l0, vi l1, vi l2]) rfl rfl rfl rfl h (fun h => ?_) (fun h => ?_)
                                        · refine WP.blk (pc' := 231) (L' := [vn, vn, vn]) (st' := [vi 1]) (h' := (101, I, J, R0 b)) 2 rfl ?_
                                          exact WP.ret rfl rfl h
                                        · refine WP.blk (pc' := 223) (L' := [vi l0, vi l1, vi l2]) (st' := [vi l2]) (h' := (101, I, J, R0 b)) 1 rfl ?_
                                          refine WP.if_eq (t := 230) (L' := [vi l0, vi l1, vi l2]) rfl rfl rfl rfl h (fun h => ?_) (fun h => ?_)
                                          · refine WP.blk (pc' := 231) (L' := [vi l0, vi l1, vi l2]) (st' := [vi 0]) (h' := (101, I, J, R0 b)) 1 rfl ?_
                                            exact WP.ret rfl rfl h
                                          · refine WP.blk (pc' := 231) (L' := [vn, vn, vn]) (st' := [vi 1]) (h' := (101, I, J, R0 b)) 2 rfl ?_
                                            exact WP.ret rfl rfl h
                                      · refine WP.ite (c := l0 = 56) (pc1 := 218) (pc2 := swf [(57, 218), (58, 218), (59, 218), (60, 171), (61, 182), (62, 193)] 218 l0) h (fun h => ?_) (fun h => ?_)
                                        · refine WP.blk (pc' := 219) (L' := [vi l0, vi l1, vi l2]) (st' := [vi l1]) (h' := (101, I, J, R0 b)) 1 rfl ?_
                                          refine WP.if_ne (t := 226) (L' := [vi l0, vi l1, vi l2]) rfl rfl rfl rfl h (fun h => ?_) (fun h => ?_)
                                          · refine WP.blk (pc' := 231) (L' := [vn, vn, vn]) (st' := [vi 1]) (h' := (101, I, J, R0 b)) 2 rfl ?_
                                            exact WP.ret rfl rfl h
                                          · refine WP.blk (pc' := 223) (L' := [vi l0, vi l1, vi l2]) (st' := [vi l2]) (h' := (101, I, J, R0 b)) 1 rfl ?_
                                            refine WP.if_eq (t := 230) (L' := [vi l0, vi l1, vi l2]) rfl rfl rfl rfl h (fun h => ?_) (fun h => ?_)
                                            · refine WP.blk (pc' := 231) (L' := [vi l0, vi l1, vi l2]) (st' := [vi 0]) (h' := (101, I, J, R0 b)) 1 rfl ?_
                                              exact WP.ret rfl rfl h
                                            · refine WP.blk (pc' := 231) (L' := [vn, vn, vn]) (st' := [vi 1]) (h' := (101, I, J, R0 b)) 2 rfl ?_
                                              exact WP.ret rfl rfl h
                                        · refine WP.ite (c := l0 = 57) (pc1 := 218) (pc2 := swf [(58, 218), (59, 218), (60, 171), (61, 182), (62, 193)] 218 l0) h (fun h => ?_) (fun h => ?_)
                                          · refine WP.blk (pc' := 219) (L' := [vi l0, vi l1, vi l2]) (st' := [vi l1]) (h' := (101, I, J, R0 b)) 1 rfl ?_
                                            refine WP.if_ne (t := 226) (L' := [vi l0, vi l1, vi l2]) rfl rfl rfl rfl h (fun h => ?_) (fun h => ?_)
                                            · refine WP.blk (pc' := 231) (L' := [vn, vn, vn]) (st' := [vi 1]) (h' := (101, I, J, R0 b)) 2 rfl ?_
                                              exact WP.ret rfl rfl h
                                            · refine WP.blk (pc' := 223) (L' := [vi l0, vi l1, vi l2]) (st' := [vi l2]) (h' := (101, I, J, R0 b)) 1 rfl ?_
                                              refine WP.if_eq (t := 230) (L' := [vi l0, vi l1, vi l2]) rfl rfl rfl rfl h (fun h => ?_) (fun h => ?_)
                                              · refine WP.blk (pc' := 231) (L' := [vi l0, vi l1, vi l2]) (st' := [vi 0]) (h' := (101, I, J, R0 b)) 1 rfl ?_
                                                exact WP.ret rfl rfl h
                                              · refine WP.blk (pc' := 231) (L' := [vn, vn, vn]) (st' := [vi 1]) (h' := (101, I, J, R0 b)) 2 rfl ?_
                                                exact WP.ret rfl rfl h
                                          · refine WP.ite (c := l0 = 58) (pc1 := 218) (pc2 := swf [(59, 218), (60, 171), (61, 182), (62, 193)] 218 l0) h (fun h => ?_) (fun h => ?_)
                                            · refine WP.blk (pc' := 219) (L' := [vi l0, vi l1, vi l2]) (st' := [vi l1]) (h' := (101, I, J, R0 b)) 1 rfl ?_
                                              refine WP.if_ne (t := 226) (L' := [vi l0, vi l1, vi l2]) rfl rfl rfl rfl h (fun h => ?_) (fun h => ?_)
                                              · refine WP.blk (pc' := 231) (L' := [vn, vn, vn]) (st' := [vi 1]) (h' := (101, I, J, R0 b)) 2 rfl ?_
                                                exact WP.ret rfl rfl h
                                              · refine WP.blk (pc' := 223) (L' := [vi l0, vi l1, vi l2]) (st' := [vi l2]) (h' := (101, I, J, R0 b)) 1 rfl ?_
                                                refine WP.if_eq (t := 230) (L' := [vi l0, vi l1, vi l2]) rfl rfl rfl rfl h (fun h => ?_) (fun h => ?_)
                                                · refine WP.blk (pc' := 231) (L' := [vi l0, vi l1, vi l2]) (st' := [vi 0]) (h' := (101, I, J, R0 b)) 1 rfl ?_
                                                  exact WP.ret rfl rfl h
                                                · refine WP.blk (pc' := 231) (L' := [vn, vn, vn]) (st' := [vi 1]) (h' := (101, I, J, R0 b)) 2 rfl ?_
                                                  exact WP.ret rfl rfl h
                                            · refine WP.ite (c := l0 = 59) (pc1 := 218) (pc2 := swf [(60, 171), (61, 182), (62, 193)] 218 l0) h (fun h => ?_) (fun h => ?_)
                                              · refine WP.blk (pc' := 219) (L' := [vi l0, vi l1, vi l2]) (st' := [vi l1]) (h' := (101, I, J, R0 b)) 1 rfl ?_
                                                refine WP.if_ne (t := 226) (L' := [vi l0, vi l1, vi l2]) rfl rfl rfl rfl h (fun h => ?_) (fun h => ?_)
                                                · refine WP.blk (pc' := 231) (L' := [vn, vn, vn]) (st' := [vi 1]) (h' := (101, I, J, R0 b)) 2 rfl ?_
                                                  exact WP.ret rfl rfl h
                                                · refine WP.blk (pc' := 223) (L' := [vi l0, vi l1, vi l2]) (st' := [vi l2]) (h' := (101, I, J, R0 b)) 1 rfl ?_
                                                  refine WP.if_eq (t := 230) (L' := [vi l0, vi l1, vi l2]) rfl rfl rfl rfl h (fun h => ?_) (fun h => ?_)
                                                  · refine WP.blk (pc' := 231) (L' := [vi l0, vi l1, vi l2]) (st' := [vi 0]) (h' := (101, I, J, R0 b)) 1 rfl ?_
                                                    exact WP.ret rfl rfl h
                                                  · refine WP.blk (pc' := 231) (L' := [vn, vn, vn]) (st' := [vi 1]) (h' := (101, I, J, R0 b)) 2 rfl ?_
                                                    exact WP.ret rfl rfl h
                                              · refine WP.ite (c := l0 = 60) (pc1 := 171) (pc2 := swf [(61, 182), (62, 193)] 218 l0) h (fun h => ?_) (fun h => ?_)
                                                · refine WP.blk (pc' := 173) (L' := [vi l0, vi l1, vi l2]) (st' := [vi l2, vi l1]) (h' := (101, I, J, R0 b)) 2 rfl ?_
                                                  refine WP.icmp_ge (t := 180) (L' := [vi l0, vi l1, vi l2]) rfl rfl rfl rfl h (fun h => ?_) (fun h => ?_)
                                                  · refine WP.blk (pc' := 181) (L' := [vi l0, vi l1, vi l2]) (st' := [vi 0]) (h' := (101, I, J, R0 b)) 1 rfl ?_
                                                    exact WP.ret rfl rfl h
                                                  · refine WP.blk (pc' := 181) (L' := [vi l0, vi l1, vi l2]) (st' := [vi 1]) (h' := (101, I, J, R0 b)) 2 rfl ?_
                                                    exact WP.ret rfl rfl h
                                                · refine WP.ite (c := l0 = 61) (pc1 := 182) (pc2 := swf [(62, 193)] 218 l0) h (fun h => ?_) (fun h => ?_)
                                                  · refine WP.blk (pc' := 184) (L' := [vi l0, vi l1, vi l2]) (st' := [vi l2, vi l1]) (h' := (101, I, J, R0 b)) 2 rfl ?_
                                                    refine WP.icmp_ne (t := 191) (L' := [vi l0, vi l1, vi l2]) rfl rfl rfl rfl h (fun h => ?_) (fun h => ?_)
                                                    · refine WP.blk (pc' := 192) (L' := [vi l0, vi l1, vi l2]) (st' := [vi 0]) (h' := (101, I, J, R0 b)) 1 rfl ?_
                                                      exact WP.ret rfl rfl h
                                                    · refine WP.blk (pc' := 192) (L' := [vi l0, vi l1, vi l2]) (st' := [vi 1]) (h' := (101, I, J, R0 b)) 2 rfl ?_
                                                      exact WP.ret rfl rfl h
                                                  · refine WP.ite (c := l0 = 62) (pc1 := 193) (pc2 := swf [] 218 l0) h (fun h => ?_) (fun h => ?_)
                                                    · refine WP.blk (pc' := 195) (L' := [vi l0, vi l1, vi l2]) (st' := [vi l2, vi l1]) (h' := (101, I, J, R0 b)) 2 rfl ?_
                                                      refine WP.icmp_le (t := 202) (L' := [vi l0, vi l1, vi l2]) rfl rfl rfl rfl h (fun h => ?_) (fun h => ?_)
                                                      · refine WP.blk (pc' := 203) (L' := [vi l0, vi l1, vi l2]) (st' := [vi 0]) (h' := (101, I, J, R0 b)) 1 rfl ?_
                                                        exact WP.ret rfl rfl h
                                                      · refine WP.blk (pc' := 203) (L' := [vi l0, vi l1, vi l2]) (st' := [vi 1]) (h' := (101, I, J, R0 b)) 2 rfl ?_
                                                        exact WP.ret rfl rfl h
                                                    · show WP D 165 218 [vi l0, vi l1, vi l2] [] (101, I, J, R0 b) Q
                                                      refine WP.blk (pc' := 219) (L' := [vi l0, vi l1, vi l2]) (st' := [vi l1]) (h' := (101, I, J, R0 b)) 1 rfl ?_
                                                      refine WP.if_ne (t := 226) (L' := [vi l0, vi l1, vi l2]) rfl rfl rfl rfl h (fun h => ?_) (fun h => ?_)
                                                      · refine WP.blk (pc' := 231) (L' := [vn, vn, vn]) (st' := [vi 1]) (h' := (101, I, J, R0 b)) 2 rfl ?_
                                                        exact WP.ret rfl rfl h
                                                      · refine WP.blk (pc' := 223) (L' := [vi l0, vi l1, vi l2]) (st' := [vi l2]) (h' := (101, I, J, R0 b)) 1 rfl ?_
                                                        refine WP.if_eq (t := 230) (L' := [vi l0, vi l1, vi l2]) rfl rfl rfl rfl h (fun h => ?_) (fun h => ?_)
                                                        · refine WP.blk (pc' := 231) (L' := [vi l0, vi l1, vi l2]) (st' := [vi 0]) (h' := (101, I, J, R0 b)) 1 rfl ?_
                                                          exact WP.ret rfl rfl h
                                                        · refine WP.blk (pc' := 231) (L' := [vn, vn, vn]) (st' := [vi 1]) (h' := (101, I, J, R0 b)) 2 rfl ?_
                                                          exact WP.ret rfl rfl h
set_option maxRecDepth 20000 in
theorem t_X10_worked {D : Nat} (l1 : Int32) (l2 : Int32) (l3 : Int32) (I : IM) (J : JM) (b : Bool) {Q : Option AV → AH → Prop} (h : WP D 166 12 [vr 10 0, vi l1, vn, vi l3, vi 0, vi (((130 : Int32) * l1) + l2), vn] [] (101, I, J, R0 b) Q) : Call (D + 1) 166 [vr 10 0, vi l1, vi l2, vi l3] (101, I, J, R0 b) Q := by
  refine Call.of rfl ?_
  show WP D 166 0 [vr 10 0, vi l1, vi l2, vi l3, vn, vn, vn] [] (101, I, J, R0 b) Q
  refine WP.blk (pc' := 12) (L' := [vr 10 0, vi l1, vi l2, vi l3, vi 0, vi (((130 : Int32) * l1) + l2), vn]) (st' := []) (h' := (101, I, J, R0 b)) 8 rfl ?_
  exact WP.mask rfl rfl h
set_option maxRecDepth 20000 in
theorem t_X10_worked_12 {D : Nat} (l1 : Int32) (l3 : Int32) (l4 : Int32) (l5 : Int32) (I : IM) (J : JM) (b : Bool) {Q : Option AV → AH → Prop} (h : (if (((130 : Int32) * l1) + l3) ≤ l5 then Q (some (vi (I 60 0 0))) (101, I, J, R0 b) else (vp_in l5 260 ∧ (if (I 54 0 l5.toNatClampNeg) = (1 : Int32) then (if ¬ (I 54 0 l5.toNatClampNeg) = (1 : Int32) then (vp_in l5 260 ∧ (vp_in (I 55 0 l5.toNatClampNeg) 6 ∧ (vp_in l4 130 ∧ WP D 166 12 [vr 10 0, vi l1, vn, vi l3, vi (l4 + 1), vi (l5 + 1), vn] [] (101, (updI I 60 0 l4.toNatClampNeg (I 59 0 (I 55 0 l5.toNatClampNeg).toNatClampNeg)), J, R0 b) Q))) else (vp_in l5 260 ∧ (vp_in l4 130 ∧ WP D 166 12 [vr 10 0, vi l1, vn, vi l3, vi (l4 + 1), vi (l5 + 1), vn] [] (101, (updI I 60 0 l4.toNatClampNeg (I 55 0 l5.toNatClampNeg)), J, R0 b) Q))) else (if ¬ (I 54 0 l5.toNatClampNeg) = (2 : Int32) then (if ¬ (I 54 0 l5.toNatClampNeg) = (3 : Int32) then (if ¬ (I 54 0 l5.toNatClampNeg) = (4 : Int32) then (vp_in ((l4 + (-1)) - (1 : Int32)) 130 ∧ (vp_in (l4 + (-1)) 130 ∧ (Call D 165 [vi (I 54 0 l5.toNatClampNeg), vi (I 60 0 ((l4 + (-1)) - (1 : Int32)).toNatClampNeg), vi (I 60 0 (l4 + (-1)).toNatClampNeg)] (101, I, J, R0 b) (RIf b fun x1 I2 J3 => (vp_in ((l4 + (-1)) - (1 : Int32)) 130 ∧ WP D 166 12 [vr 10 0, vi l1, vn, vi l3, vi (l4 + (-1)), vi (l5 + 1), vn] [] (101, (updI I2 60 0 ((l4 + (-1)) - (1 : Int32)).toNatClampNeg x1), J3, R0 b) Q))))) else (vp_in (l4 - (1 : Int32)) 130 ∧ (vp_in (l4 - (1 : Int32)) 130 ∧ WP D 166 12 [vr 10 0, vi l1, vn, vi l3, vi l4, vi (l5 + 1), vn] [] (101, (updI I 60 0 (l4 - (1 : Int32)).toNatClampNeg (-(I 60 0 (l4 - (1 : Int32)).toNatClampNeg))), J, R0 b) Q))) else (vp_in (l4 - (1 : Int32)) 130 ∧ (if ¬ (I 60 0 (l4 - (1 : Int32)).toNatClampNeg) = 0 then (vp_in (l4 - (1 : Int32)) 130 ∧ WP D 166 12 [vr 10 0, vi l1, vn, vi l3, vi l4, vi (l5 + 1), vn] [] (101, (updI I 60 0 (l4 - (1 : Int32)).toNatClampNeg 0), J, R0 b) Q) else (vp_in (l4 - (1 : Int32)) 130 ∧ WP D 166 12 [vr 10 0, vi l1, vn, vi l3, vi l4, vi (l5 + 1), vn] [] (101, (updI I 60 0 (l4 - (1 : Int32)).toNatClampNeg 1), J, R0 b) Q)))) else (if ¬ (I 54 0 l5.toNatClampNeg) = (1 : Int32) then (vp_in l5 260 ∧ (vp_in (I 55 0 l5.toNatClampNeg) 6 ∧ (vp_in l4 130 ∧ WP D 166 12 [vr 10 0, vi l1, vn, vi l3, vi (l4 + 1), vi (l5 + 1), vn] [] (101, (updI I 60 0 l4.toNatClampNeg (I 59 0 (I 55 0 l5.toNatClampNeg).toNatClampNeg)), J, R0 b) Q))) else (vp_in l5 260 ∧ (vp_in l4 130 ∧ WP D 166 12 [vr 10 0, vi l1, vn, vi l3, vi (l4 + 1), vi (l5 + 1), vn] [] (101, (updI I 60 0 l4.toNatClampNeg (I 55 0 l5.toNatClampNeg)), J, R0 b) Q)))))))) : WP D 166 12 [vr 10 0, vi l1, vn, vi l3, vi l4, vi l5, vn] [] (101, I, J, R0 b) Q := by
  refine WP.blk (pc' := 21) (L' := [vr 10 0, vi l1, vn, vi l3, vi l4, vi l5, vn]) (st' := [vi (((130 : Int32) * l1) + l3), vi l5]) (h' := (101, I, J, R0 b)) 6 rfl ?_
  refine WP.icmp_ge (t := 188) (L' := [vr 10 0, vi l1, vn, vi l3, vi l4, vi l5, vn]) rfl rfl rfl rfl h (fun h => ?_) (fun h => ?_)
  · refine WP.blk (pc' := 194) (L' := [vr 10 0, vi l1, vn, vi l3, vi l4, vi l5, vn]) (st' := [vi (I 60 0 0)]) (h' := (101, I, J, R0 b)) 4 rfl ?_
    exact WP.ret rfl rfl h
  · refine WP.blk (pc' := 30) (L' := [vr 10 0, vi l1, vn, vi l3, vi l4, vi l5, vn]) (st' := [vi l5, vr 54 0]) (h' := (101, I, J, R0 b)) 3 rfl ?_
    refine WP.step (pc' := 31) (L' := [vr 10 0, vi l1, vn, vi l3, vi l4, vi l5, vn]) (st' := [vi (I 54 0 l5.toNatClampNeg)]) (h' := (101, I, J, R0 b)) rfl (baload_ok (n := 260) rfl rfl rfl (inA_of h.1)) ?_
    have h := And.right h
    refine WP.blk (pc' := 36) (L' := [vr 10 0, vi l1, vn, vi l3, vi l4, vi l5, vi (I 54 0 l5.toNatClampNeg)]) (st' := [vi 1, vi (I 54 0 l5.toNatClampNeg)]) (h' := (101, I, J, R0 b)) 3 rfl ?_
    refine WP.icmp_eq (t := 45) (L' := [vr 10 0, vi l1, vn, vi l3, vi l4, vi l5, vi (I 54 0 l5.toNatClampNeg)]) rfl rfl rfl rfl h (fun h => ?_) (fun h => ?_)
    · refine WP.blk (pc' := 54) (L' := [vr 10 0, vi l1, vn, vi l3, vi l4, vi l5, vi (I 54 0 l5.toNatClampNeg)]) (st' := [vi 1, vi (I 54 0 l5.toNatClampNeg), vi l4, vr 60 0]) (h' := (101, I, J, R0 b)) 5 rfl ?_
      refine WP.icmp_ne (t := 67) (L' := [vr 10 0, vi l1, vn, vi l3, vi l4, vi l5, vi (I 54 0 l5.toNatClampNeg)]) rfl rfl rfl rfl h (fun h => ?_) (fun h => ?_)
      · refine WP.blk (pc' := 77) (L' := [vr 10 0, vi l1, vn, vi l3, vi l4, vi l5, vi (I 54 0 l5.toNatClampNeg)]) (st' := [vi l5, vr 55 0, vr 59 0, vi l4, vr 60 0]) (h' := (101, I, J, R0 b)) 5 rfl ?_
        refine WP.step (pc' := 78) (L' := [vr 10 0, vi l1, vn, vi l3, vi l4, vi l5, vi (I 54 0 l5.toNatClampNeg)]) (st' := [vi (I 55 0 l5.toNatClampNeg), vr 59 0, vi l4, vr 60 0]) (h' := (101, I, J, R0 b)) rfl (iaload_ok (n := 260) rfl rfl rfl (inA_of h.1)) ?_
        have h := And.right h
        refine WP.step (pc' := 79) (L' := [vr 10 0, vi l1, vn, vi l3, vi l4, vi l5, vi (I 54 0 l5.toNatClampNeg)]) (st' := [vi (I 59 0 (I 55 0 l5.toNatClampNeg).toNatClampNeg), vi l4, vr 60 0]) (h' := (101, I, J, R0 b)) rfl (iaload_ok (n := 6) rfl rfl rfl (inA_of h.1)) ?_
        have h := And.right h
        refine WP.step (pc' := 80) (L' := [vr 10 0, vi l1, vn, vi l3, vi l4, vi l5, vn]) (st' := []) (h' := (101, (updI I 60 0 l4.toNatClampNeg (I 59 0 (I 55 0 l5.toNatClampNeg).toNatClampNeg)), J, R0 b)) rfl (iastore_ok (n := 130) rfl rfl rfl (inA_of h.1)) ?_
        have h := And.right h
        refine WP.blk (pc' := 12) (L' := [vr 10 0, vi l1, vn, vi l3, vi (l4 + 1), vi (l5 + 1), vn]) (st' := []) (h' := (101, (updI I 60 0 l4.toNatClampNeg (I 59 0 (I 55 0 l5.toNatClampNeg).toNatClampNeg)), J, R0 b)) 4 rfl ?_
        exact WP.mask rfl rfl h
      · refine WP.blk (pc' := 63) (L' := [vr 10 0, vi l1, vn, vi l3, vi l4, vi l5, vi (I 54 0 l5.toNatClampNeg)]) (st' := [vi l5, vr 55 0, vi l4, vr 60 0]) (h' := (101, I, J, R0 b)) 3 rfl ?_
        refine WP.step (pc' := 64) (L' := [vr 10 0, vi l1, vn, vi l3, vi l4, vi l5, vi (I 54 0 l5.toNatClampNeg)]) (st' := [vi (I 55 0 l5.toNatClampNeg), vi l4, vr 60 0]) (h' := (101, I, J, R0 b)) rfl (iaload_ok (n := 260) rfl rfl rfl (inA_of h.1)) ?_
        have h := And.right h
        refine WP.blk (pc' := 79) (L' := [vr 10 0, vi l1, vn, vi l3, vi l4, vi l5, vi (I 54 0 l5.toNatClampNeg)]) (st' := [vi (I 55 0 l5.toNatClampNeg), vi l4, vr 60 0]) (h' := (101, I, J, R0 b)) 1 rfl ?_
        refine WP.step (pc' := 80) (L' := [vr 10 0, vi l1, vn, vi l3, vi l4, vi l5, vn]) (st' := []) (h' := (101, (updI I 60 0 l4.toNatClampNeg (I 55 0 l5.toNatClampNeg)), J, R0 b)) rfl (iastore_ok (n := 130) rfl rfl rfl (inA_of h.1)) ?_
        have h := And.right h
        refine WP.blk (pc' := 12) (L' := [vr 10 0, vi l1, vn, vi l3, vi (l4 + 1), vi (l5 + 1), vn]) (st' := []) (h' := (101, (updI I 60 0 l4.toNatClampNeg (I 55 0 l5.toNatClampNeg)), J, R0 b)) 4 rfl ?_
        exact WP.mask rfl rfl h
    · refine WP.blk (pc' := 42) (L' := [vr 10 0, vi l1, vn, vi l3, vi l4, vi l5, vi (I 54 0 l5.toNatClampNeg)]) (st' := [vi 2, vi (I 54 0 l5.toNatClampNeg)]) (h' := (101, I, J, R0 b)) 2 rfl ?_
      refine WP.icmp_ne (t := 86) (L' := [vr 10 0, vi l1, vn, vi l3, vi l4, vi l5, vi (I 54 0 l5.toNatClampNeg)]) rfl rfl rfl rfl h (fun h => ?_) (fun h => ?_)
      · refine WP.blk (pc' := 89) (L' := [vr 10 0, vi l1, vn, vi l3, vi l4, vi l5, vi (I 54 0 l5.toNatClampNeg)]) (st' := [vi 3, vi (I 54 0 l5.toNatClampNeg)]) (h' := (101, I, J, R0 b)) 2 rfl ?_
        refine WP.icmp_ne (t := 121) (L' := [vr 10 0, vi l1, vn, vi l3, vi l4, vi l5, vi (I 54 0 l5.toNatClampNeg)]) rfl rfl rfl rfl h (fun h => ?_) (fun h => ?_)
        · refine WP.blk (pc' := 124) (L' := [vr 10 0, vi l1, vn, vi l3, vi l4, vi l5, vi (I 54 0 l5.toNatClampNeg)]) (st' := [vi 4, vi (I 54 0 l5.toNatClampNeg)]) (h' := (101, I, J, R0 b)) 2 rfl ?_
          refine WP.icmp_ne (t := 149) (L' := [vr 10 0, vi l1, vn, vi l3, vi l4, vi l5, vi (I 54 0 l5.toNatClampNeg)]) rfl rfl rfl rfl h (fun h => ?_) (fun h => ?_)
          · refine WP.blk (pc' := 170) (L' := [vr 10 0, vi l1, vn, vi l3, vi (l4 + (-1)), vi l5, vi (I 54 0 l5.toNatClampNeg)]) (st' := [vi ((l4 + (-1)) - (1 : Int32)), vr 60 0, vi (I 54 0 l5.toNatClampNeg), vi ((l4 + (-1)) - (1 : Int32)), vr 60 0]) (h' := (101, I, J, R0 b)) 12 rfl ?_
            refine WP.step (pc' := 171) (L' := [vr 10 0, vi l1, vn, vi l3, vi (l4 + (-1)), vi l5, vi (I 54 0 l5.toNatClampNeg)]) (st' := [vi (I 60 0 ((l4 + (-1)) - (1 : Int32)).toNatClampNeg), vi (I 54 0 l5.toNatClampNeg), vi ((l4 + (-1)) - (1 : Int32)), vr 60 0]) (h' := (101, I, J, R0 b)) rfl (iaload_ok (n := 130) rfl rfl rfl (inA_of h.1)) ?_
            have h := And.right h
            refine WP.blk (pc' := 177) (L' := [vr 10 0, vi l1, vn, vi l3, vi (l4 + (-1)), vi l5, vi (I 54 0 l5.toNatClampNeg)]) (st' := [vi (l4 + (-1)), vr 60 0, vi (I 60 0 ((l4 + (-1)) - (1 : Int32)).toNatClampNeg), vi (I 54 0 l5.toNatClampNeg), vi ((l4 + (-1)) - (1 : Int32)), vr 60 0]) (h' := (101, I, J, R0 b)) 3 rfl ?_
            refine WP.step (pc' := 178) (L' := [vr 10 0, vi l1, vn, vi l3, vi (l4 + (-1)), vi l5, vi (I 54 0 l5.toNatClampNeg)]) (st' := [vi (I 60 0 (l4 + (-1)).toNatClampNeg), vi (I 60 0 ((l4 + (-1)) - (1 : Int32)).toNatClampNeg), vi (I 54 0 l5.toNatClampNeg), vi ((l4 + (-1)) - (1 : Int32)), vr 60 0]) (h' := (101, I, J, R0 b)) rfl (iaload_ok (n := 130) rfl rfl rfl (inA_of h.1)) ?_
            have h := And.right h
            refine WP.cal (y' := 165) (as := [vi (I 54 0 l5.toNatClampNeg), vi (I 60 0 ((l4 + (-1)) - (1 : Int32)).toNatClampNeg), vi (I 60 0 (l4 + (-1)).toNatClampNeg)]) (L' := [vr 10 0, vi l1, vn, vi l3, vi (l4 + (-1)), vi l5, vi (I 54 0 l5.toNatClampNeg)]) (rest := [vi ((l4 + (-1)) - (1 : Int32)), vr 60 0]) rfl (fun f r h' hf => callS_ok hf rfl rfl rfl) h ?_
            rintro _ _ ⟨x1, I2, J3, rfl, rfl, h⟩
            refine WP.step (pc' := 182) (L' := [vr 10 0, vi l1, vn, vi l3, vi (l4 + (-1)), vi l5, vi (I 54 0 l5.toNatClampNeg)]) (st' := []) (h' := (101, (updI I2 60 0 ((l4 + (-1)) - (1 : Int32)).toNatClampNeg x1), J3, R0 b)) rfl (iastore_ok (n := 130) rfl rfl rfl (inA_of h.1)) ?_
            have h := And.right h
            refine WP.blk (pc' := 12) (L' := [vr 10 0, vi l1, vn, vi l3, vi (l4 + (-1)), vi (l5 + 1), vn]) (st' := []) (h' := (101, (updI I2 60 0 ((l4 + (-1)) - (1 : Int32)).toNatClampNeg x1), J3, R0 b)) 2 rfl ?_
            exact WP.mask rfl rfl h
          · refine WP.blk (pc' := 143) (L' := [vr 10 0, vi l1, vn, vi l3, vi l4, vi l5, vi (I 54 0 l5.toNatClampNeg)]) (st' := [vi (l4 - (1 : Int32)), vr 60 0, vi (l4 - (1 : Int32)), vr 60 0]) (h' := (101, I, J, R0 b)) 10 rfl ?_
            refine WP.step (pc' := 144) (L' := [vr 10 0, vi l1, vn, vi l3, vi l4, vi l5, vi (I 54 0 l5.toNatClampNeg)]) (st' := [vi (I 60 0 (l4 - (1 : Int32)).toNatClampNeg), vi (l4 - (1 : Int32)), vr 60 0]) (h' := (101, I, J, R0 b)) rfl (iaload_ok (n := 130) rfl rfl rfl (inA_of h.1)) ?_
            have h := And.right h
            refine WP.blk (pc' := 145) (L' := [vr 10 0, vi l1, vn, vi l3, vi l4, vi l5, vi (I 54 0 l5.toNatClampNeg)]) (st' := [vi (-(I 60 0 (l4 - (1 : Int32)).toNatClampNeg)), vi (l4 - (1 : Int32)), vr 60 0]) (h' := (101, I, J, R0 b)) 1 rfl ?_
            refine WP.step (pc' := 146) (L' := [vr 10 0, vi l1, vn, vi l3, vi l4, vi l5, vi (I 54 0 l5.toNatClampNeg)]) (st' := []) (h' := (101, (updI I 60 0 (l4 - (1 : Int32)).toNatClampNeg (-(I 60 0 (l4 - (1 : Int32)).toNatClampNeg))), J, R0 b)) rfl (iastore_ok (n := 130) rfl rfl rfl (inA_of h.1)) ?_
            have h := And.right h
            refine WP.blk (pc' := 12) (L' := [vr 10 0, vi l1, vn, vi l3, vi l4, vi (l5 + 1), vn]) (st' := []) (h' := (101, (updI I 60 0 (l4 - (1 : Int32)).toNatClampNeg (-(I 60 0 (l4 - (1 : Int32)).toNatClampNeg))), J, R0 b)) 3 rfl ?_
            exact WP.mask rfl rfl h
        · refine WP.blk (pc' := 108) (L' := [vr 10 0, vi l1, vn, vi l3, vi l4, vi l5, vi (I 54 0 l5.toNatClampNeg)]) (st' := [vi (l4 - (1 : Int32)), vr 60 0, vi (l4 - (1 : Int32)), vr 60 0]) (h' := (101, I, J, R0 b)) 10 rfl ?_
          refine WP.step (pc' := 109) (L' := [vr 10 0, vi l1, vn, vi l3, vi l4, vi l5, vi (I 54 0 l5.toNatClampNeg)]) (st' := [vi (I 60 0 (l4 - (1 : Int32)).toNatClampNeg), vi (l4 - (1 : Int32)), vr 60 0]) (h' := (101, I, J, R0 b)) rfl (iaload_ok (n := 130) rfl rfl rfl (inA_of h.1)) ?_
          have h := And.right h
          refine WP.if_ne (t := 116) (L' := [vr 10 0, vi l1, vn, vi l3, vi l4, vi l5, vi (I 54 0 l5.toNatClampNeg)]) rfl rfl rfl rfl h (fun h => ?_) (fun h => ?_)
          · refine WP.blk (pc' := 117) (L' := [vr 10 0, vi l1, vn, vi l3, vi l4, vi l5, vi (I 54 0 l5.toNatClampNeg)]) (st' := [vi 0, vi (l4 - (1 : Int32)), vr 60 0]) (h' := (101, I, J, R0 b)) 1 rfl ?_
            refine WP.step (pc' := 118) (L' := [vr 10 0, vi l1, vn, vi l3, vi l4, vi l5, vn]) (st' := []) (h' := (101, (updI I 60 0 (l4 - (1 : Int32)).toNatClampNeg 0), J, R0 b)) rfl (iastore_ok (n := 130) rfl rfl rfl (inA_of h.1)) ?_
            have h := And.right h
            refine WP.blk (pc' := 12) (L' := [vr 10 0, vi l1, vn, vi l3, vi l4, vi (l5 + 1), vn]) (st' := []) (h' := (101, (updI I 60 0 (l4 - (1 : Int32)).toNatClampNeg 0), J, R0 b)) 3 rfl ?_
            exact WP.mask rfl rfl h
          · refine WP.blk (pc' := 117) (L' := [vr 10 0, vi l1, vn, vi l3, vi l4, vi l5, vi (I 54 0 l5.toNatClampNeg)]) (st' := [vi 1, vi (l4 - (1 : Int32)), vr 60 0]) (h' := (101, I, J, R0 b)) 2 rfl ?_
            refine WP.step (pc' := 118) (L' := [vr 10 0, vi l1, vn, vi l3, vi l4, vi l5, vn]) (st' := []) (h' := (101, (updI I 60 0 (l4 - (1 : Int32)).toNatClampNeg 1), J, R0 b)) rfl (iastore_ok (n := 130) rfl rfl rfl (inA_of h.1)) ?_
            have h := And.right h
            refine WP.blk (pc' := 12) (L' := [vr 10 0, vi l1, vn, vi l3, vi l4, vi (l5 + 1), vn]) (st' := []) (h' := (101, (updI I 60 0 (l4 - (1 : Int32)).toNatClampNeg 1), J, R0 b)) 3 rfl ?_
            exact WP.mask rfl rfl h
      · refine WP.blk (pc' := 54) (L' := [vr 10 0, vi l1, vn, vi l3, vi l4, vi l5, vi (I 54 0 l5.toNatClampNeg)]) (st' := [vi 1, vi (I 54 0 l5.toNatClampNeg), vi l4, vr 60 0]) (h' := (101, I, J, R0 b)) 5 rfl ?_
        refine WP.icmp_ne (t := 67) (L' := [vr 10 0, vi l1, vn, vi l3, vi l4, vi l5, vi (I 54 0 l5.toNatClampNeg)]) rfl rfl rfl rfl h (fun h => ?_) (fun h => ?_)
        · refine WP.blk (pc' := 77) (L' := [vr 10 0, vi l1, vn, vi l3, vi l4, vi l5, vi (I 54 0 l5.toNatClampNeg)]) (st' := [vi l5, vr 55 0, vr 59 0, vi l4, vr 60 0]) (h' := (101, I, J, R0 b)) 5 rfl ?_
          refine WP.step (pc' := 78) (L' := [vr 10 0, vi l1, vn, vi l3, vi l4, vi l5, vi (I 54 0 l5.toNatClampNeg)]) (st' := [vi (I 55 0 l5.toNatClampNeg), vr 59 0, vi l4, vr 60 0]) (h' := (101, I, J, R0 b)) rfl (iaload_ok (n := 260) rfl rfl rfl (inA_of h.1)) ?_
          have h := And.right h
          refine WP.step (pc' := 79) (L' := [vr 10 0, vi l1, vn, vi l3, vi l4, vi l5, vi (I 54 0 l5.toNatClampNeg)]) (st' := [vi (I 59 0 (I 55 0 l5.toNatClampNeg).toNatClampNeg), vi l4, vr 60 0]) (h' := (101, I, J, R0 b)) rfl (iaload_ok (n := 6) rfl rfl rfl (inA_of h.1)) ?_
          have h := And.right h
          refine WP.step (pc' := 80) (L' := [vr 10 0, vi l1, vn, vi l3, vi l4, vi l5, vn]) (st' := []) (h' := (101, (updI I 60 0 l4.toNatClampNeg (I 59 0 (I 55 0 l5.toNatClampNeg).toNatClampNeg)), J, R0 b)) rfl (iastore_ok (n := 130) rfl rfl rfl (inA_of h.1)) ?_
          have h := And.right h
          refine WP.blk (pc' := 12) (L' := [vr 10 0, vi l1, vn, vi l3, vi (l4 + 1), vi (l5 + 1), vn]) (st' := []) (h' := (101, (updI I 60 0 l4.toNatClampNeg (I 59 0 (I 55 0 l5.toNatClampNeg).toNatClampNeg)), J, R0 b)) 4 rfl ?_
          exact WP.mask rfl rfl h
        · refine WP.blk (pc' := 63) (L' := [vr 10 0, vi l1, vn, vi l3, vi l4, vi l5, vi (I 54 0 l5.toNatClampNeg)]) (st' := [vi l5, vr 55 0, vi l4, vr 60 0]) (h' := (101, I, J, R0 b)) 3 rfl ?_
          refine WP.step (pc' := 64) (L' := [vr 10 0, vi l1, vn, vi l3, vi l4, vi l5, vi (I 54 0 l5.toNatClampNeg)]) (st' := [vi (I 55 0 l5.toNatClampNeg), vi l4, vr 60 0]) (h' := (101, I, J, R0 b)) rfl (iaload_ok (n := 260) rfl rfl rfl (inA_of h.1)) ?_
          have h := And.right h
          refine WP.blk (pc' := 79) (L' := [vr 10 0, vi l1, vn, vi l3, vi l4, vi l5, vi (I 54 0 l5.toNatClampNeg)]) (st' := [vi (I 55 0 l5.toNatClampNeg), vi l4, vr 60 0]) (h' := (101, I, J, R0 b)) 1 rfl ?_
          refine WP.step (pc' := 80) (L' := [vr 10 0, vi l1, vn, vi l3, vi l4, vi l5, vn]) (st' := []) (h' := (101, (updI I 60 0 l4.toNatClampNeg (I 55 0 l5.toNatClampNeg)), J, R0 b)) rfl (iastore_ok (n := 130) rfl rfl rfl (inA_of h.1)) ?_
          have h := And.right h
          refine WP.blk (pc' := 12) (L' := [vr 10 0, vi l1, vn, vi l3, vi (l4 + 1), vi (l5 + 1), vn]) (st' := []) (h' := (101, (updI I 60 0 l4.toNatClampNeg (I 55 0 l5.toNatClampNeg)), J, R0 b)) 4 rfl ?_
          exact WP.mask rfl rfl h
set_option maxRecDepth 20000 in
theorem t_X10_gives {D : Nat} (l1 : Int32) (I : IM) (J : JM) (b : Bool) {Q : Option AV → AH → Prop} (h : WP D 167 7 [vr 10 0, vi l1, vi 0, vi ((61 : Int32) * l1)] [] (101, I, J, R0 b) Q) : Call (D + 1) 167 [vr 10 0, vi l1] (101, I, J, R0 b) Q := by
  refine Call.of rfl ?_
  show WP D 167 0 [vr 10 0, vi l1, vn, vn] [] (101, I, J, R0 b) Q
  refine WP.blk (pc' := 7) (L' := [vr 10 0, vi l1, vi 0, vi ((61 : Int32) * l1)]) (st' := []) (h' := (101, I, J, R0 b)) 6 rfl ?_
  exact WP.mask rfl rfl h
set_option maxRecDepth 20000 in
theorem t_X10_gives_7 {D : Nat} (l1 : Int32) (l2 : Int32) (l3 : Int32) (I : IM) (J : JM) (b : Bool) {Q : Option AV → AH → Prop} (h : (vp_in l1 2 ∧ (if (((61 : Int32) * l1) + (I 56 0 l1.toNatClampNeg)) ≤ l3 then Q (some (vi 0)) (101, I, J, R0 b) else (vp_in l3 122 ∧ (if (I 57 0 l3.toNatClampNeg) = l2 then (vp_in l3 122 ∧ (vp_in l3 122 ∧ (Call D 166 [vr 10 0, vi l1, vi (I 57 0 l3.toNatClampNeg), vi (I 58 0 l3.toNatClampNeg)] (101, I, J, R0 b) (RIf b fun x1 I2 J3 => Q (some (vi x1)) (101, I2, J3, R0 b))))) else (vp_in l3 122 ∧ (Call D 166 [vr 10 0, vi l1, vi l2, vi (I 57 0 l3.toNatClampNeg)] (101, I, J, R0 b) (RIf b fun x4 I5 J6 => (if x4 = 0 then (vp_in l3 122 ∧ WP D 167 7 [vr 10 0, vi l1, vi (I5 58 0 l3.toNatClampNeg), vi (l3 + 1)] [] (101, I5, J6, R0 b) Q) else (vp_in l3 122 ∧ (vp_in l3 122 ∧ (Call D 166 [vr 10 0, vi l1, vi (I5 57 0 l3.toNatClampNeg), vi (I5 58 0 l3.toNatClampNeg)] (101, I5, J6, R0 b) (RIf b fun x7 I8 J9 => Q (some (vi x7)) (101, I8, J9, R0 b)))))))))))))) : WP D 167 7 [vr 10 0, vi l1, vi l2, vi l3] [] (101, I, J, R0 b) Q := by
  refine WP.blk (pc' := 17) (L' := [vr 10 0, vi l1, vi l2, vi l3]) (st' := [vi l1, vr 56 0, vi ((61 : Int32) * l1), vi l3]) (h' := (101, I, J, R0 b)) 7 rfl ?_
  refine WP.step (pc' := 18) (L' := [vr 10 0, vi l1, vi l2, vi l3]) (st' := [vi (I 56 0 l1.toNatClampNeg), vi ((61 : Int32) * l1), vi l3]) (h' := (101, I, J, R0 b)) rfl (iaload_ok (n := 2) rfl rfl rfl (inA_of h.1)) ?_
  have h := And.right h
  refine WP.blk (pc' := 19) (L' := [vr 10 0, vi l1, vi l2, vi l3]) (st' := [vi (((61 : Int32) * l1) + (I 56 0 l1.toNatClampNeg)), vi l3]) (h' := (101, I, J, R0 b)) 1 rfl ?_
  refine WP.icmp_ge (t := 78) (L' := [vr 10 0, vi l1, vi l2, vi l3]) rfl rfl rfl rfl h (fun h => ?_) (fun h => ?_)
  · refine WP.blk (pc' := 79) (L' := [vr 10 0, vi l1, vi l2, vi l3]) (st' := [vi 0]) (h' := (101, I, J, R0 b)) 1 rfl ?_
    exact WP.ret rfl rfl h
  · refine WP.blk (pc' := 27) (L' := [vr 10 0, vi l1, vi l2, vi l3]) (st' := [vi l3, vr 57 0]) (h' := (101, I, J, R0 b)) 3 rfl ?_
    refine WP.step (pc' := 28) (L' := [vr 10 0, vi l1, vi l2, vi l3]) (st' := [vi (I 57 0 l3.toNatClampNeg)]) (h' := (101, I, J, R0 b)) rfl (saload_ok (n := 122) rfl rfl rfl (inA_of h.1)) ?_
    have h := And.right h
    refine WP.blk (pc' := 29) (L' := [vr 10 0, vi l1, vi l2, vi l3]) (st' := [vi l2, vi (I 57 0 l3.toNatClampNeg)]) (h' := (101, I, J, R0 b)) 1 rfl ?_
    refine WP.icmp_eq (t := 47) (L' := [vr 10 0, vi l1, vi l2, vi l3]) rfl rfl rfl rfl h (fun h => ?_) (fun h => ?_)
    · refine WP.blk (pc' := 54) (L' := [vr 10 0, vi l1, vn, vi l3]) (st' := [vi l3, vr 57 0, vi l1, vr 10 0]) (h' := (101, I, J, R0 b)) 5 rfl ?_
      refine WP.step (pc' := 55) (L' := [vr 10 0, vi l1, vn, vi l3]) (st' := [vi (I 57 0 l3.toNatClampNeg), vi l1, vr 10 0]) (h' := (101, I, J, R0 b)) rfl (saload_ok (n := 122) rfl rfl rfl (inA_of h.1)) ?_
      have h := And.right h
      refine WP.blk (pc' := 60) (L' := [vr 10 0, vi l1, vn, vi l3]) (st' := [vi l3, vr 58 0, vi (I 57 0 l3.toNatClampNeg), vi l1, vr 10 0]) (h' := (101, I, J, R0 b)) 3 rfl ?_
      refine WP.step (pc' := 61) (L' := [vr 10 0, vi l1, vn, vi l3]) (st' := [vi (I 58 0 l3.toNatClampNeg), vi (I 57 0 l3.toNatClampNeg), vi l1, vr 10 0]) (h' := (101, I, J, R0 b)) rfl (saload_ok (n := 122) rfl rfl rfl (inA_of h.1)) ?_
      have h := And.right h
      refine WP.cal (y' := 166) (as := [vr 10 0, vi l1, vi (I 57 0 l3.toNatClampNeg), vi (I 58 0 l3.toNatClampNeg)]) (L' := [vr 10 0, vi l1, vn, vi l3]) (rest := []) rfl (fun f r h' hf => callV_ok hf rfl rfl rfl) h ?_
      rintro _ _ ⟨x1, I2, J3, rfl, rfl, h⟩
      exact WP.ret rfl rfl h
    · refine WP.blk (pc' := 40) (L' := [vr 10 0, vi l1, vi l2, vi l3]) (st' := [vi l3, vr 57 0, vi l2, vi l1, vr 10 0]) (h' := (101, I, J, R0 b)) 6 rfl ?_
      refine WP.step (pc' := 41) (L' := [vr 10 0, vi l1, vi l2, vi l3]) (st' := [vi (I 57 0 l3.toNatClampNeg), vi l2, vi l1, vr 10 0]) (h' := (101, I, J, R0 b)) rfl (saload_ok (n := 122) rfl rfl rfl (inA_of h.1)) ?_
      have h := And.right h
      refine WP.cal (y' := 166) (as := [vr 10 0, vi l1, vi l2, vi (I 57 0 l3.toNatClampNeg)]) (L' := [vr 10 0, vi l1, vi l2, vi l3]) (rest := []) rfl (fun f r h' hf => callV_ok hf rfl rfl rfl) h ?_
      rintro _ _ ⟨x4, I5, J6, rfl, rfl, h⟩
      refine WP.if_eq (t := 65) (L' := [vr 10 0, vi l1, vi l2, vi l3]) rfl rfl rfl rfl h (fun h => ?_) (fun h => ?_)
      · refine WP.blk (pc' := 70) (L' := [vr 10 0, vi l1, vi l2, vi l3]) (st' := [vi l3, vr 58 0]) (h' := (101, I5, J6, R0 b)) 3 rfl ?_
        refine WP.step (pc' := 71) (L' := [vr 10 0, vi l1, vi l2, vi l3]) (st' := [vi (I5 58 0 l3.toNatClampNeg)]) (h' := (101, I5, J6, R0 b)) rfl (saload_ok (n := 122) rfl rfl rfl (inA_of h.1)) ?_
        have h := And.right h
        refine WP.blk (pc' := 7) (L' := [vr 10 0, vi l1, vi (I5 58 0 l3.toNatClampNeg), vi (l3 + 1)]) (st' := []) (h' := (101, I5, J6, R0 b)) 3 rfl ?_
        exact WP.mask rfl rfl h
      · refine WP.blk (pc' := 54) (L' := [vr 10 0, vi l1, vn, vi l3]) (st' := [vi l3, vr 57 0, vi l1, vr 10 0]) (h' := (101, I5, J6, R0 b)) 5 rfl ?_
        refine WP.step (pc' := 55) (L' := [vr 10 0, vi l1, vn, vi l3]) (st' := [vi (I5 57 0 l3.toNatClampNeg), vi l1, vr 10 0]) (h' := (101, I5, J6, R0 b)) rfl (saload_ok (n := 122) rfl rfl rfl (inA_of h.1)) ?_
        have h := And.right h
        refine WP.blk (pc' := 60) (L' := [vr 10 0, vi l1, vn, vi l3]) (st' := [vi l3, vr 58 0, vi (I5 57 0 l3.toNatClampNeg), vi l1, vr 10 0]) (h' := (101, I5, J6, R0 b)) 3 rfl ?_
        refine WP.step (pc' := 61) (L' := [vr 10 0, vi l1, vn, vi l3]) (st' := [vi (I5 58 0 l3.toNatClampNeg), vi (I5 57 0 l3.toNatClampNeg), vi l1, vr 10 0]) (h' := (101, I5, J6, R0 b)) rfl (saload_ok (n := 122) rfl rfl rfl (inA_of h.1)) ?_
        have h := And.right h
        refine WP.cal (y' := 166) (as := [vr 10 0, vi l1, vi (I5 57 0 l3.toNatClampNeg), vi (I5 58 0 l3.toNatClampNeg)]) (L' := [vr 10 0, vi l1, vn, vi l3]) (rest := []) rfl (fun f r h' hf => callV_ok hf rfl rfl rfl) h ?_
        rintro _ _ ⟨x7, I8, J9, rfl, rfl, h⟩
        exact WP.ret rfl rfl h
set_option maxRecDepth 20000 in
theorem t_X10_law {D : Nat}  (I : IM) (J : JM) (b : Bool) {Q : Option AV → AH → Prop} (h : (Call D 164 [vr 10 0, vi 0] (101, I, J, R0 b) (RIf b fun x1 I2 J3 => (if x1 < 0 then Q (some (vi 1)) (101, (updI I2 10 0 32 1), J3, R0 b) else Q (some (vi ((-100 : Int32) - x1))) (101, I2, J3, R0 b))))) : Call (D + 1) 168 [vr 10 0] (101, I, J, R0 b) Q := by
  refine Call.of rfl ?_
  show WP D 168 0 [vr 10 0, vn] [] (101, I, J, R0 b) Q
  refine WP.blk (pc' := 2) (L' := [vr 10 0, vn]) (st' := [vi 0, vr 10 0]) (h' := (101, I, J, R0 b)) 2 rfl ?_
  refine WP.cal (y' := 164) (as := [vr 10 0, vi 0]) (L' := [vr 10 0, vn]) (rest := []) rfl (fun f r h' hf => callV_ok hf rfl rfl rfl) h ?_
  rintro _ _ ⟨x1, I2, J3, rfl, rfl, h⟩
  refine WP.blk (pc' := 7) (L' := [vr 10 0, vi x1]) (st' := [vi x1]) (h' := (101, I2, J3, R0 b)) 2 rfl ?_
  refine WP.if_lt (t := 15) (L' := [vr 10 0, vi x1]) rfl rfl rfl rfl h (fun h => ?_) (fun h => ?_)
  · refine WP.blk (pc' := 21) (L' := [vr 10 0, vi x1]) (st' := [vi 1]) (h' := (101, (updI I2 10 0 32 1), J3, R0 b)) 4 rfl ?_
    exact WP.ret rfl rfl h
  · refine WP.blk (pc' := 14) (L' := [vr 10 0, vi x1]) (st' := [vi ((-100 : Int32) - x1)]) (h' := (101, I2, J3, R0 b)) 3 rfl ?_
    exact WP.ret rfl rfl h
set_option maxRecDepth 20000 in
theorem t_X10_setsBy {D : Nat} (l1 : Int32) (l2 : Int32) (I : IM) (J : JM) (b : Bool) {Q : Option AV → AH → Prop} (h : (if ¬ (I 10 0 32) = 0 then (vp_in l1 7 ∧ (vp_in l1 7 ∧ (Call D 167 [vr 10 0, vi 0] (101, (updI (updI (updI (updI (updI (updI I 59 0 0 (I 10 0 10)) 59 0 1 (I 10 0 11)) 59 0 2 (I 43 0 l1.toNatClampNeg)) 59 0 3 (I 45 0 l1.toNatClampNeg)) 59 0 4 l2) 59 0 5 l1), J, R0 b) (RIf b fun x1 I2 J3 => (if 0 ≤ x1 then (if x1 ≤ (99 : Int32) then Q (some (vi x1)) (101, I2, J3, R0 b) else Q (some (vi 99)) (101, I2, J3, R0 b)) else Q (some (vi 0)) (101, I2, J3, R0 b)))))) else (if (1 : Int32) ≤ (((30 : Int32) - (I 10 0 10)) - ((I 10 0 11) / (2 : Int32))) then Q (some (vi (((30 : Int32) - (I 10 0 10)) - ((I 10 0 11) / (2 : Int32))))) (101, I, J, R0 b) else Q (some (vi 1)) (101, I, J, R0 b)))) : Call (D + 1) 169 [vr 10 0, vi l1, vi l2] (101, I, J, R0 b) Q := by
  refine Call.of rfl ?_
  show WP D 169 0 [vr 10 0, vi l1, vi l2, vn] [] (101, I, J, R0 b) Q
  refine WP.blk (pc' := 4) (L' := [vr 10 0, vi l1, vi l2, vn]) (st' := [vi (I 10 0 32)]) (h' := (101, I, J, R0 b)) 2 rfl ?_
  refine WP.if_ne (t := 33) (L' := [vr 10 0, vi l1, vi l2, vn]) rfl rfl rfl rfl h (fun h => ?_) (fun h => ?_)
  · refine WP.blk (pc' := 63) (L' := [vr 10 0, vi l1, vi l2, vn]) (st' := [vi l1, vr 43 0, vi 2, vr 59 0]) (h' := (101, (updI (updI I 59 0 0 (I 10 0 10)) 59 0 1 (I 10 0 11)), J, R0 b)) 18 rfl ?_
    refine WP.step (pc' := 64) (L' := [vr 10 0, vi l1, vi l2, vn]) (st' := [vi (I 43 0 l1.toNatClampNeg), vi 2, vr 59 0]) (h' := (101, (updI (updI I 59 0 0 (I 10 0 10)) 59 0 1 (I 10 0 11)), J, R0 b)) rfl (iaload_ok (n := 7) rfl rfl rfl (inA_of h.1)) ?_
    have h := And.right h
    refine WP.blk (pc' := 75) (L' := [vr 10 0, vi l1, vi l2, vn]) (st' := [vi l1, vr 45 0, vi 3, vr 59 0]) (h' := (101, (updI (updI (updI I 59 0 0 (I 10 0 10)) 59 0 1 (I 10 0 11)) 59 0 2 (I 43 0 l1.toNatClampNeg)), J, R0 b)) 7 rfl ?_
    refine WP.step (pc' := 76) (L' := [vr 10 0, vi l1, vi l2, vn]) (st' := [vi (I 45 0 l1.toNatClampNeg), vi 3, vr 59 0]) (h' := (101, (updI (updI (updI I 59 0 0 (I 10 0 10)) 59 0 1 (I 10 0 11)) 59 0 2 (I 43 0 l1.toNatClampNeg)), J, R0 b)) rfl (iaload_ok (n := 7) rfl rfl rfl (inA_of h.1)) ?_
    have h := And.right h
    refine WP.blk (pc' := 93) (L' := [vr 10 0, vi l1, vi l2, vn]) (st' := [vi 0, vr 10 0]) (h' := (101, (updI (updI (updI (updI (updI (updI I 59 0 0 (I 10 0 10)) 59 0 1 (I 10 0 11)) 59 0 2 (I 43 0 l1.toNatClampNeg)) 59 0 3 (I 45 0 l1.toNatClampNeg)) 59 0 4 l2) 59 0 5 l1), J, R0 b)) 13 rfl ?_
    refine WP.cal (y' := 167) (as := [vr 10 0, vi 0]) (L' := [vr 10 0, vi l1, vi l2, vn]) (rest := []) rfl (fun f r h' hf => callV_ok hf rfl rfl rfl) h ?_
    rintro _ _ ⟨x1, I2, J3, rfl, rfl, h⟩
    refine WP.blk (pc' := 98) (L' := [vr 10 0, vi l1, vi l2, vi x1]) (st' := [vi x1]) (h' := (101, I2, J3, R0 b)) 2 rfl ?_
    refine WP.if_ge (t := 105) (L' := [vr 10 0, vi l1, vi l2, vi x1]) rfl rfl rfl rfl h (fun h => ?_) (fun h => ?_)
    · refine WP.blk (pc' := 108) (L' := [vr 10 0, vi l1, vi l2, vi x1]) (st' := [vi 99, vi x1]) (h' := (101, I2, J3, R0 b)) 2 rfl ?_
      refine WP.icmp_le (t := 116) (L' := [vr 10 0, vi l1, vi l2, vi x1]) rfl rfl rfl rfl h (fun h => ?_) (fun h => ?_)
      · refine WP.blk (pc' := 117) (L' := [vr 10 0, vi l1, vi l2, vi x1]) (st' := [vi x1]) (h' := (101, I2, J3, R0 b)) 1 rfl ?_
        exact WP.ret rfl rfl h
      · refine WP.blk (pc' := 117) (L' := [vr 10 0, vi l1, vi l2, vi x1]) (st' := [vi 99]) (h' := (101, I2, J3, R0 b)) 2 rfl ?_
        exact WP.ret rfl rfl h
    · refine WP.blk (pc' := 117) (L' := [vr 10 0, vi l1, vi l2, vi x1]) (st' := [vi 0]) (h' := (101, I2, J3, R0 b)) 2 rfl ?_
      exact WP.ret rfl rfl h
  · refine WP.blk (pc' := 24) (L' := [vr 10 0, vi l1, vi l2, vi (((30 : Int32) - (I 10 0 10)) - ((I 10 0 11) / (2 : Int32)))]) (st' := [vi 1, vi (((30 : Int32) - (I 10 0 10)) - ((I 10 0 11) / (2 : Int32)))]) (h' := (101, I, J, R0 b)) 12 rfl ?_
    refine WP.icmp_ge (t := 31) (L' := [vr 10 0, vi l1, vi l2, vi (((30 : Int32) - (I 10 0 10)) - ((I 10 0 11) / (2 : Int32)))]) rfl rfl rfl rfl h (fun h => ?_) (fun h => ?_)
    · refine WP.blk (pc' := 32) (L' := [vr 10 0, vi l1, vi l2, vi (((30 : Int32) - (I 10 0 10)) - ((I 10 0 11) / (2 : Int32)))]) (st' := [vi (((30 : Int32) - (I 10 0 10)) - ((I 10 0 11) / (2 : Int32)))]) (h' := (101, I, J, R0 b)) 1 rfl ?_
      exact WP.ret rfl rfl h
    · refine WP.blk (pc' := 32) (L' := [vr 10 0, vi l1, vi l2, vi (((30 : Int32) - (I 10 0 10)) - ((I 10 0 11) / (2 : Int32)))]) (st' := [vi 1]) (h' := (101, I, J, R0 b)) 2 rfl ?_
      exact WP.ret rfl rfl h
set_option maxRecDepth 20000 in
theorem t_X10_sets {D : Nat} (l1 : Int32) (I : IM) (J : JM) (b : Bool) {Q : Option AV → AH → Prop} (h : (if l1 < 0 then Q (some (vi (-1))) (101, I, J, R0 b) else (Call D 137 [vr 10 0, vi (l1 / (10 : Int32))] (101, I, J, R0 b) (RIf b fun x1 I2 J3 => (if x1 = 0 then Q (some (vi (-1))) (101, I2, J3, R0 b) else (if (7 : Int32) < (l1 - l1 / (10 : Int32) * (10 : Int32)) then Q (some (vi (-1))) (101, I2, J3, R0 b) else (Call D 169 [vr 10 0, vi (l1 / (10 : Int32)), vi (l1 - l1 / (10 : Int32) * (10 : Int32))] (101, I2, J3, R0 b) (RIf b fun x4 I5 J6 => Q (some (vi x4)) (101, I5, J6, R0 b))))))))) : Call (D + 1) 170 [vr 10 0, vi l1] (101, I, J, R0 b) Q := by
  refine Call.of rfl ?_
  show WP D 170 0 [vr 10 0, vi l1] [] (101, I, J, R0 b) Q
  refine WP.blk (pc' := 1) (L' := [vr 10 0, vi l1]) (st' := [vi l1]) (h' := (101, I, J, R0 b)) 1 rfl ?_
  refine WP.if_lt (t := 39) (L' := [vr 10 0, vi l1]) rfl rfl rfl rfl h (fun h => ?_) (fun h => ?_)
  · refine WP.blk (pc' := 40) (L' := [vn, vn]) (st' := [vi (-1)]) (h' := (101, I, J, R0 b)) 1 rfl ?_
    exact WP.ret rfl rfl h
  · refine WP.blk (pc' := 9) (L' := [vr 10 0, vi l1]) (st' := [vi (l1 / (10 : Int32)), vr 10 0]) (h' := (101, I, J, R0 b)) 4 rfl ?_
    refine WP.cal (y' := 137) (as := [vr 10 0, vi (l1 / (10 : Int32))]) (L' := [vr 10 0, vi l1]) (rest := []) rfl (fun f r h' hf => callV_ok hf rfl rfl rfl) h ?_
    rintro _ _ ⟨x1, I2, J3, rfl, rfl, h⟩
    refine WP.if_eq (t := 39) (L' := [vr 10 0, vi l1]) rfl rfl rfl rfl h (fun h => ?_) (fun h => ?_)
    · refine WP.blk (pc' := 40) (L' := [vn, vn]) (st' := [vi (-1)]) (h' := (101, I2, J3, R0 b)) 1 rfl ?_
      exact WP.ret rfl rfl h
    · refine WP.blk (pc' := 21) (L' := [vr 10 0, vi l1]) (st' := [vi 7, vi (l1 - l1 / (10 : Int32) * (10 : Int32))]) (h' := (101, I2, J3, R0 b)) 4 rfl ?_
      refine WP.icmp_gt (t := 39) (L' := [vr 10 0, vi l1]) rfl rfl rfl rfl h (fun h => ?_) (fun h => ?_)
      · refine WP.blk (pc' := 40) (L' := [vn, vn]) (st' := [vi (-1)]) (h' := (101, I2, J3, R0 b)) 1 rfl ?_
        exact WP.ret rfl rfl h
      · refine WP.blk (pc' := 33) (L' := [vr 10 0, vi l1]) (st' := [vi (l1 - l1 / (10 : Int32) * (10 : Int32)), vi (l1 / (10 : Int32)), vr 10 0]) (h' := (101, I2, J3, R0 b)) 7 rfl ?_
        refine WP.cal (y' := 169) (as := [vr 10 0, vi (l1 / (10 : Int32)), vi (l1 - l1 / (10 : Int32) * (10 : Int32))]) (L' := [vr 10 0, vi l1]) (rest := []) rfl (fun f r h' hf => callV_ok hf rfl rfl rfl) h ?_
        rintro _ _ ⟨x4, I5, J6, rfl, rfl, h⟩
        refine WP.blk (pc' := 40) (L' := [vr 10 0, vi l1]) (st' := [vi x4]) (h' := (101, I5, J6, R0 b)) 1 rfl ?_
        exact WP.ret rfl rfl h
