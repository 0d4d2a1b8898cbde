/-! TREES, by program (wip/whole/gen16.py): what each method does between its cuts -/
set_option maxRecDepth 20000 in
theorem t_X9_joint {D : Nat} (l1 : Int32) (l2 : Int32) (I : IM) (J : JM) (b : Bool) {Q : Option AV → AH → Prop} (h : (Call D 10 [vr 1 0, vi 0, vi 0, vi l1] (101, I, J, R0 b) (RIf b fun x1 I2 J3 => (if x1 = 0 then Q (some (vi (-1))) (101, I2, J3, R0 b) else (Call D 10 [vr 1 0, vi 0, vi 1, vi l2] (101, I2, J3, R0 b) (RIf b fun x4 I5 J6 => (if ¬ x4 = 0 then (Call D 13 [vr 1 0, vi l1, vi l2, vi 1] (101, I5, J6, R0 b) (RIf b fun x7 I8 J9 => Q (some (vi x7)) (101, I8, J9, R0 b))) else Q (some (vi (-1))) (101, I5, J6, R0 b)))))))) : Call (D + 1) 79 [vr 9 0, vi l1, vi l2] (101, I, J, R0 b) Q := by
  refine Call.of rfl ?_
  show WP D 79 0 [vr 9 0, vi l1, vi l2] [] (101, I, J, R0 b) Q
  refine WP.blk (pc' := 7) (L' := [vr 9 0, vi l1, vi l2]) (st' := [vi l1, vi 0, vi 0, vr 1 0]) (h' := (101, I, J, R0 b)) 5 rfl ?_
  refine WP.cal (y' := 10) (as := [vr 1 0, vi 0, vi 0, vi l1]) (L' := [vr 9 0, vi l1, vi l2]) (rest := []) rfl (fun f r h' hf => callV_ok hf rfl rfl rfl) h ?_
  rintro _ _ ⟨x1, I2, J3, rfl, rfl, h⟩
  refine WP.if_eq (t := 26) (L' := [vr 9 0, vi l1, vi l2]) rfl rfl rfl rfl h (fun h => ?_) (fun h => ?_)
  · refine WP.blk (pc' := 27) (L' := [vn, vn, vn]) (st' := [vi (-1)]) (h' := (101, I2, J3, R0 b)) 1 rfl ?_
    exact WP.ret rfl rfl h
  · refine WP.blk (pc' := 20) (L' := [vr 9 0, vi l1, vi l2]) (st' := [vi l2, vi 1, vi 0, vr 1 0]) (h' := (101, I2, J3, R0 b)) 5 rfl ?_
    refine WP.cal (y' := 10) (as := [vr 1 0, vi 0, vi 1, vi l2]) (L' := [vr 9 0, vi l1, vi l2]) (rest := []) rfl (fun f r h' hf => callV_ok hf rfl rfl rfl) h ?_
    rintro _ _ ⟨x4, I5, J6, rfl, rfl, h⟩
    refine WP.if_ne (t := 28) (L' := [vr 9 0, vi l1, vi l2]) rfl rfl rfl rfl h (fun h => ?_) (fun h => ?_)
    · refine WP.blk (pc' := 35) (L' := [vr 9 0, vi l1, vi l2]) (st' := [vi 1, vi l2, vi l1, vr 1 0]) (h' := (101, I5, J6, R0 b)) 5 rfl ?_
      refine WP.cal (y' := 13) (as := [vr 1 0, vi l1, vi l2, vi 1]) (L' := [vr 9 0, vi l1, vi l2]) (rest := []) rfl (fun f r h' hf => callV_ok hf rfl rfl rfl) h ?_
      rintro _ _ ⟨x7, I8, J9, rfl, rfl, h⟩
      exact WP.ret rfl rfl h
    · refine WP.blk (pc' := 27) (L' := [vn, vn, vn]) (st' := [vi (-1)]) (h' := (101, I5, J6, R0 b)) 1 rfl ?_
      exact WP.ret rfl rfl h
set_option maxRecDepth 20000 in
theorem t_X9_joints {D : Nat} (l1 : Int32) (l2 : Int32) (l3 : Int32) (I : IM) (J : JM) (b : Bool) {Q : Option AV → AH → Prop} (h : (Call D 123 [vi l1] (101, I, J, R0 b) (RIf b fun x1 I2 J3 => (if x1 = 0 then Q (some (vi (-1))) (101, I2, J3, R0 b) else (if l3 < (1 : Int32) then Q (some (vi (-1))) (101, I2, J3, R0 b) else (if l3 ≤ (7 : Int32) then (vp_in l1 6 ∧ (Call D 50 [vr 6 l1.toNatClampNeg, vi 0] (101, I2, J3, R0 b) (RIf b fun x4 I5 J6 => (if ¬ x4 = (-12 : Int32) then (if ¬ x4 = 0 then Q (some (vi 0)) (101, I5, J6, R0 b) else (if 0 ≤ l2 then WP D 80 56 [vr 9 0, vi l1, vi l2, vi l3, vn, vi 0] [] (101, I5, J6, R0 b) Q else Q (some (vi 0)) (101, I5, J6, R0 b))) else Q (some (vi (-12))) (101, I5, J6, R0 b))))) else Q (some (vi (-1))) (101, I2, J3, R0 b))))))) : Call (D + 1) 80 [vr 9 0, vi l1, vi l2, vi l3] (101, I, J, R0 b) Q := by
  refine Call.of rfl ?_
  show WP D 80 0 [vr 9 0, vi l1, vi l2, vi l3, vn, vn] [] (101, I, J, R0 b) Q
  refine WP.blk (pc' := 1) (L' := [vr 9 0, vi l1, vi l2, vi l3, vn, vn]) (st' := [vi l1]) (h' := (101, I, J, R0 b)) 1 rfl ?_
  refine WP.cal (y' := 123) (as := [vi l1]) (L' := [vr 9 0, vi l1, vi l2, vi l3, vn, vn]) (rest := []) rfl (fun f r h' hf => callS_ok hf rfl rfl rfl) h ?_
  rintro _ _ ⟨x1, I2, J3, rfl, rfl, h⟩
  refine WP.if_eq (t := 18) (L' := [vr 9 0, vi l1, vi l2, vi l3, vn, vn]) rfl rfl rfl rfl h (fun h => ?_) (fun h => ?_)
  · refine WP.blk (pc' := 19) (L' := [vn, vn, vn, vn, vn, vn]) (st' := [vi (-1)]) (h' := (101, I2, J3, R0 b)) 1 rfl ?_
    exact WP.ret rfl rfl h
  · refine WP.blk (pc' := 9) (L' := [vr 9 0, vi l1, vi l2, vi l3, vn, vn]) (st' := [vi 1, vi l3]) (h' := (101, I2, J3, R0 b)) 2 rfl ?_
    refine WP.icmp_lt (t := 18) (L' := [vr 9 0, vi l1, vi l2, vi l3, vn, vn]) rfl rfl rfl rfl h (fun h => ?_) (fun h => ?_)
    · refine WP.blk (pc' := 19) (L' := [vn, vn, vn, vn, vn, vn]) (st' := [vi (-1)]) (h' := (101, I2, J3, R0 b)) 1 rfl ?_
      exact WP.ret rfl rfl h
    · refine WP.blk (pc' := 15) (L' := [vr 9 0, vi l1, vi l2, vi l3, vn, vn]) (st' := [vi 7, vi l3]) (h' := (101, I2, J3, R0 b)) 2 rfl ?_
      refine WP.icmp_le (t := 20) (L' := [vr 9 0, vi l1, vi l2, vi l3, vn, vn]) rfl rfl rfl rfl h (fun h => ?_) (fun h => ?_)
      · refine WP.blk (pc' := 25) (L' := [vr 9 0, vi l1, vi l2, vi l3, vn, vn]) (st' := [vi l1, vr 40 0]) (h' := (101, I2, J3, R0 b)) 3 rfl ?_
        refine WP.step (pc' := 26) (L' := [vr 9 0, vi l1, vi l2, vi l3, vn, vn]) (st' := [vr 6 l1.toNatClampNeg]) (h' := (101, I2, J3, R0 b)) rfl (aaload_ok (n := 6) rfl rfl rfl rfl (inA_of h.1)) ?_
        have h := And.right h
        refine WP.blk (pc' := 27) (L' := [vr 9 0, vi l1, vi l2, vi l3, vn, vn]) (st' := [vi 0, vr 6 l1.toNatClampNeg]) (h' := (101, I2, J3, R0 b)) 1 rfl ?_
        refine WP.cal (y' := 50) (as := [vr 6 l1.toNatClampNeg, vi 0]) (L' := [vr 9 0, vi l1, vi l2, vi l3, vn, vn]) (rest := []) rfl (fun f r h' hf => callV_ok hf rfl rfl rfl) h ?_
        rintro _ _ ⟨x4, I5, J6, rfl, rfl, h⟩
        refine WP.blk (pc' := 36) (L' := [vr 9 0, vi l1, vi l2, vi l3, vi x4, vn]) (st' := [vi (-12), vi x4]) (h' := (101, I5, J6, R0 b)) 3 rfl ?_
        refine WP.icmp_ne (t := 42) (L' := [vr 9 0, vi l1, vi l2, vi l3, vi x4, vn]) rfl rfl rfl rfl h (fun h => ?_) (fun h => ?_)
        · refine WP.blk (pc' := 44) (L' := [vr 9 0, vi l1, vi l2, vi l3, vi x4, vn]) (st' := [vi x4]) (h' := (101, I5, J6, R0 b)) 1 rfl ?_
          refine WP.if_ne (t := 51) (L' := [vr 9 0, vi l1, vi l2, vi l3, vi x4, vn]) rfl rfl rfl rfl h (fun h => ?_) (fun h => ?_)
          · refine WP.blk (pc' := 52) (L' := [vn, vn, vn, vn, vn, vn]) (st' := [vi 0]) (h' := (101, I5, J6, R0 b)) 1 rfl ?_
            exact WP.ret rfl rfl h
          · refine WP.blk (pc' := 48) (L' := [vr 9 0, vi l1, vi l2, vi l3, vi x4, vn]) (st' := [vi l2]) (h' := (101, I5, J6, R0 b)) 1 rfl ?_
            refine WP.if_ge (t := 53) (L' := [vr 9 0, vi l1, vi l2, vi l3, vi x4, vn]) rfl rfl rfl rfl h (fun h => ?_) (fun h => ?_)
            · refine WP.blk (pc' := 56) (L' := [vr 9 0, vi l1, vi l2, vi l3, vi x4, vi 0]) (st' := []) (h' := (101, I5, J6, R0 b)) 2 rfl ?_
              exact WP.mask rfl rfl h
            · refine WP.blk (pc' := 52) (L' := [vn, vn, vn, vn, vn, vn]) (st' := [vi 0]) (h' := (101, I5, J6, R0 b)) 1 rfl ?_
              exact WP.ret rfl rfl h
        · refine WP.blk (pc' := 41) (L' := [vr 9 0, vi l1, vi l2, vi l3, vi x4, vn]) (st' := [vi (-12)]) (h' := (101, I5, J6, R0 b)) 1 rfl ?_
          exact WP.ret rfl rfl h
      · refine WP.blk (pc' := 19) (L' := [vn, vn, vn, vn, vn, vn]) (st' := [vi (-1)]) (h' := (101, I2, J3, R0 b)) 1 rfl ?_
        exact WP.ret rfl rfl h
set_option maxRecDepth 20000 in
theorem t_X9_joints_56 {D : Nat} (l1 : Int32) (l2 : Int32) (l3 : Int32) (l5 : Int32) (I : IM) (J : JM) (b : Bool) {Q : Option AV → AH → Prop} (h : (if l3 ≤ l5 then Q (some (vi l5)) (101, I, J, R0 b) else (vp_in l1 6 ∧ (Call D 81 [vr 9 0, vr 6 l1.toNatClampNeg, vl ((l2).toInt64 + (((3 : Int32) * l5)).toInt64)] (101, I, J, R0 b) (RIf b fun x7 I8 J9 => (if x7 = 0 then Q (some (vi l5)) (101, I8, J9, R0 b) else WP D 80 56 [vr 9 0, vi l1, vi l2, vi l3, vn, vi (l5 + 1)] [] (101, I8, J9, R0 b) Q)))))) : WP D 80 56 [vr 9 0, vi l1, vi l2, vi l3, vn, vi l5] [] (101, I, J, R0 b) Q := by
  refine WP.blk (pc' := 59) (L' := [vr 9 0, vi l1, vi l2, vi l3, vn, vi l5]) (st' := [vi l3, vi l5]) (h' := (101, I, J, R0 b)) 2 rfl ?_
  refine WP.icmp_ge (t := 89) (L' := [vr 9 0, vi l1, vi l2, vi l3, vn, vi l5]) rfl rfl rfl rfl h (fun h => ?_) (fun h => ?_)
  · refine WP.blk (pc' := 91) (L' := [vn, vn, vn, vn, vn, vi l5]) (st' := [vi l5]) (h' := (101, I, J, R0 b)) 1 rfl ?_
    exact WP.ret rfl rfl h
  · refine WP.blk (pc' := 68) (L' := [vr 9 0, vi l1, vi l2, vi l3, vn, vi l5]) (st' := [vi l1, vr 40 0, vr 9 0]) (h' := (101, I, J, R0 b)) 4 rfl ?_
    refine WP.step (pc' := 69) (L' := [vr 9 0, vi l1, vi l2, vi l3, vn, vi l5]) (st' := [vr 6 l1.toNatClampNeg, vr 9 0]) (h' := (101, I, J, R0 b)) rfl (aaload_ok (n := 6) rfl rfl rfl rfl (inA_of h.1)) ?_
    have h := And.right h
    refine WP.blk (pc' := 77) (L' := [vr 9 0, vi l1, vi l2, vi l3, vn, vi l5]) (st' := [vl ((l2).toInt64 + (((3 : Int32) * l5)).toInt64), vr 6 l1.toNatClampNeg, vr 9 0]) (h' := (101, I, J, R0 b)) 7 rfl ?_
    refine WP.cal (y' := 81) (as := [vr 9 0, vr 6 l1.toNatClampNeg, vl ((l2).toInt64 + (((3 : Int32) * l5)).toInt64)]) (L' := [vr 9 0, vi l1, vi l2, vi l3, vn, vi l5]) (rest := []) rfl (fun f r h' hf => callV_ok hf rfl rfl rfl) h ?_
    rintro _ _ ⟨x7, I8, J9, rfl, rfl, h⟩
    refine WP.if_eq (t := 89) (L' := [vr 9 0, vi l1, vi l2, vi l3, vn, vi l5]) rfl rfl rfl rfl h (fun h => ?_) (fun h => ?_)
    · refine WP.blk (pc' := 91) (L' := [vn, vn, vn, vn, vn, vi l5]) (st' := [vi l5]) (h' := (101, I8, J9, R0 b)) 1 rfl ?_
      exact WP.ret rfl rfl h
    · refine WP.blk (pc' := 56) (L' := [vr 9 0, vi l1, vi l2, vi l3, vn, vi (l5 + 1)]) (st' := []) (h' := (101, I8, J9, R0 b)) 2 rfl ?_
      exact WP.mask rfl rfl h
set_option maxRecDepth 20000 in
theorem t_X9_jointFromRow {D : Nat} (w1 : Nat) (l2 : Int64) (I : IM) (J : JM) (b : Bool) {Q : Option AV → AH → Prop} (h : (if (lg_cmp (l2 + (3 : Int64)) ((I 6 w1 3)).toInt64) ≤ 0 then (vp_in (l2).toInt32 60 ∧ (vp_in ((l2).toInt32 + (1 : Int32)) 60 ∧ (vp_in ((l2).toInt32 + (2 : Int32)) 60 ∧ (Call D 10 [vr 1 0, vi 0, vi 0, vi ((J 41 w1 (l2).toInt32.toNatClampNeg)).toInt32] (101, I, J, R0 b) (RIf b fun x1 I2 J3 => (if x1 = 0 then Q (some (vi 0)) (101, I2, J3, R0 b) else (Call D 10 [vr 1 0, vi 0, vi 1, vi ((J 41 w1 ((l2).toInt32 + (1 : Int32)).toNatClampNeg)).toInt32] (101, I2, J3, R0 b) (RIf b fun x4 I5 J6 => (if x4 = 0 then Q (some (vi 0)) (101, I5, J6, R0 b) else (Call D 10 [vr 1 0, vi 0, vi 2, vi ((J 41 w1 ((l2).toInt32 + (2 : Int32)).toNatClampNeg)).toInt32] (101, I5, J6, R0 b) (RIf b fun x7 I8 J9 => (if ¬ x7 = 0 then (Call D 13 [vr 1 0, vi ((J 41 w1 (l2).toInt32.toNatClampNeg)).toInt32, vi ((J 41 w1 ((l2).toInt32 + (1 : Int32)).toNatClampNeg)).toInt32, vi ((J 41 w1 ((l2).toInt32 + (2 : Int32)).toNatClampNeg)).toInt32] (101, I8, J9, R0 b) (RIf b fun x10 I11 J12 => (if x10 < 0 then Q (some (vi 0)) (101, I11, J12, R0 b) else Q (some (vi 1)) (101, I11, J12, R0 b)))) else Q (some (vi 0)) (101, I8, J9, R0 b))))))))))))) else Q (some (vi 0)) (101, I, J, R0 b))) : Call (D + 1) 81 [vr 9 0, vr 6 w1, vl l2] (101, I, J, R0 b) Q := by
  refine Call.of rfl ?_
  show WP D 81 0 [vr 9 0, vr 6 w1, vl l2, vn, vn, vn, vn, vn] [] (101, I, J, R0 b) Q
  refine WP.blk (pc' := 11) (L' := [vr 9 0, vr 6 w1, vl l2, vn, vn, vn, vn, vn]) (st' := [vi (lg_cmp (l2 + (3 : Int64)) ((I 6 w1 3)).toInt64)]) (h' := (101, I, J, R0 b)) 7 rfl ?_
  refine WP.if_le (t := 16) (L' := [vr 9 0, vr 6 w1, vl l2, vn, vn, vn, vn, vn]) rfl rfl rfl rfl h (fun h => ?_) (fun h => ?_)
  · refine WP.blk (pc' := 26) (L' := [vr 9 0, vr 6 w1, vl l2, vn, vi (l2).toInt32, vn, vn, vn]) (st' := [vi (l2).toInt32, vr 41 w1]) (h' := (101, I, J, R0 b)) 6 rfl ?_
    refine WP.step (pc' := 27) (L' := [vr 9 0, vr 6 w1, vl l2, vn, vi (l2).toInt32, vn, vn, vn]) (st' := [vl (J 41 w1 (l2).toInt32.toNatClampNeg)]) (h' := (101, I, J, R0 b)) rfl (laload_ok (n := 60) rfl rfl rfl (inA_of h.1)) ?_
    have h := And.right h
    refine WP.blk (pc' := 38) (L' := [vr 9 0, vr 6 w1, vl l2, vn, vi (l2).toInt32, vi ((J 41 w1 (l2).toInt32.toNatClampNeg)).toInt32, vn, vn]) (st' := [vi ((l2).toInt32 + (1 : Int32)), vr 41 w1]) (h' := (101, I, J, R0 b)) 7 rfl ?_
    refine WP.step (pc' := 39) (L' := [vr 9 0, vr 6 w1, vl l2, vn, vi (l2).toInt32, vi ((J 41 w1 (l2).toInt32.toNatClampNeg)).toInt32, vn, vn]) (st' := [vl (J 41 w1 ((l2).toInt32 + (1 : Int32)).toNatClampNeg)]) (h' := (101, I, J, R0 b)) rfl (laload_ok (n := 60) rfl rfl rfl (inA_of h.1)) ?_
    have h := And.right h
    refine WP.blk (pc' := 50) (L' := [vr 9 0, vr 6 w1, vl l2, vn, vi (l2).toInt32, vi ((J 41 w1 (l2).toInt32.toNatClampNeg)).toInt32, vi ((J 41 w1 ((l2).toInt32 + (1 : Int32)).toNatClampNeg)).toInt32, vn]) (st' := [vi ((l2).toInt32 + (2 : Int32)), vr 41 w1]) (h' := (101, I, J, R0 b)) 7 rfl ?_
    refine WP.step (pc' := 51) (L' := [vr 9 0, vr 6 w1, vl l2, vn, vi (l2).toInt32, vi ((J 41 w1 (l2).toInt32.toNatClampNeg)).toInt32, vi ((J 41 w1 ((l2).toInt32 + (1 : Int32)).toNatClampNeg)).toInt32, vn]) (st' := [vl (J 41 w1 ((l2).toInt32 + (2 : Int32)).toNatClampNeg)]) (h' := (101, I, J, R0 b)) rfl (laload_ok (n := 60) rfl rfl rfl (inA_of h.1)) ?_
    have h := And.right h
    refine WP.blk (pc' := 62) (L' := [vr 9 0, vr 6 w1, vl l2, vn, vi (l2).toInt32, vi ((J 41 w1 (l2).toInt32.toNatClampNeg)).toInt32, vi ((J 41 w1 ((l2).toInt32 + (1 : Int32)).toNatClampNeg)).toInt32, vi ((J 41 w1 ((l2).toInt32 + (2 : Int32)).toNatClampNeg)).toInt32]) (st' := [vi ((J 41 w1 (l2).toInt32.toNatClampNeg)).toInt32, vi 0, vi 0, vr 1 0]) (h' := (101, I, J, R0 b)) 7 rfl ?_
    refine WP.cal (y' := 10) (as := [vr 1 0, vi 0, vi 0, vi ((J 41 w1 (l2).toInt32.toNatClampNeg)).toInt32]) (L' := [vr 9 0, vr 6 w1, vl l2, vn, vi (l2).toInt32, vi ((J 41 w1 (l2).toInt32.toNatClampNeg)).toInt32, vi ((J 41 w1 ((l2).toInt32 + (1 : Int32)).toNatClampNeg)).toInt32, vi ((J 41 w1 ((l2).toInt32 + (2 : Int32)).toNatClampNeg)).toInt32]) (rest := []) rfl (fun f r h' hf => callV_ok hf rfl rfl rfl) h ?_
    rintro _ _ ⟨x1, I2, J3, rfl, rfl, h⟩
    refine WP.if_eq (t := 96) (L' := [vr 9 0, vr 6 w1, vl l2, vn, vi (l2).toInt32, vi ((J 41 w1 (l2).toInt32.toNatClampNeg)).toInt32, vi ((J 41 w1 ((l2).toInt32 + (1 : Int32)).toNatClampNeg)).toInt32, vi ((J 41 w1 ((l2).toInt32 + (2 : Int32)).toNatClampNeg)).toInt32]) rfl rfl rfl rfl h (fun h => ?_) (fun h => ?_)
    · refine WP.blk (pc' := 97) (L' := [vn, vn, vn, vn, vn, vn, vn, vn]) (st' := [vi 0]) (h' := (101, I2, J3, R0 b)) 1 rfl ?_
      exact WP.ret rfl rfl h
    · refine WP.blk (pc' := 76) (L' := [vr 9 0, vr 6 w1, vl l2, vn, vi (l2).toInt32, vi ((J 41 w1 (l2).toInt32.toNatClampNeg)).toInt32, vi ((J 41 w1 ((l2).toInt32 + (1 : Int32)).toNatClampNeg)).toInt32, vi ((J 41 w1 ((l2).toInt32 + (2 : Int32)).toNatClampNeg)).toInt32]) (st' := [vi ((J 41 w1 ((l2).toInt32 + (1 : Int32)).toNatClampNeg)).toInt32, vi 1, vi 0, vr 1 0]) (h' := (101, I2, J3, R0 b)) 5 rfl ?_
      refine WP.cal (y' := 10) (as := [vr 1 0, vi 0, vi 1, vi ((J 41 w1 ((l2).toInt32 + (1 : Int32)).toNatClampNeg)).toInt32]) (L' := [vr 9 0, vr 6 w1, vl l2, vn, vi (l2).toInt32, vi ((J 41 w1 (l2).toInt32.toNatClampNeg)).toInt32, vi ((J 41 w1 ((l2).toInt32 + (1 : Int32)).toNatClampNeg)).toInt32, vi ((J 41 w1 ((l2).toInt32 + (2 : Int32)).toNatClampNeg)).toInt32]) (rest := []) rfl (fun f r h' hf => callV_ok hf rfl rfl rfl) h ?_
      rintro _ _ ⟨x4, I5, J6, rfl, rfl, h⟩
      refine WP.if_eq (t := 96) (L' := [vr 9 0, vr 6 w1, vl l2, vn, vi (l2).toInt32, vi ((J 41 w1 (l2).toInt32.toNatClampNeg)).toInt32, vi ((J 41 w1 ((l2).toInt32 + (1 : Int32)).toNatClampNeg)).toInt32, vi ((J 41 w1 ((l2).toInt32 + (2 : Int32)).toNatClampNeg)).toInt32]) rfl rfl rfl rfl h (fun h => ?_) (fun h => ?_)
      · refine WP.blk (pc' := 97) (L' := [vn, vn, vn, vn, vn, vn, vn, vn]) (st' := [vi 0]) (h' := (101, I5, J6, R0 b)) 1 rfl ?_
        exact WP.ret rfl rfl h
      · refine WP.blk (pc' := 90) (L' := [vr 9 0, vr 6 w1, vl l2, vn, vi (l2).toInt32, vi ((J 41 w1 (l2).toInt32.toNatClampNeg)).toInt32, vi ((J 41 w1 ((l2).toInt32 + (1 : Int32)).toNatClampNeg)).toInt32, vi ((J 41 w1 ((l2).toInt32 + (2 : Int32)).toNatClampNeg)).toInt32]) (st' := [vi ((J 41 w1 ((l2).toInt32 + (2 : Int32)).toNatClampNeg)).toInt32, vi 2, vi 0, vr 1 0]) (h' := (101, I5, J6, R0 b)) 5 rfl ?_
        refine WP.cal (y' := 10) (as := [vr 1 0, vi 0, vi 2, vi ((J 41 w1 ((l2).toInt32 + (2 : Int32)).toNatClampNeg)).toInt32]) (L' := [vr 9 0, vr 6 w1, vl l2, vn, vi (l2).toInt32, vi ((J 41 w1 (l2).toInt32.toNatClampNeg)).toInt32, vi ((J 41 w1 ((l2).toInt32 + (1 : Int32)).toNatClampNeg)).toInt32, vi ((J 41 w1 ((l2).toInt32 + (2 : Int32)).toNatClampNeg)).toInt32]) (rest := []) rfl (fun f r h' hf => callV_ok hf rfl rfl rfl) h ?_
        rintro _ _ ⟨x7, I8, J9, rfl, rfl, h⟩
        refine WP.if_ne (t := 98) (L' := [vr 9 0, vr 6 w1, vl l2, vn, vi (l2).toInt32, vi ((J 41 w1 (l2).toInt32.toNatClampNeg)).toInt32, vi ((J 41 w1 ((l2).toInt32 + (1 : Int32)).toNatClampNeg)).toInt32, vi ((J 41 w1 ((l2).toInt32 + (2 : Int32)).toNatClampNeg)).toInt32]) rfl rfl rfl rfl h (fun h => ?_) (fun h => ?_)
        · refine WP.blk (pc' := 108) (L' := [vr 9 0, vr 6 w1, vl l2, vn, vi (l2).toInt32, vi ((J 41 w1 (l2).toInt32.toNatClampNeg)).toInt32, vi ((J 41 w1 ((l2).toInt32 + (1 : Int32)).toNatClampNeg)).toInt32, vi ((J 41 w1 ((l2).toInt32 + (2 : Int32)).toNatClampNeg)).toInt32]) (st' := [vi ((J 41 w1 ((l2).toInt32 + (2 : Int32)).toNatClampNeg)).toInt32, vi ((J 41 w1 ((l2).toInt32 + (1 : Int32)).toNatClampNeg)).toInt32, vi ((J 41 w1 (l2).toInt32.toNatClampNeg)).toInt32, vr 1 0]) (h' := (101, I8, J9, R0 b)) 5 rfl ?_
          refine WP.cal (y' := 13) (as := [vr 1 0, vi ((J 41 w1 (l2).toInt32.toNatClampNeg)).toInt32, vi ((J 41 w1 ((l2).toInt32 + (1 : Int32)).toNatClampNeg)).toInt32, vi ((J 41 w1 ((l2).toInt32 + (2 : Int32)).toNatClampNeg)).toInt32]) (L' := [vr 9 0, vr 6 w1, vl l2, vn, vi (l2).toInt32, vi ((J 41 w1 (l2).toInt32.toNatClampNeg)).toInt32, vi ((J 41 w1 ((l2).toInt32 + (1 : Int32)).toNatClampNeg)).toInt32, vi ((J 41 w1 ((l2).toInt32 + (2 : Int32)).toNatClampNeg)).toInt32]) (rest := []) rfl (fun f r h' hf => callV_ok hf rfl rfl rfl) h ?_
          rintro _ _ ⟨x10, I11, J12, rfl, rfl, h⟩
          refine WP.if_lt (t := 118) (L' := [vr 9 0, vr 6 w1, vl l2, vn, vi (l2).toInt32, vi ((J 41 w1 (l2).toInt32.toNatClampNeg)).toInt32, vi ((J 41 w1 ((l2).toInt32 + (1 : Int32)).toNatClampNeg)).toInt32, vi ((J 41 w1 ((l2).toInt32 + (2 : Int32)).toNatClampNeg)).toInt32]) rfl rfl rfl rfl h (fun h => ?_) (fun h => ?_)
          · refine WP.blk (pc' := 119) (L' := [vr 9 0, vr 6 w1, vl l2, vn, vi (l2).toInt32, vi ((J 41 w1 (l2).toInt32.toNatClampNeg)).toInt32, vi ((J 41 w1 ((l2).toInt32 + (1 : Int32)).toNatClampNeg)).toInt32, vi ((J 41 w1 ((l2).toInt32 + (2 : Int32)).toNatClampNeg)).toInt32]) (st' := [vi 0]) (h' := (101, I11, J12, R0 b)) 1 rfl ?_
            exact WP.ret rfl rfl h
          · refine WP.blk (pc' := 119) (L' := [vr 9 0, vr 6 w1, vl l2, vn, vi (l2).toInt32, vi ((J 41 w1 (l2).toInt32.toNatClampNeg)).toInt32, vi ((J 41 w1 ((l2).toInt32 + (1 : Int32)).toNatClampNeg)).toInt32, vi ((J 41 w1 ((l2).toInt32 + (2 : Int32)).toNatClampNeg)).toInt32]) (st' := [vi 1]) (h' := (101, I11, J12, R0 b)) 2 rfl ?_
            exact WP.ret rfl rfl h
        · refine WP.blk (pc' := 97) (L' := [vn, vn, vn, vn, vn, vn, vn, vn]) (st' := [vi 0]) (h' := (101, I8, J9, R0 b)) 1 rfl ?_
          exact WP.ret rfl rfl h
  · refine WP.blk (pc' := 15) (L' := [vr 9 0, vr 6 w1, vl l2, vn, vn, vn, vn, vn]) (st' := [vi 0]) (h' := (101, I, J, R0 b)) 1 rfl ?_
    exact WP.ret rfl rfl h
set_option maxRecDepth 20000 in
theorem t_X9_mend {D : Nat} (l1 : Int32) (l2 : Int32) (l3 : Int32) (I : IM) (J : JM) (b : Bool) {Q : Option AV → AH → Prop} (h : (Call D 9 [vr 1 0, vi l1, vi l2] (101, I, J, R0 b) (RIf b fun x1 I2 J3 => (if x1 < 0 then Q (some (vi (-1))) (101, I2, J3, R0 b) else (Call D 10 [vr 1 0, vi l1, vi l2, vi l3] (101, I2, J3, R0 b) (RIf b fun x4 I5 J6 => (if ¬ x4 = 0 then (Call D 257 [vr 1 0, vi x1] (101, I5, J6, R0 b) (RIf b fun x7 I8 J9 => (if x7 = l3 then Q (some (vi x7)) (101, I8, J9, R0 b) else (Call D 258 [vr 1 0, vi x1, vi l3] (101, I8, J9, R0 b) (RVf b fun I11 J12 => (Call D 34 [vr 4 0, vi x1, vi x7, vi l3] (101, I11, J12, R0 b) (RVf b fun I14 J15 => Q (some (vi x7)) (101, I14, J15, R0 b)))))))) else Q (some (vi (-1))) (101, I5, J6, R0 b)))))))) : Call (D + 1) 82 [vr 9 0, vi l1, vi l2, vi l3] (101, I, J, R0 b) Q := by
  refine Call.of rfl ?_
  show WP D 82 0 [vr 9 0, vi l1, vi l2, vi l3, vn, vn] [] (101, I, J, R0 b) Q
  refine WP.blk (pc' := 6) (L' := [vr 9 0, vi l1, vi l2, vi l3, vn, vn]) (st' := [vi l2, vi l1, vr 1 0]) (h' := (101, I, J, R0 b)) 4 rfl ?_
  refine WP.cal (y' := 9) (as := [vr 1 0, vi l1, vi l2]) (L' := [vr 9 0, vi l1, vi l2, vi l3, vn, vn]) (rest := []) rfl (fun f r h' hf => callV_ok hf rfl rfl rfl) h ?_
  rintro _ _ ⟨x1, I2, J3, rfl, rfl, h⟩
  refine WP.blk (pc' := 13) (L' := [vr 9 0, vi l1, vi l2, vi l3, vi x1, vn]) (st' := [vi x1]) (h' := (101, I2, J3, R0 b)) 2 rfl ?_
  refine WP.if_lt (t := 29) (L' := [vr 9 0, vi l1, vi l2, vi l3, vi x1, vn]) rfl rfl rfl rfl h (fun h => ?_) (fun h => ?_)
  · refine WP.blk (pc' := 30) (L' := [vn, vn, vn, vn, vn, vn]) (st' := [vi (-1)]) (h' := (101, I2, J3, R0 b)) 1 rfl ?_
    exact WP.ret rfl rfl h
  · refine WP.blk (pc' := 23) (L' := [vr 9 0, vi l1, vi l2, vi l3, vi x1, vn]) (st' := [vi l3, vi l2, vi l1, vr 1 0]) (h' := (101, I2, J3, R0 b)) 5 rfl ?_
    refine WP.cal (y' := 10) (as := [vr 1 0, vi l1, vi l2, vi l3]) (L' := [vr 9 0, vi l1, vi l2, vi l3, vi x1, vn]) (rest := []) rfl (fun f r h' hf => callV_ok hf rfl rfl rfl) h ?_
    rintro _ _ ⟨x4, I5, J6, rfl, rfl, h⟩
    refine WP.if_ne (t := 31) (L' := [vr 9 0, vi l1, vi l2, vi l3, vi x1, vn]) rfl rfl rfl rfl h (fun h => ?_) (fun h => ?_)
    · refine WP.blk (pc' := 37) (L' := [vr 9 0, vi l1, vi l2, vi l3, vi x1, vn]) (st' := [vi x1, vr 1 0]) (h' := (101, I5, J6, R0 b)) 3 rfl ?_
      refine WP.cal (y' := 257) (as := [vr 1 0, vi x1]) (L' := [vr 9 0, vi l1, vi l2, vi l3, vi x1, vn]) (rest := []) rfl (fun f r h' hf => callV_ok hf rfl rfl rfl) h ?_
      rintro _ _ ⟨x7, I8, J9, rfl, rfl, h⟩
      refine WP.blk (pc' := 45) (L' := [vr 9 0, vi l1, vi l2, vi l3, vi x1, vi x7]) (st' := [vi l3, vi x7]) (h' := (101, I8, J9, R0 b)) 3 rfl ?_
      refine WP.icmp_eq (t := 70) (L' := [vr 9 0, vi l1, vi l2, vi l3, vi x1, vi x7]) rfl rfl rfl rfl h (fun h => ?_) (fun h => ?_)
      · refine WP.blk (pc' := 72) (L' := [vn, vn, vn, vn, vn, vi x7]) (st' := [vi x7]) (h' := (101, I8, J9, R0 b)) 1 rfl ?_
        exact WP.ret rfl rfl h
      · refine WP.blk (pc' := 55) (L' := [vr 9 0, vi l1, vi l2, vi l3, vi x1, vi x7]) (st' := [vi l3, vi x1, vr 1 0]) (h' := (101, I8, J9, R0 b)) 4 rfl ?_
        refine WP.cal (y' := 258) (as := [vr 1 0, vi x1, vi l3]) (L' := [vr 9 0, vi l1, vi l2, vi l3, vi x1, vi x7]) (rest := []) rfl (fun f r h' hf => callV_ok hf rfl rfl rfl) h ?_
        rintro _ _ ⟨I11, J12, rfl, rfl, h⟩
        refine WP.blk (pc' := 67) (L' := [vr 9 0, vi l1, vi l2, vi l3, vi x1, vi x7]) (st' := [vi l3, vi x7, vi x1, vr 4 0]) (h' := (101, I11, J12, R0 b)) 5 rfl ?_
        refine WP.cal (y' := 34) (as := [vr 4 0, vi x1, vi x7, vi l3]) (L' := [vr 9 0, vi l1, vi l2, vi l3, vi x1, vi x7]) (rest := []) rfl (fun f r h' hf => callV_ok hf rfl rfl rfl) h ?_
        rintro _ _ ⟨I14, J15, rfl, rfl, h⟩
        refine WP.blk (pc' := 72) (L' := [vn, vn, vn, vn, vn, vi x7]) (st' := [vi x7]) (h' := (101, I14, J15, R0 b)) 1 rfl ?_
        exact WP.ret rfl rfl h
    · refine WP.blk (pc' := 30) (L' := [vn, vn, vn, vn, vn, vn]) (st' := [vi (-1)]) (h' := (101, I5, J6, R0 b)) 1 rfl ?_
      exact WP.ret rfl rfl h
set_option maxRecDepth 20000 in
theorem t_X9_of {D : Nat} (l1 : Int32) (l2 : Int32) (I : IM) (J : JM) (b : Bool) {Q : Option AV → AH → Prop} (h : (if ¬ l1 = 0 then (if ¬ l1 = 0 then (Call D 9 [vr 1 0, vi l1, vi l2] (101, I, J, R0 b) (RIf b fun x1 I2 J3 => (if 0 ≤ x1 then (Call D 257 [vr 1 0, vi x1] (101, I2, J3, R0 b) (RIf b fun x4 I5 J6 => Q (some (vi x4)) (101, I5, J6, R0 b))) else Q (some (vi (-1))) (101, I2, J3, R0 b)))) else (if ¬ l2 = (12 : Int32) then (Call D 9 [vr 1 0, vi l1, vi l2] (101, I, J, R0 b) (RIf b fun x7 I8 J9 => (if 0 ≤ x7 then (Call D 257 [vr 1 0, vi x7] (101, I8, J9, R0 b) (RIf b fun x10 I11 J12 => Q (some (vi x10)) (101, I11, J12, R0 b))) else Q (some (vi (-1))) (101, I8, J9, R0 b)))) else Q (some (vi (I 8 1 11))) (101, I, J, R0 b))) else (if ¬ l2 = (11 : Int32) then (if ¬ l1 = 0 then (Call D 9 [vr 1 0, vi l1, vi l2] (101, I, J, R0 b) (RIf b fun x13 I14 J15 => (if 0 ≤ x13 then (Call D 257 [vr 1 0, vi x13] (101, I14, J15, R0 b) (RIf b fun x16 I17 J18 => Q (some (vi x16)) (101, I17, J18, R0 b))) else Q (some (vi (-1))) (101, I14, J15, R0 b)))) else (if ¬ l2 = (12 : Int32) then (Call D 9 [vr 1 0, vi l1, vi l2] (101, I, J, R0 b) (RIf b fun x19 I20 J21 => (if 0 ≤ x19 then (Call D 257 [vr 1 0, vi x19] (101, I20, J21, R0 b) (RIf b fun x22 I23 J24 => Q (some (vi x22)) (101, I23, J24, R0 b))) else Q (some (vi (-1))) (101, I20, J21, R0 b)))) else Q (some (vi (I 8 1 11))) (101, I, J, R0 b))) else Q (some (vi (I 8 1 12))) (101, I, J, R0 b)))) : Call (D + 1) 83 [vr 9 0, vi l1, vi l2] (101, I, J, R0 b) Q := by
  refine Call.of rfl ?_
  show WP D 83 0 [vr 9 0, vi l1, vi l2, vn] [] (101, I, J, R0 b) Q
  refine WP.blk (pc' := 1) (L' := [vr 9 0, vi l1, vi l2, vn]) (st' := [vi l1]) (h' := (101, I, J, R0 b)) 1 rfl ?_
  refine WP.if_ne (t := 21) (L' := [vr 9 0, vi l1, vi l2, vn]) rfl rfl rfl rfl h (fun h => ?_) (fun h => ?_)
  · refine WP.blk (pc' := 22) (L' := [vr 9 0, vi l1, vi l2, vn]) (st' := [vi l1]) (h' := (101, I, J, R0 b)) 1 rfl ?_
    refine WP.if_ne (t := 42) (L' := [vr 9 0, vi l1, vi l2, vn]) rfl rfl rfl rfl h (fun h => ?_) (fun h => ?_)
    · refine WP.blk (pc' := 48) (L' := [vr 9 0, vi l1, vi l2, vn]) (st' := [vi l2, vi l1, vr 1 0]) (h' := (101, I, J, R0 b)) 4 rfl ?_
      refine WP.cal (y' := 9) (as := [vr 1 0, vi l1, vi l2]) (L' := [vr 9 0, vi l1, vi l2, vn]) (rest := []) rfl (fun f r h' hf => callV_ok hf rfl rfl rfl) h ?_
      rintro _ _ ⟨x1, I2, J3, rfl, rfl, h⟩
      refine WP.blk (pc' := 53) (L' := [vr 9 0, vi l1, vi l2, vi x1]) (st' := [vi x1]) (h' := (101, I2, J3, R0 b)) 2 rfl ?_
      refine WP.if_ge (t := 60) (L' := [vr 9 0, vi l1, vi l2, vi x1]) rfl rfl rfl rfl h (fun h => ?_) (fun h => ?_)
      · refine WP.blk (pc' := 65) (L' := [vr 9 0, vi l1, vi l2, vi x1]) (st' := [vi x1, vr 1 0]) (h' := (101, I2, J3, R0 b)) 3 rfl ?_
        refine WP.cal (y' := 257) (as := [vr 1 0, vi x1]) (L' := [vr 9 0, vi l1, vi l2, vi x1]) (rest := []) rfl (fun f r h' hf => callV_ok hf rfl rfl rfl) h ?_
        rintro _ _ ⟨x4, I5, J6, rfl, rfl, h⟩
        exact WP.ret rfl rfl h
      · refine WP.blk (pc' := 68) (L' := [vr 9 0, vi l1, vi l2, vi x1]) (st' := [vi (-1)]) (h' := (101, I2, J3, R0 b)) 2 rfl ?_
        exact WP.ret rfl rfl h
    · refine WP.blk (pc' := 28) (L' := [vr 9 0, vi l1, vi l2, vn]) (st' := [vi 12, vi l2]) (h' := (101, I, J, R0 b)) 2 rfl ?_
      refine WP.icmp_ne (t := 42) (L' := [vr 9 0, vi l1, vi l2, vn]) rfl rfl rfl rfl h (fun h => ?_) (fun h => ?_)
      · refine WP.blk (pc' := 48) (L' := [vr 9 0, vi l1, vi l2, vn]) (st' := [vi l2, vi l1, vr 1 0]) (h' := (101, I, J, R0 b)) 4 rfl ?_
        refine WP.cal (y' := 9) (as := [vr 1 0, vi l1, vi l2]) (L' := [vr 9 0, vi l1, vi l2, vn]) (rest := []) rfl (fun f r h' hf => callV_ok hf rfl rfl rfl) h ?_
        rintro _ _ ⟨x7, I8, J9, rfl, rfl, h⟩
        refine WP.blk (pc' := 53) (L' := [vr 9 0, vi l1, vi l2, vi x7]) (st' := [vi x7]) (h' := (101, I8, J9, R0 b)) 2 rfl ?_
        refine WP.if_ge (t := 60) (L' := [vr 9 0, vi l1, vi l2, vi x7]) rfl rfl rfl rfl h (fun h => ?_) (fun h => ?_)
        · refine WP.blk (pc' := 65) (L' := [vr 9 0, vi l1, vi l2, vi x7]) (st' := [vi x7, vr 1 0]) (h' := (101, I8, J9, R0 b)) 3 rfl ?_
          refine WP.cal (y' := 257) (as := [vr 1 0, vi x7]) (L' := [vr 9 0, vi l1, vi l2, vi x7]) (rest := []) rfl (fun f r h' hf => callV_ok hf rfl rfl rfl) h ?_
          rintro _ _ ⟨x10, I11, J12, rfl, rfl, h⟩
          exact WP.ret rfl rfl h
        · refine WP.blk (pc' := 68) (L' := [vr 9 0, vi l1, vi l2, vi x7]) (st' := [vi (-1)]) (h' := (101, I8, J9, R0 b)) 2 rfl ?_
          exact WP.ret rfl rfl h
      · refine WP.blk (pc' := 41) (L' := [vr 9 0, vi l1, vi l2, vn]) (st' := [vi (I 8 1 11)]) (h' := (101, I, J, R0 b)) 4 rfl ?_
        exact WP.ret rfl rfl h
  · refine WP.blk (pc' := 7) (L' := [vr 9 0, vi l1, vi l2, vn]) (st' := [vi 11, vi l2]) (h' := (101, I, J, R0 b)) 2 rfl ?_
    refine WP.icmp_ne (t := 21) (L' := [vr 9 0, vi l1, vi l2, vn]) rfl rfl rfl rfl h (fun h => ?_) (fun h => ?_)
    · refine WP.blk (pc' := 22) (L' := [vr 9 0, vi l1, vi l2, vn]) (st' := [vi l1]) (h' := (101, I, J, R0 b)) 1 rfl ?_
      refine WP.if_ne (t := 42) (L' := [vr 9 0, vi l1, vi l2, vn]) rfl rfl rfl rfl h (fun h => ?_) (fun h => ?_)
      · refine WP.blk (pc' := 48) (L' := [vr 9 0, vi l1, vi l2, vn]) (st' := [vi l2, vi l1, vr 1 0]) (h' := (101, I, J, R0 b)) 4 rfl ?_
        refine WP.cal (y' := 9) (as := [vr 1 0, vi l1, vi l2]) (L' := [vr 9 0, vi l1, vi l2, vn]) (rest := []) rfl (fun f r h' hf => callV_ok hf rfl rfl rfl) h ?_
        rintro _ _ ⟨x13, I14, J15, rfl, rfl, h⟩
        refine WP.blk (pc' := 53) (L' := [vr 9 0, vi l1, vi l2, vi x13]) (st' := [vi x13]) (h' := (101, I14, J15, R0 b)) 2 rfl ?_
        refine WP.if_ge (t := 60) (L' := [vr 9 0, vi l1, vi l2, vi x13]) rfl rfl rfl rfl h (fun h => ?_) (fun h => ?_)
        · refine WP.blk (pc' := 65) (L' := [vr 9 0, vi l1, vi l2, vi x13]) (st' := [vi x13, vr 1 0]) (h' := (101, I14, J15, R0 b)) 3 rfl ?_
          refine WP.cal (y' := 257) (as := [vr 1 0, vi x13]) (L' := [vr 9 0, vi l1, vi l2, vi x13]) (rest := []) rfl (fun f r h' hf => callV_ok hf rfl rfl rfl) h ?_
          rintro _ _ ⟨x16, I17, J18, rfl, rfl, h⟩
          exact WP.ret rfl rfl h
        · refine WP.blk (pc' := 68) (L' := [vr 9 0, vi l1, vi l2, vi x13]) (st' := [vi (-1)]) (h' := (101, I14, J15, R0 b)) 2 rfl ?_
          exact WP.ret rfl rfl h
      · refine WP.blk (pc' := 28) (L' := [vr 9 0, vi l1, vi l2, vn]) (st' := [vi 12, vi l2]) (h' := (101, I, J, R0 b)) 2 rfl ?_
        refine WP.icmp_ne (t := 42) (L' := [vr 9 0, vi l1, vi l2, vn]) rfl rfl rfl rfl h (fun h => ?_) (fun h => ?_)
        · refine WP.blk (pc' := 48) (L' := [vr 9 0, vi l1, vi l2, vn]) (st' := [vi l2, vi l1, vr 1 0]) (h' := (101, I, J, R0 b)) 4 rfl ?_
          refine WP.cal (y' := 9) (as := [vr 1 0, vi l1, vi l2]) (L' := [vr 9 0, vi l1, vi l2, vn]) (rest := []) rfl (fun f r h' hf => callV_ok hf rfl rfl rfl) h ?_
          rintro _ _ ⟨x19, I20, J21, rfl, rfl, h⟩
          refine WP.blk (pc' := 53) (L' := [vr 9 0, vi l1, vi l2, vi x19]) (st' := [vi x19]) (h' := (101, I20, J21, R0 b)) 2 rfl ?_
          refine WP.if_ge (t := 60) (L' := [vr 9 0, vi l1, vi l2, vi x19]) rfl rfl rfl rfl h (fun h => ?_) (fun h => ?_)
          · refine WP.blk (pc' := 65) (L' := [vr 9 0, vi l1, vi l2, vi x19]) (st' := [vi x19, vr 1 0]) (h' := (101, I20, J21, R0 b)) 3 rfl ?_
            refine WP.cal (y' := 257) (as := [vr 1 0, vi x19]) (L' := [vr 9 0, vi l1, vi l2, vi x19]) (rest := []) rfl (fun f r h' hf => callV_ok hf rfl rfl rfl) h ?_
            rintro _ _ ⟨x22, I23, J24, rfl, rfl, h⟩
            exact WP.ret rfl rfl h
          · refine WP.blk (pc' := 68) (L' := [vr 9 0, vi l1, vi l2, vi x19]) (st' := [vi (-1)]) (h' := (101, I20, J21, R0 b)) 2 rfl ?_
            exact WP.ret rfl rfl h
        · refine WP.blk (pc' := 41) (L' := [vr 9 0, vi l1, vi l2, vn]) (st' := [vi (I 8 1 11)]) (h' := (101, I, J, R0 b)) 4 rfl ?_
          exact WP.ret rfl rfl h
    · refine WP.blk (pc' := 20) (L' := [vr 9 0, vi l1, vi l2, vn]) (st' := [vi (I 8 1 12)]) (h' := (101, I, J, R0 b)) 4 rfl ?_
      exact WP.ret rfl rfl h
set_option maxRecDepth 20000 in
theorem t_X9_feed {D : Nat} (l1 : Int32) (I : IM) (J : JM) (b : Bool) {Q : Option AV → AH → Prop} (h : (if l1 < 0 then Q (some (vi (-1))) (101, I, J, R0 b) else (if l1 ≤ (255 : Int32) then (Call D 19 [vr 3 0, vi l1] (101, I, J, R0 b) (RIf b fun x1 I2 J3 => (if x1 = 0 then Q (some (vi (-3))) (101, I2, J3, R0 b) else Q (some (vi (I2 3 0 10))) (101, I2, J3, R0 b)))) else Q (some (vi (-1))) (101, I, J, R0 b)))) : Call (D + 1) 84 [vr 9 0, vi l1] (101, I, J, R0 b) Q := by
  refine Call.of rfl ?_
  show WP D 84 0 [vr 9 0, vi l1] [] (101, I, J, R0 b) Q
  refine WP.blk (pc' := 1) (L' := [vr 9 0, vi l1]) (st' := [vi l1]) (h' := (101, I, J, R0 b)) 1 rfl ?_
  refine WP.if_lt (t := 11) (L' := [vr 9 0, vi l1]) rfl rfl rfl rfl h (fun h => ?_) (fun h => ?_)
  · refine WP.blk (pc' := 12) (L' := [vn, vn]) (st' := [vi (-1)]) (h' := (101, I, J, R0 b)) 1 rfl ?_
    exact WP.ret rfl rfl h
  · refine WP.blk (pc' := 8) (L' := [vr 9 0, vi l1]) (st' := [vi 255, vi l1]) (h' := (101, I, J, R0 b)) 2 rfl ?_
    refine WP.icmp_le (t := 13) (L' := [vr 9 0, vi l1]) rfl rfl rfl rfl h (fun h => ?_) (fun h => ?_)
    · refine WP.blk (pc' := 18) (L' := [vr 9 0, vi l1]) (st' := [vi l1, vr 3 0]) (h' := (101, I, J, R0 b)) 3 rfl ?_
      refine WP.cal (y' := 19) (as := [vr 3 0, vi l1]) (L' := [vr 9 0, vi l1]) (rest := []) rfl (fun f r h' hf => callV_ok hf rfl rfl rfl) h ?_
      rintro _ _ ⟨x1, I2, J3, rfl, rfl, h⟩
      refine WP.if_eq (t := 34) (L' := [vr 9 0, vi l1]) rfl rfl rfl rfl h (fun h => ?_) (fun h => ?_)
      · refine WP.blk (pc' := 36) (L' := [vr 9 0, vi l1]) (st' := [vi (-3)]) (h' := (101, I2, J3, R0 b)) 1 rfl ?_
        exact WP.ret rfl rfl h
      · refine WP.blk (pc' := 36) (L' := [vr 9 0, vi l1]) (st' := [vi (I2 3 0 10)]) (h' := (101, I2, J3, R0 b)) 4 rfl ?_
        exact WP.ret rfl rfl h
    · refine WP.blk (pc' := 12) (L' := [vn, vn]) (st' := [vi (-1)]) (h' := (101, I, J, R0 b)) 1 rfl ?_
      exact WP.ret rfl rfl h
set_option maxRecDepth 20000 in
theorem t_X9_law {D : Nat}  (I : IM) (J : JM) (b : Bool) {Q : Option AV → AH → Prop} (h : (Call D 20 [vr 3 0] (101, I, J, R0 b) (RIB fun x1 I2 J3 b1 => (if 0 ≤ x1 then Q (some (vi ((-100 : Int32) - x1))) (101, I2, J3, R0 b1) else Q (some (vi 1)) (101, I2, J3, R0 b1))))) : Call (D + 1) 85 [vr 9 0] (101, I, J, R0 b) Q := by
  refine Call.of rfl ?_
  show WP D 85 0 [vr 9 0, vn] [] (101, I, J, R0 b) Q
  refine WP.blk (pc' := 4) (L' := [vr 9 0, vn]) (st' := [vr 3 0]) (h' := (101, I, J, R0 b)) 2 rfl ?_
  refine WP.cal (y' := 20) (as := [vr 3 0]) (L' := [vr 9 0, vn]) (rest := []) rfl (fun f r h' hf => callV_ok hf rfl rfl rfl) h ?_
  rintro _ _ ⟨x1, I2, J3, b1, rfl, rfl, h⟩
  refine WP.blk (pc' := 9) (L' := [vr 9 0, vi x1]) (st' := [vi x1]) (h' := (101, I2, J3, R0 b1)) 2 rfl ?_
  refine WP.if_ge (t := 16) (L' := [vr 9 0, vi x1]) rfl rfl rfl rfl h (fun h => ?_) (fun h => ?_)
  · refine WP.blk (pc' := 20) (L' := [vr 9 0, vi x1]) (st' := [vi ((-100 : Int32) - x1)]) (h' := (101, I2, J3, R0 b1)) 3 rfl ?_
    exact WP.ret rfl rfl h
  · refine WP.blk (pc' := 20) (L' := [vr 9 0, vi x1]) (st' := [vi 1]) (h' := (101, I2, J3, R0 b1)) 2 rfl ?_
    exact WP.ret rfl rfl h
set_option maxRecDepth 20000 in
theorem t_X9_sets {D : Nat} (l1 : Int32) (I : IM) (J : JM) (b : Bool) {Q : Option AV → AH → Prop} (h : (if l1 < 0 then Q (some (vi (-1))) (101, I, J, R0 b) else (if (I 1 0 1) ≤ (l1 / (10 : Int32)) then Q (some (vi (-1))) (101, I, J, R0 b) else (if (l1 - l1 / (10 : Int32) * (10 : Int32)) ≤ (7 : Int32) then (Call D 12 [vr 1 0, vi 8] (101, I, J, R0 b) (RIf b fun x1 I2 J3 => (Call D 29 [vr 3 0, vi (l1 / (10 : Int32)), vi (l1 - l1 / (10 : Int32) * (10 : Int32)), vi x1] (101, I2, J3, R0 b) (RIf b fun x4 I5 J6 => Q (some (vi x4)) (101, I5, J6, R0 b))))) else Q (some (vi (-1))) (101, I, J, R0 b))))) : Call (D + 1) 86 [vr 9 0, vi l1] (101, I, J, R0 b) Q := by
  refine Call.of rfl ?_
  show WP D 86 0 [vr 9 0, vi l1] [] (101, I, J, R0 b) Q
  refine WP.blk (pc' := 1) (L' := [vr 9 0, vi l1]) (st' := [vi l1]) (h' := (101, I, J, R0 b)) 1 rfl ?_
  refine WP.if_lt (t := 27) (L' := [vr 9 0, vi l1]) rfl rfl rfl rfl h (fun h => ?_) (fun h => ?_)
  · refine WP.blk (pc' := 28) (L' := [vn, vn]) (st' := [vi (-1)]) (h' := (101, I, J, R0 b)) 1 rfl ?_
    exact WP.ret rfl rfl h
  · refine WP.blk (pc' := 15) (L' := [vr 9 0, vi l1]) (st' := [vi (I 1 0 1), vi (l1 / (10 : Int32))]) (h' := (101, I, J, R0 b)) 6 rfl ?_
    refine WP.icmp_ge (t := 27) (L' := [vr 9 0, vi l1]) rfl rfl rfl rfl h (fun h => ?_) (fun h => ?_)
    · refine WP.blk (pc' := 28) (L' := [vn, vn]) (st' := [vi (-1)]) (h' := (101, I, J, R0 b)) 1 rfl ?_
      exact WP.ret rfl rfl h
    · refine WP.blk (pc' := 24) (L' := [vr 9 0, vi l1]) (st' := [vi 7, vi (l1 - l1 / (10 : Int32) * (10 : Int32))]) (h' := (101, I, J, R0 b)) 4 rfl ?_
      refine WP.icmp_le (t := 29) (L' := [vr 9 0, vi l1]) rfl rfl rfl rfl h (fun h => ?_) (fun h => ?_)
      · refine WP.blk (pc' := 47) (L' := [vr 9 0, vi l1]) (st' := [vi 8, vr 1 0, vi (l1 - l1 / (10 : Int32) * (10 : Int32)), vi (l1 / (10 : Int32)), vr 3 0]) (h' := (101, I, J, R0 b)) 11 rfl ?_
        refine WP.cal (y' := 12) (as := [vr 1 0, vi 8]) (L' := [vr 9 0, vi l1]) (rest := [vi (l1 - l1 / (10 : Int32) * (10 : Int32)), vi (l1 / (10 : Int32)), vr 3 0]) rfl (fun f r h' hf => callV_ok hf rfl rfl rfl) h ?_
        rintro _ _ ⟨x1, I2, J3, rfl, rfl, h⟩
        refine WP.cal (y' := 29) (as := [vr 3 0, vi (l1 / (10 : Int32)), vi (l1 - l1 / (10 : Int32) * (10 : Int32)), vi x1]) (L' := [vr 9 0, vi l1]) (rest := []) rfl (fun f r h' hf => callV_ok hf rfl rfl rfl) h ?_
        rintro _ _ ⟨x4, I5, J6, rfl, rfl, h⟩
        exact WP.ret rfl rfl h
      · refine WP.blk (pc' := 28) (L' := [vn, vn]) (st' := [vi (-1)]) (h' := (101, I, J, R0 b)) 1 rfl ?_
        exact WP.ret rfl rfl h
set_option maxRecDepth 20000 in
theorem t_X9_order {D : Nat} (l1 : Int32) (l2 : Int32) (l3 : Int32) (I : IM) (J : JM) (b : Bool) {Q : Option AV → AH → Prop} (h : (if l2 < 0 then Q (some (vi (-1))) (101, I, J, R0 b) else (if l3 < 0 then Q (some (vi (-1))) (101, I, J, R0 b) else (if l3 ≤ (2 : Int32) then (Call D 127 [vr 9 0, vi l1] (101, I, J, R0 b) (RIf b fun x1 I2 J3 => (if x1 = 0 then (Call D 54 [vr 7 0] (101, I2, J3, R0 b) (RVf b fun I5 J6 => (Call D 129 [vr 9 0] (101, I5, J6, R0 b) (RIf b fun x7 I8 J9 => (if l2 < x7 then (if ¬ l3 = 0 then (if ¬ l3 = (1 : Int32) then (vp_in l2 35 ∧ Q (some (vi (I8 33 0 l2.toNatClampNeg))) (101, I8, J9, R0 b)) else (vp_in l2 35 ∧ Q (some (vi (I8 32 0 l2.toNatClampNeg))) (101, I8, J9, R0 b))) else (vp_in l2 35 ∧ Q (some (vi (I8 31 0 l2.toNatClampNeg))) (101, I8, J9, R0 b))) else Q (some (vi (-2))) (101, I8, J9, R0 b)))))) else Q (some (vi x1)) (101, I2, J3, R0 b)))) else Q (some (vi (-1))) (101, I, J, R0 b))))) : Call (D + 1) 87 [vr 9 0, vi l1, vi l2, vi l3] (101, I, J, R0 b) Q := by
  refine Call.of rfl ?_
  show WP D 87 0 [vr 9 0, vi l1, vi l2, vi l3, vn] [] (101, I, J, R0 b) Q
  refine WP.blk (pc' := 1) (L' := [vr 9 0, vi l1, vi l2, vi l3, vn]) (st' := [vi l2]) (h' := (101, I, J, R0 b)) 1 rfl ?_
  refine WP.if_lt (t := 13) (L' := [vr 9 0, vi l1, vi l2, vi l3, vn]) rfl rfl rfl rfl h (fun h => ?_) (fun h => ?_)
  · refine WP.blk (pc' := 14) (L' := [vn, vn, vn, vn, vn]) (st' := [vi (-1)]) (h' := (101, I, J, R0 b)) 1 rfl ?_
    exact WP.ret rfl rfl h
  · refine WP.blk (pc' := 5) (L' := [vr 9 0, vi l1, vi l2, vi l3, vn]) (st' := [vi l3]) (h' := (101, I, J, R0 b)) 1 rfl ?_
    refine WP.if_lt (t := 13) (L' := [vr 9 0, vi l1, vi l2, vi l3, vn]) rfl rfl rfl rfl h (fun h => ?_) (fun h => ?_)
    · refine WP.blk (pc' := 14) (L' := [vn, vn, vn, vn, vn]) (st' := [vi (-1)]) (h' := (101, I, J, R0 b)) 1 rfl ?_
      exact WP.ret rfl rfl h
    · refine WP.blk (pc' := 10) (L' := [vr 9 0, vi l1, vi l2, vi l3, vn]) (st' := [vi 2, vi l3]) (h' := (101, I, J, R0 b)) 2 rfl ?_
      refine WP.icmp_le (t := 15) (L' := [vr 9 0, vi l1, vi l2, vi l3, vn]) rfl rfl rfl rfl h (fun h => ?_) (fun h => ?_)
      · refine WP.blk (pc' := 17) (L' := [vr 9 0, vi l1, vi l2, vi l3, vn]) (st' := [vi l1, vr 9 0]) (h' := (101, I, J, R0 b)) 2 rfl ?_
        refine WP.cal (y' := 127) (as := [vr 9 0, vi l1]) (L' := [vr 9 0, vi l1, vi l2, vi l3, vn]) (rest := []) rfl (fun f r h' hf => callV_ok hf rfl rfl rfl) h ?_
        rintro _ _ ⟨x1, I2, J3, rfl, rfl, h⟩
        refine WP.blk (pc' := 24) (L' := [vr 9 0, vi l1, vi l2, vi l3, vi x1]) (st' := [vi x1]) (h' := (101, I2, J3, R0 b)) 2 rfl ?_
        refine WP.if_eq (t := 30) (L' := [vr 9 0, vi l1, vi l2, vi l3, vi x1]) rfl rfl rfl rfl h (fun h => ?_) (fun h => ?_)
        · refine WP.blk (pc' := 34) (L' := [vr 9 0, vi l1, vi l2, vi l3, vi x1]) (st' := [vr 7 0]) (h' := (101, I2, J3, R0 b)) 2 rfl ?_
          refine WP.cal (y' := 54) (as := [vr 7 0]) (L' := [vr 9 0, vi l1, vi l2, vi l3, vi x1]) (rest := []) rfl (fun f r h' hf => callV_ok hf rfl rfl rfl) h ?_
          rintro _ _ ⟨I5, J6, rfl, rfl, h⟩
          refine WP.blk (pc' := 39) (L' := [vr 9 0, vi l1, vi l2, vi l3, vi x1]) (st' := [vr 9 0, vi l2]) (h' := (101, I5, J6, R0 b)) 2 rfl ?_
          refine WP.cal (y' := 129) (as := [vr 9 0]) (L' := [vr 9 0, vi l1, vi l2, vi l3, vi x1]) (rest := [vi l2]) rfl (fun f r h' hf => callV_ok hf rfl rfl rfl) h ?_
          rintro _ _ ⟨x7, I8, J9, rfl, rfl, h⟩
          refine WP.icmp_lt (t := 48) (L' := [vr 9 0, vi l1, vi l2, vi l3, vi x1]) rfl rfl rfl rfl h (fun h => ?_) (fun h => ?_)
          · refine WP.blk (pc' := 49) (L' := [vr 9 0, vi l1, vi l2, vi l3, vi x1]) (st' := [vi l3]) (h' := (101, I8, J9, R0 b)) 1 rfl ?_
            refine WP.if_ne (t := 64) (L' := [vr 9 0, vi l1, vi l2, vi l3, vi x1]) rfl rfl rfl rfl h (fun h => ?_) (fun h => ?_)
            · refine WP.blk (pc' := 66) (L' := [vr 9 0, vi l1, vi l2, vi l3, vi x1]) (st' := [vi 1, vi l3]) (h' := (101, I8, J9, R0 b)) 2 rfl ?_
              refine WP.icmp_ne (t := 81) (L' := [vr 9 0, vi l1, vi l2, vi l3, vi x1]) rfl rfl rfl rfl h (fun h => ?_) (fun h => ?_)
              · refine WP.blk (pc' := 89) (L' := [vr 9 0, vi l1, vi l2, vi l3, vi x1]) (st' := [vi l2, vr 33 0]) (h' := (101, I8, J9, R0 b)) 4 rfl ?_
                refine WP.step (pc' := 90) (L' := [vr 9 0, vi l1, vi l2, vi l3, vi x1]) (st' := [vi (I8 33 0 l2.toNatClampNeg)]) (h' := (101, I8, J9, R0 b)) rfl (iaload_ok (n := 35) rfl rfl rfl (inA_of h.1)) ?_
                have h := And.right h
                exact WP.ret rfl rfl h
              · refine WP.blk (pc' := 77) (L' := [vr 9 0, vi l1, vi l2, vi l3, vi x1]) (st' := [vi l2, vr 32 0]) (h' := (101, I8, J9, R0 b)) 4 rfl ?_
                refine WP.step (pc' := 78) (L' := [vr 9 0, vi l1, vi l2, vi l3, vi x1]) (st' := [vi (I8 32 0 l2.toNatClampNeg)]) (h' := (101, I8, J9, R0 b)) rfl (iaload_ok (n := 35) rfl rfl rfl (inA_of h.1)) ?_
                have h := And.right h
                refine WP.blk (pc' := 90) (L' := [vr 9 0, vi l1, vi l2, vi l3, vi x1]) (st' := [vi (I8 32 0 l2.toNatClampNeg)]) (h' := (101, I8, J9, R0 b)) 1 rfl ?_
                exact WP.ret rfl rfl h
            · refine WP.blk (pc' := 60) (L' := [vr 9 0, vi l1, vi l2, vi l3, vi x1]) (st' := [vi l2, vr 31 0]) (h' := (101, I8, J9, R0 b)) 4 rfl ?_
              refine WP.step (pc' := 61) (L' := [vr 9 0, vi l1, vi l2, vi l3, vi x1]) (st' := [vi (I8 31 0 l2.toNatClampNeg)]) (h' := (101, I8, J9, R0 b)) rfl (iaload_ok (n := 35) rfl rfl rfl (inA_of h.1)) ?_
              have h := And.right h
              refine WP.blk (pc' := 90) (L' := [vr 9 0, vi l1, vi l2, vi l3, vi x1]) (st' := [vi (I8 31 0 l2.toNatClampNeg)]) (h' := (101, I8, J9, R0 b)) 1 rfl ?_
              exact WP.ret rfl rfl h
          · refine WP.blk (pc' := 47) (L' := [vr 9 0, vi l1, vi l2, vi l3, vi x1]) (st' := [vi (-2)]) (h' := (101, I8, J9, R0 b)) 1 rfl ?_
            exact WP.ret rfl rfl h
        · refine WP.blk (pc' := 29) (L' := [vr 9 0, vi l1, vi l2, vi l3, vi x1]) (st' := [vi x1]) (h' := (101, I2, J3, R0 b)) 1 rfl ?_
          exact WP.ret rfl rfl h
      · refine WP.blk (pc' := 14) (L' := [vn, vn, vn, vn, vn]) (st' := [vi (-1)]) (h' := (101, I, J, R0 b)) 1 rfl ?_
        exact WP.ret rfl rfl h
set_option maxRecDepth 20000 in
theorem t_X9_done {D : Nat} (l1 : Int32) (l2 : Int32) (I : IM) (J : JM) (b : Bool) {Q : Option AV → AH → Prop} (h : (Call D 124 [vi l2] (101, I, J, R0 b) (RIf b fun x1 I2 J3 => (if ¬ x1 = 0 then (Call D 127 [vr 9 0, vi l1] (101, I2, J3, R0 b) (RIf b fun x4 I5 J6 => (if x4 = 0 then (Call D 54 [vr 7 0] (101, I5, J6, R0 b) (RVf b fun I8 J9 => (Call D 129 [vr 9 0] (101, I8, J9, R0 b) (RIf b fun x10 I11 J12 => (if ¬ l2 = 0 then (Call D 73 [vr 8 0] (101, I11, J12, R0 b) (RIf b fun x13 I14 J15 => Q (some (vi x13)) (101, I14, J15, R0 b))) else Q (some (vi x10)) (101, I11, J12, R0 b)))))) else Q (some (vi x4)) (101, I5, J6, R0 b)))) else Q (some (vi (-1))) (101, I2, J3, R0 b))))) : Call (D + 1) 88 [vr 9 0, vi l1, vi l2] (101, I, J, R0 b) Q := by
  refine Call.of rfl ?_
  show WP D 88 0 [vr 9 0, vi l1, vi l2, vn, vn] [] (101, I, J, R0 b) Q
  refine WP.blk (pc' := 1) (L' := [vr 9 0, vi l1, vi l2, vn, vn]) (st' := [vi l2]) (h' := (101, I, J, R0 b)) 1 rfl ?_
  refine WP.cal (y' := 124) (as := [vi l2]) (L' := [vr 9 0, vi l1, vi l2, vn, vn]) (rest := []) rfl (fun f r h' hf => callS_ok hf rfl rfl rfl) h ?_
  rintro _ _ ⟨x1, I2, J3, rfl, rfl, h⟩
  refine WP.if_ne (t := 9) (L' := [vr 9 0, vi l1, vi l2, vn, vn]) rfl rfl rfl rfl h (fun h => ?_) (fun h => ?_)
  · refine WP.blk (pc' := 11) (L' := [vr 9 0, vi l1, vi l2, vn, vn]) (st' := [vi l1, vr 9 0]) (h' := (101, I2, J3, R0 b)) 2 rfl ?_
    refine WP.cal (y' := 127) (as := [vr 9 0, vi l1]) (L' := [vr 9 0, vi l1, vi l2, vn, vn]) (rest := []) rfl (fun f r h' hf => callV_ok hf rfl rfl rfl) h ?_
    rintro _ _ ⟨x4, I5, J6, rfl, rfl, h⟩
    refine WP.blk (pc' := 16) (L' := [vr 9 0, vi l1, vi l2, vi x4, vn]) (st' := [vi x4]) (h' := (101, I5, J6, R0 b)) 2 rfl ?_
    refine WP.if_eq (t := 21) (L' := [vr 9 0, vi l1, vi l2, vi x4, vn]) rfl rfl rfl rfl h (fun h => ?_) (fun h => ?_)
    · refine WP.blk (pc' := 25) (L' := [vr 9 0, vi l1, vi l2, vi x4, vn]) (st' := [vr 7 0]) (h' := (101, I5, J6, R0 b)) 2 rfl ?_
      refine WP.cal (y' := 54) (as := [vr 7 0]) (L' := [vr 9 0, vi l1, vi l2, vi x4, vn]) (rest := []) rfl (fun f r h' hf => callV_ok hf rfl rfl rfl) h ?_
      rintro _ _ ⟨I8, J9, rfl, rfl, h⟩
      refine WP.blk (pc' := 29) (L' := [vr 9 0, vi l1, vi l2, vi x4, vn]) (st' := [vr 9 0]) (h' := (101, I8, J9, R0 b)) 1 rfl ?_
      refine WP.cal (y' := 129) (as := [vr 9 0]) (L' := [vr 9 0, vi l1, vi l2, vi x4, vn]) (rest := []) rfl (fun f r h' hf => callV_ok hf rfl rfl rfl) h ?_
      rintro _ _ ⟨x10, I11, J12, rfl, rfl, h⟩
      refine WP.blk (pc' := 35) (L' := [vr 9 0, vi l1, vi l2, vi x4, vi x10]) (st' := [vi l2]) (h' := (101, I11, J12, R0 b)) 2 rfl ?_
      refine WP.if_ne (t := 43) (L' := [vr 9 0, vi l1, vi l2, vi x4, vi x10]) rfl rfl rfl rfl h (fun h => ?_) (fun h => ?_)
      · refine WP.blk (pc' := 47) (L' := [vr 9 0, vi l1, vi l2, vi x4, vi x10]) (st' := [vr 8 0]) (h' := (101, I11, J12, R0 b)) 2 rfl ?_
        refine WP.cal (y' := 73) (as := [vr 8 0]) (L' := [vr 9 0, vi l1, vi l2, vi x4, vi x10]) (rest := []) rfl (fun f r h' hf => callV_ok hf rfl rfl rfl) h ?_
        rintro _ _ ⟨x13, I14, J15, rfl, rfl, h⟩
        exact WP.ret rfl rfl h
      · refine WP.blk (pc' := 50) (L' := [vr 9 0, vi l1, vi l2, vi x4, vi x10]) (st' := [vi x10]) (h' := (101, I11, J12, R0 b)) 2 rfl ?_
        exact WP.ret rfl rfl h
    · refine WP.blk (pc' := 20) (L' := [vr 9 0, vi l1, vi l2, vi x4, vn]) (st' := [vi x4]) (h' := (101, I5, J6, R0 b)) 1 rfl ?_
      exact WP.ret rfl rfl h
  · refine WP.blk (pc' := 8) (L' := [vr 9 0, vi l1, vi l2, vn, vn]) (st' := [vi (-1)]) (h' := (101, I2, J3, R0 b)) 1 rfl ?_
    exact WP.ret rfl rfl h
set_option maxRecDepth 20000 in
theorem t_X9_can {D : Nat} (l1 : Int32) (I : IM) (J : JM) (b : Bool) {Q : Option AV → AH → Prop} (h : (Call D 124 [vi l1] (101, I, J, R0 b) (RIf b fun x1 I2 J3 => (if ¬ x1 = 0 then (Call D 54 [vr 7 0] (101, I2, J3, R0 b) (RVf b fun I5 J6 => (Call D 38 [vr 5 0] (101, I5, J6, R0 b) (RVf b fun I8 J9 => (if ¬ l1 = 0 then (Call D 40 [vr 5 0, vi 1, vi 1000000] (101, I8, J9, R0 b) (RVf b fun I11 J12 => Q (some (vi (I11 5 0 7))) (101, I11, J12, R0 b))) else (Call D 40 [vr 5 0, vi 0, vi 1000000] (101, I8, J9, R0 b) (RVf b fun I14 J15 => Q (some (vi (I14 5 0 7))) (101, I14, J15, R0 b)))))))) else Q (some (vi (-1))) (101, I2, J3, R0 b))))) : Call (D + 1) 89 [vr 9 0, vi l1] (101, I, J, R0 b) Q := by
  refine Call.of rfl ?_
  show WP D 89 0 [vr 9 0, vi l1] [] (101, I, J, R0 b) Q
  refine WP.blk (pc' := 1) (L' := [vr 9 0, vi l1]) (st' := [vi l1]) (h' := (101, I, J, R0 b)) 1 rfl ?_
  refine WP.cal (y' := 124) (as := [vi l1]) (L' := [vr 9 0, vi l1]) (rest := []) rfl (fun f r h' hf => callS_ok hf rfl rfl rfl) h ?_
  rintro _ _ ⟨x1, I2, J3, rfl, rfl, h⟩
  refine WP.if_ne (t := 9) (L' := [vr 9 0, vi l1]) rfl rfl rfl rfl h (fun h => ?_) (fun h => ?_)
  · refine WP.blk (pc' := 13) (L' := [vr 9 0, vi l1]) (st' := [vr 7 0]) (h' := (101, I2, J3, R0 b)) 2 rfl ?_
    refine WP.cal (y' := 54) (as := [vr 7 0]) (L' := [vr 9 0, vi l1]) (rest := []) rfl (fun f r h' hf => callV_ok hf rfl rfl rfl) h ?_
    rintro _ _ ⟨I5, J6, rfl, rfl, h⟩
    refine WP.blk (pc' := 20) (L' := [vr 9 0, vi l1]) (st' := [vr 5 0]) (h' := (101, I5, J6, R0 b)) 2 rfl ?_
    refine WP.cal (y' := 38) (as := [vr 5 0]) (L' := [vr 9 0, vi l1]) (rest := []) rfl (fun f r h' hf => callV_ok hf rfl rfl rfl) h ?_
    rintro _ _ ⟨I8, J9, rfl, rfl, h⟩
    refine WP.blk (pc' := 28) (L' := [vr 9 0, vi l1]) (st' := [vi l1, vr 5 0]) (h' := (101, I8, J9, R0 b)) 3 rfl ?_
    refine WP.if_ne (t := 35) (L' := [vr 9 0, vi l1]) rfl rfl rfl rfl h (fun h => ?_) (fun h => ?_)
    · refine WP.blk (pc' := 38) (L' := [vr 9 0, vn]) (st' := [vi 1000000, vi 1, vr 5 0]) (h' := (101, I8, J9, R0 b)) 2 rfl ?_
      refine WP.cal (y' := 40) (as := [vr 5 0, vi 1, vi 1000000]) (L' := [vr 9 0, vn]) (rest := []) rfl (fun f r h' hf => callV_ok hf rfl rfl rfl) h ?_
      rintro _ _ ⟨I11, J12, rfl, rfl, h⟩
      refine WP.blk (pc' := 48) (L' := [vr 9 0, vn]) (st' := [vi (I11 5 0 7)]) (h' := (101, I11, J12, R0 b)) 3 rfl ?_
      exact WP.ret rfl rfl h
    · refine WP.blk (pc' := 38) (L' := [vr 9 0, vn]) (st' := [vi 1000000, vi 0, vr 5 0]) (h' := (101, I8, J9, R0 b)) 3 rfl ?_
      refine WP.cal (y' := 40) (as := [vr 5 0, vi 0, vi 1000000]) (L' := [vr 9 0, vn]) (rest := []) rfl (fun f r h' hf => callV_ok hf rfl rfl rfl) h ?_
      rintro _ _ ⟨I14, J15, rfl, rfl, h⟩
      refine WP.blk (pc' := 48) (L' := [vr 9 0, vn]) (st' := [vi (I14 5 0 7)]) (h' := (101, I14, J15, R0 b)) 3 rfl ?_
      exact WP.ret rfl rfl h
  · refine WP.blk (pc' := 8) (L' := [vr 9 0, vi l1]) (st' := [vi (-1)]) (h' := (101, I2, J3, R0 b)) 1 rfl ?_
    exact WP.ret rfl rfl h
set_option maxRecDepth 20000 in
theorem t_X9_soonest {D : Nat} (l1 : Int32) (I : IM) (J : JM) (b : Bool) {Q : Option AV → AH → Prop} (h : (if (-1 : Int32) ≤ l1 then (Call D 54 [vr 7 0] (101, I, J, R0 b) (RVf b fun I2 J3 => (Call D 132 [vr 9 0] (101, I2, J3, R0 b) (RIf b fun x4 I5 J6 => (if x4 = (-2000000000 : Int32) then Q (some (vi (-2))) (101, I5, J6, R0 b) else (if l1 < (I5 1 0 1) then (if 0 ≤ l1 then (vp_in l1 7 ∧ Q (some (vi (I5 37 0 l1.toNatClampNeg))) (101, I5, J6, R0 b)) else Q (some (vi x4)) (101, I5, J6, R0 b)) else Q (some (vi (-2))) (101, I5, J6, R0 b))))))) else Q (some (vi (-1))) (101, I, J, R0 b))) : Call (D + 1) 90 [vr 9 0, vi l1] (101, I, J, R0 b) Q := by
  refine Call.of rfl ?_
  show WP D 90 0 [vr 9 0, vi l1, vn] [] (101, I, J, R0 b) Q
  refine WP.blk (pc' := 2) (L' := [vr 9 0, vi l1, vn]) (st' := [vi (-1), vi l1]) (h' := (101, I, J, R0 b)) 2 rfl ?_
  refine WP.icmp_ge (t := 7) (L' := [vr 9 0, vi l1, vn]) rfl rfl rfl rfl h (fun h => ?_) (fun h => ?_)
  · refine WP.blk (pc' := 11) (L' := [vr 9 0, vi l1, vn]) (st' := [vr 7 0]) (h' := (101, I, J, R0 b)) 2 rfl ?_
    refine WP.cal (y' := 54) (as := [vr 7 0]) (L' := [vr 9 0, vi l1, vn]) (rest := []) rfl (fun f r h' hf => callV_ok hf rfl rfl rfl) h ?_
    rintro _ _ ⟨I2, J3, rfl, rfl, h⟩
    refine WP.blk (pc' := 15) (L' := [vr 9 0, vi l1, vn]) (st' := [vr 9 0]) (h' := (101, I2, J3, R0 b)) 1 rfl ?_
    refine WP.cal (y' := 132) (as := [vr 9 0]) (L' := [vr 9 0, vi l1, vn]) (rest := []) rfl (fun f r h' hf => callV_ok hf rfl rfl rfl) h ?_
    rintro _ _ ⟨x4, I5, J6, rfl, rfl, h⟩
    refine WP.blk (pc' := 22) (L' := [vr 9 0, vi l1, vi x4]) (st' := [vi (-2000000000), vi x4]) (h' := (101, I5, J6, R0 b)) 3 rfl ?_
    refine WP.icmp_eq (t := 36) (L' := [vr 9 0, vi l1, vi x4]) rfl rfl rfl rfl h (fun h => ?_) (fun h => ?_)
    · refine WP.blk (pc' := 38) (L' := [vn, vn, vn]) (st' := [vi (-2)]) (h' := (101, I5, J6, R0 b)) 1 rfl ?_
      exact WP.ret rfl rfl h
    · refine WP.blk (pc' := 33) (L' := [vr 9 0, vi l1, vi x4]) (st' := [vi (I5 1 0 1), vi l1]) (h' := (101, I5, J6, R0 b)) 4 rfl ?_
      refine WP.icmp_lt (t := 39) (L' := [vr 9 0, vi l1, vi x4]) rfl rfl rfl rfl h (fun h => ?_) (fun h => ?_)
      · refine WP.blk (pc' := 40) (L' := [vr 9 0, vi l1, vi x4]) (st' := [vi l1]) (h' := (101, I5, J6, R0 b)) 1 rfl ?_
        refine WP.if_ge (t := 47) (L' := [vr 9 0, vi l1, vi x4]) rfl rfl rfl rfl h (fun h => ?_) (fun h => ?_)
        · refine WP.blk (pc' := 55) (L' := [vr 9 0, vi l1, vi x4]) (st' := [vi l1, vr 37 0]) (h' := (101, I5, J6, R0 b)) 4 rfl ?_
          refine WP.step (pc' := 56) (L' := [vr 9 0, vi l1, vi x4]) (st' := [vi (I5 37 0 l1.toNatClampNeg)]) (h' := (101, I5, J6, R0 b)) rfl (iaload_ok (n := 7) rfl rfl rfl (inA_of h.1)) ?_
          have h := And.right h
          exact WP.ret rfl rfl h
        · refine WP.blk (pc' := 56) (L' := [vr 9 0, vi l1, vi x4]) (st' := [vi x4]) (h' := (101, I5, J6, R0 b)) 2 rfl ?_
          exact WP.ret rfl rfl h
      · refine WP.blk (pc' := 38) (L' := [vn, vn, vn]) (st' := [vi (-2)]) (h' := (101, I5, J6, R0 b)) 1 rfl ?_
        exact WP.ret rfl rfl h
  · refine WP.blk (pc' := 6) (L' := [vr 9 0, vi l1, vn]) (st' := [vi (-1)]) (h' := (101, I, J, R0 b)) 1 rfl ?_
    exact WP.ret rfl rfl h
set_option maxRecDepth 20000 in
theorem t_X9_need {D : Nat} (l1 : Int32) (l2 : Int32) (I : IM) (J : JM) (b : Bool) {Q : Option AV → AH → Prop} (h : (if l1 < 0 then Q (some (vi (-1))) (101, I, J, R0 b) else (if (999 : Int32) < l1 then Q (some (vi (-1))) (101, I, J, R0 b) else (Call D 124 [vi l2] (101, I, J, R0 b) (RIf b fun x1 I2 J3 => (if ¬ x1 = 0 then (Call D 12 [vr 1 0, vi 6] (101, I2, J3, R0 b) (RIf b fun x4 I5 J6 => (Call D 12 [vr 1 0, vi 7] (101, I5, J6, R0 b) (RIf b fun x7 I8 J9 => (if ¬ l2 = 0 then (Call D 54 [vr 7 0] (101, I8, J9, R0 b) (RVf b fun I11 J12 => (Call D 38 [vr 5 0] (101, I11, J12, R0 b) (RVf b fun I14 J15 => WP D 91 70 [vr 9 0, vi l1, vi l2, vi x4, vi x7, vi 3, vi 0] [] (101, I14, J15, R0 b) Q)))) else (Call D 54 [vr 7 0] (101, I8, J9, R0 b) (RVf b fun I17 J18 => (Call D 38 [vr 5 0] (101, I17, J18, R0 b) (RVf b fun I20 J21 => WP D 91 70 [vr 9 0, vi l1, vi l2, vi x4, vi x7, vi 6, vi 0] [] (101, I20, J21, R0 b) Q))))))))) else Q (some (vi (-1))) (101, I2, J3, R0 b))))))) : Call (D + 1) 91 [vr 9 0, vi l1, vi l2] (101, I, J, R0 b) Q := by
  refine Call.of rfl ?_
  show WP D 91 0 [vr 9 0, vi l1, vi l2, vn, vn, vn, vn] [] (101, I, J, R0 b) Q
  refine WP.blk (pc' := 1) (L' := [vr 9 0, vi l1, vi l2, vn, vn, vn, vn]) (st' := [vi l1]) (h' := (101, I, J, R0 b)) 1 rfl ?_
  refine WP.if_lt (t := 18) (L' := [vr 9 0, vi l1, vi l2, vn, vn, vn, vn]) rfl rfl rfl rfl h (fun h => ?_) (fun h => ?_)
  · refine WP.blk (pc' := 19) (L' := [vn, vn, vn, vn, vn, vn, vn]) (st' := [vi (-1)]) (h' := (101, I, J, R0 b)) 1 rfl ?_
    exact WP.ret rfl rfl h
  · refine WP.blk (pc' := 8) (L' := [vr 9 0, vi l1, vi l2, vn, vn, vn, vn]) (st' := [vi 999, vi l1]) (h' := (101, I, J, R0 b)) 2 rfl ?_
    refine WP.icmp_gt (t := 18) (L' := [vr 9 0, vi l1, vi l2, vn, vn, vn, vn]) rfl rfl rfl rfl h (fun h => ?_) (fun h => ?_)
    · refine WP.blk (pc' := 19) (L' := [vn, vn, vn, vn, vn, vn, vn]) (st' := [vi (-1)]) (h' := (101, I, J, R0 b)) 1 rfl ?_
      exact WP.ret rfl rfl h
    · refine WP.blk (pc' := 12) (L' := [vr 9 0, vi l1, vi l2, vn, vn, vn, vn]) (st' := [vi l2]) (h' := (101, I, J, R0 b)) 1 rfl ?_
      refine WP.cal (y' := 124) (as := [vi l2]) (L' := [vr 9 0, vi l1, vi l2, vn, vn, vn, vn]) (rest := []) rfl (fun f r h' hf => callS_ok hf rfl rfl rfl) h ?_
      rintro _ _ ⟨x1, I2, J3, rfl, rfl, h⟩
      refine WP.if_ne (t := 20) (L' := [vr 9 0, vi l1, vi l2, vn, vn, vn, vn]) rfl rfl rfl rfl h (fun h => ?_) (fun h => ?_)
      · refine WP.blk (pc' := 26) (L' := [vr 9 0, vi l1, vi l2, vn, vn, vn, vn]) (st' := [vi 6, vr 1 0]) (h' := (101, I2, J3, R0 b)) 3 rfl ?_
        refine WP.cal (y' := 12) (as := [vr 1 0, vi 6]) (L' := [vr 9 0, vi l1, vi l2, vn, vn, vn, vn]) (rest := []) rfl (fun f r h' hf => callV_ok hf rfl rfl rfl) h ?_
        rintro _ _ ⟨x4, I5, J6, rfl, rfl, h⟩
        refine WP.blk (pc' := 36) (L' := [vr 9 0, vi l1, vi l2, vi x4, vn, vn, vn]) (st' := [vi 7, vr 1 0]) (h' := (101, I5, J6, R0 b)) 4 rfl ?_
        refine WP.cal (y' := 12) (as := [vr 1 0, vi 7]) (L' := [vr 9 0, vi l1, vi l2, vi x4, vn, vn, vn]) (rest := []) rfl (fun f r h' hf => callV_ok hf rfl rfl rfl) h ?_
        rintro _ _ ⟨x7, I8, J9, rfl, rfl, h⟩
        refine WP.blk (pc' := 42) (L' := [vr 9 0, vi l1, vi l2, vi x4, vi x7, vn, vn]) (st' := [vi l2]) (h' := (101, I8, J9, R0 b)) 2 rfl ?_
        refine WP.if_ne (t := 50) (L' := [vr 9 0, vi l1, vi l2, vi x4, vi x7, vn, vn]) rfl rfl rfl rfl h (fun h => ?_) (fun h => ?_)
        · refine WP.blk (pc' := 57) (L' := [vr 9 0, vi l1, vi l2, vi x4, vi x7, vi 3, vn]) (st' := [vr 7 0]) (h' := (101, I8, J9, R0 b)) 4 rfl ?_
          refine WP.cal (y' := 54) (as := [vr 7 0]) (L' := [vr 9 0, vi l1, vi l2, vi x4, vi x7, vi 3, vn]) (rest := []) rfl (fun f r h' hf => callV_ok hf rfl rfl rfl) h ?_
          rintro _ _ ⟨I11, J12, rfl, rfl, h⟩
          refine WP.blk (pc' := 64) (L' := [vr 9 0, vi l1, vi l2, vi x4, vi x7, vi 3, vn]) (st' := [vr 5 0]) (h' := (101, I11, J12, R0 b)) 2 rfl ?_
          refine WP.cal (y' := 38) (as := [vr 5 0]) (L' := [vr 9 0, vi l1, vi l2, vi x4, vi x7, vi 3, vn]) (rest := []) rfl (fun f r h' hf => callV_ok hf rfl rfl rfl) h ?_
          rintro _ _ ⟨I14, J15, rfl, rfl, h⟩
          refine WP.blk (pc' := 70) (L' := [vr 9 0, vi l1, vi l2, vi x4, vi x7, vi 3, vi 0]) (st' := []) (h' := (101, I14, J15, R0 b)) 2 rfl ?_
          exact WP.mask rfl rfl h
        · refine WP.blk (pc' := 57) (L' := [vr 9 0, vi l1, vi l2, vi x4, vi x7, vi 6, vn]) (st' := [vr 7 0]) (h' := (101, I8, J9, R0 b)) 5 rfl ?_
          refine WP.cal (y' := 54) (as := [vr 7 0]) (L' := [vr 9 0, vi l1, vi l2, vi x4, vi x7, vi 6, vn]) (rest := []) rfl (fun f r h' hf => callV_ok hf rfl rfl rfl) h ?_
          rintro _ _ ⟨I17, J18, rfl, rfl, h⟩
          refine WP.blk (pc' := 64) (L' := [vr 9 0, vi l1, vi l2, vi x4, vi x7, vi 6, vn]) (st' := [vr 5 0]) (h' := (101, I17, J18, R0 b)) 2 rfl ?_
          refine WP.cal (y' := 38) (as := [vr 5 0]) (L' := [vr 9 0, vi l1, vi l2, vi x4, vi x7, vi 6, vn]) (rest := []) rfl (fun f r h' hf => callV_ok hf rfl rfl rfl) h ?_
          rintro _ _ ⟨I20, J21, rfl, rfl, h⟩
          refine WP.blk (pc' := 70) (L' := [vr 9 0, vi l1, vi l2, vi x4, vi x7, vi 6, vi 0]) (st' := []) (h' := (101, I20, J21, R0 b)) 2 rfl ?_
          exact WP.mask rfl rfl h
      · refine WP.blk (pc' := 19) (L' := [vn, vn, vn, vn, vn, vn, vn]) (st' := [vi (-1)]) (h' := (101, I2, J3, R0 b)) 1 rfl ?_
        exact WP.ret rfl rfl h
set_option maxRecDepth 20000 in
theorem t_X9_need_70 {D : Nat} (l1 : Int32) (l2 : Int32) (l3 : Int32) (l4 : Int32) (l5 : Int32) (l6 : Int32) (I : IM) (J : JM) (b : Bool) {Q : Option AV → AH → Prop} (h : (if l5 < l6 then Q (some (vi (-2))) (101, I, J, R0 b) else (if ¬ l2 = (1 : Int32) then (if ¬ l2 = 0 then (Call D 55 [vr 7 0, vi l3, vi l4] (101, I, J, R0 b) (RVf b fun I23 J24 => (Call D 40 [vr 5 0, vi 0, vi (l1 + (1 : Int32))] (101, I23, J24, R0 b) (RVf b fun I26 J27 => (if (I26 5 0 7) ≤ 0 then WP D 91 70 [vr 9 0, vi l1, vi l2, vi l3, vi l4, vi l5, vi (l6 + 1)] [] (101, I26, J27, R0 b) Q else Q (some (vi l6)) (101, I26, J27, R0 b)))))) else (Call D 55 [vr 7 0, vi l3, vi l6] (101, I, J, R0 b) (RVf b fun I29 J30 => (Call D 40 [vr 5 0, vi 0, vi (l1 + (1 : Int32))] (101, I29, J30, R0 b) (RVf b fun I32 J33 => (if (I32 5 0 7) ≤ 0 then WP D 91 70 [vr 9 0, vi l1, vi l2, vi l3, vi l4, vi l5, vi (l6 + 1)] [] (101, I32, J33, R0 b) Q else Q (some (vi l6)) (101, I32, J33, R0 b))))))) else (if ¬ l2 = 0 then (Call D 55 [vr 7 0, vi l6, vi l4] (101, I, J, R0 b) (RVf b fun I35 J36 => (Call D 40 [vr 5 0, vi 0, vi (l1 + (1 : Int32))] (101, I35, J36, R0 b) (RVf b fun I38 J39 => (if (I38 5 0 7) ≤ 0 then WP D 91 70 [vr 9 0, vi l1, vi l2, vi l3, vi l4, vi l5, vi (l6 + 1)] [] (101, I38, J39, R0 b) Q else Q (some (vi l6)) (101, I38, J39, R0 b)))))) else (Call D 55 [vr 7 0, vi l6, vi l6] (101, I, J, R0 b) (RVf b fun I41 J42 => (Call D 40 [vr 5 0, vi 0, vi (l1 + (1 : Int32))] (101, I41, J42, R0 b) (RVf b fun I44 J45 => (if (I44 5 0 7) ≤ 0 then WP D 91 70 [vr 9 0, vi l1, vi l2, vi l3, vi l4, vi l5, vi (l6 + 1)] [] (101, I44, J45, R0 b) Q else Q (some (vi l6)) (101, I44, J45, R0 b)))))))))) : WP D 91 70 [vr 9 0, vi l1, vi l2, vi l3, vi l4, vi l5, vi l6] [] (101, I, J, R0 b) Q := by
  refine WP.blk (pc' := 74) (L' := [vr 9 0, vi l1, vi l2, vi l3, vi l4, vi l5, vi l6]) (st' := [vi l5, vi l6]) (h' := (101, I, J, R0 b)) 2 rfl ?_
  refine WP.icmp_gt (t := 136) (L' := [vr 9 0, vi l1, vi l2, vi l3, vi l4, vi l5, vi l6]) rfl rfl rfl rfl h (fun h => ?_) (fun h => ?_)
  · refine WP.blk (pc' := 138) (L' := [vr 9 0, vi l1, vi l2, vi l3, vi l4, vi l5, vi l6]) (st' := [vi (-2)]) (h' := (101, I, J, R0 b)) 1 rfl ?_
    exact WP.ret rfl rfl h
  · refine WP.blk (pc' := 83) (L' := [vr 9 0, vi l1, vi l2, vi l3, vi l4, vi l5, vi l6]) (st' := [vi 1, vi l2, vr 7 0]) (h' := (101, I, J, R0 b)) 4 rfl ?_
    refine WP.icmp_ne (t := 91) (L' := [vr 9 0, vi l1, vi l2, vi l3, vi l4, vi l5, vi l6]) rfl rfl rfl rfl h (fun h => ?_) (fun h => ?_)
    · refine WP.blk (pc' := 93) (L' := [vr 9 0, vi l1, vi l2, vi l3, vi l4, vi l5, vi l6]) (st' := [vi l2, vi l3, vr 7 0]) (h' := (101, I, J, R0 b)) 2 rfl ?_
      refine WP.if_ne (t := 101) (L' := [vr 9 0, vi l1, vi l2, vi l3, vi l4, vi l5, vi l6]) rfl rfl rfl rfl h (fun h => ?_) (fun h => ?_)
      · refine WP.blk (pc' := 103) (L' := [vr 9 0, vi l1, vi l2, vi l3, vi l4, vi l5, vi l6]) (st' := [vi l4, vi l3, vr 7 0]) (h' := (101, I, J, R0 b)) 1 rfl ?_
        refine WP.cal (y' := 55) (as := [vr 7 0, vi l3, vi l4]) (L' := [vr 9 0, vi l1, vi l2, vi l3, vi l4, vi l5, vi l6]) (rest := []) rfl (fun f r h' hf => callV_ok hf rfl rfl rfl) h ?_
        rintro _ _ ⟨I23, J24, rfl, rfl, h⟩
        refine WP.blk (pc' := 114) (L' := [vr 9 0, vi l1, vi l2, vi l3, vi l4, vi l5, vi l6]) (st' := [vi (l1 + (1 : Int32)), vi 0, vr 5 0]) (h' := (101, I23, J24, R0 b)) 6 rfl ?_
        refine WP.cal (y' := 40) (as := [vr 5 0, vi 0, vi (l1 + (1 : Int32))]) (L' := [vr 9 0, vi l1, vi l2, vi l3, vi l4, vi l5, vi l6]) (rest := []) rfl (fun f r h' hf => callV_ok hf rfl rfl rfl) h ?_
        rintro _ _ ⟨I26, J27, rfl, rfl, h⟩
        refine WP.blk (pc' := 124) (L' := [vr 9 0, vi l1, vi l2, vi l3, vi l4, vi l5, vi l6]) (st' := [vi (I26 5 0 7)]) (h' := (101, I26, J27, R0 b)) 3 rfl ?_
        refine WP.if_le (t := 130) (L' := [vr 9 0, vi l1, vi l2, vi l3, vi l4, vi l5, vi l6]) rfl rfl rfl rfl h (fun h => ?_) (fun h => ?_)
        · refine WP.blk (pc' := 70) (L' := [vr 9 0, vi l1, vi l2, vi l3, vi l4, vi l5, vi (l6 + 1)]) (st' := []) (h' := (101, I26, J27, R0 b)) 2 rfl ?_
          exact WP.mask rfl rfl h
        · refine WP.blk (pc' := 129) (L' := [vr 9 0, vi l1, vi l2, vi l3, vi l4, vi l5, vi l6]) (st' := [vi l6]) (h' := (101, I26, J27, R0 b)) 1 rfl ?_
          exact WP.ret rfl rfl h
      · refine WP.blk (pc' := 103) (L' := [vr 9 0, vi l1, vi l2, vi l3, vi l4, vi l5, vi l6]) (st' := [vi l6, vi l3, vr 7 0]) (h' := (101, I, J, R0 b)) 2 rfl ?_
        refine WP.cal (y' := 55) (as := [vr 7 0, vi l3, vi l6]) (L' := [vr 9 0, vi l1, vi l2, vi l3, vi l4, vi l5, vi l6]) (rest := []) rfl (fun f r h' hf => callV_ok hf rfl rfl rfl) h ?_
        rintro _ _ ⟨I29, J30, rfl, rfl, h⟩
        refine WP.blk (pc' := 114) (L' := [vr 9 0, vi l1, vi l2, vi l3, vi l4, vi l5, vi l6]) (st' := [vi (l1 + (1 : Int32)), vi 0, vr 5 0]) (h' := (101, I29, J30, R0 b)) 6 rfl ?_
        refine WP.cal (y' := 40) (as := [vr 5 0, vi 0, vi (l1 + (1 : Int32))]) (L' := [vr 9 0, vi l1, vi l2, vi l3, vi l4, vi l5, vi l6]) (rest := []) rfl (fun f r h' hf => callV_ok hf rfl rfl rfl) h ?_
        rintro _ _ ⟨I32, J33, rfl, rfl, h⟩
        refine WP.blk (pc' := 124) (L' := [vr 9 0, vi l1, vi l2, vi l3, vi l4, vi l5, vi l6]) (st' := [vi (I32 5 0 7)]) (h' := (101, I32, J33, R0 b)) 3 rfl ?_
        refine WP.if_le (t := 130) (L' := [vr 9 0, vi l1, vi l2, vi l3, vi l4, vi l5, vi l6]) rfl rfl rfl rfl h (fun h => ?_) (fun h => ?_)
        · refine WP.blk (pc' := 70) (L' := [vr 9 0, vi l1, vi l2, vi l3, vi l4, vi l5, vi (l6 + 1)]) (st' := []) (h' := (101, I32, J33, R0 b)) 2 rfl ?_
          exact WP.mask rfl rfl h
        · refine WP.blk (pc' := 129) (L' := [vr 9 0, vi l1, vi l2, vi l3, vi l4, vi l5, vi l6]) (st' := [vi l6]) (h' := (101, I32, J33, R0 b)) 1 rfl ?_
          exact WP.ret rfl rfl h
    · refine WP.blk (pc' := 93) (L' := [vr 9 0, vi l1, vi l2, vi l3, vi l4, vi l5, vi l6]) (st' := [vi l2, vi l6, vr 7 0]) (h' := (101, I, J, R0 b)) 3 rfl ?_
      refine WP.if_ne (t := 101) (L' := [vr 9 0, vi l1, vi l2, vi l3, vi l4, vi l5, vi l6]) rfl rfl rfl rfl h (fun h => ?_) (fun h => ?_)
      · refine WP.blk (pc' := 103) (L' := [vr 9 0, vi l1, vi l2, vi l3, vi l4, vi l5, vi l6]) (st' := [vi l4, vi l6, vr 7 0]) (h' := (101, I, J, R0 b)) 1 rfl ?_
        refine WP.cal (y' := 55) (as := [vr 7 0, vi l6, vi l4]) (L' := [vr 9 0, vi l1, vi l2, vi l3, vi l4, vi l5, vi l6]) (rest := []) rfl (fun f r h' hf => callV_ok hf rfl rfl rfl) h ?_
        rintro _ _ ⟨I35, J36, rfl, rfl, h⟩
        refine WP.blk (pc' := 114) (L' := [vr 9 0, vi l1, vi l2, vi l3, vi l4, vi l5, vi l6]) (st' := [vi (l1 + (1 : Int32)), vi 0, vr 5 0]) (h' := (101, I35, J36, R0 b)) 6 rfl ?_
        refine WP.cal (y' := 40) (as := [vr 5 0, vi 0, vi (l1 + (1 : Int32))]) (L' := [vr 9 0, vi l1, vi l2, vi l3, vi l4, vi l5, vi l6]) (rest := []) rfl (fun f r h' hf => callV_ok hf rfl rfl rfl) h ?_
        rintro _ _ ⟨I38, J39, rfl, rfl, h⟩
        refine WP.blk (pc' := 124) (L' := [vr 9 0, vi l1, vi l2, vi l3, vi l4, vi l5, vi l6]) (st' := [vi (I38 5 0 7)]) (h' := (101, I38, J39, R0 b)) 3 rfl ?_
        refine WP.if_le (t := 130) (L' := [vr 9 0, vi l1, vi l2, vi l3, vi l4, vi l5, vi l6]) rfl rfl rfl rfl h (fun h => ?_) (fun h => ?_)
        · refine WP.blk (pc' := 70) (L' := [vr 9 0, vi l1, vi l2, vi l3, vi l4, vi l5, vi (l6 + 1)]) (st' := []) (h' := (101, I38, J39, R0 b)) 2 rfl ?_
          exact WP.mask rfl rfl h
        · refine WP.blk (pc' := 129) (L' := [vr 9 0, vi l1, vi l2, vi l3, vi l4, vi l5, vi l6]) (st' := [vi l6]) (h' := (101, I38, J39, R0 b)) 1 rfl ?_
          exact WP.ret rfl rfl h
      · refine WP.blk (pc' := 103) (L' := [vr 9 0, vi l1, vi l2, vi l3, vi l4, vi l5, vi l6]) (st' := [vi l6, vi l6, vr 7 0]) (h' := (101, I, J, R0 b)) 2 rfl ?_
        refine WP.cal (y' := 55) (as := [vr 7 0, vi l6, vi l6]) (L' := [vr 9 0, vi l1, vi l2, vi l3, vi l4, vi l5, vi l6]) (rest := []) rfl (fun f r h' hf => callV_ok hf rfl rfl rfl) h ?_
        rintro _ _ ⟨I41, J42, rfl, rfl, h⟩
        refine WP.blk (pc' := 114) (L' := [vr 9 0, vi l1, vi l2, vi l3, vi l4, vi l5, vi l6]) (st' := [vi (l1 + (1 : Int32)), vi 0, vr 5 0]) (h' := (101, I41, J42, R0 b)) 6 rfl ?_
        refine WP.cal (y' := 40) (as := [vr 5 0, vi 0, vi (l1 + (1 : Int32))]) (L' := [vr 9 0, vi l1, vi l2, vi l3, vi l4, vi l5, vi l6]) (rest := []) rfl (fun f r h' hf => callV_ok hf rfl rfl rfl) h ?_
        rintro _ _ ⟨I44, J45, rfl, rfl, h⟩
        refine WP.blk (pc' := 124) (L' := [vr 9 0, vi l1, vi l2, vi l3, vi l4, vi l5, vi l6]) (st' := [vi (I44 5 0 7)]) (h' := (101, I44, J45, R0 b)) 3 rfl ?_
        refine WP.if_le (t := 130) (L' := [vr 9 0, vi l1, vi l2, vi l3, vi l4, vi l5, vi l6]) rfl rfl rfl rfl h (fun h => ?_) (fun h => ?_)
        · refine WP.blk (pc' := 70) (L' := [vr 9 0, vi l1, vi l2, vi l3, vi l4, vi l5, vi (l6 + 1)]) (st' := []) (h' := (101, I44, J45, R0 b)) 2 rfl ?_
          exact WP.mask rfl rfl h
        · refine WP.blk (pc' := 129) (L' := [vr 9 0, vi l1, vi l2, vi l3, vi l4, vi l5, vi l6]) (st' := [vi l6]) (h' := (101, I44, J45, R0 b)) 1 rfl ?_
          exact WP.ret rfl rfl h
set_option maxRecDepth 20000 in
theorem t_X9_glue {D : Nat} (l1 : Int32) (l2 : Int32) (I : IM) (J : JM) (b : Bool) {Q : Option AV → AH → Prop} (h : (Call D 124 [vi l2] (101, I, J, R0 b) (RIf b fun x1 I2 J3 => (if ¬ x1 = 0 then (Call D 127 [vr 9 0, vi l1] (101, I2, J3, R0 b) (RIf b fun x4 I5 J6 => (if x4 = 0 then (Call D 54 [vr 7 0] (101, I5, J6, R0 b) (RVf b fun I8 J9 => WP D 92 31 [vr 9 0, vn, vi l2, vn, vi 0, vn, vn] [] (101, I8, J9, R0 b) Q)) else Q (some (vi x4)) (101, I5, J6, R0 b)))) else Q (some (vi (-1))) (101, I2, J3, R0 b))))) : Call (D + 1) 92 [vr 9 0, vi l1, vi l2] (101, I, J, R0 b) Q := by
  refine Call.of rfl ?_
  show WP D 92 0 [vr 9 0, vi l1, vi l2, vn, vn, vn, vn] [] (101, I, J, R0 b) Q
  refine WP.blk (pc' := 1) (L' := [vr 9 0, vi l1, vi l2, vn, vn, vn, vn]) (st' := [vi l2]) (h' := (101, I, J, R0 b)) 1 rfl ?_
  refine WP.cal (y' := 124) (as := [vi l2]) (L' := [vr 9 0, vi l1, vi l2, vn, vn, vn, vn]) (rest := []) rfl (fun f r h' hf => callS_ok hf rfl rfl rfl) h ?_
  rintro _ _ ⟨x1, I2, J3, rfl, rfl, h⟩
  refine WP.if_ne (t := 9) (L' := [vr 9 0, vi l1, vi l2, vn, vn, vn, vn]) rfl rfl rfl rfl h (fun h => ?_) (fun h => ?_)
  · refine WP.blk (pc' := 11) (L' := [vr 9 0, vi l1, vi l2, vn, vn, vn, vn]) (st' := [vi l1, vr 9 0]) (h' := (101, I2, J3, R0 b)) 2 rfl ?_
    refine WP.cal (y' := 127) (as := [vr 9 0, vi l1]) (L' := [vr 9 0, vi l1, vi l2, vn, vn, vn, vn]) (rest := []) rfl (fun f r h' hf => callV_ok hf rfl rfl rfl) h ?_
    rintro _ _ ⟨x4, I5, J6, rfl, rfl, h⟩
    refine WP.blk (pc' := 16) (L' := [vr 9 0, vi l1, vi l2, vi x4, vn, vn, vn]) (st' := [vi x4]) (h' := (101, I5, J6, R0 b)) 2 rfl ?_
    refine WP.if_eq (t := 21) (L' := [vr 9 0, vi l1, vi l2, vi x4, vn, vn, vn]) rfl rfl rfl rfl h (fun h => ?_) (fun h => ?_)
    · refine WP.blk (pc' := 25) (L' := [vr 9 0, vi l1, vi l2, vi x4, vn, vn, vn]) (st' := [vr 7 0]) (h' := (101, I5, J6, R0 b)) 2 rfl ?_
      refine WP.cal (y' := 54) (as := [vr 7 0]) (L' := [vr 9 0, vi l1, vi l2, vi x4, vn, vn, vn]) (rest := []) rfl (fun f r h' hf => callV_ok hf rfl rfl rfl) h ?_
      rintro _ _ ⟨I8, J9, rfl, rfl, h⟩
      refine WP.blk (pc' := 31) (L' := [vr 9 0, vi l1, vi l2, vi x4, vi 0, vn, vn]) (st' := []) (h' := (101, I8, J9, R0 b)) 2 rfl ?_
      exact WP.mask rfl rfl h
    · refine WP.blk (pc' := 20) (L' := [vr 9 0, vi l1, vi l2, vi x4, vn, vn, vn]) (st' := [vi x4]) (h' := (101, I5, J6, R0 b)) 1 rfl ?_
      exact WP.ret rfl rfl h
  · refine WP.blk (pc' := 8) (L' := [vr 9 0, vi l1, vi l2, vn, vn, vn, vn]) (st' := [vi (-1)]) (h' := (101, I2, J3, R0 b)) 1 rfl ?_
    exact WP.ret rfl rfl h
set_option maxRecDepth 20000 in
theorem t_X9_glue_31 {D : Nat} (l2 : Int32) (l4 : Int32) (I : IM) (J : JM) (b : Bool) {Q : Option AV → AH → Prop} (h : (if (99 : Int32) < l4 then Q (some (vi (-2))) (101, I, J, R0 b) else (if ¬ l2 = 0 then WP D 92 57 [vr 9 0, vn, vi l2, vn, vi l4, vi l4, vi 0] [] (101, I, J, R0 b) Q else WP D 92 57 [vr 9 0, vn, vi l2, vn, vi l4, vi ((99 : Int32) - l4), vi 0] [] (101, I, J, R0 b) Q))) : WP D 92 31 [vr 9 0, vn, vi l2, vn, vi l4, vn, vn] [] (101, I, J, R0 b) Q := by
  refine WP.blk (pc' := 35) (L' := [vr 9 0, vn, vi l2, vn, vi l4, vn, vn]) (st' := [vi 99, vi l4]) (h' := (101, I, J, R0 b)) 2 rfl ?_
  refine WP.icmp_gt (t := 110) (L' := [vr 9 0, vn, vi l2, vn, vi l4, vn, vn]) rfl rfl rfl rfl h (fun h => ?_) (fun h => ?_)
  · refine WP.blk (pc' := 112) (L' := [vr 9 0, vn, vi l2, vn, vi l4, vn, vn]) (st' := [vi (-2)]) (h' := (101, I, J, R0 b)) 1 rfl ?_
    exact WP.ret rfl rfl h
  · refine WP.blk (pc' := 39) (L' := [vr 9 0, vn, vi l2, vn, vi l4, vn, vn]) (st' := [vi l2]) (h' := (101, I, J, R0 b)) 1 rfl ?_
    refine WP.if_ne (t := 50) (L' := [vr 9 0, vn, vi l2, vn, vi l4, vn, vn]) rfl rfl rfl rfl h (fun h => ?_) (fun h => ?_)
    · refine WP.blk (pc' := 57) (L' := [vr 9 0, vn, vi l2, vn, vi l4, vi l4, vi 0]) (st' := []) (h' := (101, I, J, R0 b)) 4 rfl ?_
      exact WP.mask rfl rfl h
    · refine WP.blk (pc' := 57) (L' := [vr 9 0, vn, vi l2, vn, vi l4, vi ((99 : Int32) - l4), vi 0]) (st' := []) (h' := (101, I, J, R0 b)) 7 rfl ?_
      exact WP.mask rfl rfl h
set_option maxRecDepth 20000 in
theorem t_X9_glue_57 {D : Nat} (l2 : Int32) (l4 : Int32) (l5 : Int32) (l6 : Int32) (I : IM) (J : JM) (b : Bool) {Q : Option AV → AH → Prop} (h : (if (I 9 0 11) ≤ l6 then (Call D 129 [vr 9 0] (101, I, J, R0 b) (RIf b fun x10 I11 J12 => (if ¬ x10 = (I11 9 0 11) then WP D 92 31 [vr 9 0, vn, vi l2, vn, vi (l4 + 1), vn, vn] [] (101, I11, J12, R0 b) Q else Q (some (vi l5)) (101, I11, J12, R0 b)))) else (vp_in l6 7 ∧ (Call D 56 [vr 7 0, vi (I 42 0 l6.toNatClampNeg), vi l6, vi l5] (101, I, J, R0 b) (RVf b fun I14 J15 => WP D 92 57 [vr 9 0, vn, vi l2, vn, vi l4, vi l5, vi (l6 + 1)] [] (101, I14, J15, R0 b) Q))))) : WP D 92 57 [vr 9 0, vn, vi l2, vn, vi l4, vi l5, vi l6] [] (101, I, J, R0 b) Q := by
  refine WP.blk (pc' := 63) (L' := [vr 9 0, vn, vi l2, vn, vi l4, vi l5, vi l6]) (st' := [vi (I 9 0 11), vi l6]) (h' := (101, I, J, R0 b)) 3 rfl ?_
  refine WP.icmp_ge (t := 90) (L' := [vr 9 0, vn, vi l2, vn, vi l4, vi l5, vi l6]) rfl rfl rfl rfl h (fun h => ?_) (fun h => ?_)
  · refine WP.blk (pc' := 91) (L' := [vr 9 0, vn, vi l2, vn, vi l4, vi l5, vi l6]) (st' := [vr 9 0]) (h' := (101, I, J, R0 b)) 1 rfl ?_
    refine WP.cal (y' := 129) (as := [vr 9 0]) (L' := [vr 9 0, vn, vi l2, vn, vi l4, vi l5, vi l6]) (rest := []) rfl (fun f r h' hf => callV_ok hf rfl rfl rfl) h ?_
    rintro _ _ ⟨x10, I11, J12, rfl, rfl, h⟩
    refine WP.blk (pc' := 98) (L' := [vr 9 0, vn, vi l2, vn, vi l4, vi l5, vi l6]) (st' := [vi (I11 9 0 11), vi x10]) (h' := (101, I11, J12, R0 b)) 2 rfl ?_
    refine WP.icmp_ne (t := 104) (L' := [vr 9 0, vn, vi l2, vn, vi l4, vi l5, vi l6]) rfl rfl rfl rfl h (fun h => ?_) (fun h => ?_)
    · refine WP.blk (pc' := 31) (L' := [vr 9 0, vn, vi l2, vn, vi (l4 + 1), vi l5, vi l6]) (st' := []) (h' := (101, I11, J12, R0 b)) 2 rfl ?_
      exact WP.mask rfl rfl h
    · refine WP.blk (pc' := 103) (L' := [vr 9 0, vn, vi l2, vn, vi l4, vi l5, vi l6]) (st' := [vi l5]) (h' := (101, I11, J12, R0 b)) 1 rfl ?_
      exact WP.ret rfl rfl h
  · refine WP.blk (pc' := 76) (L' := [vr 9 0, vn, vi l2, vn, vi l4, vi l5, vi l6]) (st' := [vi l6, vr 42 0, vr 7 0]) (h' := (101, I, J, R0 b)) 5 rfl ?_
    refine WP.step (pc' := 77) (L' := [vr 9 0, vn, vi l2, vn, vi l4, vi l5, vi l6]) (st' := [vi (I 42 0 l6.toNatClampNeg), vr 7 0]) (h' := (101, I, J, R0 b)) rfl (iaload_ok (n := 7) rfl rfl rfl (inA_of h.1)) ?_
    have h := And.right h
    refine WP.blk (pc' := 81) (L' := [vr 9 0, vn, vi l2, vn, vi l4, vi l5, vi l6]) (st' := [vi l5, vi l6, vi (I 42 0 l6.toNatClampNeg), vr 7 0]) (h' := (101, I, J, R0 b)) 2 rfl ?_
    refine WP.cal (y' := 56) (as := [vr 7 0, vi (I 42 0 l6.toNatClampNeg), vi l6, vi l5]) (L' := [vr 9 0, vn, vi l2, vn, vi l4, vi l5, vi l6]) (rest := []) rfl (fun f r h' hf => callV_ok hf rfl rfl rfl) h ?_
    rintro _ _ ⟨I14, J15, rfl, rfl, h⟩
    refine WP.blk (pc' := 57) (L' := [vr 9 0, vn, vi l2, vn, vi l4, vi l5, vi (l6 + 1)]) (st' := []) (h' := (101, I14, J15, R0 b)) 2 rfl ?_
    exact WP.mask rfl rfl h
set_option maxRecDepth 20000 in
theorem t_X9_worth {D : Nat} (l1 : Int32) (I : IM) (J : JM) (b : Bool) {Q : Option AV → AH → Prop} (h : (Call D 124 [vi l1] (101, I, J, R0 b) (RIf b fun x1 I2 J3 => (if ¬ x1 = 0 then (Call D 54 [vr 7 0] (101, I2, J3, R0 b) (RVf b fun I5 J6 => (Call D 132 [vr 9 0] (101, I5, J6, R0 b) (RIf b fun x7 I8 J9 => (if ¬ x7 = (-2000000000 : Int32) then (Call D 12 [vr 1 0, vi 6] (101, I8, J9, R0 b) (RIf b fun x10 I11 J12 => (Call D 12 [vr 1 0, vi 7] (101, I11, J12, R0 b) (RIf b fun x13 I14 J15 => (Call D 55 [vr 7 0, vi (x10 + l1), vi ((x13 + (1 : Int32)) - l1)] (101, I14, J15, R0 b) (RVf b fun I17 J18 => (Call D 132 [vr 9 0] (101, I17, J18, R0 b) (RIf b fun x19 I20 J21 => (if ¬ x19 = (-2000000000 : Int32) then Q (some (vi (x7 - x19))) (101, I20, J21, R0 b) else Q (some (vi (-2000000000))) (101, I20, J21, R0 b)))))))))) else Q (some (vi (-2000000000))) (101, I8, J9, R0 b)))))) else Q (some (vi (-2000000000))) (101, I2, J3, R0 b))))) : Call (D + 1) 93 [vr 9 0, vi l1] (101, I, J, R0 b) Q := by
  refine Call.of rfl ?_
  show WP D 93 0 [vr 9 0, vi l1, vn, vn] [] (101, I, J, R0 b) Q
  refine WP.blk (pc' := 1) (L' := [vr 9 0, vi l1, vn, vn]) (st' := [vi l1]) (h' := (101, I, J, R0 b)) 1 rfl ?_
  refine WP.cal (y' := 124) (as := [vi l1]) (L' := [vr 9 0, vi l1, vn, vn]) (rest := []) rfl (fun f r h' hf => callS_ok hf rfl rfl rfl) h ?_
  rintro _ _ ⟨x1, I2, J3, rfl, rfl, h⟩
  refine WP.if_ne (t := 10) (L' := [vr 9 0, vi l1, vn, vn]) rfl rfl rfl rfl h (fun h => ?_) (fun h => ?_)
  · refine WP.blk (pc' := 14) (L' := [vr 9 0, vi l1, vn, vn]) (st' := [vr 7 0]) (h' := (101, I2, J3, R0 b)) 2 rfl ?_
    refine WP.cal (y' := 54) (as := [vr 7 0]) (L' := [vr 9 0, vi l1, vn, vn]) (rest := []) rfl (fun f r h' hf => callV_ok hf rfl rfl rfl) h ?_
    rintro _ _ ⟨I5, J6, rfl, rfl, h⟩
    refine WP.blk (pc' := 18) (L' := [vr 9 0, vi l1, vn, vn]) (st' := [vr 9 0]) (h' := (101, I5, J6, R0 b)) 1 rfl ?_
    refine WP.cal (y' := 132) (as := [vr 9 0]) (L' := [vr 9 0, vi l1, vn, vn]) (rest := []) rfl (fun f r h' hf => callV_ok hf rfl rfl rfl) h ?_
    rintro _ _ ⟨x7, I8, J9, rfl, rfl, h⟩
    refine WP.blk (pc' := 25) (L' := [vr 9 0, vi l1, vi x7, vn]) (st' := [vi (-2000000000), vi x7]) (h' := (101, I8, J9, R0 b)) 3 rfl ?_
    refine WP.icmp_ne (t := 31) (L' := [vr 9 0, vi l1, vi x7, vn]) rfl rfl rfl rfl h (fun h => ?_) (fun h => ?_)
    · refine WP.blk (pc' := 41) (L' := [vr 9 0, vi l1, vi x7, vn]) (st' := [vi 6, vr 1 0, vr 7 0]) (h' := (101, I8, J9, R0 b)) 5 rfl ?_
      refine WP.cal (y' := 12) (as := [vr 1 0, vi 6]) (L' := [vr 9 0, vi l1, vi x7, vn]) (rest := [vr 7 0]) rfl (fun f r h' hf => callV_ok hf rfl rfl rfl) h ?_
      rintro _ _ ⟨x10, I11, J12, rfl, rfl, h⟩
      refine WP.blk (pc' := 52) (L' := [vr 9 0, vi l1, vi x7, vn]) (st' := [vi 7, vr 1 0, vi (x10 + l1), vr 7 0]) (h' := (101, I11, J12, R0 b)) 5 rfl ?_
      refine WP.cal (y' := 12) (as := [vr 1 0, vi 7]) (L' := [vr 9 0, vi l1, vi x7, vn]) (rest := [vi (x10 + l1), vr 7 0]) rfl (fun f r h' hf => callV_ok hf rfl rfl rfl) h ?_
      rintro _ _ ⟨x13, I14, J15, rfl, rfl, h⟩
      refine WP.blk (pc' := 59) (L' := [vr 9 0, vi l1, vi x7, vn]) (st' := [vi ((x13 + (1 : Int32)) - l1), vi (x10 + l1), vr 7 0]) (h' := (101, I14, J15, R0 b)) 4 rfl ?_
      refine WP.cal (y' := 55) (as := [vr 7 0, vi (x10 + l1), vi ((x13 + (1 : Int32)) - l1)]) (L' := [vr 9 0, vi l1, vi x7, vn]) (rest := []) rfl (fun f r h' hf => callV_ok hf rfl rfl rfl) h ?_
      rintro _ _ ⟨I17, J18, rfl, rfl, h⟩
      refine WP.blk (pc' := 63) (L' := [vr 9 0, vi l1, vi x7, vn]) (st' := [vr 9 0]) (h' := (101, I17, J18, R0 b)) 1 rfl ?_
      refine WP.cal (y' := 132) (as := [vr 9 0]) (L' := [vr 9 0, vi l1, vi x7, vn]) (rest := []) rfl (fun f r h' hf => callV_ok hf rfl rfl rfl) h ?_
      rintro _ _ ⟨x19, I20, J21, rfl, rfl, h⟩
      refine WP.blk (pc' := 70) (L' := [vr 9 0, vi l1, vi x7, vi x19]) (st' := [vi (-2000000000), vi x19]) (h' := (101, I20, J21, R0 b)) 3 rfl ?_
      refine WP.icmp_ne (t := 78) (L' := [vr 9 0, vi l1, vi x7, vi x19]) rfl rfl rfl rfl h (fun h => ?_) (fun h => ?_)
      · refine WP.blk (pc' := 81) (L' := [vr 9 0, vi l1, vi x7, vi x19]) (st' := [vi (x7 - x19)]) (h' := (101, I20, J21, R0 b)) 3 rfl ?_
        exact WP.ret rfl rfl h
      · refine WP.blk (pc' := 81) (L' := [vr 9 0, vi l1, vi x7, vi x19]) (st' := [vi (-2000000000)]) (h' := (101, I20, J21, R0 b)) 2 rfl ?_
        exact WP.ret rfl rfl h
    · refine WP.blk (pc' := 30) (L' := [vr 9 0, vi l1, vi x7, vn]) (st' := [vi (-2000000000)]) (h' := (101, I8, J9, R0 b)) 1 rfl ?_
      exact WP.ret rfl rfl h
  · refine WP.blk (pc' := 9) (L' := [vr 9 0, vi l1, vn, vn]) (st' := [vi (-2000000000)]) (h' := (101, I2, J3, R0 b)) 1 rfl ?_
    exact WP.ret rfl rfl h
set_option maxRecDepth 20000 in
theorem t_X9_inWay {D : Nat} (l1 : Int32) (I : IM) (J : JM) (b : Bool) {Q : Option AV → AH → Prop} (h : (Call D 127 [vr 9 0, vi l1] (101, I, J, R0 b) (RIf b fun x1 I2 J3 => (if x1 = 0 then (Call D 54 [vr 7 0] (101, I2, J3, R0 b) (RVf b fun I5 J6 => (Call D 129 [vr 9 0] (101, I5, J6, R0 b) (RIf b fun x7 I8 J9 => WP D 94 30 [vr 9 0, vn, vn, vi x7, vi 0, vi 0] [] (101, I8, J9, R0 b) Q)))) else Q (some (vi x1)) (101, I2, J3, R0 b))))) : Call (D + 1) 94 [vr 9 0, vi l1] (101, I, J, R0 b) Q := by
  refine Call.of rfl ?_
  show WP D 94 0 [vr 9 0, vi l1, vn, vn, vn, vn] [] (101, I, J, R0 b) Q
  refine WP.blk (pc' := 2) (L' := [vr 9 0, vi l1, vn, vn, vn, vn]) (st' := [vi l1, vr 9 0]) (h' := (101, I, J, R0 b)) 2 rfl ?_
  refine WP.cal (y' := 127) (as := [vr 9 0, vi l1]) (L' := [vr 9 0, vi l1, vn, vn, vn, vn]) (rest := []) rfl (fun f r h' hf => callV_ok hf rfl rfl rfl) h ?_
  rintro _ _ ⟨x1, I2, J3, rfl, rfl, h⟩
  refine WP.blk (pc' := 7) (L' := [vr 9 0, vi l1, vi x1, vn, vn, vn]) (st' := [vi x1]) (h' := (101, I2, J3, R0 b)) 2 rfl ?_
  refine WP.if_eq (t := 12) (L' := [vr 9 0, vi l1, vi x1, vn, vn, vn]) rfl rfl rfl rfl h (fun h => ?_) (fun h => ?_)
  · refine WP.blk (pc' := 16) (L' := [vr 9 0, vi l1, vi x1, vn, vn, vn]) (st' := [vr 7 0]) (h' := (101, I2, J3, R0 b)) 2 rfl ?_
    refine WP.cal (y' := 54) (as := [vr 7 0]) (L' := [vr 9 0, vi l1, vi x1, vn, vn, vn]) (rest := []) rfl (fun f r h' hf => callV_ok hf rfl rfl rfl) h ?_
    rintro _ _ ⟨I5, J6, rfl, rfl, h⟩
    refine WP.blk (pc' := 20) (L' := [vr 9 0, vi l1, vi x1, vn, vn, vn]) (st' := [vr 9 0]) (h' := (101, I5, J6, R0 b)) 1 rfl ?_
    refine WP.cal (y' := 129) (as := [vr 9 0]) (L' := [vr 9 0, vi l1, vi x1, vn, vn, vn]) (rest := []) rfl (fun f r h' hf => callV_ok hf rfl rfl rfl) h ?_
    rintro _ _ ⟨x7, I8, J9, rfl, rfl, h⟩
    refine WP.blk (pc' := 30) (L' := [vr 9 0, vi l1, vi x1, vi x7, vi 0, vi 0]) (st' := []) (h' := (101, I8, J9, R0 b)) 5 rfl ?_
    exact WP.mask rfl rfl h
  · refine WP.blk (pc' := 11) (L' := [vr 9 0, vi l1, vi x1, vn, vn, vn]) (st' := [vi x1]) (h' := (101, I2, J3, R0 b)) 1 rfl ?_
    exact WP.ret rfl rfl h
set_option maxRecDepth 20000 in
theorem t_X9_inWay_30 {D : Nat} (l3 : Int32) (l4 : Int32) (l5 : Int32) (I : IM) (J : JM) (b : Bool) {Q : Option AV → AH → Prop} (h : (if (I 9 0 11) ≤ l5 then Q (some (vi l4)) (101, I, J, R0 b) else (Call D 131 [vr 9 0, vi l5] (101, I, J, R0 b) (RIf b fun x10 I11 J12 => (if x10 ≤ l3 then WP D 94 30 [vr 9 0, vn, vn, vi l3, vi l4, vi (l5 + 1)] [] (101, I11, J12, R0 b) Q else (vp_in l5 7 ∧ WP D 94 30 [vr 9 0, vn, vn, vi l3, vi (l4 ||| ((1 : Int32) <<< ((I11 42 0 l5.toNatClampNeg) &&& 31))), vi (l5 + 1)] [] (101, I11, J12, R0 b) Q)))))) : WP D 94 30 [vr 9 0, vn, vn, vi l3, vi l4, vi l5] [] (101, I, J, R0 b) Q := by
  refine WP.blk (pc' := 36) (L' := [vr 9 0, vn, vn, vi l3, vi l4, vi l5]) (st' := [vi (I 9 0 11), vi l5]) (h' := (101, I, J, R0 b)) 3 rfl ?_
  refine WP.icmp_ge (t := 69) (L' := [vr 9 0, vn, vn, vi l3, vi l4, vi l5]) rfl rfl rfl rfl h (fun h => ?_) (fun h => ?_)
  · refine WP.blk (pc' := 71) (L' := [vr 9 0, vn, vn, vi l3, vi l4, vi l5]) (st' := [vi l4]) (h' := (101, I, J, R0 b)) 1 rfl ?_
    exact WP.ret rfl rfl h
  · refine WP.blk (pc' := 42) (L' := [vr 9 0, vn, vn, vi l3, vi l4, vi l5]) (st' := [vi l5, vr 9 0]) (h' := (101, I, J, R0 b)) 2 rfl ?_
    refine WP.cal (y' := 131) (as := [vr 9 0, vi l5]) (L' := [vr 9 0, vn, vn, vi l3, vi l4, vi l5]) (rest := []) rfl (fun f r h' hf => callV_ok hf rfl rfl rfl) h ?_
    rintro _ _ ⟨x10, I11, J12, rfl, rfl, h⟩
    refine WP.blk (pc' := 46) (L' := [vr 9 0, vn, vn, vi l3, vi l4, vi l5]) (st' := [vi l3, vi x10]) (h' := (101, I11, J12, R0 b)) 1 rfl ?_
    refine WP.icmp_le (t := 63) (L' := [vr 9 0, vn, vn, vi l3, vi l4, vi l5]) rfl rfl rfl rfl h (fun h => ?_) (fun h => ?_)
    · refine WP.blk (pc' := 30) (L' := [vr 9 0, vn, vn, vi l3, vi l4, vi (l5 + 1)]) (st' := []) (h' := (101, I11, J12, R0 b)) 2 rfl ?_
      exact WP.mask rfl rfl h
    · refine WP.blk (pc' := 58) (L' := [vr 9 0, vn, vn, vi l3, vi l4, vi l5]) (st' := [vi l5, vr 42 0, vi 1, vi l4]) (h' := (101, I11, J12, R0 b)) 5 rfl ?_
      refine WP.step (pc' := 59) (L' := [vr 9 0, vn, vn, vi l3, vi l4, vi l5]) (st' := [vi (I11 42 0 l5.toNatClampNeg), vi 1, vi l4]) (h' := (101, I11, J12, R0 b)) rfl (iaload_ok (n := 7) rfl rfl rfl (inA_of h.1)) ?_
      have h := And.right h
      refine WP.blk (pc' := 30) (L' := [vr 9 0, vn, vn, vi l3, vi (l4 ||| ((1 : Int32) <<< ((I11 42 0 l5.toNatClampNeg) &&& 31))), vi (l5 + 1)]) (st' := []) (h' := (101, I11, J12, R0 b)) 5 rfl ?_
      exact WP.mask rfl rfl h
set_option maxRecDepth 20000 in
theorem t_X9_dry {D : Nat}  (I : IM) (J : JM) (b : Bool) {Q : Option AV → AH → Prop} (h : (Call D 54 [vr 7 0] (101, I, J, R0 b) (RVf b fun I2 J3 => (Call D 38 [vr 5 0] (101, (updI I2 7 0 5 1), J3, R0 b) (RVf b fun I5 J6 => (Call D 40 [vr 5 0, vi 3, vi 1000001] (101, I5, J6, R0 b) (RVf b fun I8 J9 => Q (some (vi (I8 5 0 9))) (101, I8, J9, R0 b)))))))) : Call (D + 1) 95 [vr 9 0] (101, I, J, R0 b) Q := by
  refine Call.of rfl ?_
  show WP D 95 0 [vr 9 0] [] (101, I, J, R0 b) Q
  refine WP.blk (pc' := 4) (L' := [vr 9 0]) (st' := [vr 7 0]) (h' := (101, I, J, R0 b)) 2 rfl ?_
  refine WP.cal (y' := 54) (as := [vr 7 0]) (L' := [vr 9 0]) (rest := []) rfl (fun f r h' hf => callV_ok hf rfl rfl rfl) h ?_
  rintro _ _ ⟨I2, J3, rfl, rfl, h⟩
  refine WP.blk (pc' := 19) (L' := [vr 9 0]) (st' := [vr 5 0]) (h' := (101, (updI I2 7 0 5 1), J3, R0 b)) 6 rfl ?_
  refine WP.cal (y' := 38) (as := [vr 5 0]) (L' := [vr 9 0]) (rest := []) rfl (fun f r h' hf => callV_ok hf rfl rfl rfl) h ?_
  rintro _ _ ⟨I5, J6, rfl, rfl, h⟩
  refine WP.blk (pc' := 29) (L' := [vr 9 0]) (st' := [vi 1000001, vi 3, vr 5 0]) (h' := (101, I5, J6, R0 b)) 4 rfl ?_
  refine WP.cal (y' := 40) (as := [vr 5 0, vi 3, vi 1000001]) (L' := [vr 9 0]) (rest := []) rfl (fun f r h' hf => callV_ok hf rfl rfl rfl) h ?_
  rintro _ _ ⟨I8, J9, rfl, rfl, h⟩
  refine WP.blk (pc' := 39) (L' := [vr 9 0]) (st' := [vi (I8 5 0 9)]) (h' := (101, I8, J9, R0 b)) 3 rfl ?_
  exact WP.ret rfl rfl h
set_option maxRecDepth 20000 in
theorem t_X9_atOnce {D : Nat} (l1 : Int32) (I : IM) (J : JM) (b : Bool) {Q : Option AV → AH → Prop} (h : (if l1 < (-1 : Int32) then Q (some (vi (-1))) (101, I, J, R0 b) else (if l1 ≤ (((1 : Int32) <<< ((I 1 0 1) &&& 31)) - (1 : Int32)) then (if l1 < 0 then WP D 96 50 [vr 9 0, vn, vi (((1 : Int32) <<< ((I 1 0 1) &&& 31)) - (1 : Int32)), vi 0, vi 1] [] (101, I, J, R0 b) Q else (Call D 15 [vr 1 0, vi l1] (101, I, J, R0 b) (RIf b fun x1 I2 J3 => (if x1 = 0 then Q (some (vi 0)) (101, I2, J3, R0 b) else Q (some (vi 1)) (101, I2, J3, R0 b))))) else Q (some (vi (-1))) (101, I, J, R0 b)))) : Call (D + 1) 96 [vr 9 0, vi l1] (101, I, J, R0 b) Q := by
  refine Call.of rfl ?_
  show WP D 96 0 [vr 9 0, vi l1, vn, vn, vn] [] (101, I, J, R0 b) Q
  refine WP.blk (pc' := 14) (L' := [vr 9 0, vi l1, vi (((1 : Int32) <<< ((I 1 0 1) &&& 31)) - (1 : Int32)), vn, vn]) (st' := [vi (-1), vi l1]) (h' := (101, I, J, R0 b)) 10 rfl ?_
  refine WP.icmp_lt (t := 22) (L' := [vr 9 0, vi l1, vi (((1 : Int32) <<< ((I 1 0 1) &&& 31)) - (1 : Int32)), vn, vn]) rfl rfl rfl rfl h (fun h => ?_) (fun h => ?_)
  · refine WP.blk (pc' := 23) (L' := [vn, vn, vn, vn, vn]) (st' := [vi (-1)]) (h' := (101, I, J, R0 b)) 1 rfl ?_
    exact WP.ret rfl rfl h
  · refine WP.blk (pc' := 19) (L' := [vr 9 0, vi l1, vi (((1 : Int32) <<< ((I 1 0 1) &&& 31)) - (1 : Int32)), vn, vn]) (st' := [vi (((1 : Int32) <<< ((I 1 0 1) &&& 31)) - (1 : Int32)), vi l1]) (h' := (101, I, J, R0 b)) 2 rfl ?_
    refine WP.icmp_le (t := 24) (L' := [vr 9 0, vi l1, vi (((1 : Int32) <<< ((I 1 0 1) &&& 31)) - (1 : Int32)), vn, vn]) rfl rfl rfl rfl h (fun h => ?_) (fun h => ?_)
    · refine WP.blk (pc' := 25) (L' := [vr 9 0, vi l1, vi (((1 : Int32) <<< ((I 1 0 1) &&& 31)) - (1 : Int32)), vn, vn]) (st' := [vi l1]) (h' := (101, I, J, R0 b)) 1 rfl ?_
      refine WP.if_lt (t := 45) (L' := [vr 9 0, vi l1, vi (((1 : Int32) <<< ((I 1 0 1) &&& 31)) - (1 : Int32)), vn, vn]) rfl rfl rfl rfl h (fun h => ?_) (fun h => ?_)
      · refine WP.blk (pc' := 50) (L' := [vr 9 0, vi l1, vi (((1 : Int32) <<< ((I 1 0 1) &&& 31)) - (1 : Int32)), vi 0, vi 1]) (st' := []) (h' := (101, I, J, R0 b)) 4 rfl ?_
        exact WP.mask rfl rfl h
      · refine WP.blk (pc' := 33) (L' := [vr 9 0, vi l1, vi (((1 : Int32) <<< ((I 1 0 1) &&& 31)) - (1 : Int32)), vn, vn]) (st' := [vi l1, vr 1 0]) (h' := (101, I, J, R0 b)) 3 rfl ?_
        refine WP.cal (y' := 15) (as := [vr 1 0, vi l1]) (L' := [vr 9 0, vi l1, vi (((1 : Int32) <<< ((I 1 0 1) &&& 31)) - (1 : Int32)), vn, vn]) (rest := []) rfl (fun f r h' hf => callV_ok hf rfl rfl rfl) h ?_
        rintro _ _ ⟨x1, I2, J3, rfl, rfl, h⟩
        refine WP.if_eq (t := 43) (L' := [vr 9 0, vi l1, vi (((1 : Int32) <<< ((I 1 0 1) &&& 31)) - (1 : Int32)), vn, vn]) rfl rfl rfl rfl h (fun h => ?_) (fun h => ?_)
        · refine WP.blk (pc' := 44) (L' := [vr 9 0, vi l1, vi (((1 : Int32) <<< ((I 1 0 1) &&& 31)) - (1 : Int32)), vn, vn]) (st' := [vi 0]) (h' := (101, I2, J3, R0 b)) 1 rfl ?_
          exact WP.ret rfl rfl h
        · refine WP.blk (pc' := 44) (L' := [vr 9 0, vi l1, vi (((1 : Int32) <<< ((I 1 0 1) &&& 31)) - (1 : Int32)), vn, vn]) (st' := [vi 1]) (h' := (101, I2, J3, R0 b)) 2 rfl ?_
          exact WP.ret rfl rfl h
    · refine WP.blk (pc' := 23) (L' := [vn, vn, vn, vn, vn]) (st' := [vi (-1)]) (h' := (101, I, J, R0 b)) 1 rfl ?_
      exact WP.ret rfl rfl h
set_option maxRecDepth 20000 in
theorem t_X9_atOnce_50 {D : Nat} (l2 : Int32) (l3 : Int32) (l4 : Int32) (I : IM) (J : JM) (b : Bool) {Q : Option AV → AH → Prop} (h : (if l2 < l4 then Q (some (vi l3)) (101, I, J, R0 b) else (Call D 253 [vi l4] (101, I, J, R0 b) (RIf b fun x4 I5 J6 => (Call D 253 [vi l3] (101, I5, J6, R0 b) (RIf b fun x7 I8 J9 => (if x4 ≤ x7 then WP D 96 50 [vr 9 0, vn, vi l2, vi l3, vi (l4 + 1)] [] (101, I8, J9, R0 b) Q else (Call D 15 [vr 1 0, vi l4] (101, I8, J9, R0 b) (RIf b fun x10 I11 J12 => (if x10 = 0 then WP D 96 50 [vr 9 0, vn, vi l2, vi l3, vi (l4 + 1)] [] (101, I11, J12, R0 b) Q else WP D 96 50 [vr 9 0, vn, vi l2, vi l4, vi (l4 + 1)] [] (101, I11, J12, R0 b) Q)))))))))) : WP D 96 50 [vr 9 0, vn, vi l2, vi l3, vi l4] [] (101, I, J, R0 b) Q := by
  refine WP.blk (pc' := 53) (L' := [vr 9 0, vn, vi l2, vi l3, vi l4]) (st' := [vi l2, vi l4]) (h' := (101, I, J, R0 b)) 2 rfl ?_
  refine WP.icmp_gt (t := 89) (L' := [vr 9 0, vn, vi l2, vi l3, vi l4]) rfl rfl rfl rfl h (fun h => ?_) (fun h => ?_)
  · refine WP.blk (pc' := 90) (L' := [vr 9 0, vn, vi l2, vi l3, vi l4]) (st' := [vi l3]) (h' := (101, I, J, R0 b)) 1 rfl ?_
    exact WP.ret rfl rfl h
  · refine WP.blk (pc' := 58) (L' := [vr 9 0, vn, vi l2, vi l3, vi l4]) (st' := [vi l4]) (h' := (101, I, J, R0 b)) 1 rfl ?_
    refine WP.cal (y' := 253) (as := [vi l4]) (L' := [vr 9 0, vn, vi l2, vi l3, vi l4]) (rest := []) rfl (fun f r h' hf => callS_ok hf rfl rfl rfl) h ?_
    rintro _ _ ⟨x4, I5, J6, rfl, rfl, h⟩
    refine WP.blk (pc' := 62) (L' := [vr 9 0, vn, vi l2, vi l3, vi l4]) (st' := [vi l3, vi x4]) (h' := (101, I5, J6, R0 b)) 1 rfl ?_
    refine WP.cal (y' := 253) (as := [vi l3]) (L' := [vr 9 0, vn, vi l2, vi l3, vi l4]) (rest := [vi x4]) rfl (fun f r h' hf => callS_ok hf rfl rfl rfl) h ?_
    rintro _ _ ⟨x7, I8, J9, rfl, rfl, h⟩
    refine WP.icmp_le (t := 83) (L' := [vr 9 0, vn, vi l2, vi l3, vi l4]) rfl rfl rfl rfl h (fun h => ?_) (fun h => ?_)
    · refine WP.blk (pc' := 50) (L' := [vr 9 0, vn, vi l2, vi l3, vi (l4 + 1)]) (st' := []) (h' := (101, I8, J9, R0 b)) 2 rfl ?_
      exact WP.mask rfl rfl h
    · refine WP.blk (pc' := 74) (L' := [vr 9 0, vn, vi l2, vi l3, vi l4]) (st' := [vi l4, vr 1 0]) (h' := (101, I8, J9, R0 b)) 3 rfl ?_
      refine WP.cal (y' := 15) (as := [vr 1 0, vi l4]) (L' := [vr 9 0, vn, vi l2, vi l3, vi l4]) (rest := []) rfl (fun f r h' hf => callV_ok hf rfl rfl rfl) h ?_
      rintro _ _ ⟨x10, I11, J12, rfl, rfl, h⟩
      refine WP.if_eq (t := 83) (L' := [vr 9 0, vn, vi l2, vi l3, vi l4]) rfl rfl rfl rfl h (fun h => ?_) (fun h => ?_)
      · refine WP.blk (pc' := 50) (L' := [vr 9 0, vn, vi l2, vi l3, vi (l4 + 1)]) (st' := []) (h' := (101, I11, J12, R0 b)) 2 rfl ?_
        exact WP.mask rfl rfl h
      · refine WP.blk (pc' := 50) (L' := [vr 9 0, vn, vi l2, vi l4, vi (l4 + 1)]) (st' := []) (h' := (101, I11, J12, R0 b)) 4 rfl ?_
        exact WP.mask rfl rfl h
set_option maxRecDepth 20000 in
theorem t_X9_wrong {D : Nat} (l1 : Int32) (l2 : Int32) (I : IM) (J : JM) (b : Bool) {Q : Option AV → AH → Prop} (h : (if l2 < 0 then Q (some (vi (-1))) (101, I, J, R0 b) else (if (l2 / (10 : Int32)) ≤ (l2 - l2 / (10 : Int32) * (10 : Int32)) then (Call D 127 [vr 9 0, vi l1] (101, I, J, R0 b) (RIf b fun x1 I2 J3 => (if x1 = 0 then (Call D 54 [vr 7 0] (101, I2, J3, R0 b) (RVf b fun I5 J6 => (Call D 129 [vr 9 0] (101, I5, J6, R0 b) (RIf b fun x7 I8 J9 => (if (l2 - l2 / (10 : Int32) * (10 : Int32)) < x7 then (vp_in (l2 - l2 / (10 : Int32) * (10 : Int32)) 35 ∧ (Call D 68 [vr 8 0, vi (l2 / (10 : Int32))] (101, I8, J9, R0 b) (RVf b fun I11 J12 => (Call D 130 [vr 9 0, vi (l2 / (10 : Int32))] (101, (updI I11 8 0 12 ((I8 32 0 (l2 - l2 / (10 : Int32) * (10 : Int32)).toNatClampNeg) + ((2 : Int32) * (((l2 - l2 / (10 : Int32) * (10 : Int32)) - (l2 / (10 : Int32))) + (1 : Int32))))), J12, R0 b) (RIf b fun x13 I14 J15 => (if x13 = 0 then Q (some (vi (-2))) (101, I14, J15, R0 b) else (Call D 73 [vr 8 0] (101, I14, J15, R0 b) (RIf b fun x16 I17 J18 => Q (some (vi x16)) (101, I17, J18, R0 b))))))))) else Q (some (vi (-2))) (101, I8, J9, R0 b)))))) else Q (some (vi x1)) (101, I2, J3, R0 b)))) else Q (some (vi (-1))) (101, I, J, R0 b)))) : Call (D + 1) 97 [vr 9 0, vi l1, vi l2] (101, I, J, R0 b) Q := by
  refine Call.of rfl ?_
  show WP D 97 0 [vr 9 0, vi l1, vi l2, vn, vn, vn, vn] [] (101, I, J, R0 b) Q
  refine WP.blk (pc' := 12) (L' := [vr 9 0, vi l1, vi l2, vi (l2 / (10 : Int32)), vi (l2 - l2 / (10 : Int32) * (10 : Int32)), vn, vn]) (st' := [vi l2]) (h' := (101, I, J, R0 b)) 9 rfl ?_
  refine WP.if_lt (t := 21) (L' := [vr 9 0, vi l1, vi l2, vi (l2 / (10 : Int32)), vi (l2 - l2 / (10 : Int32) * (10 : Int32)), vn, vn]) rfl rfl rfl rfl h (fun h => ?_) (fun h => ?_)
  · refine WP.blk (pc' := 22) (L' := [vn, vn, vn, vn, vn, vn, vn]) (st' := [vi (-1)]) (h' := (101, I, J, R0 b)) 1 rfl ?_
    exact WP.ret rfl rfl h
  · refine WP.blk (pc' := 18) (L' := [vr 9 0, vi l1, vi l2, vi (l2 / (10 : Int32)), vi (l2 - l2 / (10 : Int32) * (10 : Int32)), vn, vn]) (st' := [vi (l2 / (10 : Int32)), vi (l2 - l2 / (10 : Int32) * (10 : Int32))]) (h' := (101, I, J, R0 b)) 2 rfl ?_
    refine WP.icmp_ge (t := 23) (L' := [vr 9 0, vi l1, vi l2, vi (l2 / (10 : Int32)), vi (l2 - l2 / (10 : Int32) * (10 : Int32)), vn, vn]) rfl rfl rfl rfl h (fun h => ?_) (fun h => ?_)
    · refine WP.blk (pc' := 25) (L' := [vr 9 0, vi l1, vi l2, vi (l2 / (10 : Int32)), vi (l2 - l2 / (10 : Int32) * (10 : Int32)), vn, vn]) (st' := [vi l1, vr 9 0]) (h' := (101, I, J, R0 b)) 2 rfl ?_
      refine WP.cal (y' := 127) (as := [vr 9 0, vi l1]) (L' := [vr 9 0, vi l1, vi l2, vi (l2 / (10 : Int32)), vi (l2 - l2 / (10 : Int32) * (10 : Int32)), vn, vn]) (rest := []) rfl (fun f r h' hf => callV_ok hf rfl rfl rfl) h ?_
      rintro _ _ ⟨x1, I2, J3, rfl, rfl, h⟩
      refine WP.blk (pc' := 32) (L' := [vr 9 0, vi l1, vi l2, vi (l2 / (10 : Int32)), vi (l2 - l2 / (10 : Int32) * (10 : Int32)), vi x1, vn]) (st' := [vi x1]) (h' := (101, I2, J3, R0 b)) 2 rfl ?_
      refine WP.if_eq (t := 38) (L' := [vr 9 0, vi l1, vi l2, vi (l2 / (10 : Int32)), vi (l2 - l2 / (10 : Int32) * (10 : Int32)), vi x1, vn]) rfl rfl rfl rfl h (fun h => ?_) (fun h => ?_)
      · refine WP.blk (pc' := 42) (L' := [vr 9 0, vi l1, vi l2, vi (l2 / (10 : Int32)), vi (l2 - l2 / (10 : Int32) * (10 : Int32)), vi x1, vn]) (st' := [vr 7 0]) (h' := (101, I2, J3, R0 b)) 2 rfl ?_
        refine WP.cal (y' := 54) (as := [vr 7 0]) (L' := [vr 9 0, vi l1, vi l2, vi (l2 / (10 : Int32)), vi (l2 - l2 / (10 : Int32) * (10 : Int32)), vi x1, vn]) (rest := []) rfl (fun f r h' hf => callV_ok hf rfl rfl rfl) h ?_
        rintro _ _ ⟨I5, J6, rfl, rfl, h⟩
        refine WP.blk (pc' := 48) (L' := [vr 9 0, vi l1, vi l2, vi (l2 / (10 : Int32)), vi (l2 - l2 / (10 : Int32) * (10 : Int32)), vi x1, vn]) (st' := [vr 9 0, vi (l2 - l2 / (10 : Int32) * (10 : Int32))]) (h' := (101, I5, J6, R0 b)) 2 rfl ?_
        refine WP.cal (y' := 129) (as := [vr 9 0]) (L' := [vr 9 0, vi l1, vi l2, vi (l2 / (10 : Int32)), vi (l2 - l2 / (10 : Int32) * (10 : Int32)), vi x1, vn]) (rest := [vi (l2 - l2 / (10 : Int32) * (10 : Int32))]) rfl (fun f r h' hf => callV_ok hf rfl rfl rfl) h ?_
        rintro _ _ ⟨x7, I8, J9, rfl, rfl, h⟩
        refine WP.icmp_lt (t := 57) (L' := [vr 9 0, vi l1, vi l2, vi (l2 / (10 : Int32)), vi (l2 - l2 / (10 : Int32) * (10 : Int32)), vi x1, vn]) rfl rfl rfl rfl h (fun h => ?_) (fun h => ?_)
        · refine WP.blk (pc' := 66) (L' := [vr 9 0, vi l1, vi l2, vi (l2 / (10 : Int32)), vi (l2 - l2 / (10 : Int32) * (10 : Int32)), vi x1, vn]) (st' := [vi (l2 - l2 / (10 : Int32) * (10 : Int32)), vr 32 0]) (h' := (101, I8, J9, R0 b)) 4 rfl ?_
          refine WP.step (pc' := 67) (L' := [vr 9 0, vi l1, vi l2, vi (l2 / (10 : Int32)), vi (l2 - l2 / (10 : Int32) * (10 : Int32)), vi x1, vn]) (st' := [vi (I8 32 0 (l2 - l2 / (10 : Int32) * (10 : Int32)).toNatClampNeg)]) (h' := (101, I8, J9, R0 b)) rfl (iaload_ok (n := 35) rfl rfl rfl (inA_of h.1)) ?_
          have h := And.right h
          refine WP.blk (pc' := 83) (L' := [vr 9 0, vi l1, vi l2, vi (l2 / (10 : Int32)), vi (l2 - l2 / (10 : Int32) * (10 : Int32)), vi x1, vi ((I8 32 0 (l2 - l2 / (10 : Int32) * (10 : Int32)).toNatClampNeg) + ((2 : Int32) * (((l2 - l2 / (10 : Int32) * (10 : Int32)) - (l2 / (10 : Int32))) + (1 : Int32))))]) (st' := [vi (l2 / (10 : Int32)), vr 8 0]) (h' := (101, I8, J9, R0 b)) 12 rfl ?_
          refine WP.cal (y' := 68) (as := [vr 8 0, vi (l2 / (10 : Int32))]) (L' := [vr 9 0, vi l1, vi l2, vi (l2 / (10 : Int32)), vi (l2 - l2 / (10 : Int32) * (10 : Int32)), vi x1, vi ((I8 32 0 (l2 - l2 / (10 : Int32) * (10 : Int32)).toNatClampNeg) + ((2 : Int32) * (((l2 - l2 / (10 : Int32) * (10 : Int32)) - (l2 / (10 : Int32))) + (1 : Int32))))]) (rest := []) rfl (fun f r h' hf => callV_ok hf rfl rfl rfl) h ?_
          rintro _ _ ⟨I11, J12, rfl, rfl, h⟩
          refine WP.blk (pc' := 97) (L' := [vr 9 0, vi l1, vi l2, vi (l2 / (10 : Int32)), vi (l2 - l2 / (10 : Int32) * (10 : Int32)), vi x1, vi ((I8 32 0 (l2 - l2 / (10 : Int32) * (10 : Int32)).toNatClampNeg) + ((2 : Int32) * (((l2 - l2 / (10 : Int32) * (10 : Int32)) - (l2 / (10 : Int32))) + (1 : Int32))))]) (st' := [vi (l2 / (10 : Int32)), vr 9 0]) (h' := (101, (updI I11 8 0 12 ((I8 32 0 (l2 - l2 / (10 : Int32) * (10 : Int32)).toNatClampNeg) + ((2 : Int32) * (((l2 - l2 / (10 : Int32) * (10 : Int32)) - (l2 / (10 : Int32))) + (1 : Int32))))), J12, R0 b)) 6 rfl ?_
          refine WP.cal (y' := 130) (as := [vr 9 0, vi (l2 / (10 : Int32))]) (L' := [vr 9 0, vi l1, vi l2, vi (l2 / (10 : Int32)), vi (l2 - l2 / (10 : Int32) * (10 : Int32)), vi x1, vi ((I8 32 0 (l2 - l2 / (10 : Int32) * (10 : Int32)).toNatClampNeg) + ((2 : Int32) * (((l2 - l2 / (10 : Int32) * (10 : Int32)) - (l2 / (10 : Int32))) + (1 : Int32))))]) (rest := []) rfl (fun f r h' hf => callV_ok hf rfl rfl rfl) h ?_
          rintro _ _ ⟨x13, I14, J15, rfl, rfl, h⟩
          refine WP.if_eq (t := 113) (L' := [vr 9 0, vi l1, vi l2, vi (l2 / (10 : Int32)), vi (l2 - l2 / (10 : Int32) * (10 : Int32)), vi x1, vi ((I8 32 0 (l2 - l2 / (10 : Int32) * (10 : Int32)).toNatClampNeg) + ((2 : Int32) * (((l2 - l2 / (10 : Int32) * (10 : Int32)) - (l2 / (10 : Int32))) + (1 : Int32))))]) rfl rfl rfl rfl h (fun h => ?_) (fun h => ?_)
          · refine WP.blk (pc' := 115) (L' := [vr 9 0, vi l1, vi l2, vi (l2 / (10 : Int32)), vi (l2 - l2 / (10 : Int32) * (10 : Int32)), vi x1, vi ((I8 32 0 (l2 - l2 / (10 : Int32) * (10 : Int32)).toNatClampNeg) + ((2 : Int32) * (((l2 - l2 / (10 : Int32) * (10 : Int32)) - (l2 / (10 : Int32))) + (1 : Int32))))]) (st' := [vi (-2)]) (h' := (101, I14, J15, R0 b)) 1 rfl ?_
            exact WP.ret rfl rfl h
          · refine WP.blk (pc' := 107) (L' := [vr 9 0, vi l1, vi l2, vi (l2 / (10 : Int32)), vi (l2 - l2 / (10 : Int32) * (10 : Int32)), vi x1, vi ((I8 32 0 (l2 - l2 / (10 : Int32) * (10 : Int32)).toNatClampNeg) + ((2 : Int32) * (((l2 - l2 / (10 : Int32) * (10 : Int32)) - (l2 / (10 : Int32))) + (1 : Int32))))]) (st' := [vr 8 0]) (h' := (101, I14, J15, R0 b)) 2 rfl ?_
            refine WP.cal (y' := 73) (as := [vr 8 0]) (L' := [vr 9 0, vi l1, vi l2, vi (l2 / (10 : Int32)), vi (l2 - l2 / (10 : Int32) * (10 : Int32)), vi x1, vi ((I8 32 0 (l2 - l2 / (10 : Int32) * (10 : Int32)).toNatClampNeg) + ((2 : Int32) * (((l2 - l2 / (10 : Int32) * (10 : Int32)) - (l2 / (10 : Int32))) + (1 : Int32))))]) (rest := []) rfl (fun f r h' hf => callV_ok hf rfl rfl rfl) h ?_
            rintro _ _ ⟨x16, I17, J18, rfl, rfl, h⟩
            refine WP.blk (pc' := 115) (L' := [vr 9 0, vi l1, vi l2, vi (l2 / (10 : Int32)), vi (l2 - l2 / (10 : Int32) * (10 : Int32)), vi x1, vi ((I8 32 0 (l2 - l2 / (10 : Int32) * (10 : Int32)).toNatClampNeg) + ((2 : Int32) * (((l2 - l2 / (10 : Int32) * (10 : Int32)) - (l2 / (10 : Int32))) + (1 : Int32))))]) (st' := [vi x16]) (h' := (101, I17, J18, R0 b)) 1 rfl ?_
            exact WP.ret rfl rfl h
        · refine WP.blk (pc' := 56) (L' := [vr 9 0, vi l1, vi l2, vi (l2 / (10 : Int32)), vi (l2 - l2 / (10 : Int32) * (10 : Int32)), vi x1, vn]) (st' := [vi (-2)]) (h' := (101, I8, J9, R0 b)) 1 rfl ?_
          exact WP.ret rfl rfl h
      · refine WP.blk (pc' := 37) (L' := [vr 9 0, vi l1, vi l2, vi (l2 / (10 : Int32)), vi (l2 - l2 / (10 : Int32) * (10 : Int32)), vi x1, vn]) (st' := [vi x1]) (h' := (101, I2, J3, R0 b)) 1 rfl ?_
        exact WP.ret rfl rfl h
    · refine WP.blk (pc' := 22) (L' := [vn, vn, vn, vn, vn, vn, vn]) (st' := [vi (-1)]) (h' := (101, I, J, R0 b)) 1 rfl ?_
      exact WP.ret rfl rfl h
set_option maxRecDepth 20000 in
theorem t_X9_round {D : Nat} (l1 : Int32) (l2 : Int32) (I : IM) (J : JM) (b : Bool) {Q : Option AV → AH → Prop} (h : (if l2 < (1 : Int32) then Q (some (vi (-1))) (101, I, J, R0 b) else (if l2 ≤ (5 : Int32) then (Call D 127 [vr 9 0, vi l1] (101, I, J, R0 b) (RIf b fun x1 I2 J3 => (if x1 = 0 then (Call D 54 [vr 7 0] (101, I2, J3, R0 b) (RVf b fun I5 J6 => (Call D 60 [vr 8 0, vi 0] (101, I5, J6, R0 b) (RVf b fun I8 J9 => WP D 98 42 [vr 9 0, vn, vi l2, vn, vi 0] [] (101, I8, J9, R0 b) Q)))) else Q (some (vi x1)) (101, I2, J3, R0 b)))) else Q (some (vi (-1))) (101, I, J, R0 b)))) : Call (D + 1) 98 [vr 9 0, vi l1, vi l2] (101, I, J, R0 b) Q := by
  refine Call.of rfl ?_
  show WP D 98 0 [vr 9 0, vi l1, vi l2, vn, vn] [] (101, I, J, R0 b) Q
  refine WP.blk (pc' := 2) (L' := [vr 9 0, vi l1, vi l2, vn, vn]) (st' := [vi 1, vi l2]) (h' := (101, I, J, R0 b)) 2 rfl ?_
  refine WP.icmp_lt (t := 10) (L' := [vr 9 0, vi l1, vi l2, vn, vn]) rfl rfl rfl rfl h (fun h => ?_) (fun h => ?_)
  · refine WP.blk (pc' := 11) (L' := [vn, vn, vn, vn, vn]) (st' := [vi (-1)]) (h' := (101, I, J, R0 b)) 1 rfl ?_
    exact WP.ret rfl rfl h
  · refine WP.blk (pc' := 7) (L' := [vr 9 0, vi l1, vi l2, vn, vn]) (st' := [vi 5, vi l2]) (h' := (101, I, J, R0 b)) 2 rfl ?_
    refine WP.icmp_le (t := 12) (L' := [vr 9 0, vi l1, vi l2, vn, vn]) rfl rfl rfl rfl h (fun h => ?_) (fun h => ?_)
    · refine WP.blk (pc' := 14) (L' := [vr 9 0, vi l1, vi l2, vn, vn]) (st' := [vi l1, vr 9 0]) (h' := (101, I, J, R0 b)) 2 rfl ?_
      refine WP.cal (y' := 127) (as := [vr 9 0, vi l1]) (L' := [vr 9 0, vi l1, vi l2, vn, vn]) (rest := []) rfl (fun f r h' hf => callV_ok hf rfl rfl rfl) h ?_
      rintro _ _ ⟨x1, I2, J3, rfl, rfl, h⟩
      refine WP.blk (pc' := 19) (L' := [vr 9 0, vi l1, vi l2, vi x1, vn]) (st' := [vi x1]) (h' := (101, I2, J3, R0 b)) 2 rfl ?_
      refine WP.if_eq (t := 24) (L' := [vr 9 0, vi l1, vi l2, vi x1, vn]) rfl rfl rfl rfl h (fun h => ?_) (fun h => ?_)
      · refine WP.blk (pc' := 28) (L' := [vr 9 0, vi l1, vi l2, vi x1, vn]) (st' := [vr 7 0]) (h' := (101, I2, J3, R0 b)) 2 rfl ?_
        refine WP.cal (y' := 54) (as := [vr 7 0]) (L' := [vr 9 0, vi l1, vi l2, vi x1, vn]) (rest := []) rfl (fun f r h' hf => callV_ok hf rfl rfl rfl) h ?_
        rintro _ _ ⟨I5, J6, rfl, rfl, h⟩
        refine WP.blk (pc' := 36) (L' := [vr 9 0, vi l1, vi l2, vi x1, vn]) (st' := [vi 0, vr 8 0]) (h' := (101, I5, J6, R0 b)) 3 rfl ?_
        refine WP.cal (y' := 60) (as := [vr 8 0, vi 0]) (L' := [vr 9 0, vi l1, vi l2, vi x1, vn]) (rest := []) rfl (fun f r h' hf => callV_ok hf rfl rfl rfl) h ?_
        rintro _ _ ⟨I8, J9, rfl, rfl, h⟩
        refine WP.blk (pc' := 42) (L' := [vr 9 0, vi l1, vi l2, vi x1, vi 0]) (st' := []) (h' := (101, I8, J9, R0 b)) 2 rfl ?_
        exact WP.mask rfl rfl h
      · refine WP.blk (pc' := 23) (L' := [vr 9 0, vi l1, vi l2, vi x1, vn]) (st' := [vi x1]) (h' := (101, I2, J3, R0 b)) 1 rfl ?_
        exact WP.ret rfl rfl h
    · refine WP.blk (pc' := 11) (L' := [vn, vn, vn, vn, vn]) (st' := [vi (-1)]) (h' := (101, I, J, R0 b)) 1 rfl ?_
      exact WP.ret rfl rfl h
set_option maxRecDepth 20000 in
theorem t_X9_round_42 {D : Nat} (l2 : Int32) (l4 : Int32) (I : IM) (J : JM) (b : Bool) {Q : Option AV → AH → Prop} (h : (if l2 ≤ l4 then (Call D 73 [vr 8 0] (101, I, J, R0 b) (RIf b fun x10 I11 J12 => Q (some (vi x10)) (101, I11, J12, R0 b))) else (Call D 61 [vr 8 0] (101, I, J, R0 b) (RVf b fun I14 J15 => (Call D 130 [vr 9 0, vi 0] (101, I14, J15, R0 b) (RIf b fun x16 I17 J18 => (if ¬ x16 = 0 then WP D 98 42 [vr 9 0, vn, vi l2, vn, vi (l4 + 1)] [] (101, I17, J18, R0 b) Q else Q (some (vi (-2))) (101, I17, J18, R0 b)))))))) : WP D 98 42 [vr 9 0, vn, vi l2, vn, vi l4] [] (101, I, J, R0 b) Q := by
  refine WP.blk (pc' := 45) (L' := [vr 9 0, vn, vi l2, vn, vi l4]) (st' := [vi l2, vi l4]) (h' := (101, I, J, R0 b)) 2 rfl ?_
  refine WP.icmp_ge (t := 72) (L' := [vr 9 0, vn, vi l2, vn, vi l4]) rfl rfl rfl rfl h (fun h => ?_) (fun h => ?_)
  · refine WP.blk (pc' := 76) (L' := [vr 9 0, vn, vi l2, vn, vi l4]) (st' := [vr 8 0]) (h' := (101, I, J, R0 b)) 2 rfl ?_
    refine WP.cal (y' := 73) (as := [vr 8 0]) (L' := [vr 9 0, vn, vi l2, vn, vi l4]) (rest := []) rfl (fun f r h' hf => callV_ok hf rfl rfl rfl) h ?_
    rintro _ _ ⟨x10, I11, J12, rfl, rfl, h⟩
    exact WP.ret rfl rfl h
  · refine WP.blk (pc' := 52) (L' := [vr 9 0, vn, vi l2, vn, vi l4]) (st' := [vr 8 0]) (h' := (101, I, J, R0 b)) 2 rfl ?_
    refine WP.cal (y' := 61) (as := [vr 8 0]) (L' := [vr 9 0, vn, vi l2, vn, vi l4]) (rest := []) rfl (fun f r h' hf => callV_ok hf rfl rfl rfl) h ?_
    rintro _ _ ⟨I14, J15, rfl, rfl, h⟩
    refine WP.blk (pc' := 57) (L' := [vr 9 0, vn, vi l2, vn, vi l4]) (st' := [vi 0, vr 9 0]) (h' := (101, I14, J15, R0 b)) 2 rfl ?_
    refine WP.cal (y' := 130) (as := [vr 9 0, vi 0]) (L' := [vr 9 0, vn, vi l2, vn, vi l4]) (rest := []) rfl (fun f r h' hf => callV_ok hf rfl rfl rfl) h ?_
    rintro _ _ ⟨x16, I17, J18, rfl, rfl, h⟩
    refine WP.if_ne (t := 66) (L' := [vr 9 0, vn, vi l2, vn, vi l4]) rfl rfl rfl rfl h (fun h => ?_) (fun h => ?_)
    · refine WP.blk (pc' := 42) (L' := [vr 9 0, vn, vi l2, vn, vi (l4 + 1)]) (st' := []) (h' := (101, I17, J18, R0 b)) 2 rfl ?_
      exact WP.mask rfl rfl h
    · refine WP.blk (pc' := 65) (L' := [vr 9 0, vn, vi l2, vn, vi l4]) (st' := [vi (-2)]) (h' := (101, I17, J18, R0 b)) 1 rfl ?_
      exact WP.ret rfl rfl h
set_option maxRecDepth 20000 in
theorem t_X9_judge {D : Nat} (l1 : Int32) (I : IM) (J : JM) (b : Bool) {Q : Option AV → AH → Prop} (h : (Call D 128 [vr 9 0, vi l1] (101, I, J, R0 b) (RIf b fun x1 I2 J3 => (if x1 = 0 then (Call D 54 [vr 7 0] (101, I2, J3, R0 b) (RVf b fun I5 J6 => (Call D 129 [vr 9 0] (101, I5, J6, R0 b) (RIf b fun x7 I8 J9 => (vp_in (l1 - l1 / (10 : Int32) * (10 : Int32)) 6 ∧ (Call D 75 [vr 8 0, vr 6 (l1 - l1 / (10 : Int32) * (10 : Int32)).toNatClampNeg] (101, I8, J9, R0 b) (RIf b fun x10 I11 J12 => Q (some (vi x10)) (101, I11, J12, R0 b)))))))) else Q (some (vi x1)) (101, I2, J3, R0 b))))) : Call (D + 1) 99 [vr 9 0, vi l1] (101, I, J, R0 b) Q := by
  refine Call.of rfl ?_
  show WP D 99 0 [vr 9 0, vi l1, vn] [] (101, I, J, R0 b) Q
  refine WP.blk (pc' := 2) (L' := [vr 9 0, vi l1, vn]) (st' := [vi l1, vr 9 0]) (h' := (101, I, J, R0 b)) 2 rfl ?_
  refine WP.cal (y' := 128) (as := [vr 9 0, vi l1]) (L' := [vr 9 0, vi l1, vn]) (rest := []) rfl (fun f r h' hf => callV_ok hf rfl rfl rfl) h ?_
  rintro _ _ ⟨x1, I2, J3, rfl, rfl, h⟩
  refine WP.blk (pc' := 7) (L' := [vr 9 0, vi l1, vi x1]) (st' := [vi x1]) (h' := (101, I2, J3, R0 b)) 2 rfl ?_
  refine WP.if_eq (t := 12) (L' := [vr 9 0, vi l1, vi x1]) rfl rfl rfl rfl h (fun h => ?_) (fun h => ?_)
  · refine WP.blk (pc' := 16) (L' := [vr 9 0, vi l1, vi x1]) (st' := [vr 7 0]) (h' := (101, I2, J3, R0 b)) 2 rfl ?_
    refine WP.cal (y' := 54) (as := [vr 7 0]) (L' := [vr 9 0, vi l1, vi x1]) (rest := []) rfl (fun f r h' hf => callV_ok hf rfl rfl rfl) h ?_
    rintro _ _ ⟨I5, J6, rfl, rfl, h⟩
    refine WP.blk (pc' := 20) (L' := [vr 9 0, vi l1, vi x1]) (st' := [vr 9 0]) (h' := (101, I5, J6, R0 b)) 1 rfl ?_
    refine WP.cal (y' := 129) (as := [vr 9 0]) (L' := [vr 9 0, vi l1, vi x1]) (rest := []) rfl (fun f r h' hf => callV_ok hf rfl rfl rfl) h ?_
    rintro _ _ ⟨x7, I8, J9, rfl, rfl, h⟩
    refine WP.blk (pc' := 36) (L' := [vr 9 0, vi l1, vi x1]) (st' := [vi (l1 - l1 / (10 : Int32) * (10 : Int32)), vr 40 0, vr 8 0]) (h' := (101, I8, J9, R0 b)) 8 rfl ?_
    refine WP.step (pc' := 37) (L' := [vr 9 0, vi l1, vi x1]) (st' := [vr 6 (l1 - l1 / (10 : Int32) * (10 : Int32)).toNatClampNeg, vr 8 0]) (h' := (101, I8, J9, R0 b)) rfl (aaload_ok (n := 6) rfl rfl rfl rfl (inA_of h.1)) ?_
    have h := And.right h
    refine WP.cal (y' := 75) (as := [vr 8 0, vr 6 (l1 - l1 / (10 : Int32) * (10 : Int32)).toNatClampNeg]) (L' := [vr 9 0, vi l1, vi x1]) (rest := []) rfl (fun f r h' hf => callV_ok hf rfl rfl rfl) h ?_
    rintro _ _ ⟨x10, I11, J12, rfl, rfl, h⟩
    exact WP.ret rfl rfl h
  · refine WP.blk (pc' := 11) (L' := [vr 9 0, vi l1, vi x1]) (st' := [vi x1]) (h' := (101, I2, J3, R0 b)) 1 rfl ?_
    exact WP.ret rfl rfl h
set_option maxRecDepth 20000 in
theorem t_X9_which {D : Nat} (l1 : Int32) (l2 : Int32) (I : IM) (J : JM) (b : Bool) {Q : Option AV → AH → Prop} (h : (Call D 123 [vi l1] (101, I, J, R0 b) (RIf b fun x1 I2 J3 => (if x1 = 0 then Q (some (vi (-1))) (101, I2, J3, R0 b) else (Call D 124 [vi l2] (101, I2, J3, R0 b) (RIf b fun x4 I5 J6 => (if ¬ x4 = 0 then (vp_in l1 6 ∧ (Call D 50 [vr 6 l1.toNatClampNeg, vi 1] (101, I5, J6, R0 b) (RIf b fun x7 I8 J9 => (if x7 = 0 then (Call D 54 [vr 7 0] (101, I8, J9, R0 b) (RVf b fun I11 J12 => (vp_in l1 6 ∧ (Call D 39 [vr 5 0, vr 6 l1.toNatClampNeg] (101, I11, J12, R0 b) (RIf b fun x13 I14 J15 => (if x13 = 0 then (if ¬ l2 = 0 then (if (I14 5 0 7) ≤ 0 then Q (some (vi (-2))) (101, I14, J15, R0 b) else (Call D 45 [vr 5 0] (101, I14, J15, R0 b) (RIf b fun x16 I17 J18 => Q (some (vi x16)) (101, I17, J18, R0 b)))) else Q (some (vi (I14 5 0 7))) (101, I14, J15, R0 b)) else (if ¬ l2 = 0 then (Call D 40 [vr 5 0, vi 0, vi 1000000] (101, I14, J15, R0 b) (RVf b fun I20 J21 => (if ¬ l2 = 0 then (if (I20 5 0 7) ≤ 0 then Q (some (vi (-2))) (101, I20, J21, R0 b) else (Call D 45 [vr 5 0] (101, I20, J21, R0 b) (RIf b fun x22 I23 J24 => Q (some (vi x22)) (101, I23, J24, R0 b)))) else Q (some (vi (I20 5 0 7))) (101, I20, J21, R0 b)))) else (Call D 40 [vr 5 0, vi 1, vi 1000000] (101, I14, J15, R0 b) (RVf b fun I26 J27 => (if ¬ l2 = 0 then (if (I26 5 0 7) ≤ 0 then Q (some (vi (-2))) (101, I26, J27, R0 b) else (Call D 45 [vr 5 0] (101, I26, J27, R0 b) (RIf b fun x28 I29 J30 => Q (some (vi x28)) (101, I29, J30, R0 b)))) else Q (some (vi (I26 5 0 7))) (101, I26, J27, R0 b))))))))))) else Q (some (vi x7)) (101, I8, J9, R0 b))))) else Q (some (vi (-1))) (101, I5, J6, R0 b)))))))) : Call (D + 1) 100 [vr 9 0, vi l1, vi l2] (101, I, J, R0 b) Q := by
  refine Call.of rfl ?_
  show WP D 100 0 [vr 9 0, vi l1, vi l2, vn] [] (101, I, J, R0 b) Q
  refine WP.blk (pc' := 1) (L' := [vr 9 0, vi l1, vi l2, vn]) (st' := [vi l1]) (h' := (101, I, J, R0 b)) 1 rfl ?_
  refine WP.cal (y' := 123) (as := [vi l1]) (L' := [vr 9 0, vi l1, vi l2, vn]) (rest := []) rfl (fun f r h' hf => callS_ok hf rfl rfl rfl) h ?_
  rintro _ _ ⟨x1, I2, J3, rfl, rfl, h⟩
  refine WP.if_eq (t := 14) (L' := [vr 9 0, vi l1, vi l2, vn]) rfl rfl rfl rfl h (fun h => ?_) (fun h => ?_)
  · refine WP.blk (pc' := 15) (L' := [vn, vn, vn, vn]) (st' := [vi (-1)]) (h' := (101, I2, J3, R0 b)) 1 rfl ?_
    exact WP.ret rfl rfl h
  · refine WP.blk (pc' := 8) (L' := [vr 9 0, vi l1, vi l2, vn]) (st' := [vi l2]) (h' := (101, I2, J3, R0 b)) 1 rfl ?_
    refine WP.cal (y' := 124) (as := [vi l2]) (L' := [vr 9 0, vi l1, vi l2, vn]) (rest := []) rfl (fun f r h' hf => callS_ok hf rfl rfl rfl) h ?_
    rintro _ _ ⟨x4, I5, J6, rfl, rfl, h⟩
    refine WP.if_ne (t := 16) (L' := [vr 9 0, vi l1, vi l2, vn]) rfl rfl rfl rfl h (fun h => ?_) (fun h => ?_)
    · refine WP.blk (pc' := 21) (L' := [vr 9 0, vi l1, vi l2, vn]) (st' := [vi l1, vr 40 0]) (h' := (101, I5, J6, R0 b)) 3 rfl ?_
      refine WP.step (pc' := 22) (L' := [vr 9 0, vi l1, vi l2, vn]) (st' := [vr 6 l1.toNatClampNeg]) (h' := (101, I5, J6, R0 b)) rfl (aaload_ok (n := 6) rfl rfl rfl rfl (inA_of h.1)) ?_
      have h := And.right h
      refine WP.blk (pc' := 23) (L' := [vr 9 0, vi l1, vi l2, vn]) (st' := [vi 1, vr 6 l1.toNatClampNeg]) (h' := (101, I5, J6, R0 b)) 1 rfl ?_
      refine WP.cal (y' := 50) (as := [vr 6 l1.toNatClampNeg, vi 1]) (L' := [vr 9 0, vi l1, vi l2, vn]) (rest := []) rfl (fun f r h' hf => callV_ok hf rfl rfl rfl) h ?_
      rintro _ _ ⟨x7, I8, J9, rfl, rfl, h⟩
      refine WP.blk (pc' := 28) (L' := [vr 9 0, vi l1, vi l2, vi x7]) (st' := [vi x7]) (h' := (101, I8, J9, R0 b)) 2 rfl ?_
      refine WP.if_eq (t := 33) (L' := [vr 9 0, vi l1, vi l2, vi x7]) rfl rfl rfl rfl h (fun h => ?_) (fun h => ?_)
      · refine WP.blk (pc' := 37) (L' := [vr 9 0, vi l1, vi l2, vi x7]) (st' := [vr 7 0]) (h' := (101, I8, J9, R0 b)) 2 rfl ?_
        refine WP.cal (y' := 54) (as := [vr 7 0]) (L' := [vr 9 0, vi l1, vi l2, vi x7]) (rest := []) rfl (fun f r h' hf => callV_ok hf rfl rfl rfl) h ?_
        rintro _ _ ⟨I11, J12, rfl, rfl, h⟩
        refine WP.blk (pc' := 49) (L' := [vr 9 0, vi l1, vi l2, vi x7]) (st' := [vi l1, vr 40 0, vr 5 0]) (h' := (101, I11, J12, R0 b)) 5 rfl ?_
        refine WP.step (pc' := 50) (L' := [vr 9 0, vi l1, vi l2, vi x7]) (st' := [vr 6 l1.toNatClampNeg, vr 5 0]) (h' := (101, I11, J12, R0 b)) rfl (aaload_ok (n := 6) rfl rfl rfl rfl (inA_of h.1)) ?_
        have h := And.right h
        refine WP.cal (y' := 39) (as := [vr 5 0, vr 6 l1.toNatClampNeg]) (L' := [vr 9 0, vi l1, vi l2, vi x7]) (rest := []) rfl (fun f r h' hf => callV_ok hf rfl rfl rfl) h ?_
        rintro _ _ ⟨x13, I14, J15, rfl, rfl, h⟩
        refine WP.if_eq (t := 74) (L' := [vr 9 0, vi l1, vi l2, vi x7]) rfl rfl rfl rfl h (fun h => ?_) (fun h => ?_)
        · refine WP.blk (pc' := 75) (L' := [vr 9 0, vn, vi l2, vn]) (st' := [vi l2]) (h' := (101, I14, J15, R0 b)) 1 rfl ?_
          refine WP.if_ne (t := 86) (L' := [vr 9 0, vn, vi l2, vn]) rfl rfl rfl rfl h (fun h => ?_) (fun h => ?_)
          · refine WP.blk (pc' := 93) (L' := [vr 9 0, vn, vi l2, vn]) (st' := [vi (I14 5 0 7)]) (h' := (101, I14, J15, R0 b)) 3 rfl ?_
            refine WP.if_le (t := 106) (L' := [vr 9 0, vn, vi l2, vn]) rfl rfl rfl rfl h (fun h => ?_) (fun h => ?_)
            · refine WP.blk (pc' := 108) (L' := [vr 9 0, vn, vi l2, vn]) (st' := [vi (-2)]) (h' := (101, I14, J15, R0 b)) 1 rfl ?_
              exact WP.ret rfl rfl h
            · refine WP.blk (pc' := 100) (L' := [vr 9 0, vn, vi l2, vn]) (st' := [vr 5 0]) (h' := (101, I14, J15, R0 b)) 2 rfl ?_
              refine WP.cal (y' := 45) (as := [vr 5 0]) (L' := [vr 9 0, vn, vi l2, vn]) (rest := []) rfl (fun f r h' hf => callV_ok hf rfl rfl rfl) h ?_
              rintro _ _ ⟨x16, I17, J18, rfl, rfl, h⟩
              refine WP.blk (pc' := 108) (L' := [vr 9 0, vn, vi l2, vn]) (st' := [vi x16]) (h' := (101, I17, J18, R0 b)) 1 rfl ?_
              exact WP.ret rfl rfl h
          · refine WP.blk (pc' := 85) (L' := [vr 9 0, vn, vi l2, vn]) (st' := [vi (I14 5 0 7)]) (h' := (101, I14, J15, R0 b)) 3 rfl ?_
            exact WP.ret rfl rfl h
        · refine WP.blk (pc' := 61) (L' := [vr 9 0, vi l1, vi l2, vi x7]) (st' := [vi l2, vr 5 0]) (h' := (101, I14, J15, R0 b)) 3 rfl ?_
          refine WP.if_ne (t := 68) (L' := [vr 9 0, vi l1, vi l2, vi x7]) rfl rfl rfl rfl h (fun h => ?_) (fun h => ?_)
          · refine WP.blk (pc' := 71) (L' := [vr 9 0, vn, vi l2, vn]) (st' := [vi 1000000, vi 0, vr 5 0]) (h' := (101, I14, J15, R0 b)) 2 rfl ?_
            refine WP.cal (y' := 40) (as := [vr 5 0, vi 0, vi 1000000]) (L' := [vr 9 0, vn, vi l2, vn]) (rest := []) rfl (fun f r h' hf => callV_ok hf rfl rfl rfl) h ?_
            rintro _ _ ⟨I20, J21, rfl, rfl, h⟩
            refine WP.blk (pc' := 75) (L' := [vr 9 0, vn, vi l2, vn]) (st' := [vi l2]) (h' := (101, I20, J21, R0 b)) 1 rfl ?_
            refine WP.if_ne (t := 86) (L' := [vr 9 0, vn, vi l2, vn]) rfl rfl rfl rfl h (fun h => ?_) (fun h => ?_)
            · refine WP.blk (pc' := 93) (L' := [vr 9 0, vn, vi l2, vn]) (st' := [vi (I20 5 0 7)]) (h' := (101, I20, J21, R0 b)) 3 rfl ?_
              refine WP.if_le (t := 106) (L' := [vr 9 0, vn, vi l2, vn]) rfl rfl rfl rfl h (fun h => ?_) (fun h => ?_)
              · refine WP.blk (pc' := 108) (L' := [vr 9 0, vn, vi l2, vn]) (st' := [vi (-2)]) (h' := (101, I20, J21, R0 b)) 1 rfl ?_
                exact WP.ret rfl rfl h
              · refine WP.blk (pc' := 100) (L' := [vr 9 0, vn, vi l2, vn]) (st' := [vr 5 0]) (h' := (101, I20, J21, R0 b)) 2 rfl ?_
                refine WP.cal (y' := 45) (as := [vr 5 0]) (L' := [vr 9 0, vn, vi l2, vn]) (rest := []) rfl (fun f r h' hf => callV_ok hf rfl rfl rfl) h ?_
                rintro _ _ ⟨x22, I23, J24, rfl, rfl, h⟩
                refine WP.blk (pc' := 108) (L' := [vr 9 0, vn, vi l2, vn]) (st' := [vi x22]) (h' := (101, I23, J24, R0 b)) 1 rfl ?_
                exact WP.ret rfl rfl h
            · refine WP.blk (pc' := 85) (L' := [vr 9 0, vn, vi l2, vn]) (st' := [vi (I20 5 0 7)]) (h' := (101, I20, J21, R0 b)) 3 rfl ?_
              exact WP.ret rfl rfl h
          · refine WP.blk (pc' := 71) (L' := [vr 9 0, vn, vi l2, vn]) (st' := [vi 1000000, vi 1, vr 5 0]) (h' := (101, I14, J15, R0 b)) 3 rfl ?_
            refine WP.cal (y' := 40) (as := [vr 5 0, vi 1, vi 1000000]) (L' := [vr 9 0, vn, vi l2, vn]) (rest := []) rfl (fun f r h' hf => callV_ok hf rfl rfl rfl) h ?_
            rintro _ _ ⟨I26, J27, rfl, rfl, h⟩
            refine WP.blk (pc' := 75) (L' := [vr 9 0, vn, vi l2, vn]) (st' := [vi l2]) (h' := (101, I26, J27, R0 b)) 1 rfl ?_
            refine WP.if_ne (t := 86) (L' := [vr 9 0, vn, vi l2, vn]) rfl rfl rfl rfl h (fun h => ?_) (fun h => ?_)
            · refine WP.blk (pc' := 93) (L' := [vr 9 0, vn, vi l2, vn]) (st' := [vi (I26 5 0 7)]) (h' := (101, I26, J27, R0 b)) 3 rfl ?_
              refine WP.if_le (t := 106) (L' := [vr 9 0, vn, vi l2, vn]) rfl rfl rfl rfl h (fun h => ?_) (fun h => ?_)
              · refine WP.blk (pc' := 108) (L' := [vr 9 0, vn, vi l2, vn]) (st' := [vi (-2)]) (h' := (101, I26, J27, R0 b)) 1 rfl ?_
                exact WP.ret rfl rfl h
              · refine WP.blk (pc' := 100) (L' := [vr 9 0, vn, vi l2, vn]) (st' := [vr 5 0]) (h' := (101, I26, J27, R0 b)) 2 rfl ?_
                refine WP.cal (y' := 45) (as := [vr 5 0]) (L' := [vr 9 0, vn, vi l2, vn]) (rest := []) rfl (fun f r h' hf => callV_ok hf rfl rfl rfl) h ?_
                rintro _ _ ⟨x28, I29, J30, rfl, rfl, h⟩
                refine WP.blk (pc' := 108) (L' := [vr 9 0, vn, vi l2, vn]) (st' := [vi x28]) (h' := (101, I29, J30, R0 b)) 1 rfl ?_
                exact WP.ret rfl rfl h
            · refine WP.blk (pc' := 85) (L' := [vr 9 0, vn, vi l2, vn]) (st' := [vi (I26 5 0 7)]) (h' := (101, I26, J27, R0 b)) 3 rfl ?_
              exact WP.ret rfl rfl h
      · refine WP.blk (pc' := 32) (L' := [vr 9 0, vi l1, vi l2, vi x7]) (st' := [vi x7]) (h' := (101, I8, J9, R0 b)) 1 rfl ?_
        exact WP.ret rfl rfl h
    · refine WP.blk (pc' := 15) (L' := [vn, vn, vn, vn]) (st' := [vi (-1)]) (h' := (101, I5, J6, R0 b)) 1 rfl ?_
      exact WP.ret rfl rfl h
set_option maxRecDepth 20000 in
theorem t_X9_who {D : Nat} (l1 : Int32) (I : IM) (J : JM) (b : Bool) {Q : Option AV → AH → Prop} (h : (Call D 128 [vr 9 0, vi l1] (101, I, J, R0 b) (RIf b fun x1 I2 J3 => (if x1 = 0 then (Call D 12 [vr 1 0, vi 7] (101, I2, J3, R0 b) (RIf b fun x4 I5 J6 => (Call D 54 [vr 7 0] (101, I5, J6, R0 b) (RVf b fun I8 J9 => WP D 101 32 [vr 9 0, vi l1, vn, vi x4, vi 0] [] (101, I8, J9, R0 b) Q)))) else Q (some (vi x1)) (101, I2, J3, R0 b))))) : Call (D + 1) 101 [vr 9 0, vi l1] (101, I, J, R0 b) Q := by
  refine Call.of rfl ?_
  show WP D 101 0 [vr 9 0, vi l1, vn, vn, vn] [] (101, I, J, R0 b) Q
  refine WP.blk (pc' := 2) (L' := [vr 9 0, vi l1, vn, vn, vn]) (st' := [vi l1, vr 9 0]) (h' := (101, I, J, R0 b)) 2 rfl ?_
  refine WP.cal (y' := 128) (as := [vr 9 0, vi l1]) (L' := [vr 9 0, vi l1, vn, vn, vn]) (rest := []) rfl (fun f r h' hf => callV_ok hf rfl rfl rfl) h ?_
  rintro _ _ ⟨x1, I2, J3, rfl, rfl, h⟩
  refine WP.blk (pc' := 7) (L' := [vr 9 0, vi l1, vi x1, vn, vn]) (st' := [vi x1]) (h' := (101, I2, J3, R0 b)) 2 rfl ?_
  refine WP.if_eq (t := 12) (L' := [vr 9 0, vi l1, vi x1, vn, vn]) rfl rfl rfl rfl h (fun h => ?_) (fun h => ?_)
  · refine WP.blk (pc' := 18) (L' := [vr 9 0, vi l1, vi x1, vn, vn]) (st' := [vi 7, vr 1 0]) (h' := (101, I2, J3, R0 b)) 3 rfl ?_
    refine WP.cal (y' := 12) (as := [vr 1 0, vi 7]) (L' := [vr 9 0, vi l1, vi x1, vn, vn]) (rest := []) rfl (fun f r h' hf => callV_ok hf rfl rfl rfl) h ?_
    rintro _ _ ⟨x4, I5, J6, rfl, rfl, h⟩
    refine WP.blk (pc' := 26) (L' := [vr 9 0, vi l1, vi x1, vi x4, vn]) (st' := [vr 7 0]) (h' := (101, I5, J6, R0 b)) 3 rfl ?_
    refine WP.cal (y' := 54) (as := [vr 7 0]) (L' := [vr 9 0, vi l1, vi x1, vi x4, vn]) (rest := []) rfl (fun f r h' hf => callV_ok hf rfl rfl rfl) h ?_
    rintro _ _ ⟨I8, J9, rfl, rfl, h⟩
    refine WP.blk (pc' := 32) (L' := [vr 9 0, vi l1, vi x1, vi x4, vi 0]) (st' := []) (h' := (101, I8, J9, R0 b)) 2 rfl ?_
    exact WP.mask rfl rfl h
  · refine WP.blk (pc' := 11) (L' := [vr 9 0, vi l1, vi x1, vn, vn]) (st' := [vi x1]) (h' := (101, I2, J3, R0 b)) 1 rfl ?_
    exact WP.ret rfl rfl h
set_option maxRecDepth 20000 in
theorem t_X9_who_32 {D : Nat} (l1 : Int32) (l3 : Int32) (l4 : Int32) (I : IM) (J : JM) (b : Bool) {Q : Option AV → AH → Prop} (h : (if (3 : Int32) < l4 then Q (some (vi (-2))) (101, I, J, R0 b) else (Call D 55 [vr 7 0, vi l4, vi l3] (101, I, J, R0 b) (RVf b fun I11 J12 => (Call D 129 [vr 9 0] (101, I11, J12, R0 b) (RIf b fun x13 I14 J15 => (vp_in (l1 - l1 / (10 : Int32) * (10 : Int32)) 6 ∧ (Call D 75 [vr 8 0, vr 6 (l1 - l1 / (10 : Int32) * (10 : Int32)).toNatClampNeg] (101, I14, J15, R0 b) (RIf b fun x16 I17 J18 => (if ¬ x16 = (-2 : Int32) then WP D 101 32 [vr 9 0, vi l1, vn, vi l3, vi (l4 + 1)] [] (101, I17, J18, R0 b) Q else Q (some (vi l4)) (101, I17, J18, R0 b))))))))))) : WP D 101 32 [vr 9 0, vi l1, vn, vi l3, vi l4] [] (101, I, J, R0 b) Q := by
  refine WP.blk (pc' := 35) (L' := [vr 9 0, vi l1, vn, vi l3, vi l4]) (st' := [vi 3, vi l4]) (h' := (101, I, J, R0 b)) 2 rfl ?_
  refine WP.icmp_gt (t := 83) (L' := [vr 9 0, vi l1, vn, vi l3, vi l4]) rfl rfl rfl rfl h (fun h => ?_) (fun h => ?_)
  · refine WP.blk (pc' := 85) (L' := [vr 9 0, vi l1, vn, vi l3, vi l4]) (st' := [vi (-2)]) (h' := (101, I, J, R0 b)) 1 rfl ?_
    exact WP.ret rfl rfl h
  · refine WP.blk (pc' := 45) (L' := [vr 9 0, vi l1, vn, vi l3, vi l4]) (st' := [vi l3, vi l4, vr 7 0]) (h' := (101, I, J, R0 b)) 4 rfl ?_
    refine WP.cal (y' := 55) (as := [vr 7 0, vi l4, vi l3]) (L' := [vr 9 0, vi l1, vn, vi l3, vi l4]) (rest := []) rfl (fun f r h' hf => callV_ok hf rfl rfl rfl) h ?_
    rintro _ _ ⟨I11, J12, rfl, rfl, h⟩
    refine WP.blk (pc' := 49) (L' := [vr 9 0, vi l1, vn, vi l3, vi l4]) (st' := [vr 9 0]) (h' := (101, I11, J12, R0 b)) 1 rfl ?_
    refine WP.cal (y' := 129) (as := [vr 9 0]) (L' := [vr 9 0, vi l1, vn, vi l3, vi l4]) (rest := []) rfl (fun f r h' hf => callV_ok hf rfl rfl rfl) h ?_
    rintro _ _ ⟨x13, I14, J15, rfl, rfl, h⟩
    refine WP.blk (pc' := 65) (L' := [vr 9 0, vi l1, vn, vi l3, vi l4]) (st' := [vi (l1 - l1 / (10 : Int32) * (10 : Int32)), vr 40 0, vr 8 0]) (h' := (101, I14, J15, R0 b)) 8 rfl ?_
    refine WP.step (pc' := 66) (L' := [vr 9 0, vi l1, vn, vi l3, vi l4]) (st' := [vr 6 (l1 - l1 / (10 : Int32) * (10 : Int32)).toNatClampNeg, vr 8 0]) (h' := (101, I14, J15, R0 b)) rfl (aaload_ok (n := 6) rfl rfl rfl rfl (inA_of h.1)) ?_
    have h := And.right h
    refine WP.cal (y' := 75) (as := [vr 8 0, vr 6 (l1 - l1 / (10 : Int32) * (10 : Int32)).toNatClampNeg]) (L' := [vr 9 0, vi l1, vn, vi l3, vi l4]) (rest := []) rfl (fun f r h' hf => callV_ok hf rfl rfl rfl) h ?_
    rintro _ _ ⟨x16, I17, J18, rfl, rfl, h⟩
    refine WP.blk (pc' := 71) (L' := [vr 9 0, vi l1, vn, vi l3, vi l4]) (st' := [vi (-2), vi x16]) (h' := (101, I17, J18, R0 b)) 1 rfl ?_
    refine WP.icmp_ne (t := 77) (L' := [vr 9 0, vi l1, vn, vi l3, vi l4]) rfl rfl rfl rfl h (fun h => ?_) (fun h => ?_)
    · refine WP.blk (pc' := 32) (L' := [vr 9 0, vi l1, vn, vi l3, vi (l4 + 1)]) (st' := []) (h' := (101, I17, J18, R0 b)) 2 rfl ?_
      exact WP.mask rfl rfl h
    · refine WP.blk (pc' := 76) (L' := [vr 9 0, vi l1, vn, vi l3, vi l4]) (st' := [vi l4]) (h' := (101, I17, J18, R0 b)) 1 rfl ?_
      exact WP.ret rfl rfl h
set_option maxRecDepth 20000 in
theorem t_X9_byHand {D : Nat} (l1 : Int32) (l2 : Int32) (I : IM) (J : JM) (b : Bool) {Q : Option AV → AH → Prop} (h : (Call D 124 [vi l2] (101, I, J, R0 b) (RIf b fun x1 I2 J3 => (if ¬ x1 = 0 then (Call D 127 [vr 9 0, vi l1] (101, I2, J3, R0 b) (RIf b fun x4 I5 J6 => (if x4 = 0 then (Call D 54 [vr 7 0] (101, I5, J6, R0 b) (RVf b fun I8 J9 => (Call D 129 [vr 9 0] (101, I8, J9, R0 b) (RIf b fun x10 I11 J12 => (if ¬ l2 = 0 then (Call D 77 [vr 8 0] (101, I11, J12, R0 b) (RIf b fun x13 I14 J15 => Q (some (vi x13)) (101, I14, J15, R0 b))) else (Call D 76 [vr 8 0] (101, I11, J12, R0 b) (RIf b fun x16 I17 J18 => Q (some (vi x16)) (101, I17, J18, R0 b)))))))) else Q (some (vi x4)) (101, I5, J6, R0 b)))) else Q (some (vi (-1))) (101, I2, J3, R0 b))))) : Call (D + 1) 102 [vr 9 0, vi l1, vi l2] (101, I, J, R0 b) Q := by
  refine Call.of rfl ?_
  show WP D 102 0 [vr 9 0, vi l1, vi l2, vn] [] (101, I, J, R0 b) Q
  refine WP.blk (pc' := 1) (L' := [vr 9 0, vi l1, vi l2, vn]) (st' := [vi l2]) (h' := (101, I, J, R0 b)) 1 rfl ?_
  refine WP.cal (y' := 124) (as := [vi l2]) (L' := [vr 9 0, vi l1, vi l2, vn]) (rest := []) rfl (fun f r h' hf => callS_ok hf rfl rfl rfl) h ?_
  rintro _ _ ⟨x1, I2, J3, rfl, rfl, h⟩
  refine WP.if_ne (t := 9) (L' := [vr 9 0, vi l1, vi l2, vn]) rfl rfl rfl rfl h (fun h => ?_) (fun h => ?_)
  · refine WP.blk (pc' := 11) (L' := [vr 9 0, vi l1, vi l2, vn]) (st' := [vi l1, vr 9 0]) (h' := (101, I2, J3, R0 b)) 2 rfl ?_
    refine WP.cal (y' := 127) (as := [vr 9 0, vi l1]) (L' := [vr 9 0, vi l1, vi l2, vn]) (rest := []) rfl (fun f r h' hf => callV_ok hf rfl rfl rfl) h ?_
    rintro _ _ ⟨x4, I5, J6, rfl, rfl, h⟩
    refine WP.blk (pc' := 16) (L' := [vr 9 0, vi l1, vi l2, vi x4]) (st' := [vi x4]) (h' := (101, I5, J6, R0 b)) 2 rfl ?_
    refine WP.if_eq (t := 21) (L' := [vr 9 0, vi l1, vi l2, vi x4]) rfl rfl rfl rfl h (fun h => ?_) (fun h => ?_)
    · refine WP.blk (pc' := 25) (L' := [vr 9 0, vi l1, vi l2, vi x4]) (st' := [vr 7 0]) (h' := (101, I5, J6, R0 b)) 2 rfl ?_
      refine WP.cal (y' := 54) (as := [vr 7 0]) (L' := [vr 9 0, vi l1, vi l2, vi x4]) (rest := []) rfl (fun f r h' hf => callV_ok hf rfl rfl rfl) h ?_
      rintro _ _ ⟨I8, J9, rfl, rfl, h⟩
      refine WP.blk (pc' := 29) (L' := [vr 9 0, vi l1, vi l2, vi x4]) (st' := [vr 9 0]) (h' := (101, I8, J9, R0 b)) 1 rfl ?_
      refine WP.cal (y' := 129) (as := [vr 9 0]) (L' := [vr 9 0, vi l1, vi l2, vi x4]) (rest := []) rfl (fun f r h' hf => callV_ok hf rfl rfl rfl) h ?_
      rintro _ _ ⟨x10, I11, J12, rfl, rfl, h⟩
      refine WP.blk (pc' := 34) (L' := [vr 9 0, vi l1, vi l2, vi x4]) (st' := [vi l2]) (h' := (101, I11, J12, R0 b)) 2 rfl ?_
      refine WP.if_ne (t := 47) (L' := [vr 9 0, vi l1, vi l2, vi x4]) rfl rfl rfl rfl h (fun h => ?_) (fun h => ?_)
      · refine WP.blk (pc' := 51) (L' := [vr 9 0, vi l1, vi l2, vi x4]) (st' := [vr 8 0]) (h' := (101, I11, J12, R0 b)) 2 rfl ?_
        refine WP.cal (y' := 77) (as := [vr 8 0]) (L' := [vr 9 0, vi l1, vi l2, vi x4]) (rest := []) rfl (fun f r h' hf => callV_ok hf rfl rfl rfl) h ?_
        rintro _ _ ⟨x13, I14, J15, rfl, rfl, h⟩
        exact WP.ret rfl rfl h
      · refine WP.blk (pc' := 41) (L' := [vr 9 0, vi l1, vi l2, vi x4]) (st' := [vr 8 0]) (h' := (101, I11, J12, R0 b)) 2 rfl ?_
        refine WP.cal (y' := 76) (as := [vr 8 0]) (L' := [vr 9 0, vi l1, vi l2, vi x4]) (rest := []) rfl (fun f r h' hf => callV_ok hf rfl rfl rfl) h ?_
        rintro _ _ ⟨x16, I17, J18, rfl, rfl, h⟩
        refine WP.blk (pc' := 54) (L' := [vr 9 0, vi l1, vi l2, vi x4]) (st' := [vi x16]) (h' := (101, I17, J18, R0 b)) 1 rfl ?_
        exact WP.ret rfl rfl h
    · refine WP.blk (pc' := 20) (L' := [vr 9 0, vi l1, vi l2, vi x4]) (st' := [vi x4]) (h' := (101, I5, J6, R0 b)) 1 rfl ?_
      exact WP.ret rfl rfl h
  · refine WP.blk (pc' := 8) (L' := [vr 9 0, vi l1, vi l2, vn]) (st' := [vi (-1)]) (h' := (101, I2, J3, R0 b)) 1 rfl ?_
    exact WP.ret rfl rfl h
set_option maxRecDepth 20000 in
theorem t_X9_drawn {D : Nat} (l1 : Int32) (l2 : Int32) (l3 : Int32) (l4 : Int32) (I : IM) (J : JM) (b : Bool) {Q : Option AV → AH → Prop} (h : (if l3 < (1 : Int32) then Q (some (vi (-1))) (101, I, J, R0 b) else (if (30 : Int32) < l3 then Q (some (vi (-1))) (101, I, J, R0 b) else (Call D 124 [vi l4] (101, I, J, R0 b) (RIf b fun x1 I2 J3 => (if ¬ x1 = 0 then (Call D 127 [vr 9 0, vi l1] (101, I2, J3, R0 b) (RIf b fun x4 I5 J6 => (if x4 = 0 then (Call D 54 [vr 7 0] (101, I5, J6, R0 b) (RVf b fun I8 J9 => WP D 103 55 [vr 9 0, vn, vn, vi l3, vi l4, vn, vi l2, vi 0, vi 0, vi 0] [] (101, I8, J9, R0 b) Q)) else Q (some (vi x4)) (101, I5, J6, R0 b)))) else Q (some (vi (-1))) (101, I2, J3, R0 b))))))) : Call (D + 1) 103 [vr 9 0, vi l1, vi l2, vi l3, vi l4] (101, I, J, R0 b) Q := by
  refine Call.of rfl ?_
  show WP D 103 0 [vr 9 0, vi l1, vi l2, vi l3, vi l4, vn, vn, vn, vn, vn] [] (101, I, J, R0 b) Q
  refine WP.blk (pc' := 2) (L' := [vr 9 0, vi l1, vi l2, vi l3, vi l4, vn, vn, vn, vn, vn]) (st' := [vi 1, vi l3]) (h' := (101, I, J, R0 b)) 2 rfl ?_
  refine WP.icmp_lt (t := 19) (L' := [vr 9 0, vi l1, vi l2, vi l3, vi l4, vn, vn, vn, vn, vn]) rfl rfl rfl rfl h (fun h => ?_) (fun h => ?_)
  · refine WP.blk (pc' := 20) (L' := [vn, vn, vn, vn, vn, vn, vn, vn, vn, vn]) (st' := [vi (-1)]) (h' := (101, I, J, R0 b)) 1 rfl ?_
    exact WP.ret rfl rfl h
  · refine WP.blk (pc' := 8) (L' := [vr 9 0, vi l1, vi l2, vi l3, vi l4, vn, vn, vn, vn, vn]) (st' := [vi 30, vi l3]) (h' := (101, I, J, R0 b)) 2 rfl ?_
    refine WP.icmp_gt (t := 19) (L' := [vr 9 0, vi l1, vi l2, vi l3, vi l4, vn, vn, vn, vn, vn]) rfl rfl rfl rfl h (fun h => ?_) (fun h => ?_)
    · refine WP.blk (pc' := 20) (L' := [vn, vn, vn, vn, vn, vn, vn, vn, vn, vn]) (st' := [vi (-1)]) (h' := (101, I, J, R0 b)) 1 rfl ?_
      exact WP.ret rfl rfl h
    · refine WP.blk (pc' := 13) (L' := [vr 9 0, vi l1, vi l2, vi l3, vi l4, vn, vn, vn, vn, vn]) (st' := [vi l4]) (h' := (101, I, J, R0 b)) 1 rfl ?_
      refine WP.cal (y' := 124) (as := [vi l4]) (L' := [vr 9 0, vi l1, vi l2, vi l3, vi l4, vn, vn, vn, vn, vn]) (rest := []) rfl (fun f r h' hf => callS_ok hf rfl rfl rfl) h ?_
      rintro _ _ ⟨x1, I2, J3, rfl, rfl, h⟩
      refine WP.if_ne (t := 21) (L' := [vr 9 0, vi l1, vi l2, vi l3, vi l4, vn, vn, vn, vn, vn]) rfl rfl rfl rfl h (fun h => ?_) (fun h => ?_)
      · refine WP.blk (pc' := 23) (L' := [vr 9 0, vi l1, vi l2, vi l3, vi l4, vn, vn, vn, vn, vn]) (st' := [vi l1, vr 9 0]) (h' := (101, I2, J3, R0 b)) 2 rfl ?_
        refine WP.cal (y' := 127) (as := [vr 9 0, vi l1]) (L' := [vr 9 0, vi l1, vi l2, vi l3, vi l4, vn, vn, vn, vn, vn]) (rest := []) rfl (fun f r h' hf => callV_ok hf rfl rfl rfl) h ?_
        rintro _ _ ⟨x4, I5, J6, rfl, rfl, h⟩
        refine WP.blk (pc' := 30) (L' := [vr 9 0, vi l1, vi l2, vi l3, vi l4, vi x4, vn, vn, vn, vn]) (st' := [vi x4]) (h' := (101, I5, J6, R0 b)) 2 rfl ?_
        refine WP.if_eq (t := 36) (L' := [vr 9 0, vi l1, vi l2, vi l3, vi l4, vi x4, vn, vn, vn, vn]) rfl rfl rfl rfl h (fun h => ?_) (fun h => ?_)
        · refine WP.blk (pc' := 40) (L' := [vr 9 0, vi l1, vi l2, vi l3, vi l4, vi x4, vn, vn, vn, vn]) (st' := [vr 7 0]) (h' := (101, I5, J6, R0 b)) 2 rfl ?_
          refine WP.cal (y' := 54) (as := [vr 7 0]) (L' := [vr 9 0, vi l1, vi l2, vi l3, vi l4, vi x4, vn, vn, vn, vn]) (rest := []) rfl (fun f r h' hf => callV_ok hf rfl rfl rfl) h ?_
          rintro _ _ ⟨I8, J9, rfl, rfl, h⟩
          refine WP.blk (pc' := 55) (L' := [vr 9 0, vi l1, vi l2, vi l3, vi l4, vi x4, vi l2, vi 0, vi 0, vi 0]) (st' := []) (h' := (101, I8, J9, R0 b)) 8 rfl ?_
          exact WP.mask rfl rfl h
        · refine WP.blk (pc' := 35) (L' := [vr 9 0, vi l1, vi l2, vi l3, vi l4, vi x4, vn, vn, vn, vn]) (st' := [vi x4]) (h' := (101, I5, J6, R0 b)) 1 rfl ?_
          exact WP.ret rfl rfl h
      · refine WP.blk (pc' := 20) (L' := [vn, vn, vn, vn, vn, vn, vn, vn, vn, vn]) (st' := [vi (-1)]) (h' := (101, I2, J3, R0 b)) 1 rfl ?_
        exact WP.ret rfl rfl h
set_option maxRecDepth 20000 in
theorem t_X9_drawn_55 {D : Nat} (l3 : Int32) (l4 : Int32) (l6 : Int32) (l7 : Int32) (l8 : Int32) (l9 : Int32) (I : IM) (J : JM) (b : Bool) {Q : Option AV → AH → Prop} (h : (if l3 ≤ l9 then (if ¬ l4 = 0 then Q (some (vi l8)) (101, I, J, R0 b) else Q (some (vi l7)) (101, I, J, R0 b)) else (Call D 133 [vr 9 0, vi l6] (101, I, J, R0 b) (RIf b fun x10 I11 J12 => (Call D 73 [vr 8 0] (101, I11, J12, R0 b) (RIf b fun x13 I14 J15 => (if ¬ (I14 8 0 10) = (I14 9 0 11) then WP D 103 55 [vr 9 0, vn, vn, vi l3, vi l4, vn, vi x10, vi (l7 + x13), vi (l8 + (0 : Int32)), vi (l9 + 1)] [] (101, I14, J15, R0 b) Q else WP D 103 55 [vr 9 0, vn, vn, vi l3, vi l4, vn, vi x10, vi (l7 + x13), vi (l8 + (1 : Int32)), vi (l9 + 1)] [] (101, I14, J15, R0 b) Q))))))) : WP D 103 55 [vr 9 0, vn, vn, vi l3, vi l4, vn, vi l6, vi l7, vi l8, vi l9] [] (101, I, J, R0 b) Q := by
  refine WP.blk (pc' := 58) (L' := [vr 9 0, vn, vn, vi l3, vi l4, vn, vi l6, vi l7, vi l8, vi l9]) (st' := [vi l3, vi l9]) (h' := (101, I, J, R0 b)) 2 rfl ?_
  refine WP.icmp_ge (t := 111) (L' := [vr 9 0, vn, vn, vi l3, vi l4, vn, vi l6, vi l7, vi l8, vi l9]) rfl rfl rfl rfl h (fun h => ?_) (fun h => ?_)
  · refine WP.blk (pc' := 113) (L' := [vr 9 0, vn, vn, vi l3, vi l4, vn, vi l6, vi l7, vi l8, vi l9]) (st' := [vi l4]) (h' := (101, I, J, R0 b)) 1 rfl ?_
    refine WP.if_ne (t := 121) (L' := [vr 9 0, vn, vn, vi l3, vi l4, vn, vi l6, vi l7, vi l8, vi l9]) rfl rfl rfl rfl h (fun h => ?_) (fun h => ?_)
    · refine WP.blk (pc' := 123) (L' := [vr 9 0, vn, vn, vi l3, vi l4, vn, vi l6, vi l7, vi l8, vi l9]) (st' := [vi l8]) (h' := (101, I, J, R0 b)) 1 rfl ?_
      exact WP.ret rfl rfl h
    · refine WP.blk (pc' := 123) (L' := [vr 9 0, vn, vn, vi l3, vi l4, vn, vi l6, vi l7, vi l8, vi l9]) (st' := [vi l7]) (h' := (101, I, J, R0 b)) 2 rfl ?_
      exact WP.ret rfl rfl h
  · refine WP.blk (pc' := 64) (L' := [vr 9 0, vn, vn, vi l3, vi l4, vn, vi l6, vi l7, vi l8, vi l9]) (st' := [vi l6, vr 9 0]) (h' := (101, I, J, R0 b)) 2 rfl ?_
    refine WP.cal (y' := 133) (as := [vr 9 0, vi l6]) (L' := [vr 9 0, vn, vn, vi l3, vi l4, vn, vi l6, vi l7, vi l8, vi l9]) (rest := []) rfl (fun f r h' hf => callV_ok hf rfl rfl rfl) h ?_
    rintro _ _ ⟨x10, I11, J12, rfl, rfl, h⟩
    refine WP.blk (pc' := 75) (L' := [vr 9 0, vn, vn, vi l3, vi l4, vn, vi x10, vi l7, vi l8, vi l9]) (st' := [vr 8 0, vi l7]) (h' := (101, I11, J12, R0 b)) 4 rfl ?_
    refine WP.cal (y' := 73) (as := [vr 8 0]) (L' := [vr 9 0, vn, vn, vi l3, vi l4, vn, vi x10, vi l7, vi l8, vi l9]) (rest := [vi l7]) rfl (fun f r h' hf => callV_ok hf rfl rfl rfl) h ?_
    rintro _ _ ⟨x13, I14, J15, rfl, rfl, h⟩
    refine WP.blk (pc' := 94) (L' := [vr 9 0, vn, vn, vi l3, vi l4, vn, vi x10, vi (l7 + x13), vi l8, vi l9]) (st' := [vi (I14 9 0 11), vi (I14 8 0 10), vi l8]) (h' := (101, I14, J15, R0 b)) 8 rfl ?_
    refine WP.icmp_ne (t := 101) (L' := [vr 9 0, vn, vn, vi l3, vi l4, vn, vi x10, vi (l7 + x13), vi l8, vi l9]) rfl rfl rfl rfl h (fun h => ?_) (fun h => ?_)
    · refine WP.blk (pc' := 55) (L' := [vr 9 0, vn, vn, vi l3, vi l4, vn, vi x10, vi (l7 + x13), vi (l8 + (0 : Int32)), vi (l9 + 1)]) (st' := []) (h' := (101, I14, J15, R0 b)) 5 rfl ?_
      exact WP.mask rfl rfl h
    · refine WP.blk (pc' := 55) (L' := [vr 9 0, vn, vn, vi l3, vi l4, vn, vi x10, vi (l7 + x13), vi (l8 + (1 : Int32)), vi (l9 + 1)]) (st' := []) (h' := (101, I14, J15, R0 b)) 6 rfl ?_
      exact WP.mask rfl rfl h
set_option maxRecDepth 20000 in
theorem t_X9_fit {D : Nat} (l1 : Int32) (I : IM) (J : JM) (b : Bool) {Q : Option AV → AH → Prop} (h : (Call D 125 [vr 9 0, vi l1] (101, I, J, R0 b) (RIf b fun x1 I2 J3 => (if ¬ x1 = 0 then (Call D 63 [vr 8 1, vi l1] (101, I2, J3, R0 b) (RIf b fun x4 I5 J6 => (if x4 = 0 then (Call D 54 [vr 7 0] (101, I5, J6, R0 b) (RVf b fun I8 J9 => (Call D 64 [vr 8 1, vi l1] (101, I8, J9, R0 b) (RIf b fun x10 I11 J12 => (if ¬ x10 = 0 then Q (some (vi (I11 8 1 12))) (101, (updI I11 2 0 1 ((I11 2 0 1) + (1 : Int32))), J12, R0 b) else Q (some (vi (-2))) (101, (updI I11 2 0 2 ((I11 2 0 2) + (1 : Int32))), J12, R0 b)))))) else Q (some (vi (-5))) (101, I5, J6, R0 b)))) else Q (some (vi (-1))) (101, I2, J3, R0 b))))) : Call (D + 1) 104 [vr 9 0, vi l1] (101, I, J, R0 b) Q := by
  refine Call.of rfl ?_
  show WP D 104 0 [vr 9 0, vi l1] [] (101, I, J, R0 b) Q
  refine WP.blk (pc' := 2) (L' := [vr 9 0, vi l1]) (st' := [vi l1, vr 9 0]) (h' := (101, I, J, R0 b)) 2 rfl ?_
  refine WP.cal (y' := 125) (as := [vr 9 0, vi l1]) (L' := [vr 9 0, vi l1]) (rest := []) rfl (fun f r h' hf => callV_ok hf rfl rfl rfl) h ?_
  rintro _ _ ⟨x1, I2, J3, rfl, rfl, h⟩
  refine WP.if_ne (t := 10) (L' := [vr 9 0, vi l1]) rfl rfl rfl rfl h (fun h => ?_) (fun h => ?_)
  · refine WP.blk (pc' := 18) (L' := [vr 9 0, vi l1]) (st' := [vi l1, vr 8 1]) (h' := (101, I2, J3, R0 b)) 4 rfl ?_
    refine WP.cal (y' := 63) (as := [vr 8 1, vi l1]) (L' := [vr 9 0, vi l1]) (rest := []) rfl (fun f r h' hf => callV_ok hf rfl rfl rfl) h ?_
    rintro _ _ ⟨x4, I5, J6, rfl, rfl, h⟩
    refine WP.if_eq (t := 27) (L' := [vr 9 0, vi l1]) rfl rfl rfl rfl h (fun h => ?_) (fun h => ?_)
    · refine WP.blk (pc' := 31) (L' := [vr 9 0, vi l1]) (st' := [vr 7 0]) (h' := (101, I5, J6, R0 b)) 2 rfl ?_
      refine WP.cal (y' := 54) (as := [vr 7 0]) (L' := [vr 9 0, vi l1]) (rest := []) rfl (fun f r h' hf => callV_ok hf rfl rfl rfl) h ?_
      rintro _ _ ⟨I8, J9, rfl, rfl, h⟩
      refine WP.blk (pc' := 42) (L' := [vr 9 0, vi l1]) (st' := [vi l1, vr 8 1]) (h' := (101, I8, J9, R0 b)) 4 rfl ?_
      refine WP.cal (y' := 64) (as := [vr 8 1, vi l1]) (L' := [vr 9 0, vi l1]) (rest := []) rfl (fun f r h' hf => callV_ok hf rfl rfl rfl) h ?_
      rintro _ _ ⟨x10, I11, J12, rfl, rfl, h⟩
      refine WP.if_ne (t := 64) (L' := [vr 9 0, vi l1]) rfl rfl rfl rfl h (fun h => ?_) (fun h => ?_)
      · refine WP.blk (pc' := 87) (L' := [vr 9 0, vi l1]) (st' := [vi (I11 8 1 12)]) (h' := (101, (updI I11 2 0 1 ((I11 2 0 1) + (1 : Int32))), J12, R0 b)) 11 rfl ?_
        exact WP.ret rfl rfl h
      · refine WP.blk (pc' := 63) (L' := [vr 9 0, vi l1]) (st' := [vi (-2)]) (h' := (101, (updI I11 2 0 2 ((I11 2 0 2) + (1 : Int32))), J12, R0 b)) 8 rfl ?_
        exact WP.ret rfl rfl h
    · refine WP.blk (pc' := 26) (L' := [vr 9 0, vi l1]) (st' := [vi (-5)]) (h' := (101, I5, J6, R0 b)) 1 rfl ?_
      exact WP.ret rfl rfl h
  · refine WP.blk (pc' := 9) (L' := [vr 9 0, vi l1]) (st' := [vi (-1)]) (h' := (101, I2, J3, R0 b)) 1 rfl ?_
    exact WP.ret rfl rfl h
set_option maxRecDepth 20000 in
theorem t_X9_stay {D : Nat} (l1 : Int32) (I : IM) (J : JM) (b : Bool) {Q : Option AV → AH → Prop} (h : (if l1 < (1 : Int32) then Q (some (vi (-1))) (101, I, J, R0 b) else (if l1 ≤ (999 : Int32) then (if ((I 8 1 12) + l1) ≤ (9999 : Int32) then Q (some (vi ((I 8 1 12) + l1))) (101, (updI (updI I 8 1 12 ((I 8 1 12) + l1)) 2 0 3 ((I 2 0 3) + l1)), J, R0 b) else Q (some (vi (-5))) (101, I, J, R0 b)) else Q (some (vi (-1))) (101, I, J, R0 b)))) : Call (D + 1) 105 [vr 9 0, vi l1] (101, I, J, R0 b) Q := by
  refine Call.of rfl ?_
  show WP D 105 0 [vr 9 0, vi l1] [] (101, I, J, R0 b) Q
  refine WP.blk (pc' := 2) (L' := [vr 9 0, vi l1]) (st' := [vi 1, vi l1]) (h' := (101, I, J, R0 b)) 2 rfl ?_
  refine WP.icmp_lt (t := 12) (L' := [vr 9 0, vi l1]) rfl rfl rfl rfl h (fun h => ?_) (fun h => ?_)
  · refine WP.blk (pc' := 13) (L' := [vn, vn]) (st' := [vi (-1)]) (h' := (101, I, J, R0 b)) 1 rfl ?_
    exact WP.ret rfl rfl h
  · refine WP.blk (pc' := 9) (L' := [vr 9 0, vi l1]) (st' := [vi 999, vi l1]) (h' := (101, I, J, R0 b)) 2 rfl ?_
    refine WP.icmp_le (t := 14) (L' := [vr 9 0, vi l1]) rfl rfl rfl rfl h (fun h => ?_) (fun h => ?_)
    · refine WP.blk (pc' := 29) (L' := [vr 9 0, vi l1]) (st' := [vi 9999, vi ((I 8 1 12) + l1)]) (h' := (101, I, J, R0 b)) 7 rfl ?_
      refine WP.icmp_le (t := 35) (L' := [vr 9 0, vi l1]) rfl rfl rfl rfl h (fun h => ?_) (fun h => ?_)
      · refine WP.blk (pc' := 74) (L' := [vr 9 0, vi l1]) (st' := [vi ((I 8 1 12) + l1)]) (h' := (101, (updI (updI I 8 1 12 ((I 8 1 12) + l1)) 2 0 3 ((I 2 0 3) + l1)), J, R0 b)) 19 rfl ?_
        exact WP.ret rfl rfl h
      · refine WP.blk (pc' := 34) (L' := [vr 9 0, vi l1]) (st' := [vi (-5)]) (h' := (101, I, J, R0 b)) 1 rfl ?_
        exact WP.ret rfl rfl h
    · refine WP.blk (pc' := 13) (L' := [vn, vn]) (st' := [vi (-1)]) (h' := (101, I, J, R0 b)) 1 rfl ?_
      exact WP.ret rfl rfl h
