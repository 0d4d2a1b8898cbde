/-! TREES, by program (wip/whole/gen16.py): what each method does between its cuts -/
set_option maxRecDepth 20000 in
theorem t_X0_isKind {D : Nat} (l0 : Int32) (I : IM) (J : JM) (b : Bool) {Q : Option AV → AH → Prop} (h : (if l0 < 0 then Q (some (vi 0)) (101, I, J, R0 b) else (if (8 : Int32) ≤ l0 then Q (some (vi 0)) (101, I, J, R0 b) else Q (some (vi 1)) (101, I, J, R0 b)))) : Call (D + 1) 1 [vi l0] (101, I, J, R0 b) Q := by
  refine Call.of rfl ?_
  show WP D 1 0 [vi l0] [] (101, I, J, R0 b) Q
  refine WP.blk (pc' := 1) (L' := [vi l0]) (st' := [vi l0]) (h' := (101, I, J, R0 b)) 1 rfl ?_
  refine WP.if_lt (t := 14) (L' := [vi l0]) rfl rfl rfl rfl h (fun h => ?_) (fun h => ?_)
  · refine WP.blk (pc' := 15) (L' := [vn]) (st' := [vi 0]) (h' := (101, I, J, R0 b)) 1 rfl ?_
    exact WP.ret rfl rfl h
  · refine WP.blk (pc' := 7) (L' := [vi l0]) (st' := [vi 8, vi l0]) (h' := (101, I, J, R0 b)) 2 rfl ?_
    refine WP.icmp_ge (t := 14) (L' := [vi l0]) rfl rfl rfl rfl h (fun h => ?_) (fun h => ?_)
    · refine WP.blk (pc' := 15) (L' := [vn]) (st' := [vi 0]) (h' := (101, I, J, R0 b)) 1 rfl ?_
      exact WP.ret rfl rfl h
    · refine WP.blk (pc' := 15) (L' := [vi l0]) (st' := [vi 1]) (h' := (101, I, J, R0 b)) 2 rfl ?_
      exact WP.ret rfl rfl h
set_option maxRecDepth 20000 in
theorem t_X0_isUnder {D : Nat} (l0 : Int32) (l1 : Int32) (I : IM) (J : JM) (b : Bool) {Q : Option AV → AH → Prop} (h : WP D 2 4 [vn, vi l1, vi l0, vi 0] [] (101, I, J, R0 b) Q) : Call (D + 1) 2 [vi l0, vi l1] (101, I, J, R0 b) Q := by
  refine Call.of rfl ?_
  show WP D 2 0 [vi l0, vi l1, vn, vn] [] (101, I, J, R0 b) Q
  refine WP.blk (pc' := 4) (L' := [vi l0, vi l1, vi l0, vi 0]) (st' := []) (h' := (101, I, J, R0 b)) 4 rfl ?_
  exact WP.mask rfl rfl h
set_option maxRecDepth 20000 in
theorem t_X0_isUnder_4 {D : Nat} (l1 : Int32) (l2 : Int32) (l3 : Int32) (I : IM) (J : JM) (b : Bool) {Q : Option AV → AH → Prop} (h : (if (8 : Int32) ≤ l3 then Q (some (vi 0)) (101, I, J, R0 b) else (Call D 1 [vi l2] (101, I, J, R0 b) (RIf b fun x1 I2 J3 => (if x1 = 0 then Q (some (vi 0)) (101, I2, J3, R0 b) else (if ¬ l2 = l1 then (vp_in l2 8 ∧ WP D 2 4 [vn, vi l1, vi ((STl 902).getD l2.toNatClampNeg 0), vi (l3 + 1)] [] (101, I2, J3, R0 b) Q) else Q (some (vi 1)) (101, I2, J3, R0 b))))))) : WP D 2 4 [vn, vi l1, vi l2, vi l3] [] (101, I, J, R0 b) Q := by
  refine WP.blk (pc' := 7) (L' := [vn, vi l1, vi l2, vi l3]) (st' := [vi 8, vi l3]) (h' := (101, I, J, R0 b)) 2 rfl ?_
  refine WP.icmp_ge (t := 36) (L' := [vn, vi l1, vi l2, vi l3]) rfl rfl rfl rfl h (fun h => ?_) (fun h => ?_)
  · refine WP.blk (pc' := 37) (L' := [vn, vn, vn, vn]) (st' := [vi 0]) (h' := (101, I, J, R0 b)) 1 rfl ?_
    exact WP.ret rfl rfl h
  · refine WP.blk (pc' := 11) (L' := [vn, vi l1, vi l2, vi l3]) (st' := [vi l2]) (h' := (101, I, J, R0 b)) 1 rfl ?_
    refine WP.cal (y' := 1) (as := [vi l2]) (L' := [vn, vi l1, vi l2, vi l3]) (rest := []) rfl (fun f r h' hf => callS_ok hf rfl rfl rfl) h ?_
    rintro _ _ ⟨x1, I2, J3, rfl, rfl, h⟩
    refine WP.if_eq (t := 36) (L' := [vn, vi l1, vi l2, vi l3]) rfl rfl rfl rfl h (fun h => ?_) (fun h => ?_)
    · refine WP.blk (pc' := 37) (L' := [vn, vn, vn, vn]) (st' := [vi 0]) (h' := (101, I2, J3, R0 b)) 1 rfl ?_
      exact WP.ret rfl rfl h
    · refine WP.blk (pc' := 19) (L' := [vn, vi l1, vi l2, vi l3]) (st' := [vi l1, vi l2]) (h' := (101, I2, J3, R0 b)) 2 rfl ?_
      refine WP.icmp_ne (t := 24) (L' := [vn, vi l1, vi l2, vi l3]) rfl rfl rfl rfl h (fun h => ?_) (fun h => ?_)
      · refine WP.blk (pc' := 28) (L' := [vn, vi l1, vi l2, vi l3]) (st' := [vi l2, vr 902 0]) (h' := (101, I2, J3, R0 b)) 2 rfl ?_
        refine WP.step (pc' := 29) (L' := [vn, vi l1, vi l2, vi l3]) (st' := [vi ((STl 902).getD l2.toNatClampNeg 0)]) (h' := (101, I2, J3, R0 b)) rfl (iaload_ok (n := 8) rfl rfl rfl (inA_of h.1)) ?_
        have h := And.right h
        refine WP.blk (pc' := 4) (L' := [vn, vi l1, vi ((STl 902).getD l2.toNatClampNeg 0), vi (l3 + 1)]) (st' := []) (h' := (101, I2, J3, R0 b)) 3 rfl ?_
        exact WP.mask rfl rfl h
      · refine WP.blk (pc' := 23) (L' := [vn, vi l1, vi l2, vi l3]) (st' := [vi 1]) (h' := (101, I2, J3, R0 b)) 1 rfl ?_
        exact WP.ret rfl rfl h
set_option maxRecDepth 20000 in
theorem t_X0_add {D : Nat} (l1 : Int32) (I : IM) (J : JM) (b : Bool) {Q : Option AV → AH → Prop} (h : (if (I 0 0 4) < (50 : Int32) then (vp_in (I 0 0 4) 50 ∧ Q (some (vi 1)) (101, (updI (updI I 38 0 (I 0 0 4).toNatClampNeg l1) 0 0 4 ((I 0 0 4) + (1 : Int32))), J, R0 b)) else Q (some (vi 0)) (101, I, J, R0 b))) : Call (D + 1) 3 [vr 0 0, vi l1] (101, I, J, R0 b) Q := by
  refine Call.of rfl ?_
  show WP D 3 0 [vr 0 0, vi l1] [] (101, I, J, R0 b) Q
  refine WP.blk (pc' := 6) (L' := [vr 0 0, vi l1]) (st' := [vi 50, vi (I 0 0 4)]) (h' := (101, I, J, R0 b)) 3 rfl ?_
  refine WP.icmp_lt (t := 11) (L' := [vr 0 0, vi l1]) rfl rfl rfl rfl h (fun h => ?_) (fun h => ?_)
  · refine WP.blk (pc' := 20) (L' := [vr 0 0, vi l1]) (st' := [vi l1, vi (I 0 0 4), vr 38 0]) (h' := (101, I, J, R0 b)) 5 rfl ?_
    refine WP.step (pc' := 21) (L' := [vr 0 0, vi l1]) (st' := []) (h' := (101, (updI I 38 0 (I 0 0 4).toNatClampNeg l1), J, R0 b)) rfl (iastore_ok (n := 50) rfl rfl rfl (inA_of h.1)) ?_
    have h := And.right h
    refine WP.blk (pc' := 32) (L' := [vr 0 0, vi l1]) (st' := [vi 1]) (h' := (101, (updI (updI I 38 0 (I 0 0 4).toNatClampNeg l1) 0 0 4 ((I 0 0 4) + (1 : Int32))), J, R0 b)) 7 rfl ?_
    exact WP.ret rfl rfl h
  · refine WP.blk (pc' := 10) (L' := [vr 0 0, vi l1]) (st' := [vi 0]) (h' := (101, I, J, R0 b)) 1 rfl ?_
    exact WP.ret rfl rfl h
set_option maxRecDepth 20000 in
theorem t_X0_keptOfTrace {D : Nat}  (I : IM) (J : JM) (b : Bool) {Q : Option AV → AH → Prop} (h : Q (some (vi (if (24 : Int32) < (I 0 0 5) then (24 : Int32) else (I 0 0 5)))) (101, I, J, R0 b)) : Call (D + 1) 4 [vr 0 0] (101, I, J, R0 b) Q := by
  refine Call.of rfl ?_
  show WP D 4 0 [vr 0 0] [] (101, I, J, R0 b) Q
  refine WP.blk (pc' := 9) (L' := [vr 0 0]) (st' := [vi (if (24 : Int32) < (I 0 0 5) then (24 : Int32) else (I 0 0 5))]) (h' := (101, I, J, R0 b)) 4 rfl ?_
  exact WP.ret rfl rfl h
set_option maxRecDepth 20000 in
theorem t_X0_start {D : Nat} (l1 : Int32) (l2 : Int32) (l3 : Int32) (I : IM) (J : JM) (b : Bool) {Q : Option AV → AH → Prop} (h : (Call D 256 [vr 0 0, vi l1] (101, (updI I 0 0 5 0), J, R0 b) (RIf b fun x1 I2 J3 => (if x1 < 0 then Q (some (vi 0)) (101, I2, J3, R0 b) else (if l2 < 0 then Q (some (vi 0)) (101, I2, J3, R0 b) else (if l2 < (4 : Int32) then (Call D 7 [vr 0 0, vi x1, vi l2, vi l3, vi 0] (101, (updI (updI I2 0 0 2 l1) 0 0 3 x1), J3, R0 b) (RIf b fun x4 I5 J6 => Q (some (vi x4)) (101, I5, J6, R0 b))) else Q (some (vi 0)) (101, I2, J3, R0 b))))))) : Call (D + 1) 5 [vr 0 0, vi l1, vi l2, vi l3] (101, I, J, R0 b) Q := by
  refine Call.of rfl ?_
  show WP D 5 0 [vr 0 0, vi l1, vi l2, vi l3, vn] [] (101, I, J, R0 b) Q
  refine WP.blk (pc' := 7) (L' := [vr 0 0, vi l1, vi l2, vi l3, vn]) (st' := [vi l1, vr 0 0]) (h' := (101, (updI I 0 0 5 0), J, R0 b)) 5 rfl ?_
  refine WP.cal (y' := 256) (as := [vr 0 0, vi l1]) (L' := [vr 0 0, vi l1, vi l2, vi l3, vn]) (rest := []) rfl (fun f r h' hf => callV_ok hf rfl rfl rfl) h ?_
  rintro _ _ ⟨x1, I2, J3, rfl, rfl, h⟩
  refine WP.blk (pc' := 14) (L' := [vr 0 0, vi l1, vi l2, vi l3, vi x1]) (st' := [vi x1]) (h' := (101, I2, J3, R0 b)) 2 rfl ?_
  refine WP.if_lt (t := 26) (L' := [vr 0 0, vi l1, vi l2, vi l3, vi x1]) rfl rfl rfl rfl h (fun h => ?_) (fun h => ?_)
  · refine WP.blk (pc' := 27) (L' := [vn, vn, vn, vn, vn]) (st' := [vi 0]) (h' := (101, I2, J3, R0 b)) 1 rfl ?_
    exact WP.ret rfl rfl h
  · refine WP.blk (pc' := 18) (L' := [vr 0 0, vi l1, vi l2, vi l3, vi x1]) (st' := [vi l2]) (h' := (101, I2, J3, R0 b)) 1 rfl ?_
    refine WP.if_lt (t := 26) (L' := [vr 0 0, vi l1, vi l2, vi l3, vi x1]) rfl rfl rfl rfl h (fun h => ?_) (fun h => ?_)
    · refine WP.blk (pc' := 27) (L' := [vn, vn, vn, vn, vn]) (st' := [vi 0]) (h' := (101, I2, J3, R0 b)) 1 rfl ?_
      exact WP.ret rfl rfl h
    · refine WP.blk (pc' := 23) (L' := [vr 0 0, vi l1, vi l2, vi l3, vi x1]) (st' := [vi 4, vi l2]) (h' := (101, I2, J3, R0 b)) 2 rfl ?_
      refine WP.icmp_lt (t := 28) (L' := [vr 0 0, vi l1, vi l2, vi l3, vi x1]) rfl rfl rfl rfl h (fun h => ?_) (fun h => ?_)
      · refine WP.blk (pc' := 47) (L' := [vr 0 0, vi l1, vi l2, vi l3, vi x1]) (st' := [vi 0, vi l3, vi l2, vi x1, vr 0 0]) (h' := (101, (updI (updI I2 0 0 2 l1) 0 0 3 x1), J3, R0 b)) 12 rfl ?_
        refine WP.cal (y' := 7) (as := [vr 0 0, vi x1, vi l2, vi l3, vi 0]) (L' := [vr 0 0, vi l1, vi l2, vi l3, vi x1]) (rest := []) rfl (fun f r h' hf => callV_ok hf rfl rfl rfl) h ?_
        rintro _ _ ⟨x4, I5, J6, rfl, rfl, h⟩
        exact WP.ret rfl rfl h
      · refine WP.blk (pc' := 27) (L' := [vn, vn, vn, vn, vn]) (st' := [vi 0]) (h' := (101, I2, J3, R0 b)) 1 rfl ?_
        exact WP.ret rfl rfl h
set_option maxRecDepth 20000 in
theorem t_X0_holderOf {D : Nat} (l0 : Int32) (l1 : Int32) (I : IM) (J : JM) (b : Bool) {Q : Option AV → AH → Prop} (h : WP D 6 4 [vn, vi l1, vi l0, vi 0] [] (101, I, J, R0 b) Q) : Call (D + 1) 6 [vi l0, vi l1] (101, I, J, R0 b) Q := by
  refine Call.of rfl ?_
  show WP D 6 0 [vi l0, vi l1, vn, vn] [] (101, I, J, R0 b) Q
  refine WP.blk (pc' := 4) (L' := [vi l0, vi l1, vi l0, vi 0]) (st' := []) (h' := (101, I, J, R0 b)) 4 rfl ?_
  exact WP.mask rfl rfl h
set_option maxRecDepth 20000 in
theorem t_X0_holderOf_4 {D : Nat} (l1 : Int32) (l2 : Int32) (l3 : Int32) (I : IM) (J : JM) (b : Bool) {Q : Option AV → AH → Prop} (h : (if (8 : Int32) ≤ l3 then Q (some (vi (-1))) (101, I, J, R0 b) else (Call D 1 [vi l2] (101, I, J, R0 b) (RIf b fun x1 I2 J3 => (if x1 = 0 then Q (some (vi (-1))) (101, I2, J3, R0 b) else (vp_in ((l2 * (4 : Int32)) + l1) 32 ∧ (if ((STl 903).getD ((l2 * (4 : Int32)) + l1).toNatClampNeg 0) = 0 then (vp_in l2 8 ∧ WP D 6 4 [vn, vi l1, vi ((STl 902).getD l2.toNatClampNeg 0), vi (l3 + 1)] [] (101, I2, J3, R0 b) Q) else Q (some (vi l2)) (101, I2, J3, R0 b)))))))) : WP D 6 4 [vn, vi l1, vi l2, vi l3] [] (101, I, J, R0 b) Q := by
  refine WP.blk (pc' := 7) (L' := [vn, vi l1, vi l2, vi l3]) (st' := [vi 8, vi l3]) (h' := (101, I, J, R0 b)) 2 rfl ?_
  refine WP.icmp_ge (t := 43) (L' := [vn, vi l1, vi l2, vi l3]) rfl rfl rfl rfl h (fun h => ?_) (fun h => ?_)
  · refine WP.blk (pc' := 44) (L' := [vn, vn, vn, vn]) (st' := [vi (-1)]) (h' := (101, I, J, R0 b)) 1 rfl ?_
    exact WP.ret rfl rfl h
  · refine WP.blk (pc' := 11) (L' := [vn, vi l1, vi l2, vi l3]) (st' := [vi l2]) (h' := (101, I, J, R0 b)) 1 rfl ?_
    refine WP.cal (y' := 1) (as := [vi l2]) (L' := [vn, vi l1, vi l2, vi l3]) (rest := []) rfl (fun f r h' hf => callS_ok hf rfl rfl rfl) h ?_
    rintro _ _ ⟨x1, I2, J3, rfl, rfl, h⟩
    refine WP.if_eq (t := 43) (L' := [vn, vi l1, vi l2, vi l3]) rfl rfl rfl rfl h (fun h => ?_) (fun h => ?_)
    · refine WP.blk (pc' := 44) (L' := [vn, vn, vn, vn]) (st' := [vi (-1)]) (h' := (101, I2, J3, R0 b)) 1 rfl ?_
      exact WP.ret rfl rfl h
    · refine WP.blk (pc' := 25) (L' := [vn, vi l1, vi l2, vi l3]) (st' := [vi ((l2 * (4 : Int32)) + l1), vr 903 0]) (h' := (101, I2, J3, R0 b)) 6 rfl ?_
      refine WP.step (pc' := 26) (L' := [vn, vi l1, vi l2, vi l3]) (st' := [vi ((STl 903).getD ((l2 * (4 : Int32)) + l1).toNatClampNeg 0)]) (h' := (101, I2, J3, R0 b)) rfl (iaload_ok (n := 32) rfl rfl rfl (inA_of h.1)) ?_
      have h := And.right h
      refine WP.if_eq (t := 31) (L' := [vn, vi l1, vi l2, vi l3]) rfl rfl rfl rfl h (fun h => ?_) (fun h => ?_)
      · refine WP.blk (pc' := 35) (L' := [vn, vi l1, vi l2, vi l3]) (st' := [vi l2, vr 902 0]) (h' := (101, I2, J3, R0 b)) 2 rfl ?_
        refine WP.step (pc' := 36) (L' := [vn, vi l1, vi l2, vi l3]) (st' := [vi ((STl 902).getD l2.toNatClampNeg 0)]) (h' := (101, I2, J3, R0 b)) rfl (iaload_ok (n := 8) rfl rfl rfl (inA_of h.1)) ?_
        have h := And.right h
        refine WP.blk (pc' := 4) (L' := [vn, vi l1, vi ((STl 902).getD l2.toNatClampNeg 0), vi (l3 + 1)]) (st' := []) (h' := (101, I2, J3, R0 b)) 3 rfl ?_
        exact WP.mask rfl rfl h
      · refine WP.blk (pc' := 30) (L' := [vn, vi l1, vi l2, vi l3]) (st' := [vi l2]) (h' := (101, I2, J3, R0 b)) 1 rfl ?_
        exact WP.ret rfl rfl h
set_option maxRecDepth 20000 in
theorem t_X0_run {D : Nat} (l1 : Int32) (l2 : Int32) (l3 : Int32) (l4 : Int32) (I : IM) (J : JM) (b : Bool) {Q : Option AV → AH → Prop} (h : (Call D 6 [vi l1, vi l2] (101, I, J, R0 b) (RIf b fun x1 I2 J3 => (if x1 < 0 then Q (some (vi 0)) (101, I2, J3, R0 b) else (if l4 ≤ (40 : Int32) then (vp_in ((x1 * (4 : Int32)) + l2) 32 ∧ (if (24 : Int32) ≤ (I2 0 0 5) then (vp_in x1 8 ∧ (if ((STl 903).getD ((x1 * (4 : Int32)) + l2).toNatClampNeg 0) = 1 then Q (some (vi (l3 + (I2 0 0 2)))) (101, (updI I2 0 0 5 ((I2 0 0 5) + (1 : Int32))), J3, R0 b) else (if ((STl 903).getD ((x1 * (4 : Int32)) + l2).toNatClampNeg 0) = 2 then (Call D 7 [vr 0 0, vi (I2 0 0 3), vi 1, vi l3, vi (l4 + (1 : Int32))] (101, (updI I2 0 0 5 ((I2 0 0 5) + (1 : Int32))), J3, R0 b) (RIf b fun x4 I5 J6 => (Call D 7 [vr 0 0, vi (I5 0 0 3), vi 2, vi 1, vi (l4 + (1 : Int32))] (101, I5, J6, R0 b) (RIf b fun x7 I8 J9 => Q (some (vi (x4 - x7))) (101, I8, J9, R0 b))))) else (if ((STl 903).getD ((x1 * (4 : Int32)) + l2).toNatClampNeg 0) = 10 then (Call D 7 [vr 0 0, vi (I2 0 0 3), vi 0, vi l3, vi (l4 + (1 : Int32))] (101, (updI I2 0 0 5 ((I2 0 0 5) + (1 : Int32))), J3, R0 b) (RIf b fun x10 I11 J12 => Q (some (vi (x10 * (2 : Int32)))) (101, I11, J12, R0 b))) else (if ((STl 903).getD ((x1 * (4 : Int32)) + l2).toNatClampNeg 0) = 11 then Q (some (vi (l3 ^^^ (I2 0 0 2)))) (101, (updI I2 0 0 5 ((I2 0 0 5) + (1 : Int32))), J3, R0 b) else (if ((STl 903).getD ((x1 * (4 : Int32)) + l2).toNatClampNeg 0) = 20 then (Call D 7 [vr 0 0, vi ((STl 902).getD x1.toNatClampNeg 0), vi l2, vi l3, vi (l4 + (1 : Int32))] (101, (updI I2 0 0 5 ((I2 0 0 5) + (1 : Int32))), J3, R0 b) (RIf b fun x13 I14 J15 => Q (some (vi (x13 + (3 : Int32)))) (101, I14, J15, R0 b))) else (if ((STl 903).getD ((x1 * (4 : Int32)) + l2).toNatClampNeg 0) = 30 then (Call D 7 [vr 0 0, vi ((STl 902).getD x1.toNatClampNeg 0), vi l2, vi l3, vi (l4 + (1 : Int32))] (101, (updI I2 0 0 5 ((I2 0 0 5) + (1 : Int32))), J3, R0 b) (RIf b fun x16 I17 J18 => Q (some (vi (-x16))) (101, I17, J18, R0 b))) else (if ((STl 903).getD ((x1 * (4 : Int32)) + l2).toNatClampNeg 0) = 40 then (Call D 7 [vr 0 0, vi ((STl 902).getD x1.toNatClampNeg 0), vi l2, vi l3, vi (l4 + (1 : Int32))] (101, (updI I2 0 0 5 ((I2 0 0 5) + (1 : Int32))), J3, R0 b) (RIf b fun x19 I20 J21 => Q (some (vi (x19 * (3 : Int32)))) (101, I20, J21, R0 b))) else (if ((STl 903).getD ((x1 * (4 : Int32)) + l2).toNatClampNeg 0) = 41 then (Call D 7 [vr 0 0, vi ((STl 902).getD x1.toNatClampNeg 0), vi l2, vi (l3 + (1 : Int32)), vi (l4 + (1 : Int32))] (101, (updI I2 0 0 5 ((I2 0 0 5) + (1 : Int32))), J3, R0 b) (RIf b fun x22 I23 J24 => Q (some (vi x22)) (101, I23, J24, R0 b))) else (if ((STl 903).getD ((x1 * (4 : Int32)) + l2).toNatClampNeg 0) = 50 then (Call D 7 [vr 0 0, vi ((STl 902).getD x1.toNatClampNeg 0), vi l2, vi l3, vi (l4 + (1 : Int32))] (101, (updI I2 0 0 5 ((I2 0 0 5) + (1 : Int32))), J3, R0 b) (RIf b fun x25 I26 J27 => Q (some (vi (x25 ^^^ (5 : Int32)))) (101, I26, J27, R0 b))) else (if ((STl 903).getD ((x1 * (4 : Int32)) + l2).toNatClampNeg 0) = 60 then (Call D 7 [vr 0 0, vi ((STl 902).getD x1.toNatClampNeg 0), vi l2, vi l3, vi (l4 + (1 : Int32))] (101, (updI I2 0 0 5 ((I2 0 0 5) + (1 : Int32))), J3, R0 b) (RIf b fun x28 I29 J30 => (Call D 7 [vr 0 0, vi (I29 0 0 3), vi 0, vi 2, vi (l4 + (1 : Int32))] (101, I29, J30, R0 b) (RIf b fun x31 I32 J33 => Q (some (vi (x28 - x31))) (101, I32, J33, R0 b))))) else (if ((STl 903).getD ((x1 * (4 : Int32)) + l2).toNatClampNeg 0) = 61 then (Call D 7 [vr 0 0, vi ((STl 902).getD x1.toNatClampNeg 0), vi l2, vi l3, vi (l4 + (1 : Int32))] (101, (updI I2 0 0 5 ((I2 0 0 5) + (1 : Int32))), J3, R0 b) (RIf b fun x34 I35 J36 => Q (some (vi (x34 + (1 : Int32)))) (101, I35, J36, R0 b))) else (if ((STl 903).getD ((x1 * (4 : Int32)) + l2).toNatClampNeg 0) = 70 then (Call D 7 [vr 0 0, vi ((STl 902).getD x1.toNatClampNeg 0), vi l2, vi l3, vi (l4 + (1 : Int32))] (101, (updI I2 0 0 5 ((I2 0 0 5) + (1 : Int32))), J3, R0 b) (RIf b fun x37 I38 J39 => Q (some (vi (x37 * (2 : Int32)))) (101, I38, J39, R0 b))) else (if ((STl 903).getD ((x1 * (4 : Int32)) + l2).toNatClampNeg 0) = 80 then (Call D 7 [vr 0 0, vi ((STl 902).getD x1.toNatClampNeg 0), vi l2, vi l3, vi (l4 + (1 : Int32))] (101, (updI I2 0 0 5 ((I2 0 0 5) + (1 : Int32))), J3, R0 b) (RIf b fun x40 I41 J42 => (Call D 7 [vr 0 0, vi (I41 0 0 3), vi 2, vi 2, vi (l4 + (1 : Int32))] (101, I41, J42, R0 b) (RIf b fun x43 I44 J45 => Q (some (vi (x40 + x43))) (101, I44, J45, R0 b))))) else (if ((STl 903).getD ((x1 * (4 : Int32)) + l2).toNatClampNeg 0) = 81 then (Call D 7 [vr 0 0, vi ((STl 902).getD x1.toNatClampNeg 0), vi l2, vi l3, vi (l4 + (1 : Int32))] (101, (updI I2 0 0 5 ((I2 0 0 5) + (1 : Int32))), J3, R0 b) (RIf b fun x46 I47 J48 => Q (some (vi (x46 - (1 : Int32)))) (101, I47, J48, R0 b))) else Q (some (vi 0)) (101, (updI I2 0 0 5 ((I2 0 0 5) + (1 : Int32))), J3, R0 b)))))))))))))))) else (vp_in (I2 0 0 5) 24 ∧ (vp_in x1 8 ∧ (if ((STl 903).getD ((x1 * (4 : Int32)) + l2).toNatClampNeg 0) = 1 then Q (some (vi (l3 + (I2 0 0 2)))) (101, (updI (updI I2 39 0 (I2 0 0 5).toNatClampNeg ((STl 903).getD ((x1 * (4 : Int32)) + l2).toNatClampNeg 0)) 0 0 5 ((I2 0 0 5) + (1 : Int32))), J3, R0 b) else (if ((STl 903).getD ((x1 * (4 : Int32)) + l2).toNatClampNeg 0) = 2 then (Call D 7 [vr 0 0, vi (I2 0 0 3), vi 1, vi l3, vi (l4 + (1 : Int32))] (101, (updI (updI I2 39 0 (I2 0 0 5).toNatClampNeg ((STl 903).getD ((x1 * (4 : Int32)) + l2).toNatClampNeg 0)) 0 0 5 ((I2 0 0 5) + (1 : Int32))), J3, R0 b) (RIf b fun x49 I50 J51 => (Call D 7 [vr 0 0, vi (I50 0 0 3), vi 2, vi 1, vi (l4 + (1 : Int32))] (101, I50, J51, R0 b) (RIf b fun x52 I53 J54 => Q (some (vi (x49 - x52))) (101, I53, J54, R0 b))))) else (if ((STl 903).getD ((x1 * (4 : Int32)) + l2).toNatClampNeg 0) = 10 then (Call D 7 [vr 0 0, vi (I2 0 0 3), vi 0, vi l3, vi (l4 + (1 : Int32))] (101, (updI (updI I2 39 0 (I2 0 0 5).toNatClampNeg ((STl 903).getD ((x1 * (4 : Int32)) + l2).toNatClampNeg 0)) 0 0 5 ((I2 0 0 5) + (1 : Int32))), J3, R0 b) (RIf b fun x55 I56 J57 => Q (some (vi (x55 * (2 : Int32)))) (101, I56, J57, R0 b))) else (if ((STl 903).getD ((x1 * (4 : Int32)) + l2).toNatClampNeg 0) = 11 then Q (some (vi (l3 ^^^ (I2 0 0 2)))) (101, (updI (updI I2 39 0 (I2 0 0 5).toNatClampNeg ((STl 903).getD ((x1 * (4 : Int32)) + l2).toNatClampNeg 0)) 0 0 5 ((I2 0 0 5) + (1 : Int32))), J3, R0 b) else (if ((STl 903).getD ((x1 * (4 : Int32)) + l2).toNatClampNeg 0) = 20 then (Call D 7 [vr 0 0, vi ((STl 902).getD x1.toNatClampNeg 0), vi l2, vi l3, vi (l4 + (1 : Int32))] (101, (updI (updI I2 39 0 (I2 0 0 5).toNatClampNeg ((STl 903).getD ((x1 * (4 : Int32)) + l2).toNatClampNeg 0)) 0 0 5 ((I2 0 0 5) + (1 : Int32))), J3, R0 b) (RIf b fun x58 I59 J60 => Q (some (vi (x58 + (3 : Int32)))) (101, I59, J60, R0 b))) else (if ((STl 903).getD ((x1 * (4 : Int32)) + l2).toNatClampNeg 0) = 30 then (Call D 7 [vr 0 0, vi ((STl 902).getD x1.toNatClampNeg 0), vi l2, vi l3, vi (l4 + (1 : Int32))] (101, (updI (updI I2 39 0 (I2 0 0 5).toNatClampNeg ((STl 903).getD ((x1 * (4 : Int32)) + l2).toNatClampNeg 0)) 0 0 5 ((I2 0 0 5) + (1 : Int32))), J3, R0 b) (RIf b fun x61 I62 J63 => Q (some (vi (-x61))) (101, I62, J63, R0 b))) else (if ((STl 903).getD ((x1 * (4 : Int32)) + l2).toNatClampNeg 0) = 40 then (Call D 7 [vr 0 0, vi ((STl 902).getD x1.toNatClampNeg 0), vi l2, vi l3, vi (l4 + (1 : Int32))] (101, (updI (updI I2 39 0 (I2 0 0 5).toNatClampNeg ((STl 903).getD ((x1 * (4 : Int32)) + l2).toNatClampNeg 0)) 0 0 5 ((I2 0 0 5) + (1 : Int32))), J3, R0 b) (RIf b fun x64 I65 J66 => Q (some (vi (x64 * (3 : Int32)))) (101, I65, J66, R0 b))) else (if ((STl 903).getD ((x1 * (4 : Int32)) + l2).toNatClampNeg 0) = 41 then (Call D 7 [vr 0 0, vi ((STl 902).getD x1.toNatClampNeg 0), vi l2, vi (l3 + (1 : Int32)), vi (l4 + (1 : Int32))] (101, (updI (updI I2 39 0 (I2 0 0 5).toNatClampNeg ((STl 903).getD ((x1 * (4 : Int32)) + l2).toNatClampNeg 0)) 0 0 5 ((I2 0 0 5) + (1 : Int32))), J3, R0 b) (RIf b fun x67 I68 J69 => Q (some (vi x67)) (101, I68, J69, R0 b))) else (if ((STl 903).getD ((x1 * (4 : Int32)) + l2).toNatClampNeg 0) = 50 then (Call D 7 [vr 0 0, vi ((STl 902).getD x1.toNatClampNeg 0), vi l2, vi l3, vi (l4 + (1 : Int32))] (101, (updI (updI I2 39 0 (I2 0 0 5).toNatClampNeg ((STl 903).getD ((x1 * (4 : Int32)) + l2).toNatClampNeg 0)) 0 0 5 ((I2 0 0 5) + (1 : Int32))), J3, R0 b) (RIf b fun x70 I71 J72 => Q (some (vi (x70 ^^^ (5 : Int32)))) (101, I71, J72, R0 b))) else (if ((STl 903).getD ((x1 * (4 : Int32)) + l2).toNatClampNeg 0) = 60 then (Call D 7 [vr 0 0, vi ((STl 902).getD x1.toNatClampNeg 0), vi l2, vi l3, vi (l4 + (1 : Int32))] (101, (updI (updI I2 39 0 (I2 0 0 5).toNatClampNeg ((STl 903).getD ((x1 * (4 : Int32)) + l2).toNatClampNeg 0)) 0 0 5 ((I2 0 0 5) + (1 : Int32))), J3, R0 b) (RIf b fun x73 I74 J75 => (Call D 7 [vr 0 0, vi (I74 0 0 3), vi 0, vi 2, vi (l4 + (1 : Int32))] (101, I74, J75, R0 b) (RIf b fun x76 I77 J78 => Q (some (vi (x73 - x76))) (101, I77, J78, R0 b))))) else (if ((STl 903).getD ((x1 * (4 : Int32)) + l2).toNatClampNeg 0) = 61 then (Call D 7 [vr 0 0, vi ((STl 902).getD x1.toNatClampNeg 0), vi l2, vi l3, vi (l4 + (1 : Int32))] (101, (updI (updI I2 39 0 (I2 0 0 5).toNatClampNeg ((STl 903).getD ((x1 * (4 : Int32)) + l2).toNatClampNeg 0)) 0 0 5 ((I2 0 0 5) + (1 : Int32))), J3, R0 b) (RIf b fun x79 I80 J81 => Q (some (vi (x79 + (1 : Int32)))) (101, I80, J81, R0 b))) else (if ((STl 903).getD ((x1 * (4 : Int32)) + l2).toNatClampNeg 0) = 70 then (Call D 7 [vr 0 0, vi ((STl 902).getD x1.toNatClampNeg 0), vi l2, vi l3, vi (l4 + (1 : Int32))] (101, (updI (updI I2 39 0 (I2 0 0 5).toNatClampNeg ((STl 903).getD ((x1 * (4 : Int32)) + l2).toNatClampNeg 0)) 0 0 5 ((I2 0 0 5) + (1 : Int32))), J3, R0 b) (RIf b fun x82 I83 J84 => Q (some (vi (x82 * (2 : Int32)))) (101, I83, J84, R0 b))) else (if ((STl 903).getD ((x1 * (4 : Int32)) + l2).toNatClampNeg 0) = 80 then (Call D 7 [vr 0 0, vi ((STl 902).getD x1.toNatClampNeg 0), vi l2, vi l3, vi (l4 + (1 : Int32))] (101, (updI (updI I2 39 0 (I2 0 0 5).toNatClampNeg ((STl 903).getD ((x1 * (4 : Int32)) + l2).toNatClampNeg 0)) 0 0 5 ((I2 0 0 5) + (1 : Int32))), J3, R0 b) (RIf b fun x85 I86 J87 => (Call D 7 [vr 0 0, vi (I86 0 0 3), vi 2, vi 2, vi (l4 + (1 : Int32))] (101, I86, J87, R0 b) (RIf b fun x88 I89 J90 => Q (some (vi (x85 + x88))) (101, I89, J90, R0 b))))) else (if ((STl 903).getD ((x1 * (4 : Int32)) + l2).toNatClampNeg 0) = 81 then (Call D 7 [vr 0 0, vi ((STl 902).getD x1.toNatClampNeg 0), vi l2, vi l3, vi (l4 + (1 : Int32))] (101, (updI (updI I2 39 0 (I2 0 0 5).toNatClampNeg ((STl 903).getD ((x1 * (4 : Int32)) + l2).toNatClampNeg 0)) 0 0 5 ((I2 0 0 5) + (1 : Int32))), J3, R0 b) (RIf b fun x91 I92 J93 => Q (some (vi (x91 - (1 : Int32)))) (101, I92, J93, R0 b))) else Q (some (vi 0)) (101, (updI (updI I2 39 0 (I2 0 0 5).toNatClampNeg ((STl 903).getD ((x1 * (4 : Int32)) + l2).toNatClampNeg 0)) 0 0 5 ((I2 0 0 5) + (1 : Int32))), J3, R0 b))))))))))))))))))) else Q (some (vi 0)) (101, I2, J3, R0 b)))))) : Call (D + 1) 7 [vr 0 0, vi l1, vi l2, vi l3, vi l4] (101, I, J, R0 b) Q := by
  refine Call.of rfl ?_
  show WP D 7 0 [vr 0 0, vi l1, vi l2, vi l3, vi l4, vn, vn, vn, vn] [] (101, I, J, R0 b) Q
  refine WP.blk (pc' := 2) (L' := [vr 0 0, vi l1, vi l2, vi l3, vi l4, vn, vn, vn, vn]) (st' := [vi l2, vi l1]) (h' := (101, I, J, R0 b)) 2 rfl ?_
  refine WP.cal (y' := 6) (as := [vi l1, vi l2]) (L' := [vr 0 0, vi l1, vi l2, vi l3, vi l4, vn, vn, vn, vn]) (rest := []) rfl (fun f r h' hf => callS_ok hf rfl rfl rfl) h ?_
  rintro _ _ ⟨x1, I2, J3, rfl, rfl, h⟩
  refine WP.blk (pc' := 9) (L' := [vr 0 0, vi l1, vi l2, vi l3, vi l4, vi x1, vn, vn, vn]) (st' := [vi x1]) (h' := (101, I2, J3, R0 b)) 2 rfl ?_
  refine WP.if_lt (t := 19) (L' := [vr 0 0, vi l1, vi l2, vi l3, vi l4, vi x1, vn, vn, vn]) rfl rfl rfl rfl h (fun h => ?_) (fun h => ?_)
  · refine WP.blk (pc' := 20) (L' := [vn, vn, vn, vn, vn, vn, vn, vn, vn]) (st' := [vi 0]) (h' := (101, I2, J3, R0 b)) 1 rfl ?_
    exact WP.ret rfl rfl h
  · refine WP.blk (pc' := 16) (L' := [vr 0 0, vi l1, vi l2, vi l3, vi l4, vi x1, vn, vn, vn]) (st' := [vi 40, vi l4]) (h' := (101, I2, J3, R0 b)) 2 rfl ?_
    refine WP.icmp_le (t := 21) (L' := [vr 0 0, vi l1, vi l2, vi l3, vi l4, vi x1, vn, vn, vn]) rfl rfl rfl rfl h (fun h => ?_) (fun h => ?_)
    · refine WP.blk (pc' := 30) (L' := [vr 0 0, vi l1, vi l2, vi l3, vi l4, vi x1, vn, vn, vn]) (st' := [vi ((x1 * (4 : Int32)) + l2), vr 903 0]) (h' := (101, I2, J3, R0 b)) 6 rfl ?_
      refine WP.step (pc' := 31) (L' := [vr 0 0, vi l1, vi l2, vi l3, vi l4, vi x1, vn, vn, vn]) (st' := [vi ((STl 903).getD ((x1 * (4 : Int32)) + l2).toNatClampNeg 0)]) (h' := (101, I2, J3, R0 b)) rfl (iaload_ok (n := 32) rfl rfl rfl (inA_of h.1)) ?_
      have h := And.right h
      refine WP.blk (pc' := 39) (L' := [vr 0 0, vi l1, vi l2, vi l3, vi l4, vi x1, vi ((STl 903).getD ((x1 * (4 : Int32)) + l2).toNatClampNeg 0), vn, vn]) (st' := [vi 24, vi (I2 0 0 5)]) (h' := (101, I2, J3, R0 b)) 4 rfl ?_
      refine WP.icmp_ge (t := 53) (L' := [vr 0 0, vi l1, vi l2, vi l3, vi l4, vi x1, vi ((STl 903).getD ((x1 * (4 : Int32)) + l2).toNatClampNeg 0), vn, vn]) rfl rfl rfl rfl h (fun h => ?_) (fun h => ?_)
      · refine WP.blk (pc' := 68) (L' := [vr 0 0, vn, vi l2, vi l3, vi l4, vi x1, vi ((STl 903).getD ((x1 * (4 : Int32)) + l2).toNatClampNeg 0), vn, vn]) (st' := [vi x1, vr 902 0]) (h' := (101, (updI I2 0 0 5 ((I2 0 0 5) + (1 : Int32))), J3, R0 b)) 8 rfl ?_
        refine WP.step (pc' := 69) (L' := [vr 0 0, vn, vi l2, vi l3, vi l4, vi x1, vi ((STl 903).getD ((x1 * (4 : Int32)) + l2).toNatClampNeg 0), vn, vn]) (st' := [vi ((STl 902).getD x1.toNatClampNeg 0)]) (h' := (101, (updI I2 0 0 5 ((I2 0 0 5) + (1 : Int32))), J3, R0 b)) rfl (iaload_ok (n := 8) rfl rfl rfl (inA_of h.1)) ?_
        have h := And.right h
        refine WP.blk (pc' := 79) (L' := [vr 0 0, vn, vi l2, vi l3, vi l4, vi x1, vi ((STl 903).getD ((x1 * (4 : Int32)) + l2).toNatClampNeg 0), vi ((STl 902).getD x1.toNatClampNeg 0), vi (l4 + (1 : Int32))]) (st' := [vi ((STl 903).getD ((x1 * (4 : Int32)) + l2).toNatClampNeg 0)]) (h' := (101, (updI I2 0 0 5 ((I2 0 0 5) + (1 : Int32))), J3, R0 b)) 6 rfl ?_
        refine WP.step (pc' := swf [(1, 200), (2, 207), (10, 233), (11, 248), (20, 255), (30, 268), (40, 280), (41, 293), (50, 306), (60, 319), (61, 343), (70, 356), (80, 369), (81, 393)] 406 ((STl 903).getD ((x1 * (4 : Int32)) + l2).toNatClampNeg 0)) (L' := [vr 0 0, vn, vi l2, vi l3, vi l4, vi x1, vi ((STl 903).getD ((x1 * (4 : Int32)) + l2).toNatClampNeg 0), vi ((STl 902).getD x1.toNatClampNeg 0), vi (l4 + (1 : Int32))]) (st' := []) (h' := (101, (updI I2 0 0 5 ((I2 0 0 5) + (1 : Int32))), J3, R0 b)) rfl rfl ?_
        refine WP.ite (c := ((STl 903).getD ((x1 * (4 : Int32)) + l2).toNatClampNeg 0) = 1) (pc1 := 200) (pc2 := swf [(2, 207), (10, 233), (11, 248), (20, 255), (30, 268), (40, 280), (41, 293), (50, 306), (60, 319), (61, 343), (70, 356), (80, 369), (81, 393)] 406 ((STl 903).getD ((x1 * (4 : Int32)) + l2).toNatClampNeg 0)) h (fun h => ?_) (fun h => ?_)
        · refine WP.blk (pc' := 206) (L' := [vr 0 0, vn, vi l2, vi l3, vi l4, vi x1, vi ((STl 903).getD ((x1 * (4 : Int32)) + l2).toNatClampNeg 0), vi ((STl 902).getD x1.toNatClampNeg 0), vi (l4 + (1 : Int32))]) (st' := [vi (l3 + (I2 0 0 2))]) (h' := (101, (updI I2 0 0 5 ((I2 0 0 5) + (1 : Int32))), J3, R0 b)) 4 rfl ?_
          exact WP.ret rfl rfl h
        · refine WP.ite (c := ((STl 903).getD ((x1 * (4 : Int32)) + l2).toNatClampNeg 0) = 2) (pc1 := 207) (pc2 := swf [(10, 233), (11, 248), (20, 255), (30, 268), (40, 280), (41, 293), (50, 306), (60, 319), (61, 343), (70, 356), (80, 369), (81, 393)] 406 ((STl 903).getD ((x1 * (4 : Int32)) + l2).toNatClampNeg 0)) h (fun h => ?_) (fun h => ?_)
          · refine WP.blk (pc' := 216) (L' := [vr 0 0, vn, vi l2, vi l3, vi l4, vi x1, vi ((STl 903).getD ((x1 * (4 : Int32)) + l2).toNatClampNeg 0), vi ((STl 902).getD x1.toNatClampNeg 0), vi (l4 + (1 : Int32))]) (st' := [vi (l4 + (1 : Int32)), vi l3, vi 1, vi (I2 0 0 3), vr 0 0]) (h' := (101, (updI I2 0 0 5 ((I2 0 0 5) + (1 : Int32))), J3, R0 b)) 6 rfl ?_
            refine WP.cal (y' := 7) (as := [vr 0 0, vi (I2 0 0 3), vi 1, vi l3, vi (l4 + (1 : Int32))]) (L' := [vr 0 0, vn, vi l2, vi l3, vi l4, vi x1, vi ((STl 903).getD ((x1 * (4 : Int32)) + l2).toNatClampNeg 0), vi ((STl 902).getD x1.toNatClampNeg 0), vi (l4 + (1 : Int32))]) (rest := []) rfl (fun f r h' hf => callV_ok hf rfl rfl rfl) h ?_
            rintro _ _ ⟨x4, I5, J6, rfl, rfl, h⟩
            refine WP.blk (pc' := 228) (L' := [vr 0 0, vn, vi l2, vi l3, vi l4, vi x1, vi ((STl 903).getD ((x1 * (4 : Int32)) + l2).toNatClampNeg 0), vi ((STl 902).getD x1.toNatClampNeg 0), vi (l4 + (1 : Int32))]) (st' := [vi (l4 + (1 : Int32)), vi 1, vi 2, vi (I5 0 0 3), vr 0 0, vi x4]) (h' := (101, I5, J6, R0 b)) 6 rfl ?_
            refine WP.cal (y' := 7) (as := [vr 0 0, vi (I5 0 0 3), vi 2, vi 1, vi (l4 + (1 : Int32))]) (L' := [vr 0 0, vn, vi l2, vi l3, vi l4, vi x1, vi ((STl 903).getD ((x1 * (4 : Int32)) + l2).toNatClampNeg 0), vi ((STl 902).getD x1.toNatClampNeg 0), vi (l4 + (1 : Int32))]) (rest := [vi x4]) rfl (fun f r h' hf => callV_ok hf rfl rfl rfl) h ?_
            rintro _ _ ⟨x7, I8, J9, rfl, rfl, h⟩
            refine WP.blk (pc' := 232) (L' := [vr 0 0, vn, vi l2, vi l3, vi l4, vi x1, vi ((STl 903).getD ((x1 * (4 : Int32)) + l2).toNatClampNeg 0), vi ((STl 902).getD x1.toNatClampNeg 0), vi (l4 + (1 : Int32))]) (st' := [vi (x4 - x7)]) (h' := (101, I8, J9, R0 b)) 1 rfl ?_
            exact WP.ret rfl rfl h
          · refine WP.ite (c := ((STl 903).getD ((x1 * (4 : Int32)) + l2).toNatClampNeg 0) = 10) (pc1 := 233) (pc2 := swf [(11, 248), (20, 255), (30, 268), (40, 280), (41, 293), (50, 306), (60, 319), (61, 343), (70, 356), (80, 369), (81, 393)] 406 ((STl 903).getD ((x1 * (4 : Int32)) + l2).toNatClampNeg 0)) h (fun h => ?_) (fun h => ?_)
            · refine WP.blk (pc' := 242) (L' := [vr 0 0, vn, vi l2, vi l3, vi l4, vi x1, vi ((STl 903).getD ((x1 * (4 : Int32)) + l2).toNatClampNeg 0), vi ((STl 902).getD x1.toNatClampNeg 0), vi (l4 + (1 : Int32))]) (st' := [vi (l4 + (1 : Int32)), vi l3, vi 0, vi (I2 0 0 3), vr 0 0]) (h' := (101, (updI I2 0 0 5 ((I2 0 0 5) + (1 : Int32))), J3, R0 b)) 6 rfl ?_
              refine WP.cal (y' := 7) (as := [vr 0 0, vi (I2 0 0 3), vi 0, vi l3, vi (l4 + (1 : Int32))]) (L' := [vr 0 0, vn, vi l2, vi l3, vi l4, vi x1, vi ((STl 903).getD ((x1 * (4 : Int32)) + l2).toNatClampNeg 0), vi ((STl 902).getD x1.toNatClampNeg 0), vi (l4 + (1 : Int32))]) (rest := []) rfl (fun f r h' hf => callV_ok hf rfl rfl rfl) h ?_
              rintro _ _ ⟨x10, I11, J12, rfl, rfl, h⟩
              refine WP.blk (pc' := 247) (L' := [vr 0 0, vn, vi l2, vi l3, vi l4, vi x1, vi ((STl 903).getD ((x1 * (4 : Int32)) + l2).toNatClampNeg 0), vi ((STl 902).getD x1.toNatClampNeg 0), vi (l4 + (1 : Int32))]) (st' := [vi (x10 * (2 : Int32))]) (h' := (101, I11, J12, R0 b)) 2 rfl ?_
              exact WP.ret rfl rfl h
            · refine WP.ite (c := ((STl 903).getD ((x1 * (4 : Int32)) + l2).toNatClampNeg 0) = 11) (pc1 := 248) (pc2 := swf [(20, 255), (30, 268), (40, 280), (41, 293), (50, 306), (60, 319), (61, 343), (70, 356), (80, 369), (81, 393)] 406 ((STl 903).getD ((x1 * (4 : Int32)) + l2).toNatClampNeg 0)) h (fun h => ?_) (fun h => ?_)
              · refine WP.blk (pc' := 254) (L' := [vr 0 0, vn, vi l2, vi l3, vi l4, vi x1, vi ((STl 903).getD ((x1 * (4 : Int32)) + l2).toNatClampNeg 0), vi ((STl 902).getD x1.toNatClampNeg 0), vi (l4 + (1 : Int32))]) (st' := [vi (l3 ^^^ (I2 0 0 2))]) (h' := (101, (updI I2 0 0 5 ((I2 0 0 5) + (1 : Int32))), J3, R0 b)) 4 rfl ?_
                exact WP.ret rfl rfl h
              · refine WP.ite (c := ((STl 903).getD ((x1 * (4 : Int32)) + l2).toNatClampNeg 0) = 20) (pc1 := 255) (pc2 := swf [(30, 268), (40, 280), (41, 293), (50, 306), (60, 319), (61, 343), (70, 356), (80, 369), (81, 393)] 406 ((STl 903).getD ((x1 * (4 : Int32)) + l2).toNatClampNeg 0)) h (fun h => ?_) (fun h => ?_)
                · refine WP.blk (pc' := 262) (L' := [vr 0 0, vn, vi l2, vi l3, vi l4, vi x1, vi ((STl 903).getD ((x1 * (4 : Int32)) + l2).toNatClampNeg 0), vi ((STl 902).getD x1.toNatClampNeg 0), vi (l4 + (1 : Int32))]) (st' := [vi (l4 + (1 : Int32)), vi l3, vi l2, vi ((STl 902).getD x1.toNatClampNeg 0), vr 0 0]) (h' := (101, (updI I2 0 0 5 ((I2 0 0 5) + (1 : Int32))), J3, R0 b)) 5 rfl ?_
                  refine WP.cal (y' := 7) (as := [vr 0 0, vi ((STl 902).getD x1.toNatClampNeg 0), vi l2, vi l3, vi (l4 + (1 : Int32))]) (L' := [vr 0 0, vn, vi l2, vi l3, vi l4, vi x1, vi ((STl 903).getD ((x1 * (4 : Int32)) + l2).toNatClampNeg 0), vi ((STl 902).getD x1.toNatClampNeg 0), vi (l4 + (1 : Int32))]) (rest := []) rfl (fun f r h' hf => callV_ok hf rfl rfl rfl) h ?_
                  rintro _ _ ⟨x13, I14, J15, rfl, rfl, h⟩
                  refine WP.blk (pc' := 267) (L' := [vr 0 0, vn, vi l2, vi l3, vi l4, vi x1, vi ((STl 903).getD ((x1 * (4 : Int32)) + l2).toNatClampNeg 0), vi ((STl 902).getD x1.toNatClampNeg 0), vi (l4 + (1 : Int32))]) (st' := [vi (x13 + (3 : Int32))]) (h' := (101, I14, J15, R0 b)) 2 rfl ?_
                  exact WP.ret rfl rfl h
                · refine WP.ite (c := ((STl 903).getD ((x1 * (4 : Int32)) + l2).toNatClampNeg 0) = 30) (pc1 := 268) (pc2 := swf [(40, 280), (41, 293), (50, 306), (60, 319), (61, 343), (70, 356), (80, 369), (81, 393)] 406 ((STl 903).getD ((x1 * (4 : Int32)) + l2).toNatClampNeg 0)) h (fun h => ?_) (fun h => ?_)
                  · refine WP.blk (pc' := 275) (L' := [vr 0 0, vn, vi l2, vi l3, vi l4, vi x1, vi ((STl 903).getD ((x1 * (4 : Int32)) + l2).toNatClampNeg 0), vi ((STl 902).getD x1.toNatClampNeg 0), vi (l4 + (1 : Int32))]) (st' := [vi (l4 + (1 : Int32)), vi l3, vi l2, vi ((STl 902).getD x1.toNatClampNeg 0), vr 0 0]) (h' := (101, (updI I2 0 0 5 ((I2 0 0 5) + (1 : Int32))), J3, R0 b)) 5 rfl ?_
                    refine WP.cal (y' := 7) (as := [vr 0 0, vi ((STl 902).getD x1.toNatClampNeg 0), vi l2, vi l3, vi (l4 + (1 : Int32))]) (L' := [vr 0 0, vn, vi l2, vi l3, vi l4, vi x1, vi ((STl 903).getD ((x1 * (4 : Int32)) + l2).toNatClampNeg 0), vi ((STl 902).getD x1.toNatClampNeg 0), vi (l4 + (1 : Int32))]) (rest := []) rfl (fun f r h' hf => callV_ok hf rfl rfl rfl) h ?_
                    rintro _ _ ⟨x16, I17, J18, rfl, rfl, h⟩
                    refine WP.blk (pc' := 279) (L' := [vr 0 0, vn, vi l2, vi l3, vi l4, vi x1, vi ((STl 903).getD ((x1 * (4 : Int32)) + l2).toNatClampNeg 0), vi ((STl 902).getD x1.toNatClampNeg 0), vi (l4 + (1 : Int32))]) (st' := [vi (-x16)]) (h' := (101, I17, J18, R0 b)) 1 rfl ?_
                    exact WP.ret rfl rfl h
                  · refine WP.ite (c := ((STl 903).getD ((x1 * (4 : Int32)) + l2).toNatClampNeg 0) = 40) (pc1 := 280) (pc2 := swf [(41, 293), (50, 306), (60, 319), (61, 343), (70, 356), (80, 369), (81, 393)] 406 ((STl 903).getD ((x1 * (4 : Int32)) + l2).toNatClampNeg 0)) h (fun h => ?_) (fun h => ?_)
                    · refine WP.blk (pc' := 287) (L' := [vr 0 0, vn, vi l2, vi l3, vi l4, vi x1, vi ((STl 903).getD ((x1 * (4 : Int32)) + l2).toNatClampNeg 0), vi ((STl 902).getD x1.toNatClampNeg 0), vi (l4 + (1 : Int32))]) (st' := [vi (l4 + (1 : Int32)), vi l3, vi l2, vi ((STl 902).getD x1.toNatClampNeg 0), vr 0 0]) (h' := (101, (updI I2 0 0 5 ((I2 0 0 5) + (1 : Int32))), J3, R0 b)) 5 rfl ?_
                      refine WP.cal (y' := 7) (as := [vr 0 0, vi ((STl 902).getD x1.toNatClampNeg 0), vi l2, vi l3, vi (l4 + (1 : Int32))]) (L' := [vr 0 0, vn, vi l2, vi l3, vi l4, vi x1, vi ((STl 903).getD ((x1 * (4 : Int32)) + l2).toNatClampNeg 0), vi ((STl 902).getD x1.toNatClampNeg 0), vi (l4 + (1 : Int32))]) (rest := []) rfl (fun f r h' hf => callV_ok hf rfl rfl rfl) h ?_
                      rintro _ _ ⟨x19, I20, J21, rfl, rfl, h⟩
                      refine WP.blk (pc' := 292) (L' := [vr 0 0, vn, vi l2, vi l3, vi l4, vi x1, vi ((STl 903).getD ((x1 * (4 : Int32)) + l2).toNatClampNeg 0), vi ((STl 902).getD x1.toNatClampNeg 0), vi (l4 + (1 : Int32))]) (st' := [vi (x19 * (3 : Int32))]) (h' := (101, I20, J21, R0 b)) 2 rfl ?_
                      exact WP.ret rfl rfl h
                    · refine WP.ite (c := ((STl 903).getD ((x1 * (4 : Int32)) + l2).toNatClampNeg 0) = 41) (pc1 := 293) (pc2 := swf [(50, 306), (60, 319), (61, 343), (70, 356), (80, 369), (81, 393)] 406 ((STl 903).getD ((x1 * (4 : Int32)) + l2).toNatClampNeg 0)) h (fun h => ?_) (fun h => ?_)
                      · refine WP.blk (pc' := 302) (L' := [vr 0 0, vn, vi l2, vi l3, vi l4, vi x1, vi ((STl 903).getD ((x1 * (4 : Int32)) + l2).toNatClampNeg 0), vi ((STl 902).getD x1.toNatClampNeg 0), vi (l4 + (1 : Int32))]) (st' := [vi (l4 + (1 : Int32)), vi (l3 + (1 : Int32)), vi l2, vi ((STl 902).getD x1.toNatClampNeg 0), vr 0 0]) (h' := (101, (updI I2 0 0 5 ((I2 0 0 5) + (1 : Int32))), J3, R0 b)) 7 rfl ?_
                        refine WP.cal (y' := 7) (as := [vr 0 0, vi ((STl 902).getD x1.toNatClampNeg 0), vi l2, vi (l3 + (1 : Int32)), vi (l4 + (1 : Int32))]) (L' := [vr 0 0, vn, vi l2, vi l3, vi l4, vi x1, vi ((STl 903).getD ((x1 * (4 : Int32)) + l2).toNatClampNeg 0), vi ((STl 902).getD x1.toNatClampNeg 0), vi (l4 + (1 : Int32))]) (rest := []) rfl (fun f r h' hf => callV_ok hf rfl rfl rfl) h ?_
                        rintro _ _ ⟨x22, I23, J24, rfl, rfl, h⟩
                        exact WP.ret rfl rfl h
                      · refine WP.ite (c := ((STl 903).getD ((x1 * (4 : Int32)) + l2).toNatClampNeg 0) = 50) (pc1 := 306) (pc2 := swf [(60, 319), (61, 343), (70, 356), (80, 369), (81, 393)] 406 ((STl 903).getD ((x1 * (4 : Int32)) + l2).toNatClampNeg 0)) h (fun h => ?_) (fun h => ?_)
                        · refine WP.blk (pc' := 313) (L' := [vr 0 0, vn, vi l2, vi l3, vi l4, vi x1, vi ((STl 903).getD ((x1 * (4 : Int32)) + l2).toNatClampNeg 0), vi ((STl 902).getD x1.toNatClampNeg 0), vi (l4 + (1 : Int32))]) (st' := [vi (l4 + (1 : Int32)), vi l3, vi l2, vi ((STl 902).getD x1.toNatClampNeg 0), vr 0 0]) (h' := (101, (updI I2 0 0 5 ((I2 0 0 5) + (1 : Int32))), J3, R0 b)) 5 rfl ?_
                          refine WP.cal (y' := 7) (as := [vr 0 0, vi ((STl 902).getD x1.toNatClampNeg 0), vi l2, vi l3, vi (l4 + (1 : Int32))]) (L' := [vr 0 0, vn, vi l2, vi l3, vi l4, vi x1, vi ((STl 903).getD ((x1 * (4 : Int32)) + l2).toNatClampNeg 0), vi ((STl 902).getD x1.toNatClampNeg 0), vi (l4 + (1 : Int32))]) (rest := []) rfl (fun f r h' hf => callV_ok hf rfl rfl rfl) h ?_
                          rintro _ _ ⟨x25, I26, J27, rfl, rfl, h⟩
                          refine WP.blk (pc' := 318) (L' := [vr 0 0, vn, vi l2, vi l3, vi l4, vi x1, vi ((STl 903).getD ((x1 * (4 : Int32)) + l2).toNatClampNeg 0), vi ((STl 902).getD x1.toNatClampNeg 0), vi (l4 + (1 : Int32))]) (st' := [vi (x25 ^^^ (5 : Int32))]) (h' := (101, I26, J27, R0 b)) 2 rfl ?_
                          exact WP.ret rfl rfl h
                        · refine WP.ite (c := ((STl 903).getD ((x1 * (4 : Int32)) + l2).toNatClampNeg 0) = 60) (pc1 := 319) (pc2 := swf [(61, 343), (70, 356), (80, 369), (81, 393)] 406 ((STl 903).getD ((x1 * (4 : Int32)) + l2).toNatClampNeg 0)) h (fun h => ?_) (fun h => ?_)
                          · refine WP.blk (pc' := 326) (L' := [vr 0 0, vn, vi l2, vi l3, vi l4, vi x1, vi ((STl 903).getD ((x1 * (4 : Int32)) + l2).toNatClampNeg 0), vi ((STl 902).getD x1.toNatClampNeg 0), vi (l4 + (1 : Int32))]) (st' := [vi (l4 + (1 : Int32)), vi l3, vi l2, vi ((STl 902).getD x1.toNatClampNeg 0), vr 0 0]) (h' := (101, (updI I2 0 0 5 ((I2 0 0 5) + (1 : Int32))), J3, R0 b)) 5 rfl ?_
                            refine WP.cal (y' := 7) (as := [vr 0 0, vi ((STl 902).getD x1.toNatClampNeg 0), vi l2, vi l3, vi (l4 + (1 : Int32))]) (L' := [vr 0 0, vn, vi l2, vi l3, vi l4, vi x1, vi ((STl 903).getD ((x1 * (4 : Int32)) + l2).toNatClampNeg 0), vi ((STl 902).getD x1.toNatClampNeg 0), vi (l4 + (1 : Int32))]) (rest := []) rfl (fun f r h' hf => callV_ok hf rfl rfl rfl) h ?_
                            rintro _ _ ⟨x28, I29, J30, rfl, rfl, h⟩
                            refine WP.blk (pc' := 338) (L' := [vr 0 0, vn, vi l2, vi l3, vi l4, vi x1, vi ((STl 903).getD ((x1 * (4 : Int32)) + l2).toNatClampNeg 0), vi ((STl 902).getD x1.toNatClampNeg 0), vi (l4 + (1 : Int32))]) (st' := [vi (l4 + (1 : Int32)), vi 2, vi 0, vi (I29 0 0 3), vr 0 0, vi x28]) (h' := (101, I29, J30, R0 b)) 6 rfl ?_
                            refine WP.cal (y' := 7) (as := [vr 0 0, vi (I29 0 0 3), vi 0, vi 2, vi (l4 + (1 : Int32))]) (L' := [vr 0 0, vn, vi l2, vi l3, vi l4, vi x1, vi ((STl 903).getD ((x1 * (4 : Int32)) + l2).toNatClampNeg 0), vi ((STl 902).getD x1.toNatClampNeg 0), vi (l4 + (1 : Int32))]) (rest := [vi x28]) rfl (fun f r h' hf => callV_ok hf rfl rfl rfl) h ?_
                            rintro _ _ ⟨x31, I32, J33, rfl, rfl, h⟩
                            refine WP.blk (pc' := 342) (L' := [vr 0 0, vn, vi l2, vi l3, vi l4, vi x1, vi ((STl 903).getD ((x1 * (4 : Int32)) + l2).toNatClampNeg 0), vi ((STl 902).getD x1.toNatClampNeg 0), vi (l4 + (1 : Int32))]) (st' := [vi (x28 - x31)]) (h' := (101, I32, J33, R0 b)) 1 rfl ?_
                            exact WP.ret rfl rfl h
                          · refine WP.ite (c := ((STl 903).getD ((x1 * (4 : Int32)) + l2).toNatClampNeg 0) = 61) (pc1 := 343) (pc2 := swf [(70, 356), (80, 369), (81, 393)] 406 ((STl 903).getD ((x1 * (4 : Int32)) + l2).toNatClampNeg 0)) h (fun h => ?_) (fun h => ?_)
                            · refine WP.blk (pc' := 350) (L' := [vr 0 0, vn, vi l2, vi l3, vi l4, vi x1, vi ((STl 903).getD ((x1 * (4 : Int32)) + l2).toNatClampNeg 0), vi ((STl 902).getD x1.toNatClampNeg 0), vi (l4 + (1 : Int32))]) (st' := [vi (l4 + (1 : Int32)), vi l3, vi l2, vi ((STl 902).getD x1.toNatClampNeg 0), vr 0 0]) (h' := (101, (updI I2 0 0 5 ((I2 0 0 5) + (1 : Int32))), J3, R0 b)) 5 rfl ?_
                              refine WP.cal (y' := 7) (as := [vr 0 0, vi ((STl 902).getD x1.toNatClampNeg 0), vi l2, vi l3, vi (l4 + (1 : Int32))]) (L' := [vr 0 0, vn, vi l2, vi l3, vi l4, vi x1, vi ((STl 903).getD ((x1 * (4 : Int32)) + l2).toNatClampNeg 0), vi ((STl 902).getD x1.toNatClampNeg 0), vi (l4 + (1 : Int32))]) (rest := []) rfl (fun f r h' hf => callV_ok hf rfl rfl rfl) h ?_
                              rintro _ _ ⟨x34, I35, J36, rfl, rfl, h⟩
                              refine WP.blk (pc' := 355) (L' := [vr 0 0, vn, vi l2, vi l3, vi l4, vi x1, vi ((STl 903).getD ((x1 * (4 : Int32)) + l2).toNatClampNeg 0), vi ((STl 902).getD x1.toNatClampNeg 0), vi (l4 + (1 : Int32))]) (st' := [vi (x34 + (1 : Int32))]) (h' := (101, I35, J36, R0 b)) 2 rfl ?_
                              exact WP.ret rfl rfl h
                            · refine WP.ite (c := ((STl 903).getD ((x1 * (4 : Int32)) + l2).toNatClampNeg 0) = 70) (pc1 := 356) (pc2 := swf [(80, 369), (81, 393)] 406 ((STl 903).getD ((x1 * (4 : Int32)) + l2).toNatClampNeg 0)) h (fun h => ?_) (fun h => ?_)
                              · refine WP.blk (pc' := 363) (L' := [vr 0 0, vn, vi l2, vi l3, vi l4, vi x1, vi ((STl 903).getD ((x1 * (4 : Int32)) + l2).toNatClampNeg 0), vi ((STl 902).getD x1.toNatClampNeg 0), vi (l4 + (1 : Int32))]) (st' := [vi (l4 + (1 : Int32)), vi l3, vi l2, vi ((STl 902).getD x1.toNatClampNeg 0), vr 0 0]) (h' := (101, (updI I2 0 0 5 ((I2 0 0 5) + (1 : Int32))), J3, R0 b)) 5 rfl ?_
                                refine WP.cal (y' := 7) (as := [vr 0 0, vi ((STl 902).getD x1.toNatClampNeg 0), vi l2, vi l3, vi (l4 + (1 : Int32))]) (L' := [vr 0 0, vn, vi l2, vi l3, vi l4, vi x1, vi ((STl 903).getD ((x1 * (4 : Int32)) + l2).toNatClampNeg 0), vi ((STl 902).getD x1.toNatClampNeg 0), vi (l4 + (1 : Int32))]) (rest := []) rfl (fun f r h' hf => callV_ok hf rfl rfl rfl) h ?_
                                rintro _ _ ⟨x37, I38, J39, rfl, rfl, h⟩
                                refine WP.blk (pc' := 368) (L' := [vr 0 0, vn, vi l2, vi l3, vi l4, vi x1, vi ((STl 903).getD ((x1 * (4 : Int32)) + l2).toNatClampNeg 0), vi ((STl 902).getD x1.toNatClampNeg 0), vi (l4 + (1 : Int32))]) (st' := [vi (x37 * (2 : Int32))]) (h' := (101, I38, J39, R0 b)) 2 rfl ?_
                                exact WP.ret rfl rfl h
                              · refine WP.ite (c := ((STl 903).getD ((x1 * (4 : Int32)) + l2).toNatClampNeg 0) = 80) (pc1 := 369) (pc2 := swf [(81, 393)] 406 ((STl 903).getD ((x1 * (4 : Int32)) + l2).toNatClampNeg 0)) h (fun h => ?_) (fun h => ?_)
                                · refine WP.blk (pc' := 376) (L' := [vr 0 0, vn, vi l2, vi l3, vi l4, vi x1, vi ((STl 903).getD ((x1 * (4 : Int32)) + l2).toNatClampNeg 0), vi ((STl 902).getD x1.toNatClampNeg 0), vi (l4 + (1 : Int32))]) (st' := [vi (l4 + (1 : Int32)), vi l3, vi l2, vi ((STl 902).getD x1.toNatClampNeg 0), vr 0 0]) (h' := (101, (updI I2 0 0 5 ((I2 0 0 5) + (1 : Int32))), J3, R0 b)) 5 rfl ?_
                                  refine WP.cal (y' := 7) (as := [vr 0 0, vi ((STl 902).getD x1.toNatClampNeg 0), vi l2, vi l3, vi (l4 + (1 : Int32))]) (L' := [vr 0 0, vn, vi l2, vi l3, vi l4, vi x1, vi ((STl 903).getD ((x1 * (4 : Int32)) + l2).toNatClampNeg 0), vi ((STl 902).getD x1.toNatClampNeg 0), vi (l4 + (1 : Int32))]) (rest := []) rfl (fun f r h' hf => callV_ok hf rfl rfl rfl) h ?_
                                  rintro _ _ ⟨x40, I41, J42, rfl, rfl, h⟩
                                  refine WP.blk (pc' := 388) (L' := [vr 0 0, vn, vi l2, vi l3, vi l4, vi x1, vi ((STl 903).getD ((x1 * (4 : Int32)) + l2).toNatClampNeg 0), vi ((STl 902).getD x1.toNatClampNeg 0), vi (l4 + (1 : Int32))]) (st' := [vi (l4 + (1 : Int32)), vi 2, vi 2, vi (I41 0 0 3), vr 0 0, vi x40]) (h' := (101, I41, J42, R0 b)) 6 rfl ?_
                                  refine WP.cal (y' := 7) (as := [vr 0 0, vi (I41 0 0 3), vi 2, vi 2, vi (l4 + (1 : Int32))]) (L' := [vr 0 0, vn, vi l2, vi l3, vi l4, vi x1, vi ((STl 903).getD ((x1 * (4 : Int32)) + l2).toNatClampNeg 0), vi ((STl 902).getD x1.toNatClampNeg 0), vi (l4 + (1 : Int32))]) (rest := [vi x40]) rfl (fun f r h' hf => callV_ok hf rfl rfl rfl) h ?_
                                  rintro _ _ ⟨x43, I44, J45, rfl, rfl, h⟩
                                  refine WP.blk (pc' := 392) (L' := [vr 0 0, vn, vi l2, vi l3, vi l4, vi x1, vi ((STl 903).getD ((x1 * (4 : Int32)) + l2).toNatClampNeg 0), vi ((STl 902).getD x1.toNatClampNeg 0), vi (l4 + (1 : Int32))]) (st' := [vi (x40 + x43)]) (h' := (101, I44, J45, R0 b)) 1 rfl ?_
                                  exact WP.ret rfl rfl h
                                · refine WP.ite (c := ((STl 903).getD ((x1 * (4 : Int32)) + l2).toNatClampNeg 0) = 81) (pc1 := 393) (pc2 := swf [] 406 ((STl 903).getD ((x1 * (4 : Int32)) + l2).toNatClampNeg 0)) h (fun h => ?_) (fun h => ?_)
                                  · refine WP.blk (pc' := 400) (L' := [vr 0 0, vn, vi l2, vi l3, vi l4, vi x1, vi ((STl 903).getD ((x1 * (4 : Int32)) + l2).toNatClampNeg 0), vi ((STl 902).getD x1.toNatClampNeg 0), vi (l4 + (1 : Int32))]) (st' := [vi (l4 + (1 : Int32)), vi l3, vi l2, vi ((STl 902).getD x1.toNatClampNeg 0), vr 0 0]) (h' := (101, (updI I2 0 0 5 ((I2 0 0 5) + (1 : Int32))), J3, R0 b)) 5 rfl ?_
                                    refine WP.cal (y' := 7) (as := [vr 0 0, vi ((STl 902).getD x1.toNatClampNeg 0), vi l2, vi l3, vi (l4 + (1 : Int32))]) (L' := [vr 0 0, vn, vi l2, vi l3, vi l4, vi x1, vi ((STl 903).getD ((x1 * (4 : Int32)) + l2).toNatClampNeg 0), vi ((STl 902).getD x1.toNatClampNeg 0), vi (l4 + (1 : Int32))]) (rest := []) rfl (fun f r h' hf => callV_ok hf rfl rfl rfl) h ?_
                                    rintro _ _ ⟨x46, I47, J48, rfl, rfl, h⟩
                                    refine WP.blk (pc' := 405) (L' := [vr 0 0, vn, vi l2, vi l3, vi l4, vi x1, vi ((STl 903).getD ((x1 * (4 : Int32)) + l2).toNatClampNeg 0), vi ((STl 902).getD x1.toNatClampNeg 0), vi (l4 + (1 : Int32))]) (st' := [vi (x46 - (1 : Int32))]) (h' := (101, I47, J48, R0 b)) 2 rfl ?_
                                    exact WP.ret rfl rfl h
                                  · show WP D 7 406 [vr 0 0, vn, vi l2, vi l3, vi l4, vi x1, vi ((STl 903).getD ((x1 * (4 : Int32)) + l2).toNatClampNeg 0), vi ((STl 902).getD x1.toNatClampNeg 0), vi (l4 + (1 : Int32))] [] (101, (updI I2 0 0 5 ((I2 0 0 5) + (1 : Int32))), J3, R0 b) Q
                                    refine WP.blk (pc' := 407) (L' := [vr 0 0, vn, vi l2, vi l3, vi l4, vi x1, vi ((STl 903).getD ((x1 * (4 : Int32)) + l2).toNatClampNeg 0), vi ((STl 902).getD x1.toNatClampNeg 0), vi (l4 + (1 : Int32))]) (st' := [vi 0]) (h' := (101, (updI I2 0 0 5 ((I2 0 0 5) + (1 : Int32))), J3, R0 b)) 1 rfl ?_
                                    exact WP.ret rfl rfl h
      · refine WP.blk (pc' := 52) (L' := [vr 0 0, vi l1, vi l2, vi l3, vi l4, vi x1, vi ((STl 903).getD ((x1 * (4 : Int32)) + l2).toNatClampNeg 0), vn, vn]) (st' := [vi ((STl 903).getD ((x1 * (4 : Int32)) + l2).toNatClampNeg 0), vi (I2 0 0 5), vr 39 0]) (h' := (101, I2, J3, R0 b)) 5 rfl ?_
        refine WP.step (pc' := 53) (L' := [vr 0 0, vi l1, vi l2, vi l3, vi l4, vi x1, vi ((STl 903).getD ((x1 * (4 : Int32)) + l2).toNatClampNeg 0), vn, vn]) (st' := []) (h' := (101, (updI I2 39 0 (I2 0 0 5).toNatClampNeg ((STl 903).getD ((x1 * (4 : Int32)) + l2).toNatClampNeg 0)), J3, R0 b)) rfl (iastore_ok (n := 24) rfl rfl rfl (inA_of h.1)) ?_
        have h := And.right h
        refine WP.blk (pc' := 68) (L' := [vr 0 0, vn, vi l2, vi l3, vi l4, vi x1, vi ((STl 903).getD ((x1 * (4 : Int32)) + l2).toNatClampNeg 0), vn, vn]) (st' := [vi x1, vr 902 0]) (h' := (101, (updI (updI I2 39 0 (I2 0 0 5).toNatClampNeg ((STl 903).getD ((x1 * (4 : Int32)) + l2).toNatClampNeg 0)) 0 0 5 ((I2 0 0 5) + (1 : Int32))), J3, R0 b)) 8 rfl ?_
        refine WP.step (pc' := 69) (L' := [vr 0 0, vn, vi l2, vi l3, vi l4, vi x1, vi ((STl 903).getD ((x1 * (4 : Int32)) + l2).toNatClampNeg 0), vn, vn]) (st' := [vi ((STl 902).getD x1.toNatClampNeg 0)]) (h' := (101, (updI (updI I2 39 0 (I2 0 0 5).toNatClampNeg ((STl 903).getD ((x1 * (4 : Int32)) + l2).toNatClampNeg 0)) 0 0 5 ((I2 0 0 5) + (1 : Int32))), J3, R0 b)) rfl (iaload_ok (n := 8) rfl rfl rfl (inA_of h.1)) ?_
        have h := And.right h
        refine WP.blk (pc' := 79) (L' := [vr 0 0, vn, vi l2, vi l3, vi l4, vi x1, vi ((STl 903).getD ((x1 * (4 : Int32)) + l2).toNatClampNeg 0), vi ((STl 902).getD x1.toNatClampNeg 0), vi (l4 + (1 : Int32))]) (st' := [vi ((STl 903).getD ((x1 * (4 : Int32)) + l2).toNatClampNeg 0)]) (h' := (101, (updI (updI I2 39 0 (I2 0 0 5).toNatClampNeg ((STl 903).getD ((x1 * (4 : Int32)) + l2).toNatClampNeg 0)) 0 0 5 ((I2 0 0 5) + (1 : Int32))), J3, R0 b)) 6 rfl ?_
        refine WP.step (pc' := swf [(1, 200), (2, 207), (10, 233), (11, 248), (20, 255), (30, 268), (40, 280), (41, 293), (50, 306), (60, 319), (61, 343), (70, 356), (80, 369), (81, 393)] 406 ((STl 903).getD ((x1 * (4 : Int32)) + l2).toNatClampNeg 0)) (L' := [vr 0 0, vn, vi l2, vi l3, vi l4, vi x1, vi ((STl 903).getD ((x1 * (4 : Int32)) + l2).toNatClampNeg 0), vi ((STl 902).getD x1.toNatClampNeg 0), vi (l4 + (1 : Int32))]) (st' := []) (h' := (101, (updI (updI I2 39 0 (I2 0 0 5).toNatClampNeg ((STl 903).getD ((x1 * (4 : Int32)) + l2).toNatClampNeg 0)) 0 0 5 ((I2 0 0 5) + (1 : Int32))), J3, R0 b)) rfl rfl ?_
        refine WP.ite (c := ((STl 903).getD ((x1 * (4 : Int32)) + l2).toNatClampNeg 0) = 1) (pc1 := 200) (pc2 := swf [(2, 207), (10, 233), (11, 248), (20, 255), (30, 268), (40, 280), (41, 293), (50, 306), (60, 319), (61, 343), (70, 356), (80, 369), (81, 393)] 406 ((STl 903).getD ((x1 * (4 : Int32)) + l2).toNatClampNeg 0)) h (fun h => ?_) (fun h => ?_)
        · refine WP.blk (pc' := 206) (L' := [vr 0 0, vn, vi l2, vi l3, vi l4, vi x1, vi ((STl 903).getD ((x1 * (4 : Int32)) + l2).toNatClampNeg 0), vi ((STl 902).getD x1.toNatClampNeg 0), vi (l4 + (1 : Int32))]) (st' := [vi (l3 + (I2 0 0 2))]) (h' := (101, (updI (updI I2 39 0 (I2 0 0 5).toNatClampNeg ((STl 903).getD ((x1 * (4 : Int32)) + l2).toNatClampNeg 0)) 0 0 5 ((I2 0 0 5) + (1 : Int32))), J3, R0 b)) 4 rfl ?_
          exact WP.ret rfl rfl h
        · refine WP.ite (c := ((STl 903).getD ((x1 * (4 : Int32)) + l2).toNatClampNeg 0) = 2) (pc1 := 207) (pc2 := swf [(10, 233), (11, 248), (20, 255), (30, 268), (40, 280), (41, 293), (50, 306), (60, 319), (61, 343), (70, 356), (80, 369), (81, 393)] 406 ((STl 903).getD ((x1 * (4 : Int32)) + l2).toNatClampNeg 0)) h (fun h => ?_) (fun h => ?_)
          · refine WP.blk (pc' := 216) (L' := [vr 0 0, vn, vi l2, vi l3, vi l4, vi x1, vi ((STl 903).getD ((x1 * (4 : Int32)) + l2).toNatClampNeg 0), vi ((STl 902).getD x1.toNatClampNeg 0), vi (l4 + (1 : Int32))]) (st' := [vi (l4 + (1 : Int32)), vi l3, vi 1, vi (I2 0 0 3), vr 0 0]) (h' := (101, (updI (updI I2 39 0 (I2 0 0 5).toNatClampNeg ((STl 903).getD ((x1 * (4 : Int32)) + l2).toNatClampNeg 0)) 0 0 5 ((I2 0 0 5) + (1 : Int32))), J3, R0 b)) 6 rfl ?_
            refine WP.cal (y' := 7) (as := [vr 0 0, vi (I2 0 0 3), vi 1, vi l3, vi (l4 + (1 : Int32))]) (L' := [vr 0 0, vn, vi l2, vi l3, vi l4, vi x1, vi ((STl 903).getD ((x1 * (4 : Int32)) + l2).toNatClampNeg 0), vi ((STl 902).getD x1.toNatClampNeg 0), vi (l4 + (1 : Int32))]) (rest := []) rfl (fun f r h' hf => callV_ok hf rfl rfl rfl) h ?_
            rintro _ _ ⟨x49, I50, J51, rfl, rfl, h⟩
            refine WP.blk (pc' := 228) (L' := [vr 0 0, vn, vi l2, vi l3, vi l4, vi x1, vi ((STl 903).getD ((x1 * (4 : Int32)) + l2).toNatClampNeg 0), vi ((STl 902).getD x1.toNatClampNeg 0), vi (l4 + (1 : Int32))]) (st' := [vi (l4 + (1 : Int32)), vi 1, vi 2, vi (I50 0 0 3), vr 0 0, vi x49]) (h' := (101, I50, J51, R0 b)) 6 rfl ?_
            refine WP.cal (y' := 7) (as := [vr 0 0, vi (I50 0 0 3), vi 2, vi 1, vi (l4 + (1 : Int32))]) (L' := [vr 0 0, vn, vi l2, vi l3, vi l4, vi x1, vi ((STl 903).getD ((x1 * (4 : Int32)) + l2).toNatClampNeg 0), vi ((STl 902).getD x1.toNatClampNeg 0), vi (l4 + (1 : Int32))]) (rest := [vi x49]) rfl (fun f r h' hf => callV_ok hf rfl rfl rfl) h ?_
            rintro _ _ ⟨x52, I53, J54, rfl, rfl, h⟩
            refine WP.blk (pc' := 232) (L' := [vr 0 0, vn, vi l2, vi l3, vi l4, vi x1, vi ((STl 903).getD ((x1 * (4 : Int32)) + l2).toNatClampNeg 0), vi ((STl 902).getD x1.toNatClampNeg 0), vi (l4 + (1 : Int32))]) (st' := [vi (x49 - x52)]) (h' := (101, I53, J54, R0 b)) 1 rfl ?_
            exact WP.ret rfl rfl h
          · refine WP.ite (c := ((STl 903).getD ((x1 * (4 : Int32)) + l2).toNatClampNeg 0) = 10) (pc1 := 233) (pc2 := swf [(11, 248), (20, 255), (30, 268), (40, 280), (41, 293), (50, 306), (60, 319), (61, 343), (70, 356), (80, 369), (81, 393)] 406 ((STl 903).getD ((x1 * (4 : Int32)) + l2).toNatClampNeg 0)) h (fun h => ?_) (fun h => ?_)
            · refine WP.blk (pc' := 242) (L' := [vr 0 0, vn, vi l2, vi l3, vi l4, vi x1, vi ((STl 903).getD ((x1 * (4 : Int32)) + l2).toNatClampNeg 0), vi ((STl 902).getD x1.toNatClampNeg 0), vi (l4 + (1 : Int32))]) (st' := [vi (l4 + (1 : Int32)), vi l3, vi 0, vi (I2 0 0 3), vr 0 0]) (h' := (101, (updI (updI I2 39 0 (I2 0 0 5).toNatClampNeg ((STl 903).getD ((x1 * (4 : Int32)) + l2).toNatClampNeg 0)) 0 0 5 ((I2 0 0 5) + (1 : Int32))), J3, R0 b)) 6 rfl ?_
              refine WP.cal (y' := 7) (as := [vr 0 0, vi (I2 0 0 3), vi 0, vi l3, vi (l4 + (1 : Int32))]) (L' := [vr 0 0, vn, vi l2, vi l3, vi l4, vi x1, vi ((STl 903).getD ((x1 * (4 : Int32)) + l2).toNatClampNeg 0), vi ((STl 902).getD x1.toNatClampNeg 0), vi (l4 + (1 : Int32))]) (rest := []) rfl (fun f r h' hf => callV_ok hf rfl rfl rfl) h ?_
              rintro _ _ ⟨x55, I56, J57, rfl, rfl, h⟩
              refine WP.blk (pc' := 247) (L' := [vr 0 0, vn, vi l2, vi l3, vi l4, vi x1, vi ((STl 903).getD ((x1 * (4 : Int32)) + l2).toNatClampNeg 0), vi ((STl 902).getD x1.toNatClampNeg 0), vi (l4 + (1 : Int32))]) (st' := [vi (x55 * (2 : Int32))]) (h' := (101, I56, J57, R0 b)) 2 rfl ?_
              exact WP.ret rfl rfl h
            · refine WP.ite (c := ((STl 903).getD ((x1 * (4 : Int32)) + l2).toNatClampNeg 0) = 11) (pc1 := 248) (pc2 := swf [(20, 255), (30, 268), (40, 280), (41, 293), (50, 306), (60, 319), (61, 343), (70, 356), (80, 369), (81, 393)] 406 ((STl 903).getD ((x1 * (4 : Int32)) + l2).toNatClampNeg 0)) h (fun h => ?_) (fun h => ?_)
              · refine WP.blk (pc' := 254) (L' := [vr 0 0, vn, vi l2, vi l3, vi l4, vi x1, vi ((STl 903).getD ((x1 * (4 : Int32)) + l2).toNatClampNeg 0), vi ((STl 902).getD x1.toNatClampNeg 0), vi (l4 + (1 : Int32))]) (st' := [vi (l3 ^^^ (I2 0 0 2))]) (h' := (101, (updI (updI I2 39 0 (I2 0 0 5).toNatClampNeg ((STl 903).getD ((x1 * (4 : Int32)) + l2).toNatClampNeg 0)) 0 0 5 ((I2 0 0 5) + (1 : Int32))), J3, R0 b)) 4 rfl ?_
                exact WP.ret rfl rfl h
              · refine WP.ite (c := ((STl 903).getD ((x1 * (4 : Int32)) + l2).toNatClampNeg 0) = 20) (pc1 := 255) (pc2 := swf [(30, 268), (40, 280), (41, 293), (50, 306), (60, 319), (61, 343), (70, 356), (80, 369), (81, 393)] 406 ((STl 903).getD ((x1 * (4 : Int32)) + l2).toNatClampNeg 0)) h (fun h => ?_) (fun h => ?_)
                · refine WP.blk (pc' := 262) (L' := [vr 0 0, vn, vi l2, vi l3, vi l4, vi x1, vi ((STl 903).getD ((x1 * (4 : Int32)) + l2).toNatClampNeg 0), vi ((STl 902).getD x1.toNatClampNeg 0), vi (l4 + (1 : Int32))]) (st' := [vi (l4 + (1 : Int32)), vi l3, vi l2, vi ((STl 902).getD x1.toNatClampNeg 0), vr 0 0]) (h' := (101, (updI (updI I2 39 0 (I2 0 0 5).toNatClampNeg ((STl 903).getD ((x1 * (4 : Int32)) + l2).toNatClampNeg 0)) 0 0 5 ((I2 0 0 5) + (1 : Int32))), J3, R0 b)) 5 rfl ?_
                  refine WP.cal (y' := 7) (as := [vr 0 0, vi ((STl 902).getD x1.toNatClampNeg 0), vi l2, vi l3, vi (l4 + (1 : Int32))]) (L' := [vr 0 0, vn, vi l2, vi l3, vi l4, vi x1, vi ((STl 903).getD ((x1 * (4 : Int32)) + l2).toNatClampNeg 0), vi ((STl 902).getD x1.toNatClampNeg 0), vi (l4 + (1 : Int32))]) (rest := []) rfl (fun f r h' hf => callV_ok hf rfl rfl rfl) h ?_
                  rintro _ _ ⟨x58, I59, J60, rfl, rfl, h⟩
                  refine WP.blk (pc' := 267) (L' := [vr 0 0, vn, vi l2, vi l3, vi l4, vi x1, vi ((STl 903).getD ((x1 * (4 : Int32)) + l2).toNatClampNeg 0), vi ((STl 902).getD x1.toNatClampNeg 0), vi (l4 + (1 : Int32))]) (st' := [vi (x58 + (3 : Int32))]) (h' := (101, I59, J60, R0 b)) 2 rfl ?_
                  exact WP.ret rfl rfl h
                · refine WP.ite (c := ((STl 903).getD ((x1 * (4 : Int32)) + l2).toNatClampNeg 0) = 30) (pc1 := 268) (pc2 := swf [(40, 280), (41, 293), (50, 306), (60, 319), (61, 343), (70, 356), (80, 369), (81, 393)] 406 ((STl 903).getD ((x1 * (4 : Int32)) + l2).toNatClampNeg 0)) h (fun h => ?_) (fun h => ?_)
                  · refine WP.blk (pc' := 275) (L' := [vr 0 0, vn, vi l2, vi l3, vi l4, vi x1, vi ((STl 903).getD ((x1 * (4 : Int32)) + l2).toNatClampNeg 0), vi ((STl 902).getD x1.toNatClampNeg 0), vi (l4 + (1 : Int32))]) (st' := [vi (l4 + (1 : Int32)), vi l3, vi l2, vi ((STl 902).getD x1.toNatClampNeg 0), vr 0 0]) (h' := (101, (updI (updI I2 39 0 (I2 0 0 5).toNatClampNeg ((STl 903).getD ((x1 * (4 : Int32)) + l2).toNatClampNeg 0)) 0 0 5 ((I2 0 0 5) + (1 : Int32))), J3, R0 b)) 5 rfl ?_
                    refine WP.cal (y' := 7) (as := [vr 0 0, vi ((STl 902).getD x1.toNatClampNeg 0), vi l2, vi l3, vi (l4 + (1 : Int32))]) (L' := [vr 0 0, vn, vi l2, vi l3, vi l4, vi x1, vi ((STl 903).getD ((x1 * (4 : Int32)) + l2).toNatClampNeg 0), vi ((STl 902).getD x1.toNatClampNeg 0), vi (l4 + (1 : Int32))]) (rest := []) rfl (fun f r h' hf => callV_ok hf rfl rfl rfl) h ?_
                    rintro _ _ ⟨x61, I62, J63, rfl, rfl, h⟩
                    refine WP.blk (pc' := 279) (L' := [vr 0 0, vn, vi l2, vi l3, vi l4, vi x1, vi ((STl 903).getD ((x1 * (4 : Int32)) + l2).toNatClampNeg 0), vi ((STl 902).getD x1.toNatClampNeg 0), vi (l4 + (1 : Int32))]) (st' := [vi (-x61)]) (h' := (101, I62, J63, R0 b)) 1 rfl ?_
                    exact WP.ret rfl rfl h
                  · refine WP.ite (c := ((STl 903).getD ((x1 * (4 : Int32)) + l2).toNatClampNeg 0) = 40) (pc1 := 280) (pc2 := swf [(41, 293), (50, 306), (60, 319), (61, 343), (70, 356), (80, 369), (81, 393)] 406 ((STl 903).getD ((x1 * (4 : Int32)) + l2).toNatClampNeg 0)) h (fun h => ?_) (fun h => ?_)
                    · refine WP.blk (pc' := 287) (L' := [vr 0 0, vn, vi l2, vi l3, vi l4, vi x1, vi ((STl 903).getD ((x1 * (4 : Int32)) + l2).toNatClampNeg 0), vi ((STl 902).getD x1.toNatClampNeg 0), vi (l4 + (1 : Int32))]) (st' := [vi (l4 + (1 : Int32)), vi l3, vi l2, vi ((STl 902).getD x1.toNatClampNeg 0), vr 0 0]) (h' := (101, (updI (updI I2 39 0 (I2 0 0 5).toNatClampNeg ((STl 903).getD ((x1 * (4 : Int32)) + l2).toNatClampNeg 0)) 0 0 5 ((I2 0 0 5) + (1 : Int32))), J3, R0 b)) 5 rfl ?_
                      refine WP.cal (y' := 7) (as := [vr 0 0, vi ((STl 902).getD x1.toNatClampNeg 0), vi l2, vi l3, vi (l4 + (1 : Int32))]) (L' := [vr 0 0, vn, vi l2, vi l3, vi l4, vi x1, vi ((STl 903).getD ((x1 * (4 : Int32)) + l2).toNatClampNeg 0), vi ((STl 902).getD x1.toNatClampNeg 0), vi (l4 + (1 : Int32))]) (rest := []) rfl (fun f r h' hf => callV_ok hf rfl rfl rfl) h ?_
                      rintro _ _ ⟨x64, I65, J66, rfl, rfl, h⟩
                      refine WP.blk (pc' := 292) (L' := [vr 0 0, vn, vi l2, vi l3, vi l4, vi x1, vi ((STl 903).getD ((x1 * (4 : Int32)) + l2).toNatClampNeg 0), vi ((STl 902).getD x1.toNatClampNeg 0), vi (l4 + (1 : Int32))]) (st' := [vi (x64 * (3 : Int32))]) (h' := (101, I65, J66, R0 b)) 2 rfl ?_
                      exact WP.ret rfl rfl h
                    · refine WP.ite (c := ((STl 903).getD ((x1 * (4 : Int32)) + l2).toNatClampNeg 0) = 41) (pc1 := 293) (pc2 := swf [(50, 306), (60, 319), (61, 343), (70, 356), (80, 369), (81, 393)] 406 ((STl 903).getD ((x1 * (4 : Int32)) + l2).toNatClampNeg 0)) h (fun h => ?_) (fun h => ?_)
                      · refine WP.blk (pc' := 302) (L' := [vr 0 0, vn, vi l2, vi l3, vi l4, vi x1, vi ((STl 903).getD ((x1 * (4 : Int32)) + l2).toNatClampNeg 0), vi ((STl 902).getD x1.toNatClampNeg 0), vi (l4 + (1 : Int32))]) (st' := [vi (l4 + (1 : Int32)), vi (l3 + (1 : Int32)), vi l2, vi ((STl 902).getD x1.toNatClampNeg 0), vr 0 0]) (h' := (101, (updI (updI I2 39 0 (I2 0 0 5).toNatClampNeg ((STl 903).getD ((x1 * (4 : Int32)) + l2).toNatClampNeg 0)) 0 0 5 ((I2 0 0 5) + (1 : Int32))), J3, R0 b)) 7 rfl ?_
                        refine WP.cal (y' := 7) (as := [vr 0 0, vi ((STl 902).getD x1.toNatClampNeg 0), vi l2, vi (l3 + (1 : Int32)), vi (l4 + (1 : Int32))]) (L' := [vr 0 0, vn, vi l2, vi l3, vi l4, vi x1, vi ((STl 903).getD ((x1 * (4 : Int32)) + l2).toNatClampNeg 0), vi ((STl 902).getD x1.toNatClampNeg 0), vi (l4 + (1 : Int32))]) (rest := []) rfl (fun f r h' hf => callV_ok hf rfl rfl rfl) h ?_
                        rintro _ _ ⟨x67, I68, J69, rfl, rfl, h⟩
                        exact WP.ret rfl rfl h
                      · refine WP.ite (c := ((STl 903).getD ((x1 * (4 : Int32)) + l2).toNatClampNeg 0) = 50) (pc1 := 306) (pc2 := swf [(60, 319), (61, 343), (70, 356), (80, 369), (81, 393)] 406 ((STl 903).getD ((x1 * (4 : Int32)) + l2).toNatClampNeg 0)) h (fun h => ?_) (fun h => ?_)
                        · refine WP.blk (pc' := 313) (L' := [vr 0 0, vn, vi l2, vi l3, vi l4, vi x1, vi ((STl 903).getD ((x1 * (4 : Int32)) + l2).toNatClampNeg 0), vi ((STl 902).getD x1.toNatClampNeg 0), vi (l4 + (1 : Int32))]) (st' := [vi (l4 + (1 : Int32)), vi l3, vi l2, vi ((STl 902).getD x1.toNatClampNeg 0), vr 0 0]) (h' := (101, (updI (updI I2 39 0 (I2 0 0 5).toNatClampNeg ((STl 903).getD ((x1 * (4 : Int32)) + l2).toNatClampNeg 0)) 0 0 5 ((I2 0 0 5) + (1 : Int32))), J3, R0 b)) 5 rfl ?_
                          refine WP.cal (y' := 7) (as := [vr 0 0, vi ((STl 902).getD x1.toNatClampNeg 0), vi l2, vi l3, vi (l4 + (1 : Int32))]) (L' := [vr 0 0, vn, vi l2, vi l3, vi l4, vi x1, vi ((STl 903).getD ((x1 * (4 : Int32)) + l2).toNatClampNeg 0), vi ((STl 902).getD x1.toNatClampNeg 0), vi (l4 + (1 : Int32))]) (rest := []) rfl (fun f r h' hf => callV_ok hf rfl rfl rfl) h ?_
                          rintro _ _ ⟨x70, I71, J72, rfl, rfl, h⟩
                          refine WP.blk (pc' := 318) (L' := [vr 0 0, vn, vi l2, vi l3, vi l4, vi x1, vi ((STl 903).getD ((x1 * (4 : Int32)) + l2).toNatClampNeg 0), vi ((STl 902).getD x1.toNatClampNeg 0), vi (l4 + (1 : Int32))]) (st' := [vi (x70 ^^^ (5 : Int32))]) (h' := (101, I71, J72, R0 b)) 2 rfl ?_
                          exact WP.ret rfl rfl h
                        · refine WP.ite (c := ((STl 903).getD ((x1 * (4 : Int32)) + l2).toNatClampNeg 0) = 60) (pc1 := 319) (pc2 := swf [(61, 343), (70, 356), (80, 369), (81, 393)] 406 ((STl 903).getD ((x1 * (4 : Int32)) + l2).toNatClampNeg 0)) h (fun h => ?_) (fun h => ?_)
                          · refine WP.blk (pc' := 326) (L' := [vr 0 0, vn, vi l2, vi l3, vi l4, vi x1, vi ((STl 903).getD ((x1 * (4 : Int32)) + l2).toNatClampNeg 0), vi ((STl 902).getD x1.toNatClampNeg 0), vi (l4 + (1 : Int32))]) (st' := [vi (l4 + (1 : Int32)), vi l3, vi l2, vi ((STl 902).getD x1.toNatClampNeg 0), vr 0 0]) (h' := (101, (updI (updI I2 39 0 (I2 0 0 5).toNatClampNeg ((STl 903).getD ((x1 * (4 : Int32)) + l2).toNatClampNeg 0)) 0 0 5 ((I2 0 0 5) + (1 : Int32))), J3, R0 b)) 5 rfl ?_
                            refine WP.cal (y' := 7) (as := [vr 0 0, vi ((STl 902).getD x1.toNatClampNeg 0), vi l2, vi l3, vi (l4 + (1 : Int32))]) (L' := [vr 0 0, vn, vi l2, vi l3, vi l4, vi x1, vi ((STl 903).getD ((x1 * (4 : Int32)) + l2).toNatClampNeg 0), vi ((STl 902).getD x1.toNatClampNeg 0), vi (l4 + (1 : Int32))]) (rest := []) rfl (fun f r h' hf => callV_ok hf rfl rfl rfl) h ?_
                            rintro _ _ ⟨x73, I74, J75, rfl, rfl, h⟩
                            refine WP.blk (pc' := 338) (L' := [vr 0 0, vn, vi l2, vi l3, vi l4, vi x1, vi ((STl 903).getD ((x1 * (4 : Int32)) + l2).toNatClampNeg 0), vi ((STl 902).getD x1.toNatClampNeg 0), vi (l4 + (1 : Int32))]) (st' := [vi (l4 + (1 : Int32)), vi 2, vi 0, vi (I74 0 0 3), vr 0 0, vi x73]) (h' := (101, I74, J75, R0 b)) 6 rfl ?_
                            refine WP.cal (y' := 7) (as := [vr 0 0, vi (I74 0 0 3), vi 0, vi 2, vi (l4 + (1 : Int32))]) (L' := [vr 0 0, vn, vi l2, vi l3, vi l4, vi x1, vi ((STl 903).getD ((x1 * (4 : Int32)) + l2).toNatClampNeg 0), vi ((STl 902).getD x1.toNatClampNeg 0), vi (l4 + (1 : Int32))]) (rest := [vi x73]) rfl (fun f r h' hf => callV_ok hf rfl rfl rfl) h ?_
                            rintro _ _ ⟨x76, I77, J78, rfl, rfl, h⟩
                            refine WP.blk (pc' := 342) (L' := [vr 0 0, vn, vi l2, vi l3, vi l4, vi x1, vi ((STl 903).getD ((x1 * (4 : Int32)) + l2).toNatClampNeg 0), vi ((STl 902).getD x1.toNatClampNeg 0), vi (l4 + (1 : Int32))]) (st' := [vi (x73 - x76)]) (h' := (101, I77, J78, R0 b)) 1 rfl ?_
                            exact WP.ret rfl rfl h
                          · refine WP.ite (c := ((STl 903).getD ((x1 * (4 : Int32)) + l2).toNatClampNeg 0) = 61) (pc1 := 343) (pc2 := swf [(70, 356), (80, 369), (81, 393)] 406 ((STl 903).getD ((x1 * (4 : Int32)) + l2).toNatClampNeg 0)) h (fun h => ?_) (fun h => ?_)
                            · refine WP.blk (pc' := 350) (L' := [vr 0 0, vn, vi l2, vi l3, vi l4, vi x1, vi ((STl 903).getD ((x1 * (4 : Int32)) + l2).toNatClampNeg 0), vi ((STl 902).getD x1.toNatClampNeg 0), vi (l4 + (1 : Int32))]) (st' := [vi (l4 + (1 : Int32)), vi l3, vi l2, vi ((STl 902).getD x1.toNatClampNeg 0), vr 0 0]) (h' := (101, (updI (updI I2 39 0 (I2 0 0 5).toNatClampNeg ((STl 903).getD ((x1 * (4 : Int32)) + l2).toNatClampNeg 0)) 0 0 5 ((I2 0 0 5) + (1 : Int32))), J3, R0 b)) 5 rfl ?_
                              refine WP.cal (y' := 7) (as := [vr 0 0, vi ((STl 902).getD x1.toNatClampNeg 0), vi l2, vi l3, vi (l4 + (1 : Int32))]) (L' := [vr 0 0, vn, vi l2, vi l3, vi l4, vi x1, vi ((STl 903).getD ((x1 * (4 : Int32)) + l2).toNatClampNeg 0), vi ((STl 902).getD x1.toNatClampNeg 0), vi (l4 + (1 : Int32))]) (rest := []) rfl (fun f r h' hf => callV_ok hf rfl rfl rfl) h ?_
                              rintro _ _ ⟨x79, I80, J81, rfl, rfl, h⟩
                              refine WP.blk (pc' := 355) (L' := [vr 0 0, vn, vi l2, vi l3, vi l4, vi x1, vi ((STl 903).getD ((x1 * (4 : Int32)) + l2).toNatClampNeg 0), vi ((STl 902).getD x1.toNatClampNeg 0), vi (l4 + (1 : Int32))]) (st' := [vi (x79 + (1 : Int32))]) (h' := (101, I80, J81, R0 b)) 2 rfl ?_
                              exact WP.ret rfl rfl h
                            · refine WP.ite (c := ((STl 903).getD ((x1 * (4 : Int32)) + l2).toNatClampNeg 0) = 70) (pc1 := 356) (pc2 := swf [(80, 369), (81, 393)] 406 ((STl 903).getD ((x1 * (4 : Int32)) + l2).toNatClampNeg 0)) h (fun h => ?_) (fun h => ?_)
                              · refine WP.blk (pc' := 363) (L' := [vr 0 0, vn, vi l2, vi l3, vi l4, vi x1, vi ((STl 903).getD ((x1 * (4 : Int32)) + l2).toNatClampNeg 0), vi ((STl 902).getD x1.toNatClampNeg 0), vi (l4 + (1 : Int32))]) (st' := [vi (l4 + (1 : Int32)), vi l3, vi l2, vi ((STl 902).getD x1.toNatClampNeg 0), vr 0 0]) (h' := (101, (updI (updI I2 39 0 (I2 0 0 5).toNatClampNeg ((STl 903).getD ((x1 * (4 : Int32)) + l2).toNatClampNeg 0)) 0 0 5 ((I2 0 0 5) + (1 : Int32))), J3, R0 b)) 5 rfl ?_
                                refine WP.cal (y' := 7) (as := [vr 0 0, vi ((STl 902).getD x1.toNatClampNeg 0), vi l2, vi l3, vi (l4 + (1 : Int32))]) (L' := [vr 0 0, vn, vi l2, vi l3, vi l4, vi x1, vi ((STl 903).getD ((x1 * (4 : Int32)) + l2).toNatClampNeg 0), vi ((STl 902).getD x1.toNatClampNeg 0), vi (l4 + (1 : Int32))]) (rest := []) rfl (fun f r h' hf => callV_ok hf rfl rfl rfl) h ?_
                                rintro _ _ ⟨x82, I83, J84, rfl, rfl, h⟩
                                refine WP.blk (pc' := 368) (L' := [vr 0 0, vn, vi l2, vi l3, vi l4, vi x1, vi ((STl 903).getD ((x1 * (4 : Int32)) + l2).toNatClampNeg 0), vi ((STl 902).getD x1.toNatClampNeg 0), vi (l4 + (1 : Int32))]) (st' := [vi (x82 * (2 : Int32))]) (h' := (101, I83, J84, R0 b)) 2 rfl ?_
                                exact WP.ret rfl rfl h
                              · refine WP.ite (c := ((STl 903).getD ((x1 * (4 : Int32)) + l2).toNatClampNeg 0) = 80) (pc1 := 369) (pc2 := swf [(81, 393)] 406 ((STl 903).getD ((x1 * (4 : Int32)) + l2).toNatClampNeg 0)) h (fun h => ?_) (fun h => ?_)
                                · refine WP.blk (pc' := 376) (L' := [vr 0 0, vn, vi l2, vi l3, vi l4, vi x1, vi ((STl 903).getD ((x1 * (4 : Int32)) + l2).toNatClampNeg 0), vi ((STl 902).getD x1.toNatClampNeg 0), vi (l4 + (1 : Int32))]) (st' := [vi (l4 + (1 : Int32)), vi l3, vi l2, vi ((STl 902).getD x1.toNatClampNeg 0), vr 0 0]) (h' := (101, (updI (updI I2 39 0 (I2 0 0 5).toNatClampNeg ((STl 903).getD ((x1 * (4 : Int32)) + l2).toNatClampNeg 0)) 0 0 5 ((I2 0 0 5) + (1 : Int32))), J3, R0 b)) 5 rfl ?_
                                  refine WP.cal (y' := 7) (as := [vr 0 0, vi ((STl 902).getD x1.toNatClampNeg 0), vi l2, vi l3, vi (l4 + (1 : Int32))]) (L' := [vr 0 0, vn, vi l2, vi l3, vi l4, vi x1, vi ((STl 903).getD ((x1 * (4 : Int32)) + l2).toNatClampNeg 0), vi ((STl 902).getD x1.toNatClampNeg 0), vi (l4 + (1 : Int32))]) (rest := []) rfl (fun f r h' hf => callV_ok hf rfl rfl rfl) h ?_
                                  rintro _ _ ⟨x85, I86, J87, rfl, rfl, h⟩
                                  refine WP.blk (pc' := 388) (L' := [vr 0 0, vn, vi l2, vi l3, vi l4, vi x1, vi ((STl 903).getD ((x1 * (4 : Int32)) + l2).toNatClampNeg 0), vi ((STl 902).getD x1.toNatClampNeg 0), vi (l4 + (1 : Int32))]) (st' := [vi (l4 + (1 : Int32)), vi 2, vi 2, vi (I86 0 0 3), vr 0 0, vi x85]) (h' := (101, I86, J87, R0 b)) 6 rfl ?_
                                  refine WP.cal (y' := 7) (as := [vr 0 0, vi (I86 0 0 3), vi 2, vi 2, vi (l4 + (1 : Int32))]) (L' := [vr 0 0, vn, vi l2, vi l3, vi l4, vi x1, vi ((STl 903).getD ((x1 * (4 : Int32)) + l2).toNatClampNeg 0), vi ((STl 902).getD x1.toNatClampNeg 0), vi (l4 + (1 : Int32))]) (rest := [vi x85]) rfl (fun f r h' hf => callV_ok hf rfl rfl rfl) h ?_
                                  rintro _ _ ⟨x88, I89, J90, rfl, rfl, h⟩
                                  refine WP.blk (pc' := 392) (L' := [vr 0 0, vn, vi l2, vi l3, vi l4, vi x1, vi ((STl 903).getD ((x1 * (4 : Int32)) + l2).toNatClampNeg 0), vi ((STl 902).getD x1.toNatClampNeg 0), vi (l4 + (1 : Int32))]) (st' := [vi (x85 + x88)]) (h' := (101, I89, J90, R0 b)) 1 rfl ?_
                                  exact WP.ret rfl rfl h
                                · refine WP.ite (c := ((STl 903).getD ((x1 * (4 : Int32)) + l2).toNatClampNeg 0) = 81) (pc1 := 393) (pc2 := swf [] 406 ((STl 903).getD ((x1 * (4 : Int32)) + l2).toNatClampNeg 0)) h (fun h => ?_) (fun h => ?_)
                                  · refine WP.blk (pc' := 400) (L' := [vr 0 0, vn, vi l2, vi l3, vi l4, vi x1, vi ((STl 903).getD ((x1 * (4 : Int32)) + l2).toNatClampNeg 0), vi ((STl 902).getD x1.toNatClampNeg 0), vi (l4 + (1 : Int32))]) (st' := [vi (l4 + (1 : Int32)), vi l3, vi l2, vi ((STl 902).getD x1.toNatClampNeg 0), vr 0 0]) (h' := (101, (updI (updI I2 39 0 (I2 0 0 5).toNatClampNeg ((STl 903).getD ((x1 * (4 : Int32)) + l2).toNatClampNeg 0)) 0 0 5 ((I2 0 0 5) + (1 : Int32))), J3, R0 b)) 5 rfl ?_
                                    refine WP.cal (y' := 7) (as := [vr 0 0, vi ((STl 902).getD x1.toNatClampNeg 0), vi l2, vi l3, vi (l4 + (1 : Int32))]) (L' := [vr 0 0, vn, vi l2, vi l3, vi l4, vi x1, vi ((STl 903).getD ((x1 * (4 : Int32)) + l2).toNatClampNeg 0), vi ((STl 902).getD x1.toNatClampNeg 0), vi (l4 + (1 : Int32))]) (rest := []) rfl (fun f r h' hf => callV_ok hf rfl rfl rfl) h ?_
                                    rintro _ _ ⟨x91, I92, J93, rfl, rfl, h⟩
                                    refine WP.blk (pc' := 405) (L' := [vr 0 0, vn, vi l2, vi l3, vi l4, vi x1, vi ((STl 903).getD ((x1 * (4 : Int32)) + l2).toNatClampNeg 0), vi ((STl 902).getD x1.toNatClampNeg 0), vi (l4 + (1 : Int32))]) (st' := [vi (x91 - (1 : Int32))]) (h' := (101, I92, J93, R0 b)) 2 rfl ?_
                                    exact WP.ret rfl rfl h
                                  · show WP D 7 406 [vr 0 0, vn, vi l2, vi l3, vi l4, vi x1, vi ((STl 903).getD ((x1 * (4 : Int32)) + l2).toNatClampNeg 0), vi ((STl 902).getD x1.toNatClampNeg 0), vi (l4 + (1 : Int32))] [] (101, (updI (updI I2 39 0 (I2 0 0 5).toNatClampNeg ((STl 903).getD ((x1 * (4 : Int32)) + l2).toNatClampNeg 0)) 0 0 5 ((I2 0 0 5) + (1 : Int32))), J3, R0 b) Q
                                    refine WP.blk (pc' := 407) (L' := [vr 0 0, vn, vi l2, vi l3, vi l4, vi x1, vi ((STl 903).getD ((x1 * (4 : Int32)) + l2).toNatClampNeg 0), vi ((STl 902).getD x1.toNatClampNeg 0), vi (l4 + (1 : Int32))]) (st' := [vi 0]) (h' := (101, (updI (updI I2 39 0 (I2 0 0 5).toNatClampNeg ((STl 903).getD ((x1 * (4 : Int32)) + l2).toNatClampNeg 0)) 0 0 5 ((I2 0 0 5) + (1 : Int32))), J3, R0 b)) 1 rfl ?_
                                    exact WP.ret rfl rfl h
    · refine WP.blk (pc' := 20) (L' := [vn, vn, vn, vn, vn, vn, vn, vn, vn]) (st' := [vi 0]) (h' := (101, I2, J3, R0 b)) 1 rfl ?_
      exact WP.ret rfl rfl h
set_option maxRecDepth 20000 in
theorem t_X2_copyFrom {D : Nat} (w : Nat) (w1 : Nat) (I : IM) (J : JM) (b : Bool) {Q : Option AV → AH → Prop} (h : (Call D 62 [vr 8 (w + 1), vr 8 (w1 + 1)] (101, I, J, R0 b) (RVf b fun I2 J3 => Q none (101, (updI (updI (updI (updI I2 2 w 1 (I2 2 w1 1)) 2 w 2 (I2 2 w1 2)) 2 w 3 (I2 2 w1 3)) 2 w 4 (I2 2 w1 4)), J3, R0 b)))) : Call (D + 1) 17 [vr 2 w, vr 2 w1] (101, I, J, R0 b) Q := by
  refine Call.of rfl ?_
  show WP D 17 0 [vr 2 w, vr 2 w1] [] (101, I, J, R0 b) Q
  refine WP.blk (pc' := 8) (L' := [vr 2 w, vr 2 w1]) (st' := [vr 8 (w1 + 1), vr 8 (w + 1)]) (h' := (101, I, J, R0 b)) 4 rfl ?_
  refine WP.cal (y' := 62) (as := [vr 8 (w + 1), vr 8 (w1 + 1)]) (L' := [vr 2 w, vr 2 w1]) (rest := []) rfl (fun f r h' hf => callV_ok hf rfl rfl rfl) h ?_
  rintro _ _ ⟨I2, J3, rfl, rfl, h⟩
  refine WP.blk (pc' := 43) (L' := [vr 2 w, vr 2 w1]) (st' := []) (h' := (101, (updI (updI (updI (updI I2 2 w 1 (I2 2 w1 1)) 2 w 2 (I2 2 w1 2)) 2 w 3 (I2 2 w1 3)) 2 w 4 (I2 2 w1 4)), J3, R0 b)) 16 rfl ?_
  exact WP.ret rfl rfl h
set_option maxRecDepth 20000 in
theorem t_X5_allFree {D : Nat}  (I : IM) (J : JM) (b : Bool) {Q : Option AV → AH → Prop} (h : (Call D 254 [vr 36 0, vi (-100000)] (101, (updI I 5 0 7 0), J, R0 b) (RVf b fun I2 J3 => Q none (101, I2, J3, R0 b)))) : Call (D + 1) 38 [vr 5 0] (101, I, J, R0 b) Q := by
  refine Call.of rfl ?_
  show WP D 38 0 [vr 5 0] [] (101, I, J, R0 b) Q
  refine WP.blk (pc' := 11) (L' := [vr 5 0]) (st' := [vi (-100000), vr 36 0]) (h' := (101, (updI I 5 0 7 0), J, R0 b)) 6 rfl ?_
  refine WP.cal (y' := 254) (as := [vr 36 0, vi (-100000)]) (L' := [vr 5 0]) (rest := []) rfl (fun f r h' hf => callS_ok hf rfl rfl rfl) h ?_
  rintro _ _ ⟨I2, J3, rfl, rfl, h⟩
  exact WP.ret rfl rfl h
set_option maxRecDepth 20000 in
theorem t_X5_bindTo {D : Nat} (w1 : Nat) (I : IM) (J : JM) (b : Bool) {Q : Option AV → AH → Prop} (h : (Call D 38 [vr 5 0] (101, I, J, R0 b) (RVf b fun I2 J3 => WP D 39 6 [vr 5 0, vr 6 w1, vi 0, vn, vn] [] (101, I2, J3, R0 b) Q))) : Call (D + 1) 39 [vr 5 0, vr 6 w1] (101, I, J, R0 b) Q := by
  refine Call.of rfl ?_
  show WP D 39 0 [vr 5 0, vr 6 w1, vn, vn, vn] [] (101, I, J, R0 b) Q
  refine WP.blk (pc' := 1) (L' := [vr 5 0, vr 6 w1, vn, vn, vn]) (st' := [vr 5 0]) (h' := (101, I, J, R0 b)) 1 rfl ?_
  refine WP.cal (y' := 38) (as := [vr 5 0]) (L' := [vr 5 0, vr 6 w1, vn, vn, vn]) (rest := []) rfl (fun f r h' hf => callV_ok hf rfl rfl rfl) h ?_
  rintro _ _ ⟨I2, J3, rfl, rfl, h⟩
  refine WP.blk (pc' := 6) (L' := [vr 5 0, vr 6 w1, vi 0, vn, vn]) (st' := []) (h' := (101, I2, J3, R0 b)) 2 rfl ?_
  exact WP.mask rfl rfl h
set_option maxRecDepth 20000 in
theorem t_X5_bindTo_6 {D : Nat} (w1 : Nat) (l2 : Int32) (I : IM) (J : JM) (b : Bool) {Q : Option AV → AH → Prop} (h : (if (I 6 w1 3) ≤ l2 then Q (some (vi 1)) (101, I, J, R0 b) else (vp_in l2 60 ∧ (if ((J 41 w1 l2.toNatClampNeg)).toInt32 < 0 then Q (some (vi 0)) (101, I, J, R0 b) else (if (I 1 0 1) ≤ ((J 41 w1 l2.toNatClampNeg)).toInt32 then Q (some (vi 0)) (101, I, J, R0 b) else (if (l2 + (1 : Int32)) < (I 6 w1 3) then (vp_in (l2 + (1 : Int32)) 60 ∧ (vp_in ((J 41 w1 l2.toNatClampNeg)).toInt32 7 ∧ (if (I 36 0 ((J 41 w1 l2.toNatClampNeg)).toInt32.toNatClampNeg) = (-100000 : Int32) then (vp_in ((J 41 w1 l2.toNatClampNeg)).toInt32 7 ∧ WP D 39 6 [vr 5 0, vr 6 w1, vi (l2 + 2), vn, vn] [] (101, (updI I 36 0 ((J 41 w1 l2.toNatClampNeg)).toInt32.toNatClampNeg ((J 41 w1 (l2 + (1 : Int32)).toNatClampNeg)).toInt32), J, R0 b) Q) else (vp_in ((J 41 w1 l2.toNatClampNeg)).toInt32 7 ∧ (if (I 36 0 ((J 41 w1 l2.toNatClampNeg)).toInt32.toNatClampNeg) = ((J 41 w1 (l2 + (1 : Int32)).toNatClampNeg)).toInt32 then (vp_in ((J 41 w1 l2.toNatClampNeg)).toInt32 7 ∧ WP D 39 6 [vr 5 0, vr 6 w1, vi (l2 + 2), vn, vn] [] (101, (updI I 36 0 ((J 41 w1 l2.toNatClampNeg)).toInt32.toNatClampNeg ((J 41 w1 (l2 + (1 : Int32)).toNatClampNeg)).toInt32), J, R0 b) Q) else Q (some (vi 0)) (101, I, J, R0 b)))))) else Q (some (vi 0)) (101, I, J, R0 b))))))) : WP D 39 6 [vr 5 0, vr 6 w1, vi l2, vn, vn] [] (101, I, J, R0 b) Q := by
  refine WP.blk (pc' := 11) (L' := [vr 5 0, vr 6 w1, vi l2, vn, vn]) (st' := [vi (I 6 w1 3), vi l2]) (h' := (101, I, J, R0 b)) 3 rfl ?_
  refine WP.icmp_ge (t := 98) (L' := [vr 5 0, vr 6 w1, vi l2, vn, vn]) rfl rfl rfl rfl h (fun h => ?_) (fun h => ?_)
  · refine WP.blk (pc' := 99) (L' := [vr 5 0, vr 6 w1, vi l2, vn, vn]) (st' := [vi 1]) (h' := (101, I, J, R0 b)) 1 rfl ?_
    exact WP.ret rfl rfl h
  · refine WP.blk (pc' := 19) (L' := [vr 5 0, vr 6 w1, vi l2, vn, vn]) (st' := [vi l2, vr 41 w1]) (h' := (101, I, J, R0 b)) 3 rfl ?_
    refine WP.step (pc' := 20) (L' := [vr 5 0, vr 6 w1, vi l2, vn, vn]) (st' := [vl (J 41 w1 l2.toNatClampNeg)]) (h' := (101, I, J, R0 b)) rfl (laload_ok (n := 60) rfl rfl rfl (inA_of h.1)) ?_
    have h := And.right h
    refine WP.blk (pc' := 23) (L' := [vr 5 0, vr 6 w1, vi l2, vi ((J 41 w1 l2.toNatClampNeg)).toInt32, vn]) (st' := [vi ((J 41 w1 l2.toNatClampNeg)).toInt32]) (h' := (101, I, J, R0 b)) 3 rfl ?_
    refine WP.if_lt (t := 47) (L' := [vr 5 0, vr 6 w1, vi l2, vi ((J 41 w1 l2.toNatClampNeg)).toInt32, vn]) rfl rfl rfl rfl h (fun h => ?_) (fun h => ?_)
    · refine WP.blk (pc' := 48) (L' := [vn, vn, vn, vn, vn]) (st' := [vi 0]) (h' := (101, I, J, R0 b)) 1 rfl ?_
      exact WP.ret rfl rfl h
    · refine WP.blk (pc' := 34) (L' := [vr 5 0, vr 6 w1, vi l2, vi ((J 41 w1 l2.toNatClampNeg)).toInt32, vn]) (st' := [vi (I 1 0 1), vi ((J 41 w1 l2.toNatClampNeg)).toInt32]) (h' := (101, I, J, R0 b)) 4 rfl ?_
      refine WP.icmp_ge (t := 47) (L' := [vr 5 0, vr 6 w1, vi l2, vi ((J 41 w1 l2.toNatClampNeg)).toInt32, vn]) rfl rfl rfl rfl h (fun h => ?_) (fun h => ?_)
      · refine WP.blk (pc' := 48) (L' := [vn, vn, vn, vn, vn]) (st' := [vi 0]) (h' := (101, I, J, R0 b)) 1 rfl ?_
        exact WP.ret rfl rfl h
      · refine WP.blk (pc' := 44) (L' := [vr 5 0, vr 6 w1, vi l2, vi ((J 41 w1 l2.toNatClampNeg)).toInt32, vn]) (st' := [vi (I 6 w1 3), vi (l2 + (1 : Int32))]) (h' := (101, I, J, R0 b)) 5 rfl ?_
        refine WP.icmp_lt (t := 49) (L' := [vr 5 0, vr 6 w1, vi l2, vi ((J 41 w1 l2.toNatClampNeg)).toInt32, vn]) rfl rfl rfl rfl h (fun h => ?_) (fun h => ?_)
        · refine WP.blk (pc' := 56) (L' := [vr 5 0, vr 6 w1, vi l2, vi ((J 41 w1 l2.toNatClampNeg)).toInt32, vn]) (st' := [vi (l2 + (1 : Int32)), vr 41 w1]) (h' := (101, I, J, R0 b)) 5 rfl ?_
          refine WP.step (pc' := 57) (L' := [vr 5 0, vr 6 w1, vi l2, vi ((J 41 w1 l2.toNatClampNeg)).toInt32, vn]) (st' := [vl (J 41 w1 (l2 + (1 : Int32)).toNatClampNeg)]) (h' := (101, I, J, R0 b)) rfl (laload_ok (n := 60) rfl rfl rfl (inA_of h.1)) ?_
          have h := And.right h
          refine WP.blk (pc' := 65) (L' := [vr 5 0, vr 6 w1, vi l2, vi ((J 41 w1 l2.toNatClampNeg)).toInt32, vi ((J 41 w1 (l2 + (1 : Int32)).toNatClampNeg)).toInt32]) (st' := [vi ((J 41 w1 l2.toNatClampNeg)).toInt32, vr 36 0]) (h' := (101, I, J, R0 b)) 5 rfl ?_
          refine WP.step (pc' := 66) (L' := [vr 5 0, vr 6 w1, vi l2, vi ((J 41 w1 l2.toNatClampNeg)).toInt32, vi ((J 41 w1 (l2 + (1 : Int32)).toNatClampNeg)).toInt32]) (st' := [vi (I 36 0 ((J 41 w1 l2.toNatClampNeg)).toInt32.toNatClampNeg)]) (h' := (101, I, J, R0 b)) rfl (iaload_ok (n := 7) rfl rfl rfl (inA_of h.1)) ?_
          have h := And.right h
          refine WP.blk (pc' := 68) (L' := [vr 5 0, vr 6 w1, vi l2, vi ((J 41 w1 l2.toNatClampNeg)).toInt32, vi ((J 41 w1 (l2 + (1 : Int32)).toNatClampNeg)).toInt32]) (st' := [vi (-100000), vi (I 36 0 ((J 41 w1 l2.toNatClampNeg)).toInt32.toNatClampNeg)]) (h' := (101, I, J, R0 b)) 1 rfl ?_
          refine WP.icmp_eq (t := 84) (L' := [vr 5 0, vr 6 w1, vi l2, vi ((J 41 w1 l2.toNatClampNeg)).toInt32, vi ((J 41 w1 (l2 + (1 : Int32)).toNatClampNeg)).toInt32]) rfl rfl rfl rfl h (fun h => ?_) (fun h => ?_)
          · refine WP.blk (pc' := 91) (L' := [vr 5 0, vr 6 w1, vi l2, vi ((J 41 w1 l2.toNatClampNeg)).toInt32, vi ((J 41 w1 (l2 + (1 : Int32)).toNatClampNeg)).toInt32]) (st' := [vi ((J 41 w1 (l2 + (1 : Int32)).toNatClampNeg)).toInt32, vi ((J 41 w1 l2.toNatClampNeg)).toInt32, vr 36 0]) (h' := (101, I, J, R0 b)) 4 rfl ?_
            refine WP.step (pc' := 92) (L' := [vr 5 0, vr 6 w1, vi l2, vi ((J 41 w1 l2.toNatClampNeg)).toInt32, vi ((J 41 w1 (l2 + (1 : Int32)).toNatClampNeg)).toInt32]) (st' := []) (h' := (101, (updI I 36 0 ((J 41 w1 l2.toNatClampNeg)).toInt32.toNatClampNeg ((J 41 w1 (l2 + (1 : Int32)).toNatClampNeg)).toInt32), J, R0 b)) rfl (iastore_ok (n := 7) rfl rfl rfl (inA_of h.1)) ?_
            have h := And.right h
            refine WP.blk (pc' := 6) (L' := [vr 5 0, vr 6 w1, vi (l2 + 2), vi ((J 41 w1 l2.toNatClampNeg)).toInt32, vi ((J 41 w1 (l2 + (1 : Int32)).toNatClampNeg)).toInt32]) (st' := []) (h' := (101, (updI I 36 0 ((J 41 w1 l2.toNatClampNeg)).toInt32.toNatClampNeg ((J 41 w1 (l2 + (1 : Int32)).toNatClampNeg)).toInt32), J, R0 b)) 2 rfl ?_
            exact WP.mask rfl rfl h
          · refine WP.blk (pc' := 76) (L' := [vr 5 0, vr 6 w1, vi l2, vi ((J 41 w1 l2.toNatClampNeg)).toInt32, vi ((J 41 w1 (l2 + (1 : Int32)).toNatClampNeg)).toInt32]) (st' := [vi ((J 41 w1 l2.toNatClampNeg)).toInt32, vr 36 0]) (h' := (101, I, J, R0 b)) 3 rfl ?_
            refine WP.step (pc' := 77) (L' := [vr 5 0, vr 6 w1, vi l2, vi ((J 41 w1 l2.toNatClampNeg)).toInt32, vi ((J 41 w1 (l2 + (1 : Int32)).toNatClampNeg)).toInt32]) (st' := [vi (I 36 0 ((J 41 w1 l2.toNatClampNeg)).toInt32.toNatClampNeg)]) (h' := (101, I, J, R0 b)) rfl (iaload_ok (n := 7) rfl rfl rfl (inA_of h.1)) ?_
            have h := And.right h
            refine WP.blk (pc' := 79) (L' := [vr 5 0, vr 6 w1, vi l2, vi ((J 41 w1 l2.toNatClampNeg)).toInt32, vi ((J 41 w1 (l2 + (1 : Int32)).toNatClampNeg)).toInt32]) (st' := [vi ((J 41 w1 (l2 + (1 : Int32)).toNatClampNeg)).toInt32, vi (I 36 0 ((J 41 w1 l2.toNatClampNeg)).toInt32.toNatClampNeg)]) (h' := (101, I, J, R0 b)) 1 rfl ?_
            refine WP.icmp_eq (t := 84) (L' := [vr 5 0, vr 6 w1, vi l2, vi ((J 41 w1 l2.toNatClampNeg)).toInt32, vi ((J 41 w1 (l2 + (1 : Int32)).toNatClampNeg)).toInt32]) rfl rfl rfl rfl h (fun h => ?_) (fun h => ?_)
            · refine WP.blk (pc' := 91) (L' := [vr 5 0, vr 6 w1, vi l2, vi ((J 41 w1 l2.toNatClampNeg)).toInt32, vi ((J 41 w1 (l2 + (1 : Int32)).toNatClampNeg)).toInt32]) (st' := [vi ((J 41 w1 (l2 + (1 : Int32)).toNatClampNeg)).toInt32, vi ((J 41 w1 l2.toNatClampNeg)).toInt32, vr 36 0]) (h' := (101, I, J, R0 b)) 4 rfl ?_
              refine WP.step (pc' := 92) (L' := [vr 5 0, vr 6 w1, vi l2, vi ((J 41 w1 l2.toNatClampNeg)).toInt32, vi ((J 41 w1 (l2 + (1 : Int32)).toNatClampNeg)).toInt32]) (st' := []) (h' := (101, (updI I 36 0 ((J 41 w1 l2.toNatClampNeg)).toInt32.toNatClampNeg ((J 41 w1 (l2 + (1 : Int32)).toNatClampNeg)).toInt32), J, R0 b)) rfl (iastore_ok (n := 7) rfl rfl rfl (inA_of h.1)) ?_
              have h := And.right h
              refine WP.blk (pc' := 6) (L' := [vr 5 0, vr 6 w1, vi (l2 + 2), vi ((J 41 w1 l2.toNatClampNeg)).toInt32, vi ((J 41 w1 (l2 + (1 : Int32)).toNatClampNeg)).toInt32]) (st' := []) (h' := (101, (updI I 36 0 ((J 41 w1 l2.toNatClampNeg)).toInt32.toNatClampNeg ((J 41 w1 (l2 + (1 : Int32)).toNatClampNeg)).toInt32), J, R0 b)) 2 rfl ?_
              exact WP.mask rfl rfl h
            · refine WP.blk (pc' := 83) (L' := [vr 5 0, vr 6 w1, vi l2, vi ((J 41 w1 l2.toNatClampNeg)).toInt32, vi ((J 41 w1 (l2 + (1 : Int32)).toNatClampNeg)).toInt32]) (st' := [vi 0]) (h' := (101, I, J, R0 b)) 1 rfl ?_
              exact WP.ret rfl rfl h
        · refine WP.blk (pc' := 48) (L' := [vn, vn, vn, vn, vn]) (st' := [vi 0]) (h' := (101, I, J, R0 b)) 1 rfl ?_
          exact WP.ret rfl rfl h
set_option maxRecDepth 20000 in
theorem t_X5_go {D : Nat} (l1 : Int32) (l2 : Int32) (I : IM) (J : JM) (b : Bool) {Q : Option AV → AH → Prop} (h : (Call D 60 [vr 8 0, vi 0] (101, (updI (updI (updI (updI (updI I 5 0 4 l1) 5 0 5 l2) 5 0 6 0) 5 0 7 0) 5 0 9 0), J, R0 b) (RVf b fun I2 J3 => (Call D 41 [vr 5 0] (101, I2, J3, R0 b) (RIf b fun x4 I5 J6 => (Call D 42 [vr 5 0, vi 0, vi x4] (101, I5, J6, R0 b) (RVf b fun I8 J9 => Q none (101, I8, J9, R0 b)))))))) : Call (D + 1) 40 [vr 5 0, vi l1, vi l2] (101, I, J, R0 b) Q := by
  refine Call.of rfl ?_
  show WP D 40 0 [vr 5 0, vi l1, vi l2] [] (101, I, J, R0 b) Q
  refine WP.blk (pc' := 30) (L' := [vr 5 0, vi l1, vi l2]) (st' := [vi 0, vr 8 0]) (h' := (101, (updI (updI (updI (updI (updI I 5 0 4 l1) 5 0 5 l2) 5 0 6 0) 5 0 7 0) 5 0 9 0), J, R0 b)) 18 rfl ?_
  refine WP.cal (y' := 60) (as := [vr 8 0, vi 0]) (L' := [vr 5 0, vi l1, vi l2]) (rest := []) rfl (fun f r h' hf => callV_ok hf rfl rfl rfl) h ?_
  rintro _ _ ⟨I2, J3, rfl, rfl, h⟩
  refine WP.blk (pc' := 36) (L' := [vr 5 0, vi l1, vi l2]) (st' := [vr 5 0, vi 0, vr 5 0]) (h' := (101, I2, J3, R0 b)) 3 rfl ?_
  refine WP.cal (y' := 41) (as := [vr 5 0]) (L' := [vr 5 0, vi l1, vi l2]) (rest := [vi 0, vr 5 0]) rfl (fun f r h' hf => callV_ok hf rfl rfl rfl) h ?_
  rintro _ _ ⟨x4, I5, J6, rfl, rfl, h⟩
  refine WP.cal (y' := 42) (as := [vr 5 0, vi 0, vi x4]) (L' := [vr 5 0, vi l1, vi l2]) (rest := []) rfl (fun f r h' hf => callV_ok hf rfl rfl rfl) h ?_
  rintro _ _ ⟨I8, J9, rfl, rfl, h⟩
  exact WP.ret rfl rfl h
set_option maxRecDepth 20000 in
theorem t_X5_leastMinutes {D : Nat}  (I : IM) (J : JM) (b : Bool) {Q : Option AV → AH → Prop} (h : WP D 41 7 [vr 5 0, vi 0, vi 1000000, vi 0] [] (101, I, J, R0 b) Q) : Call (D + 1) 41 [vr 5 0] (101, I, J, R0 b) Q := by
  refine Call.of rfl ?_
  show WP D 41 0 [vr 5 0, vn, vn, vn] [] (101, I, J, R0 b) Q
  refine WP.blk (pc' := 7) (L' := [vr 5 0, vi 0, vi 1000000, vi 0]) (st' := []) (h' := (101, I, J, R0 b)) 6 rfl ?_
  exact WP.mask rfl rfl h
set_option maxRecDepth 20000 in
theorem t_X5_leastMinutes_7 {D : Nat} (l1 : Int32) (l2 : Int32) (l3 : Int32) (I : IM) (J : JM) (b : Bool) {Q : Option AV → AH → Prop} (h : (if (I 1 0 1) ≤ l3 then Q (some (vi (l1 + l2))) (101, I, J, R0 b) else (Call D 11 [vr 1 0, vi l3, vi 0] (101, I, J, R0 b) (RIf b fun x1 I2 J3 => (Call D 57 [vr 7 0, vi l3, vi ((I2 1 0 1) - (1 : Int32))] (101, I2, J3, R0 b) (RIf b fun x4 I5 J6 => WP D 41 7 [vr 5 0, vi (l1 + x1), vi (if x4 < l2 then x4 else l2), vi (l3 + 1)] [] (101, I5, J6, R0 b) Q)))))) : WP D 41 7 [vr 5 0, vi l1, vi l2, vi l3] [] (101, I, J, R0 b) Q := by
  refine WP.blk (pc' := 15) (L' := [vr 5 0, vi l1, vi l2, vi l3]) (st' := [vi (I 1 0 1), vi l3]) (h' := (101, I, J, R0 b)) 4 rfl ?_
  refine WP.icmp_ge (t := 61) (L' := [vr 5 0, vi l1, vi l2, vi l3]) rfl rfl rfl rfl h (fun h => ?_) (fun h => ?_)
  · refine WP.blk (pc' := 64) (L' := [vr 5 0, vi l1, vi l2, vi l3]) (st' := [vi (l1 + l2)]) (h' := (101, I, J, R0 b)) 3 rfl ?_
    exact WP.ret rfl rfl h
  · refine WP.blk (pc' := 25) (L' := [vr 5 0, vi l1, vi l2, vi l3]) (st' := [vi 0, vi l3, vr 1 0, vi l1]) (h' := (101, I, J, R0 b)) 5 rfl ?_
    refine WP.cal (y' := 11) (as := [vr 1 0, vi l3, vi 0]) (L' := [vr 5 0, vi l1, vi l2, vi l3]) (rest := [vi l1]) rfl (fun f r h' hf => callV_ok hf rfl rfl rfl) h ?_
    rintro _ _ ⟨x1, I2, J3, rfl, rfl, h⟩
    refine WP.blk (pc' := 48) (L' := [vr 5 0, vi (l1 + x1), vi l2, vi l3]) (st' := [vi ((I2 1 0 1) - (1 : Int32)), vi l3, vr 7 0, vi l2]) (h' := (101, I2, J3, R0 b)) 12 rfl ?_
    refine WP.cal (y' := 57) (as := [vr 7 0, vi l3, vi ((I2 1 0 1) - (1 : Int32))]) (L' := [vr 5 0, vi (l1 + x1), vi l2, vi l3]) (rest := [vi l2]) rfl (fun f r h' hf => callV_ok hf rfl rfl rfl) h ?_
    rintro _ _ ⟨x4, I5, J6, rfl, rfl, h⟩
    refine WP.blk (pc' := 7) (L' := [vr 5 0, vi (l1 + x1), vi (if x4 < l2 then x4 else l2), vi (l3 + 1)]) (st' := []) (h' := (101, I5, J6, R0 b)) 4 rfl ?_
    exact WP.mask rfl rfl h
set_option maxRecDepth 20000 in
theorem t_X5_seek {D : Nat} (l1 : Int32) (l2 : Int32) (I : IM) (J : JM) (b : Bool) {Q : Option AV → AH → Prop} (h : (if l1 < (I 1 0 1) then WP D 42 30 [vr 5 0, vi l1, vi l2, vi 0, vn] [] (101, (updI I 5 0 9 (if (I 5 0 9) < l1 then l1 else (I 5 0 9))), J, R0 b) Q else (Call D 44 [vr 5 0] (101, (updI I 5 0 9 (if (I 5 0 9) < l1 then l1 else (I 5 0 9))), J, R0 b) (RVf b fun I2 J3 => Q none (101, I2, J3, R0 b))))) : Call (D + 1) 42 [vr 5 0, vi l1, vi l2] (101, I, J, R0 b) Q := by
  refine Call.of rfl ?_
  show WP D 42 0 [vr 5 0, vi l1, vi l2, vn, vn] [] (101, I, J, R0 b) Q
  refine WP.blk (pc' := 20) (L' := [vr 5 0, vi l1, vi l2, vn, vn]) (st' := [vi (I 1 0 1), vi l1]) (h' := (101, (updI I 5 0 9 (if (I 5 0 9) < l1 then l1 else (I 5 0 9))), J, R0 b)) 10 rfl ?_
  refine WP.icmp_lt (t := 28) (L' := [vr 5 0, vi l1, vi l2, vn, vn]) rfl rfl rfl rfl h (fun h => ?_) (fun h => ?_)
  · refine WP.blk (pc' := 30) (L' := [vr 5 0, vi l1, vi l2, vi 0, vn]) (st' := []) (h' := (101, (updI I 5 0 9 (if (I 5 0 9) < l1 then l1 else (I 5 0 9))), J, R0 b)) 2 rfl ?_
    exact WP.mask rfl rfl h
  · refine WP.blk (pc' := 24) (L' := [vr 5 0, vi l1, vi l2, vn, vn]) (st' := [vr 5 0]) (h' := (101, (updI I 5 0 9 (if (I 5 0 9) < l1 then l1 else (I 5 0 9))), J, R0 b)) 1 rfl ?_
    refine WP.cal (y' := 44) (as := [vr 5 0]) (L' := [vr 5 0, vi l1, vi l2, vn, vn]) (rest := []) rfl (fun f r h' hf => callV_ok hf rfl rfl rfl) h ?_
    rintro _ _ ⟨I2, J3, rfl, rfl, h⟩
    exact WP.ret rfl rfl h
set_option maxRecDepth 20000 in
theorem t_X5_seek_30 {D : Nat} (l1 : Int32) (l2 : Int32) (l3 : Int32) (I : IM) (J : JM) (b : Bool) {Q : Option AV → AH → Prop} (h : (if (I 1 0 1) ≤ l3 then Q none (101, I, J, R0 b) else (if ¬ (I 5 0 6) = 0 then Q none (101, I, J, R0 b) else (Call D 63 [vr 8 0, vi l3] (101, I, J, R0 b) (RIf b fun x4 I5 J6 => (if ¬ x4 = 0 then WP D 42 30 [vr 5 0, vi l1, vi l2, vi (l3 + 1), vn] [] (101, I5, J6, R0 b) Q else (Call D 64 [vr 8 0, vi l3] (101, I5, J6, R0 b) (RIf b fun x7 I8 J9 => (if ¬ x7 = 0 then (Call D 11 [vr 1 0, vi l3, vi 0] (101, I8, J9, R0 b) (RIf b fun x10 I11 J12 => (Call D 43 [vr 5 0, vi l3] (101, I11, J12, R0 b) (RIf b fun x13 I14 J15 => (if x13 = 0 then (Call D 67 [vr 8 0] (101, I14, J15, R0 b) (RVf b fun I17 J18 => WP D 42 30 [vr 5 0, vi l1, vi l2, vi (l3 + 1), vn] [] (101, I17, J18, R0 b) Q)) else (Call D 73 [vr 8 0] (101, I14, J15, R0 b) (RIf b fun x19 I20 J21 => (if (I20 5 0 5) ≤ x19 then (Call D 67 [vr 8 0] (101, I20, J21, R0 b) (RVf b fun I23 J24 => WP D 42 30 [vr 5 0, vi l1, vi l2, vi (l3 + 1), vn] [] (101, I23, J24, R0 b) Q)) else (if (I20 5 0 5) ≤ ((I20 8 0 12) + (l2 - x10)) then (Call D 67 [vr 8 0] (101, I20, J21, R0 b) (RVf b fun I26 J27 => WP D 42 30 [vr 5 0, vi l1, vi l2, vi (l3 + 1), vn] [] (101, I26, J27, R0 b) Q)) else (Call D 42 [vr 5 0, vi (l1 + (1 : Int32)), vi (l2 - x10)] (101, I20, J21, R0 b) (RVf b fun I29 J30 => (Call D 67 [vr 8 0] (101, I29, J30, R0 b) (RVf b fun I32 J33 => WP D 42 30 [vr 5 0, vi l1, vi l2, vi (l3 + 1), vn] [] (101, I32, J33, R0 b) Q))))))))))))) else WP D 42 30 [vr 5 0, vi l1, vi l2, vi (l3 + 1), vn] [] (101, I8, J9, R0 b) Q))))))))) : WP D 42 30 [vr 5 0, vi l1, vi l2, vi l3, vn] [] (101, I, J, R0 b) Q := by
  refine WP.blk (pc' := 38) (L' := [vr 5 0, vi l1, vi l2, vi l3, vn]) (st' := [vi (I 1 0 1), vi l3]) (h' := (101, I, J, R0 b)) 4 rfl ?_
  refine WP.icmp_ge (t := 147) (L' := [vr 5 0, vi l1, vi l2, vi l3, vn]) rfl rfl rfl rfl h (fun h => ?_) (fun h => ?_)
  · exact WP.ret rfl rfl h
  · refine WP.blk (pc' := 45) (L' := [vr 5 0, vi l1, vi l2, vi l3, vn]) (st' := [vi (I 5 0 6)]) (h' := (101, I, J, R0 b)) 2 rfl ?_
    refine WP.if_ne (t := 147) (L' := [vr 5 0, vi l1, vi l2, vi l3, vn]) rfl rfl rfl rfl h (fun h => ?_) (fun h => ?_)
    · exact WP.ret rfl rfl h
    · refine WP.blk (pc' := 53) (L' := [vr 5 0, vi l1, vi l2, vi l3, vn]) (st' := [vi l3, vr 8 0]) (h' := (101, I, J, R0 b)) 3 rfl ?_
      refine WP.cal (y' := 63) (as := [vr 8 0, vi l3]) (L' := [vr 5 0, vi l1, vi l2, vi l3, vn]) (rest := []) rfl (fun f r h' hf => callV_ok hf rfl rfl rfl) h ?_
      rintro _ _ ⟨x4, I5, J6, rfl, rfl, h⟩
      refine WP.if_ne (t := 141) (L' := [vr 5 0, vi l1, vi l2, vi l3, vn]) rfl rfl rfl rfl h (fun h => ?_) (fun h => ?_)
      · refine WP.blk (pc' := 30) (L' := [vr 5 0, vi l1, vi l2, vi (l3 + 1), vn]) (st' := []) (h' := (101, I5, J6, R0 b)) 2 rfl ?_
        exact WP.mask rfl rfl h
      · refine WP.blk (pc' := 64) (L' := [vr 5 0, vi l1, vi l2, vi l3, vn]) (st' := [vi l3, vr 8 0]) (h' := (101, I5, J6, R0 b)) 3 rfl ?_
        refine WP.cal (y' := 64) (as := [vr 8 0, vi l3]) (L' := [vr 5 0, vi l1, vi l2, vi l3, vn]) (rest := []) rfl (fun f r h' hf => callV_ok hf rfl rfl rfl) h ?_
        rintro _ _ ⟨x7, I8, J9, rfl, rfl, h⟩
        refine WP.if_ne (t := 73) (L' := [vr 5 0, vi l1, vi l2, vi l3, vn]) rfl rfl rfl rfl h (fun h => ?_) (fun h => ?_)
        · refine WP.blk (pc' := 80) (L' := [vr 5 0, vi l1, vi l2, vi l3, vn]) (st' := [vi 0, vi l3, vr 1 0, vi l2]) (h' := (101, I8, J9, R0 b)) 5 rfl ?_
          refine WP.cal (y' := 11) (as := [vr 1 0, vi l3, vi 0]) (L' := [vr 5 0, vi l1, vi l2, vi l3, vn]) (rest := [vi l2]) rfl (fun f r h' hf => callV_ok hf rfl rfl rfl) h ?_
          rintro _ _ ⟨x10, I11, J12, rfl, rfl, h⟩
          refine WP.blk (pc' := 88) (L' := [vr 5 0, vi l1, vi l2, vi l3, vi (l2 - x10)]) (st' := [vi l3, vr 5 0]) (h' := (101, I11, J12, R0 b)) 4 rfl ?_
          refine WP.cal (y' := 43) (as := [vr 5 0, vi l3]) (L' := [vr 5 0, vi l1, vi l2, vi l3, vi (l2 - x10)]) (rest := []) rfl (fun f r h' hf => callV_ok hf rfl rfl rfl) h ?_
          rintro _ _ ⟨x13, I14, J15, rfl, rfl, h⟩
          refine WP.if_eq (t := 134) (L' := [vr 5 0, vi l1, vi l2, vi l3, vi (l2 - x10)]) rfl rfl rfl rfl h (fun h => ?_) (fun h => ?_)
          · refine WP.blk (pc' := 138) (L' := [vr 5 0, vi l1, vi l2, vi l3, vn]) (st' := [vr 8 0]) (h' := (101, I14, J15, R0 b)) 2 rfl ?_
            refine WP.cal (y' := 67) (as := [vr 8 0]) (L' := [vr 5 0, vi l1, vi l2, vi l3, vn]) (rest := []) rfl (fun f r h' hf => callV_ok hf rfl rfl rfl) h ?_
            rintro _ _ ⟨I17, J18, rfl, rfl, h⟩
            refine WP.blk (pc' := 30) (L' := [vr 5 0, vi l1, vi l2, vi (l3 + 1), vn]) (st' := []) (h' := (101, I17, J18, R0 b)) 2 rfl ?_
            exact WP.mask rfl rfl h
          · refine WP.blk (pc' := 98) (L' := [vr 5 0, vi l1, vi l2, vi l3, vi (l2 - x10)]) (st' := [vr 8 0]) (h' := (101, I14, J15, R0 b)) 2 rfl ?_
            refine WP.cal (y' := 73) (as := [vr 8 0]) (L' := [vr 5 0, vi l1, vi l2, vi l3, vi (l2 - x10)]) (rest := []) rfl (fun f r h' hf => callV_ok hf rfl rfl rfl) h ?_
            rintro _ _ ⟨x19, I20, J21, rfl, rfl, h⟩
            refine WP.blk (pc' := 105) (L' := [vr 5 0, vi l1, vi l2, vi l3, vi (l2 - x10)]) (st' := [vi (I20 5 0 5), vi x19]) (h' := (101, I20, J21, R0 b)) 2 rfl ?_
            refine WP.icmp_ge (t := 134) (L' := [vr 5 0, vi l1, vi l2, vi l3, vi (l2 - x10)]) rfl rfl rfl rfl h (fun h => ?_) (fun h => ?_)
            · refine WP.blk (pc' := 138) (L' := [vr 5 0, vi l1, vi l2, vi l3, vn]) (st' := [vr 8 0]) (h' := (101, I20, J21, R0 b)) 2 rfl ?_
              refine WP.cal (y' := 67) (as := [vr 8 0]) (L' := [vr 5 0, vi l1, vi l2, vi l3, vn]) (rest := []) rfl (fun f r h' hf => callV_ok hf rfl rfl rfl) h ?_
              rintro _ _ ⟨I23, J24, rfl, rfl, h⟩
              refine WP.blk (pc' := 30) (L' := [vr 5 0, vi l1, vi l2, vi (l3 + 1), vn]) (st' := []) (h' := (101, I23, J24, R0 b)) 2 rfl ?_
              exact WP.mask rfl rfl h
            · refine WP.blk (pc' := 122) (L' := [vr 5 0, vi l1, vi l2, vi l3, vi (l2 - x10)]) (st' := [vi (I20 5 0 5), vi ((I20 8 0 12) + (l2 - x10))]) (h' := (101, I20, J21, R0 b)) 7 rfl ?_
              refine WP.icmp_ge (t := 134) (L' := [vr 5 0, vi l1, vi l2, vi l3, vi (l2 - x10)]) rfl rfl rfl rfl h (fun h => ?_) (fun h => ?_)
              · refine WP.blk (pc' := 138) (L' := [vr 5 0, vi l1, vi l2, vi l3, vn]) (st' := [vr 8 0]) (h' := (101, I20, J21, R0 b)) 2 rfl ?_
                refine WP.cal (y' := 67) (as := [vr 8 0]) (L' := [vr 5 0, vi l1, vi l2, vi l3, vn]) (rest := []) rfl (fun f r h' hf => callV_ok hf rfl rfl rfl) h ?_
                rintro _ _ ⟨I26, J27, rfl, rfl, h⟩
                refine WP.blk (pc' := 30) (L' := [vr 5 0, vi l1, vi l2, vi (l3 + 1), vn]) (st' := []) (h' := (101, I26, J27, R0 b)) 2 rfl ?_
                exact WP.mask rfl rfl h
              · refine WP.blk (pc' := 131) (L' := [vr 5 0, vi l1, vi l2, vi l3, vi (l2 - x10)]) (st' := [vi (l2 - x10), vi (l1 + (1 : Int32)), vr 5 0]) (h' := (101, I20, J21, R0 b)) 5 rfl ?_
                refine WP.cal (y' := 42) (as := [vr 5 0, vi (l1 + (1 : Int32)), vi (l2 - x10)]) (L' := [vr 5 0, vi l1, vi l2, vi l3, vi (l2 - x10)]) (rest := []) rfl (fun f r h' hf => callV_ok hf rfl rfl rfl) h ?_
                rintro _ _ ⟨I29, J30, rfl, rfl, h⟩
                refine WP.blk (pc' := 138) (L' := [vr 5 0, vi l1, vi l2, vi l3, vn]) (st' := [vr 8 0]) (h' := (101, I29, J30, R0 b)) 2 rfl ?_
                refine WP.cal (y' := 67) (as := [vr 8 0]) (L' := [vr 5 0, vi l1, vi l2, vi l3, vn]) (rest := []) rfl (fun f r h' hf => callV_ok hf rfl rfl rfl) h ?_
                rintro _ _ ⟨I32, J33, rfl, rfl, h⟩
                refine WP.blk (pc' := 30) (L' := [vr 5 0, vi l1, vi l2, vi (l3 + 1), vn]) (st' := []) (h' := (101, I32, J33, R0 b)) 2 rfl ?_
                exact WP.mask rfl rfl h
        · refine WP.blk (pc' := 30) (L' := [vr 5 0, vi l1, vi l2, vi (l3 + 1), vn]) (st' := []) (h' := (101, I8, J9, R0 b)) 3 rfl ?_
          exact WP.mask rfl rfl h
set_option maxRecDepth 20000 in
theorem t_X5_isSo {D : Nat} (l1 : Int32) (I : IM) (J : JM) (b : Bool) {Q : Option AV → AH → Prop} (h : (vp_in l1 7 ∧ (if (I 36 0 l1.toNatClampNeg) = (-100000 : Int32) then Q (some (vi 1)) (101, I, J, R0 b) else (vp_in l1 7 ∧ (Call D 74 [vr 8 0, vi l1] (101, I, J, R0 b) (RIf b fun x1 I2 J3 => (if ¬ (I 36 0 l1.toNatClampNeg) = x1 then Q (some (vi 0)) (101, I2, J3, R0 b) else Q (some (vi 1)) (101, I2, J3, R0 b)))))))) : Call (D + 1) 43 [vr 5 0, vi l1] (101, I, J, R0 b) Q := by
  refine Call.of rfl ?_
  show WP D 43 0 [vr 5 0, vi l1] [] (101, I, J, R0 b) Q
  refine WP.blk (pc' := 5) (L' := [vr 5 0, vi l1]) (st' := [vi l1, vr 36 0]) (h' := (101, I, J, R0 b)) 3 rfl ?_
  refine WP.step (pc' := 6) (L' := [vr 5 0, vi l1]) (st' := [vi (I 36 0 l1.toNatClampNeg)]) (h' := (101, I, J, R0 b)) rfl (iaload_ok (n := 7) rfl rfl rfl (inA_of h.1)) ?_
  have h := And.right h
  refine WP.blk (pc' := 8) (L' := [vr 5 0, vi l1]) (st' := [vi (-100000), vi (I 36 0 l1.toNatClampNeg)]) (h' := (101, I, J, R0 b)) 1 rfl ?_
  refine WP.icmp_eq (t := 28) (L' := [vr 5 0, vi l1]) rfl rfl rfl rfl h (fun h => ?_) (fun h => ?_)
  · refine WP.blk (pc' := 33) (L' := [vn, vn]) (st' := [vi 1]) (h' := (101, I, J, R0 b)) 2 rfl ?_
    exact WP.ret rfl rfl h
  · refine WP.blk (pc' := 16) (L' := [vr 5 0, vi l1]) (st' := [vi l1, vr 36 0]) (h' := (101, I, J, R0 b)) 3 rfl ?_
    refine WP.step (pc' := 17) (L' := [vr 5 0, vi l1]) (st' := [vi (I 36 0 l1.toNatClampNeg)]) (h' := (101, I, J, R0 b)) rfl (iaload_ok (n := 7) rfl rfl rfl (inA_of h.1)) ?_
    have h := And.right h
    refine WP.blk (pc' := 22) (L' := [vr 5 0, vi l1]) (st' := [vi l1, vr 8 0, vi (I 36 0 l1.toNatClampNeg)]) (h' := (101, I, J, R0 b)) 3 rfl ?_
    refine WP.cal (y' := 74) (as := [vr 8 0, vi l1]) (L' := [vr 5 0, vi l1]) (rest := [vi (I 36 0 l1.toNatClampNeg)]) rfl (fun f r h' hf => callV_ok hf rfl rfl rfl) h ?_
    rintro _ _ ⟨x1, I2, J3, rfl, rfl, h⟩
    refine WP.icmp_ne (t := 32) (L' := [vr 5 0, vi l1]) rfl rfl rfl rfl h (fun h => ?_) (fun h => ?_)
    · refine WP.blk (pc' := 33) (L' := [vr 5 0, vi l1]) (st' := [vi 0]) (h' := (101, I2, J3, R0 b)) 1 rfl ?_
      exact WP.ret rfl rfl h
    · refine WP.blk (pc' := 33) (L' := [vn, vn]) (st' := [vi 1]) (h' := (101, I2, J3, R0 b)) 2 rfl ?_
      exact WP.ret rfl rfl h
set_option maxRecDepth 20000 in
theorem t_X5_come {D : Nat}  (I : IM) (J : JM) (b : Bool) {Q : Option AV → AH → Prop} (h : (if ((I 5 0 7) + (1 : Int32)) = (1 : Int32) then (Call D 73 [vr 8 0] (101, (updI I 5 0 7 ((I 5 0 7) + (1 : Int32))), J, R0 b) (RIf b fun x1 I2 J3 => ((¬ (0 : Int32) < 0 ∧ ¬ (0 : Int32) < 0 ∧ ¬ (I2 1 0 1) < 0 ∧ 0 + (I2 1 0 1).toNatClampNeg ≤ 35 ∧ 0 + (I2 1 0 1).toNatClampNeg ≤ 7) ∧ (if ¬ (I2 5 0 4) = (2 : Int32) then (if (I2 5 0 4) = 0 then Q none (101, (updI (cpyI (updI I2 5 0 8 x1) 30 0 37 0 0 0 (I2 1 0 1).toNatClampNeg) 5 0 6 1), J3, R0 b) else (if ¬ (I2 5 0 4) = (3 : Int32) then Q none (101, (updI (cpyI (updI I2 5 0 8 x1) 30 0 37 0 0 0 (I2 1 0 1).toNatClampNeg) 5 0 6 0), J3, R0 b) else Q none (101, (updI (cpyI (updI I2 5 0 8 x1) 30 0 37 0 0 0 (I2 1 0 1).toNatClampNeg) 5 0 6 1), J3, R0 b))) else (if (I2 5 0 4) = 0 then Q none (101, (updI (updI (cpyI (updI I2 5 0 8 x1) 30 0 37 0 0 0 (I2 1 0 1).toNatClampNeg) 5 0 5 x1) 5 0 6 1), J3, R0 b) else (if ¬ (I2 5 0 4) = (3 : Int32) then Q none (101, (updI (updI (cpyI (updI I2 5 0 8 x1) 30 0 37 0 0 0 (I2 1 0 1).toNatClampNeg) 5 0 5 x1) 5 0 6 0), J3, R0 b) else Q none (101, (updI (updI (cpyI (updI I2 5 0 8 x1) 30 0 37 0 0 0 (I2 1 0 1).toNatClampNeg) 5 0 5 x1) 5 0 6 1), J3, R0 b))))))) else (if ¬ (I 5 0 4) = (2 : Int32) then (if ¬ (I 5 0 4) = (2 : Int32) then (if (I 5 0 4) = 0 then Q none (101, (updI (updI I 5 0 7 ((I 5 0 7) + (1 : Int32))) 5 0 6 1), J, R0 b) else (if ¬ (I 5 0 4) = (3 : Int32) then Q none (101, (updI (updI I 5 0 7 ((I 5 0 7) + (1 : Int32))) 5 0 6 0), J, R0 b) else Q none (101, (updI (updI I 5 0 7 ((I 5 0 7) + (1 : Int32))) 5 0 6 1), J, R0 b))) else (if (I 5 0 4) = 0 then Q none (101, (updI (updI (updI I 5 0 7 ((I 5 0 7) + (1 : Int32))) 5 0 5 (I 5 0 8)) 5 0 6 1), J, R0 b) else (if ¬ (I 5 0 4) = (3 : Int32) then Q none (101, (updI (updI (updI I 5 0 7 ((I 5 0 7) + (1 : Int32))) 5 0 5 (I 5 0 8)) 5 0 6 0), J, R0 b) else Q none (101, (updI (updI (updI I 5 0 7 ((I 5 0 7) + (1 : Int32))) 5 0 5 (I 5 0 8)) 5 0 6 1), J, R0 b)))) else (Call D 73 [vr 8 0] (101, (updI I 5 0 7 ((I 5 0 7) + (1 : Int32))), J, R0 b) (RIf b fun x4 I5 J6 => ((¬ (0 : Int32) < 0 ∧ ¬ (0 : Int32) < 0 ∧ ¬ (I5 1 0 1) < 0 ∧ 0 + (I5 1 0 1).toNatClampNeg ≤ 35 ∧ 0 + (I5 1 0 1).toNatClampNeg ≤ 7) ∧ (if ¬ (I5 5 0 4) = (2 : Int32) then (if (I5 5 0 4) = 0 then Q none (101, (updI (cpyI (updI I5 5 0 8 x4) 30 0 37 0 0 0 (I5 1 0 1).toNatClampNeg) 5 0 6 1), J6, R0 b) else (if ¬ (I5 5 0 4) = (3 : Int32) then Q none (101, (updI (cpyI (updI I5 5 0 8 x4) 30 0 37 0 0 0 (I5 1 0 1).toNatClampNeg) 5 0 6 0), J6, R0 b) else Q none (101, (updI (cpyI (updI I5 5 0 8 x4) 30 0 37 0 0 0 (I5 1 0 1).toNatClampNeg) 5 0 6 1), J6, R0 b))) else (if (I5 5 0 4) = 0 then Q none (101, (updI (updI (cpyI (updI I5 5 0 8 x4) 30 0 37 0 0 0 (I5 1 0 1).toNatClampNeg) 5 0 5 x4) 5 0 6 1), J6, R0 b) else (if ¬ (I5 5 0 4) = (3 : Int32) then Q none (101, (updI (updI (cpyI (updI I5 5 0 8 x4) 30 0 37 0 0 0 (I5 1 0 1).toNatClampNeg) 5 0 5 x4) 5 0 6 0), J6, R0 b) else Q none (101, (updI (updI (cpyI (updI I5 5 0 8 x4) 30 0 37 0 0 0 (I5 1 0 1).toNatClampNeg) 5 0 5 x4) 5 0 6 1), J6, R0 b)))))))))) : Call (D + 1) 44 [vr 5 0] (101, I, J, R0 b) Q := by
  refine Call.of rfl ?_
  show WP D 44 0 [vr 5 0] [] (101, I, J, R0 b) Q
  refine WP.blk (pc' := 15) (L' := [vr 5 0]) (st' := [vi 1, vi ((I 5 0 7) + (1 : Int32))]) (h' := (101, (updI I 5 0 7 ((I 5 0 7) + (1 : Int32))), J, R0 b)) 9 rfl ?_
  refine WP.icmp_eq (t := 26) (L' := [vr 5 0]) rfl rfl rfl rfl h (fun h => ?_) (fun h => ?_)
  · refine WP.blk (pc' := 31) (L' := [vr 5 0]) (st' := [vr 8 0, vr 5 0]) (h' := (101, (updI I 5 0 7 ((I 5 0 7) + (1 : Int32))), J, R0 b)) 3 rfl ?_
    refine WP.cal (y' := 73) (as := [vr 8 0]) (L' := [vr 5 0]) (rest := [vr 5 0]) rfl (fun f r h' hf => callV_ok hf rfl rfl rfl) h ?_
    rintro _ _ ⟨x1, I2, J3, rfl, rfl, h⟩
    refine WP.blk (pc' := 57) (L' := [vr 5 0]) (st' := [vi (I2 1 0 1), vi 0, vr 37 0, vi 0, vr 30 0]) (h' := (101, (updI I2 5 0 8 x1), J3, R0 b)) 11 rfl ?_
    refine WP.step (pc' := 60) (L' := [vr 5 0]) (st' := []) (h' := (101, (cpyI (updI I2 5 0 8 x1) 30 0 37 0 0 0 (I2 1 0 1).toNatClampNeg), J3, R0 b)) rfl (copyI_ok (y := 44) (sp := (0 : Int32)) (dp := (0 : Int32)) (n := (I2 1 0 1)) rfl rfl rfl rfl rfl rfl h.1) ?_
    have h := And.right h
    refine WP.blk (pc' := 65) (L' := [vr 5 0]) (st' := [vi 2, vi (I2 5 0 4)]) (h' := (101, (cpyI (updI I2 5 0 8 x1) 30 0 37 0 0 0 (I2 1 0 1).toNatClampNeg), J3, R0 b)) 3 rfl ?_
    refine WP.icmp_ne (t := 76) (L' := [vr 5 0]) rfl rfl rfl rfl h (fun h => ?_) (fun h => ?_)
    · refine WP.blk (pc' := 81) (L' := [vr 5 0]) (st' := [vi (I2 5 0 4), vr 5 0]) (h' := (101, (cpyI (updI I2 5 0 8 x1) 30 0 37 0 0 0 (I2 1 0 1).toNatClampNeg), J3, R0 b)) 3 rfl ?_
      refine WP.if_eq (t := 92) (L' := [vr 5 0]) rfl rfl rfl rfl h (fun h => ?_) (fun h => ?_)
      · refine WP.blk (pc' := 100) (L' := [vn]) (st' := []) (h' := (101, (updI (cpyI (updI I2 5 0 8 x1) 30 0 37 0 0 0 (I2 1 0 1).toNatClampNeg) 5 0 6 1), J3, R0 b)) 3 rfl ?_
        exact WP.ret rfl rfl h
      · refine WP.blk (pc' := 89) (L' := [vr 5 0]) (st' := [vi 3, vi (I2 5 0 4), vr 5 0]) (h' := (101, (cpyI (updI I2 5 0 8 x1) 30 0 37 0 0 0 (I2 1 0 1).toNatClampNeg), J3, R0 b)) 3 rfl ?_
        refine WP.icmp_ne (t := 96) (L' := [vr 5 0]) rfl rfl rfl rfl h (fun h => ?_) (fun h => ?_)
        · refine WP.blk (pc' := 100) (L' := [vn]) (st' := []) (h' := (101, (updI (cpyI (updI I2 5 0 8 x1) 30 0 37 0 0 0 (I2 1 0 1).toNatClampNeg) 5 0 6 0), J3, R0 b)) 2 rfl ?_
          exact WP.ret rfl rfl h
        · refine WP.blk (pc' := 100) (L' := [vn]) (st' := []) (h' := (101, (updI (cpyI (updI I2 5 0 8 x1) 30 0 37 0 0 0 (I2 1 0 1).toNatClampNeg) 5 0 6 1), J3, R0 b)) 3 rfl ?_
          exact WP.ret rfl rfl h
    · refine WP.blk (pc' := 81) (L' := [vr 5 0]) (st' := [vi (I2 5 0 4), vr 5 0]) (h' := (101, (updI (cpyI (updI I2 5 0 8 x1) 30 0 37 0 0 0 (I2 1 0 1).toNatClampNeg) 5 0 5 x1), J3, R0 b)) 7 rfl ?_
      refine WP.if_eq (t := 92) (L' := [vr 5 0]) rfl rfl rfl rfl h (fun h => ?_) (fun h => ?_)
      · refine WP.blk (pc' := 100) (L' := [vn]) (st' := []) (h' := (101, (updI (updI (cpyI (updI I2 5 0 8 x1) 30 0 37 0 0 0 (I2 1 0 1).toNatClampNeg) 5 0 5 x1) 5 0 6 1), J3, R0 b)) 3 rfl ?_
        exact WP.ret rfl rfl h
      · refine WP.blk (pc' := 89) (L' := [vr 5 0]) (st' := [vi 3, vi (I2 5 0 4), vr 5 0]) (h' := (101, (updI (cpyI (updI I2 5 0 8 x1) 30 0 37 0 0 0 (I2 1 0 1).toNatClampNeg) 5 0 5 x1), J3, R0 b)) 3 rfl ?_
        refine WP.icmp_ne (t := 96) (L' := [vr 5 0]) rfl rfl rfl rfl h (fun h => ?_) (fun h => ?_)
        · refine WP.blk (pc' := 100) (L' := [vn]) (st' := []) (h' := (101, (updI (updI (cpyI (updI I2 5 0 8 x1) 30 0 37 0 0 0 (I2 1 0 1).toNatClampNeg) 5 0 5 x1) 5 0 6 0), J3, R0 b)) 2 rfl ?_
          exact WP.ret rfl rfl h
        · refine WP.blk (pc' := 100) (L' := [vn]) (st' := []) (h' := (101, (updI (updI (cpyI (updI I2 5 0 8 x1) 30 0 37 0 0 0 (I2 1 0 1).toNatClampNeg) 5 0 5 x1) 5 0 6 1), J3, R0 b)) 3 rfl ?_
          exact WP.ret rfl rfl h
  · refine WP.blk (pc' := 23) (L' := [vr 5 0]) (st' := [vi 2, vi (I 5 0 4)]) (h' := (101, (updI I 5 0 7 ((I 5 0 7) + (1 : Int32))), J, R0 b)) 3 rfl ?_
    refine WP.icmp_ne (t := 60) (L' := [vr 5 0]) rfl rfl rfl rfl h (fun h => ?_) (fun h => ?_)
    · refine WP.blk (pc' := 65) (L' := [vr 5 0]) (st' := [vi 2, vi (I 5 0 4)]) (h' := (101, (updI I 5 0 7 ((I 5 0 7) + (1 : Int32))), J, R0 b)) 3 rfl ?_
      refine WP.icmp_ne (t := 76) (L' := [vr 5 0]) rfl rfl rfl rfl h (fun h => ?_) (fun h => ?_)
      · refine WP.blk (pc' := 81) (L' := [vr 5 0]) (st' := [vi (I 5 0 4), vr 5 0]) (h' := (101, (updI I 5 0 7 ((I 5 0 7) + (1 : Int32))), J, R0 b)) 3 rfl ?_
        refine WP.if_eq (t := 92) (L' := [vr 5 0]) rfl rfl rfl rfl h (fun h => ?_) (fun h => ?_)
        · refine WP.blk (pc' := 100) (L' := [vn]) (st' := []) (h' := (101, (updI (updI I 5 0 7 ((I 5 0 7) + (1 : Int32))) 5 0 6 1), J, R0 b)) 3 rfl ?_
          exact WP.ret rfl rfl h
        · refine WP.blk (pc' := 89) (L' := [vr 5 0]) (st' := [vi 3, vi (I 5 0 4), vr 5 0]) (h' := (101, (updI I 5 0 7 ((I 5 0 7) + (1 : Int32))), J, R0 b)) 3 rfl ?_
          refine WP.icmp_ne (t := 96) (L' := [vr 5 0]) rfl rfl rfl rfl h (fun h => ?_) (fun h => ?_)
          · refine WP.blk (pc' := 100) (L' := [vn]) (st' := []) (h' := (101, (updI (updI I 5 0 7 ((I 5 0 7) + (1 : Int32))) 5 0 6 0), J, R0 b)) 2 rfl ?_
            exact WP.ret rfl rfl h
          · refine WP.blk (pc' := 100) (L' := [vn]) (st' := []) (h' := (101, (updI (updI I 5 0 7 ((I 5 0 7) + (1 : Int32))) 5 0 6 1), J, R0 b)) 3 rfl ?_
            exact WP.ret rfl rfl h
      · refine WP.blk (pc' := 81) (L' := [vr 5 0]) (st' := [vi (I 5 0 4), vr 5 0]) (h' := (101, (updI (updI I 5 0 7 ((I 5 0 7) + (1 : Int32))) 5 0 5 (I 5 0 8)), J, R0 b)) 7 rfl ?_
        refine WP.if_eq (t := 92) (L' := [vr 5 0]) rfl rfl rfl rfl h (fun h => ?_) (fun h => ?_)
        · refine WP.blk (pc' := 100) (L' := [vn]) (st' := []) (h' := (101, (updI (updI (updI I 5 0 7 ((I 5 0 7) + (1 : Int32))) 5 0 5 (I 5 0 8)) 5 0 6 1), J, R0 b)) 3 rfl ?_
          exact WP.ret rfl rfl h
        · refine WP.blk (pc' := 89) (L' := [vr 5 0]) (st' := [vi 3, vi (I 5 0 4), vr 5 0]) (h' := (101, (updI (updI I 5 0 7 ((I 5 0 7) + (1 : Int32))) 5 0 5 (I 5 0 8)), J, R0 b)) 3 rfl ?_
          refine WP.icmp_ne (t := 96) (L' := [vr 5 0]) rfl rfl rfl rfl h (fun h => ?_) (fun h => ?_)
          · refine WP.blk (pc' := 100) (L' := [vn]) (st' := []) (h' := (101, (updI (updI (updI I 5 0 7 ((I 5 0 7) + (1 : Int32))) 5 0 5 (I 5 0 8)) 5 0 6 0), J, R0 b)) 2 rfl ?_
            exact WP.ret rfl rfl h
          · refine WP.blk (pc' := 100) (L' := [vn]) (st' := []) (h' := (101, (updI (updI (updI I 5 0 7 ((I 5 0 7) + (1 : Int32))) 5 0 5 (I 5 0 8)) 5 0 6 1), J, R0 b)) 3 rfl ?_
            exact WP.ret rfl rfl h
    · refine WP.blk (pc' := 31) (L' := [vr 5 0]) (st' := [vr 8 0, vr 5 0]) (h' := (101, (updI I 5 0 7 ((I 5 0 7) + (1 : Int32))), J, R0 b)) 3 rfl ?_
      refine WP.cal (y' := 73) (as := [vr 8 0]) (L' := [vr 5 0]) (rest := [vr 5 0]) rfl (fun f r h' hf => callV_ok hf rfl rfl rfl) h ?_
      rintro _ _ ⟨x4, I5, J6, rfl, rfl, h⟩
      refine WP.blk (pc' := 57) (L' := [vr 5 0]) (st' := [vi (I5 1 0 1), vi 0, vr 37 0, vi 0, vr 30 0]) (h' := (101, (updI I5 5 0 8 x4), J6, R0 b)) 11 rfl ?_
      refine WP.step (pc' := 60) (L' := [vr 5 0]) (st' := []) (h' := (101, (cpyI (updI I5 5 0 8 x4) 30 0 37 0 0 0 (I5 1 0 1).toNatClampNeg), J6, R0 b)) rfl (copyI_ok (y := 44) (sp := (0 : Int32)) (dp := (0 : Int32)) (n := (I5 1 0 1)) rfl rfl rfl rfl rfl rfl h.1) ?_
      have h := And.right h
      refine WP.blk (pc' := 65) (L' := [vr 5 0]) (st' := [vi 2, vi (I5 5 0 4)]) (h' := (101, (cpyI (updI I5 5 0 8 x4) 30 0 37 0 0 0 (I5 1 0 1).toNatClampNeg), J6, R0 b)) 3 rfl ?_
      refine WP.icmp_ne (t := 76) (L' := [vr 5 0]) rfl rfl rfl rfl h (fun h => ?_) (fun h => ?_)
      · refine WP.blk (pc' := 81) (L' := [vr 5 0]) (st' := [vi (I5 5 0 4), vr 5 0]) (h' := (101, (cpyI (updI I5 5 0 8 x4) 30 0 37 0 0 0 (I5 1 0 1).toNatClampNeg), J6, R0 b)) 3 rfl ?_
        refine WP.if_eq (t := 92) (L' := [vr 5 0]) rfl rfl rfl rfl h (fun h => ?_) (fun h => ?_)
        · refine WP.blk (pc' := 100) (L' := [vn]) (st' := []) (h' := (101, (updI (cpyI (updI I5 5 0 8 x4) 30 0 37 0 0 0 (I5 1 0 1).toNatClampNeg) 5 0 6 1), J6, R0 b)) 3 rfl ?_
          exact WP.ret rfl rfl h
        · refine WP.blk (pc' := 89) (L' := [vr 5 0]) (st' := [vi 3, vi (I5 5 0 4), vr 5 0]) (h' := (101, (cpyI (updI I5 5 0 8 x4) 30 0 37 0 0 0 (I5 1 0 1).toNatClampNeg), J6, R0 b)) 3 rfl ?_
          refine WP.icmp_ne (t := 96) (L' := [vr 5 0]) rfl rfl rfl rfl h (fun h => ?_) (fun h => ?_)
          · refine WP.blk (pc' := 100) (L' := [vn]) (st' := []) (h' := (101, (updI (cpyI (updI I5 5 0 8 x4) 30 0 37 0 0 0 (I5 1 0 1).toNatClampNeg) 5 0 6 0), J6, R0 b)) 2 rfl ?_
            exact WP.ret rfl rfl h
          · refine WP.blk (pc' := 100) (L' := [vn]) (st' := []) (h' := (101, (updI (cpyI (updI I5 5 0 8 x4) 30 0 37 0 0 0 (I5 1 0 1).toNatClampNeg) 5 0 6 1), J6, R0 b)) 3 rfl ?_
            exact WP.ret rfl rfl h
      · refine WP.blk (pc' := 81) (L' := [vr 5 0]) (st' := [vi (I5 5 0 4), vr 5 0]) (h' := (101, (updI (cpyI (updI I5 5 0 8 x4) 30 0 37 0 0 0 (I5 1 0 1).toNatClampNeg) 5 0 5 x4), J6, R0 b)) 7 rfl ?_
        refine WP.if_eq (t := 92) (L' := [vr 5 0]) rfl rfl rfl rfl h (fun h => ?_) (fun h => ?_)
        · refine WP.blk (pc' := 100) (L' := [vn]) (st' := []) (h' := (101, (updI (updI (cpyI (updI I5 5 0 8 x4) 30 0 37 0 0 0 (I5 1 0 1).toNatClampNeg) 5 0 5 x4) 5 0 6 1), J6, R0 b)) 3 rfl ?_
          exact WP.ret rfl rfl h
        · refine WP.blk (pc' := 89) (L' := [vr 5 0]) (st' := [vi 3, vi (I5 5 0 4), vr 5 0]) (h' := (101, (updI (cpyI (updI I5 5 0 8 x4) 30 0 37 0 0 0 (I5 1 0 1).toNatClampNeg) 5 0 5 x4), J6, R0 b)) 3 rfl ?_
          refine WP.icmp_ne (t := 96) (L' := [vr 5 0]) rfl rfl rfl rfl h (fun h => ?_) (fun h => ?_)
          · refine WP.blk (pc' := 100) (L' := [vn]) (st' := []) (h' := (101, (updI (updI (cpyI (updI I5 5 0 8 x4) 30 0 37 0 0 0 (I5 1 0 1).toNatClampNeg) 5 0 5 x4) 5 0 6 0), J6, R0 b)) 2 rfl ?_
            exact WP.ret rfl rfl h
          · refine WP.blk (pc' := 100) (L' := [vn]) (st' := []) (h' := (101, (updI (updI (cpyI (updI I5 5 0 8 x4) 30 0 37 0 0 0 (I5 1 0 1).toNatClampNeg) 5 0 5 x4) 5 0 6 1), J6, R0 b)) 3 rfl ?_
            exact WP.ret rfl rfl h
set_option maxRecDepth 20000 in
theorem t_X5_foundAsDigits {D : Nat}  (I : IM) (J : JM) (b : Bool) {Q : Option AV → AH → Prop} (h : WP D 45 4 [vr 5 0, vi 0, vi 0] [] (101, I, J, R0 b) Q) : Call (D + 1) 45 [vr 5 0] (101, I, J, R0 b) Q := by
  refine Call.of rfl ?_
  show WP D 45 0 [vr 5 0, vn, vn] [] (101, I, J, R0 b) Q
  refine WP.blk (pc' := 4) (L' := [vr 5 0, vi 0, vi 0]) (st' := []) (h' := (101, I, J, R0 b)) 4 rfl ?_
  exact WP.mask rfl rfl h
set_option maxRecDepth 20000 in
theorem t_X5_foundAsDigits_4 {D : Nat} (l1 : Int32) (l2 : Int32) (I : IM) (J : JM) (b : Bool) {Q : Option AV → AH → Prop} (h : (if (I 1 0 1) ≤ l2 then Q (some (vi l1)) (101, I, J, R0 b) else (vp_in l2 7 ∧ WP D 45 4 [vr 5 0, vi ((l1 * (10 : Int32)) + (I 37 0 l2.toNatClampNeg)), vi (l2 + 1)] [] (101, I, J, R0 b) Q))) : WP D 45 4 [vr 5 0, vi l1, vi l2] [] (101, I, J, R0 b) Q := by
  refine WP.blk (pc' := 12) (L' := [vr 5 0, vi l1, vi l2]) (st' := [vi (I 1 0 1), vi l2]) (h' := (101, I, J, R0 b)) 4 rfl ?_
  refine WP.icmp_ge (t := 33) (L' := [vr 5 0, vi l1, vi l2]) rfl rfl rfl rfl h (fun h => ?_) (fun h => ?_)
  · refine WP.blk (pc' := 34) (L' := [vr 5 0, vi l1, vi l2]) (st' := [vi l1]) (h' := (101, I, J, R0 b)) 1 rfl ?_
    exact WP.ret rfl rfl h
  · refine WP.blk (pc' := 24) (L' := [vr 5 0, vi l1, vi l2]) (st' := [vi l2, vr 37 0, vi (l1 * (10 : Int32))]) (h' := (101, I, J, R0 b)) 6 rfl ?_
    refine WP.step (pc' := 25) (L' := [vr 5 0, vi l1, vi l2]) (st' := [vi (I 37 0 l2.toNatClampNeg), vi (l1 * (10 : Int32))]) (h' := (101, I, J, R0 b)) rfl (iaload_ok (n := 7) rfl rfl rfl (inA_of h.1)) ?_
    have h := And.right h
    refine WP.blk (pc' := 4) (L' := [vr 5 0, vi ((l1 * (10 : Int32)) + (I 37 0 l2.toNatClampNeg)), vi (l2 + 1)]) (st' := []) (h' := (101, I, J, R0 b)) 4 rfl ?_
    exact WP.mask rfl rfl h
set_option maxRecDepth 20000 in
theorem t_X6_holdNothing {D : Nat} (w : Nat) (I : IM) (J : JM) (b : Bool) {Q : Option AV → AH → Prop} (h : Q none (101, (updI I 6 w 0 0), J, R0 b)) : Call (D + 1) 47 [vr 6 w] (101, I, J, R0 b) Q := by
  refine Call.of rfl ?_
  show WP D 47 0 [vr 6 w] [] (101, I, J, R0 b) Q
  refine WP.blk (pc' := 5) (L' := [vr 6 w]) (st' := []) (h' := (101, (updI I 6 w 0 0), J, R0 b)) 3 rfl ?_
  exact WP.ret rfl rfl h
set_option maxRecDepth 20000 in
theorem t_X6_holdBody {D : Nat} (w : Nat) (l1 : Int32) (I : IM) (J : JM) (b : Bool) {Q : Option AV → AH → Prop} (h : Q none (101, (updI (updI I 6 w 0 1) 6 w 1 l1), J, R0 b)) : Call (D + 1) 48 [vr 6 w, vi l1] (101, I, J, R0 b) Q := by
  refine Call.of rfl ?_
  show WP D 48 0 [vr 6 w, vi l1] [] (101, I, J, R0 b) Q
  refine WP.blk (pc' := 10) (L' := [vr 6 w, vi l1]) (st' := []) (h' := (101, (updI (updI I 6 w 0 1) 6 w 1 l1), J, R0 b)) 6 rfl ?_
  exact WP.ret rfl rfl h
set_option maxRecDepth 20000 in
theorem t_X6_holdRow {D : Nat} (w : Nat) (l1 : Int32) (l2 : Int32) (I : IM) (J : JM) (b : Bool) {Q : Option AV → AH → Prop} (h : (Call D 255 [vr 41 w, vl 0] (101, (updI (updI (updI I 6 w 0 2) 6 w 2 l1) 6 w 3 l2), J, R0 b) (RVf b fun I2 J3 => Q none (101, I2, J3, R0 b)))) : Call (D + 1) 49 [vr 6 w, vi l1, vi l2] (101, I, J, R0 b) Q := by
  refine Call.of rfl ?_
  show WP D 49 0 [vr 6 w, vi l1, vi l2] [] (101, I, J, R0 b) Q
  refine WP.blk (pc' := 20) (L' := [vr 6 w, vi l1, vi l2]) (st' := [vl 0, vr 41 w]) (h' := (101, (updI (updI (updI I 6 w 0 2) 6 w 2 l1) 6 w 3 l2), J, R0 b)) 12 rfl ?_
  refine WP.cal (y' := 255) (as := [vr 41 w, vl 0]) (L' := [vr 6 w, vi l1, vi l2]) (rest := []) rfl (fun f r h' hf => callS_ok hf rfl rfl rfl) h ?_
  rintro _ _ ⟨I2, J3, rfl, rfl, h⟩
  exact WP.ret rfl rfl h
set_option maxRecDepth 20000 in
theorem t_X6_lackOfRow {D : Nat} (w : Nat) (l1 : Int32) (I : IM) (J : JM) (b : Bool) {Q : Option AV → AH → Prop} (h : (if ¬ (I 6 w 0) = 0 then (if ¬ (I 6 w 0) = (2 : Int32) then Q (some (vi (-12))) (101, I, J, R0 b) else (if ¬ (I 6 w 2) = l1 then Q (some (vi (-12))) (101, I, J, R0 b) else Q (some (vi 0)) (101, I, J, R0 b))) else Q (some (vi (-11))) (101, I, J, R0 b))) : Call (D + 1) 50 [vr 6 w, vi l1] (101, I, J, R0 b) Q := by
  refine Call.of rfl ?_
  show WP D 50 0 [vr 6 w, vi l1] [] (101, I, J, R0 b) Q
  refine WP.blk (pc' := 4) (L' := [vr 6 w, vi l1]) (st' := [vi (I 6 w 0)]) (h' := (101, I, J, R0 b)) 2 rfl ?_
  refine WP.if_ne (t := 10) (L' := [vr 6 w, vi l1]) rfl rfl rfl rfl h (fun h => ?_) (fun h => ?_)
  · refine WP.blk (pc' := 15) (L' := [vr 6 w, vi l1]) (st' := [vi 2, vi (I 6 w 0)]) (h' := (101, I, J, R0 b)) 3 rfl ?_
    refine WP.icmp_ne (t := 30) (L' := [vr 6 w, vi l1]) rfl rfl rfl rfl h (fun h => ?_) (fun h => ?_)
    · refine WP.blk (pc' := 32) (L' := [vn, vn]) (st' := [vi (-12)]) (h' := (101, I, J, R0 b)) 1 rfl ?_
      exact WP.ret rfl rfl h
    · refine WP.blk (pc' := 23) (L' := [vr 6 w, vi l1]) (st' := [vi l1, vi (I 6 w 2)]) (h' := (101, I, J, R0 b)) 3 rfl ?_
      refine WP.icmp_ne (t := 30) (L' := [vr 6 w, vi l1]) rfl rfl rfl rfl h (fun h => ?_) (fun h => ?_)
      · refine WP.blk (pc' := 32) (L' := [vn, vn]) (st' := [vi (-12)]) (h' := (101, I, J, R0 b)) 1 rfl ?_
        exact WP.ret rfl rfl h
      · refine WP.blk (pc' := 32) (L' := [vr 6 w, vi l1]) (st' := [vi 0]) (h' := (101, I, J, R0 b)) 2 rfl ?_
        exact WP.ret rfl rfl h
  · refine WP.blk (pc' := 9) (L' := [vr 6 w, vi l1]) (st' := [vi (-11)]) (h' := (101, I, J, R0 b)) 1 rfl ?_
    exact WP.ret rfl rfl h
set_option maxRecDepth 20000 in
theorem t_X6_hasPlaces {D : Nat} (w : Nat) (l1 : Int32) (l2 : Int32) (I : IM) (J : JM) (b : Bool) {Q : Option AV → AH → Prop} (h : (if l1 < 0 then Q (some (vi 0)) (101, I, J, R0 b) else (if l2 < 0 then Q (some (vi 0)) (101, I, J, R0 b) else (if (I 6 w 3) < l2 then Q (some (vi 0)) (101, I, J, R0 b) else (if ((I 6 w 3) - l2) < l1 then Q (some (vi 0)) (101, I, J, R0 b) else Q (some (vi 1)) (101, I, J, R0 b)))))) : Call (D + 1) 51 [vr 6 w, vi l1, vi l2] (101, I, J, R0 b) Q := by
  refine Call.of rfl ?_
  show WP D 51 0 [vr 6 w, vi l1, vi l2] [] (101, I, J, R0 b) Q
  refine WP.blk (pc' := 1) (L' := [vr 6 w, vi l1, vi l2]) (st' := [vi l1]) (h' := (101, I, J, R0 b)) 1 rfl ?_
  refine WP.if_lt (t := 30) (L' := [vr 6 w, vi l1, vi l2]) rfl rfl rfl rfl h (fun h => ?_) (fun h => ?_)
  · refine WP.blk (pc' := 31) (L' := [vn, vn, vn]) (st' := [vi 0]) (h' := (101, I, J, R0 b)) 1 rfl ?_
    exact WP.ret rfl rfl h
  · refine WP.blk (pc' := 5) (L' := [vr 6 w, vi l1, vi l2]) (st' := [vi l2]) (h' := (101, I, J, R0 b)) 1 rfl ?_
    refine WP.if_lt (t := 30) (L' := [vr 6 w, vi l1, vi l2]) rfl rfl rfl rfl h (fun h => ?_) (fun h => ?_)
    · refine WP.blk (pc' := 31) (L' := [vn, vn, vn]) (st' := [vi 0]) (h' := (101, I, J, R0 b)) 1 rfl ?_
      exact WP.ret rfl rfl h
    · refine WP.blk (pc' := 13) (L' := [vr 6 w, vi l1, vi l2]) (st' := [vi (I 6 w 3), vi l2]) (h' := (101, I, J, R0 b)) 3 rfl ?_
      refine WP.icmp_gt (t := 30) (L' := [vr 6 w, vi l1, vi l2]) rfl rfl rfl rfl h (fun h => ?_) (fun h => ?_)
      · refine WP.blk (pc' := 31) (L' := [vn, vn, vn]) (st' := [vi 0]) (h' := (101, I, J, R0 b)) 1 rfl ?_
        exact WP.ret rfl rfl h
      · refine WP.blk (pc' := 23) (L' := [vr 6 w, vi l1, vi l2]) (st' := [vi ((I 6 w 3) - l2), vi l1]) (h' := (101, I, J, R0 b)) 5 rfl ?_
        refine WP.icmp_gt (t := 30) (L' := [vr 6 w, vi l1, vi l2]) rfl rfl rfl rfl h (fun h => ?_) (fun h => ?_)
        · refine WP.blk (pc' := 31) (L' := [vn, vn, vn]) (st' := [vi 0]) (h' := (101, I, J, R0 b)) 1 rfl ?_
          exact WP.ret rfl rfl h
        · refine WP.blk (pc' := 31) (L' := [vr 6 w, vi l1, vi l2]) (st' := [vi 1]) (h' := (101, I, J, R0 b)) 2 rfl ?_
          exact WP.ret rfl rfl h
set_option maxRecDepth 20000 in
theorem t_X6_write {D : Nat} (w : Nat) (l1 : Int32) (l2 : Int64) (I : IM) (J : JM) (b : Bool) {Q : Option AV → AH → Prop} (h : (if (I 6 w 2) = 0 then (vp_in l1 60 ∧ Q none (101, I, (updJ J 41 w l1.toNatClampNeg (((l2).toInt32).toInt8.toInt32).toInt64), R0 b)) else (if (I 6 w 2) = 1 then (vp_in l1 60 ∧ Q none (101, I, (updJ J 41 w l1.toNatClampNeg (((l2).toInt32).toInt16.toInt32).toInt64), R0 b)) else (if (I 6 w 2) = 2 then (vp_in l1 60 ∧ Q none (101, I, (updJ J 41 w l1.toNatClampNeg ((l2).toInt32).toInt64), R0 b)) else (if (I 6 w 2) = 3 then (vp_in l1 60 ∧ Q none (101, I, (updJ J 41 w l1.toNatClampNeg l2), R0 b)) else (if (lg_cmp l2 (0 : Int64)) = 0 then (vp_in l1 60 ∧ Q none (101, I, (updJ J 41 w l1.toNatClampNeg 0), R0 b)) else (vp_in l1 60 ∧ Q none (101, I, (updJ J 41 w l1.toNatClampNeg 1), R0 b)))))))) : Call (D + 1) 52 [vr 6 w, vi l1, vl l2] (101, I, J, R0 b) Q := by
  refine Call.of rfl ?_
  show WP D 52 0 [vr 6 w, vi l1, vl l2, vn] [] (101, I, J, R0 b) Q
  refine WP.blk (pc' := 4) (L' := [vr 6 w, vi l1, vl l2, vn]) (st' := [vi (I 6 w 2)]) (h' := (101, I, J, R0 b)) 2 rfl ?_
  refine WP.step (pc' := swf [(0, 36), (1, 49), (2, 62), (3, 74)] 84 (I 6 w 2)) (L' := [vr 6 w, vi l1, vl l2, vn]) (st' := []) (h' := (101, I, J, R0 b)) rfl rfl ?_
  refine WP.ite (c := (I 6 w 2) = 0) (pc1 := 36) (pc2 := swf [(1, 49), (2, 62), (3, 74)] 84 (I 6 w 2)) h (fun h => ?_) (fun h => ?_)
  · refine WP.blk (pc' := 45) (L' := [vr 6 w, vi l1, vl l2, vn]) (st' := [vl (((l2).toInt32).toInt8.toInt32).toInt64, vi l1, vr 41 w]) (h' := (101, I, J, R0 b)) 7 rfl ?_
    refine WP.step (pc' := 46) (L' := [vr 6 w, vi l1, vl l2, vn]) (st' := []) (h' := (101, I, (updJ J 41 w l1.toNatClampNeg (((l2).toInt32).toInt8.toInt32).toInt64), R0 b)) rfl (lastore_ok (n := 60) rfl rfl rfl (inA_of h.1)) ?_
    have h := And.right h
    refine WP.blk (pc' := 101) (L' := [vr 6 w, vi l1, vl l2, vn]) (st' := []) (h' := (101, I, (updJ J 41 w l1.toNatClampNeg (((l2).toInt32).toInt8.toInt32).toInt64), R0 b)) 1 rfl ?_
    exact WP.ret rfl rfl h
  · refine WP.ite (c := (I 6 w 2) = 1) (pc1 := 49) (pc2 := swf [(2, 62), (3, 74)] 84 (I 6 w 2)) h (fun h => ?_) (fun h => ?_)
    · refine WP.blk (pc' := 58) (L' := [vr 6 w, vi l1, vl l2, vn]) (st' := [vl (((l2).toInt32).toInt16.toInt32).toInt64, vi l1, vr 41 w]) (h' := (101, I, J, R0 b)) 7 rfl ?_
      refine WP.step (pc' := 59) (L' := [vr 6 w, vi l1, vl l2, vn]) (st' := []) (h' := (101, I, (updJ J 41 w l1.toNatClampNeg (((l2).toInt32).toInt16.toInt32).toInt64), R0 b)) rfl (lastore_ok (n := 60) rfl rfl rfl (inA_of h.1)) ?_
      have h := And.right h
      refine WP.blk (pc' := 101) (L' := [vr 6 w, vi l1, vl l2, vn]) (st' := []) (h' := (101, I, (updJ J 41 w l1.toNatClampNeg (((l2).toInt32).toInt16.toInt32).toInt64), R0 b)) 1 rfl ?_
      exact WP.ret rfl rfl h
    · refine WP.ite (c := (I 6 w 2) = 2) (pc1 := 62) (pc2 := swf [(3, 74)] 84 (I 6 w 2)) h (fun h => ?_) (fun h => ?_)
      · refine WP.blk (pc' := 70) (L' := [vr 6 w, vi l1, vl l2, vn]) (st' := [vl ((l2).toInt32).toInt64, vi l1, vr 41 w]) (h' := (101, I, J, R0 b)) 6 rfl ?_
        refine WP.step (pc' := 71) (L' := [vr 6 w, vi l1, vl l2, vn]) (st' := []) (h' := (101, I, (updJ J 41 w l1.toNatClampNeg ((l2).toInt32).toInt64), R0 b)) rfl (lastore_ok (n := 60) rfl rfl rfl (inA_of h.1)) ?_
        have h := And.right h
        refine WP.blk (pc' := 101) (L' := [vr 6 w, vi l1, vl l2, vn]) (st' := []) (h' := (101, I, (updJ J 41 w l1.toNatClampNeg ((l2).toInt32).toInt64), R0 b)) 1 rfl ?_
        exact WP.ret rfl rfl h
      · refine WP.ite (c := (I 6 w 2) = 3) (pc1 := 74) (pc2 := swf [] 84 (I 6 w 2)) h (fun h => ?_) (fun h => ?_)
        · refine WP.blk (pc' := 80) (L' := [vr 6 w, vi l1, vl l2, vn]) (st' := [vl l2, vi l1, vr 41 w]) (h' := (101, I, J, R0 b)) 4 rfl ?_
          refine WP.step (pc' := 81) (L' := [vr 6 w, vi l1, vl l2, vn]) (st' := []) (h' := (101, I, (updJ J 41 w l1.toNatClampNeg l2), R0 b)) rfl (lastore_ok (n := 60) rfl rfl rfl (inA_of h.1)) ?_
          have h := And.right h
          refine WP.blk (pc' := 101) (L' := [vr 6 w, vi l1, vl l2, vn]) (st' := []) (h' := (101, I, (updJ J 41 w l1.toNatClampNeg l2), R0 b)) 1 rfl ?_
          exact WP.ret rfl rfl h
        · show WP D 52 84 [vr 6 w, vi l1, vl l2, vn] [] (101, I, J, R0 b) Q
          refine WP.blk (pc' := 92) (L' := [vr 6 w, vi l1, vl l2, vn]) (st' := [vi (lg_cmp l2 (0 : Int64)), vi l1, vr 41 w]) (h' := (101, I, J, R0 b)) 6 rfl ?_
          refine WP.if_eq (t := 99) (L' := [vr 6 w, vi l1, vl l2, vn]) rfl rfl rfl rfl h (fun h => ?_) (fun h => ?_)
          · refine WP.blk (pc' := 100) (L' := [vr 6 w, vi l1, vl l2, vn]) (st' := [vl 0, vi l1, vr 41 w]) (h' := (101, I, J, R0 b)) 1 rfl ?_
            refine WP.step (pc' := 101) (L' := [vn, vn, vn, vn]) (st' := []) (h' := (101, I, (updJ J 41 w l1.toNatClampNeg 0), R0 b)) rfl (lastore_ok (n := 60) rfl rfl rfl (inA_of h.1)) ?_
            have h := And.right h
            exact WP.ret rfl rfl h
          · refine WP.blk (pc' := 100) (L' := [vr 6 w, vi l1, vl l2, vn]) (st' := [vl 1, vi l1, vr 41 w]) (h' := (101, I, J, R0 b)) 2 rfl ?_
            refine WP.step (pc' := 101) (L' := [vn, vn, vn, vn]) (st' := []) (h' := (101, I, (updJ J 41 w l1.toNatClampNeg 1), R0 b)) rfl (lastore_ok (n := 60) rfl rfl rfl (inA_of h.1)) ?_
            have h := And.right h
            exact WP.ret rfl rfl h
set_option maxRecDepth 20000 in
theorem t_X0_kindOf {D : Nat} (l1 : Int32) (I : IM) (J : JM) (b : Bool) {Q : Option AV → AH → Prop} (h : (if l1 < 0 then Q (some (vi (-1))) (101, I, J, R0 b) else (if (I 0 0 4) ≤ l1 then Q (some (vi (-1))) (101, I, J, R0 b) else (vp_in l1 50 ∧ Q (some (vi (I 38 0 l1.toNatClampNeg))) (101, I, J, R0 b))))) : Call (D + 1) 256 [vr 0 0, vi l1] (101, I, J, R0 b) Q := by
  refine Call.of rfl ?_
  show WP D 256 0 [vr 0 0, vi l1] [] (101, I, J, R0 b) Q
  refine WP.blk (pc' := 1) (L' := [vr 0 0, vi l1]) (st' := [vi l1]) (h' := (101, I, J, R0 b)) 1 rfl ?_
  refine WP.if_lt (t := 21) (L' := [vr 0 0, vi l1]) rfl rfl rfl rfl h (fun h => ?_) (fun h => ?_)
  · refine WP.blk (pc' := 22) (L' := [vn, vn]) (st' := [vi (-1)]) (h' := (101, I, J, R0 b)) 1 rfl ?_
    exact WP.ret rfl rfl h
  · refine WP.blk (pc' := 9) (L' := [vr 0 0, vi l1]) (st' := [vi (I 0 0 4), vi l1]) (h' := (101, I, J, R0 b)) 3 rfl ?_
    refine WP.icmp_ge (t := 21) (L' := [vr 0 0, vi l1]) rfl rfl rfl rfl h (fun h => ?_) (fun h => ?_)
    · refine WP.blk (pc' := 22) (L' := [vn, vn]) (st' := [vi (-1)]) (h' := (101, I, J, R0 b)) 1 rfl ?_
      exact WP.ret rfl rfl h
    · refine WP.blk (pc' := 17) (L' := [vr 0 0, vi l1]) (st' := [vi l1, vr 38 0]) (h' := (101, I, J, R0 b)) 3 rfl ?_
      refine WP.step (pc' := 18) (L' := [vr 0 0, vi l1]) (st' := [vi (I 38 0 l1.toNatClampNeg)]) (h' := (101, I, J, R0 b)) rfl (iaload_ok (n := 50) rfl rfl rfl (inA_of h.1)) ?_
      have h := And.right h
      refine WP.blk (pc' := 22) (L' := [vr 0 0, vi l1]) (st' := [vi (I 38 0 l1.toNatClampNeg)]) (h' := (101, I, J, R0 b)) 1 rfl ?_
      exact WP.ret rfl rfl h
