/-! TREES, by program (wip/whole/gen16.py): what each method does between its cuts -/
set_option maxRecDepth 20000 in
theorem t_X1_placeOf {D : Nat} (l1 : Int32) (l2 : Int32) (I : IM) (J : JM) (b : Bool) {Q : Option AV → AH → Prop} (h : (if l2 < 0 then (if l2 < (6 : Int32) then Q (some (vi (-1))) (101, I, J, R0 b) else (if (10 : Int32) < l2 then Q (some (vi (-1))) (101, I, J, R0 b) else (if ¬ l1 = 0 then Q (some (vi (-1))) (101, I, J, R0 b) else Q (some (vi (((42 : Int32) + l2) - (6 : Int32)))) (101, I, J, R0 b)))) else (if (5 : Int32) < l2 then (if l2 < (6 : Int32) then Q (some (vi (-1))) (101, I, J, R0 b) else (if (10 : Int32) < l2 then Q (some (vi (-1))) (101, I, J, R0 b) else (if ¬ l1 = 0 then Q (some (vi (-1))) (101, I, J, R0 b) else Q (some (vi (((42 : Int32) + l2) - (6 : Int32)))) (101, I, J, R0 b)))) else (if l1 < 0 then Q (some (vi (-1))) (101, I, J, R0 b) else (if (I 1 0 1) ≤ l1 then Q (some (vi (-1))) (101, I, J, R0 b) else Q (some (vi ((l1 * (6 : Int32)) + l2))) (101, I, J, R0 b)))))) : Call (D + 1) 9 [vr 1 0, vi l1, vi l2] (101, I, J, R0 b) Q := by
  refine Call.of rfl ?_
  show WP D 9 0 [vr 1 0, vi l1, vi l2] [] (101, I, J, R0 b) Q
  refine WP.blk (pc' := 1) (L' := [vr 1 0, vi l1, vi l2]) (st' := [vi l2]) (h' := (101, I, J, R0 b)) 1 rfl ?_
  refine WP.if_lt (t := 32) (L' := [vr 1 0, vi l1, vi l2]) rfl rfl rfl rfl h (fun h => ?_) (fun h => ?_)
  · refine WP.blk (pc' := 35) (L' := [vn, vi l1, vi l2]) (st' := [vi 6, vi l2]) (h' := (101, I, J, R0 b)) 2 rfl ?_
    refine WP.icmp_lt (t := 58) (L' := [vn, vi l1, vi l2]) rfl rfl rfl rfl h (fun h => ?_) (fun h => ?_)
    · refine WP.blk (pc' := 59) (L' := [vn, vn, vn]) (st' := [vi (-1)]) (h' := (101, I, J, R0 b)) 1 rfl ?_
      exact WP.ret rfl rfl h
    · refine WP.blk (pc' := 41) (L' := [vn, vi l1, vi l2]) (st' := [vi 10, vi l2]) (h' := (101, I, J, R0 b)) 2 rfl ?_
      refine WP.icmp_gt (t := 58) (L' := [vn, vi l1, vi l2]) rfl rfl rfl rfl h (fun h => ?_) (fun h => ?_)
      · refine WP.blk (pc' := 59) (L' := [vn, vn, vn]) (st' := [vi (-1)]) (h' := (101, I, J, R0 b)) 1 rfl ?_
        exact WP.ret rfl rfl h
      · refine WP.blk (pc' := 45) (L' := [vn, vi l1, vi l2]) (st' := [vi l1]) (h' := (101, I, J, R0 b)) 1 rfl ?_
        refine WP.if_ne (t := 58) (L' := [vn, vi l1, vi l2]) rfl rfl rfl rfl h (fun h => ?_) (fun h => ?_)
        · refine WP.blk (pc' := 59) (L' := [vn, vn, vn]) (st' := [vi (-1)]) (h' := (101, I, J, R0 b)) 1 rfl ?_
          exact WP.ret rfl rfl h
        · refine WP.blk (pc' := 59) (L' := [vn, vi l1, vi l2]) (st' := [vi (((42 : Int32) + l2) - (6 : Int32))]) (h' := (101, I, J, R0 b)) 6 rfl ?_
          exact WP.ret rfl rfl h
  · refine WP.blk (pc' := 6) (L' := [vr 1 0, vi l1, vi l2]) (st' := [vi 5, vi l2]) (h' := (101, I, J, R0 b)) 2 rfl ?_
    refine WP.icmp_gt (t := 32) (L' := [vr 1 0, vi l1, vi l2]) rfl rfl rfl rfl h (fun h => ?_) (fun h => ?_)
    · refine WP.blk (pc' := 35) (L' := [vn, vi l1, vi l2]) (st' := [vi 6, vi l2]) (h' := (101, I, J, R0 b)) 2 rfl ?_
      refine WP.icmp_lt (t := 58) (L' := [vn, vi l1, vi l2]) rfl rfl rfl rfl h (fun h => ?_) (fun h => ?_)
      · refine WP.blk (pc' := 59) (L' := [vn, vn, vn]) (st' := [vi (-1)]) (h' := (101, I, J, R0 b)) 1 rfl ?_
        exact WP.ret rfl rfl h
      · refine WP.blk (pc' := 41) (L' := [vn, vi l1, vi l2]) (st' := [vi 10, vi l2]) (h' := (101, I, J, R0 b)) 2 rfl ?_
        refine WP.icmp_gt (t := 58) (L' := [vn, vi l1, vi l2]) rfl rfl rfl rfl h (fun h => ?_) (fun h => ?_)
        · refine WP.blk (pc' := 59) (L' := [vn, vn, vn]) (st' := [vi (-1)]) (h' := (101, I, J, R0 b)) 1 rfl ?_
          exact WP.ret rfl rfl h
        · refine WP.blk (pc' := 45) (L' := [vn, vi l1, vi l2]) (st' := [vi l1]) (h' := (101, I, J, R0 b)) 1 rfl ?_
          refine WP.if_ne (t := 58) (L' := [vn, vi l1, vi l2]) rfl rfl rfl rfl h (fun h => ?_) (fun h => ?_)
          · refine WP.blk (pc' := 59) (L' := [vn, vn, vn]) (st' := [vi (-1)]) (h' := (101, I, J, R0 b)) 1 rfl ?_
            exact WP.ret rfl rfl h
          · refine WP.blk (pc' := 59) (L' := [vn, vi l1, vi l2]) (st' := [vi (((42 : Int32) + l2) - (6 : Int32))]) (h' := (101, I, J, R0 b)) 6 rfl ?_
            exact WP.ret rfl rfl h
    · refine WP.blk (pc' := 10) (L' := [vr 1 0, vi l1, vi l2]) (st' := [vi l1]) (h' := (101, I, J, R0 b)) 1 rfl ?_
      refine WP.if_lt (t := 30) (L' := [vr 1 0, vi l1, vi l2]) rfl rfl rfl rfl h (fun h => ?_) (fun h => ?_)
      · refine WP.blk (pc' := 31) (L' := [vn, vn, vn]) (st' := [vi (-1)]) (h' := (101, I, J, R0 b)) 1 rfl ?_
        exact WP.ret rfl rfl h
      · refine WP.blk (pc' := 18) (L' := [vr 1 0, vi l1, vi l2]) (st' := [vi (I 1 0 1), vi l1]) (h' := (101, I, J, R0 b)) 3 rfl ?_
        refine WP.icmp_ge (t := 30) (L' := [vr 1 0, vi l1, vi l2]) rfl rfl rfl rfl h (fun h => ?_) (fun h => ?_)
        · refine WP.blk (pc' := 31) (L' := [vn, vn, vn]) (st' := [vi (-1)]) (h' := (101, I, J, R0 b)) 1 rfl ?_
          exact WP.ret rfl rfl h
        · refine WP.blk (pc' := 31) (L' := [vr 1 0, vi l1, vi l2]) (st' := [vi ((l1 * (6 : Int32)) + l2)]) (h' := (101, I, J, R0 b)) 6 rfl ?_
          exact WP.ret rfl rfl h
set_option maxRecDepth 20000 in
theorem t_X1_mayBe {D : Nat} (l1 : Int32) (l2 : Int32) (l3 : Int32) (I : IM) (J : JM) (b : Bool) {Q : Option AV → AH → Prop} (h : (if l2 < 0 then Q (some (vi 0)) (101, I, J, R0 b) else (if (10 : Int32) < l2 then Q (some (vi 0)) (101, I, J, R0 b) else (vp_in l2 11 ∧ (if l3 < ((STl 900).getD l2.toNatClampNeg 0) then Q (some (vi 0)) (101, I, J, R0 b) else (vp_in l2 11 ∧ (if l3 ≤ ((STl 901).getD l2.toNatClampNeg 0) then (if l2 = (4 : Int32) then (if ¬ ((l3 >>> (l1 &&& 31)) &&& (1 : Int32)) = 0 then Q (some (vi 0)) (101, I, J, R0 b) else Q (some (vi 1)) (101, I, J, R0 b)) else (if ¬ l2 = (5 : Int32) then Q (some (vi 1)) (101, I, J, R0 b) else (if ¬ ((l3 >>> (l1 &&& 31)) &&& (1 : Int32)) = 0 then Q (some (vi 0)) (101, I, J, R0 b) else Q (some (vi 1)) (101, I, J, R0 b)))) else Q (some (vi 0)) (101, I, J, R0 b)))))))) : Call (D + 1) 10 [vr 1 0, vi l1, vi l2, vi l3] (101, I, J, R0 b) Q := by
  refine Call.of rfl ?_
  show WP D 10 0 [vr 1 0, vi l1, vi l2, vi l3] [] (101, I, J, R0 b) Q
  refine WP.blk (pc' := 1) (L' := [vr 1 0, vi l1, vi l2, vi l3]) (st' := [vi l2]) (h' := (101, I, J, R0 b)) 1 rfl ?_
  refine WP.if_lt (t := 28) (L' := [vr 1 0, vi l1, vi l2, vi l3]) rfl rfl rfl rfl h (fun h => ?_) (fun h => ?_)
  · refine WP.blk (pc' := 29) (L' := [vn, vn, vn, vn]) (st' := [vi 0]) (h' := (101, I, J, R0 b)) 1 rfl ?_
    exact WP.ret rfl rfl h
  · refine WP.blk (pc' := 7) (L' := [vr 1 0, vi l1, vi l2, vi l3]) (st' := [vi 10, vi l2]) (h' := (101, I, J, R0 b)) 2 rfl ?_
    refine WP.icmp_gt (t := 28) (L' := [vr 1 0, vi l1, vi l2, vi l3]) rfl rfl rfl rfl h (fun h => ?_) (fun h => ?_)
    · refine WP.blk (pc' := 29) (L' := [vn, vn, vn, vn]) (st' := [vi 0]) (h' := (101, I, J, R0 b)) 1 rfl ?_
      exact WP.ret rfl rfl h
    · refine WP.blk (pc' := 15) (L' := [vr 1 0, vi l1, vi l2, vi l3]) (st' := [vi l2, vr 900 0, vi l3]) (h' := (101, I, J, R0 b)) 3 rfl ?_
      refine WP.step (pc' := 16) (L' := [vr 1 0, vi l1, vi l2, vi l3]) (st' := [vi ((STl 900).getD l2.toNatClampNeg 0), vi l3]) (h' := (101, I, J, R0 b)) rfl (iaload_ok (n := 11) rfl rfl rfl (inA_of h.1)) ?_
      have h := And.right h
      refine WP.icmp_lt (t := 28) (L' := [vr 1 0, vi l1, vi l2, vi l3]) rfl rfl rfl rfl h (fun h => ?_) (fun h => ?_)
      · refine WP.blk (pc' := 29) (L' := [vn, vn, vn, vn]) (st' := [vi 0]) (h' := (101, I, J, R0 b)) 1 rfl ?_
        exact WP.ret rfl rfl h
      · refine WP.blk (pc' := 24) (L' := [vr 1 0, vi l1, vi l2, vi l3]) (st' := [vi l2, vr 901 0, vi l3]) (h' := (101, I, J, R0 b)) 3 rfl ?_
        refine WP.step (pc' := 25) (L' := [vr 1 0, vi l1, vi l2, vi l3]) (st' := [vi ((STl 901).getD l2.toNatClampNeg 0), vi l3]) (h' := (101, I, J, R0 b)) rfl (iaload_ok (n := 11) rfl rfl rfl (inA_of h.1)) ?_
        have h := And.right h
        refine WP.icmp_le (t := 30) (L' := [vr 1 0, vi l1, vi l2, vi l3]) rfl rfl rfl rfl h (fun h => ?_) (fun h => ?_)
        · refine WP.blk (pc' := 32) (L' := [vr 1 0, vi l1, vi l2, vi l3]) (st' := [vi 4, vi l2]) (h' := (101, I, J, R0 b)) 2 rfl ?_
          refine WP.icmp_eq (t := 40) (L' := [vr 1 0, vi l1, vi l2, vi l3]) rfl rfl rfl rfl h (fun h => ?_) (fun h => ?_)
          · refine WP.blk (pc' := 45) (L' := [vn, vi l1, vn, vi l3]) (st' := [vi ((l3 >>> (l1 &&& 31)) &&& (1 : Int32))]) (h' := (101, I, J, R0 b)) 5 rfl ?_
            refine WP.if_ne (t := 52) (L' := [vn, vi l1, vn, vi l3]) rfl rfl rfl rfl h (fun h => ?_) (fun h => ?_)
            · refine WP.blk (pc' := 53) (L' := [vn, vi l1, vn, vi l3]) (st' := [vi 0]) (h' := (101, I, J, R0 b)) 1 rfl ?_
              exact WP.ret rfl rfl h
            · refine WP.blk (pc' := 53) (L' := [vn, vn, vn, vn]) (st' := [vi 1]) (h' := (101, I, J, R0 b)) 2 rfl ?_
              exact WP.ret rfl rfl h
          · refine WP.blk (pc' := 37) (L' := [vr 1 0, vi l1, vi l2, vi l3]) (st' := [vi 5, vi l2]) (h' := (101, I, J, R0 b)) 2 rfl ?_
            refine WP.icmp_ne (t := 48) (L' := [vr 1 0, vi l1, vi l2, vi l3]) rfl rfl rfl rfl h (fun h => ?_) (fun h => ?_)
            · refine WP.blk (pc' := 53) (L' := [vn, vn, vn, vn]) (st' := [vi 1]) (h' := (101, I, J, R0 b)) 2 rfl ?_
              exact WP.ret rfl rfl h
            · refine WP.blk (pc' := 45) (L' := [vn, vi l1, vn, vi l3]) (st' := [vi ((l3 >>> (l1 &&& 31)) &&& (1 : Int32))]) (h' := (101, I, J, R0 b)) 5 rfl ?_
              refine WP.if_ne (t := 52) (L' := [vn, vi l1, vn, vi l3]) rfl rfl rfl rfl h (fun h => ?_) (fun h => ?_)
              · refine WP.blk (pc' := 53) (L' := [vn, vi l1, vn, vi l3]) (st' := [vi 0]) (h' := (101, I, J, R0 b)) 1 rfl ?_
                exact WP.ret rfl rfl h
              · refine WP.blk (pc' := 53) (L' := [vn, vn, vn, vn]) (st' := [vi 1]) (h' := (101, I, J, R0 b)) 2 rfl ?_
                exact WP.ret rfl rfl h
        · refine WP.blk (pc' := 29) (L' := [vn, vn, vn, vn]) (st' := [vi 0]) (h' := (101, I, J, R0 b)) 1 rfl ?_
          exact WP.ret rfl rfl h
set_option maxRecDepth 20000 in
theorem t_X1_numberOf {D : Nat} (l1 : Int32) (l2 : Int32) (I : IM) (J : JM) (b : Bool) {Q : Option AV → AH → Prop} (h : (if ((l1 * (6 : Int32)) + l2) < 0 then Q (some (vi 0)) (101, I, J, R0 b) else (if (42 : Int32) ≤ ((l1 * (6 : Int32)) + l2) then Q (some (vi 0)) (101, I, J, R0 b) else (vp_in ((l1 * (6 : Int32)) + l2) 47 ∧ Q (some (vi (I 20 0 ((l1 * (6 : Int32)) + l2).toNatClampNeg))) (101, I, J, R0 b))))) : Call (D + 1) 11 [vr 1 0, vi l1, vi l2] (101, I, J, R0 b) Q := by
  refine Call.of rfl ?_
  show WP D 11 0 [vr 1 0, vi l1, vi l2, vn] [] (101, I, J, R0 b) Q
  refine WP.blk (pc' := 8) (L' := [vr 1 0, vi l1, vi l2, vi ((l1 * (6 : Int32)) + l2)]) (st' := [vi ((l1 * (6 : Int32)) + l2)]) (h' := (101, I, J, R0 b)) 7 rfl ?_
  refine WP.if_lt (t := 26) (L' := [vr 1 0, vi l1, vi l2, vi ((l1 * (6 : Int32)) + l2)]) rfl rfl rfl rfl h (fun h => ?_) (fun h => ?_)
  · refine WP.blk (pc' := 27) (L' := [vn, vn, vn, vn]) (st' := [vi 0]) (h' := (101, I, J, R0 b)) 1 rfl ?_
    exact WP.ret rfl rfl h
  · refine WP.blk (pc' := 14) (L' := [vr 1 0, vi l1, vi l2, vi ((l1 * (6 : Int32)) + l2)]) (st' := [vi 42, vi ((l1 * (6 : Int32)) + l2)]) (h' := (101, I, J, R0 b)) 2 rfl ?_
    refine WP.icmp_ge (t := 26) (L' := [vr 1 0, vi l1, vi l2, vi ((l1 * (6 : Int32)) + l2)]) rfl rfl rfl rfl h (fun h => ?_) (fun h => ?_)
    · refine WP.blk (pc' := 27) (L' := [vn, vn, vn, vn]) (st' := [vi 0]) (h' := (101, I, J, R0 b)) 1 rfl ?_
      exact WP.ret rfl rfl h
    · refine WP.blk (pc' := 22) (L' := [vr 1 0, vi l1, vi l2, vi ((l1 * (6 : Int32)) + l2)]) (st' := [vi ((l1 * (6 : Int32)) + l2), vr 20 0]) (h' := (101, I, J, R0 b)) 3 rfl ?_
      refine WP.step (pc' := 23) (L' := [vr 1 0, vi l1, vi l2, vi ((l1 * (6 : Int32)) + l2)]) (st' := [vi (I 20 0 ((l1 * (6 : Int32)) + l2).toNatClampNeg)]) (h' := (101, I, J, R0 b)) rfl (iaload_ok (n := 47) rfl rfl rfl (inA_of h.1)) ?_
      have h := And.right h
      refine WP.blk (pc' := 27) (L' := [vr 1 0, vi l1, vi l2, vi ((l1 * (6 : Int32)) + l2)]) (st' := [vi (I 20 0 ((l1 * (6 : Int32)) + l2).toNatClampNeg)]) (h' := (101, I, J, R0 b)) 1 rfl ?_
      exact WP.ret rfl rfl h
set_option maxRecDepth 20000 in
theorem t_X1_standing {D : Nat} (l1 : Int32) (I : IM) (J : JM) (b : Bool) {Q : Option AV → AH → Prop} (h : (if l1 < (6 : Int32) then Q (some (vi 0)) (101, I, J, R0 b) else (if (10 : Int32) < l1 then Q (some (vi 0)) (101, I, J, R0 b) else (vp_in (((42 : Int32) + l1) - (6 : Int32)) 47 ∧ Q (some (vi (I 20 0 (((42 : Int32) + l1) - (6 : Int32)).toNatClampNeg))) (101, I, J, R0 b))))) : Call (D + 1) 12 [vr 1 0, vi l1] (101, I, J, R0 b) Q := by
  refine Call.of rfl ?_
  show WP D 12 0 [vr 1 0, vi l1] [] (101, I, J, R0 b) Q
  refine WP.blk (pc' := 3) (L' := [vr 1 0, vi l1]) (st' := [vi 6, vi l1]) (h' := (101, I, J, R0 b)) 2 rfl ?_
  refine WP.icmp_lt (t := 27) (L' := [vr 1 0, vi l1]) rfl rfl rfl rfl h (fun h => ?_) (fun h => ?_)
  · refine WP.blk (pc' := 28) (L' := [vn, vn]) (st' := [vi 0]) (h' := (101, I, J, R0 b)) 1 rfl ?_
    exact WP.ret rfl rfl h
  · refine WP.blk (pc' := 9) (L' := [vr 1 0, vi l1]) (st' := [vi 10, vi l1]) (h' := (101, I, J, R0 b)) 2 rfl ?_
    refine WP.icmp_gt (t := 27) (L' := [vr 1 0, vi l1]) rfl rfl rfl rfl h (fun h => ?_) (fun h => ?_)
    · refine WP.blk (pc' := 28) (L' := [vn, vn]) (st' := [vi 0]) (h' := (101, I, J, R0 b)) 1 rfl ?_
      exact WP.ret rfl rfl h
    · refine WP.blk (pc' := 23) (L' := [vr 1 0, vi l1]) (st' := [vi (((42 : Int32) + l1) - (6 : Int32)), vr 20 0]) (h' := (101, I, J, R0 b)) 7 rfl ?_
      refine WP.step (pc' := 24) (L' := [vr 1 0, vi l1]) (st' := [vi (I 20 0 (((42 : Int32) + l1) - (6 : Int32)).toNatClampNeg)]) (h' := (101, I, J, R0 b)) rfl (iaload_ok (n := 47) rfl rfl rfl (inA_of h.1)) ?_
      have h := And.right h
      refine WP.blk (pc' := 28) (L' := [vr 1 0, vi l1]) (st' := [vi (I 20 0 (((42 : Int32) + l1) - (6 : Int32)).toNatClampNeg)]) (h' := (101, I, J, R0 b)) 1 rfl ?_
      exact WP.ret rfl rfl h
set_option maxRecDepth 20000 in
theorem t_X1_add {D : Nat} (l1 : Int32) (l2 : Int32) (l3 : Int32) (I : IM) (J : JM) (b : Bool) {Q : Option AV → AH → Prop} (h : (if (I 1 0 1) < (7 : Int32) then (vp_in (((I 1 0 1) * (6 : Int32)) + (0 : Int32)) 47 ∧ (vp_in (((I 1 0 1) * (6 : Int32)) + (1 : Int32)) 47 ∧ (vp_in (((I 1 0 1) * (6 : Int32)) + (2 : Int32)) 47 ∧ (vp_in (((I 1 0 1) * (6 : Int32)) + (3 : Int32)) 47 ∧ Q (some (vi (((I 1 0 1) + (1 : Int32)) - (1 : Int32)))) (101, (updI (updI (updI (updI (updI I 20 0 (((I 1 0 1) * (6 : Int32)) + (0 : Int32)).toNatClampNeg l1) 20 0 (((I 1 0 1) * (6 : Int32)) + (1 : Int32)).toNatClampNeg l2) 20 0 (((I 1 0 1) * (6 : Int32)) + (2 : Int32)).toNatClampNeg l3) 20 0 (((I 1 0 1) * (6 : Int32)) + (3 : Int32)).toNatClampNeg 1) 1 0 1 ((I 1 0 1) + (1 : Int32))), J, R0 b))))) else Q (some (vi (-3))) (101, I, J, R0 b))) : Call (D + 1) 13 [vr 1 0, vi l1, vi l2, vi l3] (101, I, J, R0 b) Q := by
  refine Call.of rfl ?_
  show WP D 13 0 [vr 1 0, vi l1, vi l2, vi l3, vn] [] (101, I, J, R0 b) Q
  refine WP.blk (pc' := 6) (L' := [vr 1 0, vi l1, vi l2, vi l3, vn]) (st' := [vi 7, vi (I 1 0 1)]) (h' := (101, I, J, R0 b)) 3 rfl ?_
  refine WP.icmp_lt (t := 12) (L' := [vr 1 0, vi l1, vi l2, vi l3, vn]) rfl rfl rfl rfl h (fun h => ?_) (fun h => ?_)
  · refine WP.blk (pc' := 30) (L' := [vr 1 0, vi l1, vi l2, vi l3, vi ((I 1 0 1) * (6 : Int32))]) (st' := [vi l1, vi (((I 1 0 1) * (6 : Int32)) + (0 : Int32)), vr 20 0]) (h' := (101, I, J, R0 b)) 11 rfl ?_
    refine WP.step (pc' := 31) (L' := [vr 1 0, vi l1, vi l2, vi l3, vi ((I 1 0 1) * (6 : Int32))]) (st' := []) (h' := (101, (updI I 20 0 (((I 1 0 1) * (6 : Int32)) + (0 : Int32)).toNatClampNeg l1), J, R0 b)) rfl (iastore_ok (n := 47) rfl rfl rfl (inA_of h.1)) ?_
    have h := And.right h
    refine WP.blk (pc' := 40) (L' := [vr 1 0, vi l1, vi l2, vi l3, vi ((I 1 0 1) * (6 : Int32))]) (st' := [vi l2, vi (((I 1 0 1) * (6 : Int32)) + (1 : Int32)), vr 20 0]) (h' := (101, (updI I 20 0 (((I 1 0 1) * (6 : Int32)) + (0 : Int32)).toNatClampNeg l1), J, R0 b)) 6 rfl ?_
    refine WP.step (pc' := 41) (L' := [vr 1 0, vi l1, vi l2, vi l3, vi ((I 1 0 1) * (6 : Int32))]) (st' := []) (h' := (101, (updI (updI I 20 0 (((I 1 0 1) * (6 : Int32)) + (0 : Int32)).toNatClampNeg l1) 20 0 (((I 1 0 1) * (6 : Int32)) + (1 : Int32)).toNatClampNeg l2), J, R0 b)) rfl (iastore_ok (n := 47) rfl rfl rfl (inA_of h.1)) ?_
    have h := And.right h
    refine WP.blk (pc' := 50) (L' := [vr 1 0, vi l1, vi l2, vi l3, vi ((I 1 0 1) * (6 : Int32))]) (st' := [vi l3, vi (((I 1 0 1) * (6 : Int32)) + (2 : Int32)), vr 20 0]) (h' := (101, (updI (updI I 20 0 (((I 1 0 1) * (6 : Int32)) + (0 : Int32)).toNatClampNeg l1) 20 0 (((I 1 0 1) * (6 : Int32)) + (1 : Int32)).toNatClampNeg l2), J, R0 b)) 6 rfl ?_
    refine WP.step (pc' := 51) (L' := [vr 1 0, vi l1, vi l2, vi l3, vi ((I 1 0 1) * (6 : Int32))]) (st' := []) (h' := (101, (updI (updI (updI I 20 0 (((I 1 0 1) * (6 : Int32)) + (0 : Int32)).toNatClampNeg l1) 20 0 (((I 1 0 1) * (6 : Int32)) + (1 : Int32)).toNatClampNeg l2) 20 0 (((I 1 0 1) * (6 : Int32)) + (2 : Int32)).toNatClampNeg l3), J, R0 b)) rfl (iastore_ok (n := 47) rfl rfl rfl (inA_of h.1)) ?_
    have h := And.right h
    refine WP.blk (pc' := 60) (L' := [vr 1 0, vi l1, vi l2, vi l3, vi ((I 1 0 1) * (6 : Int32))]) (st' := [vi 1, vi (((I 1 0 1) * (6 : Int32)) + (3 : Int32)), vr 20 0]) (h' := (101, (updI (updI (updI I 20 0 (((I 1 0 1) * (6 : Int32)) + (0 : Int32)).toNatClampNeg l1) 20 0 (((I 1 0 1) * (6 : Int32)) + (1 : Int32)).toNatClampNeg l2) 20 0 (((I 1 0 1) * (6 : Int32)) + (2 : Int32)).toNatClampNeg l3), J, R0 b)) 6 rfl ?_
    refine WP.step (pc' := 61) (L' := [vr 1 0, vi l1, vi l2, vi l3, vi ((I 1 0 1) * (6 : Int32))]) (st' := []) (h' := (101, (updI (updI (updI (updI I 20 0 (((I 1 0 1) * (6 : Int32)) + (0 : Int32)).toNatClampNeg l1) 20 0 (((I 1 0 1) * (6 : Int32)) + (1 : Int32)).toNatClampNeg l2) 20 0 (((I 1 0 1) * (6 : Int32)) + (2 : Int32)).toNatClampNeg l3) 20 0 (((I 1 0 1) * (6 : Int32)) + (3 : Int32)).toNatClampNeg 1), J, R0 b)) rfl (iastore_ok (n := 47) rfl rfl rfl (inA_of h.1)) ?_
    have h := And.right h
    refine WP.blk (pc' := 77) (L' := [vr 1 0, vi l1, vi l2, vi l3, vi ((I 1 0 1) * (6 : Int32))]) (st' := [vi (((I 1 0 1) + (1 : Int32)) - (1 : Int32))]) (h' := (101, (updI (updI (updI (updI (updI I 20 0 (((I 1 0 1) * (6 : Int32)) + (0 : Int32)).toNatClampNeg l1) 20 0 (((I 1 0 1) * (6 : Int32)) + (1 : Int32)).toNatClampNeg l2) 20 0 (((I 1 0 1) * (6 : Int32)) + (2 : Int32)).toNatClampNeg l3) 20 0 (((I 1 0 1) * (6 : Int32)) + (3 : Int32)).toNatClampNeg 1) 1 0 1 ((I 1 0 1) + (1 : Int32))), J, R0 b)) 10 rfl ?_
    exact WP.ret rfl rfl h
  · refine WP.blk (pc' := 11) (L' := [vr 1 0, vi l1, vi l2, vi l3, vn]) (st' := [vi (-3)]) (h' := (101, I, J, R0 b)) 1 rfl ?_
    exact WP.ret rfl rfl h
set_option maxRecDepth 20000 in
theorem t_X1_handsWith {D : Nat} (l0 : Int32) (I : IM) (J : JM) (b : Bool) {Q : Option AV → AH → Prop} (h : Q (some (vi ((2 : Int32) + ((2 : Int32) * l0)))) (101, I, J, R0 b)) : Call (D + 1) 14 [vi l0] (101, I, J, R0 b) Q := by
  refine Call.of rfl ?_
  show WP D 14 0 [vi l0] [] (101, I, J, R0 b) Q
  refine WP.blk (pc' := 5) (L' := [vi l0]) (st' := [vi ((2 : Int32) + ((2 : Int32) * l0))]) (h' := (101, I, J, R0 b)) 5 rfl ?_
  exact WP.ret rfl rfl h
set_option maxRecDepth 20000 in
theorem t_X1_goTogether {D : Nat} (l1 : Int32) (I : IM) (J : JM) (b : Bool) {Q : Option AV → AH → Prop} (h : WP D 15 4 [vr 1 0, vi l1, vi 0, vi 0] [] (101, I, J, R0 b) Q) : Call (D + 1) 15 [vr 1 0, vi l1] (101, I, J, R0 b) Q := by
  refine Call.of rfl ?_
  show WP D 15 0 [vr 1 0, vi l1, vn, vn] [] (101, I, J, R0 b) Q
  refine WP.blk (pc' := 4) (L' := [vr 1 0, vi l1, vi 0, vi 0]) (st' := []) (h' := (101, I, J, R0 b)) 4 rfl ?_
  exact WP.mask rfl rfl h
set_option maxRecDepth 20000 in
theorem t_X1_goTogether_4 {D : Nat} (l1 : Int32) (l2 : Int32) (l3 : Int32) (I : IM) (J : JM) (b : Bool) {Q : Option AV → AH → Prop} (h : (if (I 1 0 1) ≤ l3 then (Call D 12 [vr 1 0, vi 6] (101, I, J, R0 b) (RIf b fun x1 I2 J3 => (Call D 14 [vi x1] (101, I2, J3, R0 b) (RIf b fun x4 I5 J6 => (if x4 < l2 then Q (some (vi 0)) (101, I5, J6, R0 b) else Q (some (vi 1)) (101, I5, J6, R0 b)))))) else (if ¬ ((l1 >>> (l3 &&& 31)) &&& (1 : Int32)) = 0 then (Call D 11 [vr 1 0, vi l3, vi 4] (101, I, J, R0 b) (RIf b fun x7 I8 J9 => (if x7 = 0 then (Call D 11 [vr 1 0, vi l3, vi 1] (101, I8, J9, R0 b) (RIf b fun x10 I11 J12 => WP D 15 4 [vr 1 0, vi l1, vi (l2 + x10), vi (l3 + 1)] [] (101, I11, J12, R0 b) Q)) else Q (some (vi 0)) (101, I8, J9, R0 b)))) else WP D 15 4 [vr 1 0, vi l1, vi l2, vi (l3 + 1)] [] (101, I, J, R0 b) Q))) : WP D 15 4 [vr 1 0, vi l1, vi l2, vi l3] [] (101, I, J, R0 b) Q := by
  refine WP.blk (pc' := 9) (L' := [vr 1 0, vi l1, vi l2, vi l3]) (st' := [vi (I 1 0 1), vi l3]) (h' := (101, I, J, R0 b)) 3 rfl ?_
  refine WP.icmp_ge (t := 49) (L' := [vr 1 0, vi l1, vi l2, vi l3]) rfl rfl rfl rfl h (fun h => ?_) (fun h => ?_)
  · refine WP.blk (pc' := 53) (L' := [vr 1 0, vi l1, vi l2, vi l3]) (st' := [vi 6, vr 1 0, vi l2]) (h' := (101, I, J, R0 b)) 3 rfl ?_
    refine WP.cal (y' := 12) (as := [vr 1 0, vi 6]) (L' := [vr 1 0, vi l1, vi l2, vi l3]) (rest := [vi l2]) rfl (fun f r h' hf => callV_ok hf rfl rfl rfl) h ?_
    rintro _ _ ⟨x1, I2, J3, rfl, rfl, h⟩
    refine WP.cal (y' := 14) (as := [vi x1]) (L' := [vr 1 0, vi l1, vi l2, vi l3]) (rest := [vi l2]) rfl (fun f r h' hf => callS_ok hf rfl rfl rfl) h ?_
    rintro _ _ ⟨x4, I5, J6, rfl, rfl, h⟩
    refine WP.icmp_gt (t := 66) (L' := [vr 1 0, vi l1, vi l2, vi l3]) rfl rfl rfl rfl h (fun h => ?_) (fun h => ?_)
    · refine WP.blk (pc' := 67) (L' := [vr 1 0, vi l1, vi l2, vi l3]) (st' := [vi 0]) (h' := (101, I5, J6, R0 b)) 1 rfl ?_
      exact WP.ret rfl rfl h
    · refine WP.blk (pc' := 67) (L' := [vr 1 0, vi l1, vi l2, vi l3]) (st' := [vi 1]) (h' := (101, I5, J6, R0 b)) 2 rfl ?_
      exact WP.ret rfl rfl h
  · refine WP.blk (pc' := 17) (L' := [vr 1 0, vi l1, vi l2, vi l3]) (st' := [vi ((l1 >>> (l3 &&& 31)) &&& (1 : Int32))]) (h' := (101, I, J, R0 b)) 5 rfl ?_
    refine WP.if_ne (t := 23) (L' := [vr 1 0, vi l1, vi l2, vi l3]) rfl rfl rfl rfl h (fun h => ?_) (fun h => ?_)
    · refine WP.blk (pc' := 26) (L' := [vr 1 0, vi l1, vi l2, vi l3]) (st' := [vi 4, vi l3, vr 1 0]) (h' := (101, I, J, R0 b)) 3 rfl ?_
      refine WP.cal (y' := 11) (as := [vr 1 0, vi l3, vi 4]) (L' := [vr 1 0, vi l1, vi l2, vi l3]) (rest := []) rfl (fun f r h' hf => callV_ok hf rfl rfl rfl) h ?_
      rintro _ _ ⟨x7, I8, J9, rfl, rfl, h⟩
      refine WP.if_eq (t := 34) (L' := [vr 1 0, vi l1, vi l2, vi l3]) rfl rfl rfl rfl h (fun h => ?_) (fun h => ?_)
      · refine WP.blk (pc' := 38) (L' := [vr 1 0, vi l1, vi l2, vi l3]) (st' := [vi 1, vi l3, vr 1 0, vi l2]) (h' := (101, I8, J9, R0 b)) 4 rfl ?_
        refine WP.cal (y' := 11) (as := [vr 1 0, vi l3, vi 1]) (L' := [vr 1 0, vi l1, vi l2, vi l3]) (rest := [vi l2]) rfl (fun f r h' hf => callV_ok hf rfl rfl rfl) h ?_
        rintro _ _ ⟨x10, I11, J12, rfl, rfl, h⟩
        refine WP.blk (pc' := 4) (L' := [vr 1 0, vi l1, vi (l2 + x10), vi (l3 + 1)]) (st' := []) (h' := (101, I11, J12, R0 b)) 4 rfl ?_
        exact WP.mask rfl rfl h
      · refine WP.blk (pc' := 33) (L' := [vr 1 0, vi l1, vi l2, vi l3]) (st' := [vi 0]) (h' := (101, I8, J9, R0 b)) 1 rfl ?_
        exact WP.ret rfl rfl h
    · refine WP.blk (pc' := 4) (L' := [vr 1 0, vi l1, vi l2, vi (l3 + 1)]) (st' := []) (h' := (101, I, J, R0 b)) 3 rfl ?_
      exact WP.mask rfl rfl h
set_option maxRecDepth 20000 in
theorem t_X4_add {D : Nat} (l1 : Int32) (l2 : Int32) (l3 : Int32) (I : IM) (J : JM) (b : Bool) {Q : Option AV → AH → Prop} (h : (if (I 4 0 3) < (40 : Int32) then (vp_in (I 4 0 3) 40 ∧ (vp_in (I 4 0 3) 40 ∧ (vp_in (I 4 0 3) 40 ∧ Q none (101, (updI (updI (updI (updI (updI I 21 0 (I 4 0 3).toNatClampNeg l1) 22 0 (I 4 0 3).toNatClampNeg l2) 23 0 (I 4 0 3).toNatClampNeg l3) 4 0 3 ((I 4 0 3) + (1 : Int32))) 4 0 4 0), J, R0 b)))) else ((¬ (1 : Int32) < 0 ∧ ¬ (0 : Int32) < 0 ∧ ¬ (39 : Int32) < 0 ∧ 1 + 39 ≤ 40 ∧ 0 + 39 ≤ 40) ∧ ((¬ (1 : Int32) < 0 ∧ ¬ (0 : Int32) < 0 ∧ ¬ (39 : Int32) < 0 ∧ 1 + 39 ≤ 40 ∧ 0 + 39 ≤ 40) ∧ ((¬ (1 : Int32) < 0 ∧ ¬ (0 : Int32) < 0 ∧ ¬ (39 : Int32) < 0 ∧ 1 + 39 ≤ 40 ∧ 0 + 39 ≤ 40) ∧ Q none (101, (updI (updI (updI (updI (updI (updI (cpyI (cpyI (cpyI I 21 0 21 0 1 0 39) 22 0 22 0 1 0 39) 23 0 23 0 1 0 39) 4 0 3 39) 21 0 39 l1) 22 0 39 l2) 23 0 39 l3) 4 0 3 ((39 : Int32) + (1 : Int32))) 4 0 4 0), J, R0 b)))))) : Call (D + 1) 34 [vr 4 0, vi l1, vi l2, vi l3] (101, I, J, R0 b) Q := by
  refine Call.of rfl ?_
  show WP D 34 0 [vr 4 0, vi l1, vi l2, vi l3] [] (101, I, J, R0 b) Q
  refine WP.blk (pc' := 6) (L' := [vr 4 0, vi l1, vi l2, vi l3]) (st' := [vi 40, vi (I 4 0 3)]) (h' := (101, I, J, R0 b)) 3 rfl ?_
  refine WP.icmp_lt (t := 60) (L' := [vr 4 0, vi l1, vi l2, vi l3]) rfl rfl rfl rfl h (fun h => ?_) (fun h => ?_)
  · refine WP.blk (pc' := 69) (L' := [vr 4 0, vi l1, vi l2, vi l3]) (st' := [vi l1, vi (I 4 0 3), vr 21 0]) (h' := (101, I, J, R0 b)) 5 rfl ?_
    refine WP.step (pc' := 70) (L' := [vr 4 0, vi l1, vi l2, vi l3]) (st' := []) (h' := (101, (updI I 21 0 (I 4 0 3).toNatClampNeg l1), J, R0 b)) rfl (iastore_ok (n := 40) rfl rfl rfl (inA_of h.1)) ?_
    have h := And.right h
    refine WP.blk (pc' := 79) (L' := [vr 4 0, vi l1, vi l2, vi l3]) (st' := [vi l2, vi (I 4 0 3), vr 22 0]) (h' := (101, (updI I 21 0 (I 4 0 3).toNatClampNeg l1), J, R0 b)) 5 rfl ?_
    refine WP.step (pc' := 80) (L' := [vr 4 0, vi l1, vi l2, vi l3]) (st' := []) (h' := (101, (updI (updI I 21 0 (I 4 0 3).toNatClampNeg l1) 22 0 (I 4 0 3).toNatClampNeg l2), J, R0 b)) rfl (iastore_ok (n := 40) rfl rfl rfl (inA_of h.1)) ?_
    have h := And.right h
    refine WP.blk (pc' := 89) (L' := [vr 4 0, vi l1, vi l2, vi l3]) (st' := [vi l3, vi (I 4 0 3), vr 23 0]) (h' := (101, (updI (updI I 21 0 (I 4 0 3).toNatClampNeg l1) 22 0 (I 4 0 3).toNatClampNeg l2), J, R0 b)) 5 rfl ?_
    refine WP.step (pc' := 90) (L' := [vr 4 0, vi l1, vi l2, vi l3]) (st' := []) (h' := (101, (updI (updI (updI I 21 0 (I 4 0 3).toNatClampNeg l1) 22 0 (I 4 0 3).toNatClampNeg l2) 23 0 (I 4 0 3).toNatClampNeg l3), J, R0 b)) rfl (iastore_ok (n := 40) rfl rfl rfl (inA_of h.1)) ?_
    have h := And.right h
    refine WP.blk (pc' := 105) (L' := [vr 4 0, vi l1, vi l2, vi l3]) (st' := []) (h' := (101, (updI (updI (updI (updI (updI I 21 0 (I 4 0 3).toNatClampNeg l1) 22 0 (I 4 0 3).toNatClampNeg l2) 23 0 (I 4 0 3).toNatClampNeg l3) 4 0 3 ((I 4 0 3) + (1 : Int32))) 4 0 4 0), J, R0 b)) 9 rfl ?_
    exact WP.ret rfl rfl h
  · refine WP.blk (pc' := 21) (L' := [vr 4 0, vi l1, vi l2, vi l3]) (st' := [vi 39, vi 0, vr 21 0, vi 1, vr 21 0]) (h' := (101, I, J, R0 b)) 7 rfl ?_
    refine WP.step (pc' := 24) (L' := [vr 4 0, vi l1, vi l2, vi l3]) (st' := []) (h' := (101, (cpyI I 21 0 21 0 1 0 39), J, R0 b)) rfl (copyI_ok (y := 34) (sp := (1 : Int32)) (dp := (0 : Int32)) (n := (39 : Int32)) rfl rfl rfl rfl rfl rfl h.1) ?_
    have h := And.right h
    refine WP.blk (pc' := 36) (L' := [vr 4 0, vi l1, vi l2, vi l3]) (st' := [vi 39, vi 0, vr 22 0, vi 1, vr 22 0]) (h' := (101, (cpyI I 21 0 21 0 1 0 39), J, R0 b)) 7 rfl ?_
    refine WP.step (pc' := 39) (L' := [vr 4 0, vi l1, vi l2, vi l3]) (st' := []) (h' := (101, (cpyI (cpyI I 21 0 21 0 1 0 39) 22 0 22 0 1 0 39), J, R0 b)) rfl (copyI_ok (y := 34) (sp := (1 : Int32)) (dp := (0 : Int32)) (n := (39 : Int32)) rfl rfl rfl rfl rfl rfl h.1) ?_
    have h := And.right h
    refine WP.blk (pc' := 51) (L' := [vr 4 0, vi l1, vi l2, vi l3]) (st' := [vi 39, vi 0, vr 23 0, vi 1, vr 23 0]) (h' := (101, (cpyI (cpyI I 21 0 21 0 1 0 39) 22 0 22 0 1 0 39), J, R0 b)) 7 rfl ?_
    refine WP.step (pc' := 54) (L' := [vr 4 0, vi l1, vi l2, vi l3]) (st' := []) (h' := (101, (cpyI (cpyI (cpyI I 21 0 21 0 1 0 39) 22 0 22 0 1 0 39) 23 0 23 0 1 0 39), J, R0 b)) rfl (copyI_ok (y := 34) (sp := (1 : Int32)) (dp := (0 : Int32)) (n := (39 : Int32)) rfl rfl rfl rfl rfl rfl h.1) ?_
    have h := And.right h
    refine WP.blk (pc' := 105) (L' := [vr 4 0, vi l1, vi l2, vi l3]) (st' := []) (h' := (101, (updI (updI (updI (updI (updI (updI (cpyI (cpyI (cpyI I 21 0 21 0 1 0 39) 22 0 22 0 1 0 39) 23 0 23 0 1 0 39) 4 0 3 39) 21 0 39 l1) 22 0 39 l2) 23 0 39 l3) 4 0 3 ((39 : Int32) + (1 : Int32))) 4 0 4 0), J, R0 b)) 30 rfl ?_
    exact WP.ret rfl rfl h
set_option maxRecDepth 20000 in
theorem t_X4_takeBack {D : Nat}  (I : IM) (J : JM) (b : Bool) {Q : Option AV → AH → Prop} (h : (if 0 < (I 4 0 3) then (vp_in ((I 4 0 3) - (1 : Int32)) 40 ∧ (vp_in ((I 4 0 3) - (1 : Int32)) 40 ∧ (Call D 258 [vr 1 0, vi (I 21 0 ((I 4 0 3) - (1 : Int32)).toNatClampNeg), vi (I 22 0 ((I 4 0 3) - (1 : Int32)).toNatClampNeg)] (101, (updI (updI I 4 0 3 ((I 4 0 3) - (1 : Int32))) 4 0 4 ((I 4 0 4) + (1 : Int32))), J, R0 b) (RVf b fun I2 J3 => Q (some (vi 1)) (101, I2, J3, R0 b))))) else Q (some (vi 0)) (101, I, J, R0 b))) : Call (D + 1) 35 [vr 4 0, vr 1 0] (101, I, J, R0 b) Q := by
  refine Call.of rfl ?_
  show WP D 35 0 [vr 4 0, vr 1 0] [] (101, I, J, R0 b) Q
  refine WP.blk (pc' := 4) (L' := [vr 4 0, vr 1 0]) (st' := [vi (I 4 0 3)]) (h' := (101, I, J, R0 b)) 2 rfl ?_
  refine WP.if_gt (t := 9) (L' := [vr 4 0, vr 1 0]) rfl rfl rfl rfl h (fun h => ?_) (fun h => ?_)
  · refine WP.blk (pc' := 38) (L' := [vr 4 0, vr 1 0]) (st' := [vi ((I 4 0 3) - (1 : Int32)), vr 21 0, vr 1 0]) (h' := (101, (updI (updI I 4 0 3 ((I 4 0 3) - (1 : Int32))) 4 0 4 ((I 4 0 4) + (1 : Int32))), J, R0 b)) 17 rfl ?_
    refine WP.step (pc' := 39) (L' := [vr 4 0, vr 1 0]) (st' := [vi (I 21 0 ((I 4 0 3) - (1 : Int32)).toNatClampNeg), vr 1 0]) (h' := (101, (updI (updI I 4 0 3 ((I 4 0 3) - (1 : Int32))) 4 0 4 ((I 4 0 4) + (1 : Int32))), J, R0 b)) rfl (iaload_ok (n := 40) rfl rfl rfl (inA_of h.1)) ?_
    have h := And.right h
    refine WP.blk (pc' := 47) (L' := [vr 4 0, vr 1 0]) (st' := [vi ((I 4 0 3) - (1 : Int32)), vr 22 0, vi (I 21 0 ((I 4 0 3) - (1 : Int32)).toNatClampNeg), vr 1 0]) (h' := (101, (updI (updI I 4 0 3 ((I 4 0 3) - (1 : Int32))) 4 0 4 ((I 4 0 4) + (1 : Int32))), J, R0 b)) 4 rfl ?_
    refine WP.step (pc' := 48) (L' := [vr 4 0, vr 1 0]) (st' := [vi (I 22 0 ((I 4 0 3) - (1 : Int32)).toNatClampNeg), vi (I 21 0 ((I 4 0 3) - (1 : Int32)).toNatClampNeg), vr 1 0]) (h' := (101, (updI (updI I 4 0 3 ((I 4 0 3) - (1 : Int32))) 4 0 4 ((I 4 0 4) + (1 : Int32))), J, R0 b)) rfl (iaload_ok (n := 40) rfl rfl rfl (inA_of h.1)) ?_
    have h := And.right h
    refine WP.cal (y' := 258) (as := [vr 1 0, vi (I 21 0 ((I 4 0 3) - (1 : Int32)).toNatClampNeg), vi (I 22 0 ((I 4 0 3) - (1 : Int32)).toNatClampNeg)]) (L' := [vr 4 0, vr 1 0]) (rest := []) rfl (fun f r h' hf => callV_ok hf rfl rfl rfl) h ?_
    rintro _ _ ⟨I2, J3, rfl, rfl, h⟩
    refine WP.blk (pc' := 52) (L' := [vr 4 0, vr 1 0]) (st' := [vi 1]) (h' := (101, I2, J3, R0 b)) 1 rfl ?_
    exact WP.ret rfl rfl h
  · refine WP.blk (pc' := 8) (L' := [vr 4 0, vr 1 0]) (st' := [vi 0]) (h' := (101, I, J, R0 b)) 1 rfl ?_
    exact WP.ret rfl rfl h
set_option maxRecDepth 20000 in
theorem t_X4_doAgain {D : Nat}  (I : IM) (J : JM) (b : Bool) {Q : Option AV → AH → Prop} (h : (if (I 4 0 4) ≤ 0 then Q (some (vi 0)) (101, I, J, R0 b) else (if (I 4 0 3) < (40 : Int32) then (vp_in (I 4 0 3) 40 ∧ (vp_in (I 4 0 3) 40 ∧ (Call D 258 [vr 1 0, vi (I 21 0 (I 4 0 3).toNatClampNeg), vi (I 23 0 (I 4 0 3).toNatClampNeg)] (101, I, J, R0 b) (RVf b fun I2 J3 => Q (some (vi 1)) (101, (updI (updI I2 4 0 3 ((I2 4 0 3) + (1 : Int32))) 4 0 4 ((I2 4 0 4) - (1 : Int32))), J3, R0 b))))) else Q (some (vi 0)) (101, I, J, R0 b)))) : Call (D + 1) 36 [vr 4 0, vr 1 0] (101, I, J, R0 b) Q := by
  refine Call.of rfl ?_
  show WP D 36 0 [vr 4 0, vr 1 0] [] (101, I, J, R0 b) Q
  refine WP.blk (pc' := 4) (L' := [vr 4 0, vr 1 0]) (st' := [vi (I 4 0 4)]) (h' := (101, I, J, R0 b)) 2 rfl ?_
  refine WP.if_le (t := 16) (L' := [vr 4 0, vr 1 0]) rfl rfl rfl rfl h (fun h => ?_) (fun h => ?_)
  · refine WP.blk (pc' := 17) (L' := [vn, vn]) (st' := [vi 0]) (h' := (101, I, J, R0 b)) 1 rfl ?_
    exact WP.ret rfl rfl h
  · refine WP.blk (pc' := 13) (L' := [vr 4 0, vr 1 0]) (st' := [vi 40, vi (I 4 0 3)]) (h' := (101, I, J, R0 b)) 3 rfl ?_
    refine WP.icmp_lt (t := 18) (L' := [vr 4 0, vr 1 0]) rfl rfl rfl rfl h (fun h => ?_) (fun h => ?_)
    · refine WP.blk (pc' := 27) (L' := [vr 4 0, vr 1 0]) (st' := [vi (I 4 0 3), vr 21 0, vr 1 0]) (h' := (101, I, J, R0 b)) 5 rfl ?_
      refine WP.step (pc' := 28) (L' := [vr 4 0, vr 1 0]) (st' := [vi (I 21 0 (I 4 0 3).toNatClampNeg), vr 1 0]) (h' := (101, I, J, R0 b)) rfl (iaload_ok (n := 40) rfl rfl rfl (inA_of h.1)) ?_
      have h := And.right h
      refine WP.blk (pc' := 36) (L' := [vr 4 0, vr 1 0]) (st' := [vi (I 4 0 3), vr 23 0, vi (I 21 0 (I 4 0 3).toNatClampNeg), vr 1 0]) (h' := (101, I, J, R0 b)) 4 rfl ?_
      refine WP.step (pc' := 37) (L' := [vr 4 0, vr 1 0]) (st' := [vi (I 23 0 (I 4 0 3).toNatClampNeg), vi (I 21 0 (I 4 0 3).toNatClampNeg), vr 1 0]) (h' := (101, I, J, R0 b)) rfl (iaload_ok (n := 40) rfl rfl rfl (inA_of h.1)) ?_
      have h := And.right h
      refine WP.cal (y' := 258) (as := [vr 1 0, vi (I 21 0 (I 4 0 3).toNatClampNeg), vi (I 23 0 (I 4 0 3).toNatClampNeg)]) (L' := [vr 4 0, vr 1 0]) (rest := []) rfl (fun f r h' hf => callV_ok hf rfl rfl rfl) h ?_
      rintro _ _ ⟨I2, J3, rfl, rfl, h⟩
      refine WP.blk (pc' := 61) (L' := [vr 4 0, vr 1 0]) (st' := [vi 1]) (h' := (101, (updI (updI I2 4 0 3 ((I2 4 0 3) + (1 : Int32))) 4 0 4 ((I2 4 0 4) - (1 : Int32))), J3, R0 b)) 13 rfl ?_
      exact WP.ret rfl rfl h
    · refine WP.blk (pc' := 17) (L' := [vn, vn]) (st' := [vi 0]) (h' := (101, I, J, R0 b)) 1 rfl ?_
      exact WP.ret rfl rfl h
set_option maxRecDepth 20000 in
theorem t_X7_open {D : Nat}  (I : IM) (J : JM) (b : Bool) {Q : Option AV → AH → Prop} (h : (Call D 12 [vr 1 0, vi 8] (101, I, J, R0 b) (RIf b fun x1 I2 J3 => WP D 54 12 [vr 7 0, vi x1, vi 0, vn] [] (101, I2, J3, R0 b) Q))) : Call (D + 1) 54 [vr 7 0] (101, I, J, R0 b) Q := by
  refine Call.of rfl ?_
  show WP D 54 0 [vr 7 0, vn, vn, vn] [] (101, I, J, R0 b) Q
  refine WP.blk (pc' := 6) (L' := [vr 7 0, vn, vn, vn]) (st' := [vi 8, vr 1 0]) (h' := (101, I, J, R0 b)) 3 rfl ?_
  refine WP.cal (y' := 12) (as := [vr 1 0, vi 8]) (L' := [vr 7 0, vn, vn, vn]) (rest := []) rfl (fun f r h' hf => callV_ok hf rfl rfl rfl) h ?_
  rintro _ _ ⟨x1, I2, J3, rfl, rfl, h⟩
  refine WP.blk (pc' := 12) (L' := [vr 7 0, vi x1, vi 0, vn]) (st' := []) (h' := (101, I2, J3, R0 b)) 3 rfl ?_
  exact WP.mask rfl rfl h
set_option maxRecDepth 20000 in
theorem t_X7_open_12 {D : Nat} (l1 : Int32) (l2 : Int32) (I : IM) (J : JM) (b : Bool) {Q : Option AV → AH → Prop} (h : (if (I 1 0 1) ≤ l2 then (Call D 12 [vr 1 0, vi 6] (101, (updI I 7 0 5 0), J, R0 b) (RIf b fun x4 I5 J6 => (Call D 12 [vr 1 0, vi 7] (101, I5, J6, R0 b) (RIf b fun x7 I8 J9 => (Call D 55 [vr 7 0, vi x4, vi x7] (101, I8, J9, R0 b) (RVf b fun I11 J12 => Q none (101, I11, J12, R0 b))))))) else WP D 54 25 [vr 7 0, vi l1, vi l2, vi 0] [] (101, I, J, R0 b) Q)) : WP D 54 12 [vr 7 0, vi l1, vi l2, vn] [] (101, I, J, R0 b) Q := by
  refine WP.blk (pc' := 20) (L' := [vr 7 0, vi l1, vi l2, vn]) (st' := [vi (I 1 0 1), vi l2]) (h' := (101, I, J, R0 b)) 4 rfl ?_
  refine WP.icmp_ge (t := 55) (L' := [vr 7 0, vi l1, vi l2, vn]) rfl rfl rfl rfl h (fun h => ?_) (fun h => ?_)
  · refine WP.blk (pc' := 67) (L' := [vr 7 0, vi l1, vi l2, vn]) (st' := [vi 6, vr 1 0, vr 7 0]) (h' := (101, (updI I 7 0 5 0), J, R0 b)) 7 rfl ?_
    refine WP.cal (y' := 12) (as := [vr 1 0, vi 6]) (L' := [vr 7 0, vi l1, vi l2, vn]) (rest := [vr 7 0]) rfl (fun f r h' hf => callV_ok hf rfl rfl rfl) h ?_
    rintro _ _ ⟨x4, I5, J6, rfl, rfl, h⟩
    refine WP.blk (pc' := 76) (L' := [vr 7 0, vi l1, vi l2, vn]) (st' := [vi 7, vr 1 0, vi x4, vr 7 0]) (h' := (101, I5, J6, R0 b)) 3 rfl ?_
    refine WP.cal (y' := 12) (as := [vr 1 0, vi 7]) (L' := [vr 7 0, vi l1, vi l2, vn]) (rest := [vi x4, vr 7 0]) rfl (fun f r h' hf => callV_ok hf rfl rfl rfl) h ?_
    rintro _ _ ⟨x7, I8, J9, rfl, rfl, h⟩
    refine WP.cal (y' := 55) (as := [vr 7 0, vi x4, vi x7]) (L' := [vr 7 0, vi l1, vi l2, vn]) (rest := []) rfl (fun f r h' hf => callV_ok hf rfl rfl rfl) h ?_
    rintro _ _ ⟨I11, J12, rfl, rfl, h⟩
    exact WP.ret rfl rfl h
  · refine WP.blk (pc' := 25) (L' := [vr 7 0, vi l1, vi l2, vi 0]) (st' := []) (h' := (101, I, J, R0 b)) 2 rfl ?_
    exact WP.mask rfl rfl h
set_option maxRecDepth 20000 in
theorem t_X7_open_25 {D : Nat} (l1 : Int32) (l2 : Int32) (l3 : Int32) (I : IM) (J : JM) (b : Bool) {Q : Option AV → AH → Prop} (h : (if (I 1 0 1) ≤ l3 then WP D 54 12 [vr 7 0, vi l1, vi (l2 + 1), vn] [] (101, I, J, R0 b) Q else (Call D 56 [vr 7 0, vi l2, vi l3, vi l1] (101, I, J, R0 b) (RVf b fun I14 J15 => WP D 54 25 [vr 7 0, vi l1, vi l2, vi (l3 + 1)] [] (101, I14, J15, R0 b) Q)))) : WP D 54 25 [vr 7 0, vi l1, vi l2, vi l3] [] (101, I, J, R0 b) Q := by
  refine WP.blk (pc' := 33) (L' := [vr 7 0, vi l1, vi l2, vi l3]) (st' := [vi (I 1 0 1), vi l3]) (h' := (101, I, J, R0 b)) 4 rfl ?_
  refine WP.icmp_ge (t := 49) (L' := [vr 7 0, vi l1, vi l2, vi l3]) rfl rfl rfl rfl h (fun h => ?_) (fun h => ?_)
  · refine WP.blk (pc' := 12) (L' := [vr 7 0, vi l1, vi (l2 + 1), vi l3]) (st' := []) (h' := (101, I, J, R0 b)) 2 rfl ?_
    exact WP.mask rfl rfl h
  · refine WP.blk (pc' := 40) (L' := [vr 7 0, vi l1, vi l2, vi l3]) (st' := [vi l1, vi l3, vi l2, vr 7 0]) (h' := (101, I, J, R0 b)) 4 rfl ?_
    refine WP.cal (y' := 56) (as := [vr 7 0, vi l2, vi l3, vi l1]) (L' := [vr 7 0, vi l1, vi l2, vi l3]) (rest := []) rfl (fun f r h' hf => callV_ok hf rfl rfl rfl) h ?_
    rintro _ _ ⟨I14, J15, rfl, rfl, h⟩
    refine WP.blk (pc' := 25) (L' := [vr 7 0, vi l1, vi l2, vi (l3 + 1)]) (st' := []) (h' := (101, I14, J15, R0 b)) 2 rfl ?_
    exact WP.mask rfl rfl h
set_option maxRecDepth 20000 in
theorem t_X7_staff {D : Nat} (l1 : Int32) (l2 : Int32) (I : IM) (J : JM) (b : Bool) {Q : Option AV → AH → Prop} (h : (Call D 14 [vi l1] (101, I, J, R0 b) (RIf b fun x1 I2 J3 => Q none (101, (updI (updI I2 7 0 3 x1) 7 0 4 l2), J3, R0 b)))) : Call (D + 1) 55 [vr 7 0, vi l1, vi l2] (101, I, J, R0 b) Q := by
  refine Call.of rfl ?_
  show WP D 55 0 [vr 7 0, vi l1, vi l2] [] (101, I, J, R0 b) Q
  refine WP.blk (pc' := 2) (L' := [vr 7 0, vi l1, vi l2]) (st' := [vi l1, vr 7 0]) (h' := (101, I, J, R0 b)) 2 rfl ?_
  refine WP.cal (y' := 14) (as := [vi l1]) (L' := [vr 7 0, vi l1, vi l2]) (rest := [vr 7 0]) rfl (fun f r h' hf => callS_ok hf rfl rfl rfl) h ?_
  rintro _ _ ⟨x1, I2, J3, rfl, rfl, h⟩
  refine WP.blk (pc' := 13) (L' := [vr 7 0, vi l1, vi l2]) (st' := []) (h' := (101, (updI (updI I2 7 0 3 x1) 7 0 4 l2), J3, R0 b)) 4 rfl ?_
  exact WP.ret rfl rfl h
set_option maxRecDepth 20000 in
theorem t_X7_learn {D : Nat} (l1 : Int32) (l2 : Int32) (l3 : Int32) (I : IM) (J : JM) (b : Bool) {Q : Option AV → AH → Prop} (h : (Call D 58 [vi l1, vi l2] (101, I, J, R0 b) (RIf b fun x1 I2 J3 => (if x1 = 0 then Q none (101, I2, J3, R0 b) else (Call D 29 [vr 3 0, vi l1, vi l2, vi l3] (101, I2, J3, R0 b) (RIf b fun x4 I5 J6 => (vp_in ((l1 * (8 : Int32)) + l2) 56 ∧ Q none (101, (updI I5 29 0 ((l1 * (8 : Int32)) + l2).toNatClampNeg x4), J6, R0 b)))))))) : Call (D + 1) 56 [vr 7 0, vi l1, vi l2, vi l3] (101, I, J, R0 b) Q := by
  refine Call.of rfl ?_
  show WP D 56 0 [vr 7 0, vi l1, vi l2, vi l3] [] (101, I, J, R0 b) Q
  refine WP.blk (pc' := 2) (L' := [vr 7 0, vi l1, vi l2, vi l3]) (st' := [vi l2, vi l1]) (h' := (101, I, J, R0 b)) 2 rfl ?_
  refine WP.cal (y' := 58) (as := [vi l1, vi l2]) (L' := [vr 7 0, vi l1, vi l2, vi l3]) (rest := []) rfl (fun f r h' hf => callS_ok hf rfl rfl rfl) h ?_
  rintro _ _ ⟨x1, I2, J3, rfl, rfl, h⟩
  refine WP.if_eq (t := 29) (L' := [vr 7 0, vi l1, vi l2, vi l3]) rfl rfl rfl rfl h (fun h => ?_) (fun h => ?_)
  · exact WP.ret rfl rfl h
  · refine WP.blk (pc' := 25) (L' := [vr 7 0, vi l1, vi l2, vi l3]) (st' := [vi l3, vi l2, vi l1, vr 3 0, vi ((l1 * (8 : Int32)) + l2), vr 29 0]) (h' := (101, I2, J3, R0 b)) 12 rfl ?_
    refine WP.cal (y' := 29) (as := [vr 3 0, vi l1, vi l2, vi l3]) (L' := [vr 7 0, vi l1, vi l2, vi l3]) (rest := [vi ((l1 * (8 : Int32)) + l2), vr 29 0]) rfl (fun f r h' hf => callV_ok hf rfl rfl rfl) h ?_
    rintro _ _ ⟨x4, I5, J6, rfl, rfl, h⟩
    refine WP.step (pc' := 29) (L' := [vr 7 0, vi l1, vi l2, vi l3]) (st' := []) (h' := (101, (updI I5 29 0 ((l1 * (8 : Int32)) + l2).toNatClampNeg x4), J6, R0 b)) rfl (iastore_ok (n := 56) rfl rfl rfl (inA_of h.1)) ?_
    have h := And.right h
    exact WP.ret rfl rfl h
set_option maxRecDepth 20000 in
theorem t_X7_minutesOf {D : Nat} (l1 : Int32) (l2 : Int32) (I : IM) (J : JM) (b : Bool) {Q : Option AV → AH → Prop} (h : (Call D 58 [vi l1, vi l2] (101, I, J, R0 b) (RIf b fun x1 I2 J3 => (if x1 = 0 then Q (some (vi 0)) (101, I2, J3, R0 b) else (vp_in ((l1 * (8 : Int32)) + l2) 56 ∧ Q (some (vi (I2 29 0 ((l1 * (8 : Int32)) + l2).toNatClampNeg))) (101, I2, J3, R0 b)))))) : Call (D + 1) 57 [vr 7 0, vi l1, vi l2] (101, I, J, R0 b) Q := by
  refine Call.of rfl ?_
  show WP D 57 0 [vr 7 0, vi l1, vi l2] [] (101, I, J, R0 b) Q
  refine WP.blk (pc' := 2) (L' := [vr 7 0, vi l1, vi l2]) (st' := [vi l2, vi l1]) (h' := (101, I, J, R0 b)) 2 rfl ?_
  refine WP.cal (y' := 58) (as := [vi l1, vi l2]) (L' := [vr 7 0, vi l1, vi l2]) (rest := []) rfl (fun f r h' hf => callS_ok hf rfl rfl rfl) h ?_
  rintro _ _ ⟨x1, I2, J3, rfl, rfl, h⟩
  refine WP.if_eq (t := 22) (L' := [vr 7 0, vi l1, vi l2]) rfl rfl rfl rfl h (fun h => ?_) (fun h => ?_)
  · refine WP.blk (pc' := 23) (L' := [vr 7 0, vi l1, vi l2]) (st' := [vi 0]) (h' := (101, I2, J3, R0 b)) 1 rfl ?_
    exact WP.ret rfl rfl h
  · refine WP.blk (pc' := 18) (L' := [vr 7 0, vi l1, vi l2]) (st' := [vi ((l1 * (8 : Int32)) + l2), vr 29 0]) (h' := (101, I2, J3, R0 b)) 7 rfl ?_
    refine WP.step (pc' := 19) (L' := [vr 7 0, vi l1, vi l2]) (st' := [vi (I2 29 0 ((l1 * (8 : Int32)) + l2).toNatClampNeg)]) (h' := (101, I2, J3, R0 b)) rfl (iaload_ok (n := 56) rfl rfl rfl (inA_of h.1)) ?_
    have h := And.right h
    refine WP.blk (pc' := 23) (L' := [vr 7 0, vi l1, vi l2]) (st' := [vi (I2 29 0 ((l1 * (8 : Int32)) + l2).toNatClampNeg)]) (h' := (101, I2, J3, R0 b)) 1 rfl ?_
    exact WP.ret rfl rfl h
set_option maxRecDepth 20000 in
theorem t_X7_isKnown {D : Nat} (l0 : Int32) (l1 : Int32) (I : IM) (J : JM) (b : Bool) {Q : Option AV → AH → Prop} (h : (if l0 < 0 then Q (some (vi 0)) (101, I, J, R0 b) else (if (7 : Int32) ≤ l0 then Q (some (vi 0)) (101, I, J, R0 b) else (if l1 < 0 then Q (some (vi 0)) (101, I, J, R0 b) else (if (8 : Int32) ≤ l1 then Q (some (vi 0)) (101, I, J, R0 b) else Q (some (vi 1)) (101, I, J, R0 b)))))) : Call (D + 1) 58 [vi l0, vi l1] (101, I, J, R0 b) Q := by
  refine Call.of rfl ?_
  show WP D 58 0 [vi l0, vi l1] [] (101, I, J, R0 b) Q
  refine WP.blk (pc' := 1) (L' := [vi l0, vi l1]) (st' := [vi l0]) (h' := (101, I, J, R0 b)) 1 rfl ?_
  refine WP.if_lt (t := 24) (L' := [vi l0, vi l1]) rfl rfl rfl rfl h (fun h => ?_) (fun h => ?_)
  · refine WP.blk (pc' := 25) (L' := [vn, vn]) (st' := [vi 0]) (h' := (101, I, J, R0 b)) 1 rfl ?_
    exact WP.ret rfl rfl h
  · refine WP.blk (pc' := 7) (L' := [vi l0, vi l1]) (st' := [vi 7, vi l0]) (h' := (101, I, J, R0 b)) 2 rfl ?_
    refine WP.icmp_ge (t := 24) (L' := [vi l0, vi l1]) rfl rfl rfl rfl h (fun h => ?_) (fun h => ?_)
    · refine WP.blk (pc' := 25) (L' := [vn, vn]) (st' := [vi 0]) (h' := (101, I, J, R0 b)) 1 rfl ?_
      exact WP.ret rfl rfl h
    · refine WP.blk (pc' := 11) (L' := [vi l0, vi l1]) (st' := [vi l1]) (h' := (101, I, J, R0 b)) 1 rfl ?_
      refine WP.if_lt (t := 24) (L' := [vi l0, vi l1]) rfl rfl rfl rfl h (fun h => ?_) (fun h => ?_)
      · refine WP.blk (pc' := 25) (L' := [vn, vn]) (st' := [vi 0]) (h' := (101, I, J, R0 b)) 1 rfl ?_
        exact WP.ret rfl rfl h
      · refine WP.blk (pc' := 17) (L' := [vi l0, vi l1]) (st' := [vi 8, vi l1]) (h' := (101, I, J, R0 b)) 2 rfl ?_
        refine WP.icmp_ge (t := 24) (L' := [vi l0, vi l1]) rfl rfl rfl rfl h (fun h => ?_) (fun h => ?_)
        · refine WP.blk (pc' := 25) (L' := [vn, vn]) (st' := [vi 0]) (h' := (101, I, J, R0 b)) 1 rfl ?_
          exact WP.ret rfl rfl h
        · refine WP.blk (pc' := 25) (L' := [vi l0, vi l1]) (st' := [vi 1]) (h' := (101, I, J, R0 b)) 2 rfl ?_
          exact WP.ret rfl rfl h
set_option maxRecDepth 20000 in
theorem t_X1_read {D : Nat} (l1 : Int32) (I : IM) (J : JM) (b : Bool) {Q : Option AV → AH → Prop} (h : (if l1 < 0 then Q (some (vi 0)) (101, I, J, R0 b) else (if (47 : Int32) ≤ l1 then Q (some (vi 0)) (101, I, J, R0 b) else (vp_in l1 47 ∧ Q (some (vi (I 20 0 l1.toNatClampNeg))) (101, I, J, R0 b))))) : Call (D + 1) 257 [vr 1 0, vi l1] (101, I, J, R0 b) Q := by
  refine Call.of rfl ?_
  show WP D 257 0 [vr 1 0, vi l1] [] (101, I, J, R0 b) Q
  refine WP.blk (pc' := 1) (L' := [vr 1 0, vi l1]) (st' := [vi l1]) (h' := (101, I, J, R0 b)) 1 rfl ?_
  refine WP.if_lt (t := 22) (L' := [vr 1 0, vi l1]) rfl rfl rfl rfl h (fun h => ?_) (fun h => ?_)
  · refine WP.blk (pc' := 23) (L' := [vn, vn]) (st' := [vi 0]) (h' := (101, I, J, R0 b)) 1 rfl ?_
    exact WP.ret rfl rfl h
  · refine WP.blk (pc' := 10) (L' := [vr 1 0, vi l1]) (st' := [vi 47, vi l1]) (h' := (101, I, J, R0 b)) 4 rfl ?_
    refine WP.icmp_ge (t := 22) (L' := [vr 1 0, vi l1]) rfl rfl rfl rfl h (fun h => ?_) (fun h => ?_)
    · refine WP.blk (pc' := 23) (L' := [vn, vn]) (st' := [vi 0]) (h' := (101, I, J, R0 b)) 1 rfl ?_
      exact WP.ret rfl rfl h
    · refine WP.blk (pc' := 18) (L' := [vr 1 0, vi l1]) (st' := [vi l1, vr 20 0]) (h' := (101, I, J, R0 b)) 3 rfl ?_
      refine WP.step (pc' := 19) (L' := [vr 1 0, vi l1]) (st' := [vi (I 20 0 l1.toNatClampNeg)]) (h' := (101, I, J, R0 b)) rfl (iaload_ok (n := 47) rfl rfl rfl (inA_of h.1)) ?_
      have h := And.right h
      refine WP.blk (pc' := 23) (L' := [vr 1 0, vi l1]) (st' := [vi (I 20 0 l1.toNatClampNeg)]) (h' := (101, I, J, R0 b)) 1 rfl ?_
      exact WP.ret rfl rfl h
set_option maxRecDepth 20000 in
theorem t_X1_write {D : Nat} (l1 : Int32) (l2 : Int32) (I : IM) (J : JM) (b : Bool) {Q : Option AV → AH → Prop} (h : (if l1 < 0 then Q none (101, I, J, R0 b) else (if (47 : Int32) ≤ l1 then Q none (101, I, J, R0 b) else (vp_in l1 47 ∧ Q none (101, (updI I 20 0 l1.toNatClampNeg l2), J, R0 b))))) : Call (D + 1) 258 [vr 1 0, vi l1, vi l2] (101, I, J, R0 b) Q := by
  refine Call.of rfl ?_
  show WP D 258 0 [vr 1 0, vi l1, vi l2] [] (101, I, J, R0 b) Q
  refine WP.blk (pc' := 1) (L' := [vr 1 0, vi l1, vi l2]) (st' := [vi l1]) (h' := (101, I, J, R0 b)) 1 rfl ?_
  refine WP.if_lt (t := 20) (L' := [vr 1 0, vi l1, vi l2]) rfl rfl rfl rfl h (fun h => ?_) (fun h => ?_)
  · exact WP.ret rfl rfl h
  · refine WP.blk (pc' := 10) (L' := [vr 1 0, vi l1, vi l2]) (st' := [vi 47, vi l1]) (h' := (101, I, J, R0 b)) 4 rfl ?_
    refine WP.icmp_ge (t := 20) (L' := [vr 1 0, vi l1, vi l2]) rfl rfl rfl rfl h (fun h => ?_) (fun h => ?_)
    · exact WP.ret rfl rfl h
    · refine WP.blk (pc' := 19) (L' := [vr 1 0, vi l1, vi l2]) (st' := [vi l2, vi l1, vr 20 0]) (h' := (101, I, J, R0 b)) 4 rfl ?_
      refine WP.step (pc' := 20) (L' := [vr 1 0, vi l1, vi l2]) (st' := []) (h' := (101, (updI I 20 0 l1.toNatClampNeg l2), J, R0 b)) rfl (iastore_ok (n := 47) rfl rfl rfl (inA_of h.1)) ?_
      have h := And.right h
      exact WP.ret rfl rfl h
