/-! TREES, by program (wip/whole/gen16.py): what each method does between its cuts -/
set_option maxRecDepth 20000 in
theorem t_X10_who {D : Nat} (l1 : Int32) (I : IM) (J : JM) (b : Bool) {Q : Option AV → AH → Prop} (h : (Call D 205 [vi l1] (101, I, J, R0 b) (RIf b fun x1 I2 J3 => (if ¬ x1 = 0 then (Call D 206 [vr 10 0, vi l1] (101, I2, J3, R0 b) (RIf b fun x4 I5 J6 => (if 0 ≤ x4 then WP D 209 33 [vr 10 0, vi l1, vn, vi (I5 10 0 8), vi (-2), vi 0] [] (101, I5, J6, R0 b) Q else Q (some (vi x4)) (101, I5, J6, R0 b)))) else Q (some (vi (-1))) (101, I2, J3, R0 b))))) : Call (D + 1) 209 [vr 10 0, vi l1] (101, I, J, R0 b) Q := by
  refine Call.of rfl ?_
  show WP D 209 0 [vr 10 0, vi l1, vn, vn, vn, vn] [] (101, I, J, R0 b) Q
  refine WP.blk (pc' := 1) (L' := [vr 10 0, vi l1, vn, vn, vn, vn]) (st' := [vi l1]) (h' := (101, I, J, R0 b)) 1 rfl ?_
  refine WP.cal (y' := 205) (as := [vi l1]) (L' := [vr 10 0, vi l1, vn, vn, vn, vn]) (rest := []) rfl (fun f r h' hf => callS_ok hf rfl rfl rfl) h ?_
  rintro _ _ ⟨x1, I2, J3, rfl, rfl, h⟩
  refine WP.if_ne (t := 9) (L' := [vr 10 0, vi l1, vn, vn, vn, vn]) rfl rfl rfl rfl h (fun h => ?_) (fun h => ?_)
  · refine WP.blk (pc' := 11) (L' := [vr 10 0, vi l1, vn, vn, vn, vn]) (st' := [vi l1, vr 10 0]) (h' := (101, I2, J3, R0 b)) 2 rfl ?_
    refine WP.cal (y' := 206) (as := [vr 10 0, vi l1]) (L' := [vr 10 0, vi l1, vn, vn, vn, vn]) (rest := []) rfl (fun f r h' hf => callV_ok hf rfl rfl rfl) h ?_
    rintro _ _ ⟨x4, I5, J6, rfl, rfl, h⟩
    refine WP.blk (pc' := 16) (L' := [vr 10 0, vi l1, vi x4, vn, vn, vn]) (st' := [vi x4]) (h' := (101, I5, J6, R0 b)) 2 rfl ?_
    refine WP.if_ge (t := 21) (L' := [vr 10 0, vi l1, vi x4, vn, vn, vn]) rfl rfl rfl rfl h (fun h => ?_) (fun h => ?_)
    · refine WP.blk (pc' := 33) (L' := [vr 10 0, vi l1, vi x4, vi (I5 10 0 8), vi (-2), vi 0]) (st' := []) (h' := (101, I5, J6, R0 b)) 7 rfl ?_
      exact WP.mask rfl rfl h
    · refine WP.blk (pc' := 20) (L' := [vr 10 0, vi l1, vi x4, vn, vn, vn]) (st' := [vi x4]) (h' := (101, I5, J6, R0 b)) 1 rfl ?_
      exact WP.ret rfl rfl h
  · refine WP.blk (pc' := 8) (L' := [vr 10 0, vi l1, vn, vn, vn, vn]) (st' := [vi (-1)]) (h' := (101, I2, J3, R0 b)) 1 rfl ?_
    exact WP.ret rfl rfl h
set_option maxRecDepth 20000 in
theorem t_X10_who_33 {D : Nat} (l1 : Int32) (l3 : Int32) (l4 : Int32) (l5 : Int32) (I : IM) (J : JM) (b : Bool) {Q : Option AV → AH → Prop} (h : (if (3 : Int32) < l5 then Q (some (vi l4)) (101, (updI I 10 0 8 l3), J, R0 b) else (if 0 ≤ l4 then Q (some (vi l4)) (101, (updI I 10 0 8 l3), J, R0 b) else (Call D 185 [vr 10 0] (101, (updI I 10 0 8 l5), J, R0 b) (RVf b fun I8 J9 => (Call D 204 [vr 10 0, vi (l1 - l1 / (10 : Int32) * (10 : Int32))] (101, I8, J9, R0 b) (RIf b fun x10 I11 J12 => (if 0 ≤ x10 then WP D 209 33 [vr 10 0, vi l1, vn, vi l3, vi l4, vi (l5 + 1)] [] (101, I11, J12, R0 b) Q else WP D 209 33 [vr 10 0, vi l1, vn, vi l3, vi l5, vi (l5 + 1)] [] (101, I11, J12, R0 b) Q)))))))) : WP D 209 33 [vr 10 0, vi l1, vn, vi l3, vi l4, vi l5] [] (101, I, J, R0 b) Q := by
  refine WP.blk (pc' := 36) (L' := [vr 10 0, vi l1, vn, vi l3, vi l4, vi l5]) (st' := [vi 3, vi l5]) (h' := (101, I, J, R0 b)) 2 rfl ?_
  refine WP.icmp_gt (t := 75) (L' := [vr 10 0, vi l1, vn, vi l3, vi l4, vi l5]) rfl rfl rfl rfl h (fun h => ?_) (fun h => ?_)
  · refine WP.blk (pc' := 82) (L' := [vr 10 0, vn, vn, vi l3, vi l4, vn]) (st' := [vi l4]) (h' := (101, (updI I 10 0 8 l3), J, R0 b)) 4 rfl ?_
    exact WP.ret rfl rfl h
  · refine WP.blk (pc' := 41) (L' := [vr 10 0, vi l1, vn, vi l3, vi l4, vi l5]) (st' := [vi l4]) (h' := (101, I, J, R0 b)) 1 rfl ?_
    refine WP.if_ge (t := 75) (L' := [vr 10 0, vi l1, vn, vi l3, vi l4, vi l5]) rfl rfl rfl rfl h (fun h => ?_) (fun h => ?_)
    · refine WP.blk (pc' := 82) (L' := [vr 10 0, vn, vn, vi l3, vi l4, vn]) (st' := [vi l4]) (h' := (101, (updI I 10 0 8 l3), J, R0 b)) 4 rfl ?_
      exact WP.ret rfl rfl h
    · refine WP.blk (pc' := 51) (L' := [vr 10 0, vi l1, vn, vi l3, vi l4, vi l5]) (st' := [vr 10 0]) (h' := (101, (updI I 10 0 8 l5), J, R0 b)) 4 rfl ?_
      refine WP.cal (y' := 185) (as := [vr 10 0]) (L' := [vr 10 0, vi l1, vn, vi l3, vi l4, vi l5]) (rest := []) rfl (fun f r h' hf => callV_ok hf rfl rfl rfl) h ?_
      rintro _ _ ⟨I8, J9, rfl, rfl, h⟩
      refine WP.blk (pc' := 59) (L' := [vr 10 0, vi l1, vn, vi l3, vi l4, vi l5]) (st' := [vi (l1 - l1 / (10 : Int32) * (10 : Int32)), vr 10 0]) (h' := (101, I8, J9, R0 b)) 4 rfl ?_
      refine WP.cal (y' := 204) (as := [vr 10 0, vi (l1 - l1 / (10 : Int32) * (10 : Int32))]) (L' := [vr 10 0, vi l1, vn, vi l3, vi l4, vi l5]) (rest := []) rfl (fun f r h' hf => callV_ok hf rfl rfl rfl) h ?_
      rintro _ _ ⟨x10, I11, J12, rfl, rfl, h⟩
      refine WP.if_ge (t := 69) (L' := [vr 10 0, vi l1, vn, vi l3, vi l4, vi l5]) rfl rfl rfl rfl h (fun h => ?_) (fun h => ?_)
      · refine WP.blk (pc' := 33) (L' := [vr 10 0, vi l1, vn, vi l3, vi l4, vi (l5 + 1)]) (st' := []) (h' := (101, I11, J12, R0 b)) 2 rfl ?_
        exact WP.mask rfl rfl h
      · refine WP.blk (pc' := 33) (L' := [vr 10 0, vi l1, vn, vi l3, vi l5, vi (l5 + 1)]) (st' := []) (h' := (101, I11, J12, R0 b)) 4 rfl ?_
        exact WP.mask rfl rfl h
set_option maxRecDepth 20000 in
theorem t_X10_byHand {D : Nat} (l1 : Int32) (l2 : Int32) (I : IM) (J : JM) (b : Bool) {Q : Option AV → AH → Prop} (h : (Call D 237 [vi l1] (101, I, J, R0 b) (RIf b fun x1 I2 J3 => (if x1 = 0 then Q (some (vi (-1))) (101, I2, J3, R0 b) else (Call D 135 [vi l2, vi 0, vi 1] (101, I2, J3, R0 b) (RIf b fun x4 I5 J6 => (if ¬ x4 = 0 then (Call D 187 [vr 10 0, vi l1] (101, I5, J6, R0 b) (RIf b fun x7 I8 J9 => (if 0 ≤ x7 then (Call D 185 [vr 10 0] (101, I8, J9, R0 b) (RVf b fun I11 J12 => (if ¬ l2 = (1 : Int32) then WP D 210 50 [vr 10 0, vn, vn, vn, vi 0, vi 0] [] (101, I11, J12, R0 b) Q else Q (some (vi (I11 10 0 43))) (101, I11, J12, R0 b)))) else Q (some (vi x7)) (101, I8, J9, R0 b)))) else Q (some (vi (-1))) (101, I5, J6, R0 b)))))))) : Call (D + 1) 210 [vr 10 0, vi l1, vi l2] (101, I, J, R0 b) Q := by
  refine Call.of rfl ?_
  show WP D 210 0 [vr 10 0, vi l1, vi l2, vn, vn, vn] [] (101, I, J, R0 b) Q
  refine WP.blk (pc' := 1) (L' := [vr 10 0, vi l1, vi l2, vn, vn, vn]) (st' := [vi l1]) (h' := (101, I, J, R0 b)) 1 rfl ?_
  refine WP.cal (y' := 237) (as := [vi l1]) (L' := [vr 10 0, vi l1, vi l2, vn, vn, vn]) (rest := []) rfl (fun f r h' hf => callS_ok hf rfl rfl rfl) h ?_
  rintro _ _ ⟨x1, I2, J3, rfl, rfl, h⟩
  refine WP.if_eq (t := 16) (L' := [vr 10 0, vi l1, vi l2, vn, vn, vn]) rfl rfl rfl rfl h (fun h => ?_) (fun h => ?_)
  · refine WP.blk (pc' := 17) (L' := [vn, vn, vn, vn, vn, vn]) (st' := [vi (-1)]) (h' := (101, I2, J3, R0 b)) 1 rfl ?_
    exact WP.ret rfl rfl h
  · refine WP.blk (pc' := 10) (L' := [vr 10 0, vi l1, vi l2, vn, vn, vn]) (st' := [vi 1, vi 0, vi l2]) (h' := (101, I2, J3, R0 b)) 3 rfl ?_
    refine WP.cal (y' := 135) (as := [vi l2, vi 0, vi 1]) (L' := [vr 10 0, vi l1, vi l2, vn, vn, vn]) (rest := []) rfl (fun f r h' hf => callS_ok hf rfl rfl rfl) h ?_
    rintro _ _ ⟨x4, I5, J6, rfl, rfl, h⟩
    refine WP.if_ne (t := 18) (L' := [vr 10 0, vi l1, vi l2, vn, vn, vn]) rfl rfl rfl rfl h (fun h => ?_) (fun h => ?_)
    · refine WP.blk (pc' := 20) (L' := [vr 10 0, vi l1, vi l2, vn, vn, vn]) (st' := [vi l1, vr 10 0]) (h' := (101, I5, J6, R0 b)) 2 rfl ?_
      refine WP.cal (y' := 187) (as := [vr 10 0, vi l1]) (L' := [vr 10 0, vi l1, vi l2, vn, vn, vn]) (rest := []) rfl (fun f r h' hf => callV_ok hf rfl rfl rfl) h ?_
      rintro _ _ ⟨x7, I8, J9, rfl, rfl, h⟩
      refine WP.blk (pc' := 25) (L' := [vr 10 0, vi l1, vi l2, vi x7, vn, vn]) (st' := [vi x7]) (h' := (101, I8, J9, R0 b)) 2 rfl ?_
      refine WP.if_ge (t := 30) (L' := [vr 10 0, vi l1, vi l2, vi x7, vn, vn]) rfl rfl rfl rfl h (fun h => ?_) (fun h => ?_)
      · refine WP.blk (pc' := 31) (L' := [vr 10 0, vi l1, vi l2, vi x7, vn, vn]) (st' := [vr 10 0]) (h' := (101, I8, J9, R0 b)) 1 rfl ?_
        refine WP.cal (y' := 185) (as := [vr 10 0]) (L' := [vr 10 0, vi l1, vi l2, vi x7, vn, vn]) (rest := []) rfl (fun f r h' hf => callV_ok hf rfl rfl rfl) h ?_
        rintro _ _ ⟨I11, J12, rfl, rfl, h⟩
        refine WP.blk (pc' := 36) (L' := [vr 10 0, vi l1, vi l2, vi x7, vn, vn]) (st' := [vi 1, vi l2]) (h' := (101, I11, J12, R0 b)) 2 rfl ?_
        refine WP.icmp_ne (t := 44) (L' := [vr 10 0, vi l1, vi l2, vi x7, vn, vn]) rfl rfl rfl rfl h (fun h => ?_) (fun h => ?_)
        · refine WP.blk (pc' := 50) (L' := [vr 10 0, vi l1, vi l2, vi x7, vi 0, vi 0]) (st' := []) (h' := (101, I11, J12, R0 b)) 4 rfl ?_
          exact WP.mask rfl rfl h
        · refine WP.blk (pc' := 43) (L' := [vr 10 0, vi l1, vi l2, vi x7, vn, vn]) (st' := [vi (I11 10 0 43)]) (h' := (101, I11, J12, R0 b)) 2 rfl ?_
          exact WP.ret rfl rfl h
      · refine WP.blk (pc' := 29) (L' := [vr 10 0, vi l1, vi l2, vi x7, vn, vn]) (st' := [vi x7]) (h' := (101, I8, J9, R0 b)) 1 rfl ?_
        exact WP.ret rfl rfl h
    · refine WP.blk (pc' := 17) (L' := [vn, vn, vn, vn, vn, vn]) (st' := [vi (-1)]) (h' := (101, I5, J6, R0 b)) 1 rfl ?_
      exact WP.ret rfl rfl h
set_option maxRecDepth 20000 in
theorem t_X10_byHand_50 {D : Nat} (l4 : Int32) (l5 : Int32) (I : IM) (J : JM) (b : Bool) {Q : Option AV → AH → Prop} (h : (if (I 10 0 49) ≤ l5 then Q (some (vi l4)) (101, I, J, R0 b) else (vp_in l5 7 ∧ (vp_in (I 68 0 l5.toNatClampNeg) 7 ∧ (if ¬ (I 67 0 (I 68 0 l5.toNatClampNeg).toNatClampNeg) = (1 : Int32) then WP D 210 50 [vr 10 0, vn, vn, vn, vi l4, vi (l5 + 1)] [] (101, I, J, R0 b) Q else (vp_in l5 7 ∧ WP D 210 50 [vr 10 0, vn, vn, vn, vi (l4 ||| ((1 : Int32) <<< ((I 68 0 l5.toNatClampNeg) &&& 31))), vi (l5 + 1)] [] (101, I, J, R0 b) Q)))))) : WP D 210 50 [vr 10 0, vn, vn, vn, vi l4, vi l5] [] (101, I, J, R0 b) Q := by
  refine WP.blk (pc' := 56) (L' := [vr 10 0, vn, vn, vn, vi l4, vi l5]) (st' := [vi (I 10 0 49), vi l5]) (h' := (101, I, J, R0 b)) 3 rfl ?_
  refine WP.icmp_ge (t := 95) (L' := [vr 10 0, vn, vn, vn, vi l4, vi l5]) rfl rfl rfl rfl h (fun h => ?_) (fun h => ?_)
  · refine WP.blk (pc' := 97) (L' := [vr 10 0, vn, vn, vn, vi l4, vi l5]) (st' := [vi l4]) (h' := (101, I, J, R0 b)) 1 rfl ?_
    exact WP.ret rfl rfl h
  · refine WP.blk (pc' := 69) (L' := [vr 10 0, vn, vn, vn, vi l4, vi l5]) (st' := [vi l5, vr 68 0, vr 67 0]) (h' := (101, I, J, R0 b)) 5 rfl ?_
    refine WP.step (pc' := 70) (L' := [vr 10 0, vn, vn, vn, vi l4, vi l5]) (st' := [vi (I 68 0 l5.toNatClampNeg), vr 67 0]) (h' := (101, I, J, R0 b)) rfl (iaload_ok (n := 7) rfl rfl rfl (inA_of h.1)) ?_
    have h := And.right h
    refine WP.step (pc' := 71) (L' := [vr 10 0, vn, vn, vn, vi l4, vi l5]) (st' := [vi (I 67 0 (I 68 0 l5.toNatClampNeg).toNatClampNeg)]) (h' := (101, I, J, R0 b)) rfl (iaload_ok (n := 7) rfl rfl rfl (inA_of h.1)) ?_
    have h := And.right h
    refine WP.blk (pc' := 72) (L' := [vr 10 0, vn, vn, vn, vi l4, vi l5]) (st' := [vi 1, vi (I 67 0 (I 68 0 l5.toNatClampNeg).toNatClampNeg)]) (h' := (101, I, J, R0 b)) 1 rfl ?_
    refine WP.icmp_ne (t := 89) (L' := [vr 10 0, vn, vn, vn, vi l4, vi l5]) rfl rfl rfl rfl h (fun h => ?_) (fun h => ?_)
    · refine WP.blk (pc' := 50) (L' := [vr 10 0, vn, vn, vn, vi l4, vi (l5 + 1)]) (st' := []) (h' := (101, I, J, R0 b)) 2 rfl ?_
      exact WP.mask rfl rfl h
    · refine WP.blk (pc' := 84) (L' := [vr 10 0, vn, vn, vn, vi l4, vi l5]) (st' := [vi l5, vr 68 0, vi 1, vi l4]) (h' := (101, I, J, R0 b)) 5 rfl ?_
      refine WP.step (pc' := 85) (L' := [vr 10 0, vn, vn, vn, vi l4, vi l5]) (st' := [vi (I 68 0 l5.toNatClampNeg), vi 1, vi l4]) (h' := (101, I, J, R0 b)) rfl (iaload_ok (n := 7) rfl rfl rfl (inA_of h.1)) ?_
      have h := And.right h
      refine WP.blk (pc' := 50) (L' := [vr 10 0, vn, vn, vn, vi (l4 ||| ((1 : Int32) <<< ((I 68 0 l5.toNatClampNeg) &&& 31))), vi (l5 + 1)]) (st' := []) (h' := (101, I, J, R0 b)) 5 rfl ?_
      exact WP.mask rfl rfl h
set_option maxRecDepth 20000 in
theorem t_X10_drawn {D : Nat} (l1 : Int32) (l2 : Int32) (l3 : Int32) (l4 : Int32) (I : IM) (J : JM) (b : Bool) {Q : Option AV → AH → Prop} (h : (Call D 237 [vi l1] (101, I, J, R0 b) (RIf b fun x1 I2 J3 => (if x1 = 0 then Q (some (vi (-1))) (101, I2, J3, R0 b) else (Call D 135 [vi l3, vi 1, vi 30] (101, I2, J3, R0 b) (RIf b fun x4 I5 J6 => (if x4 = 0 then Q (some (vi (-1))) (101, I5, J6, R0 b) else (Call D 135 [vi l4, vi 0, vi 1] (101, I5, J6, R0 b) (RIf b fun x7 I8 J9 => (if ¬ x7 = 0 then (Call D 187 [vr 10 0, vi l1] (101, I8, J9, R0 b) (RIf b fun x10 I11 J12 => (if 0 ≤ x10 then WP D 211 63 [vr 10 0, vn, vn, vi l3, vi l4, vn, vi 0, vi 0, vi 0] [] (101, (updI (updI I11 10 0 46 l2) 10 0 45 1), J12, R0 b) Q else Q (some (vi x10)) (101, I11, J12, R0 b)))) else Q (some (vi (-1))) (101, I8, J9, R0 b))))))))))) : Call (D + 1) 211 [vr 10 0, vi l1, vi l2, vi l3, vi l4] (101, I, J, R0 b) Q := by
  refine Call.of rfl ?_
  show WP D 211 0 [vr 10 0, vi l1, vi l2, vi l3, vi l4, vn, vn, vn, vn] [] (101, I, J, R0 b) Q
  refine WP.blk (pc' := 1) (L' := [vr 10 0, vi l1, vi l2, vi l3, vi l4, vn, vn, vn, vn]) (st' := [vi l1]) (h' := (101, I, J, R0 b)) 1 rfl ?_
  refine WP.cal (y' := 237) (as := [vi l1]) (L' := [vr 10 0, vi l1, vi l2, vi l3, vi l4, vn, vn, vn, vn]) (rest := []) rfl (fun f r h' hf => callS_ok hf rfl rfl rfl) h ?_
  rintro _ _ ⟨x1, I2, J3, rfl, rfl, h⟩
  refine WP.if_eq (t := 27) (L' := [vr 10 0, vi l1, vi l2, vi l3, vi l4, vn, vn, vn, vn]) rfl rfl rfl rfl h (fun h => ?_) (fun h => ?_)
  · refine WP.blk (pc' := 28) (L' := [vn, vn, vn, vn, vn, vn, vn, vn, vn]) (st' := [vi (-1)]) (h' := (101, I2, J3, R0 b)) 1 rfl ?_
    exact WP.ret rfl rfl h
  · refine WP.blk (pc' := 11) (L' := [vr 10 0, vi l1, vi l2, vi l3, vi l4, vn, vn, vn, vn]) (st' := [vi 30, vi 1, vi l3]) (h' := (101, I2, J3, R0 b)) 3 rfl ?_
    refine WP.cal (y' := 135) (as := [vi l3, vi 1, vi 30]) (L' := [vr 10 0, vi l1, vi l2, vi l3, vi l4, vn, vn, vn, vn]) (rest := []) rfl (fun f r h' hf => callS_ok hf rfl rfl rfl) h ?_
    rintro _ _ ⟨x4, I5, J6, rfl, rfl, h⟩
    refine WP.if_eq (t := 27) (L' := [vr 10 0, vi l1, vi l2, vi l3, vi l4, vn, vn, vn, vn]) rfl rfl rfl rfl h (fun h => ?_) (fun h => ?_)
    · refine WP.blk (pc' := 28) (L' := [vn, vn, vn, vn, vn, vn, vn, vn, vn]) (st' := [vi (-1)]) (h' := (101, I5, J6, R0 b)) 1 rfl ?_
      exact WP.ret rfl rfl h
    · refine WP.blk (pc' := 21) (L' := [vr 10 0, vi l1, vi l2, vi l3, vi l4, vn, vn, vn, vn]) (st' := [vi 1, vi 0, vi l4]) (h' := (101, I5, J6, R0 b)) 3 rfl ?_
      refine WP.cal (y' := 135) (as := [vi l4, vi 0, vi 1]) (L' := [vr 10 0, vi l1, vi l2, vi l3, vi l4, vn, vn, vn, vn]) (rest := []) rfl (fun f r h' hf => callS_ok hf rfl rfl rfl) h ?_
      rintro _ _ ⟨x7, I8, J9, rfl, rfl, h⟩
      refine WP.if_ne (t := 29) (L' := [vr 10 0, vi l1, vi l2, vi l3, vi l4, vn, vn, vn, vn]) rfl rfl rfl rfl h (fun h => ?_) (fun h => ?_)
      · refine WP.blk (pc' := 31) (L' := [vr 10 0, vi l1, vi l2, vi l3, vi l4, vn, vn, vn, vn]) (st' := [vi l1, vr 10 0]) (h' := (101, I8, J9, R0 b)) 2 rfl ?_
        refine WP.cal (y' := 187) (as := [vr 10 0, vi l1]) (L' := [vr 10 0, vi l1, vi l2, vi l3, vi l4, vn, vn, vn, vn]) (rest := []) rfl (fun f r h' hf => callV_ok hf rfl rfl rfl) h ?_
        rintro _ _ ⟨x10, I11, J12, rfl, rfl, h⟩
        refine WP.blk (pc' := 38) (L' := [vr 10 0, vi l1, vi l2, vi l3, vi l4, vi x10, vn, vn, vn]) (st' := [vi x10]) (h' := (101, I11, J12, R0 b)) 2 rfl ?_
        refine WP.if_ge (t := 44) (L' := [vr 10 0, vi l1, vi l2, vi l3, vi l4, vi x10, vn, vn, vn]) rfl rfl rfl rfl h (fun h => ?_) (fun h => ?_)
        · refine WP.blk (pc' := 63) (L' := [vr 10 0, vi l1, vi l2, vi l3, vi l4, vi x10, vi 0, vi 0, vi 0]) (st' := []) (h' := (101, (updI (updI I11 10 0 46 l2) 10 0 45 1), J12, R0 b)) 12 rfl ?_
          exact WP.mask rfl rfl h
        · refine WP.blk (pc' := 43) (L' := [vr 10 0, vi l1, vi l2, vi l3, vi l4, vi x10, vn, vn, vn]) (st' := [vi x10]) (h' := (101, I11, J12, R0 b)) 1 rfl ?_
          exact WP.ret rfl rfl h
      · refine WP.blk (pc' := 28) (L' := [vn, vn, vn, vn, vn, vn, vn, vn, vn]) (st' := [vi (-1)]) (h' := (101, I8, J9, R0 b)) 1 rfl ?_
        exact WP.ret rfl rfl h
set_option maxRecDepth 20000 in
theorem t_X10_drawn_63 {D : Nat} (l3 : Int32) (l4 : Int32) (l6 : Int32) (l7 : Int32) (l8 : Int32) (I : IM) (J : JM) (b : Bool) {Q : Option AV → AH → Prop} (h : (if l3 ≤ l8 then (if ¬ l4 = 0 then Q (some (vi l7)) (101, (updI I 10 0 45 0), J, R0 b) else Q (some (vi l6)) (101, (updI I 10 0 45 0), J, R0 b)) else (Call D 185 [vr 10 0] (101, I, J, R0 b) (RVf b fun I14 J15 => (Call D 186 [vr 10 0] (101, I14, J15, R0 b) (RIf b fun x16 I17 J18 => (if ¬ (I17 10 0 49) = (I17 10 0 48) then WP D 211 63 [vr 10 0, vn, vn, vi l3, vi l4, vn, vi (l6 + x16), vi l7, vi (l8 + 1)] [] (101, I17, J18, R0 b) Q else WP D 211 63 [vr 10 0, vn, vn, vi l3, vi l4, vn, vi (l6 + x16), vi (l7 + 1), vi (l8 + 1)] [] (101, I17, J18, R0 b) Q))))))) : WP D 211 63 [vr 10 0, vn, vn, vi l3, vi l4, vn, vi l6, vi l7, vi l8] [] (101, I, J, R0 b) Q := by
  refine WP.blk (pc' := 66) (L' := [vr 10 0, vn, vn, vi l3, vi l4, vn, vi l6, vi l7, vi l8]) (st' := [vi l3, vi l8]) (h' := (101, I, J, R0 b)) 2 rfl ?_
  refine WP.icmp_ge (t := 102) (L' := [vr 10 0, vn, vn, vi l3, vi l4, vn, vi l6, vi l7, vi l8]) rfl rfl rfl rfl h (fun h => ?_) (fun h => ?_)
  · refine WP.blk (pc' := 109) (L' := [vr 10 0, vn, vn, vi l3, vi l4, vn, vi l6, vi l7, vi l8]) (st' := [vi l4]) (h' := (101, (updI I 10 0 45 0), J, R0 b)) 4 rfl ?_
    refine WP.if_ne (t := 117) (L' := [vr 10 0, vn, vn, vi l3, vi l4, vn, vi l6, vi l7, vi l8]) rfl rfl rfl rfl h (fun h => ?_) (fun h => ?_)
    · refine WP.blk (pc' := 119) (L' := [vr 10 0, vn, vn, vi l3, vi l4, vn, vi l6, vi l7, vi l8]) (st' := [vi l7]) (h' := (101, (updI I 10 0 45 0), J, R0 b)) 1 rfl ?_
      exact WP.ret rfl rfl h
    · refine WP.blk (pc' := 119) (L' := [vr 10 0, vn, vn, vi l3, vi l4, vn, vi l6, vi l7, vi l8]) (st' := [vi l6]) (h' := (101, (updI I 10 0 45 0), J, R0 b)) 2 rfl ?_
      exact WP.ret rfl rfl h
  · refine WP.blk (pc' := 70) (L' := [vr 10 0, vn, vn, vi l3, vi l4, vn, vi l6, vi l7, vi l8]) (st' := [vr 10 0]) (h' := (101, I, J, R0 b)) 1 rfl ?_
    refine WP.cal (y' := 185) (as := [vr 10 0]) (L' := [vr 10 0, vn, vn, vi l3, vi l4, vn, vi l6, vi l7, vi l8]) (rest := []) rfl (fun f r h' hf => callV_ok hf rfl rfl rfl) h ?_
    rintro _ _ ⟨I14, J15, rfl, rfl, h⟩
    refine WP.blk (pc' := 76) (L' := [vr 10 0, vn, vn, vi l3, vi l4, vn, vi l6, vi l7, vi l8]) (st' := [vr 10 0, vi l6]) (h' := (101, I14, J15, R0 b)) 2 rfl ?_
    refine WP.cal (y' := 186) (as := [vr 10 0]) (L' := [vr 10 0, vn, vn, vi l3, vi l4, vn, vi l6, vi l7, vi l8]) (rest := [vi l6]) rfl (fun f r h' hf => callV_ok hf rfl rfl rfl) h ?_
    rintro _ _ ⟨x16, I17, J18, rfl, rfl, h⟩
    refine WP.blk (pc' := 90) (L' := [vr 10 0, vn, vn, vi l3, vi l4, vn, vi (l6 + x16), vi l7, vi l8]) (st' := [vi (I17 10 0 48), vi (I17 10 0 49)]) (h' := (101, I17, J18, R0 b)) 6 rfl ?_
    refine WP.icmp_ne (t := 96) (L' := [vr 10 0, vn, vn, vi l3, vi l4, vn, vi (l6 + x16), vi l7, vi l8]) rfl rfl rfl rfl h (fun h => ?_) (fun h => ?_)
    · refine WP.blk (pc' := 63) (L' := [vr 10 0, vn, vn, vi l3, vi l4, vn, vi (l6 + x16), vi l7, vi (l8 + 1)]) (st' := []) (h' := (101, I17, J18, R0 b)) 2 rfl ?_
      exact WP.mask rfl rfl h
    · refine WP.blk (pc' := 63) (L' := [vr 10 0, vn, vn, vi l3, vi l4, vn, vi (l6 + x16), vi (l7 + 1), vi (l8 + 1)]) (st' := []) (h' := (101, I17, J18, R0 b)) 3 rfl ?_
      exact WP.mask rfl rfl h
set_option maxRecDepth 20000 in
theorem t_X10_fit {D : Nat} (l1 : Int32) (I : IM) (J : JM) (b : Bool) {Q : Option AV → AH → Prop} (h : (Call D 137 [vr 10 0, vi l1] (101, I, J, R0 b) (RIf b fun x1 I2 J3 => (if ¬ x1 = 0 then (if ¬ (((I2 10 0 58) >>> (l1 &&& 31)) &&& (1 : Int32)) = (1 : Int32) then WP D 212 35 [vr 10 0, vi l1, vi 0] [] (101, (updI I2 10 0 36 (I2 10 0 63)), J3, R0 b) Q else Q (some (vi (-5))) (101, I2, J3, R0 b)) else Q (some (vi (-1))) (101, I2, J3, R0 b))))) : Call (D + 1) 212 [vr 10 0, vi l1] (101, I, J, R0 b) Q := by
  refine Call.of rfl ?_
  show WP D 212 0 [vr 10 0, vi l1, vn] [] (101, I, J, R0 b) Q
  refine WP.blk (pc' := 2) (L' := [vr 10 0, vi l1, vn]) (st' := [vi l1, vr 10 0]) (h' := (101, I, J, R0 b)) 2 rfl ?_
  refine WP.cal (y' := 137) (as := [vr 10 0, vi l1]) (L' := [vr 10 0, vi l1, vn]) (rest := []) rfl (fun f r h' hf => callV_ok hf rfl rfl rfl) h ?_
  rintro _ _ ⟨x1, I2, J3, rfl, rfl, h⟩
  refine WP.if_ne (t := 10) (L' := [vr 10 0, vi l1, vn]) rfl rfl rfl rfl h (fun h => ?_) (fun h => ?_)
  · refine WP.blk (pc' := 19) (L' := [vr 10 0, vi l1, vn]) (st' := [vi 1, vi (((I2 10 0 58) >>> (l1 &&& 31)) &&& (1 : Int32))]) (h' := (101, I2, J3, R0 b)) 7 rfl ?_
    refine WP.icmp_ne (t := 25) (L' := [vr 10 0, vi l1, vn]) rfl rfl rfl rfl h (fun h => ?_) (fun h => ?_)
    · refine WP.blk (pc' := 35) (L' := [vr 10 0, vi l1, vi 0]) (st' := []) (h' := (101, (updI I2 10 0 36 (I2 10 0 63)), J3, R0 b)) 6 rfl ?_
      exact WP.mask rfl rfl h
    · refine WP.blk (pc' := 24) (L' := [vr 10 0, vi l1, vn]) (st' := [vi (-5)]) (h' := (101, I2, J3, R0 b)) 1 rfl ?_
      exact WP.ret rfl rfl h
  · refine WP.blk (pc' := 9) (L' := [vr 10 0, vi l1, vn]) (st' := [vi (-1)]) (h' := (101, I2, J3, R0 b)) 1 rfl ?_
    exact WP.ret rfl rfl h
set_option maxRecDepth 20000 in
theorem t_X10_fit_35 {D : Nat} (l1 : Int32) (l2 : Int32) (I : IM) (J : JM) (b : Bool) {Q : Option AV → AH → Prop} (h : (if (I 10 0 63) ≤ l2 then WP D 212 87 [vr 10 0, vi l1, vi 0] [] (101, I, J, R0 b) Q else (vp_in l2 42 ∧ (vp_in l2 42 ∧ (vp_in l2 42 ∧ (vp_in l2 42 ∧ (vp_in l2 42 ∧ (vp_in l2 42 ∧ WP D 212 35 [vr 10 0, vi l1, vi (l2 + 1)] [] (101, (updI (updI (updI I 61 0 l2.toNatClampNeg (I 72 0 l2.toNatClampNeg)) 62 0 l2.toNatClampNeg (I 73 0 l2.toNatClampNeg)) 63 0 l2.toNatClampNeg (I 74 0 l2.toNatClampNeg)), J, R0 b) Q)))))))) : WP D 212 35 [vr 10 0, vi l1, vi l2] [] (101, I, J, R0 b) Q := by
  refine WP.blk (pc' := 40) (L' := [vr 10 0, vi l1, vi l2]) (st' := [vi (I 10 0 63), vi l2]) (h' := (101, I, J, R0 b)) 3 rfl ?_
  refine WP.icmp_ge (t := 85) (L' := [vr 10 0, vi l1, vi l2]) rfl rfl rfl rfl h (fun h => ?_) (fun h => ?_)
  · refine WP.blk (pc' := 87) (L' := [vr 10 0, vi l1, vi 0]) (st' := []) (h' := (101, I, J, R0 b)) 2 rfl ?_
    exact WP.mask rfl rfl h
  · refine WP.blk (pc' := 53) (L' := [vr 10 0, vi l1, vi l2]) (st' := [vi l2, vr 72 0, vi l2, vr 61 0]) (h' := (101, I, J, R0 b)) 6 rfl ?_
    refine WP.step (pc' := 54) (L' := [vr 10 0, vi l1, vi l2]) (st' := [vi (I 72 0 l2.toNatClampNeg), vi l2, vr 61 0]) (h' := (101, I, J, R0 b)) rfl (iaload_ok (n := 42) rfl rfl rfl (inA_of h.1)) ?_
    have h := And.right h
    refine WP.step (pc' := 55) (L' := [vr 10 0, vi l1, vi l2]) (st' := []) (h' := (101, (updI I 61 0 l2.toNatClampNeg (I 72 0 l2.toNatClampNeg)), J, R0 b)) rfl (iastore_ok (n := 42) rfl rfl rfl (inA_of h.1)) ?_
    have h := And.right h
    refine WP.blk (pc' := 65) (L' := [vr 10 0, vi l1, vi l2]) (st' := [vi l2, vr 73 0, vi l2, vr 62 0]) (h' := (101, (updI I 61 0 l2.toNatClampNeg (I 72 0 l2.toNatClampNeg)), J, R0 b)) 6 rfl ?_
    refine WP.step (pc' := 66) (L' := [vr 10 0, vi l1, vi l2]) (st' := [vi (I 73 0 l2.toNatClampNeg), vi l2, vr 62 0]) (h' := (101, (updI I 61 0 l2.toNatClampNeg (I 72 0 l2.toNatClampNeg)), J, R0 b)) rfl (iaload_ok (n := 42) rfl rfl rfl (inA_of h.1)) ?_
    have h := And.right h
    refine WP.step (pc' := 67) (L' := [vr 10 0, vi l1, vi l2]) (st' := []) (h' := (101, (updI (updI I 61 0 l2.toNatClampNeg (I 72 0 l2.toNatClampNeg)) 62 0 l2.toNatClampNeg (I 73 0 l2.toNatClampNeg)), J, R0 b)) rfl (iastore_ok (n := 42) rfl rfl rfl (inA_of h.1)) ?_
    have h := And.right h
    refine WP.blk (pc' := 77) (L' := [vr 10 0, vi l1, vi l2]) (st' := [vi l2, vr 74 0, vi l2, vr 63 0]) (h' := (101, (updI (updI I 61 0 l2.toNatClampNeg (I 72 0 l2.toNatClampNeg)) 62 0 l2.toNatClampNeg (I 73 0 l2.toNatClampNeg)), J, R0 b)) 6 rfl ?_
    refine WP.step (pc' := 78) (L' := [vr 10 0, vi l1, vi l2]) (st' := [vi (I 74 0 l2.toNatClampNeg), vi l2, vr 63 0]) (h' := (101, (updI (updI I 61 0 l2.toNatClampNeg (I 72 0 l2.toNatClampNeg)) 62 0 l2.toNatClampNeg (I 73 0 l2.toNatClampNeg)), J, R0 b)) rfl (iaload_ok (n := 42) rfl rfl rfl (inA_of h.1)) ?_
    have h := And.right h
    refine WP.step (pc' := 79) (L' := [vr 10 0, vi l1, vi l2]) (st' := []) (h' := (101, (updI (updI (updI I 61 0 l2.toNatClampNeg (I 72 0 l2.toNatClampNeg)) 62 0 l2.toNatClampNeg (I 73 0 l2.toNatClampNeg)) 63 0 l2.toNatClampNeg (I 74 0 l2.toNatClampNeg)), J, R0 b)) rfl (iastore_ok (n := 42) rfl rfl rfl (inA_of h.1)) ?_
    have h := And.right h
    refine WP.blk (pc' := 35) (L' := [vr 10 0, vi l1, vi (l2 + 1)]) (st' := []) (h' := (101, (updI (updI (updI I 61 0 l2.toNatClampNeg (I 72 0 l2.toNatClampNeg)) 62 0 l2.toNatClampNeg (I 73 0 l2.toNatClampNeg)) 63 0 l2.toNatClampNeg (I 74 0 l2.toNatClampNeg)), J, R0 b)) 2 rfl ?_
    exact WP.mask rfl rfl h
set_option maxRecDepth 20000 in
theorem t_X10_fit_87 {D : Nat} (l1 : Int32) (l2 : Int32) (I : IM) (J : JM) (b : Bool) {Q : Option AV → AH → Prop} (h : (if (I 10 0 1) ≤ l2 then (Call D 179 [vr 10 0, vi l1] (101, (updI (updI I 10 0 38 (I 10 0 58)) 10 0 37 (I 10 0 57)), J, R0 b) (RIf b fun x4 I5 J6 => (if ¬ x4 = 0 then WP D 212 160 [vr 10 0, vi l1, vi 0] [] (101, (updI I5 10 0 63 (I5 10 0 36)), J6, R0 b) Q else Q (some (vi (-2))) (101, (updI I5 75 0 1 ((I5 75 0 1) + (1 : Int32))), J6, R0 b)))) else (vp_in l2 7 ∧ (vp_in l2 7 ∧ WP D 212 87 [vr 10 0, vi l1, vi (l2 + 1)] [] (101, (updI I 66 0 l2.toNatClampNeg (I 71 0 l2.toNatClampNeg)), J, R0 b) Q)))) : WP D 212 87 [vr 10 0, vi l1, vi l2] [] (101, I, J, R0 b) Q := by
  refine WP.blk (pc' := 92) (L' := [vr 10 0, vi l1, vi l2]) (st' := [vi (I 10 0 1), vi l2]) (h' := (101, I, J, R0 b)) 3 rfl ?_
  refine WP.icmp_ge (t := 113) (L' := [vr 10 0, vi l1, vi l2]) rfl rfl rfl rfl h (fun h => ?_) (fun h => ?_)
  · refine WP.blk (pc' := 131) (L' := [vr 10 0, vi l1, vi l2]) (st' := [vi l1, vr 10 0]) (h' := (101, (updI (updI I 10 0 38 (I 10 0 58)) 10 0 37 (I 10 0 57)), J, R0 b)) 10 rfl ?_
    refine WP.cal (y' := 179) (as := [vr 10 0, vi l1]) (L' := [vr 10 0, vi l1, vi l2]) (rest := []) rfl (fun f r h' hf => callV_ok hf rfl rfl rfl) h ?_
    rintro _ _ ⟨x4, I5, J6, rfl, rfl, h⟩
    refine WP.if_ne (t := 150) (L' := [vr 10 0, vi l1, vi l2]) rfl rfl rfl rfl h (fun h => ?_) (fun h => ?_)
    · refine WP.blk (pc' := 160) (L' := [vr 10 0, vi l1, vi 0]) (st' := []) (h' := (101, (updI I5 10 0 63 (I5 10 0 36)), J6, R0 b)) 6 rfl ?_
      exact WP.mask rfl rfl h
    · refine WP.blk (pc' := 149) (L' := [vr 10 0, vi l1, vi l2]) (st' := [vi (-2)]) (h' := (101, (updI I5 75 0 1 ((I5 75 0 1) + (1 : Int32))), J6, R0 b)) 9 rfl ?_
      exact WP.ret rfl rfl h
  · refine WP.blk (pc' := 105) (L' := [vr 10 0, vi l1, vi l2]) (st' := [vi l2, vr 71 0, vi l2, vr 66 0]) (h' := (101, I, J, R0 b)) 6 rfl ?_
    refine WP.step (pc' := 106) (L' := [vr 10 0, vi l1, vi l2]) (st' := [vi (I 71 0 l2.toNatClampNeg), vi l2, vr 66 0]) (h' := (101, I, J, R0 b)) rfl (iaload_ok (n := 7) rfl rfl rfl (inA_of h.1)) ?_
    have h := And.right h
    refine WP.step (pc' := 107) (L' := [vr 10 0, vi l1, vi l2]) (st' := []) (h' := (101, (updI I 66 0 l2.toNatClampNeg (I 71 0 l2.toNatClampNeg)), J, R0 b)) rfl (iastore_ok (n := 7) rfl rfl rfl (inA_of h.1)) ?_
    have h := And.right h
    refine WP.blk (pc' := 87) (L' := [vr 10 0, vi l1, vi (l2 + 1)]) (st' := []) (h' := (101, (updI I 66 0 l2.toNatClampNeg (I 71 0 l2.toNatClampNeg)), J, R0 b)) 2 rfl ?_
    exact WP.mask rfl rfl h
set_option maxRecDepth 20000 in
theorem t_X10_fit_160 {D : Nat} (l1 : Int32) (l2 : Int32) (I : IM) (J : JM) (b : Bool) {Q : Option AV → AH → Prop} (h : (if (I 10 0 36) ≤ l2 then (vp_in l1 7 ∧ (vp_in l1 7 ∧ Q (some (vi (I 10 0 37))) (101, (updI (updI (updI (updI I 71 0 l1.toNatClampNeg (I 66 0 l1.toNatClampNeg)) 10 0 58 (I 10 0 38)) 10 0 57 (I 10 0 37)) 75 0 0 ((I 75 0 0) + (1 : Int32))), J, R0 b))) else (vp_in l2 42 ∧ (vp_in l2 42 ∧ (vp_in l2 42 ∧ (vp_in l2 42 ∧ (vp_in l2 42 ∧ (vp_in l2 42 ∧ WP D 212 160 [vr 10 0, vi l1, vi (l2 + 1)] [] (101, (updI (updI (updI I 72 0 l2.toNatClampNeg (I 61 0 l2.toNatClampNeg)) 73 0 l2.toNatClampNeg (I 62 0 l2.toNatClampNeg)) 74 0 l2.toNatClampNeg (I 63 0 l2.toNatClampNeg)), J, R0 b) Q)))))))) : WP D 212 160 [vr 10 0, vi l1, vi l2] [] (101, I, J, R0 b) Q := by
  refine WP.blk (pc' := 165) (L' := [vr 10 0, vi l1, vi l2]) (st' := [vi (I 10 0 36), vi l2]) (h' := (101, I, J, R0 b)) 3 rfl ?_
  refine WP.icmp_ge (t := 210) (L' := [vr 10 0, vi l1, vi l2]) rfl rfl rfl rfl h (fun h => ?_) (fun h => ?_)
  · refine WP.blk (pc' := 220) (L' := [vr 10 0, vi l1, vi l2]) (st' := [vi l1, vr 66 0, vi l1, vr 71 0]) (h' := (101, I, J, R0 b)) 6 rfl ?_
    refine WP.step (pc' := 221) (L' := [vr 10 0, vi l1, vi l2]) (st' := [vi (I 66 0 l1.toNatClampNeg), vi l1, vr 71 0]) (h' := (101, I, J, R0 b)) rfl (iaload_ok (n := 7) rfl rfl rfl (inA_of h.1)) ?_
    have h := And.right h
    refine WP.step (pc' := 222) (L' := [vr 10 0, vi l1, vi l2]) (st' := []) (h' := (101, (updI I 71 0 l1.toNatClampNeg (I 66 0 l1.toNatClampNeg)), J, R0 b)) rfl (iastore_ok (n := 7) rfl rfl rfl (inA_of h.1)) ?_
    have h := And.right h
    refine WP.blk (pc' := 252) (L' := [vr 10 0, vi l1, vi l2]) (st' := [vi (I 10 0 37)]) (h' := (101, (updI (updI (updI (updI I 71 0 l1.toNatClampNeg (I 66 0 l1.toNatClampNeg)) 10 0 58 (I 10 0 38)) 10 0 57 (I 10 0 37)) 75 0 0 ((I 75 0 0) + (1 : Int32))), J, R0 b)) 18 rfl ?_
    exact WP.ret rfl rfl h
  · refine WP.blk (pc' := 178) (L' := [vr 10 0, vi l1, vi l2]) (st' := [vi l2, vr 61 0, vi l2, vr 72 0]) (h' := (101, I, J, R0 b)) 6 rfl ?_
    refine WP.step (pc' := 179) (L' := [vr 10 0, vi l1, vi l2]) (st' := [vi (I 61 0 l2.toNatClampNeg), vi l2, vr 72 0]) (h' := (101, I, J, R0 b)) rfl (iaload_ok (n := 42) rfl rfl rfl (inA_of h.1)) ?_
    have h := And.right h
    refine WP.step (pc' := 180) (L' := [vr 10 0, vi l1, vi l2]) (st' := []) (h' := (101, (updI I 72 0 l2.toNatClampNeg (I 61 0 l2.toNatClampNeg)), J, R0 b)) rfl (iastore_ok (n := 42) rfl rfl rfl (inA_of h.1)) ?_
    have h := And.right h
    refine WP.blk (pc' := 190) (L' := [vr 10 0, vi l1, vi l2]) (st' := [vi l2, vr 62 0, vi l2, vr 73 0]) (h' := (101, (updI I 72 0 l2.toNatClampNeg (I 61 0 l2.toNatClampNeg)), J, R0 b)) 6 rfl ?_
    refine WP.step (pc' := 191) (L' := [vr 10 0, vi l1, vi l2]) (st' := [vi (I 62 0 l2.toNatClampNeg), vi l2, vr 73 0]) (h' := (101, (updI I 72 0 l2.toNatClampNeg (I 61 0 l2.toNatClampNeg)), J, R0 b)) rfl (iaload_ok (n := 42) rfl rfl rfl (inA_of h.1)) ?_
    have h := And.right h
    refine WP.step (pc' := 192) (L' := [vr 10 0, vi l1, vi l2]) (st' := []) (h' := (101, (updI (updI I 72 0 l2.toNatClampNeg (I 61 0 l2.toNatClampNeg)) 73 0 l2.toNatClampNeg (I 62 0 l2.toNatClampNeg)), J, R0 b)) rfl (iastore_ok (n := 42) rfl rfl rfl (inA_of h.1)) ?_
    have h := And.right h
    refine WP.blk (pc' := 202) (L' := [vr 10 0, vi l1, vi l2]) (st' := [vi l2, vr 63 0, vi l2, vr 74 0]) (h' := (101, (updI (updI I 72 0 l2.toNatClampNeg (I 61 0 l2.toNatClampNeg)) 73 0 l2.toNatClampNeg (I 62 0 l2.toNatClampNeg)), J, R0 b)) 6 rfl ?_
    refine WP.step (pc' := 203) (L' := [vr 10 0, vi l1, vi l2]) (st' := [vi (I 63 0 l2.toNatClampNeg), vi l2, vr 74 0]) (h' := (101, (updI (updI I 72 0 l2.toNatClampNeg (I 61 0 l2.toNatClampNeg)) 73 0 l2.toNatClampNeg (I 62 0 l2.toNatClampNeg)), J, R0 b)) rfl (iaload_ok (n := 42) rfl rfl rfl (inA_of h.1)) ?_
    have h := And.right h
    refine WP.step (pc' := 204) (L' := [vr 10 0, vi l1, vi l2]) (st' := []) (h' := (101, (updI (updI (updI I 72 0 l2.toNatClampNeg (I 61 0 l2.toNatClampNeg)) 73 0 l2.toNatClampNeg (I 62 0 l2.toNatClampNeg)) 74 0 l2.toNatClampNeg (I 63 0 l2.toNatClampNeg)), J, R0 b)) rfl (iastore_ok (n := 42) rfl rfl rfl (inA_of h.1)) ?_
    have h := And.right h
    refine WP.blk (pc' := 160) (L' := [vr 10 0, vi l1, vi (l2 + 1)]) (st' := []) (h' := (101, (updI (updI (updI I 72 0 l2.toNatClampNeg (I 61 0 l2.toNatClampNeg)) 73 0 l2.toNatClampNeg (I 62 0 l2.toNatClampNeg)) 74 0 l2.toNatClampNeg (I 63 0 l2.toNatClampNeg)), J, R0 b)) 2 rfl ?_
    exact WP.mask rfl rfl h
set_option maxRecDepth 20000 in
theorem t_X10_stay {D : Nat} (l1 : Int32) (I : IM) (J : JM) (b : Bool) {Q : Option AV → AH → Prop} (h : (Call D 135 [vi l1, vi 1, vi 999] (101, I, J, R0 b) (RIf b fun x1 I2 J3 => (if ¬ x1 = 0 then (if ((I2 10 0 57) + l1) ≤ (9999 : Int32) then Q (some (vi ((I2 10 0 57) + l1))) (101, (updI (updI I2 10 0 57 ((I2 10 0 57) + l1)) 75 0 2 ((I2 75 0 2) + l1)), J3, R0 b) else Q (some (vi (-5))) (101, I2, J3, R0 b)) else Q (some (vi (-1))) (101, I2, J3, R0 b))))) : Call (D + 1) 213 [vr 10 0, vi l1] (101, I, J, R0 b) Q := by
  refine Call.of rfl ?_
  show WP D 213 0 [vr 10 0, vi l1] [] (101, I, J, R0 b) Q
  refine WP.blk (pc' := 5) (L' := [vr 10 0, vi l1]) (st' := [vi 999, vi 1, vi l1]) (h' := (101, I, J, R0 b)) 3 rfl ?_
  refine WP.cal (y' := 135) (as := [vi l1, vi 1, vi 999]) (L' := [vr 10 0, vi l1]) (rest := []) rfl (fun f r h' hf => callS_ok hf rfl rfl rfl) h ?_
  rintro _ _ ⟨x1, I2, J3, rfl, rfl, h⟩
  refine WP.if_ne (t := 13) (L' := [vr 10 0, vi l1]) rfl rfl rfl rfl h (fun h => ?_) (fun h => ?_)
  · refine WP.blk (pc' := 22) (L' := [vr 10 0, vi l1]) (st' := [vi 9999, vi ((I2 10 0 57) + l1)]) (h' := (101, I2, J3, R0 b)) 5 rfl ?_
    refine WP.icmp_le (t := 28) (L' := [vr 10 0, vi l1]) rfl rfl rfl rfl h (fun h => ?_) (fun h => ?_)
    · refine WP.blk (pc' := 52) (L' := [vr 10 0, vi l1]) (st' := [vi ((I2 10 0 57) + l1)]) (h' := (101, (updI (updI I2 10 0 57 ((I2 10 0 57) + l1)) 75 0 2 ((I2 75 0 2) + l1)), J3, R0 b)) 16 rfl ?_
      exact WP.ret rfl rfl h
    · refine WP.blk (pc' := 27) (L' := [vr 10 0, vi l1]) (st' := [vi (-5)]) (h' := (101, I2, J3, R0 b)) 1 rfl ?_
      exact WP.ret rfl rfl h
  · refine WP.blk (pc' := 12) (L' := [vr 10 0, vi l1]) (st' := [vi (-1)]) (h' := (101, I2, J3, R0 b)) 1 rfl ?_
    exact WP.ret rfl rfl h
set_option maxRecDepth 20000 in
theorem t_X10_test {D : Nat} (l1 : Int32) (I : IM) (J : JM) (b : Bool) {Q : Option AV → AH → Prop} (h : (Call D 137 [vr 10 0, vi l1] (101, I, J, R0 b) (RIf b fun x1 I2 J3 => (if ¬ x1 = 0 then (if ¬ (((I2 10 0 58) >>> (l1 &&& 31)) &&& (1 : Int32)) = 0 then (vp_in l1 7 ∧ (if (I2 10 0 57) < (I2 71 0 l1.toNatClampNeg) then Q (some (vi 0)) (101, I2, J3, R0 b) else Q (some (vi 1)) (101, I2, J3, R0 b))) else Q (some (vi (-5))) (101, I2, J3, R0 b)) else Q (some (vi (-1))) (101, I2, J3, R0 b))))) : Call (D + 1) 214 [vr 10 0, vi l1] (101, I, J, R0 b) Q := by
  refine Call.of rfl ?_
  show WP D 214 0 [vr 10 0, vi l1] [] (101, I, J, R0 b) Q
  refine WP.blk (pc' := 2) (L' := [vr 10 0, vi l1]) (st' := [vi l1, vr 10 0]) (h' := (101, I, J, R0 b)) 2 rfl ?_
  refine WP.cal (y' := 137) (as := [vr 10 0, vi l1]) (L' := [vr 10 0, vi l1]) (rest := []) rfl (fun f r h' hf => callV_ok hf rfl rfl rfl) h ?_
  rintro _ _ ⟨x1, I2, J3, rfl, rfl, h⟩
  refine WP.if_ne (t := 10) (L' := [vr 10 0, vi l1]) rfl rfl rfl rfl h (fun h => ?_) (fun h => ?_)
  · refine WP.blk (pc' := 18) (L' := [vr 10 0, vi l1]) (st' := [vi (((I2 10 0 58) >>> (l1 &&& 31)) &&& (1 : Int32))]) (h' := (101, I2, J3, R0 b)) 6 rfl ?_
    refine WP.if_ne (t := 24) (L' := [vr 10 0, vi l1]) rfl rfl rfl rfl h (fun h => ?_) (fun h => ?_)
    · refine WP.blk (pc' := 29) (L' := [vr 10 0, vi l1]) (st' := [vi l1, vr 71 0]) (h' := (101, I2, J3, R0 b)) 3 rfl ?_
      refine WP.step (pc' := 30) (L' := [vr 10 0, vi l1]) (st' := [vi (I2 71 0 l1.toNatClampNeg)]) (h' := (101, I2, J3, R0 b)) rfl (iaload_ok (n := 7) rfl rfl rfl (inA_of h.1)) ?_
      have h := And.right h
      refine WP.blk (pc' := 34) (L' := [vr 10 0, vi l1]) (st' := [vi (I2 10 0 57), vi (I2 71 0 l1.toNatClampNeg)]) (h' := (101, I2, J3, R0 b)) 2 rfl ?_
      refine WP.icmp_gt (t := 41) (L' := [vr 10 0, vi l1]) rfl rfl rfl rfl h (fun h => ?_) (fun h => ?_)
      · refine WP.blk (pc' := 42) (L' := [vr 10 0, vi l1]) (st' := [vi 0]) (h' := (101, I2, J3, R0 b)) 1 rfl ?_
        exact WP.ret rfl rfl h
      · refine WP.blk (pc' := 42) (L' := [vr 10 0, vi l1]) (st' := [vi 1]) (h' := (101, I2, J3, R0 b)) 2 rfl ?_
        exact WP.ret rfl rfl h
    · refine WP.blk (pc' := 23) (L' := [vr 10 0, vi l1]) (st' := [vi (-5)]) (h' := (101, I2, J3, R0 b)) 1 rfl ?_
      exact WP.ret rfl rfl h
  · refine WP.blk (pc' := 9) (L' := [vr 10 0, vi l1]) (st' := [vi (-1)]) (h' := (101, I2, J3, R0 b)) 1 rfl ?_
    exact WP.ret rfl rfl h
set_option maxRecDepth 20000 in
theorem t_X10_chair {D : Nat}  (I : IM) (J : JM) (b : Bool) {Q : Option AV → AH → Prop} (h : (Call D 136 [vi (I 10 0 58)] (101, I, J, R0 b) (RIf b fun x1 I2 J3 => Q (some (vi x1)) (101, (updI (updI (updI I2 10 0 58 0) 10 0 63 0) 75 0 3 ((I2 75 0 3) + (1 : Int32))), J3, R0 b)))) : Call (D + 1) 215 [vr 10 0] (101, I, J, R0 b) Q := by
  refine Call.of rfl ?_
  show WP D 215 0 [vr 10 0, vn] [] (101, I, J, R0 b) Q
  refine WP.blk (pc' := 4) (L' := [vr 10 0, vn]) (st' := [vi (I 10 0 58)]) (h' := (101, I, J, R0 b)) 2 rfl ?_
  refine WP.cal (y' := 136) (as := [vi (I 10 0 58)]) (L' := [vr 10 0, vn]) (rest := []) rfl (fun f r h' hf => callS_ok hf rfl rfl rfl) h ?_
  rintro _ _ ⟨x1, I2, J3, rfl, rfl, h⟩
  refine WP.blk (pc' := 29) (L' := [vr 10 0, vi x1]) (st' := [vi x1]) (h' := (101, (updI (updI (updI I2 10 0 58 0) 10 0 63 0) 75 0 3 ((I2 75 0 3) + (1 : Int32))), J3, R0 b)) 16 rfl ?_
  exact WP.ret rfl rfl h
set_option maxRecDepth 20000 in
theorem t_X10_led {D : Nat} (l1 : Int32) (I : IM) (J : JM) (b : Bool) {Q : Option AV → AH → Prop} (h : (if ¬ l1 = (4 : Int32) then (Call D 135 [vi l1, vi 0, vi 3] (101, I, J, R0 b) (RIf b fun x1 I2 J3 => (if x1 = 0 then Q (some (vi (-1))) (101, I2, J3, R0 b) else (vp_in l1 4 ∧ Q (some (vi (I2 75 0 l1.toNatClampNeg))) (101, I2, J3, R0 b))))) else Q (some (vi (I 10 0 57))) (101, I, J, R0 b))) : Call (D + 1) 216 [vr 10 0, vi l1] (101, I, J, R0 b) Q := by
  refine Call.of rfl ?_
  show WP D 216 0 [vr 10 0, vi l1] [] (101, I, J, R0 b) Q
  refine WP.blk (pc' := 2) (L' := [vr 10 0, vi l1]) (st' := [vi 4, vi l1]) (h' := (101, I, J, R0 b)) 2 rfl ?_
  refine WP.icmp_ne (t := 10) (L' := [vr 10 0, vi l1]) rfl rfl rfl rfl h (fun h => ?_) (fun h => ?_)
  · refine WP.blk (pc' := 13) (L' := [vr 10 0, vi l1]) (st' := [vi 3, vi 0, vi l1]) (h' := (101, I, J, R0 b)) 3 rfl ?_
    refine WP.cal (y' := 135) (as := [vi l1, vi 0, vi 3]) (L' := [vr 10 0, vi l1]) (rest := []) rfl (fun f r h' hf => callS_ok hf rfl rfl rfl) h ?_
    rintro _ _ ⟨x1, I2, J3, rfl, rfl, h⟩
    refine WP.if_eq (t := 28) (L' := [vr 10 0, vi l1]) rfl rfl rfl rfl h (fun h => ?_) (fun h => ?_)
    · refine WP.blk (pc' := 29) (L' := [vr 10 0, vi l1]) (st' := [vi (-1)]) (h' := (101, I2, J3, R0 b)) 1 rfl ?_
      exact WP.ret rfl rfl h
    · refine WP.blk (pc' := 24) (L' := [vr 10 0, vi l1]) (st' := [vi l1, vr 75 0]) (h' := (101, I2, J3, R0 b)) 3 rfl ?_
      refine WP.step (pc' := 25) (L' := [vr 10 0, vi l1]) (st' := [vi (I2 75 0 l1.toNatClampNeg)]) (h' := (101, I2, J3, R0 b)) rfl (iaload_ok (n := 4) rfl rfl rfl (inA_of h.1)) ?_
      have h := And.right h
      refine WP.blk (pc' := 29) (L' := [vr 10 0, vi l1]) (st' := [vi (I2 75 0 l1.toNatClampNeg)]) (h' := (101, I2, J3, R0 b)) 1 rfl ?_
      exact WP.ret rfl rfl h
  · refine WP.blk (pc' := 9) (L' := [vr 10 0, vi l1]) (st' := [vi (I 10 0 57)]) (h' := (101, I, J, R0 b)) 2 rfl ?_
    exact WP.ret rfl rfl h
set_option maxRecDepth 20000 in
theorem t_X10_image {D : Nat}  (I : IM) (J : JM) (b : Bool) {Q : Option AV → AH → Prop} (h : WP D 217 31 [vr 10 0, vi 0] [] (101, (updI (updI (updI (updI I 10 0 65 1) 10 0 66 (I 10 0 57)) 10 0 67 (I 10 0 58)) 10 0 68 (I 10 0 63)), J, R0 b) Q) : Call (D + 1) 217 [vr 10 0] (101, I, J, R0 b) Q := by
  refine Call.of rfl ?_
  show WP D 217 0 [vr 10 0, vn] [] (101, I, J, R0 b) Q
  refine WP.blk (pc' := 31) (L' := [vr 10 0, vi 0]) (st' := []) (h' := (101, (updI (updI (updI (updI I 10 0 65 1) 10 0 66 (I 10 0 57)) 10 0 67 (I 10 0 58)) 10 0 68 (I 10 0 63)), J, R0 b)) 17 rfl ?_
  exact WP.mask rfl rfl h
set_option maxRecDepth 20000 in
theorem t_X10_image_31 {D : Nat} (l1 : Int32) (I : IM) (J : JM) (b : Bool) {Q : Option AV → AH → Prop} (h : (if (7 : Int32) ≤ l1 then WP D 217 57 [vr 10 0, vi 0] [] (101, I, J, R0 b) Q else (vp_in l1 7 ∧ (vp_in l1 7 ∧ WP D 217 31 [vr 10 0, vi (l1 + 1)] [] (101, (updI I 76 0 l1.toNatClampNeg (I 71 0 l1.toNatClampNeg)), J, R0 b) Q)))) : WP D 217 31 [vr 10 0, vi l1] [] (101, I, J, R0 b) Q := by
  refine WP.blk (pc' := 34) (L' := [vr 10 0, vi l1]) (st' := [vi 7, vi l1]) (h' := (101, I, J, R0 b)) 2 rfl ?_
  refine WP.icmp_ge (t := 55) (L' := [vr 10 0, vi l1]) rfl rfl rfl rfl h (fun h => ?_) (fun h => ?_)
  · refine WP.blk (pc' := 57) (L' := [vr 10 0, vi 0]) (st' := []) (h' := (101, I, J, R0 b)) 2 rfl ?_
    exact WP.mask rfl rfl h
  · refine WP.blk (pc' := 47) (L' := [vr 10 0, vi l1]) (st' := [vi l1, vr 71 0, vi l1, vr 76 0]) (h' := (101, I, J, R0 b)) 6 rfl ?_
    refine WP.step (pc' := 48) (L' := [vr 10 0, vi l1]) (st' := [vi (I 71 0 l1.toNatClampNeg), vi l1, vr 76 0]) (h' := (101, I, J, R0 b)) rfl (iaload_ok (n := 7) rfl rfl rfl (inA_of h.1)) ?_
    have h := And.right h
    refine WP.step (pc' := 49) (L' := [vr 10 0, vi l1]) (st' := []) (h' := (101, (updI I 76 0 l1.toNatClampNeg (I 71 0 l1.toNatClampNeg)), J, R0 b)) rfl (iastore_ok (n := 7) rfl rfl rfl (inA_of h.1)) ?_
    have h := And.right h
    refine WP.blk (pc' := 31) (L' := [vr 10 0, vi (l1 + 1)]) (st' := []) (h' := (101, (updI I 76 0 l1.toNatClampNeg (I 71 0 l1.toNatClampNeg)), J, R0 b)) 2 rfl ?_
    exact WP.mask rfl rfl h
set_option maxRecDepth 20000 in
theorem t_X10_image_57 {D : Nat} (l1 : Int32) (I : IM) (J : JM) (b : Bool) {Q : Option AV → AH → Prop} (h : (if (I 10 0 63) ≤ l1 then WP D 217 119 [vr 10 0, vi 0] [] (101, I, J, R0 b) Q else (vp_in l1 42 ∧ (vp_in ((3 : Int32) * l1) 126 ∧ (vp_in l1 42 ∧ (vp_in (((3 : Int32) * l1) + (1 : Int32)) 126 ∧ (vp_in l1 42 ∧ (vp_in (((3 : Int32) * l1) + (2 : Int32)) 126 ∧ WP D 217 57 [vr 10 0, vi (l1 + 1)] [] (101, (updI (updI (updI I 77 0 ((3 : Int32) * l1).toNatClampNeg (I 72 0 l1.toNatClampNeg)) 77 0 (((3 : Int32) * l1) + (1 : Int32)).toNatClampNeg (I 73 0 l1.toNatClampNeg)) 77 0 (((3 : Int32) * l1) + (2 : Int32)).toNatClampNeg (I 74 0 l1.toNatClampNeg)), J, R0 b) Q)))))))) : WP D 217 57 [vr 10 0, vi l1] [] (101, I, J, R0 b) Q := by
  refine WP.blk (pc' := 62) (L' := [vr 10 0, vi l1]) (st' := [vi (I 10 0 63), vi l1]) (h' := (101, I, J, R0 b)) 3 rfl ?_
  refine WP.icmp_ge (t := 117) (L' := [vr 10 0, vi l1]) rfl rfl rfl rfl h (fun h => ?_) (fun h => ?_)
  · refine WP.blk (pc' := 119) (L' := [vr 10 0, vi 0]) (st' := []) (h' := (101, I, J, R0 b)) 2 rfl ?_
    exact WP.mask rfl rfl h
  · refine WP.blk (pc' := 77) (L' := [vr 10 0, vi l1]) (st' := [vi l1, vr 72 0, vi ((3 : Int32) * l1), vr 77 0]) (h' := (101, I, J, R0 b)) 8 rfl ?_
    refine WP.step (pc' := 78) (L' := [vr 10 0, vi l1]) (st' := [vi (I 72 0 l1.toNatClampNeg), vi ((3 : Int32) * l1), vr 77 0]) (h' := (101, I, J, R0 b)) rfl (iaload_ok (n := 42) rfl rfl rfl (inA_of h.1)) ?_
    have h := And.right h
    refine WP.step (pc' := 79) (L' := [vr 10 0, vi l1]) (st' := []) (h' := (101, (updI I 77 0 ((3 : Int32) * l1).toNatClampNeg (I 72 0 l1.toNatClampNeg)), J, R0 b)) rfl (iastore_ok (n := 126) rfl rfl rfl (inA_of h.1)) ?_
    have h := And.right h
    refine WP.blk (pc' := 93) (L' := [vr 10 0, vi l1]) (st' := [vi l1, vr 73 0, vi (((3 : Int32) * l1) + (1 : Int32)), vr 77 0]) (h' := (101, (updI I 77 0 ((3 : Int32) * l1).toNatClampNeg (I 72 0 l1.toNatClampNeg)), J, R0 b)) 10 rfl ?_
    refine WP.step (pc' := 94) (L' := [vr 10 0, vi l1]) (st' := [vi (I 73 0 l1.toNatClampNeg), vi (((3 : Int32) * l1) + (1 : Int32)), vr 77 0]) (h' := (101, (updI I 77 0 ((3 : Int32) * l1).toNatClampNeg (I 72 0 l1.toNatClampNeg)), J, R0 b)) rfl (iaload_ok (n := 42) rfl rfl rfl (inA_of h.1)) ?_
    have h := And.right h
    refine WP.step (pc' := 95) (L' := [vr 10 0, vi l1]) (st' := []) (h' := (101, (updI (updI I 77 0 ((3 : Int32) * l1).toNatClampNeg (I 72 0 l1.toNatClampNeg)) 77 0 (((3 : Int32) * l1) + (1 : Int32)).toNatClampNeg (I 73 0 l1.toNatClampNeg)), J, R0 b)) rfl (iastore_ok (n := 126) rfl rfl rfl (inA_of h.1)) ?_
    have h := And.right h
    refine WP.blk (pc' := 109) (L' := [vr 10 0, vi l1]) (st' := [vi l1, vr 74 0, vi (((3 : Int32) * l1) + (2 : Int32)), vr 77 0]) (h' := (101, (updI (updI I 77 0 ((3 : Int32) * l1).toNatClampNeg (I 72 0 l1.toNatClampNeg)) 77 0 (((3 : Int32) * l1) + (1 : Int32)).toNatClampNeg (I 73 0 l1.toNatClampNeg)), J, R0 b)) 10 rfl ?_
    refine WP.step (pc' := 110) (L' := [vr 10 0, vi l1]) (st' := [vi (I 74 0 l1.toNatClampNeg), vi (((3 : Int32) * l1) + (2 : Int32)), vr 77 0]) (h' := (101, (updI (updI I 77 0 ((3 : Int32) * l1).toNatClampNeg (I 72 0 l1.toNatClampNeg)) 77 0 (((3 : Int32) * l1) + (1 : Int32)).toNatClampNeg (I 73 0 l1.toNatClampNeg)), J, R0 b)) rfl (iaload_ok (n := 42) rfl rfl rfl (inA_of h.1)) ?_
    have h := And.right h
    refine WP.step (pc' := 111) (L' := [vr 10 0, vi l1]) (st' := []) (h' := (101, (updI (updI (updI I 77 0 ((3 : Int32) * l1).toNatClampNeg (I 72 0 l1.toNatClampNeg)) 77 0 (((3 : Int32) * l1) + (1 : Int32)).toNatClampNeg (I 73 0 l1.toNatClampNeg)) 77 0 (((3 : Int32) * l1) + (2 : Int32)).toNatClampNeg (I 74 0 l1.toNatClampNeg)), J, R0 b)) rfl (iastore_ok (n := 126) rfl rfl rfl (inA_of h.1)) ?_
    have h := And.right h
    refine WP.blk (pc' := 57) (L' := [vr 10 0, vi (l1 + 1)]) (st' := []) (h' := (101, (updI (updI (updI I 77 0 ((3 : Int32) * l1).toNatClampNeg (I 72 0 l1.toNatClampNeg)) 77 0 (((3 : Int32) * l1) + (1 : Int32)).toNatClampNeg (I 73 0 l1.toNatClampNeg)) 77 0 (((3 : Int32) * l1) + (2 : Int32)).toNatClampNeg (I 74 0 l1.toNatClampNeg)), J, R0 b)) 2 rfl ?_
    exact WP.mask rfl rfl h
set_option maxRecDepth 20000 in
theorem t_X10_image_119 {D : Nat} (l1 : Int32) (I : IM) (J : JM) (b : Bool) {Q : Option AV → AH → Prop} (h : (if (4 : Int32) ≤ l1 then Q (some (vi (I 10 0 57))) (101, I, J, R0 b) else (vp_in l1 4 ∧ (vp_in l1 4 ∧ WP D 217 119 [vr 10 0, vi (l1 + 1)] [] (101, (updI I 78 0 l1.toNatClampNeg (I 75 0 l1.toNatClampNeg)), J, R0 b) Q)))) : WP D 217 119 [vr 10 0, vi l1] [] (101, I, J, R0 b) Q := by
  refine WP.blk (pc' := 121) (L' := [vr 10 0, vi l1]) (st' := [vi 4, vi l1]) (h' := (101, I, J, R0 b)) 2 rfl ?_
  refine WP.icmp_ge (t := 142) (L' := [vr 10 0, vi l1]) rfl rfl rfl rfl h (fun h => ?_) (fun h => ?_)
  · refine WP.blk (pc' := 146) (L' := [vr 10 0, vi l1]) (st' := [vi (I 10 0 57)]) (h' := (101, I, J, R0 b)) 2 rfl ?_
    exact WP.ret rfl rfl h
  · refine WP.blk (pc' := 134) (L' := [vr 10 0, vi l1]) (st' := [vi l1, vr 75 0, vi l1, vr 78 0]) (h' := (101, I, J, R0 b)) 6 rfl ?_
    refine WP.step (pc' := 135) (L' := [vr 10 0, vi l1]) (st' := [vi (I 75 0 l1.toNatClampNeg), vi l1, vr 78 0]) (h' := (101, I, J, R0 b)) rfl (iaload_ok (n := 4) rfl rfl rfl (inA_of h.1)) ?_
    have h := And.right h
    refine WP.step (pc' := 136) (L' := [vr 10 0, vi l1]) (st' := []) (h' := (101, (updI I 78 0 l1.toNatClampNeg (I 75 0 l1.toNatClampNeg)), J, R0 b)) rfl (iastore_ok (n := 4) rfl rfl rfl (inA_of h.1)) ?_
    have h := And.right h
    refine WP.blk (pc' := 119) (L' := [vr 10 0, vi (l1 + 1)]) (st' := []) (h' := (101, (updI I 78 0 l1.toNatClampNeg (I 75 0 l1.toNatClampNeg)), J, R0 b)) 2 rfl ?_
    exact WP.mask rfl rfl h
set_option maxRecDepth 20000 in
theorem t_X10_back {D : Nat}  (I : IM) (J : JM) (b : Bool) {Q : Option AV → AH → Prop} (h : (if ¬ (I 10 0 65) = 0 then WP D 218 36 [vr 10 0, vi 0] [] (101, (updI (updI (updI I 10 0 57 (I 10 0 66)) 10 0 58 (I 10 0 67)) 10 0 63 (I 10 0 68)), J, R0 b) Q else Q (some (vi (-5))) (101, I, J, R0 b))) : Call (D + 1) 218 [vr 10 0] (101, I, J, R0 b) Q := by
  refine Call.of rfl ?_
  show WP D 218 0 [vr 10 0, vn] [] (101, I, J, R0 b) Q
  refine WP.blk (pc' := 4) (L' := [vr 10 0, vn]) (st' := [vi (I 10 0 65)]) (h' := (101, I, J, R0 b)) 2 rfl ?_
  refine WP.if_ne (t := 10) (L' := [vr 10 0, vn]) rfl rfl rfl rfl h (fun h => ?_) (fun h => ?_)
  · refine WP.blk (pc' := 36) (L' := [vr 10 0, vi 0]) (st' := []) (h' := (101, (updI (updI (updI I 10 0 57 (I 10 0 66)) 10 0 58 (I 10 0 67)) 10 0 63 (I 10 0 68)), J, R0 b)) 14 rfl ?_
    exact WP.mask rfl rfl h
  · refine WP.blk (pc' := 9) (L' := [vr 10 0, vn]) (st' := [vi (-5)]) (h' := (101, I, J, R0 b)) 1 rfl ?_
    exact WP.ret rfl rfl h
set_option maxRecDepth 20000 in
theorem t_X10_back_36 {D : Nat} (l1 : Int32) (I : IM) (J : JM) (b : Bool) {Q : Option AV → AH → Prop} (h : (if (7 : Int32) ≤ l1 then WP D 218 62 [vr 10 0, vi 0] [] (101, I, J, R0 b) Q else (vp_in l1 7 ∧ (vp_in l1 7 ∧ WP D 218 36 [vr 10 0, vi (l1 + 1)] [] (101, (updI I 71 0 l1.toNatClampNeg (I 76 0 l1.toNatClampNeg)), J, R0 b) Q)))) : WP D 218 36 [vr 10 0, vi l1] [] (101, I, J, R0 b) Q := by
  refine WP.blk (pc' := 39) (L' := [vr 10 0, vi l1]) (st' := [vi 7, vi l1]) (h' := (101, I, J, R0 b)) 2 rfl ?_
  refine WP.icmp_ge (t := 60) (L' := [vr 10 0, vi l1]) rfl rfl rfl rfl h (fun h => ?_) (fun h => ?_)
  · refine WP.blk (pc' := 62) (L' := [vr 10 0, vi 0]) (st' := []) (h' := (101, I, J, R0 b)) 2 rfl ?_
    exact WP.mask rfl rfl h
  · refine WP.blk (pc' := 52) (L' := [vr 10 0, vi l1]) (st' := [vi l1, vr 76 0, vi l1, vr 71 0]) (h' := (101, I, J, R0 b)) 6 rfl ?_
    refine WP.step (pc' := 53) (L' := [vr 10 0, vi l1]) (st' := [vi (I 76 0 l1.toNatClampNeg), vi l1, vr 71 0]) (h' := (101, I, J, R0 b)) rfl (iaload_ok (n := 7) rfl rfl rfl (inA_of h.1)) ?_
    have h := And.right h
    refine WP.step (pc' := 54) (L' := [vr 10 0, vi l1]) (st' := []) (h' := (101, (updI I 71 0 l1.toNatClampNeg (I 76 0 l1.toNatClampNeg)), J, R0 b)) rfl (iastore_ok (n := 7) rfl rfl rfl (inA_of h.1)) ?_
    have h := And.right h
    refine WP.blk (pc' := 36) (L' := [vr 10 0, vi (l1 + 1)]) (st' := []) (h' := (101, (updI I 71 0 l1.toNatClampNeg (I 76 0 l1.toNatClampNeg)), J, R0 b)) 2 rfl ?_
    exact WP.mask rfl rfl h
set_option maxRecDepth 20000 in
theorem t_X10_back_62 {D : Nat} (l1 : Int32) (I : IM) (J : JM) (b : Bool) {Q : Option AV → AH → Prop} (h : (if (I 10 0 63) ≤ l1 then WP D 218 124 [vr 10 0, vi 0] [] (101, I, J, R0 b) Q else (vp_in ((3 : Int32) * l1) 126 ∧ (vp_in l1 42 ∧ (vp_in (((3 : Int32) * l1) + (1 : Int32)) 126 ∧ (vp_in l1 42 ∧ (vp_in (((3 : Int32) * l1) + (2 : Int32)) 126 ∧ (vp_in l1 42 ∧ WP D 218 62 [vr 10 0, vi (l1 + 1)] [] (101, (updI (updI (updI I 72 0 l1.toNatClampNeg (I 77 0 ((3 : Int32) * l1).toNatClampNeg)) 73 0 l1.toNatClampNeg (I 77 0 (((3 : Int32) * l1) + (1 : Int32)).toNatClampNeg)) 74 0 l1.toNatClampNeg (I 77 0 (((3 : Int32) * l1) + (2 : Int32)).toNatClampNeg)), J, R0 b) Q)))))))) : WP D 218 62 [vr 10 0, vi l1] [] (101, I, J, R0 b) Q := by
  refine WP.blk (pc' := 67) (L' := [vr 10 0, vi l1]) (st' := [vi (I 10 0 63), vi l1]) (h' := (101, I, J, R0 b)) 3 rfl ?_
  refine WP.icmp_ge (t := 122) (L' := [vr 10 0, vi l1]) rfl rfl rfl rfl h (fun h => ?_) (fun h => ?_)
  · refine WP.blk (pc' := 124) (L' := [vr 10 0, vi 0]) (st' := []) (h' := (101, I, J, R0 b)) 2 rfl ?_
    exact WP.mask rfl rfl h
  · refine WP.blk (pc' := 82) (L' := [vr 10 0, vi l1]) (st' := [vi ((3 : Int32) * l1), vr 77 0, vi l1, vr 72 0]) (h' := (101, I, J, R0 b)) 8 rfl ?_
    refine WP.step (pc' := 83) (L' := [vr 10 0, vi l1]) (st' := [vi (I 77 0 ((3 : Int32) * l1).toNatClampNeg), vi l1, vr 72 0]) (h' := (101, I, J, R0 b)) rfl (iaload_ok (n := 126) rfl rfl rfl (inA_of h.1)) ?_
    have h := And.right h
    refine WP.step (pc' := 84) (L' := [vr 10 0, vi l1]) (st' := []) (h' := (101, (updI I 72 0 l1.toNatClampNeg (I 77 0 ((3 : Int32) * l1).toNatClampNeg)), J, R0 b)) rfl (iastore_ok (n := 42) rfl rfl rfl (inA_of h.1)) ?_
    have h := And.right h
    refine WP.blk (pc' := 98) (L' := [vr 10 0, vi l1]) (st' := [vi (((3 : Int32) * l1) + (1 : Int32)), vr 77 0, vi l1, vr 73 0]) (h' := (101, (updI I 72 0 l1.toNatClampNeg (I 77 0 ((3 : Int32) * l1).toNatClampNeg)), J, R0 b)) 10 rfl ?_
    refine WP.step (pc' := 99) (L' := [vr 10 0, vi l1]) (st' := [vi (I 77 0 (((3 : Int32) * l1) + (1 : Int32)).toNatClampNeg), vi l1, vr 73 0]) (h' := (101, (updI I 72 0 l1.toNatClampNeg (I 77 0 ((3 : Int32) * l1).toNatClampNeg)), J, R0 b)) rfl (iaload_ok (n := 126) rfl rfl rfl (inA_of h.1)) ?_
    have h := And.right h
    refine WP.step (pc' := 100) (L' := [vr 10 0, vi l1]) (st' := []) (h' := (101, (updI (updI I 72 0 l1.toNatClampNeg (I 77 0 ((3 : Int32) * l1).toNatClampNeg)) 73 0 l1.toNatClampNeg (I 77 0 (((3 : Int32) * l1) + (1 : Int32)).toNatClampNeg)), J, R0 b)) rfl (iastore_ok (n := 42) rfl rfl rfl (inA_of h.1)) ?_
    have h := And.right h
    refine WP.blk (pc' := 114) (L' := [vr 10 0, vi l1]) (st' := [vi (((3 : Int32) * l1) + (2 : Int32)), vr 77 0, vi l1, vr 74 0]) (h' := (101, (updI (updI I 72 0 l1.toNatClampNeg (I 77 0 ((3 : Int32) * l1).toNatClampNeg)) 73 0 l1.toNatClampNeg (I 77 0 (((3 : Int32) * l1) + (1 : Int32)).toNatClampNeg)), J, R0 b)) 10 rfl ?_
    refine WP.step (pc' := 115) (L' := [vr 10 0, vi l1]) (st' := [vi (I 77 0 (((3 : Int32) * l1) + (2 : Int32)).toNatClampNeg), vi l1, vr 74 0]) (h' := (101, (updI (updI I 72 0 l1.toNatClampNeg (I 77 0 ((3 : Int32) * l1).toNatClampNeg)) 73 0 l1.toNatClampNeg (I 77 0 (((3 : Int32) * l1) + (1 : Int32)).toNatClampNeg)), J, R0 b)) rfl (iaload_ok (n := 126) rfl rfl rfl (inA_of h.1)) ?_
    have h := And.right h
    refine WP.step (pc' := 116) (L' := [vr 10 0, vi l1]) (st' := []) (h' := (101, (updI (updI (updI I 72 0 l1.toNatClampNeg (I 77 0 ((3 : Int32) * l1).toNatClampNeg)) 73 0 l1.toNatClampNeg (I 77 0 (((3 : Int32) * l1) + (1 : Int32)).toNatClampNeg)) 74 0 l1.toNatClampNeg (I 77 0 (((3 : Int32) * l1) + (2 : Int32)).toNatClampNeg)), J, R0 b)) rfl (iastore_ok (n := 42) rfl rfl rfl (inA_of h.1)) ?_
    have h := And.right h
    refine WP.blk (pc' := 62) (L' := [vr 10 0, vi (l1 + 1)]) (st' := []) (h' := (101, (updI (updI (updI I 72 0 l1.toNatClampNeg (I 77 0 ((3 : Int32) * l1).toNatClampNeg)) 73 0 l1.toNatClampNeg (I 77 0 (((3 : Int32) * l1) + (1 : Int32)).toNatClampNeg)) 74 0 l1.toNatClampNeg (I 77 0 (((3 : Int32) * l1) + (2 : Int32)).toNatClampNeg)), J, R0 b)) 2 rfl ?_
    exact WP.mask rfl rfl h
set_option maxRecDepth 20000 in
theorem t_X10_back_124 {D : Nat} (l1 : Int32) (I : IM) (J : JM) (b : Bool) {Q : Option AV → AH → Prop} (h : (if (4 : Int32) ≤ l1 then Q (some (vi (I 10 0 57))) (101, I, J, R0 b) else (vp_in l1 4 ∧ (vp_in l1 4 ∧ WP D 218 124 [vr 10 0, vi (l1 + 1)] [] (101, (updI I 75 0 l1.toNatClampNeg (I 78 0 l1.toNatClampNeg)), J, R0 b) Q)))) : WP D 218 124 [vr 10 0, vi l1] [] (101, I, J, R0 b) Q := by
  refine WP.blk (pc' := 126) (L' := [vr 10 0, vi l1]) (st' := [vi 4, vi l1]) (h' := (101, I, J, R0 b)) 2 rfl ?_
  refine WP.icmp_ge (t := 147) (L' := [vr 10 0, vi l1]) rfl rfl rfl rfl h (fun h => ?_) (fun h => ?_)
  · refine WP.blk (pc' := 151) (L' := [vr 10 0, vi l1]) (st' := [vi (I 10 0 57)]) (h' := (101, I, J, R0 b)) 2 rfl ?_
    exact WP.ret rfl rfl h
  · refine WP.blk (pc' := 139) (L' := [vr 10 0, vi l1]) (st' := [vi l1, vr 78 0, vi l1, vr 75 0]) (h' := (101, I, J, R0 b)) 6 rfl ?_
    refine WP.step (pc' := 140) (L' := [vr 10 0, vi l1]) (st' := [vi (I 78 0 l1.toNatClampNeg), vi l1, vr 75 0]) (h' := (101, I, J, R0 b)) rfl (iaload_ok (n := 4) rfl rfl rfl (inA_of h.1)) ?_
    have h := And.right h
    refine WP.step (pc' := 141) (L' := [vr 10 0, vi l1]) (st' := []) (h' := (101, (updI I 75 0 l1.toNatClampNeg (I 78 0 l1.toNatClampNeg)), J, R0 b)) rfl (iastore_ok (n := 4) rfl rfl rfl (inA_of h.1)) ?_
    have h := And.right h
    refine WP.blk (pc' := 124) (L' := [vr 10 0, vi (l1 + 1)]) (st' := []) (h' := (101, (updI I 75 0 l1.toNatClampNeg (I 78 0 l1.toNatClampNeg)), J, R0 b)) 2 rfl ?_
    exact WP.mask rfl rfl h
set_option maxRecDepth 20000 in
theorem t_X10_isBody {D : Nat} (l1 : Int32) (I : IM) (J : JM) (b : Bool) {Q : Option AV → AH → Prop} (h : (Call D 135 [vi l1, vi 0, vi ((I 10 0 72) - (1 : Int32))] (101, I, J, R0 b) (RIf b fun x1 I2 J3 => (x1 &&& 1 = x1 ∧ Q (some (vi x1)) (101, I2, J3, R0 b))))) : Call (D + 1) 219 [vr 10 0, vi l1] (101, I, J, R0 b) Q := by
  refine Call.of rfl ?_
  show WP D 219 0 [vr 10 0, vi l1] [] (101, I, J, R0 b) Q
  refine WP.blk (pc' := 8) (L' := [vr 10 0, vi l1]) (st' := [vi ((I 10 0 72) - (1 : Int32)), vi 0, vi l1]) (h' := (101, I, J, R0 b)) 6 rfl ?_
  refine WP.cal (y' := 135) (as := [vi l1, vi 0, vi ((I 10 0 72) - (1 : Int32))]) (L' := [vr 10 0, vi l1]) (rest := []) rfl (fun f r h' hf => callS_ok hf rfl rfl rfl) h ?_
  rintro _ _ ⟨x1, I2, J3, rfl, rfl, h⟩
  exact WP.retg (b := decide (x1 &&& 1 = x1) || false) rfl (by rw [decide_eq_true h.1]; rfl) rfl h.2
set_option maxRecDepth 20000 in
theorem t_X10_ran {D : Nat} (l1 : Int32) (I : IM) (J : JM) (b : Bool) {Q : Option AV → AH → Prop} (h : (if (24 : Int32) ≤ (I 10 0 74) then Q none (101, (updI I 10 0 74 ((I 10 0 74) + (1 : Int32))), J, R0 b) else (vp_in (I 10 0 74) 24 ∧ Q none (101, (updI (updI I 80 0 (I 10 0 74).toNatClampNeg l1) 10 0 74 ((I 10 0 74) + (1 : Int32))), J, R0 b)))) : Call (D + 1) 220 [vr 10 0, vi l1] (101, I, J, R0 b) Q := by
  refine Call.of rfl ?_
  show WP D 220 0 [vr 10 0, vi l1] [] (101, I, J, R0 b) Q
  refine WP.blk (pc' := 6) (L' := [vr 10 0, vi l1]) (st' := [vi 24, vi (I 10 0 74)]) (h' := (101, I, J, R0 b)) 3 rfl ?_
  refine WP.icmp_ge (t := 19) (L' := [vr 10 0, vi l1]) rfl rfl rfl rfl h (fun h => ?_) (fun h => ?_)
  · refine WP.blk (pc' := 29) (L' := [vr 10 0, vn]) (st' := []) (h' := (101, (updI I 10 0 74 ((I 10 0 74) + (1 : Int32))), J, R0 b)) 6 rfl ?_
    exact WP.ret rfl rfl h
  · refine WP.blk (pc' := 18) (L' := [vr 10 0, vi l1]) (st' := [vi l1, vi (I 10 0 74), vr 80 0]) (h' := (101, I, J, R0 b)) 5 rfl ?_
    refine WP.step (pc' := 19) (L' := [vr 10 0, vi l1]) (st' := []) (h' := (101, (updI I 80 0 (I 10 0 74).toNatClampNeg l1), J, R0 b)) rfl (iastore_ok (n := 24) rfl rfl rfl (inA_of h.1)) ?_
    have h := And.right h
    refine WP.blk (pc' := 29) (L' := [vr 10 0, vn]) (st' := []) (h' := (101, (updI (updI I 80 0 (I 10 0 74).toNatClampNeg l1) 10 0 74 ((I 10 0 74) + (1 : Int32))), J, R0 b)) 6 rfl ?_
    exact WP.ret rfl rfl h
set_option maxRecDepth 20000 in
theorem t_X10_trace {D : Nat} (l1 : Int32) (I : IM) (J : JM) (b : Bool) {Q : Option AV → AH → Prop} (h : (if l1 < 0 then Q (some (vi (-1))) (101, I, J, R0 b) else (if (I 10 0 74) ≤ l1 then Q (some (vi (-1))) (101, I, J, R0 b) else (if (24 : Int32) ≤ l1 then Q (some (vi (-1))) (101, I, J, R0 b) else (vp_in l1 24 ∧ Q (some (vi (I 80 0 l1.toNatClampNeg))) (101, I, J, R0 b)))))) : Call (D + 1) 221 [vr 10 0, vi l1] (101, I, J, R0 b) Q := by
  refine Call.of rfl ?_
  show WP D 221 0 [vr 10 0, vi l1] [] (101, I, J, R0 b) Q
  refine WP.blk (pc' := 1) (L' := [vr 10 0, vi l1]) (st' := [vi l1]) (h' := (101, I, J, R0 b)) 1 rfl ?_
  refine WP.if_lt (t := 27) (L' := [vr 10 0, vi l1]) rfl rfl rfl rfl h (fun h => ?_) (fun h => ?_)
  · refine WP.blk (pc' := 28) (L' := [vn, vn]) (st' := [vi (-1)]) (h' := (101, I, J, R0 b)) 1 rfl ?_
    exact WP.ret rfl rfl h
  · refine WP.blk (pc' := 9) (L' := [vr 10 0, vi l1]) (st' := [vi (I 10 0 74), vi l1]) (h' := (101, I, J, R0 b)) 3 rfl ?_
    refine WP.icmp_ge (t := 27) (L' := [vr 10 0, vi l1]) rfl rfl rfl rfl h (fun h => ?_) (fun h => ?_)
    · refine WP.blk (pc' := 28) (L' := [vn, vn]) (st' := [vi (-1)]) (h' := (101, I, J, R0 b)) 1 rfl ?_
      exact WP.ret rfl rfl h
    · refine WP.blk (pc' := 15) (L' := [vr 10 0, vi l1]) (st' := [vi 24, vi l1]) (h' := (101, I, J, R0 b)) 2 rfl ?_
      refine WP.icmp_ge (t := 27) (L' := [vr 10 0, vi l1]) rfl rfl rfl rfl h (fun h => ?_) (fun h => ?_)
      · refine WP.blk (pc' := 28) (L' := [vn, vn]) (st' := [vi (-1)]) (h' := (101, I, J, R0 b)) 1 rfl ?_
        exact WP.ret rfl rfl h
      · refine WP.blk (pc' := 23) (L' := [vr 10 0, vi l1]) (st' := [vi l1, vr 80 0]) (h' := (101, I, J, R0 b)) 3 rfl ?_
        refine WP.step (pc' := 24) (L' := [vr 10 0, vi l1]) (st' := [vi (I 80 0 l1.toNatClampNeg)]) (h' := (101, I, J, R0 b)) rfl (iaload_ok (n := 24) rfl rfl rfl (inA_of h.1)) ?_
        have h := And.right h
        refine WP.blk (pc' := 28) (L' := [vr 10 0, vi l1]) (st' := [vi (I 80 0 l1.toNatClampNeg)]) (h' := (101, I, J, R0 b)) 1 rfl ?_
        exact WP.ret rfl rfl h
set_option maxRecDepth 20000 in
theorem t_X10_body {D : Nat} (l1 : Int32) (I : IM) (J : JM) (b : Bool) {Q : Option AV → AH → Prop} (h : (Call D 135 [vi l1, vi 0, vi 7] (101, I, J, R0 b) (RIf b fun x1 I2 J3 => (if ¬ x1 = 0 then (if ¬ (I2 10 0 72) = (50 : Int32) then (vp_in (I2 10 0 72) 50 ∧ Q (some (vi (((I2 10 0 72) + (1 : Int32)) - (1 : Int32)))) (101, (updI (updI I2 79 0 (I2 10 0 72).toNatClampNeg l1) 10 0 72 ((I2 10 0 72) + (1 : Int32))), J3, R0 b)) else Q (some (vi (-3))) (101, I2, J3, R0 b)) else Q (some (vi (-1))) (101, I2, J3, R0 b))))) : Call (D + 1) 222 [vr 10 0, vi l1] (101, I, J, R0 b) Q := by
  refine Call.of rfl ?_
  show WP D 222 0 [vr 10 0, vi l1] [] (101, I, J, R0 b) Q
  refine WP.blk (pc' := 4) (L' := [vr 10 0, vi l1]) (st' := [vi 7, vi 0, vi l1]) (h' := (101, I, J, R0 b)) 3 rfl ?_
  refine WP.cal (y' := 135) (as := [vi l1, vi 0, vi 7]) (L' := [vr 10 0, vi l1]) (rest := []) rfl (fun f r h' hf => callS_ok hf rfl rfl rfl) h ?_
  rintro _ _ ⟨x1, I2, J3, rfl, rfl, h⟩
  refine WP.if_ne (t := 12) (L' := [vr 10 0, vi l1]) rfl rfl rfl rfl h (fun h => ?_) (fun h => ?_)
  · refine WP.blk (pc' := 18) (L' := [vr 10 0, vi l1]) (st' := [vi 50, vi (I2 10 0 72)]) (h' := (101, I2, J3, R0 b)) 3 rfl ?_
    refine WP.icmp_ne (t := 24) (L' := [vr 10 0, vi l1]) rfl rfl rfl rfl h (fun h => ?_) (fun h => ?_)
    · refine WP.blk (pc' := 33) (L' := [vr 10 0, vi l1]) (st' := [vi l1, vi (I2 10 0 72), vr 79 0]) (h' := (101, I2, J3, R0 b)) 5 rfl ?_
      refine WP.step (pc' := 34) (L' := [vr 10 0, vi l1]) (st' := []) (h' := (101, (updI I2 79 0 (I2 10 0 72).toNatClampNeg l1), J3, R0 b)) rfl (iastore_ok (n := 50) rfl rfl rfl (inA_of h.1)) ?_
      have h := And.right h
      refine WP.blk (pc' := 50) (L' := [vr 10 0, vi l1]) (st' := [vi (((I2 10 0 72) + (1 : Int32)) - (1 : Int32))]) (h' := (101, (updI (updI I2 79 0 (I2 10 0 72).toNatClampNeg l1) 10 0 72 ((I2 10 0 72) + (1 : Int32))), J3, R0 b)) 10 rfl ?_
      exact WP.ret rfl rfl h
    · refine WP.blk (pc' := 23) (L' := [vr 10 0, vi l1]) (st' := [vi (-3)]) (h' := (101, I2, J3, R0 b)) 1 rfl ?_
      exact WP.ret rfl rfl h
  · refine WP.blk (pc' := 11) (L' := [vr 10 0, vi l1]) (st' := [vi (-1)]) (h' := (101, I2, J3, R0 b)) 1 rfl ?_
    exact WP.ret rfl rfl h
set_option maxRecDepth 20000 in
theorem t_X10_isUnder {D : Nat} (l0 : Int32) (l1 : Int32) (I : IM) (J : JM) (b : Bool) {Q : Option AV → AH → Prop} (h : (if l1 = 0 then Q (some (vi 1)) (101, I, J, R0 b) else (if l0 = l1 then Q (some (vi 1)) (101, I, J, R0 b) else (if ¬ l1 = (1 : Int32) then (if ¬ l1 = (2 : Int32) then (if ¬ l1 = (3 : Int32) then (if ¬ l1 = (6 : Int32) then Q (some (vi 0)) (101, I, J, R0 b) else (if ¬ l0 = (7 : Int32) then Q (some (vi 0)) (101, I, J, R0 b) else Q (some (vi 1)) (101, I, J, R0 b))) else (if l0 = (5 : Int32) then Q (some (vi 1)) (101, I, J, R0 b) else (if ¬ l1 = (6 : Int32) then Q (some (vi 0)) (101, I, J, R0 b) else (if ¬ l0 = (7 : Int32) then Q (some (vi 0)) (101, I, J, R0 b) else Q (some (vi 1)) (101, I, J, R0 b))))) else (if l0 = (3 : Int32) then Q (some (vi 1)) (101, I, J, R0 b) else (if l0 = (5 : Int32) then Q (some (vi 1)) (101, I, J, R0 b) else (if ¬ l1 = (3 : Int32) then (if ¬ l1 = (6 : Int32) then Q (some (vi 0)) (101, I, J, R0 b) else (if ¬ l0 = (7 : Int32) then Q (some (vi 0)) (101, I, J, R0 b) else Q (some (vi 1)) (101, I, J, R0 b))) else (if l0 = (5 : Int32) then Q (some (vi 1)) (101, I, J, R0 b) else (if ¬ l1 = (6 : Int32) then Q (some (vi 0)) (101, I, J, R0 b) else (if ¬ l0 = (7 : Int32) then Q (some (vi 0)) (101, I, J, R0 b) else Q (some (vi 1)) (101, I, J, R0 b)))))))) else (if l0 = (4 : Int32) then Q (some (vi 1)) (101, I, J, R0 b) else (if ¬ l1 = (2 : Int32) then (if ¬ l1 = (3 : Int32) then (if ¬ l1 = (6 : Int32) then Q (some (vi 0)) (101, I, J, R0 b) else (if ¬ l0 = (7 : Int32) then Q (some (vi 0)) (101, I, J, R0 b) else Q (some (vi 1)) (101, I, J, R0 b))) else (if l0 = (5 : Int32) then Q (some (vi 1)) (101, I, J, R0 b) else (if ¬ l1 = (6 : Int32) then Q (some (vi 0)) (101, I, J, R0 b) else (if ¬ l0 = (7 : Int32) then Q (some (vi 0)) (101, I, J, R0 b) else Q (some (vi 1)) (101, I, J, R0 b))))) else (if l0 = (3 : Int32) then Q (some (vi 1)) (101, I, J, R0 b) else (if l0 = (5 : Int32) then Q (some (vi 1)) (101, I, J, R0 b) else (if ¬ l1 = (3 : Int32) then (if ¬ l1 = (6 : Int32) then Q (some (vi 0)) (101, I, J, R0 b) else (if ¬ l0 = (7 : Int32) then Q (some (vi 0)) (101, I, J, R0 b) else Q (some (vi 1)) (101, I, J, R0 b))) else (if l0 = (5 : Int32) then Q (some (vi 1)) (101, I, J, R0 b) else (if ¬ l1 = (6 : Int32) then Q (some (vi 0)) (101, I, J, R0 b) else (if ¬ l0 = (7 : Int32) then Q (some (vi 0)) (101, I, J, R0 b) else Q (some (vi 1)) (101, I, J, R0 b))))))))))))) : Call (D + 1) 223 [vi l0, vi l1] (101, I, J, R0 b) Q := by
  refine Call.of rfl ?_
  show WP D 223 0 [vi l0, vi l1] [] (101, I, J, R0 b) Q
  refine WP.blk (pc' := 1) (L' := [vi l0, vi l1]) (st' := [vi l1]) (h' := (101, I, J, R0 b)) 1 rfl ?_
  refine WP.if_eq (t := 56) (L' := [vi l0, vi l1]) rfl rfl rfl rfl h (fun h => ?_) (fun h => ?_)
  · refine WP.blk (pc' := 61) (L' := [vn, vn]) (st' := [vi 1]) (h' := (101, I, J, R0 b)) 2 rfl ?_
    exact WP.ret rfl rfl h
  · refine WP.blk (pc' := 6) (L' := [vi l0, vi l1]) (st' := [vi l1, vi l0]) (h' := (101, I, J, R0 b)) 2 rfl ?_
    refine WP.icmp_eq (t := 56) (L' := [vi l0, vi l1]) rfl rfl rfl rfl h (fun h => ?_) (fun h => ?_)
    · refine WP.blk (pc' := 61) (L' := [vn, vn]) (st' := [vi 1]) (h' := (101, I, J, R0 b)) 2 rfl ?_
      exact WP.ret rfl rfl h
    · refine WP.blk (pc' := 11) (L' := [vi l0, vi l1]) (st' := [vi 1, vi l1]) (h' := (101, I, J, R0 b)) 2 rfl ?_
      refine WP.icmp_ne (t := 19) (L' := [vi l0, vi l1]) rfl rfl rfl rfl h (fun h => ?_) (fun h => ?_)
      · refine WP.blk (pc' := 21) (L' := [vi l0, vi l1]) (st' := [vi 2, vi l1]) (h' := (101, I, J, R0 b)) 2 rfl ?_
        refine WP.icmp_ne (t := 34) (L' := [vi l0, vi l1]) rfl rfl rfl rfl h (fun h => ?_) (fun h => ?_)
        · refine WP.blk (pc' := 36) (L' := [vi l0, vi l1]) (st' := [vi 3, vi l1]) (h' := (101, I, J, R0 b)) 2 rfl ?_
          refine WP.icmp_ne (t := 44) (L' := [vi l0, vi l1]) rfl rfl rfl rfl h (fun h => ?_) (fun h => ?_)
          · refine WP.blk (pc' := 47) (L' := [vi l0, vi l1]) (st' := [vi 6, vi l1]) (h' := (101, I, J, R0 b)) 2 rfl ?_
            refine WP.icmp_ne (t := 60) (L' := [vi l0, vi l1]) rfl rfl rfl rfl h (fun h => ?_) (fun h => ?_)
            · refine WP.blk (pc' := 61) (L' := [vn, vn]) (st' := [vi 0]) (h' := (101, I, J, R0 b)) 1 rfl ?_
              exact WP.ret rfl rfl h
            · refine WP.blk (pc' := 53) (L' := [vi l0, vi l1]) (st' := [vi 7, vi l0]) (h' := (101, I, J, R0 b)) 2 rfl ?_
              refine WP.icmp_ne (t := 60) (L' := [vi l0, vi l1]) rfl rfl rfl rfl h (fun h => ?_) (fun h => ?_)
              · refine WP.blk (pc' := 61) (L' := [vn, vn]) (st' := [vi 0]) (h' := (101, I, J, R0 b)) 1 rfl ?_
                exact WP.ret rfl rfl h
              · refine WP.blk (pc' := 61) (L' := [vn, vn]) (st' := [vi 1]) (h' := (101, I, J, R0 b)) 2 rfl ?_
                exact WP.ret rfl rfl h
          · refine WP.blk (pc' := 41) (L' := [vi l0, vi l1]) (st' := [vi 5, vi l0]) (h' := (101, I, J, R0 b)) 2 rfl ?_
            refine WP.icmp_eq (t := 56) (L' := [vi l0, vi l1]) rfl rfl rfl rfl h (fun h => ?_) (fun h => ?_)
            · refine WP.blk (pc' := 61) (L' := [vn, vn]) (st' := [vi 1]) (h' := (101, I, J, R0 b)) 2 rfl ?_
              exact WP.ret rfl rfl h
            · refine WP.blk (pc' := 47) (L' := [vi l0, vi l1]) (st' := [vi 6, vi l1]) (h' := (101, I, J, R0 b)) 2 rfl ?_
              refine WP.icmp_ne (t := 60) (L' := [vi l0, vi l1]) rfl rfl rfl rfl h (fun h => ?_) (fun h => ?_)
              · refine WP.blk (pc' := 61) (L' := [vn, vn]) (st' := [vi 0]) (h' := (101, I, J, R0 b)) 1 rfl ?_
                exact WP.ret rfl rfl h
              · refine WP.blk (pc' := 53) (L' := [vi l0, vi l1]) (st' := [vi 7, vi l0]) (h' := (101, I, J, R0 b)) 2 rfl ?_
                refine WP.icmp_ne (t := 60) (L' := [vi l0, vi l1]) rfl rfl rfl rfl h (fun h => ?_) (fun h => ?_)
                · refine WP.blk (pc' := 61) (L' := [vn, vn]) (st' := [vi 0]) (h' := (101, I, J, R0 b)) 1 rfl ?_
                  exact WP.ret rfl rfl h
                · refine WP.blk (pc' := 61) (L' := [vn, vn]) (st' := [vi 1]) (h' := (101, I, J, R0 b)) 2 rfl ?_
                  exact WP.ret rfl rfl h
        · refine WP.blk (pc' := 26) (L' := [vi l0, vi l1]) (st' := [vi 3, vi l0]) (h' := (101, I, J, R0 b)) 2 rfl ?_
          refine WP.icmp_eq (t := 56) (L' := [vi l0, vi l1]) rfl rfl rfl rfl h (fun h => ?_) (fun h => ?_)
          · refine WP.blk (pc' := 61) (L' := [vn, vn]) (st' := [vi 1]) (h' := (101, I, J, R0 b)) 2 rfl ?_
            exact WP.ret rfl rfl h
          · refine WP.blk (pc' := 31) (L' := [vi l0, vi l1]) (st' := [vi 5, vi l0]) (h' := (101, I, J, R0 b)) 2 rfl ?_
            refine WP.icmp_eq (t := 56) (L' := [vi l0, vi l1]) rfl rfl rfl rfl h (fun h => ?_) (fun h => ?_)
            · refine WP.blk (pc' := 61) (L' := [vn, vn]) (st' := [vi 1]) (h' := (101, I, J, R0 b)) 2 rfl ?_
              exact WP.ret rfl rfl h
            · refine WP.blk (pc' := 36) (L' := [vi l0, vi l1]) (st' := [vi 3, vi l1]) (h' := (101, I, J, R0 b)) 2 rfl ?_
              refine WP.icmp_ne (t := 44) (L' := [vi l0, vi l1]) rfl rfl rfl rfl h (fun h => ?_) (fun h => ?_)
              · refine WP.blk (pc' := 47) (L' := [vi l0, vi l1]) (st' := [vi 6, vi l1]) (h' := (101, I, J, R0 b)) 2 rfl ?_
                refine WP.icmp_ne (t := 60) (L' := [vi l0, vi l1]) rfl rfl rfl rfl h (fun h => ?_) (fun h => ?_)
                · refine WP.blk (pc' := 61) (L' := [vn, vn]) (st' := [vi 0]) (h' := (101, I, J, R0 b)) 1 rfl ?_
                  exact WP.ret rfl rfl h
                · refine WP.blk (pc' := 53) (L' := [vi l0, vi l1]) (st' := [vi 7, vi l0]) (h' := (101, I, J, R0 b)) 2 rfl ?_
                  refine WP.icmp_ne (t := 60) (L' := [vi l0, vi l1]) rfl rfl rfl rfl h (fun h => ?_) (fun h => ?_)
                  · refine WP.blk (pc' := 61) (L' := [vn, vn]) (st' := [vi 0]) (h' := (101, I, J, R0 b)) 1 rfl ?_
                    exact WP.ret rfl rfl h
                  · refine WP.blk (pc' := 61) (L' := [vn, vn]) (st' := [vi 1]) (h' := (101, I, J, R0 b)) 2 rfl ?_
                    exact WP.ret rfl rfl h
              · refine WP.blk (pc' := 41) (L' := [vi l0, vi l1]) (st' := [vi 5, vi l0]) (h' := (101, I, J, R0 b)) 2 rfl ?_
                refine WP.icmp_eq (t := 56) (L' := [vi l0, vi l1]) rfl rfl rfl rfl h (fun h => ?_) (fun h => ?_)
                · refine WP.blk (pc' := 61) (L' := [vn, vn]) (st' := [vi 1]) (h' := (101, I, J, R0 b)) 2 rfl ?_
                  exact WP.ret rfl rfl h
                · refine WP.blk (pc' := 47) (L' := [vi l0, vi l1]) (st' := [vi 6, vi l1]) (h' := (101, I, J, R0 b)) 2 rfl ?_
                  refine WP.icmp_ne (t := 60) (L' := [vi l0, vi l1]) rfl rfl rfl rfl h (fun h => ?_) (fun h => ?_)
                  · refine WP.blk (pc' := 61) (L' := [vn, vn]) (st' := [vi 0]) (h' := (101, I, J, R0 b)) 1 rfl ?_
                    exact WP.ret rfl rfl h
                  · refine WP.blk (pc' := 53) (L' := [vi l0, vi l1]) (st' := [vi 7, vi l0]) (h' := (101, I, J, R0 b)) 2 rfl ?_
                    refine WP.icmp_ne (t := 60) (L' := [vi l0, vi l1]) rfl rfl rfl rfl h (fun h => ?_) (fun h => ?_)
                    · refine WP.blk (pc' := 61) (L' := [vn, vn]) (st' := [vi 0]) (h' := (101, I, J, R0 b)) 1 rfl ?_
                      exact WP.ret rfl rfl h
                    · refine WP.blk (pc' := 61) (L' := [vn, vn]) (st' := [vi 1]) (h' := (101, I, J, R0 b)) 2 rfl ?_
                      exact WP.ret rfl rfl h
      · refine WP.blk (pc' := 16) (L' := [vi l0, vi l1]) (st' := [vi 4, vi l0]) (h' := (101, I, J, R0 b)) 2 rfl ?_
        refine WP.icmp_eq (t := 56) (L' := [vi l0, vi l1]) rfl rfl rfl rfl h (fun h => ?_) (fun h => ?_)
        · refine WP.blk (pc' := 61) (L' := [vn, vn]) (st' := [vi 1]) (h' := (101, I, J, R0 b)) 2 rfl ?_
          exact WP.ret rfl rfl h
        · refine WP.blk (pc' := 21) (L' := [vi l0, vi l1]) (st' := [vi 2, vi l1]) (h' := (101, I, J, R0 b)) 2 rfl ?_
          refine WP.icmp_ne (t := 34) (L' := [vi l0, vi l1]) rfl rfl rfl rfl h (fun h => ?_) (fun h => ?_)
          · refine WP.blk (pc' := 36) (L' := [vi l0, vi l1]) (st' := [vi 3, vi l1]) (h' := (101, I, J, R0 b)) 2 rfl ?_
            refine WP.icmp_ne (t := 44) (L' := [vi l0, vi l1]) rfl rfl rfl rfl h (fun h => ?_) (fun h => ?_)
            · refine WP.blk (pc' := 47) (L' := [vi l0, vi l1]) (st' := [vi 6, vi l1]) (h' := (101, I, J, R0 b)) 2 rfl ?_
              refine WP.icmp_ne (t := 60) (L' := [vi l0, vi l1]) rfl rfl rfl rfl h (fun h => ?_) (fun h => ?_)
              · refine WP.blk (pc' := 61) (L' := [vn, vn]) (st' := [vi 0]) (h' := (101, I, J, R0 b)) 1 rfl ?_
                exact WP.ret rfl rfl h
              · refine WP.blk (pc' := 53) (L' := [vi l0, vi l1]) (st' := [vi 7, vi l0]) (h' := (101, I, J, R0 b)) 2 rfl ?_
                refine WP.icmp_ne (t := 60) (L' := [vi l0, vi l1]) rfl rfl rfl rfl h (fun h => ?_) (fun h => ?_)
                · refine WP.blk (pc' := 61) (L' := [vn, vn]) (st' := [vi 0]) (h' := (101, I, J, R0 b)) 1 rfl ?_
                  exact WP.ret rfl rfl h
                · refine WP.blk (pc' := 61) (L' := [vn, vn]) (st' := [vi 1]) (h' := (101, I, J, R0 b)) 2 rfl ?_
                  exact WP.ret rfl rfl h
            · refine WP.blk (pc' := 41) (L' := [vi l0, vi l1]) (st' := [vi 5, vi l0]) (h' := (101, I, J, R0 b)) 2 rfl ?_
              refine WP.icmp_eq (t := 56) (L' := [vi l0, vi l1]) rfl rfl rfl rfl h (fun h => ?_) (fun h => ?_)
              · refine WP.blk (pc' := 61) (L' := [vn, vn]) (st' := [vi 1]) (h' := (101, I, J, R0 b)) 2 rfl ?_
                exact WP.ret rfl rfl h
              · refine WP.blk (pc' := 47) (L' := [vi l0, vi l1]) (st' := [vi 6, vi l1]) (h' := (101, I, J, R0 b)) 2 rfl ?_
                refine WP.icmp_ne (t := 60) (L' := [vi l0, vi l1]) rfl rfl rfl rfl h (fun h => ?_) (fun h => ?_)
                · refine WP.blk (pc' := 61) (L' := [vn, vn]) (st' := [vi 0]) (h' := (101, I, J, R0 b)) 1 rfl ?_
                  exact WP.ret rfl rfl h
                · refine WP.blk (pc' := 53) (L' := [vi l0, vi l1]) (st' := [vi 7, vi l0]) (h' := (101, I, J, R0 b)) 2 rfl ?_
                  refine WP.icmp_ne (t := 60) (L' := [vi l0, vi l1]) rfl rfl rfl rfl h (fun h => ?_) (fun h => ?_)
                  · refine WP.blk (pc' := 61) (L' := [vn, vn]) (st' := [vi 0]) (h' := (101, I, J, R0 b)) 1 rfl ?_
                    exact WP.ret rfl rfl h
                  · refine WP.blk (pc' := 61) (L' := [vn, vn]) (st' := [vi 1]) (h' := (101, I, J, R0 b)) 2 rfl ?_
                    exact WP.ret rfl rfl h
          · refine WP.blk (pc' := 26) (L' := [vi l0, vi l1]) (st' := [vi 3, vi l0]) (h' := (101, I, J, R0 b)) 2 rfl ?_
            refine WP.icmp_eq (t := 56) (L' := [vi l0, vi l1]) rfl rfl rfl rfl h (fun h => ?_) (fun h => ?_)
            · refine WP.blk (pc' := 61) (L' := [vn, vn]) (st' := [vi 1]) (h' := (101, I, J, R0 b)) 2 rfl ?_
              exact WP.ret rfl rfl h
            · refine WP.blk (pc' := 31) (L' := [vi l0, vi l1]) (st' := [vi 5, vi l0]) (h' := (101, I, J, R0 b)) 2 rfl ?_
              refine WP.icmp_eq (t := 56) (L' := [vi l0, vi l1]) rfl rfl rfl rfl h (fun h => ?_) (fun h => ?_)
              · refine WP.blk (pc' := 61) (L' := [vn, vn]) (st' := [vi 1]) (h' := (101, I, J, R0 b)) 2 rfl ?_
                exact WP.ret rfl rfl h
              · refine WP.blk (pc' := 36) (L' := [vi l0, vi l1]) (st' := [vi 3, vi l1]) (h' := (101, I, J, R0 b)) 2 rfl ?_
                refine WP.icmp_ne (t := 44) (L' := [vi l0, vi l1]) rfl rfl rfl rfl h (fun h => ?_) (fun h => ?_)
                · refine WP.blk (pc' := 47) (L' := [vi l0, vi l1]) (st' := [vi 6, vi l1]) (h' := (101, I, J, R0 b)) 2 rfl ?_
                  refine WP.icmp_ne (t := 60) (L' := [vi l0, vi l1]) rfl rfl rfl rfl h (fun h => ?_) (fun h => ?_)
                  · refine WP.blk (pc' := 61) (L' := [vn, vn]) (st' := [vi 0]) (h' := (101, I, J, R0 b)) 1 rfl ?_
                    exact WP.ret rfl rfl h
                  · refine WP.blk (pc' := 53) (L' := [vi l0, vi l1]) (st' := [vi 7, vi l0]) (h' := (101, I, J, R0 b)) 2 rfl ?_
                    refine WP.icmp_ne (t := 60) (L' := [vi l0, vi l1]) rfl rfl rfl rfl h (fun h => ?_) (fun h => ?_)
                    · refine WP.blk (pc' := 61) (L' := [vn, vn]) (st' := [vi 0]) (h' := (101, I, J, R0 b)) 1 rfl ?_
                      exact WP.ret rfl rfl h
                    · refine WP.blk (pc' := 61) (L' := [vn, vn]) (st' := [vi 1]) (h' := (101, I, J, R0 b)) 2 rfl ?_
                      exact WP.ret rfl rfl h
                · refine WP.blk (pc' := 41) (L' := [vi l0, vi l1]) (st' := [vi 5, vi l0]) (h' := (101, I, J, R0 b)) 2 rfl ?_
                  refine WP.icmp_eq (t := 56) (L' := [vi l0, vi l1]) rfl rfl rfl rfl h (fun h => ?_) (fun h => ?_)
                  · refine WP.blk (pc' := 61) (L' := [vn, vn]) (st' := [vi 1]) (h' := (101, I, J, R0 b)) 2 rfl ?_
                    exact WP.ret rfl rfl h
                  · refine WP.blk (pc' := 47) (L' := [vi l0, vi l1]) (st' := [vi 6, vi l1]) (h' := (101, I, J, R0 b)) 2 rfl ?_
                    refine WP.icmp_ne (t := 60) (L' := [vi l0, vi l1]) rfl rfl rfl rfl h (fun h => ?_) (fun h => ?_)
                    · refine WP.blk (pc' := 61) (L' := [vn, vn]) (st' := [vi 0]) (h' := (101, I, J, R0 b)) 1 rfl ?_
                      exact WP.ret rfl rfl h
                    · refine WP.blk (pc' := 53) (L' := [vi l0, vi l1]) (st' := [vi 7, vi l0]) (h' := (101, I, J, R0 b)) 2 rfl ?_
                      refine WP.icmp_ne (t := 60) (L' := [vi l0, vi l1]) rfl rfl rfl rfl h (fun h => ?_) (fun h => ?_)
                      · refine WP.blk (pc' := 61) (L' := [vn, vn]) (st' := [vi 0]) (h' := (101, I, J, R0 b)) 1 rfl ?_
                        exact WP.ret rfl rfl h
                      · refine WP.blk (pc' := 61) (L' := [vn, vn]) (st' := [vi 1]) (h' := (101, I, J, R0 b)) 2 rfl ?_
                        exact WP.ret rfl rfl h
set_option maxRecDepth 20000 in
theorem t_X10_plainFits {D : Nat} (l1 : Int32) (l2 : Int32) (I : IM) (J : JM) (b : Bool) {Q : Option AV → AH → Prop} (h : (Call D 220 [vr 10 0, vi 1] (101, I, J, R0 b) (RVf b fun I2 J3 => Q (some (vi (l2 + l1))) (101, I2, J3, R0 b)))) : Call (D + 1) 224 [vr 10 0, vi l1, vi l2] (101, I, J, R0 b) Q := by
  refine Call.of rfl ?_
  show WP D 224 0 [vr 10 0, vi l1, vi l2] [] (101, I, J, R0 b) Q
  refine WP.blk (pc' := 2) (L' := [vr 10 0, vi l1, vi l2]) (st' := [vi 1, vr 10 0]) (h' := (101, I, J, R0 b)) 2 rfl ?_
  refine WP.cal (y' := 220) (as := [vr 10 0, vi 1]) (L' := [vr 10 0, vi l1, vi l2]) (rest := []) rfl (fun f r h' hf => callV_ok hf rfl rfl rfl) h ?_
  rintro _ _ ⟨I2, J3, rfl, rfl, h⟩
  refine WP.blk (pc' := 8) (L' := [vr 10 0, vi l1, vi l2]) (st' := [vi (l2 + l1)]) (h' := (101, I2, J3, R0 b)) 3 rfl ?_
  exact WP.ret rfl rfl h
set_option maxRecDepth 20000 in
theorem t_X10_dripFits {D : Nat} (l1 : Int32) (l2 : Int32) (I : IM) (J : JM) (b : Bool) {Q : Option AV → AH → Prop} (h : (Call D 220 [vr 10 0, vi 70] (101, I, J, R0 b) (RVf b fun I2 J3 => (Call D 224 [vr 10 0, vi l1, vi l2] (101, I2, J3, R0 b) (RIf b fun x4 I5 J6 => Q (some (vi (x4 * (2 : Int32)))) (101, I5, J6, R0 b)))))) : Call (D + 1) 225 [vr 10 0, vi l1, vi l2] (101, I, J, R0 b) Q := by
  refine Call.of rfl ?_
  show WP D 225 0 [vr 10 0, vi l1, vi l2] [] (101, I, J, R0 b) Q
  refine WP.blk (pc' := 3) (L' := [vr 10 0, vi l1, vi l2]) (st' := [vi 70, vr 10 0]) (h' := (101, I, J, R0 b)) 2 rfl ?_
  refine WP.cal (y' := 220) (as := [vr 10 0, vi 70]) (L' := [vr 10 0, vi l1, vi l2]) (rest := []) rfl (fun f r h' hf => callV_ok hf rfl rfl rfl) h ?_
  rintro _ _ ⟨I2, J3, rfl, rfl, h⟩
  refine WP.blk (pc' := 9) (L' := [vr 10 0, vi l1, vi l2]) (st' := [vi l2, vi l1, vr 10 0]) (h' := (101, I2, J3, R0 b)) 3 rfl ?_
  refine WP.cal (y' := 224) (as := [vr 10 0, vi l1, vi l2]) (L' := [vr 10 0, vi l1, vi l2]) (rest := []) rfl (fun f r h' hf => callV_ok hf rfl rfl rfl) h ?_
  rintro _ _ ⟨x4, I5, J6, rfl, rfl, h⟩
  refine WP.blk (pc' := 14) (L' := [vr 10 0, vi l1, vi l2]) (st' := [vi (x4 * (2 : Int32))]) (h' := (101, I5, J6, R0 b)) 2 rfl ?_
  exact WP.ret rfl rfl h
set_option maxRecDepth 20000 in
theorem t_X10_fitting {D : Nat} (l1 : Int32) (l2 : Int32) (I : IM) (J : JM) (b : Bool) {Q : Option AV → AH → Prop} (h : (vp_in l1 50 ∧ (Call D 223 [vi (I 79 0 l1.toNatClampNeg), vi 1] (101, I, J, R0 b) (RIf b fun x1 I2 J3 => (if x1 = 0 then (vp_in l1 50 ∧ (if ¬ (I2 79 0 l1.toNatClampNeg) = (7 : Int32) then (vp_in l1 50 ∧ (if ¬ (I2 79 0 l1.toNatClampNeg) = (6 : Int32) then (Call D 224 [vr 10 0, vi l1, vi l2] (101, I2, J3, R0 b) (RIf b fun x4 I5 J6 => Q (some (vi x4)) (101, I5, J6, R0 b))) else (Call D 225 [vr 10 0, vi l1, vi l2] (101, I2, J3, R0 b) (RIf b fun x7 I8 J9 => Q (some (vi x7)) (101, I8, J9, R0 b))))) else (Call D 220 [vr 10 0, vi 81] (101, I2, J3, R0 b) (RVf b fun I11 J12 => (Call D 225 [vr 10 0, vi l1, vi l2] (101, I11, J12, R0 b) (RIf b fun x13 I14 J15 => Q (some (vi (x13 - (1 : Int32)))) (101, I14, J15, R0 b))))))) else (Call D 220 [vr 10 0, vi 20] (101, I2, J3, R0 b) (RVf b fun I17 J18 => (Call D 224 [vr 10 0, vi l1, vi l2] (101, I17, J18, R0 b) (RIf b fun x19 I20 J21 => Q (some (vi (x19 + (3 : Int32)))) (101, I20, J21, R0 b)))))))))) : Call (D + 1) 226 [vr 10 0, vi l1, vi l2] (101, I, J, R0 b) Q := by
  refine Call.of rfl ?_
  show WP D 226 0 [vr 10 0, vi l1, vi l2] [] (101, I, J, R0 b) Q
  refine WP.blk (pc' := 5) (L' := [vr 10 0, vi l1, vi l2]) (st' := [vi l1, vr 79 0]) (h' := (101, I, J, R0 b)) 3 rfl ?_
  refine WP.step (pc' := 6) (L' := [vr 10 0, vi l1, vi l2]) (st' := [vi (I 79 0 l1.toNatClampNeg)]) (h' := (101, I, J, R0 b)) rfl (iaload_ok (n := 50) rfl rfl rfl (inA_of h.1)) ?_
  have h := And.right h
  refine WP.blk (pc' := 7) (L' := [vr 10 0, vi l1, vi l2]) (st' := [vi 1, vi (I 79 0 l1.toNatClampNeg)]) (h' := (101, I, J, R0 b)) 1 rfl ?_
  refine WP.cal (y' := 223) (as := [vi (I 79 0 l1.toNatClampNeg), vi 1]) (L' := [vr 10 0, vi l1, vi l2]) (rest := []) rfl (fun f r h' hf => callS_ok hf rfl rfl rfl) h ?_
  rintro _ _ ⟨x1, I2, J3, rfl, rfl, h⟩
  refine WP.if_eq (t := 28) (L' := [vr 10 0, vi l1, vi l2]) rfl rfl rfl rfl h (fun h => ?_) (fun h => ?_)
  · refine WP.blk (pc' := 33) (L' := [vr 10 0, vi l1, vi l2]) (st' := [vi l1, vr 79 0]) (h' := (101, I2, J3, R0 b)) 3 rfl ?_
    refine WP.step (pc' := 34) (L' := [vr 10 0, vi l1, vi l2]) (st' := [vi (I2 79 0 l1.toNatClampNeg)]) (h' := (101, I2, J3, R0 b)) rfl (iaload_ok (n := 50) rfl rfl rfl (inA_of h.1)) ?_
    have h := And.right h
    refine WP.blk (pc' := 36) (L' := [vr 10 0, vi l1, vi l2]) (st' := [vi 7, vi (I2 79 0 l1.toNatClampNeg)]) (h' := (101, I2, J3, R0 b)) 1 rfl ?_
    refine WP.icmp_ne (t := 54) (L' := [vr 10 0, vi l1, vi l2]) rfl rfl rfl rfl h (fun h => ?_) (fun h => ?_)
    · refine WP.blk (pc' := 59) (L' := [vr 10 0, vi l1, vi l2]) (st' := [vi l1, vr 79 0]) (h' := (101, I2, J3, R0 b)) 3 rfl ?_
      refine WP.step (pc' := 60) (L' := [vr 10 0, vi l1, vi l2]) (st' := [vi (I2 79 0 l1.toNatClampNeg)]) (h' := (101, I2, J3, R0 b)) rfl (iaload_ok (n := 50) rfl rfl rfl (inA_of h.1)) ?_
      have h := And.right h
      refine WP.blk (pc' := 62) (L' := [vr 10 0, vi l1, vi l2]) (st' := [vi 6, vi (I2 79 0 l1.toNatClampNeg)]) (h' := (101, I2, J3, R0 b)) 1 rfl ?_
      refine WP.icmp_ne (t := 74) (L' := [vr 10 0, vi l1, vi l2]) rfl rfl rfl rfl h (fun h => ?_) (fun h => ?_)
      · refine WP.blk (pc' := 77) (L' := [vr 10 0, vi l1, vi l2]) (st' := [vi l2, vi l1, vr 10 0]) (h' := (101, I2, J3, R0 b)) 3 rfl ?_
        refine WP.cal (y' := 224) (as := [vr 10 0, vi l1, vi l2]) (L' := [vr 10 0, vi l1, vi l2]) (rest := []) rfl (fun f r h' hf => callV_ok hf rfl rfl rfl) h ?_
        rintro _ _ ⟨x4, I5, J6, rfl, rfl, h⟩
        exact WP.ret rfl rfl h
      · refine WP.blk (pc' := 68) (L' := [vr 10 0, vi l1, vi l2]) (st' := [vi l2, vi l1, vr 10 0]) (h' := (101, I2, J3, R0 b)) 3 rfl ?_
        refine WP.cal (y' := 225) (as := [vr 10 0, vi l1, vi l2]) (L' := [vr 10 0, vi l1, vi l2]) (rest := []) rfl (fun f r h' hf => callV_ok hf rfl rfl rfl) h ?_
        rintro _ _ ⟨x7, I8, J9, rfl, rfl, h⟩
        refine WP.blk (pc' := 80) (L' := [vr 10 0, vi l1, vi l2]) (st' := [vi x7]) (h' := (101, I8, J9, R0 b)) 1 rfl ?_
        exact WP.ret rfl rfl h
    · refine WP.blk (pc' := 42) (L' := [vr 10 0, vi l1, vi l2]) (st' := [vi 81, vr 10 0]) (h' := (101, I2, J3, R0 b)) 2 rfl ?_
      refine WP.cal (y' := 220) (as := [vr 10 0, vi 81]) (L' := [vr 10 0, vi l1, vi l2]) (rest := []) rfl (fun f r h' hf => callV_ok hf rfl rfl rfl) h ?_
      rintro _ _ ⟨I11, J12, rfl, rfl, h⟩
      refine WP.blk (pc' := 48) (L' := [vr 10 0, vi l1, vi l2]) (st' := [vi l2, vi l1, vr 10 0]) (h' := (101, I11, J12, R0 b)) 3 rfl ?_
      refine WP.cal (y' := 225) (as := [vr 10 0, vi l1, vi l2]) (L' := [vr 10 0, vi l1, vi l2]) (rest := []) rfl (fun f r h' hf => callV_ok hf rfl rfl rfl) h ?_
      rintro _ _ ⟨x13, I14, J15, rfl, rfl, h⟩
      refine WP.blk (pc' := 53) (L' := [vr 10 0, vi l1, vi l2]) (st' := [vi (x13 - (1 : Int32))]) (h' := (101, I14, J15, R0 b)) 2 rfl ?_
      exact WP.ret rfl rfl h
  · refine WP.blk (pc' := 16) (L' := [vr 10 0, vi l1, vi l2]) (st' := [vi 20, vr 10 0]) (h' := (101, I2, J3, R0 b)) 2 rfl ?_
    refine WP.cal (y' := 220) (as := [vr 10 0, vi 20]) (L' := [vr 10 0, vi l1, vi l2]) (rest := []) rfl (fun f r h' hf => callV_ok hf rfl rfl rfl) h ?_
    rintro _ _ ⟨I17, J18, rfl, rfl, h⟩
    refine WP.blk (pc' := 22) (L' := [vr 10 0, vi l1, vi l2]) (st' := [vi l2, vi l1, vr 10 0]) (h' := (101, I17, J18, R0 b)) 3 rfl ?_
    refine WP.cal (y' := 224) (as := [vr 10 0, vi l1, vi l2]) (L' := [vr 10 0, vi l1, vi l2]) (rest := []) rfl (fun f r h' hf => callV_ok hf rfl rfl rfl) h ?_
    rintro _ _ ⟨x19, I20, J21, rfl, rfl, h⟩
    refine WP.blk (pc' := 27) (L' := [vr 10 0, vi l1, vi l2]) (st' := [vi (x19 + (3 : Int32))]) (h' := (101, I20, J21, R0 b)) 2 rfl ?_
    exact WP.ret rfl rfl h
set_option maxRecDepth 20000 in
theorem t_X10_plainHolds {D : Nat} (l1 : Int32) (l2 : Int32) (I : IM) (J : JM) (b : Bool) {Q : Option AV → AH → Prop} (h : (Call D 220 [vr 10 0, vi 10] (101, I, J, R0 b) (RVf b fun I2 J3 => (Call D 226 [vr 10 0, vi l1, vi l2] (101, I2, J3, R0 b) (RIf b fun x4 I5 J6 => Q (some (vi (x4 * (2 : Int32)))) (101, I5, J6, R0 b)))))) : Call (D + 1) 227 [vr 10 0, vi l1, vi l2] (101, I, J, R0 b) Q := by
  refine Call.of rfl ?_
  show WP D 227 0 [vr 10 0, vi l1, vi l2] [] (101, I, J, R0 b) Q
  refine WP.blk (pc' := 3) (L' := [vr 10 0, vi l1, vi l2]) (st' := [vi 10, vr 10 0]) (h' := (101, I, J, R0 b)) 2 rfl ?_
  refine WP.cal (y' := 220) (as := [vr 10 0, vi 10]) (L' := [vr 10 0, vi l1, vi l2]) (rest := []) rfl (fun f r h' hf => callV_ok hf rfl rfl rfl) h ?_
  rintro _ _ ⟨I2, J3, rfl, rfl, h⟩
  refine WP.blk (pc' := 9) (L' := [vr 10 0, vi l1, vi l2]) (st' := [vi l2, vi l1, vr 10 0]) (h' := (101, I2, J3, R0 b)) 3 rfl ?_
  refine WP.cal (y' := 226) (as := [vr 10 0, vi l1, vi l2]) (L' := [vr 10 0, vi l1, vi l2]) (rest := []) rfl (fun f r h' hf => callV_ok hf rfl rfl rfl) h ?_
  rintro _ _ ⟨x4, I5, J6, rfl, rfl, h⟩
  refine WP.blk (pc' := 14) (L' := [vr 10 0, vi l1, vi l2]) (st' := [vi (x4 * (2 : Int32))]) (h' := (101, I5, J6, R0 b)) 2 rfl ?_
  exact WP.ret rfl rfl h
set_option maxRecDepth 20000 in
theorem t_X10_legHolds {D : Nat} (l1 : Int32) (l2 : Int32) (I : IM) (J : JM) (b : Bool) {Q : Option AV → AH → Prop} (h : (Call D 220 [vr 10 0, vi 30] (101, I, J, R0 b) (RVf b fun I2 J3 => (Call D 227 [vr 10 0, vi l1, vi l2] (101, I2, J3, R0 b) (RIf b fun x4 I5 J6 => Q (some (vi (-x4))) (101, I5, J6, R0 b)))))) : Call (D + 1) 228 [vr 10 0, vi l1, vi l2] (101, I, J, R0 b) Q := by
  refine Call.of rfl ?_
  show WP D 228 0 [vr 10 0, vi l1, vi l2] [] (101, I, J, R0 b) Q
  refine WP.blk (pc' := 3) (L' := [vr 10 0, vi l1, vi l2]) (st' := [vi 30, vr 10 0]) (h' := (101, I, J, R0 b)) 2 rfl ?_
  refine WP.cal (y' := 220) (as := [vr 10 0, vi 30]) (L' := [vr 10 0, vi l1, vi l2]) (rest := []) rfl (fun f r h' hf => callV_ok hf rfl rfl rfl) h ?_
  rintro _ _ ⟨I2, J3, rfl, rfl, h⟩
  refine WP.blk (pc' := 9) (L' := [vr 10 0, vi l1, vi l2]) (st' := [vi l2, vi l1, vr 10 0]) (h' := (101, I2, J3, R0 b)) 3 rfl ?_
  refine WP.cal (y' := 227) (as := [vr 10 0, vi l1, vi l2]) (L' := [vr 10 0, vi l1, vi l2]) (rest := []) rfl (fun f r h' hf => callV_ok hf rfl rfl rfl) h ?_
  rintro _ _ ⟨x4, I5, J6, rfl, rfl, h⟩
  refine WP.blk (pc' := 13) (L' := [vr 10 0, vi l1, vi l2]) (st' := [vi (-x4)]) (h' := (101, I5, J6, R0 b)) 1 rfl ?_
  exact WP.ret rfl rfl h
set_option maxRecDepth 20000 in
theorem t_X10_holding {D : Nat} (l1 : Int32) (l2 : Int32) (I : IM) (J : JM) (b : Bool) {Q : Option AV → AH → Prop} (h : (vp_in l1 50 ∧ (Call D 223 [vi (I 79 0 l1.toNatClampNeg), vi 3] (101, I, J, R0 b) (RIf b fun x1 I2 J3 => (if x1 = 0 then (vp_in l1 50 ∧ (if ¬ (I2 79 0 l1.toNatClampNeg) = (7 : Int32) then (vp_in l1 50 ∧ (if ¬ (I2 79 0 l1.toNatClampNeg) = (2 : Int32) then (Call D 227 [vr 10 0, vi l1, vi l2] (101, I2, J3, R0 b) (RIf b fun x4 I5 J6 => Q (some (vi x4)) (101, I5, J6, R0 b))) else (Call D 228 [vr 10 0, vi l1, vi l2] (101, I2, J3, R0 b) (RIf b fun x7 I8 J9 => Q (some (vi x7)) (101, I8, J9, R0 b))))) else (Call D 220 [vr 10 0, vi 80] (101, I2, J3, R0 b) (RVf b fun I11 J12 => (Call D 227 [vr 10 0, vi l1, vi l2] (101, I11, J12, R0 b) (RIf b fun x13 I14 J15 => (Call D 232 [vr 10 0, vi l1, vi 2] (101, I14, J15, R0 b) (RIf b fun x16 I17 J18 => Q (some (vi (x13 + x16))) (101, I17, J18, R0 b))))))))) else (Call D 220 [vr 10 0, vi 41] (101, I2, J3, R0 b) (RVf b fun I20 J21 => (Call D 228 [vr 10 0, vi l1, vi (l2 + (1 : Int32))] (101, I20, J21, R0 b) (RIf b fun x22 I23 J24 => Q (some (vi x22)) (101, I23, J24, R0 b)))))))))) : Call (D + 1) 229 [vr 10 0, vi l1, vi l2] (101, I, J, R0 b) Q := by
  refine Call.of rfl ?_
  show WP D 229 0 [vr 10 0, vi l1, vi l2, vn] [] (101, I, J, R0 b) Q
  refine WP.blk (pc' := 5) (L' := [vr 10 0, vi l1, vi l2, vn]) (st' := [vi l1, vr 79 0]) (h' := (101, I, J, R0 b)) 3 rfl ?_
  refine WP.step (pc' := 6) (L' := [vr 10 0, vi l1, vi l2, vn]) (st' := [vi (I 79 0 l1.toNatClampNeg)]) (h' := (101, I, J, R0 b)) rfl (iaload_ok (n := 50) rfl rfl rfl (inA_of h.1)) ?_
  have h := And.right h
  refine WP.blk (pc' := 7) (L' := [vr 10 0, vi l1, vi l2, vn]) (st' := [vi 3, vi (I 79 0 l1.toNatClampNeg)]) (h' := (101, I, J, R0 b)) 1 rfl ?_
  refine WP.cal (y' := 223) (as := [vi (I 79 0 l1.toNatClampNeg), vi 3]) (L' := [vr 10 0, vi l1, vi l2, vn]) (rest := []) rfl (fun f r h' hf => callS_ok hf rfl rfl rfl) h ?_
  rintro _ _ ⟨x1, I2, J3, rfl, rfl, h⟩
  refine WP.if_eq (t := 28) (L' := [vr 10 0, vi l1, vi l2, vn]) rfl rfl rfl rfl h (fun h => ?_) (fun h => ?_)
  · refine WP.blk (pc' := 33) (L' := [vr 10 0, vi l1, vi l2, vn]) (st' := [vi l1, vr 79 0]) (h' := (101, I2, J3, R0 b)) 3 rfl ?_
    refine WP.step (pc' := 34) (L' := [vr 10 0, vi l1, vi l2, vn]) (st' := [vi (I2 79 0 l1.toNatClampNeg)]) (h' := (101, I2, J3, R0 b)) rfl (iaload_ok (n := 50) rfl rfl rfl (inA_of h.1)) ?_
    have h := And.right h
    refine WP.blk (pc' := 36) (L' := [vr 10 0, vi l1, vi l2, vn]) (st' := [vi 7, vi (I2 79 0 l1.toNatClampNeg)]) (h' := (101, I2, J3, R0 b)) 1 rfl ?_
    refine WP.icmp_ne (t := 61) (L' := [vr 10 0, vi l1, vi l2, vn]) rfl rfl rfl rfl h (fun h => ?_) (fun h => ?_)
    · refine WP.blk (pc' := 66) (L' := [vr 10 0, vi l1, vi l2, vn]) (st' := [vi l1, vr 79 0]) (h' := (101, I2, J3, R0 b)) 3 rfl ?_
      refine WP.step (pc' := 67) (L' := [vr 10 0, vi l1, vi l2, vn]) (st' := [vi (I2 79 0 l1.toNatClampNeg)]) (h' := (101, I2, J3, R0 b)) rfl (iaload_ok (n := 50) rfl rfl rfl (inA_of h.1)) ?_
      have h := And.right h
      refine WP.blk (pc' := 68) (L' := [vr 10 0, vi l1, vi l2, vn]) (st' := [vi 2, vi (I2 79 0 l1.toNatClampNeg)]) (h' := (101, I2, J3, R0 b)) 1 rfl ?_
      refine WP.icmp_ne (t := 80) (L' := [vr 10 0, vi l1, vi l2, vn]) rfl rfl rfl rfl h (fun h => ?_) (fun h => ?_)
      · refine WP.blk (pc' := 83) (L' := [vr 10 0, vi l1, vi l2, vn]) (st' := [vi l2, vi l1, vr 10 0]) (h' := (101, I2, J3, R0 b)) 3 rfl ?_
        refine WP.cal (y' := 227) (as := [vr 10 0, vi l1, vi l2]) (L' := [vr 10 0, vi l1, vi l2, vn]) (rest := []) rfl (fun f r h' hf => callV_ok hf rfl rfl rfl) h ?_
        rintro _ _ ⟨x4, I5, J6, rfl, rfl, h⟩
        exact WP.ret rfl rfl h
      · refine WP.blk (pc' := 74) (L' := [vr 10 0, vi l1, vi l2, vn]) (st' := [vi l2, vi l1, vr 10 0]) (h' := (101, I2, J3, R0 b)) 3 rfl ?_
        refine WP.cal (y' := 228) (as := [vr 10 0, vi l1, vi l2]) (L' := [vr 10 0, vi l1, vi l2, vn]) (rest := []) rfl (fun f r h' hf => callV_ok hf rfl rfl rfl) h ?_
        rintro _ _ ⟨x7, I8, J9, rfl, rfl, h⟩
        refine WP.blk (pc' := 86) (L' := [vr 10 0, vi l1, vi l2, vn]) (st' := [vi x7]) (h' := (101, I8, J9, R0 b)) 1 rfl ?_
        exact WP.ret rfl rfl h
    · refine WP.blk (pc' := 42) (L' := [vr 10 0, vi l1, vi l2, vn]) (st' := [vi 80, vr 10 0]) (h' := (101, I2, J3, R0 b)) 2 rfl ?_
      refine WP.cal (y' := 220) (as := [vr 10 0, vi 80]) (L' := [vr 10 0, vi l1, vi l2, vn]) (rest := []) rfl (fun f r h' hf => callV_ok hf rfl rfl rfl) h ?_
      rintro _ _ ⟨I11, J12, rfl, rfl, h⟩
      refine WP.blk (pc' := 48) (L' := [vr 10 0, vi l1, vi l2, vn]) (st' := [vi l2, vi l1, vr 10 0]) (h' := (101, I11, J12, R0 b)) 3 rfl ?_
      refine WP.cal (y' := 227) (as := [vr 10 0, vi l1, vi l2]) (L' := [vr 10 0, vi l1, vi l2, vn]) (rest := []) rfl (fun f r h' hf => callV_ok hf rfl rfl rfl) h ?_
      rintro _ _ ⟨x13, I14, J15, rfl, rfl, h⟩
      refine WP.blk (pc' := 56) (L' := [vr 10 0, vi l1, vi l2, vi x13]) (st' := [vi 2, vi l1, vr 10 0, vi x13]) (h' := (101, I14, J15, R0 b)) 5 rfl ?_
      refine WP.cal (y' := 232) (as := [vr 10 0, vi l1, vi 2]) (L' := [vr 10 0, vi l1, vi l2, vi x13]) (rest := [vi x13]) rfl (fun f r h' hf => callV_ok hf rfl rfl rfl) h ?_
      rintro _ _ ⟨x16, I17, J18, rfl, rfl, h⟩
      refine WP.blk (pc' := 60) (L' := [vr 10 0, vi l1, vi l2, vi x13]) (st' := [vi (x13 + x16)]) (h' := (101, I17, J18, R0 b)) 1 rfl ?_
      exact WP.ret rfl rfl h
  · refine WP.blk (pc' := 16) (L' := [vr 10 0, vi l1, vi l2, vn]) (st' := [vi 41, vr 10 0]) (h' := (101, I2, J3, R0 b)) 2 rfl ?_
    refine WP.cal (y' := 220) (as := [vr 10 0, vi 41]) (L' := [vr 10 0, vi l1, vi l2, vn]) (rest := []) rfl (fun f r h' hf => callV_ok hf rfl rfl rfl) h ?_
    rintro _ _ ⟨I20, J21, rfl, rfl, h⟩
    refine WP.blk (pc' := 24) (L' := [vr 10 0, vi l1, vi l2, vn]) (st' := [vi (l2 + (1 : Int32)), vi l1, vr 10 0]) (h' := (101, I20, J21, R0 b)) 5 rfl ?_
    refine WP.cal (y' := 228) (as := [vr 10 0, vi l1, vi (l2 + (1 : Int32))]) (L' := [vr 10 0, vi l1, vi l2, vn]) (rest := []) rfl (fun f r h' hf => callV_ok hf rfl rfl rfl) h ?_
    rintro _ _ ⟨x22, I23, J24, rfl, rfl, h⟩
    exact WP.ret rfl rfl h
set_option maxRecDepth 20000 in
theorem t_X10_plainSets {D : Nat} (l1 : Int32) (l2 : Int32) (I : IM) (J : JM) (b : Bool) {Q : Option AV → AH → Prop} (h : (Call D 220 [vr 10 0, vi 11] (101, I, J, R0 b) (RVf b fun I2 J3 => Q (some (vi (l2 ^^^ l1))) (101, I2, J3, R0 b)))) : Call (D + 1) 230 [vr 10 0, vi l1, vi l2] (101, I, J, R0 b) Q := by
  refine Call.of rfl ?_
  show WP D 230 0 [vr 10 0, vi l1, vi l2] [] (101, I, J, R0 b) Q
  refine WP.blk (pc' := 3) (L' := [vr 10 0, vi l1, vi l2]) (st' := [vi 11, vr 10 0]) (h' := (101, I, J, R0 b)) 2 rfl ?_
  refine WP.cal (y' := 220) (as := [vr 10 0, vi 11]) (L' := [vr 10 0, vi l1, vi l2]) (rest := []) rfl (fun f r h' hf => callV_ok hf rfl rfl rfl) h ?_
  rintro _ _ ⟨I2, J3, rfl, rfl, h⟩
  refine WP.blk (pc' := 9) (L' := [vr 10 0, vi l1, vi l2]) (st' := [vi (l2 ^^^ l1)]) (h' := (101, I2, J3, R0 b)) 3 rfl ?_
  exact WP.ret rfl rfl h
set_option maxRecDepth 20000 in
theorem t_X10_seatSets {D : Nat} (l1 : Int32) (l2 : Int32) (I : IM) (J : JM) (b : Bool) {Q : Option AV → AH → Prop} (h : (Call D 220 [vr 10 0, vi 40] (101, I, J, R0 b) (RVf b fun I2 J3 => (Call D 230 [vr 10 0, vi l1, vi l2] (101, I2, J3, R0 b) (RIf b fun x4 I5 J6 => Q (some (vi (x4 * (3 : Int32)))) (101, I5, J6, R0 b)))))) : Call (D + 1) 231 [vr 10 0, vi l1, vi l2] (101, I, J, R0 b) Q := by
  refine Call.of rfl ?_
  show WP D 231 0 [vr 10 0, vi l1, vi l2] [] (101, I, J, R0 b) Q
  refine WP.blk (pc' := 3) (L' := [vr 10 0, vi l1, vi l2]) (st' := [vi 40, vr 10 0]) (h' := (101, I, J, R0 b)) 2 rfl ?_
  refine WP.cal (y' := 220) (as := [vr 10 0, vi 40]) (L' := [vr 10 0, vi l1, vi l2]) (rest := []) rfl (fun f r h' hf => callV_ok hf rfl rfl rfl) h ?_
  rintro _ _ ⟨I2, J3, rfl, rfl, h⟩
  refine WP.blk (pc' := 9) (L' := [vr 10 0, vi l1, vi l2]) (st' := [vi l2, vi l1, vr 10 0]) (h' := (101, I2, J3, R0 b)) 3 rfl ?_
  refine WP.cal (y' := 230) (as := [vr 10 0, vi l1, vi l2]) (L' := [vr 10 0, vi l1, vi l2]) (rest := []) rfl (fun f r h' hf => callV_ok hf rfl rfl rfl) h ?_
  rintro _ _ ⟨x4, I5, J6, rfl, rfl, h⟩
  refine WP.blk (pc' := 14) (L' := [vr 10 0, vi l1, vi l2]) (st' := [vi (x4 * (3 : Int32))]) (h' := (101, I5, J6, R0 b)) 2 rfl ?_
  exact WP.ret rfl rfl h
set_option maxRecDepth 20000 in
theorem t_X10_setting {D : Nat} (l1 : Int32) (l2 : Int32) (I : IM) (J : JM) (b : Bool) {Q : Option AV → AH → Prop} (h : (vp_in l1 50 ∧ (if ¬ (I 79 0 l1.toNatClampNeg) = (5 : Int32) then (vp_in l1 50 ∧ (if ¬ (I 79 0 l1.toNatClampNeg) = (3 : Int32) then (Call D 230 [vr 10 0, vi l1, vi l2] (101, I, J, R0 b) (RIf b fun x1 I2 J3 => Q (some (vi x1)) (101, I2, J3, R0 b))) else (Call D 231 [vr 10 0, vi l1, vi l2] (101, I, J, R0 b) (RIf b fun x4 I5 J6 => Q (some (vi x4)) (101, I5, J6, R0 b))))) else (Call D 220 [vr 10 0, vi 60] (101, I, J, R0 b) (RVf b fun I8 J9 => (Call D 231 [vr 10 0, vi l1, vi l2] (101, I8, J9, R0 b) (RIf b fun x10 I11 J12 => (Call D 226 [vr 10 0, vi l1, vi 2] (101, I11, J12, R0 b) (RIf b fun x13 I14 J15 => Q (some (vi (x10 - x13))) (101, I14, J15, R0 b)))))))))) : Call (D + 1) 232 [vr 10 0, vi l1, vi l2] (101, I, J, R0 b) Q := by
  refine Call.of rfl ?_
  show WP D 232 0 [vr 10 0, vi l1, vi l2, vn] [] (101, I, J, R0 b) Q
  refine WP.blk (pc' := 5) (L' := [vr 10 0, vi l1, vi l2, vn]) (st' := [vi l1, vr 79 0]) (h' := (101, I, J, R0 b)) 3 rfl ?_
  refine WP.step (pc' := 6) (L' := [vr 10 0, vi l1, vi l2, vn]) (st' := [vi (I 79 0 l1.toNatClampNeg)]) (h' := (101, I, J, R0 b)) rfl (iaload_ok (n := 50) rfl rfl rfl (inA_of h.1)) ?_
  have h := And.right h
  refine WP.blk (pc' := 7) (L' := [vr 10 0, vi l1, vi l2, vn]) (st' := [vi 5, vi (I 79 0 l1.toNatClampNeg)]) (h' := (101, I, J, R0 b)) 1 rfl ?_
  refine WP.icmp_ne (t := 32) (L' := [vr 10 0, vi l1, vi l2, vn]) rfl rfl rfl rfl h (fun h => ?_) (fun h => ?_)
  · refine WP.blk (pc' := 37) (L' := [vr 10 0, vi l1, vi l2, vn]) (st' := [vi l1, vr 79 0]) (h' := (101, I, J, R0 b)) 3 rfl ?_
    refine WP.step (pc' := 38) (L' := [vr 10 0, vi l1, vi l2, vn]) (st' := [vi (I 79 0 l1.toNatClampNeg)]) (h' := (101, I, J, R0 b)) rfl (iaload_ok (n := 50) rfl rfl rfl (inA_of h.1)) ?_
    have h := And.right h
    refine WP.blk (pc' := 39) (L' := [vr 10 0, vi l1, vi l2, vn]) (st' := [vi 3, vi (I 79 0 l1.toNatClampNeg)]) (h' := (101, I, J, R0 b)) 1 rfl ?_
    refine WP.icmp_ne (t := 51) (L' := [vr 10 0, vi l1, vi l2, vn]) rfl rfl rfl rfl h (fun h => ?_) (fun h => ?_)
    · refine WP.blk (pc' := 54) (L' := [vr 10 0, vi l1, vi l2, vn]) (st' := [vi l2, vi l1, vr 10 0]) (h' := (101, I, J, R0 b)) 3 rfl ?_
      refine WP.cal (y' := 230) (as := [vr 10 0, vi l1, vi l2]) (L' := [vr 10 0, vi l1, vi l2, vn]) (rest := []) rfl (fun f r h' hf => callV_ok hf rfl rfl rfl) h ?_
      rintro _ _ ⟨x1, I2, J3, rfl, rfl, h⟩
      exact WP.ret rfl rfl h
    · refine WP.blk (pc' := 45) (L' := [vr 10 0, vi l1, vi l2, vn]) (st' := [vi l2, vi l1, vr 10 0]) (h' := (101, I, J, R0 b)) 3 rfl ?_
      refine WP.cal (y' := 231) (as := [vr 10 0, vi l1, vi l2]) (L' := [vr 10 0, vi l1, vi l2, vn]) (rest := []) rfl (fun f r h' hf => callV_ok hf rfl rfl rfl) h ?_
      rintro _ _ ⟨x4, I5, J6, rfl, rfl, h⟩
      refine WP.blk (pc' := 57) (L' := [vr 10 0, vi l1, vi l2, vn]) (st' := [vi x4]) (h' := (101, I5, J6, R0 b)) 1 rfl ?_
      exact WP.ret rfl rfl h
  · refine WP.blk (pc' := 13) (L' := [vr 10 0, vi l1, vi l2, vn]) (st' := [vi 60, vr 10 0]) (h' := (101, I, J, R0 b)) 2 rfl ?_
    refine WP.cal (y' := 220) (as := [vr 10 0, vi 60]) (L' := [vr 10 0, vi l1, vi l2, vn]) (rest := []) rfl (fun f r h' hf => callV_ok hf rfl rfl rfl) h ?_
    rintro _ _ ⟨I8, J9, rfl, rfl, h⟩
    refine WP.blk (pc' := 19) (L' := [vr 10 0, vi l1, vi l2, vn]) (st' := [vi l2, vi l1, vr 10 0]) (h' := (101, I8, J9, R0 b)) 3 rfl ?_
    refine WP.cal (y' := 231) (as := [vr 10 0, vi l1, vi l2]) (L' := [vr 10 0, vi l1, vi l2, vn]) (rest := []) rfl (fun f r h' hf => callV_ok hf rfl rfl rfl) h ?_
    rintro _ _ ⟨x10, I11, J12, rfl, rfl, h⟩
    refine WP.blk (pc' := 27) (L' := [vr 10 0, vi l1, vi l2, vi x10]) (st' := [vi 2, vi l1, vr 10 0, vi x10]) (h' := (101, I11, J12, R0 b)) 5 rfl ?_
    refine WP.cal (y' := 226) (as := [vr 10 0, vi l1, vi 2]) (L' := [vr 10 0, vi l1, vi l2, vi x10]) (rest := [vi x10]) rfl (fun f r h' hf => callV_ok hf rfl rfl rfl) h ?_
    rintro _ _ ⟨x13, I14, J15, rfl, rfl, h⟩
    refine WP.blk (pc' := 31) (L' := [vr 10 0, vi l1, vi l2, vi x10]) (st' := [vi (x10 - x13)]) (h' := (101, I14, J15, R0 b)) 1 rfl ?_
    exact WP.ret rfl rfl h
set_option maxRecDepth 20000 in
theorem t_X10_plainTells {D : Nat} (l1 : Int32) (l2 : Int32) (I : IM) (J : JM) (b : Bool) {Q : Option AV → AH → Prop} (h : (Call D 220 [vr 10 0, vi 2] (101, I, J, R0 b) (RVf b fun I2 J3 => (Call D 229 [vr 10 0, vi l1, vi l2] (101, I2, J3, R0 b) (RIf b fun x4 I5 J6 => (Call D 232 [vr 10 0, vi l1, vi 1] (101, I5, J6, R0 b) (RIf b fun x7 I8 J9 => Q (some (vi (x4 - x7))) (101, I8, J9, R0 b)))))))) : Call (D + 1) 233 [vr 10 0, vi l1, vi l2] (101, I, J, R0 b) Q := by
  refine Call.of rfl ?_
  show WP D 233 0 [vr 10 0, vi l1, vi l2, vn] [] (101, I, J, R0 b) Q
  refine WP.blk (pc' := 2) (L' := [vr 10 0, vi l1, vi l2, vn]) (st' := [vi 2, vr 10 0]) (h' := (101, I, J, R0 b)) 2 rfl ?_
  refine WP.cal (y' := 220) (as := [vr 10 0, vi 2]) (L' := [vr 10 0, vi l1, vi l2, vn]) (rest := []) rfl (fun f r h' hf => callV_ok hf rfl rfl rfl) h ?_
  rintro _ _ ⟨I2, J3, rfl, rfl, h⟩
  refine WP.blk (pc' := 8) (L' := [vr 10 0, vi l1, vi l2, vn]) (st' := [vi l2, vi l1, vr 10 0]) (h' := (101, I2, J3, R0 b)) 3 rfl ?_
  refine WP.cal (y' := 229) (as := [vr 10 0, vi l1, vi l2]) (L' := [vr 10 0, vi l1, vi l2, vn]) (rest := []) rfl (fun f r h' hf => callV_ok hf rfl rfl rfl) h ?_
  rintro _ _ ⟨x4, I5, J6, rfl, rfl, h⟩
  refine WP.blk (pc' := 16) (L' := [vr 10 0, vi l1, vi l2, vi x4]) (st' := [vi 1, vi l1, vr 10 0, vi x4]) (h' := (101, I5, J6, R0 b)) 5 rfl ?_
  refine WP.cal (y' := 232) (as := [vr 10 0, vi l1, vi 1]) (L' := [vr 10 0, vi l1, vi l2, vi x4]) (rest := [vi x4]) rfl (fun f r h' hf => callV_ok hf rfl rfl rfl) h ?_
  rintro _ _ ⟨x7, I8, J9, rfl, rfl, h⟩
  refine WP.blk (pc' := 20) (L' := [vr 10 0, vi l1, vi l2, vi x4]) (st' := [vi (x4 - x7)]) (h' := (101, I8, J9, R0 b)) 1 rfl ?_
  exact WP.ret rfl rfl h
set_option maxRecDepth 20000 in
theorem t_X10_telling {D : Nat} (l1 : Int32) (l2 : Int32) (I : IM) (J : JM) (b : Bool) {Q : Option AV → AH → Prop} (h : (vp_in l1 50 ∧ (if ¬ (I 79 0 l1.toNatClampNeg) = (4 : Int32) then (vp_in l1 50 ∧ (if ¬ (I 79 0 l1.toNatClampNeg) = (5 : Int32) then (Call D 233 [vr 10 0, vi l1, vi l2] (101, I, J, R0 b) (RIf b fun x1 I2 J3 => Q (some (vi x1)) (101, I2, J3, R0 b))) else (Call D 220 [vr 10 0, vi 61] (101, I, J, R0 b) (RVf b fun I5 J6 => (Call D 233 [vr 10 0, vi l1, vi l2] (101, I5, J6, R0 b) (RIf b fun x7 I8 J9 => Q (some (vi (x7 + (1 : Int32)))) (101, I8, J9, R0 b))))))) else (Call D 220 [vr 10 0, vi 50] (101, I, J, R0 b) (RVf b fun I11 J12 => (Call D 233 [vr 10 0, vi l1, vi l2] (101, I11, J12, R0 b) (RIf b fun x13 I14 J15 => Q (some (vi (x13 ^^^ (5 : Int32)))) (101, I14, J15, R0 b)))))))) : Call (D + 1) 234 [vr 10 0, vi l1, vi l2] (101, I, J, R0 b) Q := by
  refine Call.of rfl ?_
  show WP D 234 0 [vr 10 0, vi l1, vi l2] [] (101, I, J, R0 b) Q
  refine WP.blk (pc' := 5) (L' := [vr 10 0, vi l1, vi l2]) (st' := [vi l1, vr 79 0]) (h' := (101, I, J, R0 b)) 3 rfl ?_
  refine WP.step (pc' := 6) (L' := [vr 10 0, vi l1, vi l2]) (st' := [vi (I 79 0 l1.toNatClampNeg)]) (h' := (101, I, J, R0 b)) rfl (iaload_ok (n := 50) rfl rfl rfl (inA_of h.1)) ?_
  have h := And.right h
  refine WP.blk (pc' := 7) (L' := [vr 10 0, vi l1, vi l2]) (st' := [vi 4, vi (I 79 0 l1.toNatClampNeg)]) (h' := (101, I, J, R0 b)) 1 rfl ?_
  refine WP.icmp_ne (t := 25) (L' := [vr 10 0, vi l1, vi l2]) rfl rfl rfl rfl h (fun h => ?_) (fun h => ?_)
  · refine WP.blk (pc' := 30) (L' := [vr 10 0, vi l1, vi l2]) (st' := [vi l1, vr 79 0]) (h' := (101, I, J, R0 b)) 3 rfl ?_
    refine WP.step (pc' := 31) (L' := [vr 10 0, vi l1, vi l2]) (st' := [vi (I 79 0 l1.toNatClampNeg)]) (h' := (101, I, J, R0 b)) rfl (iaload_ok (n := 50) rfl rfl rfl (inA_of h.1)) ?_
    have h := And.right h
    refine WP.blk (pc' := 32) (L' := [vr 10 0, vi l1, vi l2]) (st' := [vi 5, vi (I 79 0 l1.toNatClampNeg)]) (h' := (101, I, J, R0 b)) 1 rfl ?_
    refine WP.icmp_ne (t := 50) (L' := [vr 10 0, vi l1, vi l2]) rfl rfl rfl rfl h (fun h => ?_) (fun h => ?_)
    · refine WP.blk (pc' := 53) (L' := [vr 10 0, vi l1, vi l2]) (st' := [vi l2, vi l1, vr 10 0]) (h' := (101, I, J, R0 b)) 3 rfl ?_
      refine WP.cal (y' := 233) (as := [vr 10 0, vi l1, vi l2]) (L' := [vr 10 0, vi l1, vi l2]) (rest := []) rfl (fun f r h' hf => callV_ok hf rfl rfl rfl) h ?_
      rintro _ _ ⟨x1, I2, J3, rfl, rfl, h⟩
      exact WP.ret rfl rfl h
    · refine WP.blk (pc' := 38) (L' := [vr 10 0, vi l1, vi l2]) (st' := [vi 61, vr 10 0]) (h' := (101, I, J, R0 b)) 2 rfl ?_
      refine WP.cal (y' := 220) (as := [vr 10 0, vi 61]) (L' := [vr 10 0, vi l1, vi l2]) (rest := []) rfl (fun f r h' hf => callV_ok hf rfl rfl rfl) h ?_
      rintro _ _ ⟨I5, J6, rfl, rfl, h⟩
      refine WP.blk (pc' := 44) (L' := [vr 10 0, vi l1, vi l2]) (st' := [vi l2, vi l1, vr 10 0]) (h' := (101, I5, J6, R0 b)) 3 rfl ?_
      refine WP.cal (y' := 233) (as := [vr 10 0, vi l1, vi l2]) (L' := [vr 10 0, vi l1, vi l2]) (rest := []) rfl (fun f r h' hf => callV_ok hf rfl rfl rfl) h ?_
      rintro _ _ ⟨x7, I8, J9, rfl, rfl, h⟩
      refine WP.blk (pc' := 49) (L' := [vr 10 0, vi l1, vi l2]) (st' := [vi (x7 + (1 : Int32))]) (h' := (101, I8, J9, R0 b)) 2 rfl ?_
      exact WP.ret rfl rfl h
  · refine WP.blk (pc' := 13) (L' := [vr 10 0, vi l1, vi l2]) (st' := [vi 50, vr 10 0]) (h' := (101, I, J, R0 b)) 2 rfl ?_
    refine WP.cal (y' := 220) (as := [vr 10 0, vi 50]) (L' := [vr 10 0, vi l1, vi l2]) (rest := []) rfl (fun f r h' hf => callV_ok hf rfl rfl rfl) h ?_
    rintro _ _ ⟨I11, J12, rfl, rfl, h⟩
    refine WP.blk (pc' := 19) (L' := [vr 10 0, vi l1, vi l2]) (st' := [vi l2, vi l1, vr 10 0]) (h' := (101, I11, J12, R0 b)) 3 rfl ?_
    refine WP.cal (y' := 233) (as := [vr 10 0, vi l1, vi l2]) (L' := [vr 10 0, vi l1, vi l2]) (rest := []) rfl (fun f r h' hf => callV_ok hf rfl rfl rfl) h ?_
    rintro _ _ ⟨x13, I14, J15, rfl, rfl, h⟩
    refine WP.blk (pc' := 24) (L' := [vr 10 0, vi l1, vi l2]) (st' := [vi (x13 ^^^ (5 : Int32))]) (h' := (101, I14, J15, R0 b)) 2 rfl ?_
    exact WP.ret rfl rfl h
set_option maxRecDepth 20000 in
theorem t_X10_act {D : Nat} (l1 : Int32) (l2 : Int32) (l3 : Int32) (I : IM) (J : JM) (b : Bool) {Q : Option AV → AH → Prop} (h : (Call D 219 [vr 10 0, vi l1] (101, (updI I 10 0 74 0), J, R0 b) (RIf b fun x1 I2 J3 => (if x1 = 0 then Q (some (vi 0)) (101, I2, J3, R0 b) else (Call D 135 [vi l2, vi 0, vi 3] (101, I2, J3, R0 b) (RIf b fun x4 I5 J6 => (if ¬ x4 = 0 then (if ¬ l2 = 0 then (if ¬ l2 = (1 : Int32) then (if ¬ l2 = (2 : Int32) then (Call D 234 [vr 10 0, vi l1, vi l3] (101, I5, J6, R0 b) (RIf b fun x7 I8 J9 => Q (some (vi x7)) (101, I8, J9, R0 b))) else (Call D 232 [vr 10 0, vi l1, vi l3] (101, I5, J6, R0 b) (RIf b fun x10 I11 J12 => Q (some (vi x10)) (101, I11, J12, R0 b)))) else (Call D 229 [vr 10 0, vi l1, vi l3] (101, I5, J6, R0 b) (RIf b fun x13 I14 J15 => Q (some (vi x13)) (101, I14, J15, R0 b)))) else (Call D 226 [vr 10 0, vi l1, vi l3] (101, I5, J6, R0 b) (RIf b fun x16 I17 J18 => Q (some (vi x16)) (101, I17, J18, R0 b)))) else Q (some (vi 0)) (101, I5, J6, R0 b)))))))) : Call (D + 1) 235 [vr 10 0, vi l1, vi l2, vi l3] (101, I, J, R0 b) Q := by
  refine Call.of rfl ?_
  show WP D 235 0 [vr 10 0, vi l1, vi l2, vi l3] [] (101, I, J, R0 b) Q
  refine WP.blk (pc' := 7) (L' := [vr 10 0, vi l1, vi l2, vi l3]) (st' := [vi l1, vr 10 0]) (h' := (101, (updI I 10 0 74 0), J, R0 b)) 5 rfl ?_
  refine WP.cal (y' := 219) (as := [vr 10 0, vi l1]) (L' := [vr 10 0, vi l1, vi l2, vi l3]) (rest := []) rfl (fun f r h' hf => callV_ok hf rfl rfl rfl) h ?_
  rintro _ _ ⟨x1, I2, J3, rfl, rfl, h⟩
  refine WP.if_eq (t := 22) (L' := [vr 10 0, vi l1, vi l2, vi l3]) rfl rfl rfl rfl h (fun h => ?_) (fun h => ?_)
  · refine WP.blk (pc' := 23) (L' := [vn, vn, vn, vn]) (st' := [vi 0]) (h' := (101, I2, J3, R0 b)) 1 rfl ?_
    exact WP.ret rfl rfl h
  · refine WP.blk (pc' := 16) (L' := [vr 10 0, vi l1, vi l2, vi l3]) (st' := [vi 3, vi 0, vi l2]) (h' := (101, I2, J3, R0 b)) 3 rfl ?_
    refine WP.cal (y' := 135) (as := [vi l2, vi 0, vi 3]) (L' := [vr 10 0, vi l1, vi l2, vi l3]) (rest := []) rfl (fun f r h' hf => callS_ok hf rfl rfl rfl) h ?_
    rintro _ _ ⟨x4, I5, J6, rfl, rfl, h⟩
    refine WP.if_ne (t := 24) (L' := [vr 10 0, vi l1, vi l2, vi l3]) rfl rfl rfl rfl h (fun h => ?_) (fun h => ?_)
    · refine WP.blk (pc' := 25) (L' := [vr 10 0, vi l1, vi l2, vi l3]) (st' := [vi l2]) (h' := (101, I5, J6, R0 b)) 1 rfl ?_
      refine WP.if_ne (t := 37) (L' := [vr 10 0, vi l1, vi l2, vi l3]) rfl rfl rfl rfl h (fun h => ?_) (fun h => ?_)
      · refine WP.blk (pc' := 39) (L' := [vr 10 0, vi l1, vi l2, vi l3]) (st' := [vi 1, vi l2]) (h' := (101, I5, J6, R0 b)) 2 rfl ?_
        refine WP.icmp_ne (t := 51) (L' := [vr 10 0, vi l1, vi l2, vi l3]) rfl rfl rfl rfl h (fun h => ?_) (fun h => ?_)
        · refine WP.blk (pc' := 53) (L' := [vr 10 0, vi l1, vi l2, vi l3]) (st' := [vi 2, vi l2]) (h' := (101, I5, J6, R0 b)) 2 rfl ?_
          refine WP.icmp_ne (t := 65) (L' := [vr 10 0, vi l1, vi l2, vi l3]) rfl rfl rfl rfl h (fun h => ?_) (fun h => ?_)
          · refine WP.blk (pc' := 68) (L' := [vr 10 0, vi l1, vi l2, vi l3]) (st' := [vi l3, vi l1, vr 10 0]) (h' := (101, I5, J6, R0 b)) 3 rfl ?_
            refine WP.cal (y' := 234) (as := [vr 10 0, vi l1, vi l3]) (L' := [vr 10 0, vi l1, vi l2, vi l3]) (rest := []) rfl (fun f r h' hf => callV_ok hf rfl rfl rfl) h ?_
            rintro _ _ ⟨x7, I8, J9, rfl, rfl, h⟩
            exact WP.ret rfl rfl h
          · refine WP.blk (pc' := 59) (L' := [vr 10 0, vi l1, vi l2, vi l3]) (st' := [vi l3, vi l1, vr 10 0]) (h' := (101, I5, J6, R0 b)) 3 rfl ?_
            refine WP.cal (y' := 232) (as := [vr 10 0, vi l1, vi l3]) (L' := [vr 10 0, vi l1, vi l2, vi l3]) (rest := []) rfl (fun f r h' hf => callV_ok hf rfl rfl rfl) h ?_
            rintro _ _ ⟨x10, I11, J12, rfl, rfl, h⟩
            refine WP.blk (pc' := 71) (L' := [vr 10 0, vi l1, vi l2, vi l3]) (st' := [vi x10]) (h' := (101, I11, J12, R0 b)) 1 rfl ?_
            exact WP.ret rfl rfl h
        · refine WP.blk (pc' := 45) (L' := [vr 10 0, vi l1, vi l2, vi l3]) (st' := [vi l3, vi l1, vr 10 0]) (h' := (101, I5, J6, R0 b)) 3 rfl ?_
          refine WP.cal (y' := 229) (as := [vr 10 0, vi l1, vi l3]) (L' := [vr 10 0, vi l1, vi l2, vi l3]) (rest := []) rfl (fun f r h' hf => callV_ok hf rfl rfl rfl) h ?_
          rintro _ _ ⟨x13, I14, J15, rfl, rfl, h⟩
          refine WP.blk (pc' := 71) (L' := [vr 10 0, vi l1, vi l2, vi l3]) (st' := [vi x13]) (h' := (101, I14, J15, R0 b)) 1 rfl ?_
          exact WP.ret rfl rfl h
      · refine WP.blk (pc' := 31) (L' := [vr 10 0, vi l1, vi l2, vi l3]) (st' := [vi l3, vi l1, vr 10 0]) (h' := (101, I5, J6, R0 b)) 3 rfl ?_
        refine WP.cal (y' := 226) (as := [vr 10 0, vi l1, vi l3]) (L' := [vr 10 0, vi l1, vi l2, vi l3]) (rest := []) rfl (fun f r h' hf => callV_ok hf rfl rfl rfl) h ?_
        rintro _ _ ⟨x16, I17, J18, rfl, rfl, h⟩
        refine WP.blk (pc' := 71) (L' := [vr 10 0, vi l1, vi l2, vi l3]) (st' := [vi x16]) (h' := (101, I17, J18, R0 b)) 1 rfl ?_
        exact WP.ret rfl rfl h
    · refine WP.blk (pc' := 23) (L' := [vn, vn, vn, vn]) (st' := [vi 0]) (h' := (101, I5, J6, R0 b)) 1 rfl ?_
      exact WP.ret rfl rfl h
set_option maxRecDepth 20000 in
theorem t_X10_count {D : Nat} (l1 : Int32) (I : IM) (J : JM) (b : Bool) {Q : Option AV → AH → Prop} (h : (if l1 = 0 then Q (some (vi (I 10 0 1))) (101, I, J, R0 b) else (if l1 = 1 then Q (some (vi (I 10 0 20))) (101, I, J, R0 b) else (if l1 = 2 then Q (some (vi (I 10 0 13))) (101, I, J, R0 b) else (if l1 = 3 then Q (some (vi (I 10 0 72))) (101, I, J, R0 b) else (if l1 = 4 then Q (some (vi (I 10 0 74))) (101, I, J, R0 b) else Q (some (vi (-1))) (101, I, J, R0 b))))))) : Call (D + 1) 236 [vr 10 0, vi l1] (101, I, J, R0 b) Q := by
  refine Call.of rfl ?_
  show WP D 236 0 [vr 10 0, vi l1] [] (101, I, J, R0 b) Q
  refine WP.blk (pc' := 1) (L' := [vr 10 0, vi l1]) (st' := [vi l1]) (h' := (101, I, J, R0 b)) 1 rfl ?_
  refine WP.step (pc' := swf [(0, 36), (1, 41), (2, 46), (3, 51), (4, 56)] 61 l1) (L' := [vr 10 0, vi l1]) (st' := []) (h' := (101, I, J, R0 b)) rfl rfl ?_
  refine WP.ite (c := l1 = 0) (pc1 := 36) (pc2 := swf [(1, 41), (2, 46), (3, 51), (4, 56)] 61 l1) h (fun h => ?_) (fun h => ?_)
  · refine WP.blk (pc' := 40) (L' := [vr 10 0, vi l1]) (st' := [vi (I 10 0 1)]) (h' := (101, I, J, R0 b)) 2 rfl ?_
    exact WP.ret rfl rfl h
  · refine WP.ite (c := l1 = 1) (pc1 := 41) (pc2 := swf [(2, 46), (3, 51), (4, 56)] 61 l1) h (fun h => ?_) (fun h => ?_)
    · refine WP.blk (pc' := 45) (L' := [vr 10 0, vi l1]) (st' := [vi (I 10 0 20)]) (h' := (101, I, J, R0 b)) 2 rfl ?_
      exact WP.ret rfl rfl h
    · refine WP.ite (c := l1 = 2) (pc1 := 46) (pc2 := swf [(3, 51), (4, 56)] 61 l1) h (fun h => ?_) (fun h => ?_)
      · refine WP.blk (pc' := 50) (L' := [vr 10 0, vi l1]) (st' := [vi (I 10 0 13)]) (h' := (101, I, J, R0 b)) 2 rfl ?_
        exact WP.ret rfl rfl h
      · refine WP.ite (c := l1 = 3) (pc1 := 51) (pc2 := swf [(4, 56)] 61 l1) h (fun h => ?_) (fun h => ?_)
        · refine WP.blk (pc' := 55) (L' := [vr 10 0, vi l1]) (st' := [vi (I 10 0 72)]) (h' := (101, I, J, R0 b)) 2 rfl ?_
          exact WP.ret rfl rfl h
        · refine WP.ite (c := l1 = 4) (pc1 := 56) (pc2 := swf [] 61 l1) h (fun h => ?_) (fun h => ?_)
          · refine WP.blk (pc' := 60) (L' := [vr 10 0, vi l1]) (st' := [vi (I 10 0 74)]) (h' := (101, I, J, R0 b)) 2 rfl ?_
            exact WP.ret rfl rfl h
          · show WP D 236 61 [vr 10 0, vi l1] [] (101, I, J, R0 b) Q
            refine WP.blk (pc' := 62) (L' := [vr 10 0, vi l1]) (st' := [vi (-1)]) (h' := (101, I, J, R0 b)) 1 rfl ?_
            exact WP.ret rfl rfl h
set_option maxRecDepth 20000 in
theorem t_X10_isShelf {D : Nat} (l0 : Int32) (I : IM) (J : JM) (b : Bool) {Q : Option AV → AH → Prop} (h : (Call D 135 [vi l0, vi 0, vi 5] (101, I, J, R0 b) (RIf b fun x1 I2 J3 => (x1 &&& 1 = x1 ∧ Q (some (vi x1)) (101, I2, J3, R0 b))))) : Call (D + 1) 237 [vi l0] (101, I, J, R0 b) Q := by
  refine Call.of rfl ?_
  show WP D 237 0 [vi l0] [] (101, I, J, R0 b) Q
  refine WP.blk (pc' := 3) (L' := [vi l0]) (st' := [vi 5, vi 0, vi l0]) (h' := (101, I, J, R0 b)) 3 rfl ?_
  refine WP.cal (y' := 135) (as := [vi l0, vi 0, vi 5]) (L' := [vi l0]) (rest := []) rfl (fun f r h' hf => callS_ok hf rfl rfl rfl) h ?_
  rintro _ _ ⟨x1, I2, J3, rfl, rfl, h⟩
  exact WP.retg (b := decide (x1 &&& 1 = x1) || false) rfl (by rw [decide_eq_true h.1]; rfl) rfl h.2
set_option maxRecDepth 20000 in
theorem t_X10_keep {D : Nat} (l1 : Int32) (l2 : Int32) (I : IM) (J : JM) (b : Bool) {Q : Option AV → AH → Prop} (h : (Call D 237 [vi l1] (101, I, J, R0 b) (RIf b fun x1 I2 J3 => (if x1 = 0 then Q (some (vi (-1))) (101, I2, J3, R0 b) else (if l2 = (-1 : Int32) then (vp_in l1 6 ∧ Q (some (vi 1)) (101, (updI I2 81 0 l1.toNatClampNeg l2), J3, R0 b)) else (Call D 219 [vr 10 0, vi l2] (101, I2, J3, R0 b) (RIf b fun x4 I5 J6 => (if ¬ x4 = 0 then (vp_in l1 6 ∧ Q (some (vi 1)) (101, (updI I5 81 0 l1.toNatClampNeg l2), J6, R0 b)) else Q (some (vi (-1))) (101, I5, J6, R0 b))))))))) : Call (D + 1) 238 [vr 10 0, vi l1, vi l2] (101, I, J, R0 b) Q := by
  refine Call.of rfl ?_
  show WP D 238 0 [vr 10 0, vi l1, vi l2] [] (101, I, J, R0 b) Q
  refine WP.blk (pc' := 1) (L' := [vr 10 0, vi l1, vi l2]) (st' := [vi l1]) (h' := (101, I, J, R0 b)) 1 rfl ?_
  refine WP.cal (y' := 237) (as := [vi l1]) (L' := [vr 10 0, vi l1, vi l2]) (rest := []) rfl (fun f r h' hf => callS_ok hf rfl rfl rfl) h ?_
  rintro _ _ ⟨x1, I2, J3, rfl, rfl, h⟩
  refine WP.if_eq (t := 20) (L' := [vr 10 0, vi l1, vi l2]) rfl rfl rfl rfl h (fun h => ?_) (fun h => ?_)
  · refine WP.blk (pc' := 21) (L' := [vn, vn, vn]) (st' := [vi (-1)]) (h' := (101, I2, J3, R0 b)) 1 rfl ?_
    exact WP.ret rfl rfl h
  · refine WP.blk (pc' := 9) (L' := [vr 10 0, vi l1, vi l2]) (st' := [vi (-1), vi l2]) (h' := (101, I2, J3, R0 b)) 2 rfl ?_
    refine WP.icmp_eq (t := 22) (L' := [vr 10 0, vi l1, vi l2]) rfl rfl rfl rfl h (fun h => ?_) (fun h => ?_)
    · refine WP.blk (pc' := 28) (L' := [vr 10 0, vi l1, vi l2]) (st' := [vi l2, vi l1, vr 81 0]) (h' := (101, I2, J3, R0 b)) 4 rfl ?_
      refine WP.step (pc' := 29) (L' := [vr 10 0, vi l1, vi l2]) (st' := []) (h' := (101, (updI I2 81 0 l1.toNatClampNeg l2), J3, R0 b)) rfl (iastore_ok (n := 6) rfl rfl rfl (inA_of h.1)) ?_
      have h := And.right h
      refine WP.blk (pc' := 30) (L' := [vr 10 0, vi l1, vi l2]) (st' := [vi 1]) (h' := (101, (updI I2 81 0 l1.toNatClampNeg l2), J3, R0 b)) 1 rfl ?_
      exact WP.ret rfl rfl h
    · refine WP.blk (pc' := 14) (L' := [vr 10 0, vi l1, vi l2]) (st' := [vi l2, vr 10 0]) (h' := (101, I2, J3, R0 b)) 2 rfl ?_
      refine WP.cal (y' := 219) (as := [vr 10 0, vi l2]) (L' := [vr 10 0, vi l1, vi l2]) (rest := []) rfl (fun f r h' hf => callV_ok hf rfl rfl rfl) h ?_
      rintro _ _ ⟨x4, I5, J6, rfl, rfl, h⟩
      refine WP.if_ne (t := 22) (L' := [vr 10 0, vi l1, vi l2]) rfl rfl rfl rfl h (fun h => ?_) (fun h => ?_)
      · refine WP.blk (pc' := 28) (L' := [vr 10 0, vi l1, vi l2]) (st' := [vi l2, vi l1, vr 81 0]) (h' := (101, I5, J6, R0 b)) 4 rfl ?_
        refine WP.step (pc' := 29) (L' := [vr 10 0, vi l1, vi l2]) (st' := []) (h' := (101, (updI I5 81 0 l1.toNatClampNeg l2), J6, R0 b)) rfl (iastore_ok (n := 6) rfl rfl rfl (inA_of h.1)) ?_
        have h := And.right h
        refine WP.blk (pc' := 30) (L' := [vr 10 0, vi l1, vi l2]) (st' := [vi 1]) (h' := (101, (updI I5 81 0 l1.toNatClampNeg l2), J6, R0 b)) 1 rfl ?_
        exact WP.ret rfl rfl h
      · refine WP.blk (pc' := 21) (L' := [vn, vn, vn]) (st' := [vi (-1)]) (h' := (101, I5, J6, R0 b)) 1 rfl ?_
        exact WP.ret rfl rfl h
set_option maxRecDepth 20000 in
theorem t_X10_row {D : Nat} (l1 : Int32) (l2 : Int32) (l3 : Int32) (I : IM) (J : JM) (b : Bool) {Q : Option AV → AH → Prop} (h : (Call D 237 [vi l1] (101, I, J, R0 b) (RIf b fun x1 I2 J3 => (if x1 = 0 then Q (some (vi (-1))) (101, I2, J3, R0 b) else (Call D 135 [vi l2, vi 0, vi 4] (101, I2, J3, R0 b) (RIf b fun x4 I5 J6 => (if x4 = 0 then Q (some (vi (-1))) (101, I5, J6, R0 b) else (if l3 ≤ (60 : Int32) then (if 0 ≤ l3 then (vp_in l1 6 ∧ (vp_in l1 6 ∧ WP D 239 54 [vr 10 0, vi l1, vn, vn, vi ((60 : Int32) * l1)] [] (101, (updI (updI I5 81 0 l1.toNatClampNeg ((-2 : Int32) - l2)) 82 0 l1.toNatClampNeg l3), J6, R0 b) Q)) else Q (some (vi (-14))) (101, I5, J6, R0 b)) else Q (some (vi (-1))) (101, I5, J6, R0 b))))))))) : Call (D + 1) 239 [vr 10 0, vi l1, vi l2, vi l3] (101, I, J, R0 b) Q := by
  refine Call.of rfl ?_
  show WP D 239 0 [vr 10 0, vi l1, vi l2, vi l3, vn] [] (101, I, J, R0 b) Q
  refine WP.blk (pc' := 1) (L' := [vr 10 0, vi l1, vi l2, vi l3, vn]) (st' := [vi l1]) (h' := (101, I, J, R0 b)) 1 rfl ?_
  refine WP.cal (y' := 237) (as := [vi l1]) (L' := [vr 10 0, vi l1, vi l2, vi l3, vn]) (rest := []) rfl (fun f r h' hf => callS_ok hf rfl rfl rfl) h ?_
  rintro _ _ ⟨x1, I2, J3, rfl, rfl, h⟩
  refine WP.if_eq (t := 22) (L' := [vr 10 0, vi l1, vi l2, vi l3, vn]) rfl rfl rfl rfl h (fun h => ?_) (fun h => ?_)
  · refine WP.blk (pc' := 23) (L' := [vn, vn, vn, vn, vn]) (st' := [vi (-1)]) (h' := (101, I2, J3, R0 b)) 1 rfl ?_
    exact WP.ret rfl rfl h
  · refine WP.blk (pc' := 10) (L' := [vr 10 0, vi l1, vi l2, vi l3, vn]) (st' := [vi 4, vi 0, vi l2]) (h' := (101, I2, J3, R0 b)) 3 rfl ?_
    refine WP.cal (y' := 135) (as := [vi l2, vi 0, vi 4]) (L' := [vr 10 0, vi l1, vi l2, vi l3, vn]) (rest := []) rfl (fun f r h' hf => callS_ok hf rfl rfl rfl) h ?_
    rintro _ _ ⟨x4, I5, J6, rfl, rfl, h⟩
    refine WP.if_eq (t := 22) (L' := [vr 10 0, vi l1, vi l2, vi l3, vn]) rfl rfl rfl rfl h (fun h => ?_) (fun h => ?_)
    · refine WP.blk (pc' := 23) (L' := [vn, vn, vn, vn, vn]) (st' := [vi (-1)]) (h' := (101, I5, J6, R0 b)) 1 rfl ?_
      exact WP.ret rfl rfl h
    · refine WP.blk (pc' := 19) (L' := [vr 10 0, vi l1, vi l2, vi l3, vn]) (st' := [vi 60, vi l3]) (h' := (101, I5, J6, R0 b)) 2 rfl ?_
      refine WP.icmp_le (t := 24) (L' := [vr 10 0, vi l1, vi l2, vi l3, vn]) rfl rfl rfl rfl h (fun h => ?_) (fun h => ?_)
      · refine WP.blk (pc' := 25) (L' := [vr 10 0, vi l1, vi l2, vi l3, vn]) (st' := [vi l3]) (h' := (101, I5, J6, R0 b)) 1 rfl ?_
        refine WP.if_ge (t := 31) (L' := [vr 10 0, vi l1, vi l2, vi l3, vn]) rfl rfl rfl rfl h (fun h => ?_) (fun h => ?_)
        · refine WP.blk (pc' := 40) (L' := [vr 10 0, vi l1, vi l2, vi l3, vn]) (st' := [vi ((-2 : Int32) - l2), vi l1, vr 81 0]) (h' := (101, I5, J6, R0 b)) 6 rfl ?_
          refine WP.step (pc' := 41) (L' := [vr 10 0, vi l1, vi l2, vi l3, vn]) (st' := []) (h' := (101, (updI I5 81 0 l1.toNatClampNeg ((-2 : Int32) - l2)), J6, R0 b)) rfl (iastore_ok (n := 6) rfl rfl rfl (inA_of h.1)) ?_
          have h := And.right h
          refine WP.blk (pc' := 47) (L' := [vr 10 0, vi l1, vi l2, vi l3, vn]) (st' := [vi l3, vi l1, vr 82 0]) (h' := (101, (updI I5 81 0 l1.toNatClampNeg ((-2 : Int32) - l2)), J6, R0 b)) 4 rfl ?_
          refine WP.step (pc' := 48) (L' := [vr 10 0, vi l1, vi l2, vi l3, vn]) (st' := []) (h' := (101, (updI (updI I5 81 0 l1.toNatClampNeg ((-2 : Int32) - l2)) 82 0 l1.toNatClampNeg l3), J6, R0 b)) rfl (iastore_ok (n := 6) rfl rfl rfl (inA_of h.1)) ?_
          have h := And.right h
          refine WP.blk (pc' := 54) (L' := [vr 10 0, vi l1, vi l2, vi l3, vi ((60 : Int32) * l1)]) (st' := []) (h' := (101, (updI (updI I5 81 0 l1.toNatClampNeg ((-2 : Int32) - l2)) 82 0 l1.toNatClampNeg l3), J6, R0 b)) 4 rfl ?_
          exact WP.mask rfl rfl h
        · refine WP.blk (pc' := 30) (L' := [vr 10 0, vi l1, vi l2, vi l3, vn]) (st' := [vi (-14)]) (h' := (101, I5, J6, R0 b)) 1 rfl ?_
          exact WP.ret rfl rfl h
      · refine WP.blk (pc' := 23) (L' := [vn, vn, vn, vn, vn]) (st' := [vi (-1)]) (h' := (101, I5, J6, R0 b)) 1 rfl ?_
        exact WP.ret rfl rfl h
set_option maxRecDepth 20000 in
theorem t_X10_row_54 {D : Nat} (l1 : Int32) (l4 : Int32) (I : IM) (J : JM) (b : Bool) {Q : Option AV → AH → Prop} (h : (if (((60 : Int32) * l1) + (60 : Int32)) ≤ l4 then Q (some (vi 1)) (101, I, J, R0 b) else (vp_in l4 360 ∧ WP D 239 54 [vr 10 0, vi l1, vn, vn, vi (l4 + 1)] [] (101, I, (updJ J 83 0 l4.toNatClampNeg 0), R0 b) Q))) : WP D 239 54 [vr 10 0, vi l1, vn, vn, vi l4] [] (101, I, J, R0 b) Q := by
  refine WP.blk (pc' := 63) (L' := [vr 10 0, vi l1, vn, vn, vi l4]) (st' := [vi (((60 : Int32) * l1) + (60 : Int32)), vi l4]) (h' := (101, I, J, R0 b)) 6 rfl ?_
  refine WP.icmp_ge (t := 80) (L' := [vr 10 0, vi l1, vn, vn, vi l4]) rfl rfl rfl rfl h (fun h => ?_) (fun h => ?_)
  · refine WP.blk (pc' := 81) (L' := [vr 10 0, vi l1, vn, vn, vi l4]) (st' := [vi 1]) (h' := (101, I, J, R0 b)) 1 rfl ?_
    exact WP.ret rfl rfl h
  · refine WP.blk (pc' := 73) (L' := [vr 10 0, vi l1, vn, vn, vi l4]) (st' := [vl 0, vi l4, vr 83 0]) (h' := (101, I, J, R0 b)) 4 rfl ?_
    refine WP.step (pc' := 74) (L' := [vr 10 0, vi l1, vn, vn, vi l4]) (st' := []) (h' := (101, I, (updJ J 83 0 l4.toNatClampNeg 0), R0 b)) rfl (lastore_ok (n := 360) rfl rfl rfl (inA_of h.1)) ?_
    have h := And.right h
    refine WP.blk (pc' := 54) (L' := [vr 10 0, vi l1, vn, vn, vi (l4 + 1)]) (st' := []) (h' := (101, I, (updJ J 83 0 l4.toNatClampNeg 0), R0 b)) 2 rfl ?_
    exact WP.mask rfl rfl h
set_option maxRecDepth 20000 in
theorem t_X10_whyNoPlace {D : Nat} (l1 : Int32) (l2 : Int32) (I : IM) (J : JM) (b : Bool) {Q : Option AV → AH → Prop} (h : (Call D 237 [vi l1] (101, I, J, R0 b) (RIf b fun x1 I2 J3 => (if ¬ x1 = 0 then (vp_in l1 6 ∧ (if ¬ (I2 81 0 l1.toNatClampNeg) = (-1 : Int32) then (vp_in l1 6 ∧ (if (I2 81 0 l1.toNatClampNeg) < 0 then (vp_in l1 6 ∧ (Call D 135 [vi l2, vi 0, vi ((I2 82 0 l1.toNatClampNeg) - (1 : Int32))] (101, I2, J3, R0 b) (RIf b fun x4 I5 J6 => (if x4 = 0 then Q (some (vi (-13))) (101, I5, J6, R0 b) else Q (some (vi 0)) (101, I5, J6, R0 b))))) else Q (some (vi (-12))) (101, I2, J3, R0 b))) else Q (some (vi (-11))) (101, I2, J3, R0 b))) else Q (some (vi (-1))) (101, I2, J3, R0 b))))) : Call (D + 1) 240 [vr 10 0, vi l1, vi l2] (101, I, J, R0 b) Q := by
  refine Call.of rfl ?_
  show WP D 240 0 [vr 10 0, vi l1, vi l2] [] (101, I, J, R0 b) Q
  refine WP.blk (pc' := 1) (L' := [vr 10 0, vi l1, vi l2]) (st' := [vi l1]) (h' := (101, I, J, R0 b)) 1 rfl ?_
  refine WP.cal (y' := 237) (as := [vi l1]) (L' := [vr 10 0, vi l1, vi l2]) (rest := []) rfl (fun f r h' hf => callS_ok hf rfl rfl rfl) h ?_
  rintro _ _ ⟨x1, I2, J3, rfl, rfl, h⟩
  refine WP.if_ne (t := 9) (L' := [vr 10 0, vi l1, vi l2]) rfl rfl rfl rfl h (fun h => ?_) (fun h => ?_)
  · refine WP.blk (pc' := 14) (L' := [vr 10 0, vi l1, vi l2]) (st' := [vi l1, vr 81 0]) (h' := (101, I2, J3, R0 b)) 3 rfl ?_
    refine WP.step (pc' := 15) (L' := [vr 10 0, vi l1, vi l2]) (st' := [vi (I2 81 0 l1.toNatClampNeg)]) (h' := (101, I2, J3, R0 b)) rfl (iaload_ok (n := 6) rfl rfl rfl (inA_of h.1)) ?_
    have h := And.right h
    refine WP.blk (pc' := 16) (L' := [vr 10 0, vi l1, vi l2]) (st' := [vi (-1), vi (I2 81 0 l1.toNatClampNeg)]) (h' := (101, I2, J3, R0 b)) 1 rfl ?_
    refine WP.icmp_ne (t := 22) (L' := [vr 10 0, vi l1, vi l2]) rfl rfl rfl rfl h (fun h => ?_) (fun h => ?_)
    · refine WP.blk (pc' := 27) (L' := [vr 10 0, vi l1, vi l2]) (st' := [vi l1, vr 81 0]) (h' := (101, I2, J3, R0 b)) 3 rfl ?_
      refine WP.step (pc' := 28) (L' := [vr 10 0, vi l1, vi l2]) (st' := [vi (I2 81 0 l1.toNatClampNeg)]) (h' := (101, I2, J3, R0 b)) rfl (iaload_ok (n := 6) rfl rfl rfl (inA_of h.1)) ?_
      have h := And.right h
      refine WP.if_lt (t := 34) (L' := [vr 10 0, vi l1, vi l2]) rfl rfl rfl rfl h (fun h => ?_) (fun h => ?_)
      · refine WP.blk (pc' := 41) (L' := [vr 10 0, vi l1, vi l2]) (st' := [vi l1, vr 82 0, vi 0, vi l2]) (h' := (101, I2, J3, R0 b)) 5 rfl ?_
        refine WP.step (pc' := 42) (L' := [vr 10 0, vi l1, vi l2]) (st' := [vi (I2 82 0 l1.toNatClampNeg), vi 0, vi l2]) (h' := (101, I2, J3, R0 b)) rfl (iaload_ok (n := 6) rfl rfl rfl (inA_of h.1)) ?_
        have h := And.right h
        refine WP.blk (pc' := 44) (L' := [vr 10 0, vi l1, vi l2]) (st' := [vi ((I2 82 0 l1.toNatClampNeg) - (1 : Int32)), vi 0, vi l2]) (h' := (101, I2, J3, R0 b)) 2 rfl ?_
        refine WP.cal (y' := 135) (as := [vi l2, vi 0, vi ((I2 82 0 l1.toNatClampNeg) - (1 : Int32))]) (L' := [vr 10 0, vi l1, vi l2]) (rest := []) rfl (fun f r h' hf => callS_ok hf rfl rfl rfl) h ?_
        rintro _ _ ⟨x4, I5, J6, rfl, rfl, h⟩
        refine WP.if_eq (t := 54) (L' := [vr 10 0, vi l1, vi l2]) rfl rfl rfl rfl h (fun h => ?_) (fun h => ?_)
        · refine WP.blk (pc' := 56) (L' := [vr 10 0, vi l1, vi l2]) (st' := [vi (-13)]) (h' := (101, I5, J6, R0 b)) 1 rfl ?_
          exact WP.ret rfl rfl h
        · refine WP.blk (pc' := 56) (L' := [vr 10 0, vi l1, vi l2]) (st' := [vi 0]) (h' := (101, I5, J6, R0 b)) 2 rfl ?_
          exact WP.ret rfl rfl h
      · refine WP.blk (pc' := 33) (L' := [vr 10 0, vi l1, vi l2]) (st' := [vi (-12)]) (h' := (101, I2, J3, R0 b)) 1 rfl ?_
        exact WP.ret rfl rfl h
    · refine WP.blk (pc' := 21) (L' := [vr 10 0, vi l1, vi l2]) (st' := [vi (-11)]) (h' := (101, I2, J3, R0 b)) 1 rfl ?_
      exact WP.ret rfl rfl h
  · refine WP.blk (pc' := 8) (L' := [vr 10 0, vi l1, vi l2]) (st' := [vi (-1)]) (h' := (101, I2, J3, R0 b)) 1 rfl ?_
    exact WP.ret rfl rfl h
set_option maxRecDepth 20000 in
theorem t_X10_put {D : Nat} (l1 : Int32) (l2 : Int32) (l3 : Int64) (I : IM) (J : JM) (b : Bool) {Q : Option AV → AH → Prop} (h : (Call D 240 [vr 10 0, vi l1, vi l2] (101, I, J, R0 b) (RIf b fun x1 I2 J3 => (if 0 ≤ x1 then (vp_in l1 6 ∧ (∀ v4 : Int32, v4 = ((-2 : Int32) - (I2 81 0 l1.toNatClampNeg)) → (if ¬ v4 = 0 then (if ¬ v4 = (1 : Int32) then (if ¬ v4 = (2 : Int32) then (if ¬ v4 = (3 : Int32) then (if (lg_cmp l3 (0 : Int64)) = 0 then (vp_in (((60 : Int32) * l1) + l2) 360 ∧ Q (some (vi 1)) (101, I2, (updJ J3 83 0 (((60 : Int32) * l1) + l2).toNatClampNeg 0), R0 b)) else (vp_in (((60 : Int32) * l1) + l2) 360 ∧ Q (some (vi 1)) (101, I2, (updJ J3 83 0 (((60 : Int32) * l1) + l2).toNatClampNeg 1), R0 b))) else (vp_in (((60 : Int32) * l1) + l2) 360 ∧ Q (some (vi 1)) (101, I2, (updJ J3 83 0 (((60 : Int32) * l1) + l2).toNatClampNeg l3), R0 b))) else (vp_in (((60 : Int32) * l1) + l2) 360 ∧ Q (some (vi 1)) (101, I2, (updJ J3 83 0 (((60 : Int32) * l1) + l2).toNatClampNeg ((l3).toInt32).toInt64), R0 b))) else (vp_in (((60 : Int32) * l1) + l2) 360 ∧ Q (some (vi 1)) (101, I2, (updJ J3 83 0 (((60 : Int32) * l1) + l2).toNatClampNeg (((l3).toInt32).toInt16.toInt32).toInt64), R0 b))) else (vp_in (((60 : Int32) * l1) + l2) 360 ∧ Q (some (vi 1)) (101, I2, (updJ J3 83 0 (((60 : Int32) * l1) + l2).toNatClampNeg (((l3).toInt32).toInt8.toInt32).toInt64), R0 b))))) else Q (some (vi x1)) (101, I2, J3, R0 b))))) : Call (D + 1) 241 [vr 10 0, vi l1, vi l2, vl l3] (101, I, J, R0 b) Q := by
  refine Call.of rfl ?_
  show WP D 241 0 [vr 10 0, vi l1, vi l2, vl l3, vn, vn, vn] [] (101, I, J, R0 b) Q
  refine WP.blk (pc' := 3) (L' := [vr 10 0, vi l1, vi l2, vl l3, vn, vn, vn]) (st' := [vi l2, vi l1, vr 10 0]) (h' := (101, I, J, R0 b)) 3 rfl ?_
  refine WP.cal (y' := 240) (as := [vr 10 0, vi l1, vi l2]) (L' := [vr 10 0, vi l1, vi l2, vl l3, vn, vn, vn]) (rest := []) rfl (fun f r h' hf => callV_ok hf rfl rfl rfl) h ?_
  rintro _ _ ⟨x1, I2, J3, rfl, rfl, h⟩
  refine WP.blk (pc' := 10) (L' := [vr 10 0, vi l1, vi l2, vl l3, vn, vi x1, vn]) (st' := [vi x1]) (h' := (101, I2, J3, R0 b)) 2 rfl ?_
  refine WP.if_ge (t := 16) (L' := [vr 10 0, vi l1, vi l2, vl l3, vn, vi x1, vn]) rfl rfl rfl rfl h (fun h => ?_) (fun h => ?_)
  · refine WP.blk (pc' := 23) (L' := [vr 10 0, vi l1, vi l2, vl l3, vn, vi x1, vn]) (st' := [vi l1, vr 81 0, vi (-2)]) (h' := (101, I2, J3, R0 b)) 4 rfl ?_
    refine WP.step (pc' := 24) (L' := [vr 10 0, vi l1, vi l2, vl l3, vn, vi x1, vn]) (st' := [vi (I2 81 0 l1.toNatClampNeg), vi (-2)]) (h' := (101, I2, J3, R0 b)) rfl (iaload_ok (n := 6) rfl rfl rfl (inA_of h.1)) ?_
    have h := And.right h
    refine WP.blk (pc' := 25) (L' := [vr 10 0, vi l1, vi l2, vl l3, vn, vi x1, vn]) (st' := [vi ((-2 : Int32) - (I2 81 0 l1.toNatClampNeg))]) (h' := (101, I2, J3, R0 b)) 1 rfl ?_
    generalize hv : ((-2 : Int32) - (I2 81 0 l1.toNatClampNeg)) = v4
    replace h := h v4 hv.symm
    refine WP.blk (pc' := 39) (L' := [vr 10 0, vi l1, vi l2, vl l3, vn, vi x1, vi v4]) (st' := [vi v4, vi (((60 : Int32) * l1) + l2), vr 83 0]) (h' := (101, I2, J3, R0 b)) 9 rfl ?_
    refine WP.if_ne (t := 49) (L' := [vr 10 0, vi l1, vi l2, vl l3, vn, vi x1, vi v4]) rfl rfl rfl rfl h (fun h => ?_) (fun h => ?_)
    · refine WP.blk (pc' := 52) (L' := [vr 10 0, vi l1, vi l2, vl l3, vn, vi x1, vi v4]) (st' := [vi 1, vi v4, vi (((60 : Int32) * l1) + l2), vr 83 0]) (h' := (101, I2, J3, R0 b)) 2 rfl ?_
      refine WP.icmp_ne (t := 62) (L' := [vr 10 0, vi l1, vi l2, vl l3, vn, vi x1, vi v4]) rfl rfl rfl rfl h (fun h => ?_) (fun h => ?_)
      · refine WP.blk (pc' := 65) (L' := [vr 10 0, vi l1, vi l2, vl l3, vn, vi x1, vi v4]) (st' := [vi 2, vi v4, vi (((60 : Int32) * l1) + l2), vr 83 0]) (h' := (101, I2, J3, R0 b)) 2 rfl ?_
        refine WP.icmp_ne (t := 74) (L' := [vr 10 0, vi l1, vi l2, vl l3, vn, vi x1, vi v4]) rfl rfl rfl rfl h (fun h => ?_) (fun h => ?_)
        · refine WP.blk (pc' := 77) (L' := [vr 10 0, vi l1, vi l2, vl l3, vn, vi x1, vi v4]) (st' := [vi 3, vi v4, vi (((60 : Int32) * l1) + l2), vr 83 0]) (h' := (101, I2, J3, R0 b)) 2 rfl ?_
          refine WP.icmp_ne (t := 84) (L' := [vr 10 0, vi l1, vi l2, vl l3, vn, vi x1, vi v4]) rfl rfl rfl rfl h (fun h => ?_) (fun h => ?_)
          · refine WP.blk (pc' := 87) (L' := [vr 10 0, vi l1, vi l2, vl l3, vn, vi x1, vi v4]) (st' := [vi (lg_cmp l3 (0 : Int64)), vi (((60 : Int32) * l1) + l2), vr 83 0]) (h' := (101, I2, J3, R0 b)) 3 rfl ?_
            refine WP.if_eq (t := 94) (L' := [vr 10 0, vi l1, vi l2, vl l3, vn, vi x1, vi v4]) rfl rfl rfl rfl h (fun h => ?_) (fun h => ?_)
            · refine WP.blk (pc' := 95) (L' := [vr 10 0, vi l1, vi l2, vl l3, vn, vi x1, vi v4]) (st' := [vl 0, vi (((60 : Int32) * l1) + l2), vr 83 0]) (h' := (101, I2, J3, R0 b)) 1 rfl ?_
              refine WP.step (pc' := 96) (L' := [vn, vn, vn, vn, vn, vn, vn]) (st' := []) (h' := (101, I2, (updJ J3 83 0 (((60 : Int32) * l1) + l2).toNatClampNeg 0), R0 b)) rfl (lastore_ok (n := 360) rfl rfl rfl (inA_of h.1)) ?_
              have h := And.right h
              refine WP.blk (pc' := 97) (L' := [vn, vn, vn, vn, vn, vn, vn]) (st' := [vi 1]) (h' := (101, I2, (updJ J3 83 0 (((60 : Int32) * l1) + l2).toNatClampNeg 0), R0 b)) 1 rfl ?_
              exact WP.ret rfl rfl h
            · refine WP.blk (pc' := 95) (L' := [vr 10 0, vi l1, vi l2, vl l3, vn, vi x1, vi v4]) (st' := [vl 1, vi (((60 : Int32) * l1) + l2), vr 83 0]) (h' := (101, I2, J3, R0 b)) 2 rfl ?_
              refine WP.step (pc' := 96) (L' := [vn, vn, vn, vn, vn, vn, vn]) (st' := []) (h' := (101, I2, (updJ J3 83 0 (((60 : Int32) * l1) + l2).toNatClampNeg 1), R0 b)) rfl (lastore_ok (n := 360) rfl rfl rfl (inA_of h.1)) ?_
              have h := And.right h
              refine WP.blk (pc' := 97) (L' := [vn, vn, vn, vn, vn, vn, vn]) (st' := [vi 1]) (h' := (101, I2, (updJ J3 83 0 (((60 : Int32) * l1) + l2).toNatClampNeg 1), R0 b)) 1 rfl ?_
              exact WP.ret rfl rfl h
          · refine WP.blk (pc' := 95) (L' := [vr 10 0, vi l1, vi l2, vl l3, vn, vi x1, vi v4]) (st' := [vl l3, vi (((60 : Int32) * l1) + l2), vr 83 0]) (h' := (101, I2, J3, R0 b)) 2 rfl ?_
            refine WP.step (pc' := 96) (L' := [vn, vn, vn, vn, vn, vn, vn]) (st' := []) (h' := (101, I2, (updJ J3 83 0 (((60 : Int32) * l1) + l2).toNatClampNeg l3), R0 b)) rfl (lastore_ok (n := 360) rfl rfl rfl (inA_of h.1)) ?_
            have h := And.right h
            refine WP.blk (pc' := 97) (L' := [vn, vn, vn, vn, vn, vn, vn]) (st' := [vi 1]) (h' := (101, I2, (updJ J3 83 0 (((60 : Int32) * l1) + l2).toNatClampNeg l3), R0 b)) 1 rfl ?_
            exact WP.ret rfl rfl h
        · refine WP.blk (pc' := 95) (L' := [vr 10 0, vi l1, vi l2, vl l3, vn, vi x1, vi v4]) (st' := [vl ((l3).toInt32).toInt64, vi (((60 : Int32) * l1) + l2), vr 83 0]) (h' := (101, I2, J3, R0 b)) 4 rfl ?_
          refine WP.step (pc' := 96) (L' := [vn, vn, vn, vn, vn, vn, vn]) (st' := []) (h' := (101, I2, (updJ J3 83 0 (((60 : Int32) * l1) + l2).toNatClampNeg ((l3).toInt32).toInt64), R0 b)) rfl (lastore_ok (n := 360) rfl rfl rfl (inA_of h.1)) ?_
          have h := And.right h
          refine WP.blk (pc' := 97) (L' := [vn, vn, vn, vn, vn, vn, vn]) (st' := [vi 1]) (h' := (101, I2, (updJ J3 83 0 (((60 : Int32) * l1) + l2).toNatClampNeg ((l3).toInt32).toInt64), R0 b)) 1 rfl ?_
          exact WP.ret rfl rfl h
      · refine WP.blk (pc' := 95) (L' := [vr 10 0, vi l1, vi l2, vl l3, vn, vi x1, vi v4]) (st' := [vl (((l3).toInt32).toInt16.toInt32).toInt64, vi (((60 : Int32) * l1) + l2), vr 83 0]) (h' := (101, I2, J3, R0 b)) 5 rfl ?_
        refine WP.step (pc' := 96) (L' := [vn, vn, vn, vn, vn, vn, vn]) (st' := []) (h' := (101, I2, (updJ J3 83 0 (((60 : Int32) * l1) + l2).toNatClampNeg (((l3).toInt32).toInt16.toInt32).toInt64), R0 b)) rfl (lastore_ok (n := 360) rfl rfl rfl (inA_of h.1)) ?_
        have h := And.right h
        refine WP.blk (pc' := 97) (L' := [vn, vn, vn, vn, vn, vn, vn]) (st' := [vi 1]) (h' := (101, I2, (updJ J3 83 0 (((60 : Int32) * l1) + l2).toNatClampNeg (((l3).toInt32).toInt16.toInt32).toInt64), R0 b)) 1 rfl ?_
        exact WP.ret rfl rfl h
    · refine WP.blk (pc' := 95) (L' := [vr 10 0, vi l1, vi l2, vl l3, vn, vi x1, vi v4]) (st' := [vl (((l3).toInt32).toInt8.toInt32).toInt64, vi (((60 : Int32) * l1) + l2), vr 83 0]) (h' := (101, I2, J3, R0 b)) 5 rfl ?_
      refine WP.step (pc' := 96) (L' := [vn, vn, vn, vn, vn, vn, vn]) (st' := []) (h' := (101, I2, (updJ J3 83 0 (((60 : Int32) * l1) + l2).toNatClampNeg (((l3).toInt32).toInt8.toInt32).toInt64), R0 b)) rfl (lastore_ok (n := 360) rfl rfl rfl (inA_of h.1)) ?_
      have h := And.right h
      refine WP.blk (pc' := 97) (L' := [vn, vn, vn, vn, vn, vn, vn]) (st' := [vi 1]) (h' := (101, I2, (updJ J3 83 0 (((60 : Int32) * l1) + l2).toNatClampNeg (((l3).toInt32).toInt8.toInt32).toInt64), R0 b)) 1 rfl ?_
      exact WP.ret rfl rfl h
  · refine WP.blk (pc' := 15) (L' := [vr 10 0, vi l1, vi l2, vl l3, vn, vi x1, vn]) (st' := [vi x1]) (h' := (101, I2, J3, R0 b)) 1 rfl ?_
    exact WP.ret rfl rfl h
set_option maxRecDepth 20000 in
theorem t_X10_element {D : Nat} (l1 : Int32) (l2 : Int32) (I : IM) (J : JM) (b : Bool) {Q : Option AV → AH → Prop} (h : (Call D 240 [vr 10 0, vi l1, vi l2] (101, I, J, R0 b) (RIf b fun x1 I2 J3 => (if 0 ≤ x1 then (vp_in (((60 : Int32) * l1) + l2) 360 ∧ Q (some (vl (J3 83 0 (((60 : Int32) * l1) + l2).toNatClampNeg))) (101, I2, J3, R0 b)) else Q (some (vl (-9223372036854775808))) (101, I2, J3, R0 b))))) : Call (D + 1) 242 [vr 10 0, vi l1, vi l2] (101, I, J, R0 b) Q := by
  refine Call.of rfl ?_
  show WP D 242 0 [vr 10 0, vi l1, vi l2] [] (101, I, J, R0 b) Q
  refine WP.blk (pc' := 3) (L' := [vr 10 0, vi l1, vi l2]) (st' := [vi l2, vi l1, vr 10 0]) (h' := (101, I, J, R0 b)) 3 rfl ?_
  refine WP.cal (y' := 240) (as := [vr 10 0, vi l1, vi l2]) (L' := [vr 10 0, vi l1, vi l2]) (rest := []) rfl (fun f r h' hf => callV_ok hf rfl rfl rfl) h ?_
  rintro _ _ ⟨x1, I2, J3, rfl, rfl, h⟩
  refine WP.if_ge (t := 15) (L' := [vr 10 0, vi l1, vi l2]) rfl rfl rfl rfl h (fun h => ?_) (fun h => ?_)
  · refine WP.blk (pc' := 25) (L' := [vr 10 0, vi l1, vi l2]) (st' := [vi (((60 : Int32) * l1) + l2), vr 83 0]) (h' := (101, I2, J3, R0 b)) 7 rfl ?_
    refine WP.step (pc' := 26) (L' := [vr 10 0, vi l1, vi l2]) (st' := [vl (J3 83 0 (((60 : Int32) * l1) + l2).toNatClampNeg)]) (h' := (101, I2, J3, R0 b)) rfl (laload_ok (n := 360) rfl rfl rfl (inA_of h.1)) ?_
    have h := And.right h
    exact WP.ret rfl rfl h
  · refine WP.blk (pc' := 26) (L' := [vr 10 0, vi l1, vi l2]) (st' := [vl (-9223372036854775808)]) (h' := (101, I2, J3, R0 b)) 2 rfl ?_
    exact WP.ret rfl rfl h
set_option maxRecDepth 20000 in
theorem t_X10_shift {D : Nat} (l1 : Int32) (l2 : Int32) (l3 : Int32) (l4 : Int32) (l5 : Int32) (I : IM) (J : JM) (b : Bool) {Q : Option AV → AH → Prop} (h : (Call D 237 [vi l1] (101, I, J, R0 b) (RIf b fun x1 I2 J3 => (if x1 = 0 then Q (some (vi (-1))) (101, I2, J3, R0 b) else (Call D 237 [vi l3] (101, I2, J3, R0 b) (RIf b fun x4 I5 J6 => (if ¬ x4 = 0 then (vp_in l1 6 ∧ (if (I5 81 0 l1.toNatClampNeg) = (-1 : Int32) then Q (some (vi (-11))) (101, I5, J6, R0 b) else (vp_in l3 6 ∧ (if ¬ (I5 81 0 l3.toNatClampNeg) = (-1 : Int32) then (vp_in l1 6 ∧ (if 0 ≤ (I5 81 0 l1.toNatClampNeg) then Q (some (vi (-12))) (101, I5, J6, R0 b) else (vp_in l1 6 ∧ (vp_in l3 6 ∧ (if (I5 81 0 l1.toNatClampNeg) = (I5 81 0 l3.toNatClampNeg) then (if l5 < 0 then Q (some (vi (-13))) (101, I5, J6, R0 b) else (if l2 < 0 then Q (some (vi (-13))) (101, I5, J6, R0 b) else (if l4 < 0 then Q (some (vi (-13))) (101, I5, J6, R0 b) else (vp_in l1 6 ∧ (if ((I5 82 0 l1.toNatClampNeg) - l5) < l2 then Q (some (vi (-13))) (101, I5, J6, R0 b) else (vp_in l3 6 ∧ (if l4 ≤ ((I5 82 0 l3.toNatClampNeg) - l5) then WP D 243 113 [vr 10 0, vi l1, vi l2, vi l3, vi l4, vi l5, vi 0] [] (101, I5, J6, R0 b) Q else Q (some (vi (-13))) (101, I5, J6, R0 b)))))))) else Q (some (vi (-12))) (101, I5, J6, R0 b)))))) else Q (some (vi (-11))) (101, I5, J6, R0 b))))) else Q (some (vi (-1))) (101, I5, J6, R0 b)))))))) : Call (D + 1) 243 [vr 10 0, vi l1, vi l2, vi l3, vi l4, vi l5] (101, I, J, R0 b) Q := by
  refine Call.of rfl ?_
  show WP D 243 0 [vr 10 0, vi l1, vi l2, vi l3, vi l4, vi l5, vn] [] (101, I, J, R0 b) Q
  refine WP.blk (pc' := 1) (L' := [vr 10 0, vi l1, vi l2, vi l3, vi l4, vi l5, vn]) (st' := [vi l1]) (h' := (101, I, J, R0 b)) 1 rfl ?_
  refine WP.cal (y' := 237) (as := [vi l1]) (L' := [vr 10 0, vi l1, vi l2, vi l3, vi l4, vi l5, vn]) (rest := []) rfl (fun f r h' hf => callS_ok hf rfl rfl rfl) h ?_
  rintro _ _ ⟨x1, I2, J3, rfl, rfl, h⟩
  refine WP.if_eq (t := 14) (L' := [vr 10 0, vi l1, vi l2, vi l3, vi l4, vi l5, vn]) rfl rfl rfl rfl h (fun h => ?_) (fun h => ?_)
  · refine WP.blk (pc' := 15) (L' := [vn, vn, vn, vn, vn, vn, vn]) (st' := [vi (-1)]) (h' := (101, I2, J3, R0 b)) 1 rfl ?_
    exact WP.ret rfl rfl h
  · refine WP.blk (pc' := 8) (L' := [vr 10 0, vi l1, vi l2, vi l3, vi l4, vi l5, vn]) (st' := [vi l3]) (h' := (101, I2, J3, R0 b)) 1 rfl ?_
    refine WP.cal (y' := 237) (as := [vi l3]) (L' := [vr 10 0, vi l1, vi l2, vi l3, vi l4, vi l5, vn]) (rest := []) rfl (fun f r h' hf => callS_ok hf rfl rfl rfl) h ?_
    rintro _ _ ⟨x4, I5, J6, rfl, rfl, h⟩
    refine WP.if_ne (t := 16) (L' := [vr 10 0, vi l1, vi l2, vi l3, vi l4, vi l5, vn]) rfl rfl rfl rfl h (fun h => ?_) (fun h => ?_)
    · refine WP.blk (pc' := 21) (L' := [vr 10 0, vi l1, vi l2, vi l3, vi l4, vi l5, vn]) (st' := [vi l1, vr 81 0]) (h' := (101, I5, J6, R0 b)) 3 rfl ?_
      refine WP.step (pc' := 22) (L' := [vr 10 0, vi l1, vi l2, vi l3, vi l4, vi l5, vn]) (st' := [vi (I5 81 0 l1.toNatClampNeg)]) (h' := (101, I5, J6, R0 b)) rfl (iaload_ok (n := 6) rfl rfl rfl (inA_of h.1)) ?_
      have h := And.right h
      refine WP.blk (pc' := 23) (L' := [vr 10 0, vi l1, vi l2, vi l3, vi l4, vi l5, vn]) (st' := [vi (-1), vi (I5 81 0 l1.toNatClampNeg)]) (h' := (101, I5, J6, R0 b)) 1 rfl ?_
      refine WP.icmp_eq (t := 36) (L' := [vr 10 0, vi l1, vi l2, vi l3, vi l4, vi l5, vn]) rfl rfl rfl rfl h (fun h => ?_) (fun h => ?_)
      · refine WP.blk (pc' := 38) (L' := [vn, vn, vn, vn, vn, vn, vn]) (st' := [vi (-11)]) (h' := (101, I5, J6, R0 b)) 1 rfl ?_
        exact WP.ret rfl rfl h
      · refine WP.blk (pc' := 31) (L' := [vr 10 0, vi l1, vi l2, vi l3, vi l4, vi l5, vn]) (st' := [vi l3, vr 81 0]) (h' := (101, I5, J6, R0 b)) 3 rfl ?_
        refine WP.step (pc' := 32) (L' := [vr 10 0, vi l1, vi l2, vi l3, vi l4, vi l5, vn]) (st' := [vi (I5 81 0 l3.toNatClampNeg)]) (h' := (101, I5, J6, R0 b)) rfl (iaload_ok (n := 6) rfl rfl rfl (inA_of h.1)) ?_
        have h := And.right h
        refine WP.blk (pc' := 33) (L' := [vr 10 0, vi l1, vi l2, vi l3, vi l4, vi l5, vn]) (st' := [vi (-1), vi (I5 81 0 l3.toNatClampNeg)]) (h' := (101, I5, J6, R0 b)) 1 rfl ?_
        refine WP.icmp_ne (t := 39) (L' := [vr 10 0, vi l1, vi l2, vi l3, vi l4, vi l5, vn]) rfl rfl rfl rfl h (fun h => ?_) (fun h => ?_)
        · refine WP.blk (pc' := 44) (L' := [vr 10 0, vi l1, vi l2, vi l3, vi l4, vi l5, vn]) (st' := [vi l1, vr 81 0]) (h' := (101, I5, J6, R0 b)) 3 rfl ?_
          refine WP.step (pc' := 45) (L' := [vr 10 0, vi l1, vi l2, vi l3, vi l4, vi l5, vn]) (st' := [vi (I5 81 0 l1.toNatClampNeg)]) (h' := (101, I5, J6, R0 b)) rfl (iaload_ok (n := 6) rfl rfl rfl (inA_of h.1)) ?_
          have h := And.right h
          refine WP.if_ge (t := 63) (L' := [vr 10 0, vi l1, vi l2, vi l3, vi l4, vi l5, vn]) rfl rfl rfl rfl h (fun h => ?_) (fun h => ?_)
          · refine WP.blk (pc' := 65) (L' := [vn, vn, vn, vn, vn, vn, vn]) (st' := [vi (-12)]) (h' := (101, I5, J6, R0 b)) 1 rfl ?_
            exact WP.ret rfl rfl h
          · refine WP.blk (pc' := 53) (L' := [vr 10 0, vi l1, vi l2, vi l3, vi l4, vi l5, vn]) (st' := [vi l1, vr 81 0]) (h' := (101, I5, J6, R0 b)) 3 rfl ?_
            refine WP.step (pc' := 54) (L' := [vr 10 0, vi l1, vi l2, vi l3, vi l4, vi l5, vn]) (st' := [vi (I5 81 0 l1.toNatClampNeg)]) (h' := (101, I5, J6, R0 b)) rfl (iaload_ok (n := 6) rfl rfl rfl (inA_of h.1)) ?_
            have h := And.right h
            refine WP.blk (pc' := 59) (L' := [vr 10 0, vi l1, vi l2, vi l3, vi l4, vi l5, vn]) (st' := [vi l3, vr 81 0, vi (I5 81 0 l1.toNatClampNeg)]) (h' := (101, I5, J6, R0 b)) 3 rfl ?_
            refine WP.step (pc' := 60) (L' := [vr 10 0, vi l1, vi l2, vi l3, vi l4, vi l5, vn]) (st' := [vi (I5 81 0 l3.toNatClampNeg), vi (I5 81 0 l1.toNatClampNeg)]) (h' := (101, I5, J6, R0 b)) rfl (iaload_ok (n := 6) rfl rfl rfl (inA_of h.1)) ?_
            have h := And.right h
            refine WP.icmp_eq (t := 66) (L' := [vr 10 0, vi l1, vi l2, vi l3, vi l4, vi l5, vn]) rfl rfl rfl rfl h (fun h => ?_) (fun h => ?_)
            · refine WP.blk (pc' := 68) (L' := [vr 10 0, vi l1, vi l2, vi l3, vi l4, vi l5, vn]) (st' := [vi l5]) (h' := (101, I5, J6, R0 b)) 1 rfl ?_
              refine WP.if_lt (t := 107) (L' := [vr 10 0, vi l1, vi l2, vi l3, vi l4, vi l5, vn]) rfl rfl rfl rfl h (fun h => ?_) (fun h => ?_)
              · refine WP.blk (pc' := 109) (L' := [vn, vn, vn, vn, vn, vn, vn]) (st' := [vi (-13)]) (h' := (101, I5, J6, R0 b)) 1 rfl ?_
                exact WP.ret rfl rfl h
              · refine WP.blk (pc' := 72) (L' := [vr 10 0, vi l1, vi l2, vi l3, vi l4, vi l5, vn]) (st' := [vi l2]) (h' := (101, I5, J6, R0 b)) 1 rfl ?_
                refine WP.if_lt (t := 107) (L' := [vr 10 0, vi l1, vi l2, vi l3, vi l4, vi l5, vn]) rfl rfl rfl rfl h (fun h => ?_) (fun h => ?_)
                · refine WP.blk (pc' := 109) (L' := [vn, vn, vn, vn, vn, vn, vn]) (st' := [vi (-13)]) (h' := (101, I5, J6, R0 b)) 1 rfl ?_
                  exact WP.ret rfl rfl h
                · refine WP.blk (pc' := 77) (L' := [vr 10 0, vi l1, vi l2, vi l3, vi l4, vi l5, vn]) (st' := [vi l4]) (h' := (101, I5, J6, R0 b)) 1 rfl ?_
                  refine WP.if_lt (t := 107) (L' := [vr 10 0, vi l1, vi l2, vi l3, vi l4, vi l5, vn]) rfl rfl rfl rfl h (fun h => ?_) (fun h => ?_)
                  · refine WP.blk (pc' := 109) (L' := [vn, vn, vn, vn, vn, vn, vn]) (st' := [vi (-13)]) (h' := (101, I5, J6, R0 b)) 1 rfl ?_
                    exact WP.ret rfl rfl h
                  · refine WP.blk (pc' := 86) (L' := [vr 10 0, vi l1, vi l2, vi l3, vi l4, vi l5, vn]) (st' := [vi l1, vr 82 0, vi l2]) (h' := (101, I5, J6, R0 b)) 4 rfl ?_
                    refine WP.step (pc' := 87) (L' := [vr 10 0, vi l1, vi l2, vi l3, vi l4, vi l5, vn]) (st' := [vi (I5 82 0 l1.toNatClampNeg), vi l2]) (h' := (101, I5, J6, R0 b)) rfl (iaload_ok (n := 6) rfl rfl rfl (inA_of h.1)) ?_
                    have h := And.right h
                    refine WP.blk (pc' := 90) (L' := [vr 10 0, vi l1, vi l2, vi l3, vi l4, vi l5, vn]) (st' := [vi ((I5 82 0 l1.toNatClampNeg) - l5), vi l2]) (h' := (101, I5, J6, R0 b)) 2 rfl ?_
                    refine WP.icmp_gt (t := 107) (L' := [vr 10 0, vi l1, vi l2, vi l3, vi l4, vi l5, vn]) rfl rfl rfl rfl h (fun h => ?_) (fun h => ?_)
                    · refine WP.blk (pc' := 109) (L' := [vn, vn, vn, vn, vn, vn, vn]) (st' := [vi (-13)]) (h' := (101, I5, J6, R0 b)) 1 rfl ?_
                      exact WP.ret rfl rfl h
                    · refine WP.blk (pc' := 100) (L' := [vr 10 0, vi l1, vi l2, vi l3, vi l4, vi l5, vn]) (st' := [vi l3, vr 82 0, vi l4]) (h' := (101, I5, J6, R0 b)) 4 rfl ?_
                      refine WP.step (pc' := 101) (L' := [vr 10 0, vi l1, vi l2, vi l3, vi l4, vi l5, vn]) (st' := [vi (I5 82 0 l3.toNatClampNeg), vi l4]) (h' := (101, I5, J6, R0 b)) rfl (iaload_ok (n := 6) rfl rfl rfl (inA_of h.1)) ?_
                      have h := And.right h
                      refine WP.blk (pc' := 104) (L' := [vr 10 0, vi l1, vi l2, vi l3, vi l4, vi l5, vn]) (st' := [vi ((I5 82 0 l3.toNatClampNeg) - l5), vi l4]) (h' := (101, I5, J6, R0 b)) 2 rfl ?_
                      refine WP.icmp_le (t := 110) (L' := [vr 10 0, vi l1, vi l2, vi l3, vi l4, vi l5, vn]) rfl rfl rfl rfl h (fun h => ?_) (fun h => ?_)
                      · refine WP.blk (pc' := 113) (L' := [vr 10 0, vi l1, vi l2, vi l3, vi l4, vi l5, vi 0]) (st' := []) (h' := (101, I5, J6, R0 b)) 2 rfl ?_
                        exact WP.mask rfl rfl h
                      · refine WP.blk (pc' := 109) (L' := [vn, vn, vn, vn, vn, vn, vn]) (st' := [vi (-13)]) (h' := (101, I5, J6, R0 b)) 1 rfl ?_
                        exact WP.ret rfl rfl h
            · refine WP.blk (pc' := 65) (L' := [vn, vn, vn, vn, vn, vn, vn]) (st' := [vi (-12)]) (h' := (101, I5, J6, R0 b)) 1 rfl ?_
              exact WP.ret rfl rfl h
        · refine WP.blk (pc' := 38) (L' := [vn, vn, vn, vn, vn, vn, vn]) (st' := [vi (-11)]) (h' := (101, I5, J6, R0 b)) 1 rfl ?_
          exact WP.ret rfl rfl h
    · refine WP.blk (pc' := 15) (L' := [vn, vn, vn, vn, vn, vn, vn]) (st' := [vi (-1)]) (h' := (101, I5, J6, R0 b)) 1 rfl ?_
      exact WP.ret rfl rfl h
set_option maxRecDepth 20000 in
theorem t_X10_shift_113 {D : Nat} (l1 : Int32) (l2 : Int32) (l3 : Int32) (l4 : Int32) (l5 : Int32) (l6 : Int32) (I : IM) (J : JM) (b : Bool) {Q : Option AV → AH → Prop} (h : (if l5 ≤ l6 then WP D 243 150 [vr 10 0, vn, vn, vi l3, vi l4, vi l5, vi 0] [] (101, I, J, R0 b) Q else (vp_in ((((60 : Int32) * l1) + l2) + l6) 360 ∧ (vp_in l6 60 ∧ WP D 243 113 [vr 10 0, vi l1, vi l2, vi l3, vi l4, vi l5, vi (l6 + 1)] [] (101, I, (updJ J 84 0 l6.toNatClampNeg (J 83 0 ((((60 : Int32) * l1) + l2) + l6).toNatClampNeg)), R0 b) Q)))) : WP D 243 113 [vr 10 0, vi l1, vi l2, vi l3, vi l4, vi l5, vi l6] [] (101, I, J, R0 b) Q := by
  refine WP.blk (pc' := 117) (L' := [vr 10 0, vi l1, vi l2, vi l3, vi l4, vi l5, vi l6]) (st' := [vi l5, vi l6]) (h' := (101, I, J, R0 b)) 2 rfl ?_
  refine WP.icmp_ge (t := 147) (L' := [vr 10 0, vi l1, vi l2, vi l3, vi l4, vi l5, vi l6]) rfl rfl rfl rfl h (fun h => ?_) (fun h => ?_)
  · refine WP.blk (pc' := 150) (L' := [vr 10 0, vi l1, vi l2, vi l3, vi l4, vi l5, vi 0]) (st' := []) (h' := (101, I, J, R0 b)) 2 rfl ?_
    exact WP.mask rfl rfl h
  · refine WP.blk (pc' := 139) (L' := [vr 10 0, vi l1, vi l2, vi l3, vi l4, vi l5, vi l6]) (st' := [vi ((((60 : Int32) * l1) + l2) + l6), vr 83 0, vi l6, vr 84 0]) (h' := (101, I, J, R0 b)) 12 rfl ?_
    refine WP.step (pc' := 140) (L' := [vr 10 0, vi l1, vi l2, vi l3, vi l4, vi l5, vi l6]) (st' := [vl (J 83 0 ((((60 : Int32) * l1) + l2) + l6).toNatClampNeg), vi l6, vr 84 0]) (h' := (101, I, J, R0 b)) rfl (laload_ok (n := 360) rfl rfl rfl (inA_of h.1)) ?_
    have h := And.right h
    refine WP.step (pc' := 141) (L' := [vr 10 0, vi l1, vi l2, vi l3, vi l4, vi l5, vi l6]) (st' := []) (h' := (101, I, (updJ J 84 0 l6.toNatClampNeg (J 83 0 ((((60 : Int32) * l1) + l2) + l6).toNatClampNeg)), R0 b)) rfl (lastore_ok (n := 60) rfl rfl rfl (inA_of h.1)) ?_
    have h := And.right h
    refine WP.blk (pc' := 113) (L' := [vr 10 0, vi l1, vi l2, vi l3, vi l4, vi l5, vi (l6 + 1)]) (st' := []) (h' := (101, I, (updJ J 84 0 l6.toNatClampNeg (J 83 0 ((((60 : Int32) * l1) + l2) + l6).toNatClampNeg)), R0 b)) 2 rfl ?_
    exact WP.mask rfl rfl h
set_option maxRecDepth 20000 in
theorem t_X10_shift_150 {D : Nat} (l3 : Int32) (l4 : Int32) (l5 : Int32) (l6 : Int32) (I : IM) (J : JM) (b : Bool) {Q : Option AV → AH → Prop} (h : (if l5 ≤ l6 then Q (some (vi l5)) (101, I, J, R0 b) else (vp_in l6 60 ∧ (vp_in ((((60 : Int32) * l3) + l4) + l6) 360 ∧ WP D 243 150 [vr 10 0, vn, vn, vi l3, vi l4, vi l5, vi (l6 + 1)] [] (101, I, (updJ J 83 0 ((((60 : Int32) * l3) + l4) + l6).toNatClampNeg (J 84 0 l6.toNatClampNeg)), R0 b) Q)))) : WP D 243 150 [vr 10 0, vn, vn, vi l3, vi l4, vi l5, vi l6] [] (101, I, J, R0 b) Q := by
  refine WP.blk (pc' := 154) (L' := [vr 10 0, vn, vn, vi l3, vi l4, vi l5, vi l6]) (st' := [vi l5, vi l6]) (h' := (101, I, J, R0 b)) 2 rfl ?_
  refine WP.icmp_ge (t := 185) (L' := [vr 10 0, vn, vn, vi l3, vi l4, vi l5, vi l6]) rfl rfl rfl rfl h (fun h => ?_) (fun h => ?_)
  · refine WP.blk (pc' := 187) (L' := [vr 10 0, vn, vn, vi l3, vi l4, vi l5, vi l6]) (st' := [vi l5]) (h' := (101, I, J, R0 b)) 1 rfl ?_
    exact WP.ret rfl rfl h
  · refine WP.blk (pc' := 177) (L' := [vr 10 0, vn, vn, vi l3, vi l4, vi l5, vi l6]) (st' := [vi l6, vr 84 0, vi ((((60 : Int32) * l3) + l4) + l6), vr 83 0]) (h' := (101, I, J, R0 b)) 12 rfl ?_
    refine WP.step (pc' := 178) (L' := [vr 10 0, vn, vn, vi l3, vi l4, vi l5, vi l6]) (st' := [vl (J 84 0 l6.toNatClampNeg), vi ((((60 : Int32) * l3) + l4) + l6), vr 83 0]) (h' := (101, I, J, R0 b)) rfl (laload_ok (n := 60) rfl rfl rfl (inA_of h.1)) ?_
    have h := And.right h
    refine WP.step (pc' := 179) (L' := [vr 10 0, vn, vn, vi l3, vi l4, vi l5, vi l6]) (st' := []) (h' := (101, I, (updJ J 83 0 ((((60 : Int32) * l3) + l4) + l6).toNatClampNeg (J 84 0 l6.toNatClampNeg)), R0 b)) rfl (lastore_ok (n := 360) rfl rfl rfl (inA_of h.1)) ?_
    have h := And.right h
    refine WP.blk (pc' := 150) (L' := [vr 10 0, vn, vn, vi l3, vi l4, vi l5, vi (l6 + 1)]) (st' := []) (h' := (101, I, (updJ J 83 0 ((((60 : Int32) * l3) + l4) + l6).toNatClampNeg (J 84 0 l6.toNatClampNeg)), R0 b)) 2 rfl ?_
    exact WP.mask rfl rfl h
set_option maxRecDepth 20000 in
theorem t_X10_taken {D : Nat} (l1 : Int32) (l2 : Int32) (I : IM) (J : JM) (b : Bool) {Q : Option AV → AH → Prop} (h : (Call D 237 [vi l1] (101, I, J, R0 b) (RIf b fun x1 I2 J3 => (if x1 = 0 then Q (some (vi (-1))) (101, I2, J3, R0 b) else (Call D 135 [vi l2, vi 0, vi 7] (101, I2, J3, R0 b) (RIf b fun x4 I5 J6 => (if ¬ x4 = 0 then (vp_in l1 6 ∧ (if ¬ (I5 81 0 l1.toNatClampNeg) = (-1 : Int32) then (vp_in l1 6 ∧ (if (I5 81 0 l1.toNatClampNeg) < 0 then Q (some (vi (-12))) (101, I5, J6, R0 b) else (vp_in l1 6 ∧ (vp_in (I5 81 0 l1.toNatClampNeg) 50 ∧ (Call D 223 [vi (I5 79 0 (I5 81 0 l1.toNatClampNeg).toNatClampNeg), vi l2] (101, I5, J6, R0 b) (RIf b fun x7 I8 J9 => (if x7 = 0 then Q (some (vi (-12))) (101, I8, J9, R0 b) else (vp_in l1 6 ∧ (vp_in (I8 81 0 l1.toNatClampNeg) 50 ∧ Q (some (vi (I8 79 0 (I8 81 0 l1.toNatClampNeg).toNatClampNeg))) (101, I8, J9, R0 b)))))))))) else Q (some (vi (-11))) (101, I5, J6, R0 b))) else Q (some (vi (-1))) (101, I5, J6, R0 b)))))))) : Call (D + 1) 244 [vr 10 0, vi l1, vi l2] (101, I, J, R0 b) Q := by
  refine Call.of rfl ?_
  show WP D 244 0 [vr 10 0, vi l1, vi l2] [] (101, I, J, R0 b) Q
  refine WP.blk (pc' := 1) (L' := [vr 10 0, vi l1, vi l2]) (st' := [vi l1]) (h' := (101, I, J, R0 b)) 1 rfl ?_
  refine WP.cal (y' := 237) (as := [vi l1]) (L' := [vr 10 0, vi l1, vi l2]) (rest := []) rfl (fun f r h' hf => callS_ok hf rfl rfl rfl) h ?_
  rintro _ _ ⟨x1, I2, J3, rfl, rfl, h⟩
  refine WP.if_eq (t := 17) (L' := [vr 10 0, vi l1, vi l2]) rfl rfl rfl rfl h (fun h => ?_) (fun h => ?_)
  · refine WP.blk (pc' := 18) (L' := [vn, vn, vn]) (st' := [vi (-1)]) (h' := (101, I2, J3, R0 b)) 1 rfl ?_
    exact WP.ret rfl rfl h
  · refine WP.blk (pc' := 11) (L' := [vr 10 0, vi l1, vi l2]) (st' := [vi 7, vi 0, vi l2]) (h' := (101, I2, J3, R0 b)) 3 rfl ?_
    refine WP.cal (y' := 135) (as := [vi l2, vi 0, vi 7]) (L' := [vr 10 0, vi l1, vi l2]) (rest := []) rfl (fun f r h' hf => callS_ok hf rfl rfl rfl) h ?_
    rintro _ _ ⟨x4, I5, J6, rfl, rfl, h⟩
    refine WP.if_ne (t := 19) (L' := [vr 10 0, vi l1, vi l2]) rfl rfl rfl rfl h (fun h => ?_) (fun h => ?_)
    · refine WP.blk (pc' := 24) (L' := [vr 10 0, vi l1, vi l2]) (st' := [vi l1, vr 81 0]) (h' := (101, I5, J6, R0 b)) 3 rfl ?_
      refine WP.step (pc' := 25) (L' := [vr 10 0, vi l1, vi l2]) (st' := [vi (I5 81 0 l1.toNatClampNeg)]) (h' := (101, I5, J6, R0 b)) rfl (iaload_ok (n := 6) rfl rfl rfl (inA_of h.1)) ?_
      have h := And.right h
      refine WP.blk (pc' := 26) (L' := [vr 10 0, vi l1, vi l2]) (st' := [vi (-1), vi (I5 81 0 l1.toNatClampNeg)]) (h' := (101, I5, J6, R0 b)) 1 rfl ?_
      refine WP.icmp_ne (t := 32) (L' := [vr 10 0, vi l1, vi l2]) rfl rfl rfl rfl h (fun h => ?_) (fun h => ?_)
      · refine WP.blk (pc' := 37) (L' := [vr 10 0, vi l1, vi l2]) (st' := [vi l1, vr 81 0]) (h' := (101, I5, J6, R0 b)) 3 rfl ?_
        refine WP.step (pc' := 38) (L' := [vr 10 0, vi l1, vi l2]) (st' := [vi (I5 81 0 l1.toNatClampNeg)]) (h' := (101, I5, J6, R0 b)) rfl (iaload_ok (n := 6) rfl rfl rfl (inA_of h.1)) ?_
        have h := And.right h
        refine WP.if_lt (t := 73) (L' := [vr 10 0, vi l1, vi l2]) rfl rfl rfl rfl h (fun h => ?_) (fun h => ?_)
        · refine WP.blk (pc' := 75) (L' := [vn, vn, vn]) (st' := [vi (-12)]) (h' := (101, I5, J6, R0 b)) 1 rfl ?_
          exact WP.ret rfl rfl h
        · refine WP.blk (pc' := 50) (L' := [vr 10 0, vi l1, vi l2]) (st' := [vi l1, vr 81 0, vr 79 0]) (h' := (101, I5, J6, R0 b)) 5 rfl ?_
          refine WP.step (pc' := 51) (L' := [vr 10 0, vi l1, vi l2]) (st' := [vi (I5 81 0 l1.toNatClampNeg), vr 79 0]) (h' := (101, I5, J6, R0 b)) rfl (iaload_ok (n := 6) rfl rfl rfl (inA_of h.1)) ?_
          have h := And.right h
          refine WP.step (pc' := 52) (L' := [vr 10 0, vi l1, vi l2]) (st' := [vi (I5 79 0 (I5 81 0 l1.toNatClampNeg).toNatClampNeg)]) (h' := (101, I5, J6, R0 b)) rfl (iaload_ok (n := 50) rfl rfl rfl (inA_of h.1)) ?_
          have h := And.right h
          refine WP.blk (pc' := 53) (L' := [vr 10 0, vi l1, vi l2]) (st' := [vi l2, vi (I5 79 0 (I5 81 0 l1.toNatClampNeg).toNatClampNeg)]) (h' := (101, I5, J6, R0 b)) 1 rfl ?_
          refine WP.cal (y' := 223) (as := [vi (I5 79 0 (I5 81 0 l1.toNatClampNeg).toNatClampNeg), vi l2]) (L' := [vr 10 0, vi l1, vi l2]) (rest := []) rfl (fun f r h' hf => callS_ok hf rfl rfl rfl) h ?_
          rintro _ _ ⟨x7, I8, J9, rfl, rfl, h⟩
          refine WP.if_eq (t := 73) (L' := [vr 10 0, vi l1, vi l2]) rfl rfl rfl rfl h (fun h => ?_) (fun h => ?_)
          · refine WP.blk (pc' := 75) (L' := [vn, vn, vn]) (st' := [vi (-12)]) (h' := (101, I8, J9, R0 b)) 1 rfl ?_
            exact WP.ret rfl rfl h
          · refine WP.blk (pc' := 68) (L' := [vr 10 0, vi l1, vi l2]) (st' := [vi l1, vr 81 0, vr 79 0]) (h' := (101, I8, J9, R0 b)) 5 rfl ?_
            refine WP.step (pc' := 69) (L' := [vr 10 0, vi l1, vi l2]) (st' := [vi (I8 81 0 l1.toNatClampNeg), vr 79 0]) (h' := (101, I8, J9, R0 b)) rfl (iaload_ok (n := 6) rfl rfl rfl (inA_of h.1)) ?_
            have h := And.right h
            refine WP.step (pc' := 70) (L' := [vr 10 0, vi l1, vi l2]) (st' := [vi (I8 79 0 (I8 81 0 l1.toNatClampNeg).toNatClampNeg)]) (h' := (101, I8, J9, R0 b)) rfl (iaload_ok (n := 50) rfl rfl rfl (inA_of h.1)) ?_
            have h := And.right h
            refine WP.blk (pc' := 75) (L' := [vr 10 0, vi l1, vi l2]) (st' := [vi (I8 79 0 (I8 81 0 l1.toNatClampNeg).toNatClampNeg)]) (h' := (101, I8, J9, R0 b)) 1 rfl ?_
            exact WP.ret rfl rfl h
      · refine WP.blk (pc' := 31) (L' := [vr 10 0, vi l1, vi l2]) (st' := [vi (-11)]) (h' := (101, I5, J6, R0 b)) 1 rfl ?_
        exact WP.ret rfl rfl h
    · refine WP.blk (pc' := 18) (L' := [vn, vn, vn]) (st' := [vi (-1)]) (h' := (101, I5, J6, R0 b)) 1 rfl ?_
      exact WP.ret rfl rfl h
