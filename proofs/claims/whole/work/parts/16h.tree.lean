/-! TREES, by program (wip/whole/gen16.py): what each method does between its cuts -/
set_option maxRecDepth 20000 in
theorem t_X10_beginGlue {D : Nat}  (I : IM) (J : JM) (b : Bool) {Q : Option AV → AH → Prop} (h : (Call D 172 [vr 10 0] (101, (updI (updI (updI I 10 0 36 0) 10 0 37 0) 10 0 43 0), J, R0 b) (RVf b fun I2 J3 => Q none (101, I2, J3, R0 b)))) : Call (D + 1) 171 [vr 10 0] (101, I, J, R0 b) Q := by
  refine Call.of rfl ?_
  show WP D 171 0 [vr 10 0] [] (101, I, J, R0 b) Q
  refine WP.blk (pc' := 16) (L' := [vr 10 0]) (st' := [vr 10 0]) (h' := (101, (updI (updI (updI I 10 0 36 0) 10 0 37 0) 10 0 43 0), J, R0 b)) 10 rfl ?_
  refine WP.cal (y' := 172) (as := [vr 10 0]) (L' := [vr 10 0]) (rest := []) rfl (fun f r h' hf => callV_ok hf rfl rfl rfl) h ?_
  rintro _ _ ⟨I2, J3, rfl, rfl, h⟩
  exact WP.ret rfl rfl h
set_option maxRecDepth 20000 in
theorem t_X10_beginChair {D : Nat}  (I : IM) (J : JM) (b : Bool) {Q : Option AV → AH → Prop} (h : Q none (101, (updI I 10 0 38 0), J, R0 b)) : Call (D + 1) 172 [vr 10 0] (101, I, J, R0 b) Q := by
  refine Call.of rfl ?_
  show WP D 172 0 [vr 10 0] [] (101, I, J, R0 b) Q
  refine WP.blk (pc' := 5) (L' := [vr 10 0]) (st' := []) (h' := (101, (updI I 10 0 38 0), J, R0 b)) 3 rfl ?_
  exact WP.ret rfl rfl h
set_option maxRecDepth 20000 in
theorem t_X10_allHands {D : Nat}  (I : IM) (J : JM) (b : Bool) {Q : Option AV → AH → Prop} (h : Q (some (vi ((2 : Int32) + ((2 : Int32) * (I 10 0 8))))) (101, I, J, R0 b)) : Call (D + 1) 173 [vr 10 0] (101, I, J, R0 b) Q := by
  refine Call.of rfl ?_
  show WP D 173 0 [vr 10 0] [] (101, I, J, R0 b) Q
  refine WP.blk (pc' := 8) (L' := [vr 10 0]) (st' := [vi ((2 : Int32) + ((2 : Int32) * (I 10 0 8)))]) (h' := (101, I, J, R0 b)) 6 rfl ?_
  exact WP.ret rfl rfl h
set_option maxRecDepth 20000 in
theorem t_X10_freeHands {D : Nat} (l1 : Int32) (I : IM) (J : JM) (b : Bool) {Q : Option AV → AH → Prop} (h : (Call D 173 [vr 10 0] (101, I, J, R0 b) (RIf b fun x1 I2 J3 => WP D 174 7 [vr 10 0, vi l1, vi x1, vi 0] [] (101, I2, J3, R0 b) Q))) : Call (D + 1) 174 [vr 10 0, vi l1] (101, I, J, R0 b) Q := by
  refine Call.of rfl ?_
  show WP D 174 0 [vr 10 0, vi l1, vn, vn] [] (101, I, J, R0 b) Q
  refine WP.blk (pc' := 1) (L' := [vr 10 0, vi l1, vn, vn]) (st' := [vr 10 0]) (h' := (101, I, J, R0 b)) 1 rfl ?_
  refine WP.cal (y' := 173) (as := [vr 10 0]) (L' := [vr 10 0, vi l1, vn, vn]) (rest := []) rfl (fun f r h' hf => callV_ok hf rfl rfl rfl) h ?_
  rintro _ _ ⟨x1, I2, J3, rfl, rfl, h⟩
  refine WP.blk (pc' := 7) (L' := [vr 10 0, vi l1, vi x1, vi 0]) (st' := []) (h' := (101, I2, J3, R0 b)) 3 rfl ?_
  exact WP.mask rfl rfl h
set_option maxRecDepth 20000 in
theorem t_X10_freeHands_7 {D : Nat} (l1 : Int32) (l2 : Int32) (l3 : Int32) (I : IM) (J : JM) (b : Bool) {Q : Option AV → AH → Prop} (h : (if (I 10 0 36) ≤ l3 then Q (some (vi l2)) (101, I, J, R0 b) else (vp_in l3 42 ∧ (if (I 61 0 l3.toNatClampNeg) ≤ l1 then WP D 174 7 [vr 10 0, vi l1, vi l2, vi (l3 + 1)] [] (101, I, J, R0 b) Q else (vp_in l3 42 ∧ WP D 174 7 [vr 10 0, vi l1, vi (l2 - (I 62 0 l3.toNatClampNeg)), vi (l3 + 1)] [] (101, I, J, R0 b) Q))))) : WP D 174 7 [vr 10 0, vi l1, vi l2, vi l3] [] (101, I, J, R0 b) Q := by
  refine WP.blk (pc' := 12) (L' := [vr 10 0, vi l1, vi l2, vi l3]) (st' := [vi (I 10 0 36), vi l3]) (h' := (101, I, J, R0 b)) 3 rfl ?_
  refine WP.icmp_ge (t := 40) (L' := [vr 10 0, vi l1, vi l2, vi l3]) rfl rfl rfl rfl h (fun h => ?_) (fun h => ?_)
  · refine WP.blk (pc' := 41) (L' := [vr 10 0, vi l1, vi l2, vi l3]) (st' := [vi l2]) (h' := (101, I, J, R0 b)) 1 rfl ?_
    exact WP.ret rfl rfl h
  · refine WP.blk (pc' := 20) (L' := [vr 10 0, vi l1, vi l2, vi l3]) (st' := [vi l3, vr 61 0]) (h' := (101, I, J, R0 b)) 3 rfl ?_
    refine WP.step (pc' := 21) (L' := [vr 10 0, vi l1, vi l2, vi l3]) (st' := [vi (I 61 0 l3.toNatClampNeg)]) (h' := (101, I, J, R0 b)) rfl (iaload_ok (n := 42) rfl rfl rfl (inA_of h.1)) ?_
    have h := And.right h
    refine WP.blk (pc' := 22) (L' := [vr 10 0, vi l1, vi l2, vi l3]) (st' := [vi l1, vi (I 61 0 l3.toNatClampNeg)]) (h' := (101, I, J, R0 b)) 1 rfl ?_
    refine WP.icmp_le (t := 34) (L' := [vr 10 0, vi l1, vi l2, vi l3]) rfl rfl rfl rfl h (fun h => ?_) (fun h => ?_)
    · refine WP.blk (pc' := 7) (L' := [vr 10 0, vi l1, vi l2, vi (l3 + 1)]) (st' := []) (h' := (101, I, J, R0 b)) 2 rfl ?_
      exact WP.mask rfl rfl h
    · refine WP.blk (pc' := 31) (L' := [vr 10 0, vi l1, vi l2, vi l3]) (st' := [vi l3, vr 62 0, vi l2]) (h' := (101, I, J, R0 b)) 4 rfl ?_
      refine WP.step (pc' := 32) (L' := [vr 10 0, vi l1, vi l2, vi l3]) (st' := [vi (I 62 0 l3.toNatClampNeg), vi l2]) (h' := (101, I, J, R0 b)) rfl (iaload_ok (n := 42) rfl rfl rfl (inA_of h.1)) ?_
      have h := And.right h
      refine WP.blk (pc' := 7) (L' := [vr 10 0, vi l1, vi (l2 - (I 62 0 l3.toNatClampNeg)), vi (l3 + 1)]) (st' := []) (h' := (101, I, J, R0 b)) 4 rfl ?_
      exact WP.mask rfl rfl h
set_option maxRecDepth 20000 in
theorem t_X10_usedClamps {D : Nat} (l1 : Int32) (I : IM) (J : JM) (b : Bool) {Q : Option AV → AH → Prop} (h : WP D 175 4 [vr 10 0, vi l1, vi 0, vi 0] [] (101, I, J, R0 b) Q) : Call (D + 1) 175 [vr 10 0, vi l1] (101, I, J, R0 b) Q := by
  refine Call.of rfl ?_
  show WP D 175 0 [vr 10 0, vi l1, vn, vn] [] (101, I, J, R0 b) Q
  refine WP.blk (pc' := 4) (L' := [vr 10 0, vi l1, vi 0, vi 0]) (st' := []) (h' := (101, I, J, R0 b)) 4 rfl ?_
  exact WP.mask rfl rfl h
set_option maxRecDepth 20000 in
theorem t_X10_usedClamps_4 {D : Nat} (l1 : Int32) (l2 : Int32) (l3 : Int32) (I : IM) (J : JM) (b : Bool) {Q : Option AV → AH → Prop} (h : (if (I 10 0 36) ≤ l3 then Q (some (vi l2)) (101, I, J, R0 b) else (vp_in l3 42 ∧ (if (I 61 0 l3.toNatClampNeg) ≤ l1 then WP D 175 4 [vr 10 0, vi l1, vi l2, vi (l3 + 1)] [] (101, I, J, R0 b) Q else (vp_in l3 42 ∧ WP D 175 4 [vr 10 0, vi l1, vi (l2 + (I 63 0 l3.toNatClampNeg)), vi (l3 + 1)] [] (101, I, J, R0 b) Q))))) : WP D 175 4 [vr 10 0, vi l1, vi l2, vi l3] [] (101, I, J, R0 b) Q := by
  refine WP.blk (pc' := 9) (L' := [vr 10 0, vi l1, vi l2, vi l3]) (st' := [vi (I 10 0 36), vi l3]) (h' := (101, I, J, R0 b)) 3 rfl ?_
  refine WP.icmp_ge (t := 37) (L' := [vr 10 0, vi l1, vi l2, vi l3]) rfl rfl rfl rfl h (fun h => ?_) (fun h => ?_)
  · refine WP.blk (pc' := 38) (L' := [vr 10 0, vi l1, vi l2, vi l3]) (st' := [vi l2]) (h' := (101, I, J, R0 b)) 1 rfl ?_
    exact WP.ret rfl rfl h
  · refine WP.blk (pc' := 17) (L' := [vr 10 0, vi l1, vi l2, vi l3]) (st' := [vi l3, vr 61 0]) (h' := (101, I, J, R0 b)) 3 rfl ?_
    refine WP.step (pc' := 18) (L' := [vr 10 0, vi l1, vi l2, vi l3]) (st' := [vi (I 61 0 l3.toNatClampNeg)]) (h' := (101, I, J, R0 b)) rfl (iaload_ok (n := 42) rfl rfl rfl (inA_of h.1)) ?_
    have h := And.right h
    refine WP.blk (pc' := 19) (L' := [vr 10 0, vi l1, vi l2, vi l3]) (st' := [vi l1, vi (I 61 0 l3.toNatClampNeg)]) (h' := (101, I, J, R0 b)) 1 rfl ?_
    refine WP.icmp_le (t := 31) (L' := [vr 10 0, vi l1, vi l2, vi l3]) rfl rfl rfl rfl h (fun h => ?_) (fun h => ?_)
    · refine WP.blk (pc' := 4) (L' := [vr 10 0, vi l1, vi l2, vi (l3 + 1)]) (st' := []) (h' := (101, I, J, R0 b)) 2 rfl ?_
      exact WP.mask rfl rfl h
    · refine WP.blk (pc' := 28) (L' := [vr 10 0, vi l1, vi l2, vi l3]) (st' := [vi l3, vr 63 0, vi l2]) (h' := (101, I, J, R0 b)) 4 rfl ?_
      refine WP.step (pc' := 29) (L' := [vr 10 0, vi l1, vi l2, vi l3]) (st' := [vi (I 63 0 l3.toNatClampNeg), vi l2]) (h' := (101, I, J, R0 b)) rfl (iaload_ok (n := 42) rfl rfl rfl (inA_of h.1)) ?_
      have h := And.right h
      refine WP.blk (pc' := 4) (L' := [vr 10 0, vi l1, vi (l2 + (I 63 0 l3.toNatClampNeg)), vi (l3 + 1)]) (st' := []) (h' := (101, I, J, R0 b)) 4 rfl ?_
      exact WP.mask rfl rfl h
set_option maxRecDepth 20000 in
theorem t_X10_hasSprung {D : Nat} (l1 : Int32) (l2 : Int32) (I : IM) (J : JM) (b : Bool) {Q : Option AV → AH → Prop} (h : WP D 176 2 [vr 10 0, vi l1, vi l2, vi 0] [] (101, I, J, R0 b) Q) : Call (D + 1) 176 [vr 10 0, vi l1, vi l2] (101, I, J, R0 b) Q := by
  refine Call.of rfl ?_
  show WP D 176 0 [vr 10 0, vi l1, vi l2, vn] [] (101, I, J, R0 b) Q
  refine WP.blk (pc' := 2) (L' := [vr 10 0, vi l1, vi l2, vi 0]) (st' := []) (h' := (101, I, J, R0 b)) 2 rfl ?_
  exact WP.mask rfl rfl h
set_option maxRecDepth 20000 in
theorem t_X10_hasSprung_2 {D : Nat} (l1 : Int32) (l2 : Int32) (l3 : Int32) (I : IM) (J : JM) (b : Bool) {Q : Option AV → AH → Prop} (h : (if (I 10 0 1) ≤ l3 then Q (some (vi 0)) (101, I, J, R0 b) else (vp_in l1 7 ∧ (if ¬ (((I 48 0 l1.toNatClampNeg) >>> (l3 &&& 31)) &&& (1 : Int32)) = (1 : Int32) then WP D 176 2 [vr 10 0, vi l1, vi l2, vi (l3 + 1)] [] (101, I, J, R0 b) Q else (if ¬ (((I 10 0 38) >>> (l3 &&& 31)) &&& (1 : Int32)) = (1 : Int32) then WP D 176 2 [vr 10 0, vi l1, vi l2, vi (l3 + 1)] [] (101, I, J, R0 b) Q else (vp_in l3 7 ∧ (if l2 < (I 66 0 l3.toNatClampNeg) then WP D 176 2 [vr 10 0, vi l1, vi l2, vi (l3 + 1)] [] (101, I, J, R0 b) Q else Q (some (vi 1)) (101, I, J, R0 b)))))))) : WP D 176 2 [vr 10 0, vi l1, vi l2, vi l3] [] (101, I, J, R0 b) Q := by
  refine WP.blk (pc' := 7) (L' := [vr 10 0, vi l1, vi l2, vi l3]) (st' := [vi (I 10 0 1), vi l3]) (h' := (101, I, J, R0 b)) 3 rfl ?_
  refine WP.icmp_ge (t := 54) (L' := [vr 10 0, vi l1, vi l2, vi l3]) rfl rfl rfl rfl h (fun h => ?_) (fun h => ?_)
  · refine WP.blk (pc' := 55) (L' := [vr 10 0, vi l1, vi l2, vi l3]) (st' := [vi 0]) (h' := (101, I, J, R0 b)) 1 rfl ?_
    exact WP.ret rfl rfl h
  · refine WP.blk (pc' := 15) (L' := [vr 10 0, vi l1, vi l2, vi l3]) (st' := [vi l1, vr 48 0]) (h' := (101, I, J, R0 b)) 3 rfl ?_
    refine WP.step (pc' := 16) (L' := [vr 10 0, vi l1, vi l2, vi l3]) (st' := [vi (I 48 0 l1.toNatClampNeg)]) (h' := (101, I, J, R0 b)) rfl (iaload_ok (n := 7) rfl rfl rfl (inA_of h.1)) ?_
    have h := And.right h
    refine WP.blk (pc' := 21) (L' := [vr 10 0, vi l1, vi l2, vi l3]) (st' := [vi 1, vi (((I 48 0 l1.toNatClampNeg) >>> (l3 &&& 31)) &&& (1 : Int32))]) (h' := (101, I, J, R0 b)) 5 rfl ?_
    refine WP.icmp_ne (t := 48) (L' := [vr 10 0, vi l1, vi l2, vi l3]) rfl rfl rfl rfl h (fun h => ?_) (fun h => ?_)
    · refine WP.blk (pc' := 2) (L' := [vr 10 0, vi l1, vi l2, vi (l3 + 1)]) (st' := []) (h' := (101, I, J, R0 b)) 2 rfl ?_
      exact WP.mask rfl rfl h
    · refine WP.blk (pc' := 33) (L' := [vr 10 0, vi l1, vi l2, vi l3]) (st' := [vi 1, vi (((I 10 0 38) >>> (l3 &&& 31)) &&& (1 : Int32))]) (h' := (101, I, J, R0 b)) 7 rfl ?_
      refine WP.icmp_ne (t := 48) (L' := [vr 10 0, vi l1, vi l2, vi l3]) rfl rfl rfl rfl h (fun h => ?_) (fun h => ?_)
      · refine WP.blk (pc' := 2) (L' := [vr 10 0, vi l1, vi l2, vi (l3 + 1)]) (st' := []) (h' := (101, I, J, R0 b)) 2 rfl ?_
        exact WP.mask rfl rfl h
      · refine WP.blk (pc' := 41) (L' := [vr 10 0, vi l1, vi l2, vi l3]) (st' := [vi l3, vr 66 0]) (h' := (101, I, J, R0 b)) 3 rfl ?_
        refine WP.step (pc' := 42) (L' := [vr 10 0, vi l1, vi l2, vi l3]) (st' := [vi (I 66 0 l3.toNatClampNeg)]) (h' := (101, I, J, R0 b)) rfl (iaload_ok (n := 7) rfl rfl rfl (inA_of h.1)) ?_
        have h := And.right h
        refine WP.blk (pc' := 43) (L' := [vr 10 0, vi l1, vi l2, vi l3]) (st' := [vi l2, vi (I 66 0 l3.toNatClampNeg)]) (h' := (101, I, J, R0 b)) 1 rfl ?_
        refine WP.icmp_gt (t := 48) (L' := [vr 10 0, vi l1, vi l2, vi l3]) rfl rfl rfl rfl h (fun h => ?_) (fun h => ?_)
        · refine WP.blk (pc' := 2) (L' := [vr 10 0, vi l1, vi l2, vi (l3 + 1)]) (st' := []) (h' := (101, I, J, R0 b)) 2 rfl ?_
          exact WP.mask rfl rfl h
        · refine WP.blk (pc' := 47) (L' := [vr 10 0, vi l1, vi l2, vi l3]) (st' := [vi 1]) (h' := (101, I, J, R0 b)) 1 rfl ?_
          exact WP.ret rfl rfl h
set_option maxRecDepth 20000 in
theorem t_X10_beginOf {D : Nat} (l1 : Int32) (I : IM) (J : JM) (b : Bool) {Q : Option AV → AH → Prop} (h : (vp_in l1 7 ∧ (if ¬ ((I 47 0 l1.toNatClampNeg) &&& ((I 10 0 38) ^^^ (-1 : Int32))) = 0 then Q (some (vi (-1))) (101, I, J, R0 b) else (vp_in l1 7 ∧ (Call D 173 [vr 10 0] (101, I, J, R0 b) (RIf b fun x1 I2 J3 => (if (I 44 0 l1.toNatClampNeg) ≤ x1 then WP D 177 36 [vr 10 0, vi l1, vi (I2 10 0 37)] [] (101, I2, J3, R0 b) Q else Q (some (vi (-1))) (101, I2, J3, R0 b)))))))) : Call (D + 1) 177 [vr 10 0, vi l1] (101, I, J, R0 b) Q := by
  refine Call.of rfl ?_
  show WP D 177 0 [vr 10 0, vi l1, vn] [] (101, I, J, R0 b) Q
  refine WP.blk (pc' := 5) (L' := [vr 10 0, vi l1, vn]) (st' := [vi l1, vr 47 0]) (h' := (101, I, J, R0 b)) 3 rfl ?_
  refine WP.step (pc' := 6) (L' := [vr 10 0, vi l1, vn]) (st' := [vi (I 47 0 l1.toNatClampNeg)]) (h' := (101, I, J, R0 b)) rfl (iaload_ok (n := 7) rfl rfl rfl (inA_of h.1)) ?_
  have h := And.right h
  refine WP.blk (pc' := 13) (L' := [vr 10 0, vi l1, vn]) (st' := [vi ((I 47 0 l1.toNatClampNeg) &&& ((I 10 0 38) ^^^ (-1 : Int32)))]) (h' := (101, I, J, R0 b)) 5 rfl ?_
  refine WP.if_ne (t := 29) (L' := [vr 10 0, vi l1, vn]) rfl rfl rfl rfl h (fun h => ?_) (fun h => ?_)
  · refine WP.blk (pc' := 30) (L' := [vn, vn, vn]) (st' := [vi (-1)]) (h' := (101, I, J, R0 b)) 1 rfl ?_
    exact WP.ret rfl rfl h
  · refine WP.blk (pc' := 21) (L' := [vr 10 0, vi l1, vn]) (st' := [vi l1, vr 44 0]) (h' := (101, I, J, R0 b)) 3 rfl ?_
    refine WP.step (pc' := 22) (L' := [vr 10 0, vi l1, vn]) (st' := [vi (I 44 0 l1.toNatClampNeg)]) (h' := (101, I, J, R0 b)) rfl (iaload_ok (n := 7) rfl rfl rfl (inA_of h.1)) ?_
    have h := And.right h
    refine WP.blk (pc' := 23) (L' := [vr 10 0, vi l1, vn]) (st' := [vr 10 0, vi (I 44 0 l1.toNatClampNeg)]) (h' := (101, I, J, R0 b)) 1 rfl ?_
    refine WP.cal (y' := 173) (as := [vr 10 0]) (L' := [vr 10 0, vi l1, vn]) (rest := [vi (I 44 0 l1.toNatClampNeg)]) rfl (fun f r h' hf => callV_ok hf rfl rfl rfl) h ?_
    rintro _ _ ⟨x1, I2, J3, rfl, rfl, h⟩
    refine WP.icmp_le (t := 31) (L' := [vr 10 0, vi l1, vn]) rfl rfl rfl rfl h (fun h => ?_) (fun h => ?_)
    · refine WP.blk (pc' := 36) (L' := [vr 10 0, vi l1, vi (I2 10 0 37)]) (st' := []) (h' := (101, I2, J3, R0 b)) 3 rfl ?_
      exact WP.mask rfl rfl h
    · refine WP.blk (pc' := 30) (L' := [vn, vn, vn]) (st' := [vi (-1)]) (h' := (101, I2, J3, R0 b)) 1 rfl ?_
      exact WP.ret rfl rfl h
set_option maxRecDepth 20000 in
theorem t_X10_beginOf_36 {D : Nat} (l1 : Int32) (l2 : Int32) (I : IM) (J : JM) (b : Bool) {Q : Option AV → AH → Prop} (h : (Call D 174 [vr 10 0, vi l2] (101, I, J, R0 b) (RIf b fun x4 I5 J6 => (vp_in l1 7 ∧ (if (I5 44 0 l1.toNatClampNeg) ≤ x4 then (Call D 176 [vr 10 0, vi l1, vi l2] (101, I5, J6, R0 b) (RIf b fun x7 I8 J9 => (if x7 = 0 then Q (some (vi l2)) (101, I8, J9, R0 b) else Q (some (vi (-1))) (101, I8, J9, R0 b)))) else (if ¬ (I5 10 0 44) = 0 then Q (some (vi (-1))) (101, I5, J6, R0 b) else (if l2 ≤ ((I5 10 0 37) + (999 : Int32)) then WP D 177 36 [vr 10 0, vi l1, vi (l2 + 1)] [] (101, I5, J6, R0 b) Q else Q (some (vi (-1))) (101, I5, J6, R0 b)))))))) : WP D 177 36 [vr 10 0, vi l1, vi l2] [] (101, I, J, R0 b) Q := by
  refine WP.blk (pc' := 38) (L' := [vr 10 0, vi l1, vi l2]) (st' := [vi l2, vr 10 0]) (h' := (101, I, J, R0 b)) 2 rfl ?_
  refine WP.cal (y' := 174) (as := [vr 10 0, vi l2]) (L' := [vr 10 0, vi l1, vi l2]) (rest := []) rfl (fun f r h' hf => callV_ok hf rfl rfl rfl) h ?_
  rintro _ _ ⟨x4, I5, J6, rfl, rfl, h⟩
  refine WP.blk (pc' := 46) (L' := [vr 10 0, vi l1, vi l2]) (st' := [vi l1, vr 44 0, vi x4]) (h' := (101, I5, J6, R0 b)) 3 rfl ?_
  refine WP.step (pc' := 47) (L' := [vr 10 0, vi l1, vi l2]) (st' := [vi (I5 44 0 l1.toNatClampNeg), vi x4]) (h' := (101, I5, J6, R0 b)) rfl (iaload_ok (n := 7) rfl rfl rfl (inA_of h.1)) ?_
  have h := And.right h
  refine WP.icmp_ge (t := 77) (L' := [vr 10 0, vi l1, vi l2]) rfl rfl rfl rfl h (fun h => ?_) (fun h => ?_)
  · refine WP.blk (pc' := 80) (L' := [vr 10 0, vi l1, vi l2]) (st' := [vi l2, vi l1, vr 10 0]) (h' := (101, I5, J6, R0 b)) 3 rfl ?_
    refine WP.cal (y' := 176) (as := [vr 10 0, vi l1, vi l2]) (L' := [vr 10 0, vi l1, vi l2]) (rest := []) rfl (fun f r h' hf => callV_ok hf rfl rfl rfl) h ?_
    rintro _ _ ⟨x7, I8, J9, rfl, rfl, h⟩
    refine WP.if_eq (t := 90) (L' := [vr 10 0, vi l1, vi l2]) rfl rfl rfl rfl h (fun h => ?_) (fun h => ?_)
    · refine WP.blk (pc' := 91) (L' := [vr 10 0, vi l1, vi l2]) (st' := [vi l2]) (h' := (101, I8, J9, R0 b)) 1 rfl ?_
      exact WP.ret rfl rfl h
    · refine WP.blk (pc' := 91) (L' := [vr 10 0, vi l1, vi l2]) (st' := [vi (-1)]) (h' := (101, I8, J9, R0 b)) 2 rfl ?_
      exact WP.ret rfl rfl h
  · refine WP.blk (pc' := 54) (L' := [vr 10 0, vi l1, vi l2]) (st' := [vi (I5 10 0 44)]) (h' := (101, I5, J6, R0 b)) 2 rfl ?_
    refine WP.if_ne (t := 69) (L' := [vr 10 0, vi l1, vi l2]) rfl rfl rfl rfl h (fun h => ?_) (fun h => ?_)
    · refine WP.blk (pc' := 70) (L' := [vn, vn, vn]) (st' := [vi (-1)]) (h' := (101, I5, J6, R0 b)) 1 rfl ?_
      exact WP.ret rfl rfl h
    · refine WP.blk (pc' := 66) (L' := [vr 10 0, vi l1, vi l2]) (st' := [vi ((I5 10 0 37) + (999 : Int32)), vi l2]) (h' := (101, I5, J6, R0 b)) 5 rfl ?_
      refine WP.icmp_le (t := 71) (L' := [vr 10 0, vi l1, vi l2]) rfl rfl rfl rfl h (fun h => ?_) (fun h => ?_)
      · refine WP.blk (pc' := 36) (L' := [vr 10 0, vi l1, vi (l2 + 1)]) (st' := []) (h' := (101, I5, J6, R0 b)) 2 rfl ?_
        exact WP.mask rfl rfl h
      · refine WP.blk (pc' := 70) (L' := [vn, vn, vn]) (st' := [vi (-1)]) (h' := (101, I5, J6, R0 b)) 1 rfl ?_
        exact WP.ret rfl rfl h
set_option maxRecDepth 20000 in
theorem t_X10_slipsNow {D : Nat}  (I : IM) (J : JM) (b : Bool) {Q : Option AV → AH → Prop} (h : (if ¬ (I 10 0 45) = 0 then (if (I 10 0 12) ≤ ((Int32.toUInt32 (((I 10 0 46) * (1103515245 : Int32)) + (12345 : Int32)) >>> (Int32.toUInt32 (8 : Int32) &&& Int32.toUInt32 31)).toInt32 - (Int32.toUInt32 (((I 10 0 46) * (1103515245 : Int32)) + (12345 : Int32)) >>> (Int32.toUInt32 (8 : Int32) &&& Int32.toUInt32 31)).toInt32 / (12 : Int32) * (12 : Int32)) then Q (some (vi 0)) (101, (updI I 10 0 46 (((I 10 0 46) * (1103515245 : Int32)) + (12345 : Int32))), J, R0 b) else Q (some (vi 1)) (101, (updI I 10 0 46 (((I 10 0 46) * (1103515245 : Int32)) + (12345 : Int32))), J, R0 b)) else Q (some (vi 0)) (101, I, J, R0 b))) : Call (D + 1) 178 [vr 10 0] (101, I, J, R0 b) Q := by
  refine Call.of rfl ?_
  show WP D 178 0 [vr 10 0] [] (101, I, J, R0 b) Q
  refine WP.blk (pc' := 4) (L' := [vr 10 0]) (st' := [vi (I 10 0 45)]) (h' := (101, I, J, R0 b)) 2 rfl ?_
  refine WP.if_ne (t := 9) (L' := [vr 10 0]) rfl rfl rfl rfl h (fun h => ?_) (fun h => ?_)
  · refine WP.blk (pc' := 39) (L' := [vr 10 0]) (st' := [vi (I 10 0 12), vi ((Int32.toUInt32 (((I 10 0 46) * (1103515245 : Int32)) + (12345 : Int32)) >>> (Int32.toUInt32 (8 : Int32) &&& Int32.toUInt32 31)).toInt32 - (Int32.toUInt32 (((I 10 0 46) * (1103515245 : Int32)) + (12345 : Int32)) >>> (Int32.toUInt32 (8 : Int32) &&& Int32.toUInt32 31)).toInt32 / (12 : Int32) * (12 : Int32))]) (h' := (101, (updI I 10 0 46 (((I 10 0 46) * (1103515245 : Int32)) + (12345 : Int32))), J, R0 b)) 16 rfl ?_
    refine WP.icmp_ge (t := 46) (L' := [vr 10 0]) rfl rfl rfl rfl h (fun h => ?_) (fun h => ?_)
    · refine WP.blk (pc' := 47) (L' := [vr 10 0]) (st' := [vi 0]) (h' := (101, (updI I 10 0 46 (((I 10 0 46) * (1103515245 : Int32)) + (12345 : Int32))), J, R0 b)) 1 rfl ?_
      exact WP.ret rfl rfl h
    · refine WP.blk (pc' := 47) (L' := [vr 10 0]) (st' := [vi 1]) (h' := (101, (updI I 10 0 46 (((I 10 0 46) * (1103515245 : Int32)) + (12345 : Int32))), J, R0 b)) 2 rfl ?_
      exact WP.ret rfl rfl h
  · refine WP.blk (pc' := 8) (L' := [vr 10 0]) (st' := [vi 0]) (h' := (101, I, J, R0 b)) 1 rfl ?_
    exact WP.ret rfl rfl h
set_option maxRecDepth 20000 in
theorem t_X10_goesIn {D : Nat} (l1 : Int32) (I : IM) (J : JM) (b : Bool) {Q : Option AV → AH → Prop} (h : (Call D 177 [vr 10 0, vi l1] (101, I, J, R0 b) (RIf b fun x1 I2 J3 => (if 0 ≤ x1 then (Call D 178 [vr 10 0] (101, I2, J3, R0 b) (RIf b fun x4 I5 J6 => (if x4 = 0 then (vp_in l1 7 ∧ (if (I5 10 0 44) = 0 then (Call D 136 [vi (I5 10 0 38)] (101, I5, J6, R0 b) (RIf b fun x7 I8 J9 => (Call D 169 [vr 10 0, vi l1, vi x7] (101, I8, J9, R0 b) (RIf b fun x10 I11 J12 => (if x10 ≤ 0 then WP D 179 84 [vr 10 0, vi l1, vi x1, vi (x1 + (I5 43 0 l1.toNatClampNeg)), vi x10, vn, vn] [] (101, I11, J12, R0 b) Q else (vp_in l1 7 ∧ (if (I11 45 0 l1.toNatClampNeg) ≤ 0 then WP D 179 84 [vr 10 0, vi l1, vi x1, vi (x1 + (I5 43 0 l1.toNatClampNeg)), vi x10, vn, vn] [] (101, I11, J12, R0 b) Q else (vp_in l1 7 ∧ (if ¬ (I11 46 0 l1.toNatClampNeg) = (1 : Int32) then WP D 179 118 [vr 10 0, vi l1, vi x1, vi (x1 + (I5 43 0 l1.toNatClampNeg)), vi x10, vi 1, vn] [] (101, I11, J12, R0 b) Q else (Call D 175 [vr 10 0, vi (x1 + (I5 43 0 l1.toNatClampNeg))] (101, I11, J12, R0 b) (RIf b fun x13 I14 J15 => (if (I14 10 0 9) ≤ x13 then WP D 179 118 [vr 10 0, vi l1, vi x1, vi (x1 + (I5 43 0 l1.toNatClampNeg)), vi x10, vi 1, vn] [] (101, I14, J15, R0 b) Q else WP D 179 147 [vr 10 0, vi l1, vi x1, vi (x1 + (I5 43 0 l1.toNatClampNeg)), vi x10, vi 1, vi 1] [] (101, I14, J15, R0 b) Q)))))))))))) else (vp_in l1 7 ∧ (if (I5 45 0 l1.toNatClampNeg) ≤ 0 then WP D 179 84 [vr 10 0, vi l1, vi x1, vi (x1 + (I5 43 0 l1.toNatClampNeg)), vi 1000000, vn, vn] [] (101, I5, J6, R0 b) Q else (vp_in l1 7 ∧ (if ¬ (I5 46 0 l1.toNatClampNeg) = (1 : Int32) then WP D 179 118 [vr 10 0, vi l1, vi x1, vi (x1 + (I5 43 0 l1.toNatClampNeg)), vi 1000000, vi 1, vn] [] (101, I5, J6, R0 b) Q else (Call D 175 [vr 10 0, vi (x1 + (I5 43 0 l1.toNatClampNeg))] (101, I5, J6, R0 b) (RIf b fun x16 I17 J18 => (if (I17 10 0 9) ≤ x16 then WP D 179 118 [vr 10 0, vi l1, vi x1, vi (x1 + (I5 43 0 l1.toNatClampNeg)), vi 1000000, vi 1, vn] [] (101, I17, J18, R0 b) Q else WP D 179 147 [vr 10 0, vi l1, vi x1, vi (x1 + (I5 43 0 l1.toNatClampNeg)), vi 1000000, vi 1, vi 1] [] (101, I17, J18, R0 b) Q))))))))) else (vp_in l1 7 ∧ (if (I5 10 0 44) = 0 then (Call D 136 [vi (I5 10 0 38)] (101, I5, J6, R0 b) (RIf b fun x19 I20 J21 => (Call D 169 [vr 10 0, vi l1, vi x19] (101, I20, J21, R0 b) (RIf b fun x22 I23 J24 => (if x22 ≤ 0 then WP D 179 84 [vr 10 0, vi l1, vi x1, vi (x1 + ((2 : Int32) * (I5 43 0 l1.toNatClampNeg))), vi x22, vn, vn] [] (101, I23, J24, R0 b) Q else (vp_in l1 7 ∧ (if (I23 45 0 l1.toNatClampNeg) ≤ 0 then WP D 179 84 [vr 10 0, vi l1, vi x1, vi (x1 + ((2 : Int32) * (I5 43 0 l1.toNatClampNeg))), vi x22, vn, vn] [] (101, I23, J24, R0 b) Q else (vp_in l1 7 ∧ (if ¬ (I23 46 0 l1.toNatClampNeg) = (1 : Int32) then WP D 179 118 [vr 10 0, vi l1, vi x1, vi (x1 + ((2 : Int32) * (I5 43 0 l1.toNatClampNeg))), vi x22, vi 1, vn] [] (101, I23, J24, R0 b) Q else (Call D 175 [vr 10 0, vi (x1 + ((2 : Int32) * (I5 43 0 l1.toNatClampNeg)))] (101, I23, J24, R0 b) (RIf b fun x25 I26 J27 => (if (I26 10 0 9) ≤ x25 then WP D 179 118 [vr 10 0, vi l1, vi x1, vi (x1 + ((2 : Int32) * (I5 43 0 l1.toNatClampNeg))), vi x22, vi 1, vn] [] (101, I26, J27, R0 b) Q else WP D 179 147 [vr 10 0, vi l1, vi x1, vi (x1 + ((2 : Int32) * (I5 43 0 l1.toNatClampNeg))), vi x22, vi 1, vi 1] [] (101, I26, J27, R0 b) Q)))))))))))) else (vp_in l1 7 ∧ (if (I5 45 0 l1.toNatClampNeg) ≤ 0 then WP D 179 84 [vr 10 0, vi l1, vi x1, vi (x1 + ((2 : Int32) * (I5 43 0 l1.toNatClampNeg))), vi 1000000, vn, vn] [] (101, I5, J6, R0 b) Q else (vp_in l1 7 ∧ (if ¬ (I5 46 0 l1.toNatClampNeg) = (1 : Int32) then WP D 179 118 [vr 10 0, vi l1, vi x1, vi (x1 + ((2 : Int32) * (I5 43 0 l1.toNatClampNeg))), vi 1000000, vi 1, vn] [] (101, I5, J6, R0 b) Q else (Call D 175 [vr 10 0, vi (x1 + ((2 : Int32) * (I5 43 0 l1.toNatClampNeg)))] (101, I5, J6, R0 b) (RIf b fun x28 I29 J30 => (if (I29 10 0 9) ≤ x28 then WP D 179 118 [vr 10 0, vi l1, vi x1, vi (x1 + ((2 : Int32) * (I5 43 0 l1.toNatClampNeg))), vi 1000000, vi 1, vn] [] (101, I29, J30, R0 b) Q else WP D 179 147 [vr 10 0, vi l1, vi x1, vi (x1 + ((2 : Int32) * (I5 43 0 l1.toNatClampNeg))), vi 1000000, vi 1, vi 1] [] (101, I29, J30, R0 b) Q)))))))))))) else Q (some (vi 0)) (101, I2, J3, R0 b))))) : Call (D + 1) 179 [vr 10 0, vi l1] (101, I, J, R0 b) Q := by
  refine Call.of rfl ?_
  show WP D 179 0 [vr 10 0, vi l1, vn, vn, vn, vn, vn] [] (101, I, J, R0 b) Q
  refine WP.blk (pc' := 2) (L' := [vr 10 0, vi l1, vn, vn, vn, vn, vn]) (st' := [vi l1, vr 10 0]) (h' := (101, I, J, R0 b)) 2 rfl ?_
  refine WP.cal (y' := 177) (as := [vr 10 0, vi l1]) (L' := [vr 10 0, vi l1, vn, vn, vn, vn, vn]) (rest := []) rfl (fun f r h' hf => callV_ok hf rfl rfl rfl) h ?_
  rintro _ _ ⟨x1, I2, J3, rfl, rfl, h⟩
  refine WP.blk (pc' := 7) (L' := [vr 10 0, vi l1, vi x1, vn, vn, vn, vn]) (st' := [vi x1]) (h' := (101, I2, J3, R0 b)) 2 rfl ?_
  refine WP.if_ge (t := 12) (L' := [vr 10 0, vi l1, vi x1, vn, vn, vn, vn]) rfl rfl rfl rfl h (fun h => ?_) (fun h => ?_)
  · refine WP.blk (pc' := 14) (L' := [vr 10 0, vi l1, vi x1, vn, vn, vn, vn]) (st' := [vr 10 0, vi x1]) (h' := (101, I2, J3, R0 b)) 2 rfl ?_
    refine WP.cal (y' := 178) (as := [vr 10 0]) (L' := [vr 10 0, vi l1, vi x1, vn, vn, vn, vn]) (rest := [vi x1]) rfl (fun f r h' hf => callV_ok hf rfl rfl rfl) h ?_
    rintro _ _ ⟨x4, I5, J6, rfl, rfl, h⟩
    refine WP.if_eq (t := 31) (L' := [vr 10 0, vi l1, vi x1, vn, vn, vn, vn]) rfl rfl rfl rfl h (fun h => ?_) (fun h => ?_)
    · refine WP.blk (pc' := 36) (L' := [vr 10 0, vi l1, vi x1, vn, vn, vn, vn]) (st' := [vi l1, vr 43 0, vi x1]) (h' := (101, I5, J6, R0 b)) 3 rfl ?_
      refine WP.step (pc' := 37) (L' := [vr 10 0, vi l1, vi x1, vn, vn, vn, vn]) (st' := [vi (I5 43 0 l1.toNatClampNeg), vi x1]) (h' := (101, I5, J6, R0 b)) rfl (iaload_ok (n := 7) rfl rfl rfl (inA_of h.1)) ?_
      have h := And.right h
      refine WP.blk (pc' := 43) (L' := [vr 10 0, vi l1, vi x1, vi (x1 + (I5 43 0 l1.toNatClampNeg)), vn, vn, vn]) (st' := [vi (I5 10 0 44)]) (h' := (101, I5, J6, R0 b)) 4 rfl ?_
      refine WP.if_eq (t := 52) (L' := [vr 10 0, vi l1, vi x1, vi (x1 + (I5 43 0 l1.toNatClampNeg)), vn, vn, vn]) rfl rfl rfl rfl h (fun h => ?_) (fun h => ?_)
      · refine WP.blk (pc' := 58) (L' := [vr 10 0, vi l1, vi x1, vi (x1 + (I5 43 0 l1.toNatClampNeg)), vn, vn, vn]) (st' := [vi (I5 10 0 38), vi l1, vr 10 0]) (h' := (101, I5, J6, R0 b)) 4 rfl ?_
        refine WP.cal (y' := 136) (as := [vi (I5 10 0 38)]) (L' := [vr 10 0, vi l1, vi x1, vi (x1 + (I5 43 0 l1.toNatClampNeg)), vn, vn, vn]) (rest := [vi l1, vr 10 0]) rfl (fun f r h' hf => callS_ok hf rfl rfl rfl) h ?_
        rintro _ _ ⟨x7, I8, J9, rfl, rfl, h⟩
        refine WP.cal (y' := 169) (as := [vr 10 0, vi l1, vi x7]) (L' := [vr 10 0, vi l1, vi x1, vi (x1 + (I5 43 0 l1.toNatClampNeg)), vn, vn, vn]) (rest := []) rfl (fun f r h' hf => callV_ok hf rfl rfl rfl) h ?_
        rintro _ _ ⟨x10, I11, J12, rfl, rfl, h⟩
        refine WP.blk (pc' := 68) (L' := [vr 10 0, vi l1, vi x1, vi (x1 + (I5 43 0 l1.toNatClampNeg)), vi x10, vn, vn]) (st' := [vi x10]) (h' := (101, I11, J12, R0 b)) 2 rfl ?_
        refine WP.if_le (t := 84) (L' := [vr 10 0, vi l1, vi x1, vi (x1 + (I5 43 0 l1.toNatClampNeg)), vi x10, vn, vn]) rfl rfl rfl rfl h (fun h => ?_) (fun h => ?_)
        · exact WP.mask rfl rfl h
        · refine WP.blk (pc' := 76) (L' := [vr 10 0, vi l1, vi x1, vi (x1 + (I5 43 0 l1.toNatClampNeg)), vi x10, vn, vn]) (st' := [vi l1, vr 45 0]) (h' := (101, I11, J12, R0 b)) 3 rfl ?_
          refine WP.step (pc' := 77) (L' := [vr 10 0, vi l1, vi x1, vi (x1 + (I5 43 0 l1.toNatClampNeg)), vi x10, vn, vn]) (st' := [vi (I11 45 0 l1.toNatClampNeg)]) (h' := (101, I11, J12, R0 b)) rfl (iaload_ok (n := 7) rfl rfl rfl (inA_of h.1)) ?_
          have h := And.right h
          refine WP.if_le (t := 84) (L' := [vr 10 0, vi l1, vi x1, vi (x1 + (I5 43 0 l1.toNatClampNeg)), vi x10, vn, vn]) rfl rfl rfl rfl h (fun h => ?_) (fun h => ?_)
          · exact WP.mask rfl rfl h
          · refine WP.blk (pc' := 97) (L' := [vr 10 0, vi l1, vi x1, vi (x1 + (I5 43 0 l1.toNatClampNeg)), vi x10, vi 1, vn]) (st' := [vi l1, vr 46 0]) (h' := (101, I11, J12, R0 b)) 8 rfl ?_
            refine WP.step (pc' := 98) (L' := [vr 10 0, vi l1, vi x1, vi (x1 + (I5 43 0 l1.toNatClampNeg)), vi x10, vi 1, vn]) (st' := [vi (I11 46 0 l1.toNatClampNeg)]) (h' := (101, I11, J12, R0 b)) rfl (iaload_ok (n := 7) rfl rfl rfl (inA_of h.1)) ?_
            have h := And.right h
            refine WP.blk (pc' := 99) (L' := [vr 10 0, vi l1, vi x1, vi (x1 + (I5 43 0 l1.toNatClampNeg)), vi x10, vi 1, vn]) (st' := [vi 1, vi (I11 46 0 l1.toNatClampNeg)]) (h' := (101, I11, J12, R0 b)) 1 rfl ?_
            refine WP.icmp_ne (t := 118) (L' := [vr 10 0, vi l1, vi x1, vi (x1 + (I5 43 0 l1.toNatClampNeg)), vi x10, vi 1, vn]) rfl rfl rfl rfl h (fun h => ?_) (fun h => ?_)
            · exact WP.mask rfl rfl h
            · refine WP.blk (pc' := 104) (L' := [vr 10 0, vi l1, vi x1, vi (x1 + (I5 43 0 l1.toNatClampNeg)), vi x10, vi 1, vn]) (st' := [vi (x1 + (I5 43 0 l1.toNatClampNeg)), vr 10 0]) (h' := (101, I11, J12, R0 b)) 2 rfl ?_
              refine WP.cal (y' := 175) (as := [vr 10 0, vi (x1 + (I5 43 0 l1.toNatClampNeg))]) (L' := [vr 10 0, vi l1, vi x1, vi (x1 + (I5 43 0 l1.toNatClampNeg)), vi x10, vi 1, vn]) (rest := []) rfl (fun f r h' hf => callV_ok hf rfl rfl rfl) h ?_
              rintro _ _ ⟨x13, I14, J15, rfl, rfl, h⟩
              refine WP.blk (pc' := 111) (L' := [vr 10 0, vi l1, vi x1, vi (x1 + (I5 43 0 l1.toNatClampNeg)), vi x10, vi 1, vn]) (st' := [vi (I14 10 0 9), vi x13]) (h' := (101, I14, J15, R0 b)) 2 rfl ?_
              refine WP.icmp_ge (t := 118) (L' := [vr 10 0, vi l1, vi x1, vi (x1 + (I5 43 0 l1.toNatClampNeg)), vi x10, vi 1, vn]) rfl rfl rfl rfl h (fun h => ?_) (fun h => ?_)
              · exact WP.mask rfl rfl h
              · refine WP.blk (pc' := 147) (L' := [vr 10 0, vi l1, vi x1, vi (x1 + (I5 43 0 l1.toNatClampNeg)), vi x10, vi 1, vi 1]) (st' := []) (h' := (101, I14, J15, R0 b)) 7 rfl ?_
                exact WP.mask rfl rfl h
      · refine WP.blk (pc' := 76) (L' := [vr 10 0, vi l1, vi x1, vi (x1 + (I5 43 0 l1.toNatClampNeg)), vi 1000000, vn, vn]) (st' := [vi l1, vr 45 0]) (h' := (101, I5, J6, R0 b)) 8 rfl ?_
        refine WP.step (pc' := 77) (L' := [vr 10 0, vi l1, vi x1, vi (x1 + (I5 43 0 l1.toNatClampNeg)), vi 1000000, vn, vn]) (st' := [vi (I5 45 0 l1.toNatClampNeg)]) (h' := (101, I5, J6, R0 b)) rfl (iaload_ok (n := 7) rfl rfl rfl (inA_of h.1)) ?_
        have h := And.right h
        refine WP.if_le (t := 84) (L' := [vr 10 0, vi l1, vi x1, vi (x1 + (I5 43 0 l1.toNatClampNeg)), vi 1000000, vn, vn]) rfl rfl rfl rfl h (fun h => ?_) (fun h => ?_)
        · exact WP.mask rfl rfl h
        · refine WP.blk (pc' := 97) (L' := [vr 10 0, vi l1, vi x1, vi (x1 + (I5 43 0 l1.toNatClampNeg)), vi 1000000, vi 1, vn]) (st' := [vi l1, vr 46 0]) (h' := (101, I5, J6, R0 b)) 8 rfl ?_
          refine WP.step (pc' := 98) (L' := [vr 10 0, vi l1, vi x1, vi (x1 + (I5 43 0 l1.toNatClampNeg)), vi 1000000, vi 1, vn]) (st' := [vi (I5 46 0 l1.toNatClampNeg)]) (h' := (101, I5, J6, R0 b)) rfl (iaload_ok (n := 7) rfl rfl rfl (inA_of h.1)) ?_
          have h := And.right h
          refine WP.blk (pc' := 99) (L' := [vr 10 0, vi l1, vi x1, vi (x1 + (I5 43 0 l1.toNatClampNeg)), vi 1000000, vi 1, vn]) (st' := [vi 1, vi (I5 46 0 l1.toNatClampNeg)]) (h' := (101, I5, J6, R0 b)) 1 rfl ?_
          refine WP.icmp_ne (t := 118) (L' := [vr 10 0, vi l1, vi x1, vi (x1 + (I5 43 0 l1.toNatClampNeg)), vi 1000000, vi 1, vn]) rfl rfl rfl rfl h (fun h => ?_) (fun h => ?_)
          · exact WP.mask rfl rfl h
          · refine WP.blk (pc' := 104) (L' := [vr 10 0, vi l1, vi x1, vi (x1 + (I5 43 0 l1.toNatClampNeg)), vi 1000000, vi 1, vn]) (st' := [vi (x1 + (I5 43 0 l1.toNatClampNeg)), vr 10 0]) (h' := (101, I5, J6, R0 b)) 2 rfl ?_
            refine WP.cal (y' := 175) (as := [vr 10 0, vi (x1 + (I5 43 0 l1.toNatClampNeg))]) (L' := [vr 10 0, vi l1, vi x1, vi (x1 + (I5 43 0 l1.toNatClampNeg)), vi 1000000, vi 1, vn]) (rest := []) rfl (fun f r h' hf => callV_ok hf rfl rfl rfl) h ?_
            rintro _ _ ⟨x16, I17, J18, rfl, rfl, h⟩
            refine WP.blk (pc' := 111) (L' := [vr 10 0, vi l1, vi x1, vi (x1 + (I5 43 0 l1.toNatClampNeg)), vi 1000000, vi 1, vn]) (st' := [vi (I17 10 0 9), vi x16]) (h' := (101, I17, J18, R0 b)) 2 rfl ?_
            refine WP.icmp_ge (t := 118) (L' := [vr 10 0, vi l1, vi x1, vi (x1 + (I5 43 0 l1.toNatClampNeg)), vi 1000000, vi 1, vn]) rfl rfl rfl rfl h (fun h => ?_) (fun h => ?_)
            · exact WP.mask rfl rfl h
            · refine WP.blk (pc' := 147) (L' := [vr 10 0, vi l1, vi x1, vi (x1 + (I5 43 0 l1.toNatClampNeg)), vi 1000000, vi 1, vi 1]) (st' := []) (h' := (101, I17, J18, R0 b)) 7 rfl ?_
              exact WP.mask rfl rfl h
    · refine WP.blk (pc' := 26) (L' := [vr 10 0, vi l1, vi x1, vn, vn, vn, vn]) (st' := [vi l1, vr 43 0, vi 2, vi x1]) (h' := (101, I5, J6, R0 b)) 4 rfl ?_
      refine WP.step (pc' := 27) (L' := [vr 10 0, vi l1, vi x1, vn, vn, vn, vn]) (st' := [vi (I5 43 0 l1.toNatClampNeg), vi 2, vi x1]) (h' := (101, I5, J6, R0 b)) rfl (iaload_ok (n := 7) rfl rfl rfl (inA_of h.1)) ?_
      have h := And.right h
      refine WP.blk (pc' := 43) (L' := [vr 10 0, vi l1, vi x1, vi (x1 + ((2 : Int32) * (I5 43 0 l1.toNatClampNeg))), vn, vn, vn]) (st' := [vi (I5 10 0 44)]) (h' := (101, I5, J6, R0 b)) 6 rfl ?_
      refine WP.if_eq (t := 52) (L' := [vr 10 0, vi l1, vi x1, vi (x1 + ((2 : Int32) * (I5 43 0 l1.toNatClampNeg))), vn, vn, vn]) rfl rfl rfl rfl h (fun h => ?_) (fun h => ?_)
      · refine WP.blk (pc' := 58) (L' := [vr 10 0, vi l1, vi x1, vi (x1 + ((2 : Int32) * (I5 43 0 l1.toNatClampNeg))), vn, vn, vn]) (st' := [vi (I5 10 0 38), vi l1, vr 10 0]) (h' := (101, I5, J6, R0 b)) 4 rfl ?_
        refine WP.cal (y' := 136) (as := [vi (I5 10 0 38)]) (L' := [vr 10 0, vi l1, vi x1, vi (x1 + ((2 : Int32) * (I5 43 0 l1.toNatClampNeg))), vn, vn, vn]) (rest := [vi l1, vr 10 0]) rfl (fun f r h' hf => callS_ok hf rfl rfl rfl) h ?_
        rintro _ _ ⟨x19, I20, J21, rfl, rfl, h⟩
        refine WP.cal (y' := 169) (as := [vr 10 0, vi l1, vi x19]) (L' := [vr 10 0, vi l1, vi x1, vi (x1 + ((2 : Int32) * (I5 43 0 l1.toNatClampNeg))), vn, vn, vn]) (rest := []) rfl (fun f r h' hf => callV_ok hf rfl rfl rfl) h ?_
        rintro _ _ ⟨x22, I23, J24, rfl, rfl, h⟩
        refine WP.blk (pc' := 68) (L' := [vr 10 0, vi l1, vi x1, vi (x1 + ((2 : Int32) * (I5 43 0 l1.toNatClampNeg))), vi x22, vn, vn]) (st' := [vi x22]) (h' := (101, I23, J24, R0 b)) 2 rfl ?_
        refine WP.if_le (t := 84) (L' := [vr 10 0, vi l1, vi x1, vi (x1 + ((2 : Int32) * (I5 43 0 l1.toNatClampNeg))), vi x22, vn, vn]) rfl rfl rfl rfl h (fun h => ?_) (fun h => ?_)
        · exact WP.mask rfl rfl h
        · refine WP.blk (pc' := 76) (L' := [vr 10 0, vi l1, vi x1, vi (x1 + ((2 : Int32) * (I5 43 0 l1.toNatClampNeg))), vi x22, vn, vn]) (st' := [vi l1, vr 45 0]) (h' := (101, I23, J24, R0 b)) 3 rfl ?_
          refine WP.step (pc' := 77) (L' := [vr 10 0, vi l1, vi x1, vi (x1 + ((2 : Int32) * (I5 43 0 l1.toNatClampNeg))), vi x22, vn, vn]) (st' := [vi (I23 45 0 l1.toNatClampNeg)]) (h' := (101, I23, J24, R0 b)) rfl (iaload_ok (n := 7) rfl rfl rfl (inA_of h.1)) ?_
          have h := And.right h
          refine WP.if_le (t := 84) (L' := [vr 10 0, vi l1, vi x1, vi (x1 + ((2 : Int32) * (I5 43 0 l1.toNatClampNeg))), vi x22, vn, vn]) rfl rfl rfl rfl h (fun h => ?_) (fun h => ?_)
          · exact WP.mask rfl rfl h
          · refine WP.blk (pc' := 97) (L' := [vr 10 0, vi l1, vi x1, vi (x1 + ((2 : Int32) * (I5 43 0 l1.toNatClampNeg))), vi x22, vi 1, vn]) (st' := [vi l1, vr 46 0]) (h' := (101, I23, J24, R0 b)) 8 rfl ?_
            refine WP.step (pc' := 98) (L' := [vr 10 0, vi l1, vi x1, vi (x1 + ((2 : Int32) * (I5 43 0 l1.toNatClampNeg))), vi x22, vi 1, vn]) (st' := [vi (I23 46 0 l1.toNatClampNeg)]) (h' := (101, I23, J24, R0 b)) rfl (iaload_ok (n := 7) rfl rfl rfl (inA_of h.1)) ?_
            have h := And.right h
            refine WP.blk (pc' := 99) (L' := [vr 10 0, vi l1, vi x1, vi (x1 + ((2 : Int32) * (I5 43 0 l1.toNatClampNeg))), vi x22, vi 1, vn]) (st' := [vi 1, vi (I23 46 0 l1.toNatClampNeg)]) (h' := (101, I23, J24, R0 b)) 1 rfl ?_
            refine WP.icmp_ne (t := 118) (L' := [vr 10 0, vi l1, vi x1, vi (x1 + ((2 : Int32) * (I5 43 0 l1.toNatClampNeg))), vi x22, vi 1, vn]) rfl rfl rfl rfl h (fun h => ?_) (fun h => ?_)
            · exact WP.mask rfl rfl h
            · refine WP.blk (pc' := 104) (L' := [vr 10 0, vi l1, vi x1, vi (x1 + ((2 : Int32) * (I5 43 0 l1.toNatClampNeg))), vi x22, vi 1, vn]) (st' := [vi (x1 + ((2 : Int32) * (I5 43 0 l1.toNatClampNeg))), vr 10 0]) (h' := (101, I23, J24, R0 b)) 2 rfl ?_
              refine WP.cal (y' := 175) (as := [vr 10 0, vi (x1 + ((2 : Int32) * (I5 43 0 l1.toNatClampNeg)))]) (L' := [vr 10 0, vi l1, vi x1, vi (x1 + ((2 : Int32) * (I5 43 0 l1.toNatClampNeg))), vi x22, vi 1, vn]) (rest := []) rfl (fun f r h' hf => callV_ok hf rfl rfl rfl) h ?_
              rintro _ _ ⟨x25, I26, J27, rfl, rfl, h⟩
              refine WP.blk (pc' := 111) (L' := [vr 10 0, vi l1, vi x1, vi (x1 + ((2 : Int32) * (I5 43 0 l1.toNatClampNeg))), vi x22, vi 1, vn]) (st' := [vi (I26 10 0 9), vi x25]) (h' := (101, I26, J27, R0 b)) 2 rfl ?_
              refine WP.icmp_ge (t := 118) (L' := [vr 10 0, vi l1, vi x1, vi (x1 + ((2 : Int32) * (I5 43 0 l1.toNatClampNeg))), vi x22, vi 1, vn]) rfl rfl rfl rfl h (fun h => ?_) (fun h => ?_)
              · exact WP.mask rfl rfl h
              · refine WP.blk (pc' := 147) (L' := [vr 10 0, vi l1, vi x1, vi (x1 + ((2 : Int32) * (I5 43 0 l1.toNatClampNeg))), vi x22, vi 1, vi 1]) (st' := []) (h' := (101, I26, J27, R0 b)) 7 rfl ?_
                exact WP.mask rfl rfl h
      · refine WP.blk (pc' := 76) (L' := [vr 10 0, vi l1, vi x1, vi (x1 + ((2 : Int32) * (I5 43 0 l1.toNatClampNeg))), vi 1000000, vn, vn]) (st' := [vi l1, vr 45 0]) (h' := (101, I5, J6, R0 b)) 8 rfl ?_
        refine WP.step (pc' := 77) (L' := [vr 10 0, vi l1, vi x1, vi (x1 + ((2 : Int32) * (I5 43 0 l1.toNatClampNeg))), vi 1000000, vn, vn]) (st' := [vi (I5 45 0 l1.toNatClampNeg)]) (h' := (101, I5, J6, R0 b)) rfl (iaload_ok (n := 7) rfl rfl rfl (inA_of h.1)) ?_
        have h := And.right h
        refine WP.if_le (t := 84) (L' := [vr 10 0, vi l1, vi x1, vi (x1 + ((2 : Int32) * (I5 43 0 l1.toNatClampNeg))), vi 1000000, vn, vn]) rfl rfl rfl rfl h (fun h => ?_) (fun h => ?_)
        · exact WP.mask rfl rfl h
        · refine WP.blk (pc' := 97) (L' := [vr 10 0, vi l1, vi x1, vi (x1 + ((2 : Int32) * (I5 43 0 l1.toNatClampNeg))), vi 1000000, vi 1, vn]) (st' := [vi l1, vr 46 0]) (h' := (101, I5, J6, R0 b)) 8 rfl ?_
          refine WP.step (pc' := 98) (L' := [vr 10 0, vi l1, vi x1, vi (x1 + ((2 : Int32) * (I5 43 0 l1.toNatClampNeg))), vi 1000000, vi 1, vn]) (st' := [vi (I5 46 0 l1.toNatClampNeg)]) (h' := (101, I5, J6, R0 b)) rfl (iaload_ok (n := 7) rfl rfl rfl (inA_of h.1)) ?_
          have h := And.right h
          refine WP.blk (pc' := 99) (L' := [vr 10 0, vi l1, vi x1, vi (x1 + ((2 : Int32) * (I5 43 0 l1.toNatClampNeg))), vi 1000000, vi 1, vn]) (st' := [vi 1, vi (I5 46 0 l1.toNatClampNeg)]) (h' := (101, I5, J6, R0 b)) 1 rfl ?_
          refine WP.icmp_ne (t := 118) (L' := [vr 10 0, vi l1, vi x1, vi (x1 + ((2 : Int32) * (I5 43 0 l1.toNatClampNeg))), vi 1000000, vi 1, vn]) rfl rfl rfl rfl h (fun h => ?_) (fun h => ?_)
          · exact WP.mask rfl rfl h
          · refine WP.blk (pc' := 104) (L' := [vr 10 0, vi l1, vi x1, vi (x1 + ((2 : Int32) * (I5 43 0 l1.toNatClampNeg))), vi 1000000, vi 1, vn]) (st' := [vi (x1 + ((2 : Int32) * (I5 43 0 l1.toNatClampNeg))), vr 10 0]) (h' := (101, I5, J6, R0 b)) 2 rfl ?_
            refine WP.cal (y' := 175) (as := [vr 10 0, vi (x1 + ((2 : Int32) * (I5 43 0 l1.toNatClampNeg)))]) (L' := [vr 10 0, vi l1, vi x1, vi (x1 + ((2 : Int32) * (I5 43 0 l1.toNatClampNeg))), vi 1000000, vi 1, vn]) (rest := []) rfl (fun f r h' hf => callV_ok hf rfl rfl rfl) h ?_
            rintro _ _ ⟨x28, I29, J30, rfl, rfl, h⟩
            refine WP.blk (pc' := 111) (L' := [vr 10 0, vi l1, vi x1, vi (x1 + ((2 : Int32) * (I5 43 0 l1.toNatClampNeg))), vi 1000000, vi 1, vn]) (st' := [vi (I29 10 0 9), vi x28]) (h' := (101, I29, J30, R0 b)) 2 rfl ?_
            refine WP.icmp_ge (t := 118) (L' := [vr 10 0, vi l1, vi x1, vi (x1 + ((2 : Int32) * (I5 43 0 l1.toNatClampNeg))), vi 1000000, vi 1, vn]) rfl rfl rfl rfl h (fun h => ?_) (fun h => ?_)
            · exact WP.mask rfl rfl h
            · refine WP.blk (pc' := 147) (L' := [vr 10 0, vi l1, vi x1, vi (x1 + ((2 : Int32) * (I5 43 0 l1.toNatClampNeg))), vi 1000000, vi 1, vi 1]) (st' := []) (h' := (101, I29, J30, R0 b)) 7 rfl ?_
              exact WP.mask rfl rfl h
  · refine WP.blk (pc' := 11) (L' := [vr 10 0, vi l1, vi x1, vn, vn, vn, vn]) (st' := [vi 0]) (h' := (101, I2, J3, R0 b)) 1 rfl ?_
    exact WP.ret rfl rfl h
set_option maxRecDepth 20000 in
theorem t_X10_goesIn_84 {D : Nat} (l1 : Int32) (l2 : Int32) (l3 : Int32) (l4 : Int32) (I : IM) (J : JM) (b : Bool) {Q : Option AV → AH → Prop} (h : WP D 179 118 [vr 10 0, vi l1, vi l2, vi l3, vi l4, vi 0, vn] [] (101, I, J, R0 b) Q) : WP D 179 84 [vr 10 0, vi l1, vi l2, vi l3, vi l4, vn, vn] [] (101, I, J, R0 b) Q := by
  refine WP.blk (pc' := 118) (L' := [vr 10 0, vi l1, vi l2, vi l3, vi l4, vi 0, vn]) (st' := []) (h' := (101, I, J, R0 b)) 4 rfl ?_
  exact WP.mask rfl rfl h
set_option maxRecDepth 20000 in
theorem t_X10_goesIn_118 {D : Nat} (l1 : Int32) (l2 : Int32) (l3 : Int32) (l4 : Int32) (l5 : Int32) (I : IM) (J : JM) (b : Bool) {Q : Option AV → AH → Prop} (h : (if l5 = 0 then WP D 179 147 [vr 10 0, vi l1, vi l2, vi l3, vi l4, vi l5, vi 0] [] (101, I, J, R0 b) Q else (Call D 174 [vr 10 0, vi l3] (101, I, J, R0 b) (RIf b fun x31 I32 J33 => (vp_in l1 7 ∧ (if (I32 45 0 l1.toNatClampNeg) ≤ x31 then WP D 179 147 [vr 10 0, vi l1, vi l2, vi l3, vi l4, vi l5, vi 0] [] (101, I32, J33, R0 b) Q else Q (some (vi 0)) (101, I32, J33, R0 b))))))) : WP D 179 118 [vr 10 0, vi l1, vi l2, vi l3, vi l4, vi l5, vn] [] (101, I, J, R0 b) Q := by
  refine WP.blk (pc' := 123) (L' := [vr 10 0, vi l1, vi l2, vi l3, vi l4, vi l5, vi 0]) (st' := [vi l5]) (h' := (101, I, J, R0 b)) 3 rfl ?_
  refine WP.if_eq (t := 147) (L' := [vr 10 0, vi l1, vi l2, vi l3, vi l4, vi l5, vi 0]) rfl rfl rfl rfl h (fun h => ?_) (fun h => ?_)
  · exact WP.mask rfl rfl h
  · refine WP.blk (pc' := 133) (L' := [vr 10 0, vi l1, vi l2, vi l3, vi l4, vi l5, vi 0]) (st' := [vi l3, vr 10 0]) (h' := (101, I, J, R0 b)) 4 rfl ?_
    refine WP.cal (y' := 174) (as := [vr 10 0, vi l3]) (L' := [vr 10 0, vi l1, vi l2, vi l3, vi l4, vi l5, vi 0]) (rest := []) rfl (fun f r h' hf => callV_ok hf rfl rfl rfl) h ?_
    rintro _ _ ⟨x31, I32, J33, rfl, rfl, h⟩
    refine WP.blk (pc' := 141) (L' := [vr 10 0, vi l1, vi l2, vi l3, vi l4, vi l5, vi 0]) (st' := [vi l1, vr 45 0, vi x31]) (h' := (101, I32, J33, R0 b)) 3 rfl ?_
    refine WP.step (pc' := 142) (L' := [vr 10 0, vi l1, vi l2, vi l3, vi l4, vi l5, vi 0]) (st' := [vi (I32 45 0 l1.toNatClampNeg), vi x31]) (h' := (101, I32, J33, R0 b)) rfl (iaload_ok (n := 7) rfl rfl rfl (inA_of h.1)) ?_
    have h := And.right h
    refine WP.icmp_ge (t := 147) (L' := [vr 10 0, vi l1, vi l2, vi l3, vi l4, vi l5, vi 0]) rfl rfl rfl rfl h (fun h => ?_) (fun h => ?_)
    · exact WP.mask rfl rfl h
    · refine WP.blk (pc' := 146) (L' := [vr 10 0, vi l1, vi l2, vi l3, vi l4, vi l5, vi 0]) (st' := [vi 0]) (h' := (101, I32, J33, R0 b)) 1 rfl ?_
      exact WP.ret rfl rfl h
set_option maxRecDepth 20000 in
theorem t_X10_goesIn_147 {D : Nat} (l1 : Int32) (l2 : Int32) (l3 : Int32) (l4 : Int32) (l5 : Int32) (l6 : Int32) (I : IM) (J : JM) (b : Bool) {Q : Option AV → AH → Prop} (h : (if l5 = 0 then (vp_in l1 7 ∧ (if l5 = 0 then WP D 179 239 [vr 10 0, vi l1, vi l2, vi l3, vi l4, vn, vn] [] (101, (updI I 67 0 l1.toNatClampNeg 0), J, R0 b) Q else (vp_in (I 10 0 36) 42 ∧ (if l6 = 0 then (vp_in l1 7 ∧ (vp_in (I 10 0 36) 42 ∧ (if l6 = 0 then (vp_in (I 10 0 36) 42 ∧ WP D 179 239 [vr 10 0, vi l1, vi l2, vi l3, vi l4, vn, vn] [] (101, (updI (updI (updI (updI (updI I 67 0 l1.toNatClampNeg 0) 61 0 (I 10 0 36).toNatClampNeg (l3 + l4)) 62 0 (I 10 0 36).toNatClampNeg (I 45 0 l1.toNatClampNeg)) 63 0 (I 10 0 36).toNatClampNeg 0) 10 0 36 ((I 10 0 36) + (1 : Int32))), J, R0 b) Q) else (vp_in (I 10 0 36) 42 ∧ WP D 179 239 [vr 10 0, vi l1, vi l2, vi l3, vi l4, vn, vn] [] (101, (updI (updI (updI (updI (updI I 67 0 l1.toNatClampNeg 0) 61 0 (I 10 0 36).toNatClampNeg (l3 + l4)) 62 0 (I 10 0 36).toNatClampNeg (I 45 0 l1.toNatClampNeg)) 63 0 (I 10 0 36).toNatClampNeg 1) 10 0 36 ((I 10 0 36) + (1 : Int32))), J, R0 b) Q)))) else (vp_in (I 10 0 36) 42 ∧ (if l6 = 0 then (vp_in (I 10 0 36) 42 ∧ WP D 179 239 [vr 10 0, vi l1, vi l2, vi l3, vi l4, vn, vn] [] (101, (updI (updI (updI (updI (updI I 67 0 l1.toNatClampNeg 0) 61 0 (I 10 0 36).toNatClampNeg (l3 + l4)) 62 0 (I 10 0 36).toNatClampNeg 0) 63 0 (I 10 0 36).toNatClampNeg 0) 10 0 36 ((I 10 0 36) + (1 : Int32))), J, R0 b) Q) else (vp_in (I 10 0 36) 42 ∧ WP D 179 239 [vr 10 0, vi l1, vi l2, vi l3, vi l4, vn, vn] [] (101, (updI (updI (updI (updI (updI I 67 0 l1.toNatClampNeg 0) 61 0 (I 10 0 36).toNatClampNeg (l3 + l4)) 62 0 (I 10 0 36).toNatClampNeg 0) 63 0 (I 10 0 36).toNatClampNeg 1) 10 0 36 ((I 10 0 36) + (1 : Int32))), J, R0 b) Q))))))) else (if ¬ l6 = 0 then (vp_in l1 7 ∧ (if l5 = 0 then WP D 179 239 [vr 10 0, vi l1, vi l2, vi l3, vi l4, vn, vn] [] (101, (updI I 67 0 l1.toNatClampNeg 0), J, R0 b) Q else (vp_in (I 10 0 36) 42 ∧ (if l6 = 0 then (vp_in l1 7 ∧ (vp_in (I 10 0 36) 42 ∧ (if l6 = 0 then (vp_in (I 10 0 36) 42 ∧ WP D 179 239 [vr 10 0, vi l1, vi l2, vi l3, vi l4, vn, vn] [] (101, (updI (updI (updI (updI (updI I 67 0 l1.toNatClampNeg 0) 61 0 (I 10 0 36).toNatClampNeg (l3 + l4)) 62 0 (I 10 0 36).toNatClampNeg (I 45 0 l1.toNatClampNeg)) 63 0 (I 10 0 36).toNatClampNeg 0) 10 0 36 ((I 10 0 36) + (1 : Int32))), J, R0 b) Q) else (vp_in (I 10 0 36) 42 ∧ WP D 179 239 [vr 10 0, vi l1, vi l2, vi l3, vi l4, vn, vn] [] (101, (updI (updI (updI (updI (updI I 67 0 l1.toNatClampNeg 0) 61 0 (I 10 0 36).toNatClampNeg (l3 + l4)) 62 0 (I 10 0 36).toNatClampNeg (I 45 0 l1.toNatClampNeg)) 63 0 (I 10 0 36).toNatClampNeg 1) 10 0 36 ((I 10 0 36) + (1 : Int32))), J, R0 b) Q)))) else (vp_in (I 10 0 36) 42 ∧ (if l6 = 0 then (vp_in (I 10 0 36) 42 ∧ WP D 179 239 [vr 10 0, vi l1, vi l2, vi l3, vi l4, vn, vn] [] (101, (updI (updI (updI (updI (updI I 67 0 l1.toNatClampNeg 0) 61 0 (I 10 0 36).toNatClampNeg (l3 + l4)) 62 0 (I 10 0 36).toNatClampNeg 0) 63 0 (I 10 0 36).toNatClampNeg 0) 10 0 36 ((I 10 0 36) + (1 : Int32))), J, R0 b) Q) else (vp_in (I 10 0 36) 42 ∧ WP D 179 239 [vr 10 0, vi l1, vi l2, vi l3, vi l4, vn, vn] [] (101, (updI (updI (updI (updI (updI I 67 0 l1.toNatClampNeg 0) 61 0 (I 10 0 36).toNatClampNeg (l3 + l4)) 62 0 (I 10 0 36).toNatClampNeg 0) 63 0 (I 10 0 36).toNatClampNeg 1) 10 0 36 ((I 10 0 36) + (1 : Int32))), J, R0 b) Q))))))) else (vp_in l1 7 ∧ (if l5 = 0 then WP D 179 239 [vr 10 0, vi l1, vi l2, vi l3, vi l4, vn, vn] [] (101, (updI I 67 0 l1.toNatClampNeg 1), J, R0 b) Q else (vp_in (I 10 0 36) 42 ∧ (if l6 = 0 then (vp_in l1 7 ∧ (vp_in (I 10 0 36) 42 ∧ (if l6 = 0 then (vp_in (I 10 0 36) 42 ∧ WP D 179 239 [vr 10 0, vi l1, vi l2, vi l3, vi l4, vn, vn] [] (101, (updI (updI (updI (updI (updI I 67 0 l1.toNatClampNeg 1) 61 0 (I 10 0 36).toNatClampNeg (l3 + l4)) 62 0 (I 10 0 36).toNatClampNeg (I 45 0 l1.toNatClampNeg)) 63 0 (I 10 0 36).toNatClampNeg 0) 10 0 36 ((I 10 0 36) + (1 : Int32))), J, R0 b) Q) else (vp_in (I 10 0 36) 42 ∧ WP D 179 239 [vr 10 0, vi l1, vi l2, vi l3, vi l4, vn, vn] [] (101, (updI (updI (updI (updI (updI I 67 0 l1.toNatClampNeg 1) 61 0 (I 10 0 36).toNatClampNeg (l3 + l4)) 62 0 (I 10 0 36).toNatClampNeg (I 45 0 l1.toNatClampNeg)) 63 0 (I 10 0 36).toNatClampNeg 1) 10 0 36 ((I 10 0 36) + (1 : Int32))), J, R0 b) Q)))) else (vp_in (I 10 0 36) 42 ∧ (if l6 = 0 then (vp_in (I 10 0 36) 42 ∧ WP D 179 239 [vr 10 0, vi l1, vi l2, vi l3, vi l4, vn, vn] [] (101, (updI (updI (updI (updI (updI I 67 0 l1.toNatClampNeg 1) 61 0 (I 10 0 36).toNatClampNeg (l3 + l4)) 62 0 (I 10 0 36).toNatClampNeg 0) 63 0 (I 10 0 36).toNatClampNeg 0) 10 0 36 ((I 10 0 36) + (1 : Int32))), J, R0 b) Q) else (vp_in (I 10 0 36) 42 ∧ WP D 179 239 [vr 10 0, vi l1, vi l2, vi l3, vi l4, vn, vn] [] (101, (updI (updI (updI (updI (updI I 67 0 l1.toNatClampNeg 1) 61 0 (I 10 0 36).toNatClampNeg (l3 + l4)) 62 0 (I 10 0 36).toNatClampNeg 0) 63 0 (I 10 0 36).toNatClampNeg 1) 10 0 36 ((I 10 0 36) + (1 : Int32))), J, R0 b) Q)))))))))) : WP D 179 147 [vr 10 0, vi l1, vi l2, vi l3, vi l4, vi l5, vi l6] [] (101, I, J, R0 b) Q := by
  refine WP.blk (pc' := 154) (L' := [vr 10 0, vi l1, vi l2, vi l3, vi l4, vi l5, vi l6]) (st' := [vi l5, vi l1, vr 67 0]) (h' := (101, I, J, R0 b)) 4 rfl ?_
  refine WP.if_eq (t := 166) (L' := [vr 10 0, vi l1, vi l2, vi l3, vi l4, vi l5, vi l6]) rfl rfl rfl rfl h (fun h => ?_) (fun h => ?_)
  · refine WP.blk (pc' := 167) (L' := [vr 10 0, vi l1, vi l2, vi l3, vi l4, vi l5, vi l6]) (st' := [vi 0, vi l1, vr 67 0]) (h' := (101, I, J, R0 b)) 1 rfl ?_
    refine WP.step (pc' := 168) (L' := [vr 10 0, vi l1, vi l2, vi l3, vi l4, vi l5, vi l6]) (st' := []) (h' := (101, (updI I 67 0 l1.toNatClampNeg 0), J, R0 b)) rfl (iastore_ok (n := 7) rfl rfl rfl (inA_of h.1)) ?_
    have h := And.right h
    refine WP.blk (pc' := 170) (L' := [vr 10 0, vi l1, vi l2, vi l3, vi l4, vi l5, vi l6]) (st' := [vi l5]) (h' := (101, (updI I 67 0 l1.toNatClampNeg 0), J, R0 b)) 1 rfl ?_
    refine WP.if_eq (t := 239) (L' := [vr 10 0, vi l1, vi l2, vi l3, vi l4, vi l5, vi l6]) rfl rfl rfl rfl h (fun h => ?_) (fun h => ?_)
    · exact WP.mask rfl rfl h
    · refine WP.blk (pc' := 185) (L' := [vr 10 0, vi l1, vi l2, vi l3, vi l4, vi l5, vi l6]) (st' := [vi (l3 + l4), vi (I 10 0 36), vr 61 0]) (h' := (101, (updI I 67 0 l1.toNatClampNeg 0), J, R0 b)) 7 rfl ?_
      refine WP.step (pc' := 186) (L' := [vr 10 0, vi l1, vi l2, vi l3, vi l4, vi l5, vi l6]) (st' := []) (h' := (101, (updI (updI I 67 0 l1.toNatClampNeg 0) 61 0 (I 10 0 36).toNatClampNeg (l3 + l4)), J, R0 b)) rfl (iastore_ok (n := 42) rfl rfl rfl (inA_of h.1)) ?_
      have h := And.right h
      refine WP.blk (pc' := 196) (L' := [vr 10 0, vi l1, vi l2, vi l3, vi l4, vi l5, vi l6]) (st' := [vi l6, vi (I 10 0 36), vr 62 0]) (h' := (101, (updI (updI I 67 0 l1.toNatClampNeg 0) 61 0 (I 10 0 36).toNatClampNeg (l3 + l4)), J, R0 b)) 5 rfl ?_
      refine WP.if_eq (t := 203) (L' := [vr 10 0, vi l1, vi l2, vi l3, vi l4, vi l5, vi l6]) rfl rfl rfl rfl h (fun h => ?_) (fun h => ?_)
      · refine WP.blk (pc' := 208) (L' := [vr 10 0, vi l1, vi l2, vi l3, vi l4, vi l5, vi l6]) (st' := [vi l1, vr 45 0, vi (I 10 0 36), vr 62 0]) (h' := (101, (updI (updI I 67 0 l1.toNatClampNeg 0) 61 0 (I 10 0 36).toNatClampNeg (l3 + l4)), J, R0 b)) 3 rfl ?_
        refine WP.step (pc' := 209) (L' := [vr 10 0, vi l1, vi l2, vi l3, vi l4, vi l5, vi l6]) (st' := [vi (I 45 0 l1.toNatClampNeg), vi (I 10 0 36), vr 62 0]) (h' := (101, (updI (updI I 67 0 l1.toNatClampNeg 0) 61 0 (I 10 0 36).toNatClampNeg (l3 + l4)), J, R0 b)) rfl (iaload_ok (n := 7) rfl rfl rfl (inA_of h.1)) ?_
        have h := And.right h
        refine WP.step (pc' := 210) (L' := [vr 10 0, vi l1, vi l2, vi l3, vi l4, vn, vi l6]) (st' := []) (h' := (101, (updI (updI (updI I 67 0 l1.toNatClampNeg 0) 61 0 (I 10 0 36).toNatClampNeg (l3 + l4)) 62 0 (I 10 0 36).toNatClampNeg (I 45 0 l1.toNatClampNeg)), J, R0 b)) rfl (iastore_ok (n := 42) rfl rfl rfl (inA_of h.1)) ?_
        have h := And.right h
        refine WP.blk (pc' := 220) (L' := [vr 10 0, vi l1, vi l2, vi l3, vi l4, vn, vi l6]) (st' := [vi l6, vi (I 10 0 36), vr 63 0]) (h' := (101, (updI (updI (updI I 67 0 l1.toNatClampNeg 0) 61 0 (I 10 0 36).toNatClampNeg (l3 + l4)) 62 0 (I 10 0 36).toNatClampNeg (I 45 0 l1.toNatClampNeg)), J, R0 b)) 5 rfl ?_
        refine WP.if_eq (t := 227) (L' := [vr 10 0, vi l1, vi l2, vi l3, vi l4, vn, vi l6]) rfl rfl rfl rfl h (fun h => ?_) (fun h => ?_)
        · refine WP.blk (pc' := 228) (L' := [vr 10 0, vi l1, vi l2, vi l3, vi l4, vn, vi l6]) (st' := [vi 0, vi (I 10 0 36), vr 63 0]) (h' := (101, (updI (updI (updI I 67 0 l1.toNatClampNeg 0) 61 0 (I 10 0 36).toNatClampNeg (l3 + l4)) 62 0 (I 10 0 36).toNatClampNeg (I 45 0 l1.toNatClampNeg)), J, R0 b)) 1 rfl ?_
          refine WP.step (pc' := 229) (L' := [vr 10 0, vi l1, vi l2, vi l3, vi l4, vn, vn]) (st' := []) (h' := (101, (updI (updI (updI (updI I 67 0 l1.toNatClampNeg 0) 61 0 (I 10 0 36).toNatClampNeg (l3 + l4)) 62 0 (I 10 0 36).toNatClampNeg (I 45 0 l1.toNatClampNeg)) 63 0 (I 10 0 36).toNatClampNeg 0), J, R0 b)) rfl (iastore_ok (n := 42) rfl rfl rfl (inA_of h.1)) ?_
          have h := And.right h
          refine WP.blk (pc' := 239) (L' := [vr 10 0, vi l1, vi l2, vi l3, vi l4, vn, vn]) (st' := []) (h' := (101, (updI (updI (updI (updI (updI I 67 0 l1.toNatClampNeg 0) 61 0 (I 10 0 36).toNatClampNeg (l3 + l4)) 62 0 (I 10 0 36).toNatClampNeg (I 45 0 l1.toNatClampNeg)) 63 0 (I 10 0 36).toNatClampNeg 0) 10 0 36 ((I 10 0 36) + (1 : Int32))), J, R0 b)) 6 rfl ?_
          exact WP.mask rfl rfl h
        · refine WP.blk (pc' := 228) (L' := [vr 10 0, vi l1, vi l2, vi l3, vi l4, vn, vi l6]) (st' := [vi 1, vi (I 10 0 36), vr 63 0]) (h' := (101, (updI (updI (updI I 67 0 l1.toNatClampNeg 0) 61 0 (I 10 0 36).toNatClampNeg (l3 + l4)) 62 0 (I 10 0 36).toNatClampNeg (I 45 0 l1.toNatClampNeg)), J, R0 b)) 2 rfl ?_
          refine WP.step (pc' := 229) (L' := [vr 10 0, vi l1, vi l2, vi l3, vi l4, vn, vn]) (st' := []) (h' := (101, (updI (updI (updI (updI I 67 0 l1.toNatClampNeg 0) 61 0 (I 10 0 36).toNatClampNeg (l3 + l4)) 62 0 (I 10 0 36).toNatClampNeg (I 45 0 l1.toNatClampNeg)) 63 0 (I 10 0 36).toNatClampNeg 1), J, R0 b)) rfl (iastore_ok (n := 42) rfl rfl rfl (inA_of h.1)) ?_
          have h := And.right h
          refine WP.blk (pc' := 239) (L' := [vr 10 0, vi l1, vi l2, vi l3, vi l4, vn, vn]) (st' := []) (h' := (101, (updI (updI (updI (updI (updI I 67 0 l1.toNatClampNeg 0) 61 0 (I 10 0 36).toNatClampNeg (l3 + l4)) 62 0 (I 10 0 36).toNatClampNeg (I 45 0 l1.toNatClampNeg)) 63 0 (I 10 0 36).toNatClampNeg 1) 10 0 36 ((I 10 0 36) + (1 : Int32))), J, R0 b)) 6 rfl ?_
          exact WP.mask rfl rfl h
      · refine WP.blk (pc' := 209) (L' := [vr 10 0, vi l1, vi l2, vi l3, vi l4, vi l5, vi l6]) (st' := [vi 0, vi (I 10 0 36), vr 62 0]) (h' := (101, (updI (updI I 67 0 l1.toNatClampNeg 0) 61 0 (I 10 0 36).toNatClampNeg (l3 + l4)), J, R0 b)) 2 rfl ?_
        refine WP.step (pc' := 210) (L' := [vr 10 0, vi l1, vi l2, vi l3, vi l4, vn, vi l6]) (st' := []) (h' := (101, (updI (updI (updI I 67 0 l1.toNatClampNeg 0) 61 0 (I 10 0 36).toNatClampNeg (l3 + l4)) 62 0 (I 10 0 36).toNatClampNeg 0), J, R0 b)) rfl (iastore_ok (n := 42) rfl rfl rfl (inA_of h.1)) ?_
        have h := And.right h
        refine WP.blk (pc' := 220) (L' := [vr 10 0, vi l1, vi l2, vi l3, vi l4, vn, vi l6]) (st' := [vi l6, vi (I 10 0 36), vr 63 0]) (h' := (101, (updI (updI (updI I 67 0 l1.toNatClampNeg 0) 61 0 (I 10 0 36).toNatClampNeg (l3 + l4)) 62 0 (I 10 0 36).toNatClampNeg 0), J, R0 b)) 5 rfl ?_
        refine WP.if_eq (t := 227) (L' := [vr 10 0, vi l1, vi l2, vi l3, vi l4, vn, vi l6]) rfl rfl rfl rfl h (fun h => ?_) (fun h => ?_)
        · refine WP.blk (pc' := 228) (L' := [vr 10 0, vi l1, vi l2, vi l3, vi l4, vn, vi l6]) (st' := [vi 0, vi (I 10 0 36), vr 63 0]) (h' := (101, (updI (updI (updI I 67 0 l1.toNatClampNeg 0) 61 0 (I 10 0 36).toNatClampNeg (l3 + l4)) 62 0 (I 10 0 36).toNatClampNeg 0), J, R0 b)) 1 rfl ?_
          refine WP.step (pc' := 229) (L' := [vr 10 0, vi l1, vi l2, vi l3, vi l4, vn, vn]) (st' := []) (h' := (101, (updI (updI (updI (updI I 67 0 l1.toNatClampNeg 0) 61 0 (I 10 0 36).toNatClampNeg (l3 + l4)) 62 0 (I 10 0 36).toNatClampNeg 0) 63 0 (I 10 0 36).toNatClampNeg 0), J, R0 b)) rfl (iastore_ok (n := 42) rfl rfl rfl (inA_of h.1)) ?_
          have h := And.right h
          refine WP.blk (pc' := 239) (L' := [vr 10 0, vi l1, vi l2, vi l3, vi l4, vn, vn]) (st' := []) (h' := (101, (updI (updI (updI (updI (updI I 67 0 l1.toNatClampNeg 0) 61 0 (I 10 0 36).toNatClampNeg (l3 + l4)) 62 0 (I 10 0 36).toNatClampNeg 0) 63 0 (I 10 0 36).toNatClampNeg 0) 10 0 36 ((I 10 0 36) + (1 : Int32))), J, R0 b)) 6 rfl ?_
          exact WP.mask rfl rfl h
        · refine WP.blk (pc' := 228) (L' := [vr 10 0, vi l1, vi l2, vi l3, vi l4, vn, vi l6]) (st' := [vi 1, vi (I 10 0 36), vr 63 0]) (h' := (101, (updI (updI (updI I 67 0 l1.toNatClampNeg 0) 61 0 (I 10 0 36).toNatClampNeg (l3 + l4)) 62 0 (I 10 0 36).toNatClampNeg 0), J, R0 b)) 2 rfl ?_
          refine WP.step (pc' := 229) (L' := [vr 10 0, vi l1, vi l2, vi l3, vi l4, vn, vn]) (st' := []) (h' := (101, (updI (updI (updI (updI I 67 0 l1.toNatClampNeg 0) 61 0 (I 10 0 36).toNatClampNeg (l3 + l4)) 62 0 (I 10 0 36).toNatClampNeg 0) 63 0 (I 10 0 36).toNatClampNeg 1), J, R0 b)) rfl (iastore_ok (n := 42) rfl rfl rfl (inA_of h.1)) ?_
          have h := And.right h
          refine WP.blk (pc' := 239) (L' := [vr 10 0, vi l1, vi l2, vi l3, vi l4, vn, vn]) (st' := []) (h' := (101, (updI (updI (updI (updI (updI I 67 0 l1.toNatClampNeg 0) 61 0 (I 10 0 36).toNatClampNeg (l3 + l4)) 62 0 (I 10 0 36).toNatClampNeg 0) 63 0 (I 10 0 36).toNatClampNeg 1) 10 0 36 ((I 10 0 36) + (1 : Int32))), J, R0 b)) 6 rfl ?_
          exact WP.mask rfl rfl h
  · refine WP.blk (pc' := 159) (L' := [vr 10 0, vi l1, vi l2, vi l3, vi l4, vi l5, vi l6]) (st' := [vi l6, vi l1, vr 67 0]) (h' := (101, I, J, R0 b)) 1 rfl ?_
    refine WP.if_ne (t := 166) (L' := [vr 10 0, vi l1, vi l2, vi l3, vi l4, vi l5, vi l6]) rfl rfl rfl rfl h (fun h => ?_) (fun h => ?_)
    · refine WP.blk (pc' := 167) (L' := [vr 10 0, vi l1, vi l2, vi l3, vi l4, vi l5, vi l6]) (st' := [vi 0, vi l1, vr 67 0]) (h' := (101, I, J, R0 b)) 1 rfl ?_
      refine WP.step (pc' := 168) (L' := [vr 10 0, vi l1, vi l2, vi l3, vi l4, vi l5, vi l6]) (st' := []) (h' := (101, (updI I 67 0 l1.toNatClampNeg 0), J, R0 b)) rfl (iastore_ok (n := 7) rfl rfl rfl (inA_of h.1)) ?_
      have h := And.right h
      refine WP.blk (pc' := 170) (L' := [vr 10 0, vi l1, vi l2, vi l3, vi l4, vi l5, vi l6]) (st' := [vi l5]) (h' := (101, (updI I 67 0 l1.toNatClampNeg 0), J, R0 b)) 1 rfl ?_
      refine WP.if_eq (t := 239) (L' := [vr 10 0, vi l1, vi l2, vi l3, vi l4, vi l5, vi l6]) rfl rfl rfl rfl h (fun h => ?_) (fun h => ?_)
      · exact WP.mask rfl rfl h
      · refine WP.blk (pc' := 185) (L' := [vr 10 0, vi l1, vi l2, vi l3, vi l4, vi l5, vi l6]) (st' := [vi (l3 + l4), vi (I 10 0 36), vr 61 0]) (h' := (101, (updI I 67 0 l1.toNatClampNeg 0), J, R0 b)) 7 rfl ?_
        refine WP.step (pc' := 186) (L' := [vr 10 0, vi l1, vi l2, vi l3, vi l4, vi l5, vi l6]) (st' := []) (h' := (101, (updI (updI I 67 0 l1.toNatClampNeg 0) 61 0 (I 10 0 36).toNatClampNeg (l3 + l4)), J, R0 b)) rfl (iastore_ok (n := 42) rfl rfl rfl (inA_of h.1)) ?_
        have h := And.right h
        refine WP.blk (pc' := 196) (L' := [vr 10 0, vi l1, vi l2, vi l3, vi l4, vi l5, vi l6]) (st' := [vi l6, vi (I 10 0 36), vr 62 0]) (h' := (101, (updI (updI I 67 0 l1.toNatClampNeg 0) 61 0 (I 10 0 36).toNatClampNeg (l3 + l4)), J, R0 b)) 5 rfl ?_
        refine WP.if_eq (t := 203) (L' := [vr 10 0, vi l1, vi l2, vi l3, vi l4, vi l5, vi l6]) rfl rfl rfl rfl h (fun h => ?_) (fun h => ?_)
        · refine WP.blk (pc' := 208) (L' := [vr 10 0, vi l1, vi l2, vi l3, vi l4, vi l5, vi l6]) (st' := [vi l1, vr 45 0, vi (I 10 0 36), vr 62 0]) (h' := (101, (updI (updI I 67 0 l1.toNatClampNeg 0) 61 0 (I 10 0 36).toNatClampNeg (l3 + l4)), J, R0 b)) 3 rfl ?_
          refine WP.step (pc' := 209) (L' := [vr 10 0, vi l1, vi l2, vi l3, vi l4, vi l5, vi l6]) (st' := [vi (I 45 0 l1.toNatClampNeg), vi (I 10 0 36), vr 62 0]) (h' := (101, (updI (updI I 67 0 l1.toNatClampNeg 0) 61 0 (I 10 0 36).toNatClampNeg (l3 + l4)), J, R0 b)) rfl (iaload_ok (n := 7) rfl rfl rfl (inA_of h.1)) ?_
          have h := And.right h
          refine WP.step (pc' := 210) (L' := [vr 10 0, vi l1, vi l2, vi l3, vi l4, vn, vi l6]) (st' := []) (h' := (101, (updI (updI (updI I 67 0 l1.toNatClampNeg 0) 61 0 (I 10 0 36).toNatClampNeg (l3 + l4)) 62 0 (I 10 0 36).toNatClampNeg (I 45 0 l1.toNatClampNeg)), J, R0 b)) rfl (iastore_ok (n := 42) rfl rfl rfl (inA_of h.1)) ?_
          have h := And.right h
          refine WP.blk (pc' := 220) (L' := [vr 10 0, vi l1, vi l2, vi l3, vi l4, vn, vi l6]) (st' := [vi l6, vi (I 10 0 36), vr 63 0]) (h' := (101, (updI (updI (updI I 67 0 l1.toNatClampNeg 0) 61 0 (I 10 0 36).toNatClampNeg (l3 + l4)) 62 0 (I 10 0 36).toNatClampNeg (I 45 0 l1.toNatClampNeg)), J, R0 b)) 5 rfl ?_
          refine WP.if_eq (t := 227) (L' := [vr 10 0, vi l1, vi l2, vi l3, vi l4, vn, vi l6]) rfl rfl rfl rfl h (fun h => ?_) (fun h => ?_)
          · refine WP.blk (pc' := 228) (L' := [vr 10 0, vi l1, vi l2, vi l3, vi l4, vn, vi l6]) (st' := [vi 0, vi (I 10 0 36), vr 63 0]) (h' := (101, (updI (updI (updI I 67 0 l1.toNatClampNeg 0) 61 0 (I 10 0 36).toNatClampNeg (l3 + l4)) 62 0 (I 10 0 36).toNatClampNeg (I 45 0 l1.toNatClampNeg)), J, R0 b)) 1 rfl ?_
            refine WP.step (pc' := 229) (L' := [vr 10 0, vi l1, vi l2, vi l3, vi l4, vn, vn]) (st' := []) (h' := (101, (updI (updI (updI (updI I 67 0 l1.toNatClampNeg 0) 61 0 (I 10 0 36).toNatClampNeg (l3 + l4)) 62 0 (I 10 0 36).toNatClampNeg (I 45 0 l1.toNatClampNeg)) 63 0 (I 10 0 36).toNatClampNeg 0), J, R0 b)) rfl (iastore_ok (n := 42) rfl rfl rfl (inA_of h.1)) ?_
            have h := And.right h
            refine WP.blk (pc' := 239) (L' := [vr 10 0, vi l1, vi l2, vi l3, vi l4, vn, vn]) (st' := []) (h' := (101, (updI (updI (updI (updI (updI I 67 0 l1.toNatClampNeg 0) 61 0 (I 10 0 36).toNatClampNeg (l3 + l4)) 62 0 (I 10 0 36).toNatClampNeg (I 45 0 l1.toNatClampNeg)) 63 0 (I 10 0 36).toNatClampNeg 0) 10 0 36 ((I 10 0 36) + (1 : Int32))), J, R0 b)) 6 rfl ?_
            exact WP.mask rfl rfl h
          · refine WP.blk (pc' := 228) (L' := [vr 10 0, vi l1, vi l2, vi l3, vi l4, vn, vi l6]) (st' := [vi 1, vi (I 10 0 36), vr 63 0]) (h' := (101, (updI (updI (updI I 67 0 l1.toNatClampNeg 0) 61 0 (I 10 0 36).toNatClampNeg (l3 + l4)) 62 0 (I 10 0 36).toNatClampNeg (I 45 0 l1.toNatClampNeg)), J, R0 b)) 2 rfl ?_
            refine WP.step (pc' := 229) (L' := [vr 10 0, vi l1, vi l2, vi l3, vi l4, vn, vn]) (st' := []) (h' := (101, (updI (updI (updI (updI I 67 0 l1.toNatClampNeg 0) 61 0 (I 10 0 36).toNatClampNeg (l3 + l4)) 62 0 (I 10 0 36).toNatClampNeg (I 45 0 l1.toNatClampNeg)) 63 0 (I 10 0 36).toNatClampNeg 1), J, R0 b)) rfl (iastore_ok (n := 42) rfl rfl rfl (inA_of h.1)) ?_
            have h := And.right h
            refine WP.blk (pc' := 239) (L' := [vr 10 0, vi l1, vi l2, vi l3, vi l4, vn, vn]) (st' := []) (h' := (101, (updI (updI (updI (updI (updI I 67 0 l1.toNatClampNeg 0) 61 0 (I 10 0 36).toNatClampNeg (l3 + l4)) 62 0 (I 10 0 36).toNatClampNeg (I 45 0 l1.toNatClampNeg)) 63 0 (I 10 0 36).toNatClampNeg 1) 10 0 36 ((I 10 0 36) + (1 : Int32))), J, R0 b)) 6 rfl ?_
            exact WP.mask rfl rfl h
        · refine WP.blk (pc' := 209) (L' := [vr 10 0, vi l1, vi l2, vi l3, vi l4, vi l5, vi l6]) (st' := [vi 0, vi (I 10 0 36), vr 62 0]) (h' := (101, (updI (updI I 67 0 l1.toNatClampNeg 0) 61 0 (I 10 0 36).toNatClampNeg (l3 + l4)), J, R0 b)) 2 rfl ?_
          refine WP.step (pc' := 210) (L' := [vr 10 0, vi l1, vi l2, vi l3, vi l4, vn, vi l6]) (st' := []) (h' := (101, (updI (updI (updI I 67 0 l1.toNatClampNeg 0) 61 0 (I 10 0 36).toNatClampNeg (l3 + l4)) 62 0 (I 10 0 36).toNatClampNeg 0), J, R0 b)) rfl (iastore_ok (n := 42) rfl rfl rfl (inA_of h.1)) ?_
          have h := And.right h
          refine WP.blk (pc' := 220) (L' := [vr 10 0, vi l1, vi l2, vi l3, vi l4, vn, vi l6]) (st' := [vi l6, vi (I 10 0 36), vr 63 0]) (h' := (101, (updI (updI (updI I 67 0 l1.toNatClampNeg 0) 61 0 (I 10 0 36).toNatClampNeg (l3 + l4)) 62 0 (I 10 0 36).toNatClampNeg 0), J, R0 b)) 5 rfl ?_
          refine WP.if_eq (t := 227) (L' := [vr 10 0, vi l1, vi l2, vi l3, vi l4, vn, vi l6]) rfl rfl rfl rfl h (fun h => ?_) (fun h => ?_)
          · refine WP.blk (pc' := 228) (L' := [vr 10 0, vi l1, vi l2, vi l3, vi l4, vn, vi l6]) (st' := [vi 0, vi (I 10 0 36), vr 63 0]) (h' := (101, (updI (updI (updI I 67 0 l1.toNatClampNeg 0) 61 0 (I 10 0 36).toNatClampNeg (l3 + l4)) 62 0 (I 10 0 36).toNatClampNeg 0), J, R0 b)) 1 rfl ?_
            refine WP.step (pc' := 229) (L' := [vr 10 0, vi l1, vi l2, vi l3, vi l4, vn, vn]) (st' := []) (h' := (101, (updI (updI (updI (updI I 67 0 l1.toNatClampNeg 0) 61 0 (I 10 0 36).toNatClampNeg (l3 + l4)) 62 0 (I 10 0 36).toNatClampNeg 0) 63 0 (I 10 0 36).toNatClampNeg 0), J, R0 b)) rfl (iastore_ok (n := 42) rfl rfl rfl (inA_of h.1)) ?_
            have h := And.right h
            refine WP.blk (pc' := 239) (L' := [vr 10 0, vi l1, vi l2, vi l3, vi l4, vn, vn]) (st' := []) (h' := (101, (updI (updI (updI (updI (updI I 67 0 l1.toNatClampNeg 0) 61 0 (I 10 0 36).toNatClampNeg (l3 + l4)) 62 0 (I 10 0 36).toNatClampNeg 0) 63 0 (I 10 0 36).toNatClampNeg 0) 10 0 36 ((I 10 0 36) + (1 : Int32))), J, R0 b)) 6 rfl ?_
            exact WP.mask rfl rfl h
          · refine WP.blk (pc' := 228) (L' := [vr 10 0, vi l1, vi l2, vi l3, vi l4, vn, vi l6]) (st' := [vi 1, vi (I 10 0 36), vr 63 0]) (h' := (101, (updI (updI (updI I 67 0 l1.toNatClampNeg 0) 61 0 (I 10 0 36).toNatClampNeg (l3 + l4)) 62 0 (I 10 0 36).toNatClampNeg 0), J, R0 b)) 2 rfl ?_
            refine WP.step (pc' := 229) (L' := [vr 10 0, vi l1, vi l2, vi l3, vi l4, vn, vn]) (st' := []) (h' := (101, (updI (updI (updI (updI I 67 0 l1.toNatClampNeg 0) 61 0 (I 10 0 36).toNatClampNeg (l3 + l4)) 62 0 (I 10 0 36).toNatClampNeg 0) 63 0 (I 10 0 36).toNatClampNeg 1), J, R0 b)) rfl (iastore_ok (n := 42) rfl rfl rfl (inA_of h.1)) ?_
            have h := And.right h
            refine WP.blk (pc' := 239) (L' := [vr 10 0, vi l1, vi l2, vi l3, vi l4, vn, vn]) (st' := []) (h' := (101, (updI (updI (updI (updI (updI I 67 0 l1.toNatClampNeg 0) 61 0 (I 10 0 36).toNatClampNeg (l3 + l4)) 62 0 (I 10 0 36).toNatClampNeg 0) 63 0 (I 10 0 36).toNatClampNeg 1) 10 0 36 ((I 10 0 36) + (1 : Int32))), J, R0 b)) 6 rfl ?_
            exact WP.mask rfl rfl h
    · refine WP.blk (pc' := 167) (L' := [vr 10 0, vi l1, vi l2, vi l3, vi l4, vi l5, vi l6]) (st' := [vi 1, vi l1, vr 67 0]) (h' := (101, I, J, R0 b)) 2 rfl ?_
      refine WP.step (pc' := 168) (L' := [vr 10 0, vi l1, vi l2, vi l3, vi l4, vi l5, vi l6]) (st' := []) (h' := (101, (updI I 67 0 l1.toNatClampNeg 1), J, R0 b)) rfl (iastore_ok (n := 7) rfl rfl rfl (inA_of h.1)) ?_
      have h := And.right h
      refine WP.blk (pc' := 170) (L' := [vr 10 0, vi l1, vi l2, vi l3, vi l4, vi l5, vi l6]) (st' := [vi l5]) (h' := (101, (updI I 67 0 l1.toNatClampNeg 1), J, R0 b)) 1 rfl ?_
      refine WP.if_eq (t := 239) (L' := [vr 10 0, vi l1, vi l2, vi l3, vi l4, vi l5, vi l6]) rfl rfl rfl rfl h (fun h => ?_) (fun h => ?_)
      · exact WP.mask rfl rfl h
      · refine WP.blk (pc' := 185) (L' := [vr 10 0, vi l1, vi l2, vi l3, vi l4, vi l5, vi l6]) (st' := [vi (l3 + l4), vi (I 10 0 36), vr 61 0]) (h' := (101, (updI I 67 0 l1.toNatClampNeg 1), J, R0 b)) 7 rfl ?_
        refine WP.step (pc' := 186) (L' := [vr 10 0, vi l1, vi l2, vi l3, vi l4, vi l5, vi l6]) (st' := []) (h' := (101, (updI (updI I 67 0 l1.toNatClampNeg 1) 61 0 (I 10 0 36).toNatClampNeg (l3 + l4)), J, R0 b)) rfl (iastore_ok (n := 42) rfl rfl rfl (inA_of h.1)) ?_
        have h := And.right h
        refine WP.blk (pc' := 196) (L' := [vr 10 0, vi l1, vi l2, vi l3, vi l4, vi l5, vi l6]) (st' := [vi l6, vi (I 10 0 36), vr 62 0]) (h' := (101, (updI (updI I 67 0 l1.toNatClampNeg 1) 61 0 (I 10 0 36).toNatClampNeg (l3 + l4)), J, R0 b)) 5 rfl ?_
        refine WP.if_eq (t := 203) (L' := [vr 10 0, vi l1, vi l2, vi l3, vi l4, vi l5, vi l6]) rfl rfl rfl rfl h (fun h => ?_) (fun h => ?_)
        · refine WP.blk (pc' := 208) (L' := [vr 10 0, vi l1, vi l2, vi l3, vi l4, vi l5, vi l6]) (st' := [vi l1, vr 45 0, vi (I 10 0 36), vr 62 0]) (h' := (101, (updI (updI I 67 0 l1.toNatClampNeg 1) 61 0 (I 10 0 36).toNatClampNeg (l3 + l4)), J, R0 b)) 3 rfl ?_
          refine WP.step (pc' := 209) (L' := [vr 10 0, vi l1, vi l2, vi l3, vi l4, vi l5, vi l6]) (st' := [vi (I 45 0 l1.toNatClampNeg), vi (I 10 0 36), vr 62 0]) (h' := (101, (updI (updI I 67 0 l1.toNatClampNeg 1) 61 0 (I 10 0 36).toNatClampNeg (l3 + l4)), J, R0 b)) rfl (iaload_ok (n := 7) rfl rfl rfl (inA_of h.1)) ?_
          have h := And.right h
          refine WP.step (pc' := 210) (L' := [vr 10 0, vi l1, vi l2, vi l3, vi l4, vn, vi l6]) (st' := []) (h' := (101, (updI (updI (updI I 67 0 l1.toNatClampNeg 1) 61 0 (I 10 0 36).toNatClampNeg (l3 + l4)) 62 0 (I 10 0 36).toNatClampNeg (I 45 0 l1.toNatClampNeg)), J, R0 b)) rfl (iastore_ok (n := 42) rfl rfl rfl (inA_of h.1)) ?_
          have h := And.right h
          refine WP.blk (pc' := 220) (L' := [vr 10 0, vi l1, vi l2, vi l3, vi l4, vn, vi l6]) (st' := [vi l6, vi (I 10 0 36), vr 63 0]) (h' := (101, (updI (updI (updI I 67 0 l1.toNatClampNeg 1) 61 0 (I 10 0 36).toNatClampNeg (l3 + l4)) 62 0 (I 10 0 36).toNatClampNeg (I 45 0 l1.toNatClampNeg)), J, R0 b)) 5 rfl ?_
          refine WP.if_eq (t := 227) (L' := [vr 10 0, vi l1, vi l2, vi l3, vi l4, vn, vi l6]) rfl rfl rfl rfl h (fun h => ?_) (fun h => ?_)
          · refine WP.blk (pc' := 228) (L' := [vr 10 0, vi l1, vi l2, vi l3, vi l4, vn, vi l6]) (st' := [vi 0, vi (I 10 0 36), vr 63 0]) (h' := (101, (updI (updI (updI I 67 0 l1.toNatClampNeg 1) 61 0 (I 10 0 36).toNatClampNeg (l3 + l4)) 62 0 (I 10 0 36).toNatClampNeg (I 45 0 l1.toNatClampNeg)), J, R0 b)) 1 rfl ?_
            refine WP.step (pc' := 229) (L' := [vr 10 0, vi l1, vi l2, vi l3, vi l4, vn, vn]) (st' := []) (h' := (101, (updI (updI (updI (updI I 67 0 l1.toNatClampNeg 1) 61 0 (I 10 0 36).toNatClampNeg (l3 + l4)) 62 0 (I 10 0 36).toNatClampNeg (I 45 0 l1.toNatClampNeg)) 63 0 (I 10 0 36).toNatClampNeg 0), J, R0 b)) rfl (iastore_ok (n := 42) rfl rfl rfl (inA_of h.1)) ?_
            have h := And.right h
            refine WP.blk (pc' := 239) (L' := [vr 10 0, vi l1, vi l2, vi l3, vi l4, vn, vn]) (st' := []) (h' := (101, (updI (updI (updI (updI (updI I 67 0 l1.toNatClampNeg 1) 61 0 (I 10 0 36).toNatClampNeg (l3 + l4)) 62 0 (I 10 0 36).toNatClampNeg (I 45 0 l1.toNatClampNeg)) 63 0 (I 10 0 36).toNatClampNeg 0) 10 0 36 ((I 10 0 36) + (1 : Int32))), J, R0 b)) 6 rfl ?_
            exact WP.mask rfl rfl h
          · refine WP.blk (pc' := 228) (L' := [vr 10 0, vi l1, vi l2, vi l3, vi l4, vn, vi l6]) (st' := [vi 1, vi (I 10 0 36), vr 63 0]) (h' := (101, (updI (updI (updI I 67 0 l1.toNatClampNeg 1) 61 0 (I 10 0 36).toNatClampNeg (l3 + l4)) 62 0 (I 10 0 36).toNatClampNeg (I 45 0 l1.toNatClampNeg)), J, R0 b)) 2 rfl ?_
            refine WP.step (pc' := 229) (L' := [vr 10 0, vi l1, vi l2, vi l3, vi l4, vn, vn]) (st' := []) (h' := (101, (updI (updI (updI (updI I 67 0 l1.toNatClampNeg 1) 61 0 (I 10 0 36).toNatClampNeg (l3 + l4)) 62 0 (I 10 0 36).toNatClampNeg (I 45 0 l1.toNatClampNeg)) 63 0 (I 10 0 36).toNatClampNeg 1), J, R0 b)) rfl (iastore_ok (n := 42) rfl rfl rfl (inA_of h.1)) ?_
            have h := And.right h
            refine WP.blk (pc' := 239) (L' := [vr 10 0, vi l1, vi l2, vi l3, vi l4, vn, vn]) (st' := []) (h' := (101, (updI (updI (updI (updI (updI I 67 0 l1.toNatClampNeg 1) 61 0 (I 10 0 36).toNatClampNeg (l3 + l4)) 62 0 (I 10 0 36).toNatClampNeg (I 45 0 l1.toNatClampNeg)) 63 0 (I 10 0 36).toNatClampNeg 1) 10 0 36 ((I 10 0 36) + (1 : Int32))), J, R0 b)) 6 rfl ?_
            exact WP.mask rfl rfl h
        · refine WP.blk (pc' := 209) (L' := [vr 10 0, vi l1, vi l2, vi l3, vi l4, vi l5, vi l6]) (st' := [vi 0, vi (I 10 0 36), vr 62 0]) (h' := (101, (updI (updI I 67 0 l1.toNatClampNeg 1) 61 0 (I 10 0 36).toNatClampNeg (l3 + l4)), J, R0 b)) 2 rfl ?_
          refine WP.step (pc' := 210) (L' := [vr 10 0, vi l1, vi l2, vi l3, vi l4, vn, vi l6]) (st' := []) (h' := (101, (updI (updI (updI I 67 0 l1.toNatClampNeg 1) 61 0 (I 10 0 36).toNatClampNeg (l3 + l4)) 62 0 (I 10 0 36).toNatClampNeg 0), J, R0 b)) rfl (iastore_ok (n := 42) rfl rfl rfl (inA_of h.1)) ?_
          have h := And.right h
          refine WP.blk (pc' := 220) (L' := [vr 10 0, vi l1, vi l2, vi l3, vi l4, vn, vi l6]) (st' := [vi l6, vi (I 10 0 36), vr 63 0]) (h' := (101, (updI (updI (updI I 67 0 l1.toNatClampNeg 1) 61 0 (I 10 0 36).toNatClampNeg (l3 + l4)) 62 0 (I 10 0 36).toNatClampNeg 0), J, R0 b)) 5 rfl ?_
          refine WP.if_eq (t := 227) (L' := [vr 10 0, vi l1, vi l2, vi l3, vi l4, vn, vi l6]) rfl rfl rfl rfl h (fun h => ?_) (fun h => ?_)
          · refine WP.blk (pc' := 228) (L' := [vr 10 0, vi l1, vi l2, vi l3, vi l4, vn, vi l6]) (st' := [vi 0, vi (I 10 0 36), vr 63 0]) (h' := (101, (updI (updI (updI I 67 0 l1.toNatClampNeg 1) 61 0 (I 10 0 36).toNatClampNeg (l3 + l4)) 62 0 (I 10 0 36).toNatClampNeg 0), J, R0 b)) 1 rfl ?_
            refine WP.step (pc' := 229) (L' := [vr 10 0, vi l1, vi l2, vi l3, vi l4, vn, vn]) (st' := []) (h' := (101, (updI (updI (updI (updI I 67 0 l1.toNatClampNeg 1) 61 0 (I 10 0 36).toNatClampNeg (l3 + l4)) 62 0 (I 10 0 36).toNatClampNeg 0) 63 0 (I 10 0 36).toNatClampNeg 0), J, R0 b)) rfl (iastore_ok (n := 42) rfl rfl rfl (inA_of h.1)) ?_
            have h := And.right h
            refine WP.blk (pc' := 239) (L' := [vr 10 0, vi l1, vi l2, vi l3, vi l4, vn, vn]) (st' := []) (h' := (101, (updI (updI (updI (updI (updI I 67 0 l1.toNatClampNeg 1) 61 0 (I 10 0 36).toNatClampNeg (l3 + l4)) 62 0 (I 10 0 36).toNatClampNeg 0) 63 0 (I 10 0 36).toNatClampNeg 0) 10 0 36 ((I 10 0 36) + (1 : Int32))), J, R0 b)) 6 rfl ?_
            exact WP.mask rfl rfl h
          · refine WP.blk (pc' := 228) (L' := [vr 10 0, vi l1, vi l2, vi l3, vi l4, vn, vi l6]) (st' := [vi 1, vi (I 10 0 36), vr 63 0]) (h' := (101, (updI (updI (updI I 67 0 l1.toNatClampNeg 1) 61 0 (I 10 0 36).toNatClampNeg (l3 + l4)) 62 0 (I 10 0 36).toNatClampNeg 0), J, R0 b)) 2 rfl ?_
            refine WP.step (pc' := 229) (L' := [vr 10 0, vi l1, vi l2, vi l3, vi l4, vn, vn]) (st' := []) (h' := (101, (updI (updI (updI (updI I 67 0 l1.toNatClampNeg 1) 61 0 (I 10 0 36).toNatClampNeg (l3 + l4)) 62 0 (I 10 0 36).toNatClampNeg 0) 63 0 (I 10 0 36).toNatClampNeg 1), J, R0 b)) rfl (iastore_ok (n := 42) rfl rfl rfl (inA_of h.1)) ?_
            have h := And.right h
            refine WP.blk (pc' := 239) (L' := [vr 10 0, vi l1, vi l2, vi l3, vi l4, vn, vn]) (st' := []) (h' := (101, (updI (updI (updI (updI (updI I 67 0 l1.toNatClampNeg 1) 61 0 (I 10 0 36).toNatClampNeg (l3 + l4)) 62 0 (I 10 0 36).toNatClampNeg 0) 63 0 (I 10 0 36).toNatClampNeg 1) 10 0 36 ((I 10 0 36) + (1 : Int32))), J, R0 b)) 6 rfl ?_
            exact WP.mask rfl rfl h
set_option maxRecDepth 20000 in
theorem t_X10_goesIn_239 {D : Nat} (l1 : Int32) (l2 : Int32) (l3 : Int32) (l4 : Int32) (I : IM) (J : JM) (b : Bool) {Q : Option AV → AH → Prop} (h : (Call D 175 [vr 10 0, vi l3] (101, I, J, R0 b) (RIf b fun x34 I35 J36 => (if x34 ≤ (I35 10 0 43) then WP D 179 260 [vr 10 0, vi l1, vi l2, vi l3, vi l4, vn, vn] [] (101, I35, J36, R0 b) Q else (Call D 175 [vr 10 0, vi l3] (101, I35, J36, R0 b) (RIf b fun x37 I38 J39 => WP D 179 260 [vr 10 0, vi l1, vi l2, vi l3, vi l4, vn, vn] [] (101, (updI I38 10 0 43 x37), J39, R0 b) Q)))))) : WP D 179 239 [vr 10 0, vi l1, vi l2, vi l3, vi l4, vn, vn] [] (101, I, J, R0 b) Q := by
  refine WP.blk (pc' := 241) (L' := [vr 10 0, vi l1, vi l2, vi l3, vi l4, vn, vn]) (st' := [vi l3, vr 10 0]) (h' := (101, I, J, R0 b)) 2 rfl ?_
  refine WP.cal (y' := 175) (as := [vr 10 0, vi l3]) (L' := [vr 10 0, vi l1, vi l2, vi l3, vi l4, vn, vn]) (rest := []) rfl (fun f r h' hf => callV_ok hf rfl rfl rfl) h ?_
  rintro _ _ ⟨x34, I35, J36, rfl, rfl, h⟩
  refine WP.blk (pc' := 248) (L' := [vr 10 0, vi l1, vi l2, vi l3, vi l4, vn, vn]) (st' := [vi (I35 10 0 43), vi x34]) (h' := (101, I35, J36, R0 b)) 2 rfl ?_
  refine WP.icmp_le (t := 260) (L' := [vr 10 0, vi l1, vi l2, vi l3, vi l4, vn, vn]) rfl rfl rfl rfl h (fun h => ?_) (fun h => ?_)
  · exact WP.mask rfl rfl h
  · refine WP.blk (pc' := 254) (L' := [vr 10 0, vi l1, vi l2, vi l3, vi l4, vn, vn]) (st' := [vi l3, vr 10 0, vr 10 0]) (h' := (101, I35, J36, R0 b)) 3 rfl ?_
    refine WP.cal (y' := 175) (as := [vr 10 0, vi l3]) (L' := [vr 10 0, vi l1, vi l2, vi l3, vi l4, vn, vn]) (rest := [vr 10 0]) rfl (fun f r h' hf => callV_ok hf rfl rfl rfl) h ?_
    rintro _ _ ⟨x37, I38, J39, rfl, rfl, h⟩
    refine WP.blk (pc' := 260) (L' := [vr 10 0, vi l1, vi l2, vi l3, vi l4, vn, vn]) (st' := []) (h' := (101, (updI I38 10 0 43 x37), J39, R0 b)) 1 rfl ?_
    exact WP.mask rfl rfl h
set_option maxRecDepth 20000 in
theorem t_X10_goesIn_260 {D : Nat} (l1 : Int32) (l2 : Int32) (l3 : Int32) (l4 : Int32) (I : IM) (J : JM) (b : Bool) {Q : Option AV → AH → Prop} (h : (vp_in l1 7 ∧ (vp_in l1 7 ∧ (vp_in l1 7 ∧ Q (some (vi 1)) (101, (updI (updI (updI (updI (updI I 64 0 l1.toNatClampNeg l2) 65 0 l1.toNatClampNeg l3) 66 0 l1.toNatClampNeg (l3 + l4)) 10 0 38 ((I 10 0 38) ||| ((1 : Int32) <<< (l1 &&& 31)))) 10 0 37 l3), J, R0 b))))) : WP D 179 260 [vr 10 0, vi l1, vi l2, vi l3, vi l4, vn, vn] [] (101, I, J, R0 b) Q := by
  refine WP.blk (pc' := 266) (L' := [vr 10 0, vi l1, vi l2, vi l3, vi l4, vn, vn]) (st' := [vi l2, vi l1, vr 64 0]) (h' := (101, I, J, R0 b)) 4 rfl ?_
  refine WP.step (pc' := 267) (L' := [vr 10 0, vi l1, vi l2, vi l3, vi l4, vn, vn]) (st' := []) (h' := (101, (updI I 64 0 l1.toNatClampNeg l2), J, R0 b)) rfl (iastore_ok (n := 7) rfl rfl rfl (inA_of h.1)) ?_
  have h := And.right h
  refine WP.blk (pc' := 273) (L' := [vr 10 0, vi l1, vi l2, vi l3, vi l4, vn, vn]) (st' := [vi l3, vi l1, vr 65 0]) (h' := (101, (updI I 64 0 l1.toNatClampNeg l2), J, R0 b)) 4 rfl ?_
  refine WP.step (pc' := 274) (L' := [vr 10 0, vi l1, vi l2, vi l3, vi l4, vn, vn]) (st' := []) (h' := (101, (updI (updI I 64 0 l1.toNatClampNeg l2) 65 0 l1.toNatClampNeg l3), J, R0 b)) rfl (iastore_ok (n := 7) rfl rfl rfl (inA_of h.1)) ?_
  have h := And.right h
  refine WP.blk (pc' := 283) (L' := [vr 10 0, vi l1, vi l2, vi l3, vi l4, vn, vn]) (st' := [vi (l3 + l4), vi l1, vr 66 0]) (h' := (101, (updI (updI I 64 0 l1.toNatClampNeg l2) 65 0 l1.toNatClampNeg l3), J, R0 b)) 6 rfl ?_
  refine WP.step (pc' := 284) (L' := [vr 10 0, vi l1, vi l2, vi l3, vi l4, vn, vn]) (st' := []) (h' := (101, (updI (updI (updI I 64 0 l1.toNatClampNeg l2) 65 0 l1.toNatClampNeg l3) 66 0 l1.toNatClampNeg (l3 + l4)), J, R0 b)) rfl (iastore_ok (n := 7) rfl rfl rfl (inA_of h.1)) ?_
  have h := And.right h
  refine WP.blk (pc' := 302) (L' := [vr 10 0, vi l1, vi l2, vi l3, vi l4, vn, vn]) (st' := [vi 1]) (h' := (101, (updI (updI (updI (updI (updI I 64 0 l1.toNatClampNeg l2) 65 0 l1.toNatClampNeg l3) 66 0 l1.toNatClampNeg (l3 + l4)) 10 0 38 ((I 10 0 38) ||| ((1 : Int32) <<< (l1 &&& 31)))) 10 0 37 l3), J, R0 b)) 12 rfl ?_
  exact WP.ret rfl rfl h
set_option maxRecDepth 20000 in
theorem t_X10_isOrdered {D : Nat} (l1 : Int32) (I : IM) (J : JM) (b : Bool) {Q : Option AV → AH → Prop} (h : WP D 180 2 [vr 10 0, vi l1, vi 0] [] (101, I, J, R0 b) Q) : Call (D + 1) 180 [vr 10 0, vi l1] (101, I, J, R0 b) Q := by
  refine Call.of rfl ?_
  show WP D 180 0 [vr 10 0, vi l1, vn] [] (101, I, J, R0 b) Q
  refine WP.blk (pc' := 2) (L' := [vr 10 0, vi l1, vi 0]) (st' := []) (h' := (101, I, J, R0 b)) 2 rfl ?_
  exact WP.mask rfl rfl h
set_option maxRecDepth 20000 in
theorem t_X10_isOrdered_2 {D : Nat} (l1 : Int32) (l2 : Int32) (I : IM) (J : JM) (b : Bool) {Q : Option AV → AH → Prop} (h : (if (I 10 0 48) ≤ l2 then Q (some (vi 0)) (101, I, J, R0 b) else (vp_in l2 7 ∧ (if ¬ (I 68 0 l2.toNatClampNeg) = l1 then WP D 180 2 [vr 10 0, vi l1, vi (l2 + 1)] [] (101, I, J, R0 b) Q else Q (some (vi 1)) (101, I, J, R0 b))))) : WP D 180 2 [vr 10 0, vi l1, vi l2] [] (101, I, J, R0 b) Q := by
  refine WP.blk (pc' := 7) (L' := [vr 10 0, vi l1, vi l2]) (st' := [vi (I 10 0 48), vi l2]) (h' := (101, I, J, R0 b)) 3 rfl ?_
  refine WP.icmp_ge (t := 28) (L' := [vr 10 0, vi l1, vi l2]) rfl rfl rfl rfl h (fun h => ?_) (fun h => ?_)
  · refine WP.blk (pc' := 29) (L' := [vr 10 0, vi l1, vi l2]) (st' := [vi 0]) (h' := (101, I, J, R0 b)) 1 rfl ?_
    exact WP.ret rfl rfl h
  · refine WP.blk (pc' := 15) (L' := [vr 10 0, vi l1, vi l2]) (st' := [vi l2, vr 68 0]) (h' := (101, I, J, R0 b)) 3 rfl ?_
    refine WP.step (pc' := 16) (L' := [vr 10 0, vi l1, vi l2]) (st' := [vi (I 68 0 l2.toNatClampNeg)]) (h' := (101, I, J, R0 b)) rfl (iaload_ok (n := 7) rfl rfl rfl (inA_of h.1)) ?_
    have h := And.right h
    refine WP.blk (pc' := 17) (L' := [vr 10 0, vi l1, vi l2]) (st' := [vi l1, vi (I 68 0 l2.toNatClampNeg)]) (h' := (101, I, J, R0 b)) 1 rfl ?_
    refine WP.icmp_ne (t := 22) (L' := [vr 10 0, vi l1, vi l2]) rfl rfl rfl rfl h (fun h => ?_) (fun h => ?_)
    · refine WP.blk (pc' := 2) (L' := [vr 10 0, vi l1, vi (l2 + 1)]) (st' := []) (h' := (101, I, J, R0 b)) 2 rfl ?_
      exact WP.mask rfl rfl h
    · refine WP.blk (pc' := 21) (L' := [vr 10 0, vi l1, vi l2]) (st' := [vi 1]) (h' := (101, I, J, R0 b)) 1 rfl ?_
      exact WP.ret rfl rfl h
set_option maxRecDepth 20000 in
theorem t_X10_rowFault {D : Nat} (l1 : Int32) (l2 : Int32) (I : IM) (J : JM) (b : Bool) {Q : Option AV → AH → Prop} (h : (vp_in l1 6 ∧ (if ¬ (I 81 0 l1.toNatClampNeg) = (-1 : Int32) then (vp_in l1 6 ∧ (if ¬ (I 81 0 l1.toNatClampNeg) = ((-2 : Int32) - l2) then Q (some (vi (-12))) (101, I, J, R0 b) else Q (some (vi 0)) (101, I, J, R0 b))) else Q (some (vi (-11))) (101, I, J, R0 b)))) : Call (D + 1) 181 [vr 10 0, vi l1, vi l2] (101, I, J, R0 b) Q := by
  refine Call.of rfl ?_
  show WP D 181 0 [vr 10 0, vi l1, vi l2] [] (101, I, J, R0 b) Q
  refine WP.blk (pc' := 5) (L' := [vr 10 0, vi l1, vi l2]) (st' := [vi l1, vr 81 0]) (h' := (101, I, J, R0 b)) 3 rfl ?_
  refine WP.step (pc' := 6) (L' := [vr 10 0, vi l1, vi l2]) (st' := [vi (I 81 0 l1.toNatClampNeg)]) (h' := (101, I, J, R0 b)) rfl (iaload_ok (n := 6) rfl rfl rfl (inA_of h.1)) ?_
  have h := And.right h
  refine WP.blk (pc' := 7) (L' := [vr 10 0, vi l1, vi l2]) (st' := [vi (-1), vi (I 81 0 l1.toNatClampNeg)]) (h' := (101, I, J, R0 b)) 1 rfl ?_
  refine WP.icmp_ne (t := 15) (L' := [vr 10 0, vi l1, vi l2]) rfl rfl rfl rfl h (fun h => ?_) (fun h => ?_)
  · refine WP.blk (pc' := 20) (L' := [vr 10 0, vi l1, vi l2]) (st' := [vi l1, vr 81 0]) (h' := (101, I, J, R0 b)) 3 rfl ?_
    refine WP.step (pc' := 21) (L' := [vr 10 0, vi l1, vi l2]) (st' := [vi (I 81 0 l1.toNatClampNeg)]) (h' := (101, I, J, R0 b)) rfl (iaload_ok (n := 6) rfl rfl rfl (inA_of h.1)) ?_
    have h := And.right h
    refine WP.blk (pc' := 25) (L' := [vr 10 0, vi l1, vi l2]) (st' := [vi ((-2 : Int32) - l2), vi (I 81 0 l1.toNatClampNeg)]) (h' := (101, I, J, R0 b)) 3 rfl ?_
    refine WP.icmp_ne (t := 32) (L' := [vr 10 0, vi l1, vi l2]) rfl rfl rfl rfl h (fun h => ?_) (fun h => ?_)
    · refine WP.blk (pc' := 34) (L' := [vr 10 0, vi l1, vi l2]) (st' := [vi (-12)]) (h' := (101, I, J, R0 b)) 1 rfl ?_
      exact WP.ret rfl rfl h
    · refine WP.blk (pc' := 34) (L' := [vr 10 0, vi l1, vi l2]) (st' := [vi 0]) (h' := (101, I, J, R0 b)) 2 rfl ?_
      exact WP.ret rfl rfl h
  · refine WP.blk (pc' := 34) (L' := [vr 10 0, vi l1, vi l2]) (st' := [vi (-11)]) (h' := (101, I, J, R0 b)) 2 rfl ?_
    exact WP.ret rfl rfl h
set_option maxRecDepth 20000 in
theorem t_X10_at {D : Nat} (l1 : Int32) (l2 : Int32) (I : IM) (J : JM) (b : Bool) {Q : Option AV → AH → Prop} (h : (vp_in (((60 : Int32) * l1) + l2) 360 ∧ Q (some (vi ((J 83 0 (((60 : Int32) * l1) + l2).toNatClampNeg)).toInt32)) (101, I, J, R0 b))) : Call (D + 1) 182 [vr 10 0, vi l1, vi l2] (101, I, J, R0 b) Q := by
  refine Call.of rfl ?_
  show WP D 182 0 [vr 10 0, vi l1, vi l2] [] (101, I, J, R0 b) Q
  refine WP.blk (pc' := 10) (L' := [vr 10 0, vi l1, vi l2]) (st' := [vi (((60 : Int32) * l1) + l2), vr 83 0]) (h' := (101, I, J, R0 b)) 7 rfl ?_
  refine WP.step (pc' := 11) (L' := [vr 10 0, vi l1, vi l2]) (st' := [vl (J 83 0 (((60 : Int32) * l1) + l2).toNatClampNeg)]) (h' := (101, I, J, R0 b)) rfl (laload_ok (n := 360) rfl rfl rfl (inA_of h.1)) ?_
  have h := And.right h
  refine WP.blk (pc' := 12) (L' := [vr 10 0, vi l1, vi l2]) (st' := [vi ((J 83 0 (((60 : Int32) * l1) + l2).toNatClampNeg)).toInt32]) (h' := (101, I, J, R0 b)) 1 rfl ?_
  exact WP.ret rfl rfl h
set_option maxRecDepth 20000 in
theorem t_X10_layOrder {D : Nat} (l1 : Int32) (I : IM) (J : JM) (b : Bool) {Q : Option AV → AH → Prop} (h : WP D 183 7 [vr 10 0, vi l1, vi 0, vn] [] (101, (updI I 10 0 48 0), J, R0 b) Q) : Call (D + 1) 183 [vr 10 0, vi l1] (101, I, J, R0 b) Q := by
  refine Call.of rfl ?_
  show WP D 183 0 [vr 10 0, vi l1, vn, vn] [] (101, I, J, R0 b) Q
  refine WP.blk (pc' := 7) (L' := [vr 10 0, vi l1, vi 0, vn]) (st' := []) (h' := (101, (updI I 10 0 48 0), J, R0 b)) 5 rfl ?_
  exact WP.mask rfl rfl h
set_option maxRecDepth 20000 in
theorem t_X10_layOrder_7 {D : Nat} (l1 : Int32) (l2 : Int32) (I : IM) (J : JM) (b : Bool) {Q : Option AV → AH → Prop} (h : (vp_in l1 6 ∧ (if (I 82 0 l1.toNatClampNeg) ≤ l2 then Q none (101, I, J, R0 b) else (Call D 182 [vr 10 0, vi l1, vi l2] (101, I, J, R0 b) (RIf b fun x1 I2 J3 => (Call D 137 [vr 10 0, vi x1] (101, I2, J3, R0 b) (RIf b fun x4 I5 J6 => (if x4 = 0 then Q none (101, I5, J6, R0 b) else (Call D 180 [vr 10 0, vi x1] (101, I5, J6, R0 b) (RIf b fun x7 I8 J9 => (if x7 = 0 then (vp_in (I8 10 0 48) 7 ∧ WP D 183 7 [vr 10 0, vi l1, vi (l2 + 1), vn] [] (101, (updI (updI I8 68 0 (I8 10 0 48).toNatClampNeg x1) 10 0 48 ((I8 10 0 48) + (1 : Int32))), J9, R0 b) Q) else Q none (101, I8, J9, R0 b)))))))))))) : WP D 183 7 [vr 10 0, vi l1, vi l2, vn] [] (101, I, J, R0 b) Q := by
  refine WP.blk (pc' := 13) (L' := [vr 10 0, vi l1, vi l2, vn]) (st' := [vi l1, vr 82 0, vi l2]) (h' := (101, I, J, R0 b)) 4 rfl ?_
  refine WP.step (pc' := 14) (L' := [vr 10 0, vi l1, vi l2, vn]) (st' := [vi (I 82 0 l1.toNatClampNeg), vi l2]) (h' := (101, I, J, R0 b)) rfl (iaload_ok (n := 6) rfl rfl rfl (inA_of h.1)) ?_
  have h := And.right h
  refine WP.icmp_ge (t := 67) (L' := [vr 10 0, vi l1, vi l2, vn]) rfl rfl rfl rfl h (fun h => ?_) (fun h => ?_)
  · exact WP.ret rfl rfl h
  · refine WP.blk (pc' := 20) (L' := [vr 10 0, vi l1, vi l2, vn]) (st' := [vi l2, vi l1, vr 10 0]) (h' := (101, I, J, R0 b)) 3 rfl ?_
    refine WP.cal (y' := 182) (as := [vr 10 0, vi l1, vi l2]) (L' := [vr 10 0, vi l1, vi l2, vn]) (rest := []) rfl (fun f r h' hf => callV_ok hf rfl rfl rfl) h ?_
    rintro _ _ ⟨x1, I2, J3, rfl, rfl, h⟩
    refine WP.blk (pc' := 26) (L' := [vr 10 0, vi l1, vi l2, vi x1]) (st' := [vi x1, vr 10 0]) (h' := (101, I2, J3, R0 b)) 3 rfl ?_
    refine WP.cal (y' := 137) (as := [vr 10 0, vi x1]) (L' := [vr 10 0, vi l1, vi l2, vi x1]) (rest := []) rfl (fun f r h' hf => callV_ok hf rfl rfl rfl) h ?_
    rintro _ _ ⟨x4, I5, J6, rfl, rfl, h⟩
    refine WP.if_eq (t := 40) (L' := [vr 10 0, vi l1, vi l2, vi x1]) rfl rfl rfl rfl h (fun h => ?_) (fun h => ?_)
    · exact WP.ret rfl rfl h
    · refine WP.blk (pc' := 34) (L' := [vr 10 0, vi l1, vi l2, vi x1]) (st' := [vi x1, vr 10 0]) (h' := (101, I5, J6, R0 b)) 2 rfl ?_
      refine WP.cal (y' := 180) (as := [vr 10 0, vi x1]) (L' := [vr 10 0, vi l1, vi l2, vi x1]) (rest := []) rfl (fun f r h' hf => callV_ok hf rfl rfl rfl) h ?_
      rintro _ _ ⟨x7, I8, J9, rfl, rfl, h⟩
      refine WP.if_eq (t := 41) (L' := [vr 10 0, vi l1, vi l2, vi x1]) rfl rfl rfl rfl h (fun h => ?_) (fun h => ?_)
      · refine WP.blk (pc' := 50) (L' := [vr 10 0, vi l1, vi l2, vi x1]) (st' := [vi x1, vi (I8 10 0 48), vr 68 0]) (h' := (101, I8, J9, R0 b)) 5 rfl ?_
        refine WP.step (pc' := 51) (L' := [vr 10 0, vi l1, vi l2, vi x1]) (st' := []) (h' := (101, (updI I8 68 0 (I8 10 0 48).toNatClampNeg x1), J9, R0 b)) rfl (iastore_ok (n := 7) rfl rfl rfl (inA_of h.1)) ?_
        have h := And.right h
        refine WP.blk (pc' := 7) (L' := [vr 10 0, vi l1, vi (l2 + 1), vi x1]) (st' := []) (h' := (101, (updI (updI I8 68 0 (I8 10 0 48).toNatClampNeg x1) 10 0 48 ((I8 10 0 48) + (1 : Int32))), J9, R0 b)) 8 rfl ?_
        exact WP.mask rfl rfl h
      · exact WP.ret rfl rfl h
set_option maxRecDepth 20000 in
theorem t_X10_goFrom {D : Nat} (l1 : Int32) (I : IM) (J : JM) (b : Bool) {Q : Option AV → AH → Prop} (h : WP D 184 5 [vr 10 0, vn] [] (101, (updI I 10 0 49 l1), J, R0 b) Q) : Call (D + 1) 184 [vr 10 0, vi l1] (101, I, J, R0 b) Q := by
  refine Call.of rfl ?_
  show WP D 184 0 [vr 10 0, vi l1] [] (101, I, J, R0 b) Q
  refine WP.blk (pc' := 5) (L' := [vr 10 0, vi l1]) (st' := []) (h' := (101, (updI I 10 0 49 l1), J, R0 b)) 3 rfl ?_
  exact WP.mask rfl rfl h
set_option maxRecDepth 20000 in
theorem t_X10_goFrom_5 {D : Nat}  (I : IM) (J : JM) (b : Bool) {Q : Option AV → AH → Prop} (h : (if (I 10 0 48) ≤ (I 10 0 49) then Q none (101, I, J, R0 b) else (vp_in (I 10 0 49) 7 ∧ (Call D 179 [vr 10 0, vi (I 68 0 (I 10 0 49).toNatClampNeg)] (101, I, J, R0 b) (RIf b fun x1 I2 J3 => (if x1 = 0 then Q none (101, I2, J3, R0 b) else WP D 184 5 [vr 10 0, vn] [] (101, (updI I2 10 0 49 ((I2 10 0 49) + (1 : Int32))), J3, R0 b) Q)))))) : WP D 184 5 [vr 10 0, vn] [] (101, I, J, R0 b) Q := by
  refine WP.blk (pc' := 13) (L' := [vr 10 0, vn]) (st' := [vi (I 10 0 48), vi (I 10 0 49)]) (h' := (101, I, J, R0 b)) 4 rfl ?_
  refine WP.icmp_ge (t := 45) (L' := [vr 10 0, vn]) rfl rfl rfl rfl h (fun h => ?_) (fun h => ?_)
  · exact WP.ret rfl rfl h
  · refine WP.blk (pc' := 25) (L' := [vr 10 0, vn]) (st' := [vi (I 10 0 49), vr 68 0, vr 10 0]) (h' := (101, I, J, R0 b)) 5 rfl ?_
    refine WP.step (pc' := 26) (L' := [vr 10 0, vn]) (st' := [vi (I 68 0 (I 10 0 49).toNatClampNeg), vr 10 0]) (h' := (101, I, J, R0 b)) rfl (iaload_ok (n := 7) rfl rfl rfl (inA_of h.1)) ?_
    have h := And.right h
    refine WP.cal (y' := 179) (as := [vr 10 0, vi (I 68 0 (I 10 0 49).toNatClampNeg)]) (L' := [vr 10 0, vn]) (rest := []) rfl (fun f r h' hf => callV_ok hf rfl rfl rfl) h ?_
    rintro _ _ ⟨x1, I2, J3, rfl, rfl, h⟩
    refine WP.if_eq (t := 45) (L' := [vr 10 0, vn]) rfl rfl rfl rfl h (fun h => ?_) (fun h => ?_)
    · exact WP.ret rfl rfl h
    · refine WP.blk (pc' := 5) (L' := [vr 10 0, vn]) (st' := []) (h' := (101, (updI I2 10 0 49 ((I2 10 0 49) + (1 : Int32))), J3, R0 b)) 7 rfl ?_
      exact WP.mask rfl rfl h
set_option maxRecDepth 20000 in
theorem t_X10_goOrder {D : Nat}  (I : IM) (J : JM) (b : Bool) {Q : Option AV → AH → Prop} (h : (Call D 171 [vr 10 0] (101, I, J, R0 b) (RVf b fun I2 J3 => (Call D 184 [vr 10 0, vi 0] (101, I2, J3, R0 b) (RVf b fun I5 J6 => Q none (101, I5, J6, R0 b)))))) : Call (D + 1) 185 [vr 10 0] (101, I, J, R0 b) Q := by
  refine Call.of rfl ?_
  show WP D 185 0 [vr 10 0] [] (101, I, J, R0 b) Q
  refine WP.blk (pc' := 1) (L' := [vr 10 0]) (st' := [vr 10 0]) (h' := (101, I, J, R0 b)) 1 rfl ?_
  refine WP.cal (y' := 171) (as := [vr 10 0]) (L' := [vr 10 0]) (rest := []) rfl (fun f r h' hf => callV_ok hf rfl rfl rfl) h ?_
  rintro _ _ ⟨I2, J3, rfl, rfl, h⟩
  refine WP.blk (pc' := 6) (L' := [vr 10 0]) (st' := [vi 0, vr 10 0]) (h' := (101, I2, J3, R0 b)) 2 rfl ?_
  refine WP.cal (y' := 184) (as := [vr 10 0, vi 0]) (L' := [vr 10 0]) (rest := []) rfl (fun f r h' hf => callV_ok hf rfl rfl rfl) h ?_
  rintro _ _ ⟨I5, J6, rfl, rfl, h⟩
  exact WP.ret rfl rfl h
set_option maxRecDepth 20000 in
theorem t_X10_doneNow {D : Nat}  (I : IM) (J : JM) (b : Bool) {Q : Option AV → AH → Prop} (h : WP D 186 4 [vr 10 0, vi 0, vi 0] [] (101, I, J, R0 b) Q) : Call (D + 1) 186 [vr 10 0] (101, I, J, R0 b) Q := by
  refine Call.of rfl ?_
  show WP D 186 0 [vr 10 0, vn, vn] [] (101, I, J, R0 b) Q
  refine WP.blk (pc' := 4) (L' := [vr 10 0, vi 0, vi 0]) (st' := []) (h' := (101, I, J, R0 b)) 4 rfl ?_
  exact WP.mask rfl rfl h
set_option maxRecDepth 20000 in
theorem t_X10_doneNow_4 {D : Nat} (l1 : Int32) (l2 : Int32) (I : IM) (J : JM) (b : Bool) {Q : Option AV → AH → Prop} (h : (if (I 10 0 1) ≤ l2 then Q (some (vi l1)) (101, I, J, R0 b) else (if ¬ (((I 10 0 38) >>> (l2 &&& 31)) &&& (1 : Int32)) = (1 : Int32) then WP D 186 4 [vr 10 0, vi l1, vi (l2 + 1)] [] (101, I, J, R0 b) Q else (vp_in l2 7 ∧ (if (I 66 0 l2.toNatClampNeg) ≤ l1 then WP D 186 4 [vr 10 0, vi l1, vi (l2 + 1)] [] (101, I, J, R0 b) Q else (vp_in l2 7 ∧ WP D 186 4 [vr 10 0, vi (I 66 0 l2.toNatClampNeg), vi (l2 + 1)] [] (101, I, J, R0 b) Q)))))) : WP D 186 4 [vr 10 0, vi l1, vi l2] [] (101, I, J, R0 b) Q := by
  refine WP.blk (pc' := 9) (L' := [vr 10 0, vi l1, vi l2]) (st' := [vi (I 10 0 1), vi l2]) (h' := (101, I, J, R0 b)) 3 rfl ?_
  refine WP.icmp_ge (t := 47) (L' := [vr 10 0, vi l1, vi l2]) rfl rfl rfl rfl h (fun h => ?_) (fun h => ?_)
  · refine WP.blk (pc' := 48) (L' := [vr 10 0, vi l1, vi l2]) (st' := [vi l1]) (h' := (101, I, J, R0 b)) 1 rfl ?_
    exact WP.ret rfl rfl h
  · refine WP.blk (pc' := 21) (L' := [vr 10 0, vi l1, vi l2]) (st' := [vi 1, vi (((I 10 0 38) >>> (l2 &&& 31)) &&& (1 : Int32))]) (h' := (101, I, J, R0 b)) 7 rfl ?_
    refine WP.icmp_ne (t := 41) (L' := [vr 10 0, vi l1, vi l2]) rfl rfl rfl rfl h (fun h => ?_) (fun h => ?_)
    · refine WP.blk (pc' := 4) (L' := [vr 10 0, vi l1, vi (l2 + 1)]) (st' := []) (h' := (101, I, J, R0 b)) 2 rfl ?_
      exact WP.mask rfl rfl h
    · refine WP.blk (pc' := 29) (L' := [vr 10 0, vi l1, vi l2]) (st' := [vi l2, vr 66 0]) (h' := (101, I, J, R0 b)) 3 rfl ?_
      refine WP.step (pc' := 30) (L' := [vr 10 0, vi l1, vi l2]) (st' := [vi (I 66 0 l2.toNatClampNeg)]) (h' := (101, I, J, R0 b)) rfl (iaload_ok (n := 7) rfl rfl rfl (inA_of h.1)) ?_
      have h := And.right h
      refine WP.blk (pc' := 31) (L' := [vr 10 0, vi l1, vi l2]) (st' := [vi l1, vi (I 66 0 l2.toNatClampNeg)]) (h' := (101, I, J, R0 b)) 1 rfl ?_
      refine WP.icmp_le (t := 41) (L' := [vr 10 0, vi l1, vi l2]) rfl rfl rfl rfl h (fun h => ?_) (fun h => ?_)
      · refine WP.blk (pc' := 4) (L' := [vr 10 0, vi l1, vi (l2 + 1)]) (st' := []) (h' := (101, I, J, R0 b)) 2 rfl ?_
        exact WP.mask rfl rfl h
      · refine WP.blk (pc' := 39) (L' := [vr 10 0, vi l1, vi l2]) (st' := [vi l2, vr 66 0]) (h' := (101, I, J, R0 b)) 3 rfl ?_
        refine WP.step (pc' := 40) (L' := [vr 10 0, vi l1, vi l2]) (st' := [vi (I 66 0 l2.toNatClampNeg)]) (h' := (101, I, J, R0 b)) rfl (iaload_ok (n := 7) rfl rfl rfl (inA_of h.1)) ?_
        have h := And.right h
        refine WP.blk (pc' := 4) (L' := [vr 10 0, vi (I 66 0 l2.toNatClampNeg), vi (l2 + 1)]) (st' := []) (h' := (101, I, J, R0 b)) 3 rfl ?_
        exact WP.mask rfl rfl h
set_option maxRecDepth 20000 in
theorem t_X10_layOr {D : Nat} (l1 : Int32) (I : IM) (J : JM) (b : Bool) {Q : Option AV → AH → Prop} (h : (Call D 181 [vr 10 0, vi l1, vi 0] (101, I, J, R0 b) (RIf b fun x1 I2 J3 => (if ¬ x1 = 0 then Q (some (vi x1)) (101, I2, J3, R0 b) else (Call D 183 [vr 10 0, vi l1] (101, I2, J3, R0 b) (RVf b fun I5 J6 => Q (some (vi x1)) (101, I5, J6, R0 b))))))) : Call (D + 1) 187 [vr 10 0, vi l1] (101, I, J, R0 b) Q := by
  refine Call.of rfl ?_
  show WP D 187 0 [vr 10 0, vi l1, vn] [] (101, I, J, R0 b) Q
  refine WP.blk (pc' := 3) (L' := [vr 10 0, vi l1, vn]) (st' := [vi 0, vi l1, vr 10 0]) (h' := (101, I, J, R0 b)) 3 rfl ?_
  refine WP.cal (y' := 181) (as := [vr 10 0, vi l1, vi 0]) (L' := [vr 10 0, vi l1, vn]) (rest := []) rfl (fun f r h' hf => callV_ok hf rfl rfl rfl) h ?_
  rintro _ _ ⟨x1, I2, J3, rfl, rfl, h⟩
  refine WP.blk (pc' := 8) (L' := [vr 10 0, vi l1, vi x1]) (st' := [vi x1]) (h' := (101, I2, J3, R0 b)) 2 rfl ?_
  refine WP.if_ne (t := 16) (L' := [vr 10 0, vi l1, vi x1]) rfl rfl rfl rfl h (fun h => ?_) (fun h => ?_)
  · refine WP.blk (pc' := 17) (L' := [vn, vn, vi x1]) (st' := [vi x1]) (h' := (101, I2, J3, R0 b)) 1 rfl ?_
    exact WP.ret rfl rfl h
  · refine WP.blk (pc' := 13) (L' := [vr 10 0, vi l1, vi x1]) (st' := [vi l1, vr 10 0]) (h' := (101, I2, J3, R0 b)) 2 rfl ?_
    refine WP.cal (y' := 183) (as := [vr 10 0, vi l1]) (L' := [vr 10 0, vi l1, vi x1]) (rest := []) rfl (fun f r h' hf => callV_ok hf rfl rfl rfl) h ?_
    rintro _ _ ⟨I5, J6, rfl, rfl, h⟩
    refine WP.blk (pc' := 17) (L' := [vn, vn, vi x1]) (st' := [vi x1]) (h' := (101, I5, J6, R0 b)) 1 rfl ?_
    exact WP.ret rfl rfl h
set_option maxRecDepth 20000 in
theorem t_X10_order {D : Nat} (l1 : Int32) (l2 : Int32) (l3 : Int32) (I : IM) (J : JM) (b : Bool) {Q : Option AV → AH → Prop} (h : (Call D 237 [vi l1] (101, I, J, R0 b) (RIf b fun x1 I2 J3 => (if x1 = 0 then Q (some (vi (-1))) (101, I2, J3, R0 b) else (if l2 < 0 then Q (some (vi (-1))) (101, I2, J3, R0 b) else (Call D 135 [vi l3, vi 0, vi 2] (101, I2, J3, R0 b) (RIf b fun x4 I5 J6 => (if ¬ x4 = 0 then (Call D 187 [vr 10 0, vi l1] (101, I5, J6, R0 b) (RIf b fun x7 I8 J9 => (if 0 ≤ x7 then (Call D 185 [vr 10 0] (101, I8, J9, R0 b) (RVf b fun I11 J12 => (if l2 < (I11 10 0 49) then (if ¬ l3 = 0 then (if ¬ l3 = (1 : Int32) then (vp_in l2 7 ∧ (vp_in (I11 68 0 l2.toNatClampNeg) 7 ∧ Q (some (vi (I11 66 0 (I11 68 0 l2.toNatClampNeg).toNatClampNeg))) (101, I11, J12, R0 b))) else (vp_in l2 7 ∧ (vp_in (I11 68 0 l2.toNatClampNeg) 7 ∧ Q (some (vi (I11 65 0 (I11 68 0 l2.toNatClampNeg).toNatClampNeg))) (101, I11, J12, R0 b)))) else (vp_in l2 7 ∧ (vp_in (I11 68 0 l2.toNatClampNeg) 7 ∧ Q (some (vi (I11 64 0 (I11 68 0 l2.toNatClampNeg).toNatClampNeg))) (101, I11, J12, R0 b)))) else Q (some (vi (-2))) (101, I11, J12, R0 b)))) else Q (some (vi x7)) (101, I8, J9, R0 b)))) else Q (some (vi (-1))) (101, I5, J6, R0 b))))))))) : Call (D + 1) 188 [vr 10 0, vi l1, vi l2, vi l3] (101, I, J, R0 b) Q := by
  refine Call.of rfl ?_
  show WP D 188 0 [vr 10 0, vi l1, vi l2, vi l3, vn] [] (101, I, J, R0 b) Q
  refine WP.blk (pc' := 1) (L' := [vr 10 0, vi l1, vi l2, vi l3, vn]) (st' := [vi l1]) (h' := (101, I, J, R0 b)) 1 rfl ?_
  refine WP.cal (y' := 237) (as := [vi l1]) (L' := [vr 10 0, vi l1, vi l2, vi l3, vn]) (rest := []) rfl (fun f r h' hf => callS_ok hf rfl rfl rfl) h ?_
  rintro _ _ ⟨x1, I2, J3, rfl, rfl, h⟩
  refine WP.if_eq (t := 20) (L' := [vr 10 0, vi l1, vi l2, vi l3, vn]) rfl rfl rfl rfl h (fun h => ?_) (fun h => ?_)
  · refine WP.blk (pc' := 21) (L' := [vn, vn, vn, vn, vn]) (st' := [vi (-1)]) (h' := (101, I2, J3, R0 b)) 1 rfl ?_
    exact WP.ret rfl rfl h
  · refine WP.blk (pc' := 8) (L' := [vr 10 0, vi l1, vi l2, vi l3, vn]) (st' := [vi l2]) (h' := (101, I2, J3, R0 b)) 1 rfl ?_
    refine WP.if_lt (t := 20) (L' := [vr 10 0, vi l1, vi l2, vi l3, vn]) rfl rfl rfl rfl h (fun h => ?_) (fun h => ?_)
    · refine WP.blk (pc' := 21) (L' := [vn, vn, vn, vn, vn]) (st' := [vi (-1)]) (h' := (101, I2, J3, R0 b)) 1 rfl ?_
      exact WP.ret rfl rfl h
    · refine WP.blk (pc' := 14) (L' := [vr 10 0, vi l1, vi l2, vi l3, vn]) (st' := [vi 2, vi 0, vi l3]) (h' := (101, I2, J3, R0 b)) 3 rfl ?_
      refine WP.cal (y' := 135) (as := [vi l3, vi 0, vi 2]) (L' := [vr 10 0, vi l1, vi l2, vi l3, vn]) (rest := []) rfl (fun f r h' hf => callS_ok hf rfl rfl rfl) h ?_
      rintro _ _ ⟨x4, I5, J6, rfl, rfl, h⟩
      refine WP.if_ne (t := 22) (L' := [vr 10 0, vi l1, vi l2, vi l3, vn]) rfl rfl rfl rfl h (fun h => ?_) (fun h => ?_)
      · refine WP.blk (pc' := 24) (L' := [vr 10 0, vi l1, vi l2, vi l3, vn]) (st' := [vi l1, vr 10 0]) (h' := (101, I5, J6, R0 b)) 2 rfl ?_
        refine WP.cal (y' := 187) (as := [vr 10 0, vi l1]) (L' := [vr 10 0, vi l1, vi l2, vi l3, vn]) (rest := []) rfl (fun f r h' hf => callV_ok hf rfl rfl rfl) h ?_
        rintro _ _ ⟨x7, I8, J9, rfl, rfl, h⟩
        refine WP.blk (pc' := 31) (L' := [vr 10 0, vi l1, vi l2, vi l3, vi x7]) (st' := [vi x7]) (h' := (101, I8, J9, R0 b)) 2 rfl ?_
        refine WP.if_ge (t := 37) (L' := [vr 10 0, vi l1, vi l2, vi l3, vi x7]) rfl rfl rfl rfl h (fun h => ?_) (fun h => ?_)
        · refine WP.blk (pc' := 38) (L' := [vr 10 0, vi l1, vi l2, vi l3, vi x7]) (st' := [vr 10 0]) (h' := (101, I8, J9, R0 b)) 1 rfl ?_
          refine WP.cal (y' := 185) (as := [vr 10 0]) (L' := [vr 10 0, vi l1, vi l2, vi l3, vi x7]) (rest := []) rfl (fun f r h' hf => callV_ok hf rfl rfl rfl) h ?_
          rintro _ _ ⟨I11, J12, rfl, rfl, h⟩
          refine WP.blk (pc' := 46) (L' := [vr 10 0, vi l1, vi l2, vi l3, vi x7]) (st' := [vi (I11 10 0 49), vi l2]) (h' := (101, I11, J12, R0 b)) 3 rfl ?_
          refine WP.icmp_lt (t := 52) (L' := [vr 10 0, vi l1, vi l2, vi l3, vi x7]) rfl rfl rfl rfl h (fun h => ?_) (fun h => ?_)
          · refine WP.blk (pc' := 53) (L' := [vr 10 0, vi l1, vi l2, vi l3, vi x7]) (st' := [vi l3]) (h' := (101, I11, J12, R0 b)) 1 rfl ?_
            refine WP.if_ne (t := 70) (L' := [vr 10 0, vi l1, vi l2, vi l3, vi x7]) rfl rfl rfl rfl h (fun h => ?_) (fun h => ?_)
            · refine WP.blk (pc' := 72) (L' := [vr 10 0, vi l1, vi l2, vi l3, vi x7]) (st' := [vi 1, vi l3]) (h' := (101, I11, J12, R0 b)) 2 rfl ?_
              refine WP.icmp_ne (t := 89) (L' := [vr 10 0, vi l1, vi l2, vi l3, vi x7]) rfl rfl rfl rfl h (fun h => ?_) (fun h => ?_)
              · refine WP.blk (pc' := 98) (L' := [vr 10 0, vi l1, vi l2, vi l3, vi x7]) (st' := [vi l2, vr 68 0, vr 66 0]) (h' := (101, I11, J12, R0 b)) 5 rfl ?_
                refine WP.step (pc' := 99) (L' := [vr 10 0, vi l1, vi l2, vi l3, vi x7]) (st' := [vi (I11 68 0 l2.toNatClampNeg), vr 66 0]) (h' := (101, I11, J12, R0 b)) rfl (iaload_ok (n := 7) rfl rfl rfl (inA_of h.1)) ?_
                have h := And.right h
                refine WP.step (pc' := 100) (L' := [vr 10 0, vi l1, vi l2, vi l3, vi x7]) (st' := [vi (I11 66 0 (I11 68 0 l2.toNatClampNeg).toNatClampNeg)]) (h' := (101, I11, J12, R0 b)) rfl (iaload_ok (n := 7) rfl rfl rfl (inA_of h.1)) ?_
                have h := And.right h
                exact WP.ret rfl rfl h
              · refine WP.blk (pc' := 84) (L' := [vr 10 0, vi l1, vi l2, vi l3, vi x7]) (st' := [vi l2, vr 68 0, vr 65 0]) (h' := (101, I11, J12, R0 b)) 5 rfl ?_
                refine WP.step (pc' := 85) (L' := [vr 10 0, vi l1, vi l2, vi l3, vi x7]) (st' := [vi (I11 68 0 l2.toNatClampNeg), vr 65 0]) (h' := (101, I11, J12, R0 b)) rfl (iaload_ok (n := 7) rfl rfl rfl (inA_of h.1)) ?_
                have h := And.right h
                refine WP.step (pc' := 86) (L' := [vr 10 0, vi l1, vi l2, vi l3, vi x7]) (st' := [vi (I11 65 0 (I11 68 0 l2.toNatClampNeg).toNatClampNeg)]) (h' := (101, I11, J12, R0 b)) rfl (iaload_ok (n := 7) rfl rfl rfl (inA_of h.1)) ?_
                have h := And.right h
                refine WP.blk (pc' := 100) (L' := [vr 10 0, vi l1, vi l2, vi l3, vi x7]) (st' := [vi (I11 65 0 (I11 68 0 l2.toNatClampNeg).toNatClampNeg)]) (h' := (101, I11, J12, R0 b)) 1 rfl ?_
                exact WP.ret rfl rfl h
            · refine WP.blk (pc' := 65) (L' := [vr 10 0, vi l1, vi l2, vi l3, vi x7]) (st' := [vi l2, vr 68 0, vr 64 0]) (h' := (101, I11, J12, R0 b)) 5 rfl ?_
              refine WP.step (pc' := 66) (L' := [vr 10 0, vi l1, vi l2, vi l3, vi x7]) (st' := [vi (I11 68 0 l2.toNatClampNeg), vr 64 0]) (h' := (101, I11, J12, R0 b)) rfl (iaload_ok (n := 7) rfl rfl rfl (inA_of h.1)) ?_
              have h := And.right h
              refine WP.step (pc' := 67) (L' := [vr 10 0, vi l1, vi l2, vi l3, vi x7]) (st' := [vi (I11 64 0 (I11 68 0 l2.toNatClampNeg).toNatClampNeg)]) (h' := (101, I11, J12, R0 b)) rfl (iaload_ok (n := 7) rfl rfl rfl (inA_of h.1)) ?_
              have h := And.right h
              refine WP.blk (pc' := 100) (L' := [vr 10 0, vi l1, vi l2, vi l3, vi x7]) (st' := [vi (I11 64 0 (I11 68 0 l2.toNatClampNeg).toNatClampNeg)]) (h' := (101, I11, J12, R0 b)) 1 rfl ?_
              exact WP.ret rfl rfl h
          · refine WP.blk (pc' := 51) (L' := [vr 10 0, vi l1, vi l2, vi l3, vi x7]) (st' := [vi (-2)]) (h' := (101, I11, J12, R0 b)) 1 rfl ?_
            exact WP.ret rfl rfl h
        · refine WP.blk (pc' := 36) (L' := [vr 10 0, vi l1, vi l2, vi l3, vi x7]) (st' := [vi x7]) (h' := (101, I8, J9, R0 b)) 1 rfl ?_
          exact WP.ret rfl rfl h
      · refine WP.blk (pc' := 21) (L' := [vn, vn, vn, vn, vn]) (st' := [vi (-1)]) (h' := (101, I5, J6, R0 b)) 1 rfl ?_
        exact WP.ret rfl rfl h
set_option maxRecDepth 20000 in
theorem t_X10_done {D : Nat} (l1 : Int32) (l2 : Int32) (I : IM) (J : JM) (b : Bool) {Q : Option AV → AH → Prop} (h : (Call D 237 [vi l1] (101, I, J, R0 b) (RIf b fun x1 I2 J3 => (if x1 = 0 then Q (some (vi (-1))) (101, I2, J3, R0 b) else (Call D 135 [vi l2, vi 0, vi 1] (101, I2, J3, R0 b) (RIf b fun x4 I5 J6 => (if ¬ x4 = 0 then (Call D 187 [vr 10 0, vi l1] (101, I5, J6, R0 b) (RIf b fun x7 I8 J9 => (if 0 ≤ x7 then (Call D 185 [vr 10 0] (101, I8, J9, R0 b) (RVf b fun I11 J12 => (if ¬ l2 = 0 then (Call D 186 [vr 10 0] (101, I11, J12, R0 b) (RIf b fun x13 I14 J15 => Q (some (vi x13)) (101, I14, J15, R0 b))) else Q (some (vi (I11 10 0 49))) (101, I11, J12, R0 b)))) else Q (some (vi x7)) (101, I8, J9, R0 b)))) else Q (some (vi (-1))) (101, I5, J6, R0 b)))))))) : Call (D + 1) 189 [vr 10 0, vi l1, vi l2] (101, I, J, R0 b) Q := by
  refine Call.of rfl ?_
  show WP D 189 0 [vr 10 0, vi l1, vi l2, vn] [] (101, I, J, R0 b) Q
  refine WP.blk (pc' := 1) (L' := [vr 10 0, vi l1, vi l2, vn]) (st' := [vi l1]) (h' := (101, I, J, R0 b)) 1 rfl ?_
  refine WP.cal (y' := 237) (as := [vi l1]) (L' := [vr 10 0, vi l1, vi l2, vn]) (rest := []) rfl (fun f r h' hf => callS_ok hf rfl rfl rfl) h ?_
  rintro _ _ ⟨x1, I2, J3, rfl, rfl, h⟩
  refine WP.if_eq (t := 16) (L' := [vr 10 0, vi l1, vi l2, vn]) rfl rfl rfl rfl h (fun h => ?_) (fun h => ?_)
  · refine WP.blk (pc' := 17) (L' := [vn, vn, vn, vn]) (st' := [vi (-1)]) (h' := (101, I2, J3, R0 b)) 1 rfl ?_
    exact WP.ret rfl rfl h
  · refine WP.blk (pc' := 10) (L' := [vr 10 0, vi l1, vi l2, vn]) (st' := [vi 1, vi 0, vi l2]) (h' := (101, I2, J3, R0 b)) 3 rfl ?_
    refine WP.cal (y' := 135) (as := [vi l2, vi 0, vi 1]) (L' := [vr 10 0, vi l1, vi l2, vn]) (rest := []) rfl (fun f r h' hf => callS_ok hf rfl rfl rfl) h ?_
    rintro _ _ ⟨x4, I5, J6, rfl, rfl, h⟩
    refine WP.if_ne (t := 18) (L' := [vr 10 0, vi l1, vi l2, vn]) rfl rfl rfl rfl h (fun h => ?_) (fun h => ?_)
    · refine WP.blk (pc' := 20) (L' := [vr 10 0, vi l1, vi l2, vn]) (st' := [vi l1, vr 10 0]) (h' := (101, I5, J6, R0 b)) 2 rfl ?_
      refine WP.cal (y' := 187) (as := [vr 10 0, vi l1]) (L' := [vr 10 0, vi l1, vi l2, vn]) (rest := []) rfl (fun f r h' hf => callV_ok hf rfl rfl rfl) h ?_
      rintro _ _ ⟨x7, I8, J9, rfl, rfl, h⟩
      refine WP.blk (pc' := 25) (L' := [vr 10 0, vi l1, vi l2, vi x7]) (st' := [vi x7]) (h' := (101, I8, J9, R0 b)) 2 rfl ?_
      refine WP.if_ge (t := 30) (L' := [vr 10 0, vi l1, vi l2, vi x7]) rfl rfl rfl rfl h (fun h => ?_) (fun h => ?_)
      · refine WP.blk (pc' := 31) (L' := [vr 10 0, vi l1, vi l2, vi x7]) (st' := [vr 10 0]) (h' := (101, I8, J9, R0 b)) 1 rfl ?_
        refine WP.cal (y' := 185) (as := [vr 10 0]) (L' := [vr 10 0, vi l1, vi l2, vi x7]) (rest := []) rfl (fun f r h' hf => callV_ok hf rfl rfl rfl) h ?_
        rintro _ _ ⟨I11, J12, rfl, rfl, h⟩
        refine WP.blk (pc' := 35) (L' := [vr 10 0, vi l1, vi l2, vi x7]) (st' := [vi l2]) (h' := (101, I11, J12, R0 b)) 1 rfl ?_
        refine WP.if_ne (t := 45) (L' := [vr 10 0, vi l1, vi l2, vi x7]) rfl rfl rfl rfl h (fun h => ?_) (fun h => ?_)
        · refine WP.blk (pc' := 46) (L' := [vr 10 0, vi l1, vi l2, vi x7]) (st' := [vr 10 0]) (h' := (101, I11, J12, R0 b)) 1 rfl ?_
          refine WP.cal (y' := 186) (as := [vr 10 0]) (L' := [vr 10 0, vi l1, vi l2, vi x7]) (rest := []) rfl (fun f r h' hf => callV_ok hf rfl rfl rfl) h ?_
          rintro _ _ ⟨x13, I14, J15, rfl, rfl, h⟩
          exact WP.ret rfl rfl h
        · refine WP.blk (pc' := 49) (L' := [vr 10 0, vi l1, vi l2, vi x7]) (st' := [vi (I11 10 0 49)]) (h' := (101, I11, J12, R0 b)) 3 rfl ?_
          exact WP.ret rfl rfl h
      · refine WP.blk (pc' := 29) (L' := [vr 10 0, vi l1, vi l2, vi x7]) (st' := [vi x7]) (h' := (101, I8, J9, R0 b)) 1 rfl ?_
        exact WP.ret rfl rfl h
    · refine WP.blk (pc' := 17) (L' := [vn, vn, vn, vn]) (st' := [vi (-1)]) (h' := (101, I5, J6, R0 b)) 1 rfl ?_
      exact WP.ret rfl rfl h
set_option maxRecDepth 20000 in
theorem t_X10_metOrder {D : Nat}  (I : IM) (J : JM) (b : Bool) {Q : Option AV → AH → Prop} (h : (Call D 185 [vr 10 0] (101, I, J, R0 b) (RVf b fun I2 J3 => (if (I2 10 0 49) ≤ (I2 10 0 55) then (if (I2 10 0 1) ≤ (I2 10 0 49) then (if (I2 10 0 51) < 0 then (Call D 186 [vr 10 0] (101, (updI I2 10 0 50 ((I2 10 0 50) + (1 : Int32))), J3, R0 b) (RIf b fun x4 I5 J6 => WP D 190 73 [vr 10 0, vi 0] [] (101, (updI I5 10 0 51 x4), J6, R0 b) Q)) else (Call D 186 [vr 10 0] (101, (updI I2 10 0 50 ((I2 10 0 50) + (1 : Int32))), J3, R0 b) (RIf b fun x7 I8 J9 => (if (I8 10 0 51) ≤ x7 then (if (I8 10 0 56) < 0 then Q none (101, I8, J9, R0 b) else (Call D 204 [vr 10 0, vi (I8 10 0 56)] (101, I8, J9, R0 b) (RIf b fun x10 I11 J12 => (if x10 < 0 then (if ¬ (I11 10 0 53) = 0 then Q none (101, (updI I11 10 0 53 ((I11 10 0 53) + (1 : Int32))), J12, R0 b) else WP D 190 127 [vr 10 0, vi 0] [] (101, I11, J12, R0 b) Q) else Q none (101, I11, J12, R0 b))))) else (Call D 186 [vr 10 0] (101, I8, J9, R0 b) (RIf b fun x13 I14 J15 => WP D 190 73 [vr 10 0, vi 0] [] (101, (updI I14 10 0 51 x13), J15, R0 b) Q)))))) else Q none (101, I2, J3, R0 b)) else (if (I2 10 0 1) ≤ (I2 10 0 49) then (if (I2 10 0 51) < 0 then (Call D 186 [vr 10 0] (101, (updI (updI I2 10 0 55 (I2 10 0 49)) 10 0 50 ((I2 10 0 50) + (1 : Int32))), J3, R0 b) (RIf b fun x16 I17 J18 => WP D 190 73 [vr 10 0, vi 0] [] (101, (updI I17 10 0 51 x16), J18, R0 b) Q)) else (Call D 186 [vr 10 0] (101, (updI (updI I2 10 0 55 (I2 10 0 49)) 10 0 50 ((I2 10 0 50) + (1 : Int32))), J3, R0 b) (RIf b fun x19 I20 J21 => (if (I20 10 0 51) ≤ x19 then (if (I20 10 0 56) < 0 then Q none (101, I20, J21, R0 b) else (Call D 204 [vr 10 0, vi (I20 10 0 56)] (101, I20, J21, R0 b) (RIf b fun x22 I23 J24 => (if x22 < 0 then (if ¬ (I23 10 0 53) = 0 then Q none (101, (updI I23 10 0 53 ((I23 10 0 53) + (1 : Int32))), J24, R0 b) else WP D 190 127 [vr 10 0, vi 0] [] (101, I23, J24, R0 b) Q) else Q none (101, I23, J24, R0 b))))) else (Call D 186 [vr 10 0] (101, I20, J21, R0 b) (RIf b fun x25 I26 J27 => WP D 190 73 [vr 10 0, vi 0] [] (101, (updI I26 10 0 51 x25), J27, R0 b) Q)))))) else Q none (101, (updI I2 10 0 55 (I2 10 0 49)), J3, R0 b)))))) : Call (D + 1) 190 [vr 10 0] (101, I, J, R0 b) Q := by
  refine Call.of rfl ?_
  show WP D 190 0 [vr 10 0, vn] [] (101, I, J, R0 b) Q
  refine WP.blk (pc' := 1) (L' := [vr 10 0, vn]) (st' := [vr 10 0]) (h' := (101, I, J, R0 b)) 1 rfl ?_
  refine WP.cal (y' := 185) (as := [vr 10 0]) (L' := [vr 10 0, vn]) (rest := []) rfl (fun f r h' hf => callV_ok hf rfl rfl rfl) h ?_
  rintro _ _ ⟨I2, J3, rfl, rfl, h⟩
  refine WP.blk (pc' := 12) (L' := [vr 10 0, vn]) (st' := [vi (I2 10 0 55), vi (I2 10 0 49)]) (h' := (101, I2, J3, R0 b)) 4 rfl ?_
  refine WP.icmp_le (t := 23) (L' := [vr 10 0, vn]) rfl rfl rfl rfl h (fun h => ?_) (fun h => ?_)
  · refine WP.blk (pc' := 31) (L' := [vr 10 0, vn]) (st' := [vi (I2 10 0 1), vi (I2 10 0 49)]) (h' := (101, I2, J3, R0 b)) 4 rfl ?_
    refine WP.icmp_ge (t := 35) (L' := [vr 10 0, vn]) rfl rfl rfl rfl h (fun h => ?_) (fun h => ?_)
    · refine WP.blk (pc' := 49) (L' := [vr 10 0, vn]) (st' := [vi (I2 10 0 51)]) (h' := (101, (updI I2 10 0 50 ((I2 10 0 50) + (1 : Int32))), J3, R0 b)) 8 rfl ?_
      refine WP.if_lt (t := 63) (L' := [vr 10 0, vn]) rfl rfl rfl rfl h (fun h => ?_) (fun h => ?_)
      · refine WP.blk (pc' := 65) (L' := [vr 10 0, vn]) (st' := [vr 10 0, vr 10 0]) (h' := (101, (updI I2 10 0 50 ((I2 10 0 50) + (1 : Int32))), J3, R0 b)) 2 rfl ?_
        refine WP.cal (y' := 186) (as := [vr 10 0]) (L' := [vr 10 0, vn]) (rest := [vr 10 0]) rfl (fun f r h' hf => callV_ok hf rfl rfl rfl) h ?_
        rintro _ _ ⟨x4, I5, J6, rfl, rfl, h⟩
        refine WP.blk (pc' := 73) (L' := [vr 10 0, vi 0]) (st' := []) (h' := (101, (updI I5 10 0 51 x4), J6, R0 b)) 3 rfl ?_
        exact WP.mask rfl rfl h
      · refine WP.blk (pc' := 53) (L' := [vr 10 0, vn]) (st' := [vr 10 0]) (h' := (101, (updI I2 10 0 50 ((I2 10 0 50) + (1 : Int32))), J3, R0 b)) 1 rfl ?_
        refine WP.cal (y' := 186) (as := [vr 10 0]) (L' := [vr 10 0, vn]) (rest := []) rfl (fun f r h' hf => callV_ok hf rfl rfl rfl) h ?_
        rintro _ _ ⟨x7, I8, J9, rfl, rfl, h⟩
        refine WP.blk (pc' := 60) (L' := [vr 10 0, vn]) (st' := [vi (I8 10 0 51), vi x7]) (h' := (101, I8, J9, R0 b)) 2 rfl ?_
        refine WP.icmp_ge (t := 99) (L' := [vr 10 0, vn]) rfl rfl rfl rfl h (fun h => ?_) (fun h => ?_)
        · refine WP.blk (pc' := 103) (L' := [vr 10 0, vn]) (st' := [vi (I8 10 0 56)]) (h' := (101, I8, J9, R0 b)) 2 rfl ?_
          refine WP.if_lt (t := 117) (L' := [vr 10 0, vn]) rfl rfl rfl rfl h (fun h => ?_) (fun h => ?_)
          · exact WP.ret rfl rfl h
          · refine WP.blk (pc' := 111) (L' := [vr 10 0, vn]) (st' := [vi (I8 10 0 56), vr 10 0]) (h' := (101, I8, J9, R0 b)) 3 rfl ?_
            refine WP.cal (y' := 204) (as := [vr 10 0, vi (I8 10 0 56)]) (L' := [vr 10 0, vn]) (rest := []) rfl (fun f r h' hf => callV_ok hf rfl rfl rfl) h ?_
            rintro _ _ ⟨x10, I11, J12, rfl, rfl, h⟩
            refine WP.if_lt (t := 118) (L' := [vr 10 0, vn]) rfl rfl rfl rfl h (fun h => ?_) (fun h => ?_)
            · refine WP.blk (pc' := 122) (L' := [vr 10 0, vn]) (st' := [vi (I11 10 0 53)]) (h' := (101, I11, J12, R0 b)) 2 rfl ?_
              refine WP.if_ne (t := 153) (L' := [vr 10 0, vn]) rfl rfl rfl rfl h (fun h => ?_) (fun h => ?_)
              · refine WP.blk (pc' := 163) (L' := [vr 10 0, vn]) (st' := []) (h' := (101, (updI I11 10 0 53 ((I11 10 0 53) + (1 : Int32))), J12, R0 b)) 6 rfl ?_
                exact WP.ret rfl rfl h
              · refine WP.blk (pc' := 127) (L' := [vr 10 0, vi 0]) (st' := []) (h' := (101, I11, J12, R0 b)) 2 rfl ?_
                exact WP.mask rfl rfl h
            · exact WP.ret rfl rfl h
        · refine WP.blk (pc' := 65) (L' := [vr 10 0, vn]) (st' := [vr 10 0, vr 10 0]) (h' := (101, I8, J9, R0 b)) 2 rfl ?_
          refine WP.cal (y' := 186) (as := [vr 10 0]) (L' := [vr 10 0, vn]) (rest := [vr 10 0]) rfl (fun f r h' hf => callV_ok hf rfl rfl rfl) h ?_
          rintro _ _ ⟨x13, I14, J15, rfl, rfl, h⟩
          refine WP.blk (pc' := 73) (L' := [vr 10 0, vi 0]) (st' := []) (h' := (101, (updI I14 10 0 51 x13), J15, R0 b)) 3 rfl ?_
          exact WP.mask rfl rfl h
    · exact WP.ret rfl rfl h
  · refine WP.blk (pc' := 31) (L' := [vr 10 0, vn]) (st' := [vi (I2 10 0 1), vi (I2 10 0 49)]) (h' := (101, (updI I2 10 0 55 (I2 10 0 49)), J3, R0 b)) 8 rfl ?_
    refine WP.icmp_ge (t := 35) (L' := [vr 10 0, vn]) rfl rfl rfl rfl h (fun h => ?_) (fun h => ?_)
    · refine WP.blk (pc' := 49) (L' := [vr 10 0, vn]) (st' := [vi (I2 10 0 51)]) (h' := (101, (updI (updI I2 10 0 55 (I2 10 0 49)) 10 0 50 ((I2 10 0 50) + (1 : Int32))), J3, R0 b)) 8 rfl ?_
      refine WP.if_lt (t := 63) (L' := [vr 10 0, vn]) rfl rfl rfl rfl h (fun h => ?_) (fun h => ?_)
      · refine WP.blk (pc' := 65) (L' := [vr 10 0, vn]) (st' := [vr 10 0, vr 10 0]) (h' := (101, (updI (updI I2 10 0 55 (I2 10 0 49)) 10 0 50 ((I2 10 0 50) + (1 : Int32))), J3, R0 b)) 2 rfl ?_
        refine WP.cal (y' := 186) (as := [vr 10 0]) (L' := [vr 10 0, vn]) (rest := [vr 10 0]) rfl (fun f r h' hf => callV_ok hf rfl rfl rfl) h ?_
        rintro _ _ ⟨x16, I17, J18, rfl, rfl, h⟩
        refine WP.blk (pc' := 73) (L' := [vr 10 0, vi 0]) (st' := []) (h' := (101, (updI I17 10 0 51 x16), J18, R0 b)) 3 rfl ?_
        exact WP.mask rfl rfl h
      · refine WP.blk (pc' := 53) (L' := [vr 10 0, vn]) (st' := [vr 10 0]) (h' := (101, (updI (updI I2 10 0 55 (I2 10 0 49)) 10 0 50 ((I2 10 0 50) + (1 : Int32))), J3, R0 b)) 1 rfl ?_
        refine WP.cal (y' := 186) (as := [vr 10 0]) (L' := [vr 10 0, vn]) (rest := []) rfl (fun f r h' hf => callV_ok hf rfl rfl rfl) h ?_
        rintro _ _ ⟨x19, I20, J21, rfl, rfl, h⟩
        refine WP.blk (pc' := 60) (L' := [vr 10 0, vn]) (st' := [vi (I20 10 0 51), vi x19]) (h' := (101, I20, J21, R0 b)) 2 rfl ?_
        refine WP.icmp_ge (t := 99) (L' := [vr 10 0, vn]) rfl rfl rfl rfl h (fun h => ?_) (fun h => ?_)
        · refine WP.blk (pc' := 103) (L' := [vr 10 0, vn]) (st' := [vi (I20 10 0 56)]) (h' := (101, I20, J21, R0 b)) 2 rfl ?_
          refine WP.if_lt (t := 117) (L' := [vr 10 0, vn]) rfl rfl rfl rfl h (fun h => ?_) (fun h => ?_)
          · exact WP.ret rfl rfl h
          · refine WP.blk (pc' := 111) (L' := [vr 10 0, vn]) (st' := [vi (I20 10 0 56), vr 10 0]) (h' := (101, I20, J21, R0 b)) 3 rfl ?_
            refine WP.cal (y' := 204) (as := [vr 10 0, vi (I20 10 0 56)]) (L' := [vr 10 0, vn]) (rest := []) rfl (fun f r h' hf => callV_ok hf rfl rfl rfl) h ?_
            rintro _ _ ⟨x22, I23, J24, rfl, rfl, h⟩
            refine WP.if_lt (t := 118) (L' := [vr 10 0, vn]) rfl rfl rfl rfl h (fun h => ?_) (fun h => ?_)
            · refine WP.blk (pc' := 122) (L' := [vr 10 0, vn]) (st' := [vi (I23 10 0 53)]) (h' := (101, I23, J24, R0 b)) 2 rfl ?_
              refine WP.if_ne (t := 153) (L' := [vr 10 0, vn]) rfl rfl rfl rfl h (fun h => ?_) (fun h => ?_)
              · refine WP.blk (pc' := 163) (L' := [vr 10 0, vn]) (st' := []) (h' := (101, (updI I23 10 0 53 ((I23 10 0 53) + (1 : Int32))), J24, R0 b)) 6 rfl ?_
                exact WP.ret rfl rfl h
              · refine WP.blk (pc' := 127) (L' := [vr 10 0, vi 0]) (st' := []) (h' := (101, I23, J24, R0 b)) 2 rfl ?_
                exact WP.mask rfl rfl h
            · exact WP.ret rfl rfl h
        · refine WP.blk (pc' := 65) (L' := [vr 10 0, vn]) (st' := [vr 10 0, vr 10 0]) (h' := (101, I20, J21, R0 b)) 2 rfl ?_
          refine WP.cal (y' := 186) (as := [vr 10 0]) (L' := [vr 10 0, vn]) (rest := [vr 10 0]) rfl (fun f r h' hf => callV_ok hf rfl rfl rfl) h ?_
          rintro _ _ ⟨x25, I26, J27, rfl, rfl, h⟩
          refine WP.blk (pc' := 73) (L' := [vr 10 0, vi 0]) (st' := []) (h' := (101, (updI I26 10 0 51 x25), J27, R0 b)) 3 rfl ?_
          exact WP.mask rfl rfl h
    · exact WP.ret rfl rfl h
set_option maxRecDepth 20000 in
theorem t_X10_metOrder_73 {D : Nat} (l1 : Int32) (I : IM) (J : JM) (b : Bool) {Q : Option AV → AH → Prop} (h : (if (I 10 0 1) ≤ l1 then (if (I 10 0 56) < 0 then Q none (101, I, J, R0 b) else (Call D 204 [vr 10 0, vi (I 10 0 56)] (101, I, J, R0 b) (RIf b fun x28 I29 J30 => (if x28 < 0 then (if ¬ (I29 10 0 53) = 0 then Q none (101, (updI I29 10 0 53 ((I29 10 0 53) + (1 : Int32))), J30, R0 b) else WP D 190 127 [vr 10 0, vi 0] [] (101, I29, J30, R0 b) Q) else Q none (101, I29, J30, R0 b))))) else (vp_in l1 7 ∧ (vp_in l1 7 ∧ WP D 190 73 [vr 10 0, vi (l1 + 1)] [] (101, (updI I 69 0 l1.toNatClampNeg (I 68 0 l1.toNatClampNeg)), J, R0 b) Q)))) : WP D 190 73 [vr 10 0, vi l1] [] (101, I, J, R0 b) Q := by
  refine WP.blk (pc' := 78) (L' := [vr 10 0, vi l1]) (st' := [vi (I 10 0 1), vi l1]) (h' := (101, I, J, R0 b)) 3 rfl ?_
  refine WP.icmp_ge (t := 99) (L' := [vr 10 0, vi l1]) rfl rfl rfl rfl h (fun h => ?_) (fun h => ?_)
  · refine WP.blk (pc' := 103) (L' := [vr 10 0, vn]) (st' := [vi (I 10 0 56)]) (h' := (101, I, J, R0 b)) 2 rfl ?_
    refine WP.if_lt (t := 117) (L' := [vr 10 0, vn]) rfl rfl rfl rfl h (fun h => ?_) (fun h => ?_)
    · exact WP.ret rfl rfl h
    · refine WP.blk (pc' := 111) (L' := [vr 10 0, vn]) (st' := [vi (I 10 0 56), vr 10 0]) (h' := (101, I, J, R0 b)) 3 rfl ?_
      refine WP.cal (y' := 204) (as := [vr 10 0, vi (I 10 0 56)]) (L' := [vr 10 0, vn]) (rest := []) rfl (fun f r h' hf => callV_ok hf rfl rfl rfl) h ?_
      rintro _ _ ⟨x28, I29, J30, rfl, rfl, h⟩
      refine WP.if_lt (t := 118) (L' := [vr 10 0, vn]) rfl rfl rfl rfl h (fun h => ?_) (fun h => ?_)
      · refine WP.blk (pc' := 122) (L' := [vr 10 0, vn]) (st' := [vi (I29 10 0 53)]) (h' := (101, I29, J30, R0 b)) 2 rfl ?_
        refine WP.if_ne (t := 153) (L' := [vr 10 0, vn]) rfl rfl rfl rfl h (fun h => ?_) (fun h => ?_)
        · refine WP.blk (pc' := 163) (L' := [vr 10 0, vn]) (st' := []) (h' := (101, (updI I29 10 0 53 ((I29 10 0 53) + (1 : Int32))), J30, R0 b)) 6 rfl ?_
          exact WP.ret rfl rfl h
        · refine WP.blk (pc' := 127) (L' := [vr 10 0, vi 0]) (st' := []) (h' := (101, I29, J30, R0 b)) 2 rfl ?_
          exact WP.mask rfl rfl h
      · exact WP.ret rfl rfl h
  · refine WP.blk (pc' := 91) (L' := [vr 10 0, vi l1]) (st' := [vi l1, vr 68 0, vi l1, vr 69 0]) (h' := (101, I, J, R0 b)) 6 rfl ?_
    refine WP.step (pc' := 92) (L' := [vr 10 0, vi l1]) (st' := [vi (I 68 0 l1.toNatClampNeg), vi l1, vr 69 0]) (h' := (101, I, J, R0 b)) rfl (iaload_ok (n := 7) rfl rfl rfl (inA_of h.1)) ?_
    have h := And.right h
    refine WP.step (pc' := 93) (L' := [vr 10 0, vi l1]) (st' := []) (h' := (101, (updI I 69 0 l1.toNatClampNeg (I 68 0 l1.toNatClampNeg)), J, R0 b)) rfl (iastore_ok (n := 7) rfl rfl rfl (inA_of h.1)) ?_
    have h := And.right h
    refine WP.blk (pc' := 73) (L' := [vr 10 0, vi (l1 + 1)]) (st' := []) (h' := (101, (updI I 69 0 l1.toNatClampNeg (I 68 0 l1.toNatClampNeg)), J, R0 b)) 2 rfl ?_
    exact WP.mask rfl rfl h
set_option maxRecDepth 20000 in
theorem t_X10_metOrder_127 {D : Nat} (l1 : Int32) (I : IM) (J : JM) (b : Bool) {Q : Option AV → AH → Prop} (h : (if (I 10 0 1) ≤ l1 then Q none (101, (updI I 10 0 53 ((I 10 0 53) + (1 : Int32))), J, R0 b) else (vp_in l1 7 ∧ (vp_in l1 7 ∧ WP D 190 127 [vr 10 0, vi (l1 + 1)] [] (101, (updI I 70 0 l1.toNatClampNeg (I 68 0 l1.toNatClampNeg)), J, R0 b) Q)))) : WP D 190 127 [vr 10 0, vi l1] [] (101, I, J, R0 b) Q := by
  refine WP.blk (pc' := 132) (L' := [vr 10 0, vi l1]) (st' := [vi (I 10 0 1), vi l1]) (h' := (101, I, J, R0 b)) 3 rfl ?_
  refine WP.icmp_ge (t := 153) (L' := [vr 10 0, vi l1]) rfl rfl rfl rfl h (fun h => ?_) (fun h => ?_)
  · refine WP.blk (pc' := 163) (L' := [vr 10 0, vn]) (st' := []) (h' := (101, (updI I 10 0 53 ((I 10 0 53) + (1 : Int32))), J, R0 b)) 6 rfl ?_
    exact WP.ret rfl rfl h
  · refine WP.blk (pc' := 145) (L' := [vr 10 0, vi l1]) (st' := [vi l1, vr 68 0, vi l1, vr 70 0]) (h' := (101, I, J, R0 b)) 6 rfl ?_
    refine WP.step (pc' := 146) (L' := [vr 10 0, vi l1]) (st' := [vi (I 68 0 l1.toNatClampNeg), vi l1, vr 70 0]) (h' := (101, I, J, R0 b)) rfl (iaload_ok (n := 7) rfl rfl rfl (inA_of h.1)) ?_
    have h := And.right h
    refine WP.step (pc' := 147) (L' := [vr 10 0, vi l1]) (st' := []) (h' := (101, (updI I 70 0 l1.toNatClampNeg (I 68 0 l1.toNatClampNeg)), J, R0 b)) rfl (iastore_ok (n := 7) rfl rfl rfl (inA_of h.1)) ?_
    have h := And.right h
    refine WP.blk (pc' := 127) (L' := [vr 10 0, vi (l1 + 1)]) (st' := []) (h' := (101, (updI I 70 0 l1.toNatClampNeg (I 68 0 l1.toNatClampNeg)), J, R0 b)) 2 rfl ?_
    exact WP.mask rfl rfl h
set_option maxRecDepth 20000 in
theorem t_X10_goOrders {D : Nat} (l1 : Int32) (I : IM) (J : JM) (b : Bool) {Q : Option AV → AH → Prop} (h : (if ¬ (I 10 0 48) = (I 10 0 1) then WP D 191 18 [vr 10 0, vi l1, vi 0] [] (101, I, J, R0 b) Q else (Call D 190 [vr 10 0] (101, I, J, R0 b) (RVf b fun I2 J3 => Q none (101, I2, J3, R0 b))))) : Call (D + 1) 191 [vr 10 0, vi l1] (101, I, J, R0 b) Q := by
  refine Call.of rfl ?_
  show WP D 191 0 [vr 10 0, vi l1, vn] [] (101, I, J, R0 b) Q
  refine WP.blk (pc' := 8) (L' := [vr 10 0, vi l1, vn]) (st' := [vi (I 10 0 1), vi (I 10 0 48)]) (h' := (101, I, J, R0 b)) 4 rfl ?_
  refine WP.icmp_ne (t := 16) (L' := [vr 10 0, vi l1, vn]) rfl rfl rfl rfl h (fun h => ?_) (fun h => ?_)
  · refine WP.blk (pc' := 18) (L' := [vr 10 0, vi l1, vi 0]) (st' := []) (h' := (101, I, J, R0 b)) 2 rfl ?_
    exact WP.mask rfl rfl h
  · refine WP.blk (pc' := 12) (L' := [vr 10 0, vi l1, vn]) (st' := [vr 10 0]) (h' := (101, I, J, R0 b)) 1 rfl ?_
    refine WP.cal (y' := 190) (as := [vr 10 0]) (L' := [vr 10 0, vi l1, vn]) (rest := []) rfl (fun f r h' hf => callV_ok hf rfl rfl rfl) h ?_
    rintro _ _ ⟨I2, J3, rfl, rfl, h⟩
    exact WP.ret rfl rfl h
set_option maxRecDepth 20000 in
theorem t_X10_goOrders_18 {D : Nat} (l1 : Int32) (l2 : Int32) (I : IM) (J : JM) (b : Bool) {Q : Option AV → AH → Prop} (h : (if (I 10 0 1) ≤ l2 then Q none (101, I, J, R0 b) else (if ¬ ((l1 >>> (l2 &&& 31)) &&& (1 : Int32)) = (1 : Int32) then (vp_in (I 10 0 48) 7 ∧ (Call D 191 [vr 10 0, vi (l1 ||| ((1 : Int32) <<< (l2 &&& 31)))] (101, (updI (updI I 68 0 (I 10 0 48).toNatClampNeg l2) 10 0 48 ((I 10 0 48) + (1 : Int32))), J, R0 b) (RVf b fun I5 J6 => WP D 191 18 [vr 10 0, vi l1, vi (l2 + 1)] [] (101, (updI I5 10 0 48 ((I5 10 0 48) - (1 : Int32))), J6, R0 b) Q))) else WP D 191 18 [vr 10 0, vi l1, vi (l2 + 1)] [] (101, I, J, R0 b) Q))) : WP D 191 18 [vr 10 0, vi l1, vi l2] [] (101, I, J, R0 b) Q := by
  refine WP.blk (pc' := 23) (L' := [vr 10 0, vi l1, vi l2]) (st' := [vi (I 10 0 1), vi l2]) (h' := (101, I, J, R0 b)) 3 rfl ?_
  refine WP.icmp_ge (t := 83) (L' := [vr 10 0, vi l1, vi l2]) rfl rfl rfl rfl h (fun h => ?_) (fun h => ?_)
  · exact WP.ret rfl rfl h
  · refine WP.blk (pc' := 32) (L' := [vr 10 0, vi l1, vi l2]) (st' := [vi 1, vi ((l1 >>> (l2 &&& 31)) &&& (1 : Int32))]) (h' := (101, I, J, R0 b)) 6 rfl ?_
    refine WP.icmp_ne (t := 38) (L' := [vr 10 0, vi l1, vi l2]) rfl rfl rfl rfl h (fun h => ?_) (fun h => ?_)
    · refine WP.blk (pc' := 47) (L' := [vr 10 0, vi l1, vi l2]) (st' := [vi l2, vi (I 10 0 48), vr 68 0]) (h' := (101, I, J, R0 b)) 5 rfl ?_
      refine WP.step (pc' := 48) (L' := [vr 10 0, vi l1, vi l2]) (st' := []) (h' := (101, (updI I 68 0 (I 10 0 48).toNatClampNeg l2), J, R0 b)) rfl (iastore_ok (n := 7) rfl rfl rfl (inA_of h.1)) ?_
      have h := And.right h
      refine WP.blk (pc' := 64) (L' := [vr 10 0, vi l1, vi l2]) (st' := [vi (l1 ||| ((1 : Int32) <<< (l2 &&& 31))), vr 10 0]) (h' := (101, (updI (updI I 68 0 (I 10 0 48).toNatClampNeg l2) 10 0 48 ((I 10 0 48) + (1 : Int32))), J, R0 b)) 12 rfl ?_
      refine WP.cal (y' := 191) (as := [vr 10 0, vi (l1 ||| ((1 : Int32) <<< (l2 &&& 31)))]) (L' := [vr 10 0, vi l1, vi l2]) (rest := []) rfl (fun f r h' hf => callV_ok hf rfl rfl rfl) h ?_
      rintro _ _ ⟨I5, J6, rfl, rfl, h⟩
      refine WP.blk (pc' := 18) (L' := [vr 10 0, vi l1, vi (l2 + 1)]) (st' := []) (h' := (101, (updI I5 10 0 48 ((I5 10 0 48) - (1 : Int32))), J6, R0 b)) 8 rfl ?_
      exact WP.mask rfl rfl h
    · refine WP.blk (pc' := 18) (L' := [vr 10 0, vi l1, vi (l2 + 1)]) (st' := []) (h' := (101, I, J, R0 b)) 3 rfl ?_
      exact WP.mask rfl rfl h
set_option maxRecDepth 20000 in
theorem t_X10_findOrders {D : Nat} (l1 : Int32) (I : IM) (J : JM) (b : Bool) {Q : Option AV → AH → Prop} (h : (Call D 191 [vr 10 0, vi 0] (101, (updI (updI (updI (updI (updI (updI I 10 0 50 0) 10 0 51 (-1)) 10 0 53 0) 10 0 55 0) 10 0 56 l1) 10 0 48 0), J, R0 b) (RVf b fun I2 J3 => Q none (101, I2, J3, R0 b)))) : Call (D + 1) 192 [vr 10 0, vi l1] (101, I, J, R0 b) Q := by
  refine Call.of rfl ?_
  show WP D 192 0 [vr 10 0, vi l1] [] (101, I, J, R0 b) Q
  refine WP.blk (pc' := 32) (L' := [vr 10 0, vi l1]) (st' := [vi 0, vr 10 0]) (h' := (101, (updI (updI (updI (updI (updI (updI I 10 0 50 0) 10 0 51 (-1)) 10 0 53 0) 10 0 55 0) 10 0 56 l1) 10 0 48 0), J, R0 b)) 20 rfl ?_
  refine WP.cal (y' := 191) (as := [vr 10 0, vi 0]) (L' := [vr 10 0, vi l1]) (rest := []) rfl (fun f r h' hf => callV_ok hf rfl rfl rfl) h ?_
  rintro _ _ ⟨I2, J3, rfl, rfl, h⟩
  exact WP.ret rfl rfl h
set_option maxRecDepth 20000 in
theorem t_X10_can {D : Nat} (l1 : Int32) (I : IM) (J : JM) (b : Bool) {Q : Option AV → AH → Prop} (h : (Call D 135 [vi l1, vi 0, vi 1] (101, I, J, R0 b) (RIf b fun x1 I2 J3 => (if ¬ x1 = 0 then (Call D 192 [vr 10 0, vi (-1)] (101, I2, J3, R0 b) (RVf b fun I5 J6 => (if ¬ l1 = (1 : Int32) then (if (I5 10 0 50) ≤ 0 then Q (some (vi 0)) (101, I5, J6, R0 b) else Q (some (vi 1)) (101, I5, J6, R0 b)) else Q (some (vi (I5 10 0 50))) (101, I5, J6, R0 b)))) else Q (some (vi (-1))) (101, I2, J3, R0 b))))) : Call (D + 1) 193 [vr 10 0, vi l1] (101, I, J, R0 b) Q := by
  refine Call.of rfl ?_
  show WP D 193 0 [vr 10 0, vi l1] [] (101, I, J, R0 b) Q
  refine WP.blk (pc' := 3) (L' := [vr 10 0, vi l1]) (st' := [vi 1, vi 0, vi l1]) (h' := (101, I, J, R0 b)) 3 rfl ?_
  refine WP.cal (y' := 135) (as := [vi l1, vi 0, vi 1]) (L' := [vr 10 0, vi l1]) (rest := []) rfl (fun f r h' hf => callS_ok hf rfl rfl rfl) h ?_
  rintro _ _ ⟨x1, I2, J3, rfl, rfl, h⟩
  refine WP.if_ne (t := 11) (L' := [vr 10 0, vi l1]) rfl rfl rfl rfl h (fun h => ?_) (fun h => ?_)
  · refine WP.blk (pc' := 13) (L' := [vr 10 0, vi l1]) (st' := [vi (-1), vr 10 0]) (h' := (101, I2, J3, R0 b)) 2 rfl ?_
    refine WP.cal (y' := 192) (as := [vr 10 0, vi (-1)]) (L' := [vr 10 0, vi l1]) (rest := []) rfl (fun f r h' hf => callV_ok hf rfl rfl rfl) h ?_
    rintro _ _ ⟨I5, J6, rfl, rfl, h⟩
    refine WP.blk (pc' := 18) (L' := [vr 10 0, vi l1]) (st' := [vi 1, vi l1]) (h' := (101, I5, J6, R0 b)) 2 rfl ?_
    refine WP.icmp_ne (t := 28) (L' := [vr 10 0, vi l1]) rfl rfl rfl rfl h (fun h => ?_) (fun h => ?_)
    · refine WP.blk (pc' := 32) (L' := [vr 10 0, vi l1]) (st' := [vi (I5 10 0 50)]) (h' := (101, I5, J6, R0 b)) 2 rfl ?_
      refine WP.if_le (t := 39) (L' := [vr 10 0, vi l1]) rfl rfl rfl rfl h (fun h => ?_) (fun h => ?_)
      · refine WP.blk (pc' := 40) (L' := [vr 10 0, vi l1]) (st' := [vi 0]) (h' := (101, I5, J6, R0 b)) 1 rfl ?_
        exact WP.ret rfl rfl h
      · refine WP.blk (pc' := 40) (L' := [vr 10 0, vi l1]) (st' := [vi 1]) (h' := (101, I5, J6, R0 b)) 2 rfl ?_
        exact WP.ret rfl rfl h
    · refine WP.blk (pc' := 40) (L' := [vr 10 0, vi l1]) (st' := [vi (I5 10 0 50)]) (h' := (101, I5, J6, R0 b)) 3 rfl ?_
      exact WP.ret rfl rfl h
  · refine WP.blk (pc' := 10) (L' := [vr 10 0, vi l1]) (st' := [vi (-1)]) (h' := (101, I2, J3, R0 b)) 1 rfl ?_
    exact WP.ret rfl rfl h
set_option maxRecDepth 20000 in
theorem t_X10_soonest {D : Nat} (l1 : Int32) (I : IM) (J : JM) (b : Bool) {Q : Option AV → AH → Prop} (h : (if (-1 : Int32) ≤ l1 then (Call D 192 [vr 10 0, vi (-1)] (101, I, J, R0 b) (RVf b fun I2 J3 => (if (I2 10 0 50) = 0 then Q (some (vi (-2))) (101, I2, J3, R0 b) else (if l1 < (I2 10 0 1) then (if 0 ≤ l1 then (vp_in l1 7 ∧ Q (some (vi (I2 69 0 l1.toNatClampNeg))) (101, I2, J3, R0 b)) else Q (some (vi (I2 10 0 51))) (101, I2, J3, R0 b)) else Q (some (vi (-2))) (101, I2, J3, R0 b))))) else Q (some (vi (-1))) (101, I, J, R0 b))) : Call (D + 1) 194 [vr 10 0, vi l1] (101, I, J, R0 b) Q := by
  refine Call.of rfl ?_
  show WP D 194 0 [vr 10 0, vi l1] [] (101, I, J, R0 b) Q
  refine WP.blk (pc' := 2) (L' := [vr 10 0, vi l1]) (st' := [vi (-1), vi l1]) (h' := (101, I, J, R0 b)) 2 rfl ?_
  refine WP.icmp_ge (t := 7) (L' := [vr 10 0, vi l1]) rfl rfl rfl rfl h (fun h => ?_) (fun h => ?_)
  · refine WP.blk (pc' := 9) (L' := [vr 10 0, vi l1]) (st' := [vi (-1), vr 10 0]) (h' := (101, I, J, R0 b)) 2 rfl ?_
    refine WP.cal (y' := 192) (as := [vr 10 0, vi (-1)]) (L' := [vr 10 0, vi l1]) (rest := []) rfl (fun f r h' hf => callV_ok hf rfl rfl rfl) h ?_
    rintro _ _ ⟨I2, J3, rfl, rfl, h⟩
    refine WP.blk (pc' := 16) (L' := [vr 10 0, vi l1]) (st' := [vi (I2 10 0 50)]) (h' := (101, I2, J3, R0 b)) 2 rfl ?_
    refine WP.if_eq (t := 27) (L' := [vr 10 0, vi l1]) rfl rfl rfl rfl h (fun h => ?_) (fun h => ?_)
    · refine WP.blk (pc' := 29) (L' := [vn, vn]) (st' := [vi (-2)]) (h' := (101, I2, J3, R0 b)) 1 rfl ?_
      exact WP.ret rfl rfl h
    · refine WP.blk (pc' := 24) (L' := [vr 10 0, vi l1]) (st' := [vi (I2 10 0 1), vi l1]) (h' := (101, I2, J3, R0 b)) 3 rfl ?_
      refine WP.icmp_lt (t := 30) (L' := [vr 10 0, vi l1]) rfl rfl rfl rfl h (fun h => ?_) (fun h => ?_)
      · refine WP.blk (pc' := 31) (L' := [vr 10 0, vi l1]) (st' := [vi l1]) (h' := (101, I2, J3, R0 b)) 1 rfl ?_
        refine WP.if_ge (t := 41) (L' := [vr 10 0, vi l1]) rfl rfl rfl rfl h (fun h => ?_) (fun h => ?_)
        · refine WP.blk (pc' := 46) (L' := [vr 10 0, vi l1]) (st' := [vi l1, vr 69 0]) (h' := (101, I2, J3, R0 b)) 3 rfl ?_
          refine WP.step (pc' := 47) (L' := [vr 10 0, vi l1]) (st' := [vi (I2 69 0 l1.toNatClampNeg)]) (h' := (101, I2, J3, R0 b)) rfl (iaload_ok (n := 7) rfl rfl rfl (inA_of h.1)) ?_
          have h := And.right h
          exact WP.ret rfl rfl h
        · refine WP.blk (pc' := 47) (L' := [vr 10 0, vi l1]) (st' := [vi (I2 10 0 51)]) (h' := (101, I2, J3, R0 b)) 3 rfl ?_
          exact WP.ret rfl rfl h
      · refine WP.blk (pc' := 29) (L' := [vn, vn]) (st' := [vi (-2)]) (h' := (101, I2, J3, R0 b)) 1 rfl ?_
        exact WP.ret rfl rfl h
  · refine WP.blk (pc' := 6) (L' := [vr 10 0, vi l1]) (st' := [vi (-1)]) (h' := (101, I, J, R0 b)) 1 rfl ?_
    exact WP.ret rfl rfl h
set_option maxRecDepth 20000 in
theorem t_X10_need {D : Nat} (l1 : Int32) (l2 : Int32) (I : IM) (J : JM) (b : Bool) {Q : Option AV → AH → Prop} (h : (Call D 135 [vi l1, vi 0, vi 999] (101, I, J, R0 b) (RIf b fun x1 I2 J3 => (if x1 = 0 then Q (some (vi (-1))) (101, I2, J3, R0 b) else (Call D 135 [vi l2, vi 0, vi 1] (101, I2, J3, R0 b) (RIf b fun x4 I5 J6 => (if ¬ x4 = 0 then (if ¬ l2 = 0 then WP D 195 45 [vr 10 0, vi l1, vi l2, vi (I5 10 0 8), vi (-2), vi 0] [] (101, I5, J6, R0 b) Q else WP D 195 45 [vr 10 0, vi l1, vi l2, vi (I5 10 0 9), vi (-2), vi 0] [] (101, I5, J6, R0 b) Q) else Q (some (vi (-1))) (101, I5, J6, R0 b)))))))) : Call (D + 1) 195 [vr 10 0, vi l1, vi l2] (101, I, J, R0 b) Q := by
  refine Call.of rfl ?_
  show WP D 195 0 [vr 10 0, vi l1, vi l2, vn, vn, vn] [] (101, I, J, R0 b) Q
  refine WP.blk (pc' := 5) (L' := [vr 10 0, vi l1, vi l2, vn, vn, vn]) (st' := [vi 999, vi 0, vi l1]) (h' := (101, I, J, R0 b)) 3 rfl ?_
  refine WP.cal (y' := 135) (as := [vi l1, vi 0, vi 999]) (L' := [vr 10 0, vi l1, vi l2, vn, vn, vn]) (rest := []) rfl (fun f r h' hf => callS_ok hf rfl rfl rfl) h ?_
  rintro _ _ ⟨x1, I2, J3, rfl, rfl, h⟩
  refine WP.if_eq (t := 20) (L' := [vr 10 0, vi l1, vi l2, vn, vn, vn]) rfl rfl rfl rfl h (fun h => ?_) (fun h => ?_)
  · refine WP.blk (pc' := 21) (L' := [vn, vn, vn, vn, vn, vn]) (st' := [vi (-1)]) (h' := (101, I2, J3, R0 b)) 1 rfl ?_
    exact WP.ret rfl rfl h
  · refine WP.blk (pc' := 14) (L' := [vr 10 0, vi l1, vi l2, vn, vn, vn]) (st' := [vi 1, vi 0, vi l2]) (h' := (101, I2, J3, R0 b)) 3 rfl ?_
    refine WP.cal (y' := 135) (as := [vi l2, vi 0, vi 1]) (L' := [vr 10 0, vi l1, vi l2, vn, vn, vn]) (rest := []) rfl (fun f r h' hf => callS_ok hf rfl rfl rfl) h ?_
    rintro _ _ ⟨x4, I5, J6, rfl, rfl, h⟩
    refine WP.if_ne (t := 22) (L' := [vr 10 0, vi l1, vi l2, vn, vn, vn]) rfl rfl rfl rfl h (fun h => ?_) (fun h => ?_)
    · refine WP.blk (pc' := 23) (L' := [vr 10 0, vi l1, vi l2, vn, vn, vn]) (st' := [vi l2]) (h' := (101, I5, J6, R0 b)) 1 rfl ?_
      refine WP.if_ne (t := 33) (L' := [vr 10 0, vi l1, vi l2, vn, vn, vn]) rfl rfl rfl rfl h (fun h => ?_) (fun h => ?_)
      · refine WP.blk (pc' := 45) (L' := [vr 10 0, vi l1, vi l2, vi (I5 10 0 8), vi (-2), vi 0]) (st' := []) (h' := (101, I5, J6, R0 b)) 7 rfl ?_
        exact WP.mask rfl rfl h
      · refine WP.blk (pc' := 45) (L' := [vr 10 0, vi l1, vi l2, vi (I5 10 0 9), vi (-2), vi 0]) (st' := []) (h' := (101, I5, J6, R0 b)) 8 rfl ?_
        exact WP.mask rfl rfl h
    · refine WP.blk (pc' := 21) (L' := [vn, vn, vn, vn, vn, vn]) (st' := [vi (-1)]) (h' := (101, I5, J6, R0 b)) 1 rfl ?_
      exact WP.ret rfl rfl h
set_option maxRecDepth 20000 in
theorem t_X10_need_45 {D : Nat} (l1 : Int32) (l2 : Int32) (l3 : Int32) (l4 : Int32) (l5 : Int32) (I : IM) (J : JM) (b : Bool) {Q : Option AV → AH → Prop} (h : (if ¬ l2 = 0 then (if (3 : Int32) < l5 then (if ¬ l2 = 0 then (Call D 142 [vr 10 0, vi 6, vi 0, vi l3] (101, I, J, R0 b) (RVf b fun I8 J9 => Q (some (vi l4)) (101, I8, J9, R0 b))) else (Call D 142 [vr 10 0, vi 7, vi 0, vi l3] (101, I, J, R0 b) (RVf b fun I11 J12 => Q (some (vi l4)) (101, I11, J12, R0 b)))) else (if 0 ≤ l4 then (if ¬ l2 = 0 then (Call D 142 [vr 10 0, vi 6, vi 0, vi l3] (101, I, J, R0 b) (RVf b fun I14 J15 => Q (some (vi l4)) (101, I14, J15, R0 b))) else (Call D 142 [vr 10 0, vi 7, vi 0, vi l3] (101, I, J, R0 b) (RVf b fun I17 J18 => Q (some (vi l4)) (101, I17, J18, R0 b)))) else (if ¬ l2 = 0 then (Call D 142 [vr 10 0, vi 6, vi 0, vi l5] (101, I, J, R0 b) (RVf b fun I20 J21 => (Call D 192 [vr 10 0, vi (-1)] (101, I20, J21, R0 b) (RVf b fun I23 J24 => (if (I23 10 0 50) ≤ 0 then WP D 195 45 [vr 10 0, vi l1, vi l2, vi l3, vi l4, vi (l5 + 1)] [] (101, I23, J24, R0 b) Q else (if l1 < (I23 10 0 51) then WP D 195 45 [vr 10 0, vi l1, vi l2, vi l3, vi l4, vi (l5 + 1)] [] (101, I23, J24, R0 b) Q else WP D 195 45 [vr 10 0, vi l1, vi l2, vi l3, vi l5, vi (l5 + 1)] [] (101, I23, J24, R0 b) Q)))))) else (Call D 142 [vr 10 0, vi 7, vi 0, vi l5] (101, I, J, R0 b) (RVf b fun I26 J27 => (Call D 192 [vr 10 0, vi (-1)] (101, I26, J27, R0 b) (RVf b fun I29 J30 => (if (I29 10 0 50) ≤ 0 then WP D 195 45 [vr 10 0, vi l1, vi l2, vi l3, vi l4, vi (l5 + 1)] [] (101, I29, J30, R0 b) Q else (if l1 < (I29 10 0 51) then WP D 195 45 [vr 10 0, vi l1, vi l2, vi l3, vi l4, vi (l5 + 1)] [] (101, I29, J30, R0 b) Q else WP D 195 45 [vr 10 0, vi l1, vi l2, vi l3, vi l5, vi (l5 + 1)] [] (101, I29, J30, R0 b) Q))))))))) else (if (6 : Int32) < l5 then (if ¬ l2 = 0 then (Call D 142 [vr 10 0, vi 6, vi 0, vi l3] (101, I, J, R0 b) (RVf b fun I32 J33 => Q (some (vi l4)) (101, I32, J33, R0 b))) else (Call D 142 [vr 10 0, vi 7, vi 0, vi l3] (101, I, J, R0 b) (RVf b fun I35 J36 => Q (some (vi l4)) (101, I35, J36, R0 b)))) else (if 0 ≤ l4 then (if ¬ l2 = 0 then (Call D 142 [vr 10 0, vi 6, vi 0, vi l3] (101, I, J, R0 b) (RVf b fun I38 J39 => Q (some (vi l4)) (101, I38, J39, R0 b))) else (Call D 142 [vr 10 0, vi 7, vi 0, vi l3] (101, I, J, R0 b) (RVf b fun I41 J42 => Q (some (vi l4)) (101, I41, J42, R0 b)))) else (if ¬ l2 = 0 then (Call D 142 [vr 10 0, vi 6, vi 0, vi l5] (101, I, J, R0 b) (RVf b fun I44 J45 => (Call D 192 [vr 10 0, vi (-1)] (101, I44, J45, R0 b) (RVf b fun I47 J48 => (if (I47 10 0 50) ≤ 0 then WP D 195 45 [vr 10 0, vi l1, vi l2, vi l3, vi l4, vi (l5 + 1)] [] (101, I47, J48, R0 b) Q else (if l1 < (I47 10 0 51) then WP D 195 45 [vr 10 0, vi l1, vi l2, vi l3, vi l4, vi (l5 + 1)] [] (101, I47, J48, R0 b) Q else WP D 195 45 [vr 10 0, vi l1, vi l2, vi l3, vi l5, vi (l5 + 1)] [] (101, I47, J48, R0 b) Q)))))) else (Call D 142 [vr 10 0, vi 7, vi 0, vi l5] (101, I, J, R0 b) (RVf b fun I50 J51 => (Call D 192 [vr 10 0, vi (-1)] (101, I50, J51, R0 b) (RVf b fun I53 J54 => (if (I53 10 0 50) ≤ 0 then WP D 195 45 [vr 10 0, vi l1, vi l2, vi l3, vi l4, vi (l5 + 1)] [] (101, I53, J54, R0 b) Q else (if l1 < (I53 10 0 51) then WP D 195 45 [vr 10 0, vi l1, vi l2, vi l3, vi l4, vi (l5 + 1)] [] (101, I53, J54, R0 b) Q else WP D 195 45 [vr 10 0, vi l1, vi l2, vi l3, vi l5, vi (l5 + 1)] [] (101, I53, J54, R0 b) Q))))))))))) : WP D 195 45 [vr 10 0, vi l1, vi l2, vi l3, vi l4, vi l5] [] (101, I, J, R0 b) Q := by
  refine WP.blk (pc' := 48) (L' := [vr 10 0, vi l1, vi l2, vi l3, vi l4, vi l5]) (st' := [vi l2, vi l5]) (h' := (101, I, J, R0 b)) 2 rfl ?_
  refine WP.if_ne (t := 56) (L' := [vr 10 0, vi l1, vi l2, vi l3, vi l4, vi l5]) rfl rfl rfl rfl h (fun h => ?_) (fun h => ?_)
  · refine WP.blk (pc' := 57) (L' := [vr 10 0, vi l1, vi l2, vi l3, vi l4, vi l5]) (st' := [vi 3, vi l5]) (h' := (101, I, J, R0 b)) 1 rfl ?_
    refine WP.icmp_gt (t := 113) (L' := [vr 10 0, vi l1, vi l2, vi l3, vi l4, vi l5]) rfl rfl rfl rfl h (fun h => ?_) (fun h => ?_)
    · refine WP.blk (pc' := 115) (L' := [vr 10 0, vn, vi l2, vi l3, vi l4, vn]) (st' := [vi l2, vr 10 0]) (h' := (101, I, J, R0 b)) 2 rfl ?_
      refine WP.if_ne (t := 123) (L' := [vr 10 0, vn, vi l2, vi l3, vi l4, vn]) rfl rfl rfl rfl h (fun h => ?_) (fun h => ?_)
      · refine WP.blk (pc' := 127) (L' := [vn, vn, vn, vi l3, vi l4, vn]) (st' := [vi l3, vi 0, vi 6, vr 10 0]) (h' := (101, I, J, R0 b)) 3 rfl ?_
        refine WP.cal (y' := 142) (as := [vr 10 0, vi 6, vi 0, vi l3]) (L' := [vn, vn, vn, vi l3, vi l4, vn]) (rest := []) rfl (fun f r h' hf => callV_ok hf rfl rfl rfl) h ?_
        rintro _ _ ⟨I8, J9, rfl, rfl, h⟩
        refine WP.blk (pc' := 132) (L' := [vn, vn, vn, vi l3, vi l4, vn]) (st' := [vi l4]) (h' := (101, I8, J9, R0 b)) 1 rfl ?_
        exact WP.ret rfl rfl h
      · refine WP.blk (pc' := 127) (L' := [vn, vn, vn, vi l3, vi l4, vn]) (st' := [vi l3, vi 0, vi 7, vr 10 0]) (h' := (101, I, J, R0 b)) 4 rfl ?_
        refine WP.cal (y' := 142) (as := [vr 10 0, vi 7, vi 0, vi l3]) (L' := [vn, vn, vn, vi l3, vi l4, vn]) (rest := []) rfl (fun f r h' hf => callV_ok hf rfl rfl rfl) h ?_
        rintro _ _ ⟨I11, J12, rfl, rfl, h⟩
        refine WP.blk (pc' := 132) (L' := [vn, vn, vn, vi l3, vi l4, vn]) (st' := [vi l4]) (h' := (101, I11, J12, R0 b)) 1 rfl ?_
        exact WP.ret rfl rfl h
    · refine WP.blk (pc' := 62) (L' := [vr 10 0, vi l1, vi l2, vi l3, vi l4, vi l5]) (st' := [vi l4]) (h' := (101, I, J, R0 b)) 1 rfl ?_
      refine WP.if_ge (t := 113) (L' := [vr 10 0, vi l1, vi l2, vi l3, vi l4, vi l5]) rfl rfl rfl rfl h (fun h => ?_) (fun h => ?_)
      · refine WP.blk (pc' := 115) (L' := [vr 10 0, vn, vi l2, vi l3, vi l4, vn]) (st' := [vi l2, vr 10 0]) (h' := (101, I, J, R0 b)) 2 rfl ?_
        refine WP.if_ne (t := 123) (L' := [vr 10 0, vn, vi l2, vi l3, vi l4, vn]) rfl rfl rfl rfl h (fun h => ?_) (fun h => ?_)
        · refine WP.blk (pc' := 127) (L' := [vn, vn, vn, vi l3, vi l4, vn]) (st' := [vi l3, vi 0, vi 6, vr 10 0]) (h' := (101, I, J, R0 b)) 3 rfl ?_
          refine WP.cal (y' := 142) (as := [vr 10 0, vi 6, vi 0, vi l3]) (L' := [vn, vn, vn, vi l3, vi l4, vn]) (rest := []) rfl (fun f r h' hf => callV_ok hf rfl rfl rfl) h ?_
          rintro _ _ ⟨I14, J15, rfl, rfl, h⟩
          refine WP.blk (pc' := 132) (L' := [vn, vn, vn, vi l3, vi l4, vn]) (st' := [vi l4]) (h' := (101, I14, J15, R0 b)) 1 rfl ?_
          exact WP.ret rfl rfl h
        · refine WP.blk (pc' := 127) (L' := [vn, vn, vn, vi l3, vi l4, vn]) (st' := [vi l3, vi 0, vi 7, vr 10 0]) (h' := (101, I, J, R0 b)) 4 rfl ?_
          refine WP.cal (y' := 142) (as := [vr 10 0, vi 7, vi 0, vi l3]) (L' := [vn, vn, vn, vi l3, vi l4, vn]) (rest := []) rfl (fun f r h' hf => callV_ok hf rfl rfl rfl) h ?_
          rintro _ _ ⟨I17, J18, rfl, rfl, h⟩
          refine WP.blk (pc' := 132) (L' := [vn, vn, vn, vi l3, vi l4, vn]) (st' := [vi l4]) (h' := (101, I17, J18, R0 b)) 1 rfl ?_
          exact WP.ret rfl rfl h
      · refine WP.blk (pc' := 67) (L' := [vr 10 0, vi l1, vi l2, vi l3, vi l4, vi l5]) (st' := [vi l2, vr 10 0]) (h' := (101, I, J, R0 b)) 2 rfl ?_
        refine WP.if_ne (t := 75) (L' := [vr 10 0, vi l1, vi l2, vi l3, vi l4, vi l5]) rfl rfl rfl rfl h (fun h => ?_) (fun h => ?_)
        · refine WP.blk (pc' := 80) (L' := [vr 10 0, vi l1, vi l2, vi l3, vi l4, vi l5]) (st' := [vi l5, vi 0, vi 6, vr 10 0]) (h' := (101, I, J, R0 b)) 3 rfl ?_
          refine WP.cal (y' := 142) (as := [vr 10 0, vi 6, vi 0, vi l5]) (L' := [vr 10 0, vi l1, vi l2, vi l3, vi l4, vi l5]) (rest := []) rfl (fun f r h' hf => callV_ok hf rfl rfl rfl) h ?_
          rintro _ _ ⟨I20, J21, rfl, rfl, h⟩
          refine WP.blk (pc' := 85) (L' := [vr 10 0, vi l1, vi l2, vi l3, vi l4, vi l5]) (st' := [vi (-1), vr 10 0]) (h' := (101, I20, J21, R0 b)) 2 rfl ?_
          refine WP.cal (y' := 192) (as := [vr 10 0, vi (-1)]) (L' := [vr 10 0, vi l1, vi l2, vi l3, vi l4, vi l5]) (rest := []) rfl (fun f r h' hf => callV_ok hf rfl rfl rfl) h ?_
          rintro _ _ ⟨I23, J24, rfl, rfl, h⟩
          refine WP.blk (pc' := 92) (L' := [vr 10 0, vi l1, vi l2, vi l3, vi l4, vi l5]) (st' := [vi (I23 10 0 50)]) (h' := (101, I23, J24, R0 b)) 2 rfl ?_
          refine WP.if_le (t := 107) (L' := [vr 10 0, vi l1, vi l2, vi l3, vi l4, vi l5]) rfl rfl rfl rfl h (fun h => ?_) (fun h => ?_)
          · refine WP.blk (pc' := 45) (L' := [vr 10 0, vi l1, vi l2, vi l3, vi l4, vi (l5 + 1)]) (st' := []) (h' := (101, I23, J24, R0 b)) 2 rfl ?_
            exact WP.mask rfl rfl h
          · refine WP.blk (pc' := 100) (L' := [vr 10 0, vi l1, vi l2, vi l3, vi l4, vi l5]) (st' := [vi l1, vi (I23 10 0 51)]) (h' := (101, I23, J24, R0 b)) 3 rfl ?_
            refine WP.icmp_gt (t := 107) (L' := [vr 10 0, vi l1, vi l2, vi l3, vi l4, vi l5]) rfl rfl rfl rfl h (fun h => ?_) (fun h => ?_)
            · refine WP.blk (pc' := 45) (L' := [vr 10 0, vi l1, vi l2, vi l3, vi l4, vi (l5 + 1)]) (st' := []) (h' := (101, I23, J24, R0 b)) 2 rfl ?_
              exact WP.mask rfl rfl h
            · refine WP.blk (pc' := 45) (L' := [vr 10 0, vi l1, vi l2, vi l3, vi l5, vi (l5 + 1)]) (st' := []) (h' := (101, I23, J24, R0 b)) 4 rfl ?_
              exact WP.mask rfl rfl h
        · refine WP.blk (pc' := 80) (L' := [vr 10 0, vi l1, vi l2, vi l3, vi l4, vi l5]) (st' := [vi l5, vi 0, vi 7, vr 10 0]) (h' := (101, I, J, R0 b)) 4 rfl ?_
          refine WP.cal (y' := 142) (as := [vr 10 0, vi 7, vi 0, vi l5]) (L' := [vr 10 0, vi l1, vi l2, vi l3, vi l4, vi l5]) (rest := []) rfl (fun f r h' hf => callV_ok hf rfl rfl rfl) h ?_
          rintro _ _ ⟨I26, J27, rfl, rfl, h⟩
          refine WP.blk (pc' := 85) (L' := [vr 10 0, vi l1, vi l2, vi l3, vi l4, vi l5]) (st' := [vi (-1), vr 10 0]) (h' := (101, I26, J27, R0 b)) 2 rfl ?_
          refine WP.cal (y' := 192) (as := [vr 10 0, vi (-1)]) (L' := [vr 10 0, vi l1, vi l2, vi l3, vi l4, vi l5]) (rest := []) rfl (fun f r h' hf => callV_ok hf rfl rfl rfl) h ?_
          rintro _ _ ⟨I29, J30, rfl, rfl, h⟩
          refine WP.blk (pc' := 92) (L' := [vr 10 0, vi l1, vi l2, vi l3, vi l4, vi l5]) (st' := [vi (I29 10 0 50)]) (h' := (101, I29, J30, R0 b)) 2 rfl ?_
          refine WP.if_le (t := 107) (L' := [vr 10 0, vi l1, vi l2, vi l3, vi l4, vi l5]) rfl rfl rfl rfl h (fun h => ?_) (fun h => ?_)
          · refine WP.blk (pc' := 45) (L' := [vr 10 0, vi l1, vi l2, vi l3, vi l4, vi (l5 + 1)]) (st' := []) (h' := (101, I29, J30, R0 b)) 2 rfl ?_
            exact WP.mask rfl rfl h
          · refine WP.blk (pc' := 100) (L' := [vr 10 0, vi l1, vi l2, vi l3, vi l4, vi l5]) (st' := [vi l1, vi (I29 10 0 51)]) (h' := (101, I29, J30, R0 b)) 3 rfl ?_
            refine WP.icmp_gt (t := 107) (L' := [vr 10 0, vi l1, vi l2, vi l3, vi l4, vi l5]) rfl rfl rfl rfl h (fun h => ?_) (fun h => ?_)
            · refine WP.blk (pc' := 45) (L' := [vr 10 0, vi l1, vi l2, vi l3, vi l4, vi (l5 + 1)]) (st' := []) (h' := (101, I29, J30, R0 b)) 2 rfl ?_
              exact WP.mask rfl rfl h
            · refine WP.blk (pc' := 45) (L' := [vr 10 0, vi l1, vi l2, vi l3, vi l5, vi (l5 + 1)]) (st' := []) (h' := (101, I29, J30, R0 b)) 4 rfl ?_
              exact WP.mask rfl rfl h
  · refine WP.blk (pc' := 57) (L' := [vr 10 0, vi l1, vi l2, vi l3, vi l4, vi l5]) (st' := [vi 6, vi l5]) (h' := (101, I, J, R0 b)) 2 rfl ?_
    refine WP.icmp_gt (t := 113) (L' := [vr 10 0, vi l1, vi l2, vi l3, vi l4, vi l5]) rfl rfl rfl rfl h (fun h => ?_) (fun h => ?_)
    · refine WP.blk (pc' := 115) (L' := [vr 10 0, vn, vi l2, vi l3, vi l4, vn]) (st' := [vi l2, vr 10 0]) (h' := (101, I, J, R0 b)) 2 rfl ?_
      refine WP.if_ne (t := 123) (L' := [vr 10 0, vn, vi l2, vi l3, vi l4, vn]) rfl rfl rfl rfl h (fun h => ?_) (fun h => ?_)
      · refine WP.blk (pc' := 127) (L' := [vn, vn, vn, vi l3, vi l4, vn]) (st' := [vi l3, vi 0, vi 6, vr 10 0]) (h' := (101, I, J, R0 b)) 3 rfl ?_
        refine WP.cal (y' := 142) (as := [vr 10 0, vi 6, vi 0, vi l3]) (L' := [vn, vn, vn, vi l3, vi l4, vn]) (rest := []) rfl (fun f r h' hf => callV_ok hf rfl rfl rfl) h ?_
        rintro _ _ ⟨I32, J33, rfl, rfl, h⟩
        refine WP.blk (pc' := 132) (L' := [vn, vn, vn, vi l3, vi l4, vn]) (st' := [vi l4]) (h' := (101, I32, J33, R0 b)) 1 rfl ?_
        exact WP.ret rfl rfl h
      · refine WP.blk (pc' := 127) (L' := [vn, vn, vn, vi l3, vi l4, vn]) (st' := [vi l3, vi 0, vi 7, vr 10 0]) (h' := (101, I, J, R0 b)) 4 rfl ?_
        refine WP.cal (y' := 142) (as := [vr 10 0, vi 7, vi 0, vi l3]) (L' := [vn, vn, vn, vi l3, vi l4, vn]) (rest := []) rfl (fun f r h' hf => callV_ok hf rfl rfl rfl) h ?_
        rintro _ _ ⟨I35, J36, rfl, rfl, h⟩
        refine WP.blk (pc' := 132) (L' := [vn, vn, vn, vi l3, vi l4, vn]) (st' := [vi l4]) (h' := (101, I35, J36, R0 b)) 1 rfl ?_
        exact WP.ret rfl rfl h
    · refine WP.blk (pc' := 62) (L' := [vr 10 0, vi l1, vi l2, vi l3, vi l4, vi l5]) (st' := [vi l4]) (h' := (101, I, J, R0 b)) 1 rfl ?_
      refine WP.if_ge (t := 113) (L' := [vr 10 0, vi l1, vi l2, vi l3, vi l4, vi l5]) rfl rfl rfl rfl h (fun h => ?_) (fun h => ?_)
      · refine WP.blk (pc' := 115) (L' := [vr 10 0, vn, vi l2, vi l3, vi l4, vn]) (st' := [vi l2, vr 10 0]) (h' := (101, I, J, R0 b)) 2 rfl ?_
        refine WP.if_ne (t := 123) (L' := [vr 10 0, vn, vi l2, vi l3, vi l4, vn]) rfl rfl rfl rfl h (fun h => ?_) (fun h => ?_)
        · refine WP.blk (pc' := 127) (L' := [vn, vn, vn, vi l3, vi l4, vn]) (st' := [vi l3, vi 0, vi 6, vr 10 0]) (h' := (101, I, J, R0 b)) 3 rfl ?_
          refine WP.cal (y' := 142) (as := [vr 10 0, vi 6, vi 0, vi l3]) (L' := [vn, vn, vn, vi l3, vi l4, vn]) (rest := []) rfl (fun f r h' hf => callV_ok hf rfl rfl rfl) h ?_
          rintro _ _ ⟨I38, J39, rfl, rfl, h⟩
          refine WP.blk (pc' := 132) (L' := [vn, vn, vn, vi l3, vi l4, vn]) (st' := [vi l4]) (h' := (101, I38, J39, R0 b)) 1 rfl ?_
          exact WP.ret rfl rfl h
        · refine WP.blk (pc' := 127) (L' := [vn, vn, vn, vi l3, vi l4, vn]) (st' := [vi l3, vi 0, vi 7, vr 10 0]) (h' := (101, I, J, R0 b)) 4 rfl ?_
          refine WP.cal (y' := 142) (as := [vr 10 0, vi 7, vi 0, vi l3]) (L' := [vn, vn, vn, vi l3, vi l4, vn]) (rest := []) rfl (fun f r h' hf => callV_ok hf rfl rfl rfl) h ?_
          rintro _ _ ⟨I41, J42, rfl, rfl, h⟩
          refine WP.blk (pc' := 132) (L' := [vn, vn, vn, vi l3, vi l4, vn]) (st' := [vi l4]) (h' := (101, I41, J42, R0 b)) 1 rfl ?_
          exact WP.ret rfl rfl h
      · refine WP.blk (pc' := 67) (L' := [vr 10 0, vi l1, vi l2, vi l3, vi l4, vi l5]) (st' := [vi l2, vr 10 0]) (h' := (101, I, J, R0 b)) 2 rfl ?_
        refine WP.if_ne (t := 75) (L' := [vr 10 0, vi l1, vi l2, vi l3, vi l4, vi l5]) rfl rfl rfl rfl h (fun h => ?_) (fun h => ?_)
        · refine WP.blk (pc' := 80) (L' := [vr 10 0, vi l1, vi l2, vi l3, vi l4, vi l5]) (st' := [vi l5, vi 0, vi 6, vr 10 0]) (h' := (101, I, J, R0 b)) 3 rfl ?_
          refine WP.cal (y' := 142) (as := [vr 10 0, vi 6, vi 0, vi l5]) (L' := [vr 10 0, vi l1, vi l2, vi l3, vi l4, vi l5]) (rest := []) rfl (fun f r h' hf => callV_ok hf rfl rfl rfl) h ?_
          rintro _ _ ⟨I44, J45, rfl, rfl, h⟩
          refine WP.blk (pc' := 85) (L' := [vr 10 0, vi l1, vi l2, vi l3, vi l4, vi l5]) (st' := [vi (-1), vr 10 0]) (h' := (101, I44, J45, R0 b)) 2 rfl ?_
          refine WP.cal (y' := 192) (as := [vr 10 0, vi (-1)]) (L' := [vr 10 0, vi l1, vi l2, vi l3, vi l4, vi l5]) (rest := []) rfl (fun f r h' hf => callV_ok hf rfl rfl rfl) h ?_
          rintro _ _ ⟨I47, J48, rfl, rfl, h⟩
          refine WP.blk (pc' := 92) (L' := [vr 10 0, vi l1, vi l2, vi l3, vi l4, vi l5]) (st' := [vi (I47 10 0 50)]) (h' := (101, I47, J48, R0 b)) 2 rfl ?_
          refine WP.if_le (t := 107) (L' := [vr 10 0, vi l1, vi l2, vi l3, vi l4, vi l5]) rfl rfl rfl rfl h (fun h => ?_) (fun h => ?_)
          · refine WP.blk (pc' := 45) (L' := [vr 10 0, vi l1, vi l2, vi l3, vi l4, vi (l5 + 1)]) (st' := []) (h' := (101, I47, J48, R0 b)) 2 rfl ?_
            exact WP.mask rfl rfl h
          · refine WP.blk (pc' := 100) (L' := [vr 10 0, vi l1, vi l2, vi l3, vi l4, vi l5]) (st' := [vi l1, vi (I47 10 0 51)]) (h' := (101, I47, J48, R0 b)) 3 rfl ?_
            refine WP.icmp_gt (t := 107) (L' := [vr 10 0, vi l1, vi l2, vi l3, vi l4, vi l5]) rfl rfl rfl rfl h (fun h => ?_) (fun h => ?_)
            · refine WP.blk (pc' := 45) (L' := [vr 10 0, vi l1, vi l2, vi l3, vi l4, vi (l5 + 1)]) (st' := []) (h' := (101, I47, J48, R0 b)) 2 rfl ?_
              exact WP.mask rfl rfl h
            · refine WP.blk (pc' := 45) (L' := [vr 10 0, vi l1, vi l2, vi l3, vi l5, vi (l5 + 1)]) (st' := []) (h' := (101, I47, J48, R0 b)) 4 rfl ?_
              exact WP.mask rfl rfl h
        · refine WP.blk (pc' := 80) (L' := [vr 10 0, vi l1, vi l2, vi l3, vi l4, vi l5]) (st' := [vi l5, vi 0, vi 7, vr 10 0]) (h' := (101, I, J, R0 b)) 4 rfl ?_
          refine WP.cal (y' := 142) (as := [vr 10 0, vi 7, vi 0, vi l5]) (L' := [vr 10 0, vi l1, vi l2, vi l3, vi l4, vi l5]) (rest := []) rfl (fun f r h' hf => callV_ok hf rfl rfl rfl) h ?_
          rintro _ _ ⟨I50, J51, rfl, rfl, h⟩
          refine WP.blk (pc' := 85) (L' := [vr 10 0, vi l1, vi l2, vi l3, vi l4, vi l5]) (st' := [vi (-1), vr 10 0]) (h' := (101, I50, J51, R0 b)) 2 rfl ?_
          refine WP.cal (y' := 192) (as := [vr 10 0, vi (-1)]) (L' := [vr 10 0, vi l1, vi l2, vi l3, vi l4, vi l5]) (rest := []) rfl (fun f r h' hf => callV_ok hf rfl rfl rfl) h ?_
          rintro _ _ ⟨I53, J54, rfl, rfl, h⟩
          refine WP.blk (pc' := 92) (L' := [vr 10 0, vi l1, vi l2, vi l3, vi l4, vi l5]) (st' := [vi (I53 10 0 50)]) (h' := (101, I53, J54, R0 b)) 2 rfl ?_
          refine WP.if_le (t := 107) (L' := [vr 10 0, vi l1, vi l2, vi l3, vi l4, vi l5]) rfl rfl rfl rfl h (fun h => ?_) (fun h => ?_)
          · refine WP.blk (pc' := 45) (L' := [vr 10 0, vi l1, vi l2, vi l3, vi l4, vi (l5 + 1)]) (st' := []) (h' := (101, I53, J54, R0 b)) 2 rfl ?_
            exact WP.mask rfl rfl h
          · refine WP.blk (pc' := 100) (L' := [vr 10 0, vi l1, vi l2, vi l3, vi l4, vi l5]) (st' := [vi l1, vi (I53 10 0 51)]) (h' := (101, I53, J54, R0 b)) 3 rfl ?_
            refine WP.icmp_gt (t := 107) (L' := [vr 10 0, vi l1, vi l2, vi l3, vi l4, vi l5]) rfl rfl rfl rfl h (fun h => ?_) (fun h => ?_)
            · refine WP.blk (pc' := 45) (L' := [vr 10 0, vi l1, vi l2, vi l3, vi l4, vi (l5 + 1)]) (st' := []) (h' := (101, I53, J54, R0 b)) 2 rfl ?_
              exact WP.mask rfl rfl h
            · refine WP.blk (pc' := 45) (L' := [vr 10 0, vi l1, vi l2, vi l3, vi l5, vi (l5 + 1)]) (st' := []) (h' := (101, I53, J54, R0 b)) 4 rfl ?_
              exact WP.mask rfl rfl h
set_option maxRecDepth 20000 in
theorem t_X10_glue {D : Nat} (l1 : Int32) (l2 : Int32) (I : IM) (J : JM) (b : Bool) {Q : Option AV → AH → Prop} (h : (Call D 237 [vi l1] (101, I, J, R0 b) (RIf b fun x1 I2 J3 => (if x1 = 0 then Q (some (vi (-1))) (101, I2, J3, R0 b) else (Call D 135 [vi l2, vi 0, vi 1] (101, I2, J3, R0 b) (RIf b fun x4 I5 J6 => (if ¬ x4 = 0 then (Call D 187 [vr 10 0, vi l1] (101, I5, J6, R0 b) (RIf b fun x7 I8 J9 => (if 0 ≤ x7 then WP D 196 43 [vr 10 0, vn, vi l2, vn, vi (I8 10 0 10), vi (-2), vi 0] [] (101, I8, J9, R0 b) Q else Q (some (vi x7)) (101, I8, J9, R0 b)))) else Q (some (vi (-1))) (101, I5, J6, R0 b)))))))) : Call (D + 1) 196 [vr 10 0, vi l1, vi l2] (101, I, J, R0 b) Q := by
  refine Call.of rfl ?_
  show WP D 196 0 [vr 10 0, vi l1, vi l2, vn, vn, vn, vn] [] (101, I, J, R0 b) Q
  refine WP.blk (pc' := 1) (L' := [vr 10 0, vi l1, vi l2, vn, vn, vn, vn]) (st' := [vi l1]) (h' := (101, I, J, R0 b)) 1 rfl ?_
  refine WP.cal (y' := 237) (as := [vi l1]) (L' := [vr 10 0, vi l1, vi l2, vn, vn, vn, vn]) (rest := []) rfl (fun f r h' hf => callS_ok hf rfl rfl rfl) h ?_
  rintro _ _ ⟨x1, I2, J3, rfl, rfl, h⟩
  refine WP.if_eq (t := 16) (L' := [vr 10 0, vi l1, vi l2, vn, vn, vn, vn]) rfl rfl rfl rfl h (fun h => ?_) (fun h => ?_)
  · refine WP.blk (pc' := 17) (L' := [vn, vn, vn, vn, vn, vn, vn]) (st' := [vi (-1)]) (h' := (101, I2, J3, R0 b)) 1 rfl ?_
    exact WP.ret rfl rfl h
  · refine WP.blk (pc' := 10) (L' := [vr 10 0, vi l1, vi l2, vn, vn, vn, vn]) (st' := [vi 1, vi 0, vi l2]) (h' := (101, I2, J3, R0 b)) 3 rfl ?_
    refine WP.cal (y' := 135) (as := [vi l2, vi 0, vi 1]) (L' := [vr 10 0, vi l1, vi l2, vn, vn, vn, vn]) (rest := []) rfl (fun f r h' hf => callS_ok hf rfl rfl rfl) h ?_
    rintro _ _ ⟨x4, I5, J6, rfl, rfl, h⟩
    refine WP.if_ne (t := 18) (L' := [vr 10 0, vi l1, vi l2, vn, vn, vn, vn]) rfl rfl rfl rfl h (fun h => ?_) (fun h => ?_)
    · refine WP.blk (pc' := 20) (L' := [vr 10 0, vi l1, vi l2, vn, vn, vn, vn]) (st' := [vi l1, vr 10 0]) (h' := (101, I5, J6, R0 b)) 2 rfl ?_
      refine WP.cal (y' := 187) (as := [vr 10 0, vi l1]) (L' := [vr 10 0, vi l1, vi l2, vn, vn, vn, vn]) (rest := []) rfl (fun f r h' hf => callV_ok hf rfl rfl rfl) h ?_
      rintro _ _ ⟨x7, I8, J9, rfl, rfl, h⟩
      refine WP.blk (pc' := 25) (L' := [vr 10 0, vi l1, vi l2, vi x7, vn, vn, vn]) (st' := [vi x7]) (h' := (101, I8, J9, R0 b)) 2 rfl ?_
      refine WP.if_ge (t := 30) (L' := [vr 10 0, vi l1, vi l2, vi x7, vn, vn, vn]) rfl rfl rfl rfl h (fun h => ?_) (fun h => ?_)
      · refine WP.blk (pc' := 43) (L' := [vr 10 0, vi l1, vi l2, vi x7, vi (I8 10 0 10), vi (-2), vi 0]) (st' := []) (h' := (101, I8, J9, R0 b)) 7 rfl ?_
        exact WP.mask rfl rfl h
      · refine WP.blk (pc' := 29) (L' := [vr 10 0, vi l1, vi l2, vi x7, vn, vn, vn]) (st' := [vi x7]) (h' := (101, I8, J9, R0 b)) 1 rfl ?_
        exact WP.ret rfl rfl h
    · refine WP.blk (pc' := 17) (L' := [vn, vn, vn, vn, vn, vn, vn]) (st' := [vi (-1)]) (h' := (101, I5, J6, R0 b)) 1 rfl ?_
      exact WP.ret rfl rfl h
set_option maxRecDepth 20000 in
theorem t_X10_glue_43 {D : Nat} (l2 : Int32) (l4 : Int32) (l5 : Int32) (l6 : Int32) (I : IM) (J : JM) (b : Bool) {Q : Option AV → AH → Prop} (h : (if (99 : Int32) < l6 then Q (some (vi l5)) (101, (updI I 10 0 10 l4), J, R0 b) else (Call D 185 [vr 10 0] (101, (updI I 10 0 10 l6), J, R0 b) (RVf b fun I11 J12 => (if ¬ (I11 10 0 49) = (I11 10 0 48) then WP D 196 43 [vr 10 0, vn, vi l2, vn, vi l4, vi l5, vi (l6 + 1)] [] (101, I11, J12, R0 b) Q else (if l2 = 0 then WP D 196 43 [vr 10 0, vn, vi l2, vn, vi l4, vi l6, vi (l6 + 1)] [] (101, I11, J12, R0 b) Q else (if 0 ≤ l5 then WP D 196 43 [vr 10 0, vn, vi l2, vn, vi l4, vi l5, vi (l6 + 1)] [] (101, I11, J12, R0 b) Q else WP D 196 43 [vr 10 0, vn, vi l2, vn, vi l4, vi l6, vi (l6 + 1)] [] (101, I11, J12, R0 b) Q))))))) : WP D 196 43 [vr 10 0, vn, vi l2, vn, vi l4, vi l5, vi l6] [] (101, I, J, R0 b) Q := by
  refine WP.blk (pc' := 47) (L' := [vr 10 0, vn, vi l2, vn, vi l4, vi l5, vi l6]) (st' := [vi 99, vi l6]) (h' := (101, I, J, R0 b)) 2 rfl ?_
  refine WP.icmp_gt (t := 90) (L' := [vr 10 0, vn, vi l2, vn, vi l4, vi l5, vi l6]) rfl rfl rfl rfl h (fun h => ?_) (fun h => ?_)
  · refine WP.blk (pc' := 98) (L' := [vr 10 0, vn, vi l2, vn, vi l4, vi l5, vi l6]) (st' := [vi l5]) (h' := (101, (updI I 10 0 10 l4), J, R0 b)) 4 rfl ?_
    exact WP.ret rfl rfl h
  · refine WP.blk (pc' := 57) (L' := [vr 10 0, vn, vi l2, vn, vi l4, vi l5, vi l6]) (st' := [vr 10 0]) (h' := (101, (updI I 10 0 10 l6), J, R0 b)) 4 rfl ?_
    refine WP.cal (y' := 185) (as := [vr 10 0]) (L' := [vr 10 0, vn, vi l2, vn, vi l4, vi l5, vi l6]) (rest := []) rfl (fun f r h' hf => callV_ok hf rfl rfl rfl) h ?_
    rintro _ _ ⟨I11, J12, rfl, rfl, h⟩
    refine WP.blk (pc' := 68) (L' := [vr 10 0, vn, vi l2, vn, vi l4, vi l5, vi l6]) (st' := [vi (I11 10 0 48), vi (I11 10 0 49)]) (h' := (101, I11, J12, R0 b)) 4 rfl ?_
    refine WP.icmp_ne (t := 84) (L' := [vr 10 0, vn, vi l2, vn, vi l4, vi l5, vi l6]) rfl rfl rfl rfl h (fun h => ?_) (fun h => ?_)
    · refine WP.blk (pc' := 43) (L' := [vr 10 0, vn, vi l2, vn, vi l4, vi l5, vi (l6 + 1)]) (st' := []) (h' := (101, I11, J12, R0 b)) 2 rfl ?_
      exact WP.mask rfl rfl h
    · refine WP.blk (pc' := 72) (L' := [vr 10 0, vn, vi l2, vn, vi l4, vi l5, vi l6]) (st' := [vi l2]) (h' := (101, I11, J12, R0 b)) 1 rfl ?_
      refine WP.if_eq (t := 80) (L' := [vr 10 0, vn, vi l2, vn, vi l4, vi l5, vi l6]) rfl rfl rfl rfl h (fun h => ?_) (fun h => ?_)
      · refine WP.blk (pc' := 43) (L' := [vr 10 0, vn, vi l2, vn, vi l4, vi l6, vi (l6 + 1)]) (st' := []) (h' := (101, I11, J12, R0 b)) 4 rfl ?_
        exact WP.mask rfl rfl h
      · refine WP.blk (pc' := 77) (L' := [vr 10 0, vn, vi l2, vn, vi l4, vi l5, vi l6]) (st' := [vi l5]) (h' := (101, I11, J12, R0 b)) 1 rfl ?_
        refine WP.if_ge (t := 84) (L' := [vr 10 0, vn, vi l2, vn, vi l4, vi l5, vi l6]) rfl rfl rfl rfl h (fun h => ?_) (fun h => ?_)
        · refine WP.blk (pc' := 43) (L' := [vr 10 0, vn, vi l2, vn, vi l4, vi l5, vi (l6 + 1)]) (st' := []) (h' := (101, I11, J12, R0 b)) 2 rfl ?_
          exact WP.mask rfl rfl h
        · refine WP.blk (pc' := 43) (L' := [vr 10 0, vn, vi l2, vn, vi l4, vi l6, vi (l6 + 1)]) (st' := []) (h' := (101, I11, J12, R0 b)) 4 rfl ?_
          exact WP.mask rfl rfl h
set_option maxRecDepth 20000 in
theorem t_X10_worth {D : Nat} (l1 : Int32) (I : IM) (J : JM) (b : Bool) {Q : Option AV → AH → Prop} (h : (Call D 135 [vi l1, vi 0, vi 1] (101, I, J, R0 b) (RIf b fun x1 I2 J3 => (if ¬ x1 = 0 then (Call D 192 [vr 10 0, vi (-1)] (101, I2, J3, R0 b) (RVf b fun I5 J6 => (if 0 ≤ (I5 10 0 51) then (if ¬ l1 = 0 then (Call D 192 [vr 10 0, vi (-1)] (101, (updI I5 10 0 8 ((I5 10 0 8) + (1 : Int32))), J6, R0 b) (RVf b fun I8 J9 => (if ¬ l1 = 0 then (if 0 ≤ (I8 10 0 51) then Q (some (vi ((I5 10 0 51) - (I8 10 0 51)))) (101, (updI I8 10 0 8 ((I8 10 0 8) - (1 : Int32))), J9, R0 b) else Q (some (vi (-2000000000))) (101, (updI I8 10 0 8 ((I8 10 0 8) - (1 : Int32))), J9, R0 b)) else (if 0 ≤ (I8 10 0 51) then Q (some (vi ((I5 10 0 51) - (I8 10 0 51)))) (101, (updI I8 10 0 9 ((I8 10 0 9) - (1 : Int32))), J9, R0 b) else Q (some (vi (-2000000000))) (101, (updI I8 10 0 9 ((I8 10 0 9) - (1 : Int32))), J9, R0 b))))) else (Call D 192 [vr 10 0, vi (-1)] (101, (updI I5 10 0 9 ((I5 10 0 9) + (1 : Int32))), J6, R0 b) (RVf b fun I11 J12 => (if ¬ l1 = 0 then (if 0 ≤ (I11 10 0 51) then Q (some (vi ((I5 10 0 51) - (I11 10 0 51)))) (101, (updI I11 10 0 8 ((I11 10 0 8) - (1 : Int32))), J12, R0 b) else Q (some (vi (-2000000000))) (101, (updI I11 10 0 8 ((I11 10 0 8) - (1 : Int32))), J12, R0 b)) else (if 0 ≤ (I11 10 0 51) then Q (some (vi ((I5 10 0 51) - (I11 10 0 51)))) (101, (updI I11 10 0 9 ((I11 10 0 9) - (1 : Int32))), J12, R0 b) else Q (some (vi (-2000000000))) (101, (updI I11 10 0 9 ((I11 10 0 9) - (1 : Int32))), J12, R0 b)))))) else Q (some (vi (-2000000000))) (101, I5, J6, R0 b)))) else Q (some (vi (-2000000000))) (101, I2, J3, R0 b))))) : Call (D + 1) 197 [vr 10 0, vi l1] (101, I, J, R0 b) Q := by
  refine Call.of rfl ?_
  show WP D 197 0 [vr 10 0, vi l1, vn] [] (101, I, J, R0 b) Q
  refine WP.blk (pc' := 3) (L' := [vr 10 0, vi l1, vn]) (st' := [vi 1, vi 0, vi l1]) (h' := (101, I, J, R0 b)) 3 rfl ?_
  refine WP.cal (y' := 135) (as := [vi l1, vi 0, vi 1]) (L' := [vr 10 0, vi l1, vn]) (rest := []) rfl (fun f r h' hf => callS_ok hf rfl rfl rfl) h ?_
  rintro _ _ ⟨x1, I2, J3, rfl, rfl, h⟩
  refine WP.if_ne (t := 13) (L' := [vr 10 0, vi l1, vn]) rfl rfl rfl rfl h (fun h => ?_) (fun h => ?_)
  · refine WP.blk (pc' := 15) (L' := [vr 10 0, vi l1, vn]) (st' := [vi (-1), vr 10 0]) (h' := (101, I2, J3, R0 b)) 2 rfl ?_
    refine WP.cal (y' := 192) (as := [vr 10 0, vi (-1)]) (L' := [vr 10 0, vi l1, vn]) (rest := []) rfl (fun f r h' hf => callV_ok hf rfl rfl rfl) h ?_
    rintro _ _ ⟨I5, J6, rfl, rfl, h⟩
    refine WP.blk (pc' := 24) (L' := [vr 10 0, vi l1, vi (I5 10 0 51)]) (st' := [vi (I5 10 0 51)]) (h' := (101, I5, J6, R0 b)) 4 rfl ?_
    refine WP.if_ge (t := 31) (L' := [vr 10 0, vi l1, vi (I5 10 0 51)]) rfl rfl rfl rfl h (fun h => ?_) (fun h => ?_)
    · refine WP.blk (pc' := 32) (L' := [vr 10 0, vi l1, vi (I5 10 0 51)]) (st' := [vi l1]) (h' := (101, I5, J6, R0 b)) 1 rfl ?_
      refine WP.if_ne (t := 48) (L' := [vr 10 0, vi l1, vi (I5 10 0 51)]) rfl rfl rfl rfl h (fun h => ?_) (fun h => ?_)
      · refine WP.blk (pc' := 60) (L' := [vr 10 0, vi l1, vi (I5 10 0 51)]) (st' := [vi (-1), vr 10 0]) (h' := (101, (updI I5 10 0 8 ((I5 10 0 8) + (1 : Int32))), J6, R0 b)) 8 rfl ?_
        refine WP.cal (y' := 192) (as := [vr 10 0, vi (-1)]) (L' := [vr 10 0, vi l1, vi (I5 10 0 51)]) (rest := []) rfl (fun f r h' hf => callV_ok hf rfl rfl rfl) h ?_
        rintro _ _ ⟨I8, J9, rfl, rfl, h⟩
        refine WP.blk (pc' := 64) (L' := [vr 10 0, vi l1, vi (I5 10 0 51)]) (st' := [vi l1]) (h' := (101, I8, J9, R0 b)) 1 rfl ?_
        refine WP.if_ne (t := 80) (L' := [vr 10 0, vi l1, vi (I5 10 0 51)]) rfl rfl rfl rfl h (fun h => ?_) (fun h => ?_)
        · refine WP.blk (pc' := 94) (L' := [vr 10 0, vn, vi (I5 10 0 51)]) (st' := [vi (I8 10 0 51)]) (h' := (101, (updI I8 10 0 8 ((I8 10 0 8) - (1 : Int32))), J9, R0 b)) 8 rfl ?_
          refine WP.if_ge (t := 103) (L' := [vr 10 0, vn, vi (I5 10 0 51)]) rfl rfl rfl rfl h (fun h => ?_) (fun h => ?_)
          · refine WP.blk (pc' := 109) (L' := [vr 10 0, vn, vi (I5 10 0 51)]) (st' := [vi ((I5 10 0 51) - (I8 10 0 51))]) (h' := (101, (updI I8 10 0 8 ((I8 10 0 8) - (1 : Int32))), J9, R0 b)) 4 rfl ?_
            exact WP.ret rfl rfl h
          · refine WP.blk (pc' := 109) (L' := [vr 10 0, vn, vi (I5 10 0 51)]) (st' := [vi (-2000000000)]) (h' := (101, (updI I8 10 0 8 ((I8 10 0 8) - (1 : Int32))), J9, R0 b)) 2 rfl ?_
            exact WP.ret rfl rfl h
        · refine WP.blk (pc' := 94) (L' := [vr 10 0, vn, vi (I5 10 0 51)]) (st' := [vi (I8 10 0 51)]) (h' := (101, (updI I8 10 0 9 ((I8 10 0 9) - (1 : Int32))), J9, R0 b)) 9 rfl ?_
          refine WP.if_ge (t := 103) (L' := [vr 10 0, vn, vi (I5 10 0 51)]) rfl rfl rfl rfl h (fun h => ?_) (fun h => ?_)
          · refine WP.blk (pc' := 109) (L' := [vr 10 0, vn, vi (I5 10 0 51)]) (st' := [vi ((I5 10 0 51) - (I8 10 0 51))]) (h' := (101, (updI I8 10 0 9 ((I8 10 0 9) - (1 : Int32))), J9, R0 b)) 4 rfl ?_
            exact WP.ret rfl rfl h
          · refine WP.blk (pc' := 109) (L' := [vr 10 0, vn, vi (I5 10 0 51)]) (st' := [vi (-2000000000)]) (h' := (101, (updI I8 10 0 9 ((I8 10 0 9) - (1 : Int32))), J9, R0 b)) 2 rfl ?_
            exact WP.ret rfl rfl h
      · refine WP.blk (pc' := 60) (L' := [vr 10 0, vi l1, vi (I5 10 0 51)]) (st' := [vi (-1), vr 10 0]) (h' := (101, (updI I5 10 0 9 ((I5 10 0 9) + (1 : Int32))), J6, R0 b)) 9 rfl ?_
        refine WP.cal (y' := 192) (as := [vr 10 0, vi (-1)]) (L' := [vr 10 0, vi l1, vi (I5 10 0 51)]) (rest := []) rfl (fun f r h' hf => callV_ok hf rfl rfl rfl) h ?_
        rintro _ _ ⟨I11, J12, rfl, rfl, h⟩
        refine WP.blk (pc' := 64) (L' := [vr 10 0, vi l1, vi (I5 10 0 51)]) (st' := [vi l1]) (h' := (101, I11, J12, R0 b)) 1 rfl ?_
        refine WP.if_ne (t := 80) (L' := [vr 10 0, vi l1, vi (I5 10 0 51)]) rfl rfl rfl rfl h (fun h => ?_) (fun h => ?_)
        · refine WP.blk (pc' := 94) (L' := [vr 10 0, vn, vi (I5 10 0 51)]) (st' := [vi (I11 10 0 51)]) (h' := (101, (updI I11 10 0 8 ((I11 10 0 8) - (1 : Int32))), J12, R0 b)) 8 rfl ?_
          refine WP.if_ge (t := 103) (L' := [vr 10 0, vn, vi (I5 10 0 51)]) rfl rfl rfl rfl h (fun h => ?_) (fun h => ?_)
          · refine WP.blk (pc' := 109) (L' := [vr 10 0, vn, vi (I5 10 0 51)]) (st' := [vi ((I5 10 0 51) - (I11 10 0 51))]) (h' := (101, (updI I11 10 0 8 ((I11 10 0 8) - (1 : Int32))), J12, R0 b)) 4 rfl ?_
            exact WP.ret rfl rfl h
          · refine WP.blk (pc' := 109) (L' := [vr 10 0, vn, vi (I5 10 0 51)]) (st' := [vi (-2000000000)]) (h' := (101, (updI I11 10 0 8 ((I11 10 0 8) - (1 : Int32))), J12, R0 b)) 2 rfl ?_
            exact WP.ret rfl rfl h
        · refine WP.blk (pc' := 94) (L' := [vr 10 0, vn, vi (I5 10 0 51)]) (st' := [vi (I11 10 0 51)]) (h' := (101, (updI I11 10 0 9 ((I11 10 0 9) - (1 : Int32))), J12, R0 b)) 9 rfl ?_
          refine WP.if_ge (t := 103) (L' := [vr 10 0, vn, vi (I5 10 0 51)]) rfl rfl rfl rfl h (fun h => ?_) (fun h => ?_)
          · refine WP.blk (pc' := 109) (L' := [vr 10 0, vn, vi (I5 10 0 51)]) (st' := [vi ((I5 10 0 51) - (I11 10 0 51))]) (h' := (101, (updI I11 10 0 9 ((I11 10 0 9) - (1 : Int32))), J12, R0 b)) 4 rfl ?_
            exact WP.ret rfl rfl h
          · refine WP.blk (pc' := 109) (L' := [vr 10 0, vn, vi (I5 10 0 51)]) (st' := [vi (-2000000000)]) (h' := (101, (updI I11 10 0 9 ((I11 10 0 9) - (1 : Int32))), J12, R0 b)) 2 rfl ?_
            exact WP.ret rfl rfl h
    · refine WP.blk (pc' := 30) (L' := [vr 10 0, vi l1, vi (I5 10 0 51)]) (st' := [vi (-2000000000)]) (h' := (101, I5, J6, R0 b)) 1 rfl ?_
      exact WP.ret rfl rfl h
  · refine WP.blk (pc' := 12) (L' := [vr 10 0, vi l1, vn]) (st' := [vi (-2000000000)]) (h' := (101, I2, J3, R0 b)) 1 rfl ?_
    exact WP.ret rfl rfl h
set_option maxRecDepth 20000 in
theorem t_X10_inWay {D : Nat} (l1 : Int32) (I : IM) (J : JM) (b : Bool) {Q : Option AV → AH → Prop} (h : (Call D 237 [vi l1] (101, I, J, R0 b) (RIf b fun x1 I2 J3 => (if ¬ x1 = 0 then (Call D 187 [vr 10 0, vi l1] (101, I2, J3, R0 b) (RIf b fun x4 I5 J6 => (if 0 ≤ x4 then (Call D 185 [vr 10 0] (101, I5, J6, R0 b) (RVf b fun I8 J9 => WP D 198 42 [vr 10 0, vi l1, vn, vi (I8 10 0 49), vi (I8 10 0 48), vi 0, vi 0, vn, vn] [] (101, I8, J9, R0 b) Q)) else Q (some (vi x4)) (101, I5, J6, R0 b)))) else Q (some (vi (-1))) (101, I2, J3, R0 b))))) : Call (D + 1) 198 [vr 10 0, vi l1] (101, I, J, R0 b) Q := by
  refine Call.of rfl ?_
  show WP D 198 0 [vr 10 0, vi l1, vn, vn, vn, vn, vn, vn, vn] [] (101, I, J, R0 b) Q
  refine WP.blk (pc' := 1) (L' := [vr 10 0, vi l1, vn, vn, vn, vn, vn, vn, vn]) (st' := [vi l1]) (h' := (101, I, J, R0 b)) 1 rfl ?_
  refine WP.cal (y' := 237) (as := [vi l1]) (L' := [vr 10 0, vi l1, vn, vn, vn, vn, vn, vn, vn]) (rest := []) rfl (fun f r h' hf => callS_ok hf rfl rfl rfl) h ?_
  rintro _ _ ⟨x1, I2, J3, rfl, rfl, h⟩
  refine WP.if_ne (t := 9) (L' := [vr 10 0, vi l1, vn, vn, vn, vn, vn, vn, vn]) rfl rfl rfl rfl h (fun h => ?_) (fun h => ?_)
  · refine WP.blk (pc' := 11) (L' := [vr 10 0, vi l1, vn, vn, vn, vn, vn, vn, vn]) (st' := [vi l1, vr 10 0]) (h' := (101, I2, J3, R0 b)) 2 rfl ?_
    refine WP.cal (y' := 187) (as := [vr 10 0, vi l1]) (L' := [vr 10 0, vi l1, vn, vn, vn, vn, vn, vn, vn]) (rest := []) rfl (fun f r h' hf => callV_ok hf rfl rfl rfl) h ?_
    rintro _ _ ⟨x4, I5, J6, rfl, rfl, h⟩
    refine WP.blk (pc' := 16) (L' := [vr 10 0, vi l1, vi x4, vn, vn, vn, vn, vn, vn]) (st' := [vi x4]) (h' := (101, I5, J6, R0 b)) 2 rfl ?_
    refine WP.if_ge (t := 21) (L' := [vr 10 0, vi l1, vi x4, vn, vn, vn, vn, vn, vn]) rfl rfl rfl rfl h (fun h => ?_) (fun h => ?_)
    · refine WP.blk (pc' := 22) (L' := [vr 10 0, vi l1, vi x4, vn, vn, vn, vn, vn, vn]) (st' := [vr 10 0]) (h' := (101, I5, J6, R0 b)) 1 rfl ?_
      refine WP.cal (y' := 185) (as := [vr 10 0]) (L' := [vr 10 0, vi l1, vi x4, vn, vn, vn, vn, vn, vn]) (rest := []) rfl (fun f r h' hf => callV_ok hf rfl rfl rfl) h ?_
      rintro _ _ ⟨I8, J9, rfl, rfl, h⟩
      refine WP.blk (pc' := 42) (L' := [vr 10 0, vi l1, vi x4, vi (I8 10 0 49), vi (I8 10 0 48), vi 0, vi 0, vn, vn]) (st' := []) (h' := (101, I8, J9, R0 b)) 10 rfl ?_
      exact WP.mask rfl rfl h
    · refine WP.blk (pc' := 20) (L' := [vr 10 0, vi l1, vi x4, vn, vn, vn, vn, vn, vn]) (st' := [vi x4]) (h' := (101, I5, J6, R0 b)) 1 rfl ?_
      exact WP.ret rfl rfl h
  · refine WP.blk (pc' := 8) (L' := [vr 10 0, vi l1, vn, vn, vn, vn, vn, vn, vn]) (st' := [vi (-1)]) (h' := (101, I2, J3, R0 b)) 1 rfl ?_
    exact WP.ret rfl rfl h
set_option maxRecDepth 20000 in
theorem t_X10_inWay_42 {D : Nat} (l1 : Int32) (l3 : Int32) (l4 : Int32) (l5 : Int32) (l6 : Int32) (I : IM) (J : JM) (b : Bool) {Q : Option AV → AH → Prop} (h : (if l4 ≤ l6 then Q (some (vi l5)) (101, I, J, R0 b) else (Call D 183 [vr 10 0, vi l1] (101, I, J, R0 b) (RVf b fun I11 J12 => (vp_in l6 7 ∧ WP D 198 69 [vr 10 0, vi l1, vn, vi l3, vi l4, vi l5, vi l6, vi (I11 68 0 l6.toNatClampNeg), vi (l6 + (1 : Int32))] [] (101, I11, J12, R0 b) Q))))) : WP D 198 42 [vr 10 0, vi l1, vn, vi l3, vi l4, vi l5, vi l6, vn, vn] [] (101, I, J, R0 b) Q := by
  refine WP.blk (pc' := 46) (L' := [vr 10 0, vi l1, vn, vi l3, vi l4, vi l5, vi l6, vn, vn]) (st' := [vi l4, vi l6]) (h' := (101, I, J, R0 b)) 2 rfl ?_
  refine WP.icmp_ge (t := 133) (L' := [vr 10 0, vi l1, vn, vi l3, vi l4, vi l5, vi l6, vn, vn]) rfl rfl rfl rfl h (fun h => ?_) (fun h => ?_)
  · refine WP.blk (pc' := 135) (L' := [vr 10 0, vi l1, vn, vi l3, vi l4, vi l5, vi l6, vn, vn]) (st' := [vi l5]) (h' := (101, I, J, R0 b)) 1 rfl ?_
    exact WP.ret rfl rfl h
  · refine WP.blk (pc' := 51) (L' := [vr 10 0, vi l1, vn, vi l3, vi l4, vi l5, vi l6, vn, vn]) (st' := [vi l1, vr 10 0]) (h' := (101, I, J, R0 b)) 2 rfl ?_
    refine WP.cal (y' := 183) (as := [vr 10 0, vi l1]) (L' := [vr 10 0, vi l1, vn, vi l3, vi l4, vi l5, vi l6, vn, vn]) (rest := []) rfl (fun f r h' hf => callV_ok hf rfl rfl rfl) h ?_
    rintro _ _ ⟨I11, J12, rfl, rfl, h⟩
    refine WP.blk (pc' := 60) (L' := [vr 10 0, vi l1, vn, vi l3, vi l4, vi l5, vi l6, vn, vn]) (st' := [vi l6, vr 68 0]) (h' := (101, I11, J12, R0 b)) 3 rfl ?_
    refine WP.step (pc' := 61) (L' := [vr 10 0, vi l1, vn, vi l3, vi l4, vi l5, vi l6, vn, vn]) (st' := [vi (I11 68 0 l6.toNatClampNeg)]) (h' := (101, I11, J12, R0 b)) rfl (iaload_ok (n := 7) rfl rfl rfl (inA_of h.1)) ?_
    have h := And.right h
    refine WP.blk (pc' := 69) (L' := [vr 10 0, vi l1, vn, vi l3, vi l4, vi l5, vi l6, vi (I11 68 0 l6.toNatClampNeg), vi (l6 + (1 : Int32))]) (st' := []) (h' := (101, I11, J12, R0 b)) 5 rfl ?_
    exact WP.mask rfl rfl h
set_option maxRecDepth 20000 in
theorem t_X10_inWay_69 {D : Nat} (l1 : Int32) (l3 : Int32) (l4 : Int32) (l5 : Int32) (l6 : Int32) (l7 : Int32) (l8 : Int32) (I : IM) (J : JM) (b : Bool) {Q : Option AV → AH → Prop} (h : (if l4 ≤ l8 then (Call D 185 [vr 10 0] (101, (updI I 10 0 48 (l4 - (1 : Int32))), J, R0 b) (RVf b fun I14 J15 => (if (I14 10 0 49) ≤ l3 then WP D 198 42 [vr 10 0, vi l1, vn, vi l3, vi l4, vi l5, vi (l6 + 1), vn, vn] [] (101, I14, J15, R0 b) Q else WP D 198 42 [vr 10 0, vi l1, vn, vi l3, vi l4, vi (l5 ||| ((1 : Int32) <<< (l7 &&& 31))), vi (l6 + 1), vn, vn] [] (101, I14, J15, R0 b) Q))) else (vp_in l8 7 ∧ (vp_in (l8 - (1 : Int32)) 7 ∧ WP D 198 69 [vr 10 0, vi l1, vn, vi l3, vi l4, vi l5, vi l6, vi l7, vi (l8 + 1)] [] (101, (updI I 68 0 (l8 - (1 : Int32)).toNatClampNeg (I 68 0 l8.toNatClampNeg)), J, R0 b) Q)))) : WP D 198 69 [vr 10 0, vi l1, vn, vi l3, vi l4, vi l5, vi l6, vi l7, vi l8] [] (101, I, J, R0 b) Q := by
  refine WP.blk (pc' := 73) (L' := [vr 10 0, vi l1, vn, vi l3, vi l4, vi l5, vi l6, vi l7, vi l8]) (st' := [vi l4, vi l8]) (h' := (101, I, J, R0 b)) 2 rfl ?_
  refine WP.icmp_ge (t := 98) (L' := [vr 10 0, vi l1, vn, vi l3, vi l4, vi l5, vi l6, vi l7, vi l8]) rfl rfl rfl rfl h (fun h => ?_) (fun h => ?_)
  · refine WP.blk (pc' := 107) (L' := [vr 10 0, vi l1, vn, vi l3, vi l4, vi l5, vi l6, vi l7, vi l8]) (st' := [vr 10 0]) (h' := (101, (updI I 10 0 48 (l4 - (1 : Int32))), J, R0 b)) 6 rfl ?_
    refine WP.cal (y' := 185) (as := [vr 10 0]) (L' := [vr 10 0, vi l1, vn, vi l3, vi l4, vi l5, vi l6, vi l7, vi l8]) (rest := []) rfl (fun f r h' hf => callV_ok hf rfl rfl rfl) h ?_
    rintro _ _ ⟨I14, J15, rfl, rfl, h⟩
    refine WP.blk (pc' := 115) (L' := [vr 10 0, vi l1, vn, vi l3, vi l4, vi l5, vi l6, vi l7, vi l8]) (st' := [vi l3, vi (I14 10 0 49)]) (h' := (101, I14, J15, R0 b)) 3 rfl ?_
    refine WP.icmp_le (t := 127) (L' := [vr 10 0, vi l1, vn, vi l3, vi l4, vi l5, vi l6, vi l7, vi l8]) rfl rfl rfl rfl h (fun h => ?_) (fun h => ?_)
    · refine WP.blk (pc' := 42) (L' := [vr 10 0, vi l1, vn, vi l3, vi l4, vi l5, vi (l6 + 1), vn, vn]) (st' := []) (h' := (101, I14, J15, R0 b)) 2 rfl ?_
      exact WP.mask rfl rfl h
    · refine WP.blk (pc' := 42) (L' := [vr 10 0, vi l1, vn, vi l3, vi l4, vi (l5 ||| ((1 : Int32) <<< (l7 &&& 31))), vi (l6 + 1), vn, vn]) (st' := []) (h' := (101, I14, J15, R0 b)) 8 rfl ?_
      exact WP.mask rfl rfl h
  · refine WP.blk (pc' := 90) (L' := [vr 10 0, vi l1, vn, vi l3, vi l4, vi l5, vi l6, vi l7, vi l8]) (st' := [vi l8, vr 68 0, vi (l8 - (1 : Int32)), vr 68 0]) (h' := (101, I, J, R0 b)) 8 rfl ?_
    refine WP.step (pc' := 91) (L' := [vr 10 0, vi l1, vn, vi l3, vi l4, vi l5, vi l6, vi l7, vi l8]) (st' := [vi (I 68 0 l8.toNatClampNeg), vi (l8 - (1 : Int32)), vr 68 0]) (h' := (101, I, J, R0 b)) rfl (iaload_ok (n := 7) rfl rfl rfl (inA_of h.1)) ?_
    have h := And.right h
    refine WP.step (pc' := 92) (L' := [vr 10 0, vi l1, vn, vi l3, vi l4, vi l5, vi l6, vi l7, vi l8]) (st' := []) (h' := (101, (updI I 68 0 (l8 - (1 : Int32)).toNatClampNeg (I 68 0 l8.toNatClampNeg)), J, R0 b)) rfl (iastore_ok (n := 7) rfl rfl rfl (inA_of h.1)) ?_
    have h := And.right h
    refine WP.blk (pc' := 69) (L' := [vr 10 0, vi l1, vn, vi l3, vi l4, vi l5, vi l6, vi l7, vi (l8 + 1)]) (st' := []) (h' := (101, (updI I 68 0 (l8 - (1 : Int32)).toNatClampNeg (I 68 0 l8.toNatClampNeg)), J, R0 b)) 2 rfl ?_
    exact WP.mask rfl rfl h
set_option maxRecDepth 20000 in
theorem t_X10_dry {D : Nat}  (I : IM) (J : JM) (b : Bool) {Q : Option AV → AH → Prop} (h : (Call D 192 [vr 10 0, vi (-1)] (101, (updI I 10 0 44 1), J, R0 b) (RVf b fun I2 J3 => Q (some (vi (I2 10 0 55))) (101, (updI I2 10 0 44 0), J3, R0 b)))) : Call (D + 1) 199 [vr 10 0] (101, I, J, R0 b) Q := by
  refine Call.of rfl ?_
  show WP D 199 0 [vr 10 0] [] (101, I, J, R0 b) Q
  refine WP.blk (pc' := 7) (L' := [vr 10 0]) (st' := [vi (-1), vr 10 0]) (h' := (101, (updI I 10 0 44 1), J, R0 b)) 5 rfl ?_
  refine WP.cal (y' := 192) (as := [vr 10 0, vi (-1)]) (L' := [vr 10 0]) (rest := []) rfl (fun f r h' hf => callV_ok hf rfl rfl rfl) h ?_
  rintro _ _ ⟨I2, J3, rfl, rfl, h⟩
  refine WP.blk (pc' := 19) (L' := [vr 10 0]) (st' := [vi (I2 10 0 55)]) (h' := (101, (updI I2 10 0 44 0), J3, R0 b)) 5 rfl ?_
  exact WP.ret rfl rfl h
set_option maxRecDepth 20000 in
theorem t_X10_areAtOnce {D : Nat} (l1 : Int32) (I : IM) (J : JM) (b : Bool) {Q : Option AV → AH → Prop} (h : WP D 200 4 [vr 10 0, vi l1, vi 0, vi 0] [] (101, I, J, R0 b) Q) : Call (D + 1) 200 [vr 10 0, vi l1] (101, I, J, R0 b) Q := by
  refine Call.of rfl ?_
  show WP D 200 0 [vr 10 0, vi l1, vn, vn] [] (101, I, J, R0 b) Q
  refine WP.blk (pc' := 4) (L' := [vr 10 0, vi l1, vi 0, vi 0]) (st' := []) (h' := (101, I, J, R0 b)) 4 rfl ?_
  exact WP.mask rfl rfl h
set_option maxRecDepth 20000 in
theorem t_X10_areAtOnce_4 {D : Nat} (l1 : Int32) (l2 : Int32) (l3 : Int32) (I : IM) (J : JM) (b : Bool) {Q : Option AV → AH → Prop} (h : (if (I 10 0 1) ≤ l3 then (Call D 173 [vr 10 0] (101, I, J, R0 b) (RIf b fun x1 I2 J3 => (if x1 < l2 then Q (some (vi 0)) (101, I2, J3, R0 b) else Q (some (vi 1)) (101, I2, J3, R0 b)))) else (if ¬ ((l1 >>> (l3 &&& 31)) &&& (1 : Int32)) = 0 then (vp_in l3 7 ∧ (if (I 47 0 l3.toNatClampNeg) = 0 then (vp_in l3 7 ∧ WP D 200 4 [vr 10 0, vi l1, vi (l2 + (I 44 0 l3.toNatClampNeg)), vi (l3 + 1)] [] (101, I, J, R0 b) Q) else Q (some (vi 0)) (101, I, J, R0 b))) else WP D 200 4 [vr 10 0, vi l1, vi l2, vi (l3 + 1)] [] (101, I, J, R0 b) Q))) : WP D 200 4 [vr 10 0, vi l1, vi l2, vi l3] [] (101, I, J, R0 b) Q := by
  refine WP.blk (pc' := 9) (L' := [vr 10 0, vi l1, vi l2, vi l3]) (st' := [vi (I 10 0 1), vi l3]) (h' := (101, I, J, R0 b)) 3 rfl ?_
  refine WP.icmp_ge (t := 49) (L' := [vr 10 0, vi l1, vi l2, vi l3]) rfl rfl rfl rfl h (fun h => ?_) (fun h => ?_)
  · refine WP.blk (pc' := 51) (L' := [vr 10 0, vi l1, vi l2, vi l3]) (st' := [vr 10 0, vi l2]) (h' := (101, I, J, R0 b)) 2 rfl ?_
    refine WP.cal (y' := 173) (as := [vr 10 0]) (L' := [vr 10 0, vi l1, vi l2, vi l3]) (rest := [vi l2]) rfl (fun f r h' hf => callV_ok hf rfl rfl rfl) h ?_
    rintro _ _ ⟨x1, I2, J3, rfl, rfl, h⟩
    refine WP.icmp_gt (t := 61) (L' := [vr 10 0, vi l1, vi l2, vi l3]) rfl rfl rfl rfl h (fun h => ?_) (fun h => ?_)
    · refine WP.blk (pc' := 62) (L' := [vr 10 0, vi l1, vi l2, vi l3]) (st' := [vi 0]) (h' := (101, I2, J3, R0 b)) 1 rfl ?_
      exact WP.ret rfl rfl h
    · refine WP.blk (pc' := 62) (L' := [vr 10 0, vi l1, vi l2, vi l3]) (st' := [vi 1]) (h' := (101, I2, J3, R0 b)) 2 rfl ?_
      exact WP.ret rfl rfl h
  · refine WP.blk (pc' := 17) (L' := [vr 10 0, vi l1, vi l2, vi l3]) (st' := [vi ((l1 >>> (l3 &&& 31)) &&& (1 : Int32))]) (h' := (101, I, J, R0 b)) 5 rfl ?_
    refine WP.if_ne (t := 23) (L' := [vr 10 0, vi l1, vi l2, vi l3]) rfl rfl rfl rfl h (fun h => ?_) (fun h => ?_)
    · refine WP.blk (pc' := 28) (L' := [vr 10 0, vi l1, vi l2, vi l3]) (st' := [vi l3, vr 47 0]) (h' := (101, I, J, R0 b)) 3 rfl ?_
      refine WP.step (pc' := 29) (L' := [vr 10 0, vi l1, vi l2, vi l3]) (st' := [vi (I 47 0 l3.toNatClampNeg)]) (h' := (101, I, J, R0 b)) rfl (iaload_ok (n := 7) rfl rfl rfl (inA_of h.1)) ?_
      have h := And.right h
      refine WP.if_eq (t := 34) (L' := [vr 10 0, vi l1, vi l2, vi l3]) rfl rfl rfl rfl h (fun h => ?_) (fun h => ?_)
      · refine WP.blk (pc' := 40) (L' := [vr 10 0, vi l1, vi l2, vi l3]) (st' := [vi l3, vr 44 0, vi l2]) (h' := (101, I, J, R0 b)) 4 rfl ?_
        refine WP.step (pc' := 41) (L' := [vr 10 0, vi l1, vi l2, vi l3]) (st' := [vi (I 44 0 l3.toNatClampNeg), vi l2]) (h' := (101, I, J, R0 b)) rfl (iaload_ok (n := 7) rfl rfl rfl (inA_of h.1)) ?_
        have h := And.right h
        refine WP.blk (pc' := 4) (L' := [vr 10 0, vi l1, vi (l2 + (I 44 0 l3.toNatClampNeg)), vi (l3 + 1)]) (st' := []) (h' := (101, I, J, R0 b)) 4 rfl ?_
        exact WP.mask rfl rfl h
      · refine WP.blk (pc' := 33) (L' := [vr 10 0, vi l1, vi l2, vi l3]) (st' := [vi 0]) (h' := (101, I, J, R0 b)) 1 rfl ?_
        exact WP.ret rfl rfl h
    · refine WP.blk (pc' := 4) (L' := [vr 10 0, vi l1, vi l2, vi (l3 + 1)]) (st' := []) (h' := (101, I, J, R0 b)) 3 rfl ?_
      exact WP.mask rfl rfl h
set_option maxRecDepth 20000 in
theorem t_X10_atOnce {D : Nat} (l1 : Int32) (I : IM) (J : JM) (b : Bool) {Q : Option AV → AH → Prop} (h : (Call D 135 [vi l1, vi (-1), vi (((1 : Int32) <<< ((I 10 0 1) &&& 31)) - (1 : Int32))] (101, I, J, R0 b) (RIf b fun x1 I2 J3 => (if ¬ x1 = 0 then (if l1 < 0 then WP D 201 40 [vr 10 0, vn, vi 0, vi 1] [] (101, I2, J3, R0 b) Q else (Call D 200 [vr 10 0, vi l1] (101, I2, J3, R0 b) (RIf b fun x4 I5 J6 => (if x4 = 0 then Q (some (vi 0)) (101, I5, J6, R0 b) else Q (some (vi 1)) (101, I5, J6, R0 b))))) else Q (some (vi (-1))) (101, I2, J3, R0 b))))) : Call (D + 1) 201 [vr 10 0, vi l1] (101, I, J, R0 b) Q := by
  refine Call.of rfl ?_
  show WP D 201 0 [vr 10 0, vi l1, vn, vn] [] (101, I, J, R0 b) Q
  refine WP.blk (pc' := 10) (L' := [vr 10 0, vi l1, vn, vn]) (st' := [vi (((1 : Int32) <<< ((I 10 0 1) &&& 31)) - (1 : Int32)), vi (-1), vi l1]) (h' := (101, I, J, R0 b)) 8 rfl ?_
  refine WP.cal (y' := 135) (as := [vi l1, vi (-1), vi (((1 : Int32) <<< ((I 10 0 1) &&& 31)) - (1 : Int32))]) (L' := [vr 10 0, vi l1, vn, vn]) (rest := []) rfl (fun f r h' hf => callS_ok hf rfl rfl rfl) h ?_
  rintro _ _ ⟨x1, I2, J3, rfl, rfl, h⟩
  refine WP.if_ne (t := 18) (L' := [vr 10 0, vi l1, vn, vn]) rfl rfl rfl rfl h (fun h => ?_) (fun h => ?_)
  · refine WP.blk (pc' := 19) (L' := [vr 10 0, vi l1, vn, vn]) (st' := [vi l1]) (h' := (101, I2, J3, R0 b)) 1 rfl ?_
    refine WP.if_lt (t := 36) (L' := [vr 10 0, vi l1, vn, vn]) rfl rfl rfl rfl h (fun h => ?_) (fun h => ?_)
    · refine WP.blk (pc' := 40) (L' := [vr 10 0, vi l1, vi 0, vi 1]) (st' := []) (h' := (101, I2, J3, R0 b)) 4 rfl ?_
      exact WP.mask rfl rfl h
    · refine WP.blk (pc' := 24) (L' := [vr 10 0, vi l1, vn, vn]) (st' := [vi l1, vr 10 0]) (h' := (101, I2, J3, R0 b)) 2 rfl ?_
      refine WP.cal (y' := 200) (as := [vr 10 0, vi l1]) (L' := [vr 10 0, vi l1, vn, vn]) (rest := []) rfl (fun f r h' hf => callV_ok hf rfl rfl rfl) h ?_
      rintro _ _ ⟨x4, I5, J6, rfl, rfl, h⟩
      refine WP.if_eq (t := 34) (L' := [vr 10 0, vi l1, vn, vn]) rfl rfl rfl rfl h (fun h => ?_) (fun h => ?_)
      · refine WP.blk (pc' := 35) (L' := [vr 10 0, vi l1, vn, vn]) (st' := [vi 0]) (h' := (101, I5, J6, R0 b)) 1 rfl ?_
        exact WP.ret rfl rfl h
      · refine WP.blk (pc' := 35) (L' := [vr 10 0, vi l1, vn, vn]) (st' := [vi 1]) (h' := (101, I5, J6, R0 b)) 2 rfl ?_
        exact WP.ret rfl rfl h
  · refine WP.blk (pc' := 17) (L' := [vr 10 0, vi l1, vn, vn]) (st' := [vi (-1)]) (h' := (101, I2, J3, R0 b)) 1 rfl ?_
    exact WP.ret rfl rfl h
set_option maxRecDepth 20000 in
theorem t_X10_atOnce_40 {D : Nat} (l2 : Int32) (l3 : Int32) (I : IM) (J : JM) (b : Bool) {Q : Option AV → AH → Prop} (h : (if ((1 : Int32) <<< ((I 10 0 1) &&& 31)) ≤ l3 then Q (some (vi l2)) (101, I, J, R0 b) else (Call D 200 [vr 10 0, vi l3] (101, I, J, R0 b) (RIf b fun x7 I8 J9 => (if x7 = 0 then WP D 201 40 [vr 10 0, vn, vi l2, vi (l3 + 1)] [] (101, I8, J9, R0 b) Q else (Call D 136 [vi l3] (101, I8, J9, R0 b) (RIf b fun x10 I11 J12 => (Call D 136 [vi l2] (101, I11, J12, R0 b) (RIf b fun x13 I14 J15 => (if x10 ≤ x13 then WP D 201 40 [vr 10 0, vn, vi l2, vi (l3 + 1)] [] (101, I14, J15, R0 b) Q else WP D 201 40 [vr 10 0, vn, vi l3, vi (l3 + 1)] [] (101, I14, J15, R0 b) Q)))))))))) : WP D 201 40 [vr 10 0, vn, vi l2, vi l3] [] (101, I, J, R0 b) Q := by
  refine WP.blk (pc' := 47) (L' := [vr 10 0, vn, vi l2, vi l3]) (st' := [vi ((1 : Int32) <<< ((I 10 0 1) &&& 31)), vi l3]) (h' := (101, I, J, R0 b)) 5 rfl ?_
  refine WP.icmp_ge (t := 77) (L' := [vr 10 0, vn, vi l2, vi l3]) rfl rfl rfl rfl h (fun h => ?_) (fun h => ?_)
  · refine WP.blk (pc' := 78) (L' := [vr 10 0, vn, vi l2, vi l3]) (st' := [vi l2]) (h' := (101, I, J, R0 b)) 1 rfl ?_
    exact WP.ret rfl rfl h
  · refine WP.blk (pc' := 52) (L' := [vr 10 0, vn, vi l2, vi l3]) (st' := [vi l3, vr 10 0]) (h' := (101, I, J, R0 b)) 2 rfl ?_
    refine WP.cal (y' := 200) (as := [vr 10 0, vi l3]) (L' := [vr 10 0, vn, vi l2, vi l3]) (rest := []) rfl (fun f r h' hf => callV_ok hf rfl rfl rfl) h ?_
    rintro _ _ ⟨x7, I8, J9, rfl, rfl, h⟩
    refine WP.if_eq (t := 71) (L' := [vr 10 0, vn, vi l2, vi l3]) rfl rfl rfl rfl h (fun h => ?_) (fun h => ?_)
    · refine WP.blk (pc' := 40) (L' := [vr 10 0, vn, vi l2, vi (l3 + 1)]) (st' := []) (h' := (101, I8, J9, R0 b)) 2 rfl ?_
      exact WP.mask rfl rfl h
    · refine WP.blk (pc' := 59) (L' := [vr 10 0, vn, vi l2, vi l3]) (st' := [vi l3]) (h' := (101, I8, J9, R0 b)) 1 rfl ?_
      refine WP.cal (y' := 136) (as := [vi l3]) (L' := [vr 10 0, vn, vi l2, vi l3]) (rest := []) rfl (fun f r h' hf => callS_ok hf rfl rfl rfl) h ?_
      rintro _ _ ⟨x10, I11, J12, rfl, rfl, h⟩
      refine WP.blk (pc' := 63) (L' := [vr 10 0, vn, vi l2, vi l3]) (st' := [vi l2, vi x10]) (h' := (101, I11, J12, R0 b)) 1 rfl ?_
      refine WP.cal (y' := 136) (as := [vi l2]) (L' := [vr 10 0, vn, vi l2, vi l3]) (rest := [vi x10]) rfl (fun f r h' hf => callS_ok hf rfl rfl rfl) h ?_
      rintro _ _ ⟨x13, I14, J15, rfl, rfl, h⟩
      refine WP.icmp_le (t := 71) (L' := [vr 10 0, vn, vi l2, vi l3]) rfl rfl rfl rfl h (fun h => ?_) (fun h => ?_)
      · refine WP.blk (pc' := 40) (L' := [vr 10 0, vn, vi l2, vi (l3 + 1)]) (st' := []) (h' := (101, I14, J15, R0 b)) 2 rfl ?_
        exact WP.mask rfl rfl h
      · refine WP.blk (pc' := 40) (L' := [vr 10 0, vn, vi l3, vi (l3 + 1)]) (st' := []) (h' := (101, I14, J15, R0 b)) 4 rfl ?_
        exact WP.mask rfl rfl h
set_option maxRecDepth 20000 in
theorem t_X10_wrong {D : Nat} (l1 : Int32) (l2 : Int32) (I : IM) (J : JM) (b : Bool) {Q : Option AV → AH → Prop} (h : (Call D 237 [vi l1] (101, I, J, R0 b) (RIf b fun x1 I2 J3 => (if x1 = 0 then Q (some (vi (-1))) (101, I2, J3, R0 b) else (if l2 < 0 then Q (some (vi (-1))) (101, I2, J3, R0 b) else (if (l2 / (10 : Int32)) ≤ (l2 - l2 / (10 : Int32) * (10 : Int32)) then (Call D 187 [vr 10 0, vi l1] (101, I2, J3, R0 b) (RIf b fun x4 I5 J6 => (if 0 ≤ x4 then (Call D 185 [vr 10 0] (101, I5, J6, R0 b) (RVf b fun I8 J9 => (if (l2 - l2 / (10 : Int32) * (10 : Int32)) < (I8 10 0 49) then (vp_in (l2 - l2 / (10 : Int32) * (10 : Int32)) 7 ∧ (vp_in (I8 68 0 (l2 - l2 / (10 : Int32) * (10 : Int32)).toNatClampNeg) 7 ∧ (Call D 185 [vr 10 0] (101, (updI I8 10 0 48 (l2 / (10 : Int32))), J9, R0 b) (RVf b fun I11 J12 => (Call D 184 [vr 10 0, vi (l2 / (10 : Int32))] (101, (updI (updI I11 10 0 48 (I8 10 0 48)) 10 0 37 ((I8 65 0 (I8 68 0 (l2 - l2 / (10 : Int32) * (10 : Int32)).toNatClampNeg).toNatClampNeg) + ((2 : Int32) * (((l2 - l2 / (10 : Int32) * (10 : Int32)) - (l2 / (10 : Int32))) + (1 : Int32))))), J12, R0 b) (RVf b fun I14 J15 => (if ¬ (I14 10 0 49) = (I14 10 0 48) then Q (some (vi (-2))) (101, I14, J15, R0 b) else (Call D 186 [vr 10 0] (101, I14, J15, R0 b) (RIf b fun x16 I17 J18 => Q (some (vi x16)) (101, I17, J18, R0 b)))))))))) else Q (some (vi (-2))) (101, I8, J9, R0 b)))) else Q (some (vi x4)) (101, I5, J6, R0 b)))) else Q (some (vi (-1))) (101, I2, J3, R0 b))))))) : Call (D + 1) 202 [vr 10 0, vi l1, vi l2] (101, I, J, R0 b) Q := by
  refine Call.of rfl ?_
  show WP D 202 0 [vr 10 0, vi l1, vi l2, vn, vn, vn, vn, vn] [] (101, I, J, R0 b) Q
  refine WP.blk (pc' := 1) (L' := [vr 10 0, vi l1, vi l2, vn, vn, vn, vn, vn]) (st' := [vi l1]) (h' := (101, I, J, R0 b)) 1 rfl ?_
  refine WP.cal (y' := 237) (as := [vi l1]) (L' := [vr 10 0, vi l1, vi l2, vn, vn, vn, vn, vn]) (rest := []) rfl (fun f r h' hf => callS_ok hf rfl rfl rfl) h ?_
  rintro _ _ ⟨x1, I2, J3, rfl, rfl, h⟩
  refine WP.if_eq (t := 22) (L' := [vr 10 0, vi l1, vi l2, vn, vn, vn, vn, vn]) rfl rfl rfl rfl h (fun h => ?_) (fun h => ?_)
  · refine WP.blk (pc' := 23) (L' := [vn, vn, vn, vn, vn, vn, vn, vn]) (st' := [vi (-1)]) (h' := (101, I2, J3, R0 b)) 1 rfl ?_
    exact WP.ret rfl rfl h
  · refine WP.blk (pc' := 8) (L' := [vr 10 0, vi l1, vi l2, vn, vn, vn, vn, vn]) (st' := [vi l2]) (h' := (101, I2, J3, R0 b)) 1 rfl ?_
    refine WP.if_lt (t := 22) (L' := [vr 10 0, vi l1, vi l2, vn, vn, vn, vn, vn]) rfl rfl rfl rfl h (fun h => ?_) (fun h => ?_)
    · refine WP.blk (pc' := 23) (L' := [vn, vn, vn, vn, vn, vn, vn, vn]) (st' := [vi (-1)]) (h' := (101, I2, J3, R0 b)) 1 rfl ?_
      exact WP.ret rfl rfl h
    · refine WP.blk (pc' := 19) (L' := [vr 10 0, vi l1, vi l2, vn, vn, vn, vn, vn]) (st' := [vi (l2 - l2 / (10 : Int32) * (10 : Int32)), vi (l2 / (10 : Int32))]) (h' := (101, I2, J3, R0 b)) 6 rfl ?_
      refine WP.icmp_le (t := 24) (L' := [vr 10 0, vi l1, vi l2, vn, vn, vn, vn, vn]) rfl rfl rfl rfl h (fun h => ?_) (fun h => ?_)
      · refine WP.blk (pc' := 26) (L' := [vr 10 0, vi l1, vi l2, vn, vn, vn, vn, vn]) (st' := [vi l1, vr 10 0]) (h' := (101, I2, J3, R0 b)) 2 rfl ?_
        refine WP.cal (y' := 187) (as := [vr 10 0, vi l1]) (L' := [vr 10 0, vi l1, vi l2, vn, vn, vn, vn, vn]) (rest := []) rfl (fun f r h' hf => callV_ok hf rfl rfl rfl) h ?_
        rintro _ _ ⟨x4, I5, J6, rfl, rfl, h⟩
        refine WP.blk (pc' := 31) (L' := [vr 10 0, vi l1, vi l2, vi x4, vn, vn, vn, vn]) (st' := [vi x4]) (h' := (101, I5, J6, R0 b)) 2 rfl ?_
        refine WP.if_ge (t := 36) (L' := [vr 10 0, vi l1, vi l2, vi x4, vn, vn, vn, vn]) rfl rfl rfl rfl h (fun h => ?_) (fun h => ?_)
        · refine WP.blk (pc' := 49) (L' := [vr 10 0, vi l1, vi l2, vi x4, vi (l2 / (10 : Int32)), vi (l2 - l2 / (10 : Int32) * (10 : Int32)), vn, vn]) (st' := [vr 10 0]) (h' := (101, I5, J6, R0 b)) 9 rfl ?_
          refine WP.cal (y' := 185) (as := [vr 10 0]) (L' := [vr 10 0, vi l1, vi l2, vi x4, vi (l2 / (10 : Int32)), vi (l2 - l2 / (10 : Int32) * (10 : Int32)), vn, vn]) (rest := []) rfl (fun f r h' hf => callV_ok hf rfl rfl rfl) h ?_
          rintro _ _ ⟨I8, J9, rfl, rfl, h⟩
          refine WP.blk (pc' := 58) (L' := [vr 10 0, vi l1, vi l2, vi x4, vi (l2 / (10 : Int32)), vi (l2 - l2 / (10 : Int32) * (10 : Int32)), vn, vn]) (st' := [vi (I8 10 0 49), vi (l2 - l2 / (10 : Int32) * (10 : Int32))]) (h' := (101, I8, J9, R0 b)) 3 rfl ?_
          refine WP.icmp_lt (t := 64) (L' := [vr 10 0, vi l1, vi l2, vi x4, vi (l2 / (10 : Int32)), vi (l2 - l2 / (10 : Int32) * (10 : Int32)), vn, vn]) rfl rfl rfl rfl h (fun h => ?_) (fun h => ?_)
          · refine WP.blk (pc' := 74) (L' := [vr 10 0, vi l1, vi l2, vi x4, vi (l2 / (10 : Int32)), vi (l2 - l2 / (10 : Int32) * (10 : Int32)), vn, vn]) (st' := [vi (l2 - l2 / (10 : Int32) * (10 : Int32)), vr 68 0, vr 65 0]) (h' := (101, I8, J9, R0 b)) 5 rfl ?_
            refine WP.step (pc' := 75) (L' := [vr 10 0, vi l1, vi l2, vi x4, vi (l2 / (10 : Int32)), vi (l2 - l2 / (10 : Int32) * (10 : Int32)), vn, vn]) (st' := [vi (I8 68 0 (l2 - l2 / (10 : Int32) * (10 : Int32)).toNatClampNeg), vr 65 0]) (h' := (101, I8, J9, R0 b)) rfl (iaload_ok (n := 7) rfl rfl rfl (inA_of h.1)) ?_
            have h := And.right h
            refine WP.step (pc' := 76) (L' := [vr 10 0, vi l1, vi l2, vi x4, vi (l2 / (10 : Int32)), vi (l2 - l2 / (10 : Int32) * (10 : Int32)), vn, vn]) (st' := [vi (I8 65 0 (I8 68 0 (l2 - l2 / (10 : Int32) * (10 : Int32)).toNatClampNeg).toNatClampNeg)]) (h' := (101, I8, J9, R0 b)) rfl (iaload_ok (n := 7) rfl rfl rfl (inA_of h.1)) ?_
            have h := And.right h
            refine WP.blk (pc' := 101) (L' := [vr 10 0, vi l1, vi l2, vi x4, vi (l2 / (10 : Int32)), vi (l2 - l2 / (10 : Int32) * (10 : Int32)), vi ((I8 65 0 (I8 68 0 (l2 - l2 / (10 : Int32) * (10 : Int32)).toNatClampNeg).toNatClampNeg) + ((2 : Int32) * (((l2 - l2 / (10 : Int32) * (10 : Int32)) - (l2 / (10 : Int32))) + (1 : Int32)))), vi (I8 10 0 48)]) (st' := [vr 10 0]) (h' := (101, (updI I8 10 0 48 (l2 / (10 : Int32))), J9, R0 b)) 16 rfl ?_
            refine WP.cal (y' := 185) (as := [vr 10 0]) (L' := [vr 10 0, vi l1, vi l2, vi x4, vi (l2 / (10 : Int32)), vi (l2 - l2 / (10 : Int32) * (10 : Int32)), vi ((I8 65 0 (I8 68 0 (l2 - l2 / (10 : Int32) * (10 : Int32)).toNatClampNeg).toNatClampNeg) + ((2 : Int32) * (((l2 - l2 / (10 : Int32) * (10 : Int32)) - (l2 / (10 : Int32))) + (1 : Int32)))), vi (I8 10 0 48)]) (rest := []) rfl (fun f r h' hf => callV_ok hf rfl rfl rfl) h ?_
            rintro _ _ ⟨I11, J12, rfl, rfl, h⟩
            refine WP.blk (pc' := 119) (L' := [vr 10 0, vi l1, vi l2, vi x4, vi (l2 / (10 : Int32)), vi (l2 - l2 / (10 : Int32) * (10 : Int32)), vi ((I8 65 0 (I8 68 0 (l2 - l2 / (10 : Int32) * (10 : Int32)).toNatClampNeg).toNatClampNeg) + ((2 : Int32) * (((l2 - l2 / (10 : Int32) * (10 : Int32)) - (l2 / (10 : Int32))) + (1 : Int32)))), vi (I8 10 0 48)]) (st' := [vi (l2 / (10 : Int32)), vr 10 0]) (h' := (101, (updI (updI I11 10 0 48 (I8 10 0 48)) 10 0 37 ((I8 65 0 (I8 68 0 (l2 - l2 / (10 : Int32) * (10 : Int32)).toNatClampNeg).toNatClampNeg) + ((2 : Int32) * (((l2 - l2 / (10 : Int32) * (10 : Int32)) - (l2 / (10 : Int32))) + (1 : Int32))))), J12, R0 b)) 8 rfl ?_
            refine WP.cal (y' := 184) (as := [vr 10 0, vi (l2 / (10 : Int32))]) (L' := [vr 10 0, vi l1, vi l2, vi x4, vi (l2 / (10 : Int32)), vi (l2 - l2 / (10 : Int32) * (10 : Int32)), vi ((I8 65 0 (I8 68 0 (l2 - l2 / (10 : Int32) * (10 : Int32)).toNatClampNeg).toNatClampNeg) + ((2 : Int32) * (((l2 - l2 / (10 : Int32) * (10 : Int32)) - (l2 / (10 : Int32))) + (1 : Int32)))), vi (I8 10 0 48)]) (rest := []) rfl (fun f r h' hf => callV_ok hf rfl rfl rfl) h ?_
            rintro _ _ ⟨I14, J15, rfl, rfl, h⟩
            refine WP.blk (pc' := 130) (L' := [vr 10 0, vi l1, vi l2, vi x4, vi (l2 / (10 : Int32)), vi (l2 - l2 / (10 : Int32) * (10 : Int32)), vi ((I8 65 0 (I8 68 0 (l2 - l2 / (10 : Int32) * (10 : Int32)).toNatClampNeg).toNatClampNeg) + ((2 : Int32) * (((l2 - l2 / (10 : Int32) * (10 : Int32)) - (l2 / (10 : Int32))) + (1 : Int32)))), vi (I8 10 0 48)]) (st' := [vi (I14 10 0 48), vi (I14 10 0 49)]) (h' := (101, I14, J15, R0 b)) 4 rfl ?_
            refine WP.icmp_ne (t := 140) (L' := [vr 10 0, vi l1, vi l2, vi x4, vi (l2 / (10 : Int32)), vi (l2 - l2 / (10 : Int32) * (10 : Int32)), vi ((I8 65 0 (I8 68 0 (l2 - l2 / (10 : Int32) * (10 : Int32)).toNatClampNeg).toNatClampNeg) + ((2 : Int32) * (((l2 - l2 / (10 : Int32) * (10 : Int32)) - (l2 / (10 : Int32))) + (1 : Int32)))), vi (I8 10 0 48)]) rfl rfl rfl rfl h (fun h => ?_) (fun h => ?_)
            · refine WP.blk (pc' := 142) (L' := [vr 10 0, vi l1, vi l2, vi x4, vi (l2 / (10 : Int32)), vi (l2 - l2 / (10 : Int32) * (10 : Int32)), vi ((I8 65 0 (I8 68 0 (l2 - l2 / (10 : Int32) * (10 : Int32)).toNatClampNeg).toNatClampNeg) + ((2 : Int32) * (((l2 - l2 / (10 : Int32) * (10 : Int32)) - (l2 / (10 : Int32))) + (1 : Int32)))), vi (I8 10 0 48)]) (st' := [vi (-2)]) (h' := (101, I14, J15, R0 b)) 1 rfl ?_
              exact WP.ret rfl rfl h
            · refine WP.blk (pc' := 134) (L' := [vr 10 0, vi l1, vi l2, vi x4, vi (l2 / (10 : Int32)), vi (l2 - l2 / (10 : Int32) * (10 : Int32)), vi ((I8 65 0 (I8 68 0 (l2 - l2 / (10 : Int32) * (10 : Int32)).toNatClampNeg).toNatClampNeg) + ((2 : Int32) * (((l2 - l2 / (10 : Int32) * (10 : Int32)) - (l2 / (10 : Int32))) + (1 : Int32)))), vi (I8 10 0 48)]) (st' := [vr 10 0]) (h' := (101, I14, J15, R0 b)) 1 rfl ?_
              refine WP.cal (y' := 186) (as := [vr 10 0]) (L' := [vr 10 0, vi l1, vi l2, vi x4, vi (l2 / (10 : Int32)), vi (l2 - l2 / (10 : Int32) * (10 : Int32)), vi ((I8 65 0 (I8 68 0 (l2 - l2 / (10 : Int32) * (10 : Int32)).toNatClampNeg).toNatClampNeg) + ((2 : Int32) * (((l2 - l2 / (10 : Int32) * (10 : Int32)) - (l2 / (10 : Int32))) + (1 : Int32)))), vi (I8 10 0 48)]) (rest := []) rfl (fun f r h' hf => callV_ok hf rfl rfl rfl) h ?_
              rintro _ _ ⟨x16, I17, J18, rfl, rfl, h⟩
              refine WP.blk (pc' := 142) (L' := [vr 10 0, vi l1, vi l2, vi x4, vi (l2 / (10 : Int32)), vi (l2 - l2 / (10 : Int32) * (10 : Int32)), vi ((I8 65 0 (I8 68 0 (l2 - l2 / (10 : Int32) * (10 : Int32)).toNatClampNeg).toNatClampNeg) + ((2 : Int32) * (((l2 - l2 / (10 : Int32) * (10 : Int32)) - (l2 / (10 : Int32))) + (1 : Int32)))), vi (I8 10 0 48)]) (st' := [vi x16]) (h' := (101, I17, J18, R0 b)) 1 rfl ?_
              exact WP.ret rfl rfl h
          · refine WP.blk (pc' := 63) (L' := [vr 10 0, vi l1, vi l2, vi x4, vi (l2 / (10 : Int32)), vi (l2 - l2 / (10 : Int32) * (10 : Int32)), vn, vn]) (st' := [vi (-2)]) (h' := (101, I8, J9, R0 b)) 1 rfl ?_
            exact WP.ret rfl rfl h
        · refine WP.blk (pc' := 35) (L' := [vr 10 0, vi l1, vi l2, vi x4, vn, vn, vn, vn]) (st' := [vi x4]) (h' := (101, I5, J6, R0 b)) 1 rfl ?_
          exact WP.ret rfl rfl h
      · refine WP.blk (pc' := 23) (L' := [vn, vn, vn, vn, vn, vn, vn, vn]) (st' := [vi (-1)]) (h' := (101, I2, J3, R0 b)) 1 rfl ?_
        exact WP.ret rfl rfl h
set_option maxRecDepth 20000 in
theorem t_X10_round {D : Nat} (l1 : Int32) (l2 : Int32) (I : IM) (J : JM) (b : Bool) {Q : Option AV → AH → Prop} (h : (Call D 237 [vi l1] (101, I, J, R0 b) (RIf b fun x1 I2 J3 => (if x1 = 0 then Q (some (vi (-1))) (101, I2, J3, R0 b) else (Call D 135 [vi l2, vi 1, vi 5] (101, I2, J3, R0 b) (RIf b fun x4 I5 J6 => (if ¬ x4 = 0 then (Call D 187 [vr 10 0, vi l1] (101, I5, J6, R0 b) (RIf b fun x7 I8 J9 => (if 0 ≤ x7 then (Call D 171 [vr 10 0] (101, I8, J9, R0 b) (RVf b fun I11 J12 => WP D 203 40 [vr 10 0, vn, vi l2, vn, vi 0, vi 0] [] (101, I11, J12, R0 b) Q)) else Q (some (vi x7)) (101, I8, J9, R0 b)))) else Q (some (vi (-1))) (101, I5, J6, R0 b)))))))) : Call (D + 1) 203 [vr 10 0, vi l1, vi l2] (101, I, J, R0 b) Q := by
  refine Call.of rfl ?_
  show WP D 203 0 [vr 10 0, vi l1, vi l2, vn, vn, vn] [] (101, I, J, R0 b) Q
  refine WP.blk (pc' := 1) (L' := [vr 10 0, vi l1, vi l2, vn, vn, vn]) (st' := [vi l1]) (h' := (101, I, J, R0 b)) 1 rfl ?_
  refine WP.cal (y' := 237) (as := [vi l1]) (L' := [vr 10 0, vi l1, vi l2, vn, vn, vn]) (rest := []) rfl (fun f r h' hf => callS_ok hf rfl rfl rfl) h ?_
  rintro _ _ ⟨x1, I2, J3, rfl, rfl, h⟩
  refine WP.if_eq (t := 16) (L' := [vr 10 0, vi l1, vi l2, vn, vn, vn]) rfl rfl rfl rfl h (fun h => ?_) (fun h => ?_)
  · refine WP.blk (pc' := 17) (L' := [vn, vn, vn, vn, vn, vn]) (st' := [vi (-1)]) (h' := (101, I2, J3, R0 b)) 1 rfl ?_
    exact WP.ret rfl rfl h
  · refine WP.blk (pc' := 10) (L' := [vr 10 0, vi l1, vi l2, vn, vn, vn]) (st' := [vi 5, vi 1, vi l2]) (h' := (101, I2, J3, R0 b)) 3 rfl ?_
    refine WP.cal (y' := 135) (as := [vi l2, vi 1, vi 5]) (L' := [vr 10 0, vi l1, vi l2, vn, vn, vn]) (rest := []) rfl (fun f r h' hf => callS_ok hf rfl rfl rfl) h ?_
    rintro _ _ ⟨x4, I5, J6, rfl, rfl, h⟩
    refine WP.if_ne (t := 18) (L' := [vr 10 0, vi l1, vi l2, vn, vn, vn]) rfl rfl rfl rfl h (fun h => ?_) (fun h => ?_)
    · refine WP.blk (pc' := 20) (L' := [vr 10 0, vi l1, vi l2, vn, vn, vn]) (st' := [vi l1, vr 10 0]) (h' := (101, I5, J6, R0 b)) 2 rfl ?_
      refine WP.cal (y' := 187) (as := [vr 10 0, vi l1]) (L' := [vr 10 0, vi l1, vi l2, vn, vn, vn]) (rest := []) rfl (fun f r h' hf => callV_ok hf rfl rfl rfl) h ?_
      rintro _ _ ⟨x7, I8, J9, rfl, rfl, h⟩
      refine WP.blk (pc' := 25) (L' := [vr 10 0, vi l1, vi l2, vi x7, vn, vn]) (st' := [vi x7]) (h' := (101, I8, J9, R0 b)) 2 rfl ?_
      refine WP.if_ge (t := 30) (L' := [vr 10 0, vi l1, vi l2, vi x7, vn, vn]) rfl rfl rfl rfl h (fun h => ?_) (fun h => ?_)
      · refine WP.blk (pc' := 34) (L' := [vr 10 0, vi l1, vi l2, vi x7, vi 0, vn]) (st' := [vr 10 0]) (h' := (101, I8, J9, R0 b)) 3 rfl ?_
        refine WP.cal (y' := 171) (as := [vr 10 0]) (L' := [vr 10 0, vi l1, vi l2, vi x7, vi 0, vn]) (rest := []) rfl (fun f r h' hf => callV_ok hf rfl rfl rfl) h ?_
        rintro _ _ ⟨I11, J12, rfl, rfl, h⟩
        refine WP.blk (pc' := 40) (L' := [vr 10 0, vi l1, vi l2, vi x7, vi 0, vi 0]) (st' := []) (h' := (101, I11, J12, R0 b)) 2 rfl ?_
        exact WP.mask rfl rfl h
      · refine WP.blk (pc' := 29) (L' := [vr 10 0, vi l1, vi l2, vi x7, vn, vn]) (st' := [vi x7]) (h' := (101, I8, J9, R0 b)) 1 rfl ?_
        exact WP.ret rfl rfl h
    · refine WP.blk (pc' := 17) (L' := [vn, vn, vn, vn, vn, vn]) (st' := [vi (-1)]) (h' := (101, I5, J6, R0 b)) 1 rfl ?_
      exact WP.ret rfl rfl h
set_option maxRecDepth 20000 in
theorem t_X10_round_40 {D : Nat} (l2 : Int32) (l4 : Int32) (l5 : Int32) (I : IM) (J : JM) (b : Bool) {Q : Option AV → AH → Prop} (h : (if l2 ≤ l5 then Q (some (vi l4)) (101, I, J, R0 b) else (Call D 172 [vr 10 0] (101, I, J, R0 b) (RVf b fun I14 J15 => (Call D 184 [vr 10 0, vi 0] (101, I14, J15, R0 b) (RVf b fun I17 J18 => (if (I17 10 0 48) ≤ (I17 10 0 49) then (Call D 186 [vr 10 0] (101, I17, J18, R0 b) (RIf b fun x19 I20 J21 => (if x19 ≤ l4 then WP D 203 40 [vr 10 0, vn, vi l2, vn, vi l4, vi (l5 + 1)] [] (101, I20, J21, R0 b) Q else (Call D 186 [vr 10 0] (101, I20, J21, R0 b) (RIf b fun x22 I23 J24 => WP D 203 40 [vr 10 0, vn, vi l2, vn, vi x22, vi (l5 + 1)] [] (101, I23, J24, R0 b) Q))))) else Q (some (vi (-2))) (101, I17, J18, R0 b)))))))) : WP D 203 40 [vr 10 0, vn, vi l2, vn, vi l4, vi l5] [] (101, I, J, R0 b) Q := by
  refine WP.blk (pc' := 43) (L' := [vr 10 0, vn, vi l2, vn, vi l4, vi l5]) (st' := [vi l2, vi l5]) (h' := (101, I, J, R0 b)) 2 rfl ?_
  refine WP.icmp_ge (t := 90) (L' := [vr 10 0, vn, vi l2, vn, vi l4, vi l5]) rfl rfl rfl rfl h (fun h => ?_) (fun h => ?_)
  · refine WP.blk (pc' := 92) (L' := [vr 10 0, vn, vi l2, vn, vi l4, vi l5]) (st' := [vi l4]) (h' := (101, I, J, R0 b)) 1 rfl ?_
    exact WP.ret rfl rfl h
  · refine WP.blk (pc' := 47) (L' := [vr 10 0, vn, vi l2, vn, vi l4, vi l5]) (st' := [vr 10 0]) (h' := (101, I, J, R0 b)) 1 rfl ?_
    refine WP.cal (y' := 172) (as := [vr 10 0]) (L' := [vr 10 0, vn, vi l2, vn, vi l4, vi l5]) (rest := []) rfl (fun f r h' hf => callV_ok hf rfl rfl rfl) h ?_
    rintro _ _ ⟨I14, J15, rfl, rfl, h⟩
    refine WP.blk (pc' := 52) (L' := [vr 10 0, vn, vi l2, vn, vi l4, vi l5]) (st' := [vi 0, vr 10 0]) (h' := (101, I14, J15, R0 b)) 2 rfl ?_
    refine WP.cal (y' := 184) (as := [vr 10 0, vi 0]) (L' := [vr 10 0, vn, vi l2, vn, vi l4, vi l5]) (rest := []) rfl (fun f r h' hf => callV_ok hf rfl rfl rfl) h ?_
    rintro _ _ ⟨I17, J18, rfl, rfl, h⟩
    refine WP.blk (pc' := 63) (L' := [vr 10 0, vn, vi l2, vn, vi l4, vi l5]) (st' := [vi (I17 10 0 48), vi (I17 10 0 49)]) (h' := (101, I17, J18, R0 b)) 4 rfl ?_
    refine WP.icmp_ge (t := 69) (L' := [vr 10 0, vn, vi l2, vn, vi l4, vi l5]) rfl rfl rfl rfl h (fun h => ?_) (fun h => ?_)
    · refine WP.blk (pc' := 70) (L' := [vr 10 0, vn, vi l2, vn, vi l4, vi l5]) (st' := [vr 10 0]) (h' := (101, I17, J18, R0 b)) 1 rfl ?_
      refine WP.cal (y' := 186) (as := [vr 10 0]) (L' := [vr 10 0, vn, vi l2, vn, vi l4, vi l5]) (rest := []) rfl (fun f r h' hf => callV_ok hf rfl rfl rfl) h ?_
      rintro _ _ ⟨x19, I20, J21, rfl, rfl, h⟩
      refine WP.blk (pc' := 75) (L' := [vr 10 0, vn, vi l2, vn, vi l4, vi l5]) (st' := [vi l4, vi x19]) (h' := (101, I20, J21, R0 b)) 1 rfl ?_
      refine WP.icmp_le (t := 84) (L' := [vr 10 0, vn, vi l2, vn, vi l4, vi l5]) rfl rfl rfl rfl h (fun h => ?_) (fun h => ?_)
      · refine WP.blk (pc' := 40) (L' := [vr 10 0, vn, vi l2, vn, vi l4, vi (l5 + 1)]) (st' := []) (h' := (101, I20, J21, R0 b)) 2 rfl ?_
        exact WP.mask rfl rfl h
      · refine WP.blk (pc' := 79) (L' := [vr 10 0, vn, vi l2, vn, vi l4, vi l5]) (st' := [vr 10 0]) (h' := (101, I20, J21, R0 b)) 1 rfl ?_
        refine WP.cal (y' := 186) (as := [vr 10 0]) (L' := [vr 10 0, vn, vi l2, vn, vi l4, vi l5]) (rest := []) rfl (fun f r h' hf => callV_ok hf rfl rfl rfl) h ?_
        rintro _ _ ⟨x22, I23, J24, rfl, rfl, h⟩
        refine WP.blk (pc' := 40) (L' := [vr 10 0, vn, vi l2, vn, vi x22, vi (l5 + 1)]) (st' := []) (h' := (101, I23, J24, R0 b)) 3 rfl ?_
        exact WP.mask rfl rfl h
    · refine WP.blk (pc' := 68) (L' := [vr 10 0, vn, vi l2, vn, vi l4, vi l5]) (st' := [vi (-2)]) (h' := (101, I17, J18, R0 b)) 1 rfl ?_
      exact WP.ret rfl rfl h
set_option maxRecDepth 20000 in
theorem t_X10_wrongDrip {D : Nat} (l1 : Int32) (I : IM) (J : JM) (b : Bool) {Q : Option AV → AH → Prop} (h : WP D 204 2 [vr 10 0, vi l1, vi 0, vn] [] (101, I, J, R0 b) Q) : Call (D + 1) 204 [vr 10 0, vi l1] (101, I, J, R0 b) Q := by
  refine Call.of rfl ?_
  show WP D 204 0 [vr 10 0, vi l1, vn, vn] [] (101, I, J, R0 b) Q
  refine WP.blk (pc' := 2) (L' := [vr 10 0, vi l1, vi 0, vn]) (st' := []) (h' := (101, I, J, R0 b)) 2 rfl ?_
  exact WP.mask rfl rfl h
set_option maxRecDepth 20000 in
theorem t_X10_wrongDrip_2 {D : Nat} (l1 : Int32) (l2 : Int32) (I : IM) (J : JM) (b : Bool) {Q : Option AV → AH → Prop} (h : (vp_in l1 6 ∧ (if (I 82 0 l1.toNatClampNeg) ≤ ((2 : Int32) * l2) then Q (some (vi (-2))) (101, I, J, R0 b) else (vp_in l1 6 ∧ (if (((2 : Int32) * l2) + (1 : Int32)) < (I 82 0 l1.toNatClampNeg) then (Call D 182 [vr 10 0, vi l1, vi ((2 : Int32) * l2)] (101, I, J, R0 b) (RIf b fun x1 I2 J3 => (Call D 137 [vr 10 0, vi x1] (101, I2, J3, R0 b) (RIf b fun x4 I5 J6 => (if x4 = 0 then Q (some (vi l2)) (101, I5, J6, R0 b) else (if (((I5 10 0 38) >>> (x1 &&& 31)) &&& (1 : Int32)) = 0 then Q (some (vi l2)) (101, I5, J6, R0 b) else (vp_in x1 7 ∧ (Call D 182 [vr 10 0, vi l1, vi (((2 : Int32) * l2) + (1 : Int32))] (101, I5, J6, R0 b) (RIf b fun x7 I8 J9 => (if (I5 66 0 x1.toNatClampNeg) = x7 then WP D 204 2 [vr 10 0, vi l1, vi (l2 + 1), vn] [] (101, I8, J9, R0 b) Q else Q (some (vi l2)) (101, I8, J9, R0 b))))))))))) else Q (some (vi l2)) (101, I, J, R0 b)))))) : WP D 204 2 [vr 10 0, vi l1, vi l2, vn] [] (101, I, J, R0 b) Q := by
  refine WP.blk (pc' := 10) (L' := [vr 10 0, vi l1, vi l2, vn]) (st' := [vi l1, vr 82 0, vi ((2 : Int32) * l2)]) (h' := (101, I, J, R0 b)) 6 rfl ?_
  refine WP.step (pc' := 11) (L' := [vr 10 0, vi l1, vi l2, vn]) (st' := [vi (I 82 0 l1.toNatClampNeg), vi ((2 : Int32) * l2)]) (h' := (101, I, J, R0 b)) rfl (iaload_ok (n := 6) rfl rfl rfl (inA_of h.1)) ?_
  have h := And.right h
  refine WP.icmp_ge (t := 85) (L' := [vr 10 0, vi l1, vi l2, vn]) rfl rfl rfl rfl h (fun h => ?_) (fun h => ?_)
  · refine WP.blk (pc' := 87) (L' := [vr 10 0, vi l1, vi l2, vn]) (st' := [vi (-2)]) (h' := (101, I, J, R0 b)) 1 rfl ?_
    exact WP.ret rfl rfl h
  · refine WP.blk (pc' := 24) (L' := [vr 10 0, vi l1, vi l2, vn]) (st' := [vi l1, vr 82 0, vi (((2 : Int32) * l2) + (1 : Int32))]) (h' := (101, I, J, R0 b)) 8 rfl ?_
    refine WP.step (pc' := 25) (L' := [vr 10 0, vi l1, vi l2, vn]) (st' := [vi (I 82 0 l1.toNatClampNeg), vi (((2 : Int32) * l2) + (1 : Int32))]) (h' := (101, I, J, R0 b)) rfl (iaload_ok (n := 6) rfl rfl rfl (inA_of h.1)) ?_
    have h := And.right h
    refine WP.icmp_lt (t := 30) (L' := [vr 10 0, vi l1, vi l2, vn]) rfl rfl rfl rfl h (fun h => ?_) (fun h => ?_)
    · refine WP.blk (pc' := 35) (L' := [vr 10 0, vi l1, vi l2, vn]) (st' := [vi ((2 : Int32) * l2), vi l1, vr 10 0]) (h' := (101, I, J, R0 b)) 5 rfl ?_
      refine WP.cal (y' := 182) (as := [vr 10 0, vi l1, vi ((2 : Int32) * l2)]) (L' := [vr 10 0, vi l1, vi l2, vn]) (rest := []) rfl (fun f r h' hf => callV_ok hf rfl rfl rfl) h ?_
      rintro _ _ ⟨x1, I2, J3, rfl, rfl, h⟩
      refine WP.blk (pc' := 41) (L' := [vr 10 0, vi l1, vi l2, vi x1]) (st' := [vi x1, vr 10 0]) (h' := (101, I2, J3, R0 b)) 3 rfl ?_
      refine WP.cal (y' := 137) (as := [vr 10 0, vi x1]) (L' := [vr 10 0, vi l1, vi l2, vi x1]) (rest := []) rfl (fun f r h' hf => callV_ok hf rfl rfl rfl) h ?_
      rintro _ _ ⟨x4, I5, J6, rfl, rfl, h⟩
      refine WP.if_eq (t := 77) (L' := [vr 10 0, vi l1, vi l2, vi x1]) rfl rfl rfl rfl h (fun h => ?_) (fun h => ?_)
      · refine WP.blk (pc' := 78) (L' := [vn, vn, vi l2, vn]) (st' := [vi l2]) (h' := (101, I5, J6, R0 b)) 1 rfl ?_
        exact WP.ret rfl rfl h
      · refine WP.blk (pc' := 55) (L' := [vr 10 0, vi l1, vi l2, vi x1]) (st' := [vi (((I5 10 0 38) >>> (x1 &&& 31)) &&& (1 : Int32))]) (h' := (101, I5, J6, R0 b)) 6 rfl ?_
        refine WP.if_eq (t := 77) (L' := [vr 10 0, vi l1, vi l2, vi x1]) rfl rfl rfl rfl h (fun h => ?_) (fun h => ?_)
        · refine WP.blk (pc' := 78) (L' := [vn, vn, vi l2, vn]) (st' := [vi l2]) (h' := (101, I5, J6, R0 b)) 1 rfl ?_
          exact WP.ret rfl rfl h
        · refine WP.blk (pc' := 63) (L' := [vr 10 0, vi l1, vi l2, vi x1]) (st' := [vi x1, vr 66 0]) (h' := (101, I5, J6, R0 b)) 3 rfl ?_
          refine WP.step (pc' := 64) (L' := [vr 10 0, vi l1, vi l2, vi x1]) (st' := [vi (I5 66 0 x1.toNatClampNeg)]) (h' := (101, I5, J6, R0 b)) rfl (iaload_ok (n := 7) rfl rfl rfl (inA_of h.1)) ?_
          have h := And.right h
          refine WP.blk (pc' := 71) (L' := [vr 10 0, vi l1, vi l2, vi x1]) (st' := [vi (((2 : Int32) * l2) + (1 : Int32)), vi l1, vr 10 0, vi (I5 66 0 x1.toNatClampNeg)]) (h' := (101, I5, J6, R0 b)) 7 rfl ?_
          refine WP.cal (y' := 182) (as := [vr 10 0, vi l1, vi (((2 : Int32) * l2) + (1 : Int32))]) (L' := [vr 10 0, vi l1, vi l2, vi x1]) (rest := [vi (I5 66 0 x1.toNatClampNeg)]) rfl (fun f r h' hf => callV_ok hf rfl rfl rfl) h ?_
          rintro _ _ ⟨x7, I8, J9, rfl, rfl, h⟩
          refine WP.icmp_eq (t := 79) (L' := [vr 10 0, vi l1, vi l2, vi x1]) rfl rfl rfl rfl h (fun h => ?_) (fun h => ?_)
          · refine WP.blk (pc' := 2) (L' := [vr 10 0, vi l1, vi (l2 + 1), vi x1]) (st' := []) (h' := (101, I8, J9, R0 b)) 2 rfl ?_
            exact WP.mask rfl rfl h
          · refine WP.blk (pc' := 78) (L' := [vn, vn, vi l2, vn]) (st' := [vi l2]) (h' := (101, I8, J9, R0 b)) 1 rfl ?_
            exact WP.ret rfl rfl h
    · refine WP.blk (pc' := 29) (L' := [vr 10 0, vi l1, vi l2, vn]) (st' := [vi l2]) (h' := (101, I, J, R0 b)) 1 rfl ?_
      exact WP.ret rfl rfl h
set_option maxRecDepth 20000 in
theorem t_X10_areShelves {D : Nat} (l0 : Int32) (I : IM) (J : JM) (b : Bool) {Q : Option AV → AH → Prop} (h : (if l0 < 0 then Q (some (vi 0)) (101, I, J, R0 b) else (Call D 237 [vi (l0 / (10 : Int32))] (101, I, J, R0 b) (RIf b fun x1 I2 J3 => (if x1 = 0 then Q (some (vi 0)) (101, I2, J3, R0 b) else (Call D 237 [vi (l0 - l0 / (10 : Int32) * (10 : Int32))] (101, I2, J3, R0 b) (RIf b fun x4 I5 J6 => (if x4 = 0 then Q (some (vi 0)) (101, I5, J6, R0 b) else Q (some (vi 1)) (101, I5, J6, R0 b))))))))) : Call (D + 1) 205 [vi l0] (101, I, J, R0 b) Q := by
  refine Call.of rfl ?_
  show WP D 205 0 [vi l0] [] (101, I, J, R0 b) Q
  refine WP.blk (pc' := 1) (L' := [vi l0]) (st' := [vi l0]) (h' := (101, I, J, R0 b)) 1 rfl ?_
  refine WP.if_lt (t := 28) (L' := [vi l0]) rfl rfl rfl rfl h (fun h => ?_) (fun h => ?_)
  · refine WP.blk (pc' := 29) (L' := [vn]) (st' := [vi 0]) (h' := (101, I, J, R0 b)) 1 rfl ?_
    exact WP.ret rfl rfl h
  · refine WP.blk (pc' := 8) (L' := [vi l0]) (st' := [vi (l0 / (10 : Int32))]) (h' := (101, I, J, R0 b)) 3 rfl ?_
    refine WP.cal (y' := 237) (as := [vi (l0 / (10 : Int32))]) (L' := [vi l0]) (rest := []) rfl (fun f r h' hf => callS_ok hf rfl rfl rfl) h ?_
    rintro _ _ ⟨x1, I2, J3, rfl, rfl, h⟩
    refine WP.if_eq (t := 28) (L' := [vi l0]) rfl rfl rfl rfl h (fun h => ?_) (fun h => ?_)
    · refine WP.blk (pc' := 29) (L' := [vn]) (st' := [vi 0]) (h' := (101, I2, J3, R0 b)) 1 rfl ?_
      exact WP.ret rfl rfl h
    · refine WP.blk (pc' := 18) (L' := [vi l0]) (st' := [vi (l0 - l0 / (10 : Int32) * (10 : Int32))]) (h' := (101, I2, J3, R0 b)) 3 rfl ?_
      refine WP.cal (y' := 237) (as := [vi (l0 - l0 / (10 : Int32) * (10 : Int32))]) (L' := [vi l0]) (rest := []) rfl (fun f r h' hf => callS_ok hf rfl rfl rfl) h ?_
      rintro _ _ ⟨x4, I5, J6, rfl, rfl, h⟩
      refine WP.if_eq (t := 28) (L' := [vi l0]) rfl rfl rfl rfl h (fun h => ?_) (fun h => ?_)
      · refine WP.blk (pc' := 29) (L' := [vn]) (st' := [vi 0]) (h' := (101, I5, J6, R0 b)) 1 rfl ?_
        exact WP.ret rfl rfl h
      · refine WP.blk (pc' := 29) (L' := [vi l0]) (st' := [vi 1]) (h' := (101, I5, J6, R0 b)) 2 rfl ?_
        exact WP.ret rfl rfl h
set_option maxRecDepth 20000 in
theorem t_X10_layBoth {D : Nat} (l1 : Int32) (I : IM) (J : JM) (b : Bool) {Q : Option AV → AH → Prop} (h : (vp_in (l1 / (10 : Int32)) 6 ∧ (if (I 81 0 (l1 / (10 : Int32)).toNatClampNeg) = (-1 : Int32) then Q (some (vi (-11))) (101, I, J, R0 b) else (vp_in (l1 - l1 / (10 : Int32) * (10 : Int32)) 6 ∧ (if ¬ (I 81 0 (l1 - l1 / (10 : Int32) * (10 : Int32)).toNatClampNeg) = (-1 : Int32) then (Call D 181 [vr 10 0, vi (l1 / (10 : Int32)), vi 0] (101, I, J, R0 b) (RIf b fun x1 I2 J3 => (if x1 < 0 then Q (some (vi (-12))) (101, I2, J3, R0 b) else (Call D 181 [vr 10 0, vi (l1 - l1 / (10 : Int32) * (10 : Int32)), vi 1] (101, I2, J3, R0 b) (RIf b fun x4 I5 J6 => (if 0 ≤ x4 then (Call D 183 [vr 10 0, vi (l1 / (10 : Int32))] (101, I5, J6, R0 b) (RVf b fun I8 J9 => Q (some (vi 0)) (101, I8, J9, R0 b))) else Q (some (vi (-12))) (101, I5, J6, R0 b))))))) else Q (some (vi (-11))) (101, I, J, R0 b)))))) : Call (D + 1) 206 [vr 10 0, vi l1] (101, I, J, R0 b) Q := by
  refine Call.of rfl ?_
  show WP D 206 0 [vr 10 0, vi l1] [] (101, I, J, R0 b) Q
  refine WP.blk (pc' := 8) (L' := [vr 10 0, vi l1]) (st' := [vi (l1 / (10 : Int32)), vr 81 0]) (h' := (101, I, J, R0 b)) 5 rfl ?_
  refine WP.step (pc' := 9) (L' := [vr 10 0, vi l1]) (st' := [vi (I 81 0 (l1 / (10 : Int32)).toNatClampNeg)]) (h' := (101, I, J, R0 b)) rfl (iaload_ok (n := 6) rfl rfl rfl (inA_of h.1)) ?_
  have h := And.right h
  refine WP.blk (pc' := 10) (L' := [vr 10 0, vi l1]) (st' := [vi (-1), vi (I 81 0 (l1 / (10 : Int32)).toNatClampNeg)]) (h' := (101, I, J, R0 b)) 1 rfl ?_
  refine WP.icmp_eq (t := 26) (L' := [vr 10 0, vi l1]) rfl rfl rfl rfl h (fun h => ?_) (fun h => ?_)
  · refine WP.blk (pc' := 28) (L' := [vn, vn]) (st' := [vi (-11)]) (h' := (101, I, J, R0 b)) 1 rfl ?_
    exact WP.ret rfl rfl h
  · refine WP.blk (pc' := 21) (L' := [vr 10 0, vi l1]) (st' := [vi (l1 - l1 / (10 : Int32) * (10 : Int32)), vr 81 0]) (h' := (101, I, J, R0 b)) 5 rfl ?_
    refine WP.step (pc' := 22) (L' := [vr 10 0, vi l1]) (st' := [vi (I 81 0 (l1 - l1 / (10 : Int32) * (10 : Int32)).toNatClampNeg)]) (h' := (101, I, J, R0 b)) rfl (iaload_ok (n := 6) rfl rfl rfl (inA_of h.1)) ?_
    have h := And.right h
    refine WP.blk (pc' := 23) (L' := [vr 10 0, vi l1]) (st' := [vi (-1), vi (I 81 0 (l1 - l1 / (10 : Int32) * (10 : Int32)).toNatClampNeg)]) (h' := (101, I, J, R0 b)) 1 rfl ?_
    refine WP.icmp_ne (t := 29) (L' := [vr 10 0, vi l1]) rfl rfl rfl rfl h (fun h => ?_) (fun h => ?_)
    · refine WP.blk (pc' := 35) (L' := [vr 10 0, vi l1]) (st' := [vi 0, vi (l1 / (10 : Int32)), vr 10 0]) (h' := (101, I, J, R0 b)) 5 rfl ?_
      refine WP.cal (y' := 181) (as := [vr 10 0, vi (l1 / (10 : Int32)), vi 0]) (L' := [vr 10 0, vi l1]) (rest := []) rfl (fun f r h' hf => callV_ok hf rfl rfl rfl) h ?_
      rintro _ _ ⟨x1, I2, J3, rfl, rfl, h⟩
      refine WP.if_lt (t := 53) (L' := [vr 10 0, vi l1]) rfl rfl rfl rfl h (fun h => ?_) (fun h => ?_)
      · refine WP.blk (pc' := 55) (L' := [vn, vn]) (st' := [vi (-12)]) (h' := (101, I2, J3, R0 b)) 1 rfl ?_
        exact WP.ret rfl rfl h
      · refine WP.blk (pc' := 47) (L' := [vr 10 0, vi l1]) (st' := [vi 1, vi (l1 - l1 / (10 : Int32) * (10 : Int32)), vr 10 0]) (h' := (101, I2, J3, R0 b)) 5 rfl ?_
        refine WP.cal (y' := 181) (as := [vr 10 0, vi (l1 - l1 / (10 : Int32) * (10 : Int32)), vi 1]) (L' := [vr 10 0, vi l1]) (rest := []) rfl (fun f r h' hf => callV_ok hf rfl rfl rfl) h ?_
        rintro _ _ ⟨x4, I5, J6, rfl, rfl, h⟩
        refine WP.if_ge (t := 56) (L' := [vr 10 0, vi l1]) rfl rfl rfl rfl h (fun h => ?_) (fun h => ?_)
        · refine WP.blk (pc' := 61) (L' := [vr 10 0, vi l1]) (st' := [vi (l1 / (10 : Int32)), vr 10 0]) (h' := (101, I5, J6, R0 b)) 4 rfl ?_
          refine WP.cal (y' := 183) (as := [vr 10 0, vi (l1 / (10 : Int32))]) (L' := [vr 10 0, vi l1]) (rest := []) rfl (fun f r h' hf => callV_ok hf rfl rfl rfl) h ?_
          rintro _ _ ⟨I8, J9, rfl, rfl, h⟩
          refine WP.blk (pc' := 65) (L' := [vr 10 0, vi l1]) (st' := [vi 0]) (h' := (101, I8, J9, R0 b)) 1 rfl ?_
          exact WP.ret rfl rfl h
        · refine WP.blk (pc' := 55) (L' := [vn, vn]) (st' := [vi (-12)]) (h' := (101, I5, J6, R0 b)) 1 rfl ?_
          exact WP.ret rfl rfl h
    · refine WP.blk (pc' := 28) (L' := [vn, vn]) (st' := [vi (-11)]) (h' := (101, I, J, R0 b)) 1 rfl ?_
      exact WP.ret rfl rfl h
set_option maxRecDepth 20000 in
theorem t_X10_judge {D : Nat} (l1 : Int32) (I : IM) (J : JM) (b : Bool) {Q : Option AV → AH → Prop} (h : (Call D 205 [vi l1] (101, I, J, R0 b) (RIf b fun x1 I2 J3 => (if ¬ x1 = 0 then (Call D 206 [vr 10 0, vi l1] (101, I2, J3, R0 b) (RIf b fun x4 I5 J6 => (if 0 ≤ x4 then (Call D 185 [vr 10 0] (101, I5, J6, R0 b) (RVf b fun I8 J9 => (Call D 204 [vr 10 0, vi (l1 - l1 / (10 : Int32) * (10 : Int32))] (101, I8, J9, R0 b) (RIf b fun x10 I11 J12 => Q (some (vi x10)) (101, I11, J12, R0 b))))) else Q (some (vi x4)) (101, I5, J6, R0 b)))) else Q (some (vi (-1))) (101, I2, J3, R0 b))))) : Call (D + 1) 207 [vr 10 0, vi l1] (101, I, J, R0 b) Q := by
  refine Call.of rfl ?_
  show WP D 207 0 [vr 10 0, vi l1, vn] [] (101, I, J, R0 b) Q
  refine WP.blk (pc' := 1) (L' := [vr 10 0, vi l1, vn]) (st' := [vi l1]) (h' := (101, I, J, R0 b)) 1 rfl ?_
  refine WP.cal (y' := 205) (as := [vi l1]) (L' := [vr 10 0, vi l1, vn]) (rest := []) rfl (fun f r h' hf => callS_ok hf rfl rfl rfl) h ?_
  rintro _ _ ⟨x1, I2, J3, rfl, rfl, h⟩
  refine WP.if_ne (t := 9) (L' := [vr 10 0, vi l1, vn]) rfl rfl rfl rfl h (fun h => ?_) (fun h => ?_)
  · refine WP.blk (pc' := 11) (L' := [vr 10 0, vi l1, vn]) (st' := [vi l1, vr 10 0]) (h' := (101, I2, J3, R0 b)) 2 rfl ?_
    refine WP.cal (y' := 206) (as := [vr 10 0, vi l1]) (L' := [vr 10 0, vi l1, vn]) (rest := []) rfl (fun f r h' hf => callV_ok hf rfl rfl rfl) h ?_
    rintro _ _ ⟨x4, I5, J6, rfl, rfl, h⟩
    refine WP.blk (pc' := 16) (L' := [vr 10 0, vi l1, vi x4]) (st' := [vi x4]) (h' := (101, I5, J6, R0 b)) 2 rfl ?_
    refine WP.if_ge (t := 21) (L' := [vr 10 0, vi l1, vi x4]) rfl rfl rfl rfl h (fun h => ?_) (fun h => ?_)
    · refine WP.blk (pc' := 22) (L' := [vr 10 0, vi l1, vi x4]) (st' := [vr 10 0]) (h' := (101, I5, J6, R0 b)) 1 rfl ?_
      refine WP.cal (y' := 185) (as := [vr 10 0]) (L' := [vr 10 0, vi l1, vi x4]) (rest := []) rfl (fun f r h' hf => callV_ok hf rfl rfl rfl) h ?_
      rintro _ _ ⟨I8, J9, rfl, rfl, h⟩
      refine WP.blk (pc' := 30) (L' := [vr 10 0, vi l1, vi x4]) (st' := [vi (l1 - l1 / (10 : Int32) * (10 : Int32)), vr 10 0]) (h' := (101, I8, J9, R0 b)) 4 rfl ?_
      refine WP.cal (y' := 204) (as := [vr 10 0, vi (l1 - l1 / (10 : Int32) * (10 : Int32))]) (L' := [vr 10 0, vi l1, vi x4]) (rest := []) rfl (fun f r h' hf => callV_ok hf rfl rfl rfl) h ?_
      rintro _ _ ⟨x10, I11, J12, rfl, rfl, h⟩
      exact WP.ret rfl rfl h
    · refine WP.blk (pc' := 20) (L' := [vr 10 0, vi l1, vi x4]) (st' := [vi x4]) (h' := (101, I5, J6, R0 b)) 1 rfl ?_
      exact WP.ret rfl rfl h
  · refine WP.blk (pc' := 8) (L' := [vr 10 0, vi l1, vn]) (st' := [vi (-1)]) (h' := (101, I2, J3, R0 b)) 1 rfl ?_
    exact WP.ret rfl rfl h
set_option maxRecDepth 20000 in
theorem t_X10_which {D : Nat} (l1 : Int32) (l2 : Int32) (I : IM) (J : JM) (b : Bool) {Q : Option AV → AH → Prop} (h : (Call D 237 [vi l1] (101, I, J, R0 b) (RIf b fun x1 I2 J3 => (if x1 = 0 then Q (some (vi (-1))) (101, I2, J3, R0 b) else (Call D 135 [vi l2, vi 0, vi 1] (101, I2, J3, R0 b) (RIf b fun x4 I5 J6 => (if ¬ x4 = 0 then (Call D 181 [vr 10 0, vi l1, vi 1] (101, I5, J6, R0 b) (RIf b fun x7 I8 J9 => (if 0 ≤ x7 then (Call D 192 [vr 10 0, vi l1] (101, I8, J9, R0 b) (RVf b fun I11 J12 => (if ¬ l2 = 0 then WP D 208 53 [vr 10 0, vn, vn, vi 0, vi 0] [] (101, I11, J12, R0 b) Q else Q (some (vi (I11 10 0 53))) (101, I11, J12, R0 b)))) else (Call D 181 [vr 10 0, vi l1, vi 1] (101, I8, J9, R0 b) (RIf b fun x13 I14 J15 => Q (some (vi x13)) (101, I14, J15, R0 b)))))) else Q (some (vi (-1))) (101, I5, J6, R0 b)))))))) : Call (D + 1) 208 [vr 10 0, vi l1, vi l2] (101, I, J, R0 b) Q := by
  refine Call.of rfl ?_
  show WP D 208 0 [vr 10 0, vi l1, vi l2, vn, vn] [] (101, I, J, R0 b) Q
  refine WP.blk (pc' := 1) (L' := [vr 10 0, vi l1, vi l2, vn, vn]) (st' := [vi l1]) (h' := (101, I, J, R0 b)) 1 rfl ?_
  refine WP.cal (y' := 237) (as := [vi l1]) (L' := [vr 10 0, vi l1, vi l2, vn, vn]) (rest := []) rfl (fun f r h' hf => callS_ok hf rfl rfl rfl) h ?_
  rintro _ _ ⟨x1, I2, J3, rfl, rfl, h⟩
  refine WP.if_eq (t := 16) (L' := [vr 10 0, vi l1, vi l2, vn, vn]) rfl rfl rfl rfl h (fun h => ?_) (fun h => ?_)
  · refine WP.blk (pc' := 17) (L' := [vn, vn, vn, vn, vn]) (st' := [vi (-1)]) (h' := (101, I2, J3, R0 b)) 1 rfl ?_
    exact WP.ret rfl rfl h
  · refine WP.blk (pc' := 10) (L' := [vr 10 0, vi l1, vi l2, vn, vn]) (st' := [vi 1, vi 0, vi l2]) (h' := (101, I2, J3, R0 b)) 3 rfl ?_
    refine WP.cal (y' := 135) (as := [vi l2, vi 0, vi 1]) (L' := [vr 10 0, vi l1, vi l2, vn, vn]) (rest := []) rfl (fun f r h' hf => callS_ok hf rfl rfl rfl) h ?_
    rintro _ _ ⟨x4, I5, J6, rfl, rfl, h⟩
    refine WP.if_ne (t := 18) (L' := [vr 10 0, vi l1, vi l2, vn, vn]) rfl rfl rfl rfl h (fun h => ?_) (fun h => ?_)
    · refine WP.blk (pc' := 21) (L' := [vr 10 0, vi l1, vi l2, vn, vn]) (st' := [vi 1, vi l1, vr 10 0]) (h' := (101, I5, J6, R0 b)) 3 rfl ?_
      refine WP.cal (y' := 181) (as := [vr 10 0, vi l1, vi 1]) (L' := [vr 10 0, vi l1, vi l2, vn, vn]) (rest := []) rfl (fun f r h' hf => callV_ok hf rfl rfl rfl) h ?_
      rintro _ _ ⟨x7, I8, J9, rfl, rfl, h⟩
      refine WP.if_ge (t := 34) (L' := [vr 10 0, vi l1, vi l2, vn, vn]) rfl rfl rfl rfl h (fun h => ?_) (fun h => ?_)
      · refine WP.blk (pc' := 36) (L' := [vr 10 0, vi l1, vi l2, vn, vn]) (st' := [vi l1, vr 10 0]) (h' := (101, I8, J9, R0 b)) 2 rfl ?_
        refine WP.cal (y' := 192) (as := [vr 10 0, vi l1]) (L' := [vr 10 0, vi l1, vi l2, vn, vn]) (rest := []) rfl (fun f r h' hf => callV_ok hf rfl rfl rfl) h ?_
        rintro _ _ ⟨I11, J12, rfl, rfl, h⟩
        refine WP.blk (pc' := 40) (L' := [vr 10 0, vi l1, vi l2, vn, vn]) (st' := [vi l2]) (h' := (101, I11, J12, R0 b)) 1 rfl ?_
        refine WP.if_ne (t := 48) (L' := [vr 10 0, vi l1, vi l2, vn, vn]) rfl rfl rfl rfl h (fun h => ?_) (fun h => ?_)
        · refine WP.blk (pc' := 53) (L' := [vr 10 0, vi l1, vi l2, vi 0, vi 0]) (st' := []) (h' := (101, I11, J12, R0 b)) 4 rfl ?_
          exact WP.mask rfl rfl h
        · refine WP.blk (pc' := 47) (L' := [vr 10 0, vi l1, vi l2, vn, vn]) (st' := [vi (I11 10 0 53)]) (h' := (101, I11, J12, R0 b)) 2 rfl ?_
          exact WP.ret rfl rfl h
      · refine WP.blk (pc' := 30) (L' := [vr 10 0, vi l1, vi l2, vn, vn]) (st' := [vi 1, vi l1, vr 10 0]) (h' := (101, I8, J9, R0 b)) 3 rfl ?_
        refine WP.cal (y' := 181) (as := [vr 10 0, vi l1, vi 1]) (L' := [vr 10 0, vi l1, vi l2, vn, vn]) (rest := []) rfl (fun f r h' hf => callV_ok hf rfl rfl rfl) h ?_
        rintro _ _ ⟨x13, I14, J15, rfl, rfl, h⟩
        exact WP.ret rfl rfl h
    · refine WP.blk (pc' := 17) (L' := [vn, vn, vn, vn, vn]) (st' := [vi (-1)]) (h' := (101, I5, J6, R0 b)) 1 rfl ?_
      exact WP.ret rfl rfl h
set_option maxRecDepth 20000 in
theorem t_X10_which_53 {D : Nat} (l3 : Int32) (l4 : Int32) (I : IM) (J : JM) (b : Bool) {Q : Option AV → AH → Prop} (h : (if (I 10 0 1) ≤ l4 then (if ¬ (I 10 0 53) = 0 then Q (some (vi l3)) (101, I, J, R0 b) else Q (some (vi (-2))) (101, I, J, R0 b)) else (vp_in l4 7 ∧ WP D 208 53 [vr 10 0, vn, vn, vi (((10 : Int32) * l3) + (I 70 0 l4.toNatClampNeg)), vi (l4 + 1)] [] (101, I, J, R0 b) Q))) : WP D 208 53 [vr 10 0, vn, vn, vi l3, vi l4] [] (101, I, J, R0 b) Q := by
  refine WP.blk (pc' := 59) (L' := [vr 10 0, vn, vn, vi l3, vi l4]) (st' := [vi (I 10 0 1), vi l4]) (h' := (101, I, J, R0 b)) 3 rfl ?_
  refine WP.icmp_ge (t := 81) (L' := [vr 10 0, vn, vn, vi l3, vi l4]) rfl rfl rfl rfl h (fun h => ?_) (fun h => ?_)
  · refine WP.blk (pc' := 85) (L' := [vr 10 0, vn, vn, vi l3, vi l4]) (st' := [vi (I 10 0 53)]) (h' := (101, I, J, R0 b)) 2 rfl ?_
    refine WP.if_ne (t := 93) (L' := [vr 10 0, vn, vn, vi l3, vi l4]) rfl rfl rfl rfl h (fun h => ?_) (fun h => ?_)
    · refine WP.blk (pc' := 94) (L' := [vr 10 0, vn, vn, vi l3, vi l4]) (st' := [vi l3]) (h' := (101, I, J, R0 b)) 1 rfl ?_
      exact WP.ret rfl rfl h
    · refine WP.blk (pc' := 94) (L' := [vr 10 0, vn, vn, vi l3, vi l4]) (st' := [vi (-2)]) (h' := (101, I, J, R0 b)) 2 rfl ?_
      exact WP.ret rfl rfl h
  · refine WP.blk (pc' := 72) (L' := [vr 10 0, vn, vn, vi l3, vi l4]) (st' := [vi l4, vr 70 0, vi ((10 : Int32) * l3)]) (h' := (101, I, J, R0 b)) 6 rfl ?_
    refine WP.step (pc' := 73) (L' := [vr 10 0, vn, vn, vi l3, vi l4]) (st' := [vi (I 70 0 l4.toNatClampNeg), vi ((10 : Int32) * l3)]) (h' := (101, I, J, R0 b)) rfl (iaload_ok (n := 7) rfl rfl rfl (inA_of h.1)) ?_
    have h := And.right h
    refine WP.blk (pc' := 53) (L' := [vr 10 0, vn, vn, vi (((10 : Int32) * l3) + (I 70 0 l4.toNatClampNeg)), vi (l4 + 1)]) (st' := []) (h' := (101, I, J, R0 b)) 4 rfl ?_
    exact WP.mask rfl rfl h
