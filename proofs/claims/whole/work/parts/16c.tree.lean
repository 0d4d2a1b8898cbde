/-! TREES, by program (wip/whole/gen16.py): what each method does between its cuts -/
set_option maxRecDepth 20000 in
theorem t_X3_add {D : Nat} (l1 : Int32) (I : IM) (J : JM) (b : Bool) {Q : Option AV → AH → Prop} (h : (if (I 3 0 10) < (120 : Int32) then (vp_in (I 3 0 10) 120 ∧ Q (some (vi 1)) (101, (updI (updI I 24 0 (I 3 0 10).toNatClampNeg l1) 3 0 10 ((I 3 0 10) + (1 : Int32))), J, R0 b)) else Q (some (vi 0)) (101, I, J, R0 b))) : Call (D + 1) 19 [vr 3 0, vi l1] (101, I, J, R0 b) Q := by
  refine Call.of rfl ?_
  show WP D 19 0 [vr 3 0, vi l1] [] (101, I, J, R0 b) Q
  refine WP.blk (pc' := 6) (L' := [vr 3 0, vi l1]) (st' := [vi 120, vi (I 3 0 10)]) (h' := (101, I, J, R0 b)) 3 rfl ?_
  refine WP.icmp_lt (t := 11) (L' := [vr 3 0, vi l1]) rfl rfl rfl rfl h (fun h => ?_) (fun h => ?_)
  · refine WP.blk (pc' := 20) (L' := [vr 3 0, vi l1]) (st' := [vi l1, vi (I 3 0 10), vr 24 0]) (h' := (101, I, J, R0 b)) 5 rfl ?_
    refine WP.step (pc' := 21) (L' := [vr 3 0, vi l1]) (st' := []) (h' := (101, (updI I 24 0 (I 3 0 10).toNatClampNeg l1), J, R0 b)) rfl (iastore_ok (n := 120) rfl rfl rfl (inA_of h.1)) ?_
    have h := And.right h
    refine WP.blk (pc' := 32) (L' := [vr 3 0, vi l1]) (st' := [vi 1]) (h' := (101, (updI (updI I 24 0 (I 3 0 10).toNatClampNeg l1) 3 0 10 ((I 3 0 10) + (1 : Int32))), J, R0 b)) 7 rfl ?_
    exact WP.ret rfl rfl h
  · refine WP.blk (pc' := 10) (L' := [vr 3 0, vi l1]) (st' := [vi 0]) (h' := (101, I, J, R0 b)) 1 rfl ?_
    exact WP.ret rfl rfl h
set_option maxRecDepth 20000 in
theorem t_X3_take_f {D : Nat}  (I : IM) (J : JM) {Q : Option AV → AH → Prop} (h : (Call D 24 [vr 3 0] (101, (updI (updI (updI I 3 0 8 0) 3 0 9 (-1)) 3 0 7 0), J, R0 false) (RVf false fun I2 J3 => WP D 20 21 [vr 3 0, vi 0] [] (101, I2, J3, R0 false) Q))) : Call (D + 1) 20 [vr 3 0] (101, I, J, R0 false) Q := by
  refine Call.of rfl ?_
  show WP D 20 0 [vr 3 0, vn] [] (101, I, J, R0 false) Q
  refine WP.blk (pc' := 16) (L' := [vr 3 0, vn]) (st' := [vr 3 0]) (h' := (101, (updI (updI (updI I 3 0 8 0) 3 0 9 (-1)) 3 0 7 0), J, R0 false)) 10 rfl ?_
  refine WP.cal (y' := 24) (as := [vr 3 0]) (L' := [vr 3 0, vn]) (rest := []) rfl (fun f r h' hf => callV_ok hf rfl rfl rfl) h ?_
  rintro _ _ ⟨I2, J3, rfl, rfl, h⟩
  refine WP.blk (pc' := 21) (L' := [vr 3 0, vi 0]) (st' := []) (h' := (101, I2, J3, R0 false)) 2 rfl ?_
  exact WP.mask rfl rfl h
set_option maxRecDepth 20000 in
theorem t_X3_take_f_21 {D : Nat} (l1 : Int32) (I : IM) (J : JM) {Q : Option AV → AH → Prop} (h : (if (120 : Int32) ≤ l1 then (if (I 3 0 10) ≤ (I 3 0 8) then (if 0 ≤ (I 3 0 9) then Q (some (vi (I 3 0 9))) (101, (updI I 3 0 10 0), J, R0 false) else Q (some (vi (I 3 0 9))) (101, (updI (updI I 3 0 10 0) 3 0 6 (I 3 0 7)), J, (updR (updR (R0 false) 3 0 4 (some (28, 0))) 3 0 5 (some (27, 0))))) else (Call D 22 [vr 3 0] (101, I, J, R0 false) (RVf false fun I5 J6 => (if 0 ≤ (I5 3 0 9) then Q (some (vi (I5 3 0 9))) (101, (updI I5 3 0 10 0), J6, R0 false) else Q (some (vi (I5 3 0 9))) (101, (updI (updI I5 3 0 10 0) 3 0 6 (I5 3 0 7)), J6, (updR (updR (R0 false) 3 0 4 (some (28, 0))) 3 0 5 (some (27, 0)))))))) else (Call D 21 [vr 3 0] (101, I, J, R0 false) (RIf false fun x7 I8 J9 => (if ¬ x7 = (59 : Int32) then (if (I8 3 0 10) ≤ (I8 3 0 8) then (if 0 ≤ (I8 3 0 9) then Q (some (vi (I8 3 0 9))) (101, (updI I8 3 0 10 0), J9, R0 false) else Q (some (vi (I8 3 0 9))) (101, (updI (updI I8 3 0 10 0) 3 0 6 (I8 3 0 7)), J9, (updR (updR (R0 false) 3 0 4 (some (28, 0))) 3 0 5 (some (27, 0))))) else (Call D 22 [vr 3 0] (101, I8, J9, R0 false) (RVf false fun I11 J12 => (if 0 ≤ (I11 3 0 9) then Q (some (vi (I11 3 0 9))) (101, (updI I11 3 0 10 0), J12, R0 false) else Q (some (vi (I11 3 0 9))) (101, (updI (updI I11 3 0 10 0) 3 0 6 (I11 3 0 7)), J12, (updR (updR (R0 false) 3 0 4 (some (28, 0))) 3 0 5 (some (27, 0)))))))) else (Call D 24 [vr 3 0] (101, (updI I8 3 0 8 ((I8 3 0 8) + (1 : Int32))), J9, R0 false) (RVf false fun I14 J15 => WP D 20 21 [vr 3 0, vi (l1 + 1)] [] (101, I14, J15, R0 false) Q))))))) : WP D 20 21 [vr 3 0, vi l1] [] (101, I, J, R0 false) Q := by
  refine WP.blk (pc' := 24) (L' := [vr 3 0, vi l1]) (st' := [vi 120, vi l1]) (h' := (101, I, J, R0 false)) 2 rfl ?_
  refine WP.icmp_ge (t := 56) (L' := [vr 3 0, vi l1]) rfl rfl rfl rfl h (fun h => ?_) (fun h => ?_)
  · refine WP.blk (pc' := 64) (L' := [vr 3 0, vn]) (st' := [vi (I 3 0 10), vi (I 3 0 8)]) (h' := (101, I, J, R0 false)) 4 rfl ?_
    refine WP.icmp_ge (t := 71) (L' := [vr 3 0, vn]) rfl rfl rfl rfl h (fun h => ?_) (fun h => ?_)
    · refine WP.blk (pc' := 80) (L' := [vr 3 0, vn]) (st' := [vi (I 3 0 9)]) (h' := (101, (updI I 3 0 10 0), J, R0 false)) 5 rfl ?_
      refine WP.if_ge (t := 109) (L' := [vr 3 0, vn]) rfl rfl rfl rfl h (fun h => ?_) (fun h => ?_)
      · refine WP.blk (pc' := 113) (L' := [vr 3 0, vn]) (st' := [vi (I 3 0 9)]) (h' := (101, (updI I 3 0 10 0), J, R0 false)) 2 rfl ?_
        exact WP.ret rfl rfl h
      · refine WP.blk (pc' := 113) (L' := [vr 3 0, vn]) (st' := [vi (I 3 0 9)]) (h' := (101, (updI (updI I 3 0 10 0) 3 0 6 (I 3 0 7)), J, (updR (updR (R0 false) 3 0 4 (some (28, 0))) 3 0 5 (some (27, 0))))) 16 rfl ?_
        exact WP.ret rfl rfl h
    · refine WP.blk (pc' := 68) (L' := [vr 3 0, vn]) (st' := [vr 3 0]) (h' := (101, I, J, R0 false)) 1 rfl ?_
      refine WP.cal (y' := 22) (as := [vr 3 0]) (L' := [vr 3 0, vn]) (rest := []) rfl (fun f r h' hf => callV_ok hf rfl rfl rfl) h ?_
      rintro _ _ ⟨I5, J6, rfl, rfl, h⟩
      refine WP.blk (pc' := 80) (L' := [vr 3 0, vn]) (st' := [vi (I5 3 0 9)]) (h' := (101, (updI I5 3 0 10 0), J6, R0 false)) 5 rfl ?_
      refine WP.if_ge (t := 109) (L' := [vr 3 0, vn]) rfl rfl rfl rfl h (fun h => ?_) (fun h => ?_)
      · refine WP.blk (pc' := 113) (L' := [vr 3 0, vn]) (st' := [vi (I5 3 0 9)]) (h' := (101, (updI I5 3 0 10 0), J6, R0 false)) 2 rfl ?_
        exact WP.ret rfl rfl h
      · refine WP.blk (pc' := 113) (L' := [vr 3 0, vn]) (st' := [vi (I5 3 0 9)]) (h' := (101, (updI (updI I5 3 0 10 0) 3 0 6 (I5 3 0 7)), J6, (updR (updR (R0 false) 3 0 4 (some (28, 0))) 3 0 5 (some (27, 0))))) 16 rfl ?_
        exact WP.ret rfl rfl h
  · refine WP.blk (pc' := 28) (L' := [vr 3 0, vi l1]) (st' := [vr 3 0]) (h' := (101, I, J, R0 false)) 1 rfl ?_
    refine WP.cal (y' := 21) (as := [vr 3 0]) (L' := [vr 3 0, vi l1]) (rest := []) rfl (fun f r h' hf => callV_ok hf rfl rfl rfl) h ?_
    rintro _ _ ⟨x7, I8, J9, rfl, rfl, h⟩
    refine WP.blk (pc' := 33) (L' := [vr 3 0, vi l1]) (st' := [vi 59, vi x7]) (h' := (101, I8, J9, R0 false)) 1 rfl ?_
    refine WP.icmp_ne (t := 56) (L' := [vr 3 0, vi l1]) rfl rfl rfl rfl h (fun h => ?_) (fun h => ?_)
    · refine WP.blk (pc' := 64) (L' := [vr 3 0, vn]) (st' := [vi (I8 3 0 10), vi (I8 3 0 8)]) (h' := (101, I8, J9, R0 false)) 4 rfl ?_
      refine WP.icmp_ge (t := 71) (L' := [vr 3 0, vn]) rfl rfl rfl rfl h (fun h => ?_) (fun h => ?_)
      · refine WP.blk (pc' := 80) (L' := [vr 3 0, vn]) (st' := [vi (I8 3 0 9)]) (h' := (101, (updI I8 3 0 10 0), J9, R0 false)) 5 rfl ?_
        refine WP.if_ge (t := 109) (L' := [vr 3 0, vn]) rfl rfl rfl rfl h (fun h => ?_) (fun h => ?_)
        · refine WP.blk (pc' := 113) (L' := [vr 3 0, vn]) (st' := [vi (I8 3 0 9)]) (h' := (101, (updI I8 3 0 10 0), J9, R0 false)) 2 rfl ?_
          exact WP.ret rfl rfl h
        · refine WP.blk (pc' := 113) (L' := [vr 3 0, vn]) (st' := [vi (I8 3 0 9)]) (h' := (101, (updI (updI I8 3 0 10 0) 3 0 6 (I8 3 0 7)), J9, (updR (updR (R0 false) 3 0 4 (some (28, 0))) 3 0 5 (some (27, 0))))) 16 rfl ?_
          exact WP.ret rfl rfl h
      · refine WP.blk (pc' := 68) (L' := [vr 3 0, vn]) (st' := [vr 3 0]) (h' := (101, I8, J9, R0 false)) 1 rfl ?_
        refine WP.cal (y' := 22) (as := [vr 3 0]) (L' := [vr 3 0, vn]) (rest := []) rfl (fun f r h' hf => callV_ok hf rfl rfl rfl) h ?_
        rintro _ _ ⟨I11, J12, rfl, rfl, h⟩
        refine WP.blk (pc' := 80) (L' := [vr 3 0, vn]) (st' := [vi (I11 3 0 9)]) (h' := (101, (updI I11 3 0 10 0), J12, R0 false)) 5 rfl ?_
        refine WP.if_ge (t := 109) (L' := [vr 3 0, vn]) rfl rfl rfl rfl h (fun h => ?_) (fun h => ?_)
        · refine WP.blk (pc' := 113) (L' := [vr 3 0, vn]) (st' := [vi (I11 3 0 9)]) (h' := (101, (updI I11 3 0 10 0), J12, R0 false)) 2 rfl ?_
          exact WP.ret rfl rfl h
        · refine WP.blk (pc' := 113) (L' := [vr 3 0, vn]) (st' := [vi (I11 3 0 9)]) (h' := (101, (updI (updI I11 3 0 10 0) 3 0 6 (I11 3 0 7)), J12, (updR (updR (R0 false) 3 0 4 (some (28, 0))) 3 0 5 (some (27, 0))))) 16 rfl ?_
          exact WP.ret rfl rfl h
    · refine WP.blk (pc' := 47) (L' := [vr 3 0, vi l1]) (st' := [vr 3 0]) (h' := (101, (updI I8 3 0 8 ((I8 3 0 8) + (1 : Int32))), J9, R0 false)) 7 rfl ?_
      refine WP.cal (y' := 24) (as := [vr 3 0]) (L' := [vr 3 0, vi l1]) (rest := []) rfl (fun f r h' hf => callV_ok hf rfl rfl rfl) h ?_
      rintro _ _ ⟨I14, J15, rfl, rfl, h⟩
      refine WP.blk (pc' := 21) (L' := [vr 3 0, vi (l1 + 1)]) (st' := []) (h' := (101, I14, J15, R0 false)) 2 rfl ?_
      exact WP.mask rfl rfl h
set_option maxRecDepth 20000 in
theorem t_X3_take_t {D : Nat}  (I : IM) (J : JM) {Q : Option AV → AH → Prop} (h : (Call D 24 [vr 3 0] (101, (updI (updI (updI I 3 0 8 0) 3 0 9 (-1)) 3 0 7 0), J, R0 true) (RVf true fun I2 J3 => WP D 20 21 [vr 3 0, vi 0] [] (101, I2, J3, R0 true) Q))) : Call (D + 1) 20 [vr 3 0] (101, I, J, R0 true) Q := by
  refine Call.of rfl ?_
  show WP D 20 0 [vr 3 0, vn] [] (101, I, J, R0 true) Q
  refine WP.blk (pc' := 16) (L' := [vr 3 0, vn]) (st' := [vr 3 0]) (h' := (101, (updI (updI (updI I 3 0 8 0) 3 0 9 (-1)) 3 0 7 0), J, R0 true)) 10 rfl ?_
  refine WP.cal (y' := 24) (as := [vr 3 0]) (L' := [vr 3 0, vn]) (rest := []) rfl (fun f r h' hf => callV_ok hf rfl rfl rfl) h ?_
  rintro _ _ ⟨I2, J3, rfl, rfl, h⟩
  refine WP.blk (pc' := 21) (L' := [vr 3 0, vi 0]) (st' := []) (h' := (101, I2, J3, R0 true)) 2 rfl ?_
  exact WP.mask rfl rfl h
set_option maxRecDepth 20000 in
theorem t_X3_take_t_21 {D : Nat} (l1 : Int32) (I : IM) (J : JM) {Q : Option AV → AH → Prop} (h : (if (120 : Int32) ≤ l1 then (if (I 3 0 10) ≤ (I 3 0 8) then (if 0 ≤ (I 3 0 9) then Q (some (vi (I 3 0 9))) (101, (updI I 3 0 10 0), J, R0 true) else Q (some (vi (I 3 0 9))) (101, (updI (updI I 3 0 10 0) 3 0 6 (I 3 0 7)), J, (updR (updR (R0 true) 3 0 4 (some (27, 0))) 3 0 5 (some (28, 0))))) else (Call D 22 [vr 3 0] (101, I, J, R0 true) (RVf true fun I5 J6 => (if 0 ≤ (I5 3 0 9) then Q (some (vi (I5 3 0 9))) (101, (updI I5 3 0 10 0), J6, R0 true) else Q (some (vi (I5 3 0 9))) (101, (updI (updI I5 3 0 10 0) 3 0 6 (I5 3 0 7)), J6, (updR (updR (R0 true) 3 0 4 (some (27, 0))) 3 0 5 (some (28, 0)))))))) else (Call D 21 [vr 3 0] (101, I, J, R0 true) (RIf true fun x7 I8 J9 => (if ¬ x7 = (59 : Int32) then (if (I8 3 0 10) ≤ (I8 3 0 8) then (if 0 ≤ (I8 3 0 9) then Q (some (vi (I8 3 0 9))) (101, (updI I8 3 0 10 0), J9, R0 true) else Q (some (vi (I8 3 0 9))) (101, (updI (updI I8 3 0 10 0) 3 0 6 (I8 3 0 7)), J9, (updR (updR (R0 true) 3 0 4 (some (27, 0))) 3 0 5 (some (28, 0))))) else (Call D 22 [vr 3 0] (101, I8, J9, R0 true) (RVf true fun I11 J12 => (if 0 ≤ (I11 3 0 9) then Q (some (vi (I11 3 0 9))) (101, (updI I11 3 0 10 0), J12, R0 true) else Q (some (vi (I11 3 0 9))) (101, (updI (updI I11 3 0 10 0) 3 0 6 (I11 3 0 7)), J12, (updR (updR (R0 true) 3 0 4 (some (27, 0))) 3 0 5 (some (28, 0)))))))) else (Call D 24 [vr 3 0] (101, (updI I8 3 0 8 ((I8 3 0 8) + (1 : Int32))), J9, R0 true) (RVf true fun I14 J15 => WP D 20 21 [vr 3 0, vi (l1 + 1)] [] (101, I14, J15, R0 true) Q))))))) : WP D 20 21 [vr 3 0, vi l1] [] (101, I, J, R0 true) Q := by
  refine WP.blk (pc' := 24) (L' := [vr 3 0, vi l1]) (st' := [vi 120, vi l1]) (h' := (101, I, J, R0 true)) 2 rfl ?_
  refine WP.icmp_ge (t := 56) (L' := [vr 3 0, vi l1]) rfl rfl rfl rfl h (fun h => ?_) (fun h => ?_)
  · refine WP.blk (pc' := 64) (L' := [vr 3 0, vn]) (st' := [vi (I 3 0 10), vi (I 3 0 8)]) (h' := (101, I, J, R0 true)) 4 rfl ?_
    refine WP.icmp_ge (t := 71) (L' := [vr 3 0, vn]) rfl rfl rfl rfl h (fun h => ?_) (fun h => ?_)
    · refine WP.blk (pc' := 80) (L' := [vr 3 0, vn]) (st' := [vi (I 3 0 9)]) (h' := (101, (updI I 3 0 10 0), J, R0 true)) 5 rfl ?_
      refine WP.if_ge (t := 109) (L' := [vr 3 0, vn]) rfl rfl rfl rfl h (fun h => ?_) (fun h => ?_)
      · refine WP.blk (pc' := 113) (L' := [vr 3 0, vn]) (st' := [vi (I 3 0 9)]) (h' := (101, (updI I 3 0 10 0), J, R0 true)) 2 rfl ?_
        exact WP.ret rfl rfl h
      · refine WP.blk (pc' := 113) (L' := [vr 3 0, vn]) (st' := [vi (I 3 0 9)]) (h' := (101, (updI (updI I 3 0 10 0) 3 0 6 (I 3 0 7)), J, (updR (updR (R0 true) 3 0 4 (some (27, 0))) 3 0 5 (some (28, 0))))) 16 rfl ?_
        exact WP.ret rfl rfl h
    · refine WP.blk (pc' := 68) (L' := [vr 3 0, vn]) (st' := [vr 3 0]) (h' := (101, I, J, R0 true)) 1 rfl ?_
      refine WP.cal (y' := 22) (as := [vr 3 0]) (L' := [vr 3 0, vn]) (rest := []) rfl (fun f r h' hf => callV_ok hf rfl rfl rfl) h ?_
      rintro _ _ ⟨I5, J6, rfl, rfl, h⟩
      refine WP.blk (pc' := 80) (L' := [vr 3 0, vn]) (st' := [vi (I5 3 0 9)]) (h' := (101, (updI I5 3 0 10 0), J6, R0 true)) 5 rfl ?_
      refine WP.if_ge (t := 109) (L' := [vr 3 0, vn]) rfl rfl rfl rfl h (fun h => ?_) (fun h => ?_)
      · refine WP.blk (pc' := 113) (L' := [vr 3 0, vn]) (st' := [vi (I5 3 0 9)]) (h' := (101, (updI I5 3 0 10 0), J6, R0 true)) 2 rfl ?_
        exact WP.ret rfl rfl h
      · refine WP.blk (pc' := 113) (L' := [vr 3 0, vn]) (st' := [vi (I5 3 0 9)]) (h' := (101, (updI (updI I5 3 0 10 0) 3 0 6 (I5 3 0 7)), J6, (updR (updR (R0 true) 3 0 4 (some (27, 0))) 3 0 5 (some (28, 0))))) 16 rfl ?_
        exact WP.ret rfl rfl h
  · refine WP.blk (pc' := 28) (L' := [vr 3 0, vi l1]) (st' := [vr 3 0]) (h' := (101, I, J, R0 true)) 1 rfl ?_
    refine WP.cal (y' := 21) (as := [vr 3 0]) (L' := [vr 3 0, vi l1]) (rest := []) rfl (fun f r h' hf => callV_ok hf rfl rfl rfl) h ?_
    rintro _ _ ⟨x7, I8, J9, rfl, rfl, h⟩
    refine WP.blk (pc' := 33) (L' := [vr 3 0, vi l1]) (st' := [vi 59, vi x7]) (h' := (101, I8, J9, R0 true)) 1 rfl ?_
    refine WP.icmp_ne (t := 56) (L' := [vr 3 0, vi l1]) rfl rfl rfl rfl h (fun h => ?_) (fun h => ?_)
    · refine WP.blk (pc' := 64) (L' := [vr 3 0, vn]) (st' := [vi (I8 3 0 10), vi (I8 3 0 8)]) (h' := (101, I8, J9, R0 true)) 4 rfl ?_
      refine WP.icmp_ge (t := 71) (L' := [vr 3 0, vn]) rfl rfl rfl rfl h (fun h => ?_) (fun h => ?_)
      · refine WP.blk (pc' := 80) (L' := [vr 3 0, vn]) (st' := [vi (I8 3 0 9)]) (h' := (101, (updI I8 3 0 10 0), J9, R0 true)) 5 rfl ?_
        refine WP.if_ge (t := 109) (L' := [vr 3 0, vn]) rfl rfl rfl rfl h (fun h => ?_) (fun h => ?_)
        · refine WP.blk (pc' := 113) (L' := [vr 3 0, vn]) (st' := [vi (I8 3 0 9)]) (h' := (101, (updI I8 3 0 10 0), J9, R0 true)) 2 rfl ?_
          exact WP.ret rfl rfl h
        · refine WP.blk (pc' := 113) (L' := [vr 3 0, vn]) (st' := [vi (I8 3 0 9)]) (h' := (101, (updI (updI I8 3 0 10 0) 3 0 6 (I8 3 0 7)), J9, (updR (updR (R0 true) 3 0 4 (some (27, 0))) 3 0 5 (some (28, 0))))) 16 rfl ?_
          exact WP.ret rfl rfl h
      · refine WP.blk (pc' := 68) (L' := [vr 3 0, vn]) (st' := [vr 3 0]) (h' := (101, I8, J9, R0 true)) 1 rfl ?_
        refine WP.cal (y' := 22) (as := [vr 3 0]) (L' := [vr 3 0, vn]) (rest := []) rfl (fun f r h' hf => callV_ok hf rfl rfl rfl) h ?_
        rintro _ _ ⟨I11, J12, rfl, rfl, h⟩
        refine WP.blk (pc' := 80) (L' := [vr 3 0, vn]) (st' := [vi (I11 3 0 9)]) (h' := (101, (updI I11 3 0 10 0), J12, R0 true)) 5 rfl ?_
        refine WP.if_ge (t := 109) (L' := [vr 3 0, vn]) rfl rfl rfl rfl h (fun h => ?_) (fun h => ?_)
        · refine WP.blk (pc' := 113) (L' := [vr 3 0, vn]) (st' := [vi (I11 3 0 9)]) (h' := (101, (updI I11 3 0 10 0), J12, R0 true)) 2 rfl ?_
          exact WP.ret rfl rfl h
        · refine WP.blk (pc' := 113) (L' := [vr 3 0, vn]) (st' := [vi (I11 3 0 9)]) (h' := (101, (updI (updI I11 3 0 10 0) 3 0 6 (I11 3 0 7)), J12, (updR (updR (R0 true) 3 0 4 (some (27, 0))) 3 0 5 (some (28, 0))))) 16 rfl ?_
          exact WP.ret rfl rfl h
    · refine WP.blk (pc' := 47) (L' := [vr 3 0, vi l1]) (st' := [vr 3 0]) (h' := (101, (updI I8 3 0 8 ((I8 3 0 8) + (1 : Int32))), J9, R0 true)) 7 rfl ?_
      refine WP.cal (y' := 24) (as := [vr 3 0]) (L' := [vr 3 0, vi l1]) (rest := []) rfl (fun f r h' hf => callV_ok hf rfl rfl rfl) h ?_
      rintro _ _ ⟨I14, J15, rfl, rfl, h⟩
      refine WP.blk (pc' := 21) (L' := [vr 3 0, vi (l1 + 1)]) (st' := []) (h' := (101, I14, J15, R0 true)) 2 rfl ?_
      exact WP.mask rfl rfl h
set_option maxRecDepth 20000 in
theorem t_X3_next {D : Nat}  (I : IM) (J : JM) (b : Bool) {Q : Option AV → AH → Prop} (h : (if 0 ≤ (I 3 0 9) then Q (some (vi (-1))) (101, I, J, R0 b) else (if (I 3 0 10) ≤ (I 3 0 8) then Q (some (vi (-1))) (101, I, J, R0 b) else (vp_in (I 3 0 8) 120 ∧ Q (some (vi (I 24 0 (I 3 0 8).toNatClampNeg))) (101, I, J, R0 b))))) : Call (D + 1) 21 [vr 3 0] (101, I, J, R0 b) Q := by
  refine Call.of rfl ?_
  show WP D 21 0 [vr 3 0] [] (101, I, J, R0 b) Q
  refine WP.blk (pc' := 4) (L' := [vr 3 0]) (st' := [vi (I 3 0 9)]) (h' := (101, I, J, R0 b)) 2 rfl ?_
  refine WP.if_ge (t := 30) (L' := [vr 3 0]) rfl rfl rfl rfl h (fun h => ?_) (fun h => ?_)
  · refine WP.blk (pc' := 31) (L' := [vn]) (st' := [vi (-1)]) (h' := (101, I, J, R0 b)) 1 rfl ?_
    exact WP.ret rfl rfl h
  · refine WP.blk (pc' := 15) (L' := [vr 3 0]) (st' := [vi (I 3 0 10), vi (I 3 0 8)]) (h' := (101, I, J, R0 b)) 4 rfl ?_
    refine WP.icmp_ge (t := 30) (L' := [vr 3 0]) rfl rfl rfl rfl h (fun h => ?_) (fun h => ?_)
    · refine WP.blk (pc' := 31) (L' := [vn]) (st' := [vi (-1)]) (h' := (101, I, J, R0 b)) 1 rfl ?_
      exact WP.ret rfl rfl h
    · refine WP.blk (pc' := 26) (L' := [vr 3 0]) (st' := [vi (I 3 0 8), vr 24 0]) (h' := (101, I, J, R0 b)) 4 rfl ?_
      refine WP.step (pc' := 27) (L' := [vr 3 0]) (st' := [vi (I 24 0 (I 3 0 8).toNatClampNeg)]) (h' := (101, I, J, R0 b)) rfl (iaload_ok (n := 120) rfl rfl rfl (inA_of h.1)) ?_
      have h := And.right h
      refine WP.blk (pc' := 31) (L' := [vr 3 0]) (st' := [vi (I 24 0 (I 3 0 8).toNatClampNeg)]) (h' := (101, I, J, R0 b)) 1 rfl ?_
      exact WP.ret rfl rfl h
set_option maxRecDepth 20000 in
theorem t_X3_fail {D : Nat}  (I : IM) (J : JM) (b : Bool) {Q : Option AV → AH → Prop} (h : (if 0 ≤ (I 3 0 9) then Q none (101, I, J, R0 b) else Q none (101, (updI I 3 0 9 (I 3 0 8)), J, R0 b))) : Call (D + 1) 22 [vr 3 0] (101, I, J, R0 b) Q := by
  refine Call.of rfl ?_
  show WP D 22 0 [vr 3 0] [] (101, I, J, R0 b) Q
  refine WP.blk (pc' := 4) (L' := [vr 3 0]) (st' := [vi (I 3 0 9)]) (h' := (101, I, J, R0 b)) 2 rfl ?_
  refine WP.if_ge (t := 15) (L' := [vr 3 0]) rfl rfl rfl rfl h (fun h => ?_) (fun h => ?_)
  · exact WP.ret rfl rfl h
  · refine WP.blk (pc' := 15) (L' := [vr 3 0]) (st' := []) (h' := (101, (updI I 3 0 9 (I 3 0 8)), J, R0 b)) 4 rfl ?_
    exact WP.ret rfl rfl h
set_option maxRecDepth 20000 in
theorem t_X3_emit_f {D : Nat} (l1 : Int32) (I : IM) (J : JM) {Q : Option AV → AH → Prop} (h : (if (256 : Int32) ≤ (I 3 0 7) then Q none (101, I, J, R0 false) else (vp_in (I 3 0 7) 256 ∧ Q none (101, (updI (updI I 28 0 (I 3 0 7).toNatClampNeg l1) 3 0 7 ((I 3 0 7) + (1 : Int32))), J, R0 false)))) : Call (D + 1) 23 [vr 3 0, vi l1] (101, I, J, R0 false) Q := by
  refine Call.of rfl ?_
  show WP D 23 0 [vr 3 0, vi l1] [] (101, I, J, R0 false) Q
  refine WP.blk (pc' := 7) (L' := [vr 3 0, vi l1]) (st' := [vi 256, vi (I 3 0 7)]) (h' := (101, I, J, R0 false)) 3 rfl ?_
  refine WP.icmp_ge (t := 30) (L' := [vr 3 0, vi l1]) rfl rfl rfl rfl h (fun h => ?_) (fun h => ?_)
  · exact WP.ret rfl rfl h
  · refine WP.blk (pc' := 19) (L' := [vr 3 0, vi l1]) (st' := [vi l1, vi (I 3 0 7), vr 28 0]) (h' := (101, I, J, R0 false)) 5 rfl ?_
    refine WP.step (pc' := 20) (L' := [vr 3 0, vi l1]) (st' := []) (h' := (101, (updI I 28 0 (I 3 0 7).toNatClampNeg l1), J, R0 false)) rfl (iastore_ok (n := 256) rfl rfl rfl (inA_of h.1)) ?_
    have h := And.right h
    refine WP.blk (pc' := 30) (L' := [vr 3 0, vi l1]) (st' := []) (h' := (101, (updI (updI I 28 0 (I 3 0 7).toNatClampNeg l1) 3 0 7 ((I 3 0 7) + (1 : Int32))), J, R0 false)) 6 rfl ?_
    exact WP.ret rfl rfl h
set_option maxRecDepth 20000 in
theorem t_X3_emit_t {D : Nat} (l1 : Int32) (I : IM) (J : JM) {Q : Option AV → AH → Prop} (h : (if (256 : Int32) ≤ (I 3 0 7) then Q none (101, I, J, R0 true) else (vp_in (I 3 0 7) 256 ∧ Q none (101, (updI (updI I 27 0 (I 3 0 7).toNatClampNeg l1) 3 0 7 ((I 3 0 7) + (1 : Int32))), J, R0 true)))) : Call (D + 1) 23 [vr 3 0, vi l1] (101, I, J, R0 true) Q := by
  refine Call.of rfl ?_
  show WP D 23 0 [vr 3 0, vi l1] [] (101, I, J, R0 true) Q
  refine WP.blk (pc' := 7) (L' := [vr 3 0, vi l1]) (st' := [vi 256, vi (I 3 0 7)]) (h' := (101, I, J, R0 true)) 3 rfl ?_
  refine WP.icmp_ge (t := 30) (L' := [vr 3 0, vi l1]) rfl rfl rfl rfl h (fun h => ?_) (fun h => ?_)
  · exact WP.ret rfl rfl h
  · refine WP.blk (pc' := 19) (L' := [vr 3 0, vi l1]) (st' := [vi l1, vi (I 3 0 7), vr 27 0]) (h' := (101, I, J, R0 true)) 5 rfl ?_
    refine WP.step (pc' := 20) (L' := [vr 3 0, vi l1]) (st' := []) (h' := (101, (updI I 27 0 (I 3 0 7).toNatClampNeg l1), J, R0 true)) rfl (iastore_ok (n := 256) rfl rfl rfl (inA_of h.1)) ?_
    have h := And.right h
    refine WP.blk (pc' := 30) (L' := [vr 3 0, vi l1]) (st' := []) (h' := (101, (updI (updI I 27 0 (I 3 0 7).toNatClampNeg l1) 3 0 7 ((I 3 0 7) + (1 : Int32))), J, R0 true)) 6 rfl ?_
    exact WP.ret rfl rfl h
set_option maxRecDepth 20000 in
theorem t_X3_readLine_f {D : Nat}  (I : IM) (J : JM) {Q : Option AV → AH → Prop} (h : (Call D 25 [vr 3 0, vi 0, vi 0] (101, I, J, R0 false) (RVf false fun I2 J3 => (Call D 21 [vr 3 0] (101, I2, J3, R0 false) (RIf false fun x4 I5 J6 => (if x4 = (63 : Int32) then (Call D 23 [vr 3 0, vi 63] (101, (updI I5 3 0 8 ((I5 3 0 8) + (1 : Int32))), J6, R0 false) (RVf false fun I8 J9 => (Call D 23 [vr 3 0, vi 0] (101, I8, J9, R0 false) (RVf false fun I11 J12 => (Call D 25 [vr 3 0, vi 0, vi 0] (101, I11, J12, R0 false) (RVf false fun I14 J15 => (Call D 23 [vr 3 0, vi 59] (101, I14, J15, R0 false) (RVf false fun I17 J18 => (if (256 : Int32) ≤ (I8 3 0 7) then Q none (101, I17, J18, R0 false) else (vp_in (I8 3 0 7) 256 ∧ Q none (101, (updI I17 28 0 (I8 3 0 7).toNatClampNeg (I17 3 0 7)), J18, R0 false))))))))))) else (Call D 23 [vr 3 0, vi 59] (101, I5, J6, R0 false) (RVf false fun I20 J21 => Q none (101, I20, J21, R0 false))))))))) : Call (D + 1) 24 [vr 3 0] (101, I, J, R0 false) Q := by
  refine Call.of rfl ?_
  show WP D 24 0 [vr 3 0, vn] [] (101, I, J, R0 false) Q
  refine WP.blk (pc' := 3) (L' := [vr 3 0, vn]) (st' := [vi 0, vi 0, vr 3 0]) (h' := (101, I, J, R0 false)) 3 rfl ?_
  refine WP.cal (y' := 25) (as := [vr 3 0, vi 0, vi 0]) (L' := [vr 3 0, vn]) (rest := []) rfl (fun f r h' hf => callV_ok hf rfl rfl rfl) h ?_
  rintro _ _ ⟨I2, J3, rfl, rfl, h⟩
  refine WP.blk (pc' := 7) (L' := [vr 3 0, vn]) (st' := [vr 3 0]) (h' := (101, I2, J3, R0 false)) 1 rfl ?_
  refine WP.cal (y' := 21) (as := [vr 3 0]) (L' := [vr 3 0, vn]) (rest := []) rfl (fun f r h' hf => callV_ok hf rfl rfl rfl) h ?_
  rintro _ _ ⟨x4, I5, J6, rfl, rfl, h⟩
  refine WP.blk (pc' := 12) (L' := [vr 3 0, vn]) (st' := [vi 63, vi x4]) (h' := (101, I5, J6, R0 false)) 1 rfl ?_
  refine WP.icmp_eq (t := 22) (L' := [vr 3 0, vn]) rfl rfl rfl rfl h (fun h => ?_) (fun h => ?_)
  · refine WP.blk (pc' := 35) (L' := [vr 3 0, vn]) (st' := [vi 63, vr 3 0]) (h' := (101, (updI I5 3 0 8 ((I5 3 0 8) + (1 : Int32))), J6, R0 false)) 8 rfl ?_
    refine WP.cal (y' := 23) (as := [vr 3 0, vi 63]) (L' := [vr 3 0, vn]) (rest := []) rfl (fun f r h' hf => callV_ok hf rfl rfl rfl) h ?_
    rintro _ _ ⟨I8, J9, rfl, rfl, h⟩
    refine WP.blk (pc' := 45) (L' := [vr 3 0, vi (I8 3 0 7)]) (st' := [vi 0, vr 3 0]) (h' := (101, I8, J9, R0 false)) 5 rfl ?_
    refine WP.cal (y' := 23) (as := [vr 3 0, vi 0]) (L' := [vr 3 0, vi (I8 3 0 7)]) (rest := []) rfl (fun f r h' hf => callV_ok hf rfl rfl rfl) h ?_
    rintro _ _ ⟨I11, J12, rfl, rfl, h⟩
    refine WP.blk (pc' := 51) (L' := [vr 3 0, vi (I8 3 0 7)]) (st' := [vi 0, vi 0, vr 3 0]) (h' := (101, I11, J12, R0 false)) 3 rfl ?_
    refine WP.cal (y' := 25) (as := [vr 3 0, vi 0, vi 0]) (L' := [vr 3 0, vi (I8 3 0 7)]) (rest := []) rfl (fun f r h' hf => callV_ok hf rfl rfl rfl) h ?_
    rintro _ _ ⟨I14, J15, rfl, rfl, h⟩
    refine WP.blk (pc' := 57) (L' := [vr 3 0, vi (I8 3 0 7)]) (st' := [vi 59, vr 3 0]) (h' := (101, I14, J15, R0 false)) 2 rfl ?_
    refine WP.cal (y' := 23) (as := [vr 3 0, vi 59]) (L' := [vr 3 0, vi (I8 3 0 7)]) (rest := []) rfl (fun f r h' hf => callV_ok hf rfl rfl rfl) h ?_
    rintro _ _ ⟨I17, J18, rfl, rfl, h⟩
    refine WP.blk (pc' := 64) (L' := [vr 3 0, vi (I8 3 0 7)]) (st' := [vi 256, vi (I8 3 0 7)]) (h' := (101, I17, J18, R0 false)) 2 rfl ?_
    refine WP.icmp_ge (t := 77) (L' := [vr 3 0, vi (I8 3 0 7)]) rfl rfl rfl rfl h (fun h => ?_) (fun h => ?_)
    · exact WP.ret rfl rfl h
    · refine WP.blk (pc' := 76) (L' := [vr 3 0, vi (I8 3 0 7)]) (st' := [vi (I17 3 0 7), vi (I8 3 0 7), vr 28 0]) (h' := (101, I17, J18, R0 false)) 5 rfl ?_
      refine WP.step (pc' := 77) (L' := [vr 3 0, vi (I8 3 0 7)]) (st' := []) (h' := (101, (updI I17 28 0 (I8 3 0 7).toNatClampNeg (I17 3 0 7)), J18, R0 false)) rfl (iastore_ok (n := 256) rfl rfl rfl (inA_of h.1)) ?_
      have h := And.right h
      exact WP.ret rfl rfl h
  · refine WP.blk (pc' := 18) (L' := [vr 3 0, vn]) (st' := [vi 59, vr 3 0]) (h' := (101, I5, J6, R0 false)) 2 rfl ?_
    refine WP.cal (y' := 23) (as := [vr 3 0, vi 59]) (L' := [vr 3 0, vn]) (rest := []) rfl (fun f r h' hf => callV_ok hf rfl rfl rfl) h ?_
    rintro _ _ ⟨I20, J21, rfl, rfl, h⟩
    exact WP.ret rfl rfl h
set_option maxRecDepth 20000 in
theorem t_X3_readLine_t {D : Nat}  (I : IM) (J : JM) {Q : Option AV → AH → Prop} (h : (Call D 25 [vr 3 0, vi 0, vi 0] (101, I, J, R0 true) (RVf true fun I2 J3 => (Call D 21 [vr 3 0] (101, I2, J3, R0 true) (RIf true fun x4 I5 J6 => (if x4 = (63 : Int32) then (Call D 23 [vr 3 0, vi 63] (101, (updI I5 3 0 8 ((I5 3 0 8) + (1 : Int32))), J6, R0 true) (RVf true fun I8 J9 => (Call D 23 [vr 3 0, vi 0] (101, I8, J9, R0 true) (RVf true fun I11 J12 => (Call D 25 [vr 3 0, vi 0, vi 0] (101, I11, J12, R0 true) (RVf true fun I14 J15 => (Call D 23 [vr 3 0, vi 59] (101, I14, J15, R0 true) (RVf true fun I17 J18 => (if (256 : Int32) ≤ (I8 3 0 7) then Q none (101, I17, J18, R0 true) else (vp_in (I8 3 0 7) 256 ∧ Q none (101, (updI I17 27 0 (I8 3 0 7).toNatClampNeg (I17 3 0 7)), J18, R0 true))))))))))) else (Call D 23 [vr 3 0, vi 59] (101, I5, J6, R0 true) (RVf true fun I20 J21 => Q none (101, I20, J21, R0 true))))))))) : Call (D + 1) 24 [vr 3 0] (101, I, J, R0 true) Q := by
  refine Call.of rfl ?_
  show WP D 24 0 [vr 3 0, vn] [] (101, I, J, R0 true) Q
  refine WP.blk (pc' := 3) (L' := [vr 3 0, vn]) (st' := [vi 0, vi 0, vr 3 0]) (h' := (101, I, J, R0 true)) 3 rfl ?_
  refine WP.cal (y' := 25) (as := [vr 3 0, vi 0, vi 0]) (L' := [vr 3 0, vn]) (rest := []) rfl (fun f r h' hf => callV_ok hf rfl rfl rfl) h ?_
  rintro _ _ ⟨I2, J3, rfl, rfl, h⟩
  refine WP.blk (pc' := 7) (L' := [vr 3 0, vn]) (st' := [vr 3 0]) (h' := (101, I2, J3, R0 true)) 1 rfl ?_
  refine WP.cal (y' := 21) (as := [vr 3 0]) (L' := [vr 3 0, vn]) (rest := []) rfl (fun f r h' hf => callV_ok hf rfl rfl rfl) h ?_
  rintro _ _ ⟨x4, I5, J6, rfl, rfl, h⟩
  refine WP.blk (pc' := 12) (L' := [vr 3 0, vn]) (st' := [vi 63, vi x4]) (h' := (101, I5, J6, R0 true)) 1 rfl ?_
  refine WP.icmp_eq (t := 22) (L' := [vr 3 0, vn]) rfl rfl rfl rfl h (fun h => ?_) (fun h => ?_)
  · refine WP.blk (pc' := 35) (L' := [vr 3 0, vn]) (st' := [vi 63, vr 3 0]) (h' := (101, (updI I5 3 0 8 ((I5 3 0 8) + (1 : Int32))), J6, R0 true)) 8 rfl ?_
    refine WP.cal (y' := 23) (as := [vr 3 0, vi 63]) (L' := [vr 3 0, vn]) (rest := []) rfl (fun f r h' hf => callV_ok hf rfl rfl rfl) h ?_
    rintro _ _ ⟨I8, J9, rfl, rfl, h⟩
    refine WP.blk (pc' := 45) (L' := [vr 3 0, vi (I8 3 0 7)]) (st' := [vi 0, vr 3 0]) (h' := (101, I8, J9, R0 true)) 5 rfl ?_
    refine WP.cal (y' := 23) (as := [vr 3 0, vi 0]) (L' := [vr 3 0, vi (I8 3 0 7)]) (rest := []) rfl (fun f r h' hf => callV_ok hf rfl rfl rfl) h ?_
    rintro _ _ ⟨I11, J12, rfl, rfl, h⟩
    refine WP.blk (pc' := 51) (L' := [vr 3 0, vi (I8 3 0 7)]) (st' := [vi 0, vi 0, vr 3 0]) (h' := (101, I11, J12, R0 true)) 3 rfl ?_
    refine WP.cal (y' := 25) (as := [vr 3 0, vi 0, vi 0]) (L' := [vr 3 0, vi (I8 3 0 7)]) (rest := []) rfl (fun f r h' hf => callV_ok hf rfl rfl rfl) h ?_
    rintro _ _ ⟨I14, J15, rfl, rfl, h⟩
    refine WP.blk (pc' := 57) (L' := [vr 3 0, vi (I8 3 0 7)]) (st' := [vi 59, vr 3 0]) (h' := (101, I14, J15, R0 true)) 2 rfl ?_
    refine WP.cal (y' := 23) (as := [vr 3 0, vi 59]) (L' := [vr 3 0, vi (I8 3 0 7)]) (rest := []) rfl (fun f r h' hf => callV_ok hf rfl rfl rfl) h ?_
    rintro _ _ ⟨I17, J18, rfl, rfl, h⟩
    refine WP.blk (pc' := 64) (L' := [vr 3 0, vi (I8 3 0 7)]) (st' := [vi 256, vi (I8 3 0 7)]) (h' := (101, I17, J18, R0 true)) 2 rfl ?_
    refine WP.icmp_ge (t := 77) (L' := [vr 3 0, vi (I8 3 0 7)]) rfl rfl rfl rfl h (fun h => ?_) (fun h => ?_)
    · exact WP.ret rfl rfl h
    · refine WP.blk (pc' := 76) (L' := [vr 3 0, vi (I8 3 0 7)]) (st' := [vi (I17 3 0 7), vi (I8 3 0 7), vr 27 0]) (h' := (101, I17, J18, R0 true)) 5 rfl ?_
      refine WP.step (pc' := 77) (L' := [vr 3 0, vi (I8 3 0 7)]) (st' := []) (h' := (101, (updI I17 27 0 (I8 3 0 7).toNatClampNeg (I17 3 0 7)), J18, R0 true)) rfl (iastore_ok (n := 256) rfl rfl rfl (inA_of h.1)) ?_
      have h := And.right h
      exact WP.ret rfl rfl h
  · refine WP.blk (pc' := 18) (L' := [vr 3 0, vn]) (st' := [vi 59, vr 3 0]) (h' := (101, I5, J6, R0 true)) 2 rfl ?_
    refine WP.cal (y' := 23) (as := [vr 3 0, vi 59]) (L' := [vr 3 0, vn]) (rest := []) rfl (fun f r h' hf => callV_ok hf rfl rfl rfl) h ?_
    rintro _ _ ⟨I20, J21, rfl, rfl, h⟩
    exact WP.ret rfl rfl h
set_option maxRecDepth 20000 in
theorem t_X3_readLevel {D : Nat} (l1 : Int32) (l2 : Int32) (I : IM) (J : JM) (b : Bool) {Q : Option AV → AH → Prop} (h : (if l1 < (5 : Int32) then (Call D 25 [vr 3 0, vi (l1 + (1 : Int32)), vi l2] (101, I, J, R0 b) (RVf b fun I2 J3 => (if ¬ l1 = (2 : Int32) then WP D 25 34 [vr 3 0, vi l1, vi l2, vi 120, vi 0, vn] [] (101, I2, J3, R0 b) Q else WP D 25 34 [vr 3 0, vi l1, vi l2, vi 1, vi 0, vn] [] (101, I2, J3, R0 b) Q))) else (Call D 27 [vr 3 0, vi l2] (101, I, J, R0 b) (RVf b fun I5 J6 => Q none (101, I5, J6, R0 b))))) : Call (D + 1) 25 [vr 3 0, vi l1, vi l2] (101, I, J, R0 b) Q := by
  refine Call.of rfl ?_
  show WP D 25 0 [vr 3 0, vi l1, vi l2, vn, vn, vn] [] (101, I, J, R0 b) Q
  refine WP.blk (pc' := 2) (L' := [vr 3 0, vi l1, vi l2, vn, vn, vn]) (st' := [vi 5, vi l1]) (h' := (101, I, J, R0 b)) 2 rfl ?_
  refine WP.icmp_lt (t := 11) (L' := [vr 3 0, vi l1, vi l2, vn, vn, vn]) rfl rfl rfl rfl h (fun h => ?_) (fun h => ?_)
  · refine WP.blk (pc' := 16) (L' := [vr 3 0, vi l1, vi l2, vn, vn, vn]) (st' := [vi l2, vi (l1 + (1 : Int32)), vr 3 0]) (h' := (101, I, J, R0 b)) 5 rfl ?_
    refine WP.cal (y' := 25) (as := [vr 3 0, vi (l1 + (1 : Int32)), vi l2]) (L' := [vr 3 0, vi l1, vi l2, vn, vn, vn]) (rest := []) rfl (fun f r h' hf => callV_ok hf rfl rfl rfl) h ?_
    rintro _ _ ⟨I2, J3, rfl, rfl, h⟩
    refine WP.blk (pc' := 21) (L' := [vr 3 0, vi l1, vi l2, vn, vn, vn]) (st' := [vi 2, vi l1]) (h' := (101, I2, J3, R0 b)) 2 rfl ?_
    refine WP.icmp_ne (t := 28) (L' := [vr 3 0, vi l1, vi l2, vn, vn, vn]) rfl rfl rfl rfl h (fun h => ?_) (fun h => ?_)
    · refine WP.blk (pc' := 34) (L' := [vr 3 0, vi l1, vi l2, vi 120, vi 0, vn]) (st' := []) (h' := (101, I2, J3, R0 b)) 4 rfl ?_
      exact WP.mask rfl rfl h
    · refine WP.blk (pc' := 34) (L' := [vr 3 0, vi l1, vi l2, vi 1, vi 0, vn]) (st' := []) (h' := (101, I2, J3, R0 b)) 5 rfl ?_
      exact WP.mask rfl rfl h
  · refine WP.blk (pc' := 7) (L' := [vr 3 0, vi l1, vi l2, vn, vn, vn]) (st' := [vi l2, vr 3 0]) (h' := (101, I, J, R0 b)) 2 rfl ?_
    refine WP.cal (y' := 27) (as := [vr 3 0, vi l2]) (L' := [vr 3 0, vi l1, vi l2, vn, vn, vn]) (rest := []) rfl (fun f r h' hf => callV_ok hf rfl rfl rfl) h ?_
    rintro _ _ ⟨I5, J6, rfl, rfl, h⟩
    exact WP.ret rfl rfl h
set_option maxRecDepth 20000 in
theorem t_X3_readLevel_34 {D : Nat} (l1 : Int32) (l2 : Int32) (l3 : Int32) (l4 : Int32) (I : IM) (J : JM) (b : Bool) {Q : Option AV → AH → Prop} (h : (if l3 ≤ l4 then Q none (101, I, J, R0 b) else (Call D 21 [vr 3 0] (101, I, J, R0 b) (RIf b fun x7 I8 J9 => (Call D 26 [vi x7] (101, I8, J9, R0 b) (RIf b fun x10 I11 J12 => (if ¬ x10 = l1 then Q none (101, I11, J12, R0 b) else (Call D 21 [vr 3 0] (101, I11, J12, R0 b) (RIf b fun x13 I14 J15 => (Call D 25 [vr 3 0, vi (l1 + (1 : Int32)), vi l2] (101, (updI I14 3 0 8 ((I14 3 0 8) + (1 : Int32))), J15, R0 b) (RVf b fun I17 J18 => (Call D 23 [vr 3 0, vi x13] (101, I17, J18, R0 b) (RVf b fun I20 J21 => WP D 25 34 [vr 3 0, vi l1, vi l2, vi l3, vi (l4 + 1), vn] [] (101, I20, J21, R0 b) Q))))))))))))) : WP D 25 34 [vr 3 0, vi l1, vi l2, vi l3, vi l4, vn] [] (101, I, J, R0 b) Q := by
  refine WP.blk (pc' := 37) (L' := [vr 3 0, vi l1, vi l2, vi l3, vi l4, vn]) (st' := [vi l3, vi l4]) (h' := (101, I, J, R0 b)) 2 rfl ?_
  refine WP.icmp_ge (t := 87) (L' := [vr 3 0, vi l1, vi l2, vi l3, vi l4, vn]) rfl rfl rfl rfl h (fun h => ?_) (fun h => ?_)
  · exact WP.ret rfl rfl h
  · refine WP.blk (pc' := 41) (L' := [vr 3 0, vi l1, vi l2, vi l3, vi l4, vn]) (st' := [vr 3 0]) (h' := (101, I, J, R0 b)) 1 rfl ?_
    refine WP.cal (y' := 21) (as := [vr 3 0]) (L' := [vr 3 0, vi l1, vi l2, vi l3, vi l4, vn]) (rest := []) rfl (fun f r h' hf => callV_ok hf rfl rfl rfl) h ?_
    rintro _ _ ⟨x7, I8, J9, rfl, rfl, h⟩
    refine WP.cal (y' := 26) (as := [vi x7]) (L' := [vr 3 0, vi l1, vi l2, vi l3, vi l4, vn]) (rest := []) rfl (fun f r h' hf => callS_ok hf rfl rfl rfl) h ?_
    rintro _ _ ⟨x10, I11, J12, rfl, rfl, h⟩
    refine WP.blk (pc' := 48) (L' := [vr 3 0, vi l1, vi l2, vi l3, vi l4, vn]) (st' := [vi l1, vi x10]) (h' := (101, I11, J12, R0 b)) 1 rfl ?_
    refine WP.icmp_ne (t := 87) (L' := [vr 3 0, vi l1, vi l2, vi l3, vi l4, vn]) rfl rfl rfl rfl h (fun h => ?_) (fun h => ?_)
    · exact WP.ret rfl rfl h
    · refine WP.blk (pc' := 52) (L' := [vr 3 0, vi l1, vi l2, vi l3, vi l4, vn]) (st' := [vr 3 0]) (h' := (101, I11, J12, R0 b)) 1 rfl ?_
      refine WP.cal (y' := 21) (as := [vr 3 0]) (L' := [vr 3 0, vi l1, vi l2, vi l3, vi l4, vn]) (rest := []) rfl (fun f r h' hf => callV_ok hf rfl rfl rfl) h ?_
      rintro _ _ ⟨x13, I14, J15, rfl, rfl, h⟩
      refine WP.blk (pc' := 72) (L' := [vr 3 0, vi l1, vi l2, vi l3, vi l4, vi x13]) (st' := [vi l2, vi (l1 + (1 : Int32)), vr 3 0]) (h' := (101, (updI I14 3 0 8 ((I14 3 0 8) + (1 : Int32))), J15, R0 b)) 12 rfl ?_
      refine WP.cal (y' := 25) (as := [vr 3 0, vi (l1 + (1 : Int32)), vi l2]) (L' := [vr 3 0, vi l1, vi l2, vi l3, vi l4, vi x13]) (rest := []) rfl (fun f r h' hf => callV_ok hf rfl rfl rfl) h ?_
      rintro _ _ ⟨I17, J18, rfl, rfl, h⟩
      refine WP.blk (pc' := 78) (L' := [vr 3 0, vi l1, vi l2, vi l3, vi l4, vi x13]) (st' := [vi x13, vr 3 0]) (h' := (101, I17, J18, R0 b)) 2 rfl ?_
      refine WP.cal (y' := 23) (as := [vr 3 0, vi x13]) (L' := [vr 3 0, vi l1, vi l2, vi l3, vi l4, vi x13]) (rest := []) rfl (fun f r h' hf => callV_ok hf rfl rfl rfl) h ?_
      rintro _ _ ⟨I20, J21, rfl, rfl, h⟩
      refine WP.blk (pc' := 34) (L' := [vr 3 0, vi l1, vi l2, vi l3, vi (l4 + 1), vi x13]) (st' := []) (h' := (101, I20, J21, R0 b)) 2 rfl ?_
      exact WP.mask rfl rfl h
set_option maxRecDepth 20000 in
theorem t_X3_levelOf {D : Nat} (l0 : Int32) (I : IM) (J : JM) (b : Bool) {Q : Option AV → AH → Prop} (h : (if l0 = 37 then Q (some (vi 4)) (101, I, J, R0 b) else (if l0 = 38 then Q (some (vi 1)) (101, I, J, R0 b) else (if l0 = 42 then Q (some (vi 4)) (101, I, J, R0 b) else (if l0 = 43 then Q (some (vi 3)) (101, I, J, R0 b) else (if l0 = 45 then Q (some (vi 3)) (101, I, J, R0 b) else (if l0 = 47 then Q (some (vi 4)) (101, I, J, R0 b) else (if l0 = 60 then Q (some (vi 2)) (101, I, J, R0 b) else (if l0 = 61 then Q (some (vi 2)) (101, I, J, R0 b) else (if l0 = 62 then Q (some (vi 2)) (101, I, J, R0 b) else (if l0 = 124 then Q (some (vi 0)) (101, I, J, R0 b) else Q (some (vi (-1))) (101, I, J, R0 b)))))))))))) : Call (D + 1) 26 [vi l0] (101, I, J, R0 b) Q := by
  refine Call.of rfl ?_
  show WP D 26 0 [vi l0] [] (101, I, J, R0 b) Q
  refine WP.blk (pc' := 1) (L' := [vi l0]) (st' := [vi l0]) (h' := (101, I, J, R0 b)) 1 rfl ?_
  refine WP.step (pc' := swf [(37, 100), (38, 94), (42, 100), (43, 98), (45, 98), (47, 100), (60, 96), (61, 96), (62, 96), (124, 92)] 102 l0) (L' := [vi l0]) (st' := []) (h' := (101, I, J, R0 b)) rfl rfl ?_
  refine WP.ite (c := l0 = 37) (pc1 := 100) (pc2 := swf [(38, 94), (42, 100), (43, 98), (45, 98), (47, 100), (60, 96), (61, 96), (62, 96), (124, 92)] 102 l0) h (fun h => ?_) (fun h => ?_)
  · refine WP.blk (pc' := 101) (L' := [vi l0]) (st' := [vi 4]) (h' := (101, I, J, R0 b)) 1 rfl ?_
    exact WP.ret rfl rfl h
  · refine WP.ite (c := l0 = 38) (pc1 := 94) (pc2 := swf [(42, 100), (43, 98), (45, 98), (47, 100), (60, 96), (61, 96), (62, 96), (124, 92)] 102 l0) h (fun h => ?_) (fun h => ?_)
    · refine WP.blk (pc' := 95) (L' := [vi l0]) (st' := [vi 1]) (h' := (101, I, J, R0 b)) 1 rfl ?_
      exact WP.ret rfl rfl h
    · refine WP.ite (c := l0 = 42) (pc1 := 100) (pc2 := swf [(43, 98), (45, 98), (47, 100), (60, 96), (61, 96), (62, 96), (124, 92)] 102 l0) h (fun h => ?_) (fun h => ?_)
      · refine WP.blk (pc' := 101) (L' := [vi l0]) (st' := [vi 4]) (h' := (101, I, J, R0 b)) 1 rfl ?_
        exact WP.ret rfl rfl h
      · refine WP.ite (c := l0 = 43) (pc1 := 98) (pc2 := swf [(45, 98), (47, 100), (60, 96), (61, 96), (62, 96), (124, 92)] 102 l0) h (fun h => ?_) (fun h => ?_)
        · refine WP.blk (pc' := 99) (L' := [vi l0]) (st' := [vi 3]) (h' := (101, I, J, R0 b)) 1 rfl ?_
          exact WP.ret rfl rfl h
        · refine WP.ite (c := l0 = 45) (pc1 := 98) (pc2 := swf [(47, 100), (60, 96), (61, 96), (62, 96), (124, 92)] 102 l0) h (fun h => ?_) (fun h => ?_)
          · refine WP.blk (pc' := 99) (L' := [vi l0]) (st' := [vi 3]) (h' := (101, I, J, R0 b)) 1 rfl ?_
            exact WP.ret rfl rfl h
          · refine WP.ite (c := l0 = 47) (pc1 := 100) (pc2 := swf [(60, 96), (61, 96), (62, 96), (124, 92)] 102 l0) h (fun h => ?_) (fun h => ?_)
            · refine WP.blk (pc' := 101) (L' := [vi l0]) (st' := [vi 4]) (h' := (101, I, J, R0 b)) 1 rfl ?_
              exact WP.ret rfl rfl h
            · refine WP.ite (c := l0 = 60) (pc1 := 96) (pc2 := swf [(61, 96), (62, 96), (124, 92)] 102 l0) h (fun h => ?_) (fun h => ?_)
              · refine WP.blk (pc' := 97) (L' := [vi l0]) (st' := [vi 2]) (h' := (101, I, J, R0 b)) 1 rfl ?_
                exact WP.ret rfl rfl h
              · refine WP.ite (c := l0 = 61) (pc1 := 96) (pc2 := swf [(62, 96), (124, 92)] 102 l0) h (fun h => ?_) (fun h => ?_)
                · refine WP.blk (pc' := 97) (L' := [vi l0]) (st' := [vi 2]) (h' := (101, I, J, R0 b)) 1 rfl ?_
                  exact WP.ret rfl rfl h
                · refine WP.ite (c := l0 = 62) (pc1 := 96) (pc2 := swf [(124, 92)] 102 l0) h (fun h => ?_) (fun h => ?_)
                  · refine WP.blk (pc' := 97) (L' := [vi l0]) (st' := [vi 2]) (h' := (101, I, J, R0 b)) 1 rfl ?_
                    exact WP.ret rfl rfl h
                  · refine WP.ite (c := l0 = 124) (pc1 := 92) (pc2 := swf [] 102 l0) h (fun h => ?_) (fun h => ?_)
                    · refine WP.blk (pc' := 93) (L' := [vi l0]) (st' := [vi 0]) (h' := (101, I, J, R0 b)) 1 rfl ?_
                      exact WP.ret rfl rfl h
                    · show WP D 26 102 [vi l0] [] (101, I, J, R0 b) Q
                      refine WP.blk (pc' := 103) (L' := [vi l0]) (st' := [vi (-1)]) (h' := (101, I, J, R0 b)) 1 rfl ?_
                      exact WP.ret rfl rfl h
set_option maxRecDepth 20000 in
theorem t_X3_readOperand {D : Nat} (l1 : Int32) (I : IM) (J : JM) (b : Bool) {Q : Option AV → AH → Prop} (h : (Call D 21 [vr 3 0] (101, I, J, R0 b) (RIf b fun x1 I2 J3 => (if x1 < (48 : Int32) then WP D 27 24 [vr 3 0, vi l1, vi x1] [] (101, I2, J3, R0 b) Q else (if (57 : Int32) < x1 then WP D 27 24 [vr 3 0, vi l1, vi x1] [] (101, I2, J3, R0 b) Q else (Call D 28 [vr 3 0] (101, I2, J3, R0 b) (RVf b fun I5 J6 => WP D 27 184 [vn, vn, vn] [] (101, I5, J6, R0 b) Q))))))) : Call (D + 1) 27 [vr 3 0, vi l1] (101, I, J, R0 b) Q := by
  refine Call.of rfl ?_
  show WP D 27 0 [vr 3 0, vi l1, vn] [] (101, I, J, R0 b) Q
  refine WP.blk (pc' := 1) (L' := [vr 3 0, vi l1, vn]) (st' := [vr 3 0]) (h' := (101, I, J, R0 b)) 1 rfl ?_
  refine WP.cal (y' := 21) (as := [vr 3 0]) (L' := [vr 3 0, vi l1, vn]) (rest := []) rfl (fun f r h' hf => callV_ok hf rfl rfl rfl) h ?_
  rintro _ _ ⟨x1, I2, J3, rfl, rfl, h⟩
  refine WP.blk (pc' := 8) (L' := [vr 3 0, vi l1, vi x1]) (st' := [vi 48, vi x1]) (h' := (101, I2, J3, R0 b)) 3 rfl ?_
  refine WP.icmp_lt (t := 24) (L' := [vr 3 0, vi l1, vi x1]) rfl rfl rfl rfl h (fun h => ?_) (fun h => ?_)
  · exact WP.mask rfl rfl h
  · refine WP.blk (pc' := 14) (L' := [vr 3 0, vi l1, vi x1]) (st' := [vi 57, vi x1]) (h' := (101, I2, J3, R0 b)) 2 rfl ?_
    refine WP.icmp_gt (t := 24) (L' := [vr 3 0, vi l1, vi x1]) rfl rfl rfl rfl h (fun h => ?_) (fun h => ?_)
    · exact WP.mask rfl rfl h
    · refine WP.blk (pc' := 18) (L' := [vr 3 0, vi l1, vi x1]) (st' := [vr 3 0]) (h' := (101, I2, J3, R0 b)) 1 rfl ?_
      refine WP.cal (y' := 28) (as := [vr 3 0]) (L' := [vr 3 0, vi l1, vi x1]) (rest := []) rfl (fun f r h' hf => callV_ok hf rfl rfl rfl) h ?_
      rintro _ _ ⟨I5, J6, rfl, rfl, h⟩
      refine WP.blk (pc' := 184) (L' := [vr 3 0, vi l1, vi x1]) (st' := []) (h' := (101, I5, J6, R0 b)) 1 rfl ?_
      exact WP.mask rfl rfl h
set_option maxRecDepth 20000 in
theorem t_X3_readOperand_24 {D : Nat} (l1 : Int32) (l2 : Int32) (I : IM) (J : JM) (b : Bool) {Q : Option AV → AH → Prop} (h : (if l2 ≤ 0 then WP D 27 66 [vr 3 0, vi l1, vi l2] [] (101, I, J, R0 b) Q else (Call D 246 [vr 990 0, vi ((l2).toUInt32 % 65536).toInt32] (101, I, J, R0 b) (RIf b fun x7 I8 J9 => (if x7 < 0 then WP D 27 66 [vr 3 0, vi l1, vi l2] [] (101, I8, J9, R0 b) Q else (Call D 246 [vr 990 0, vi ((l2).toUInt32 % 65536).toInt32] (101, (updI I8 3 0 8 ((I8 3 0 8) + (1 : Int32))), J9, R0 b) (RIf b fun x10 I11 J12 => (Call D 23 [vr 3 0, vi ((200 : Int32) + x10)] (101, I11, J12, R0 b) (RVf b fun I14 J15 => WP D 27 184 [vn, vn, vn] [] (101, I14, J15, R0 b) Q))))))))) : WP D 27 24 [vr 3 0, vi l1, vi l2] [] (101, I, J, R0 b) Q := by
  refine WP.blk (pc' := 25) (L' := [vr 3 0, vi l1, vi l2]) (st' := [vi l2]) (h' := (101, I, J, R0 b)) 1 rfl ?_
  refine WP.if_le (t := 66) (L' := [vr 3 0, vi l1, vi l2]) rfl rfl rfl rfl h (fun h => ?_) (fun h => ?_)
  · exact WP.mask rfl rfl h
  · refine WP.blk (pc' := 32) (L' := [vr 3 0, vi l1, vi l2]) (st' := [vi ((l2).toUInt32 % 65536).toInt32, vr 990 0]) (h' := (101, I, J, R0 b)) 3 rfl ?_
    refine WP.cal (y' := 246) (as := [vr 990 0, vi ((l2).toUInt32 % 65536).toInt32]) (L' := [vr 3 0, vi l1, vi l2]) (rest := []) rfl (fun f r h' hf => callV_ok hf rfl rfl rfl) h ?_
    rintro _ _ ⟨x7, I8, J9, rfl, rfl, h⟩
    refine WP.if_lt (t := 66) (L' := [vr 3 0, vi l1, vi l2]) rfl rfl rfl rfl h (fun h => ?_) (fun h => ?_)
    · exact WP.mask rfl rfl h
    · refine WP.blk (pc' := 56) (L' := [vr 3 0, vi l1, vi l2]) (st' := [vi ((l2).toUInt32 % 65536).toInt32, vr 990 0, vi 200, vr 3 0]) (h' := (101, (updI I8 3 0 8 ((I8 3 0 8) + (1 : Int32))), J9, R0 b)) 11 rfl ?_
      refine WP.cal (y' := 246) (as := [vr 990 0, vi ((l2).toUInt32 % 65536).toInt32]) (L' := [vr 3 0, vi l1, vi l2]) (rest := [vi 200, vr 3 0]) rfl (fun f r h' hf => callV_ok hf rfl rfl rfl) h ?_
      rintro _ _ ⟨x10, I11, J12, rfl, rfl, h⟩
      refine WP.blk (pc' := 60) (L' := [vr 3 0, vi l1, vi l2]) (st' := [vi ((200 : Int32) + x10), vr 3 0]) (h' := (101, I11, J12, R0 b)) 1 rfl ?_
      refine WP.cal (y' := 23) (as := [vr 3 0, vi ((200 : Int32) + x10)]) (L' := [vr 3 0, vi l1, vi l2]) (rest := []) rfl (fun f r h' hf => callV_ok hf rfl rfl rfl) h ?_
      rintro _ _ ⟨I14, J15, rfl, rfl, h⟩
      refine WP.blk (pc' := 184) (L' := [vr 3 0, vi l1, vi l2]) (st' := []) (h' := (101, I14, J15, R0 b)) 1 rfl ?_
      exact WP.mask rfl rfl h
set_option maxRecDepth 20000 in
theorem t_X3_readOperand_66 {D : Nat} (l1 : Int32) (l2 : Int32) (I : IM) (J : JM) (b : Bool) {Q : Option AV → AH → Prop} (h : (if (6 : Int32) ≤ l1 then WP D 27 121 [vr 3 0, vi l1, vi l2] [] (101, I, J, R0 b) Q else (if l2 = (33 : Int32) then WP D 27 84 [vr 3 0, vi l1, vi l2] [] (101, I, J, R0 b) Q else (if ¬ l2 = (45 : Int32) then WP D 27 121 [vr 3 0, vi l1, vi l2] [] (101, I, J, R0 b) Q else WP D 27 84 [vr 3 0, vi l1, vi l2] [] (101, I, J, R0 b) Q)))) : WP D 27 66 [vr 3 0, vi l1, vi l2] [] (101, I, J, R0 b) Q := by
  refine WP.blk (pc' := 69) (L' := [vr 3 0, vi l1, vi l2]) (st' := [vi 6, vi l1]) (h' := (101, I, J, R0 b)) 2 rfl ?_
  refine WP.icmp_ge (t := 121) (L' := [vr 3 0, vi l1, vi l2]) rfl rfl rfl rfl h (fun h => ?_) (fun h => ?_)
  · exact WP.mask rfl rfl h
  · refine WP.blk (pc' := 75) (L' := [vr 3 0, vi l1, vi l2]) (st' := [vi 33, vi l2]) (h' := (101, I, J, R0 b)) 2 rfl ?_
    refine WP.icmp_eq (t := 84) (L' := [vr 3 0, vi l1, vi l2]) rfl rfl rfl rfl h (fun h => ?_) (fun h => ?_)
    · exact WP.mask rfl rfl h
    · refine WP.blk (pc' := 81) (L' := [vr 3 0, vi l1, vi l2]) (st' := [vi 45, vi l2]) (h' := (101, I, J, R0 b)) 2 rfl ?_
      refine WP.icmp_ne (t := 121) (L' := [vr 3 0, vi l1, vi l2]) rfl rfl rfl rfl h (fun h => ?_) (fun h => ?_)
      · exact WP.mask rfl rfl h
      · exact WP.mask rfl rfl h
set_option maxRecDepth 20000 in
theorem t_X3_readOperand_121 {D : Nat} (l1 : Int32) (l2 : Int32) (I : IM) (J : JM) (b : Bool) {Q : Option AV → AH → Prop} (h : (if (6 : Int32) ≤ l1 then WP D 27 180 [vr 3 0, vn, vn] [] (101, I, J, R0 b) Q else (if ¬ l2 = (40 : Int32) then WP D 27 180 [vr 3 0, vn, vn] [] (101, I, J, R0 b) Q else (Call D 25 [vr 3 0, vi 0, vi (l1 + (1 : Int32))] (101, (updI I 3 0 8 ((I 3 0 8) + (1 : Int32))), J, R0 b) (RVf b fun I17 J18 => (Call D 21 [vr 3 0] (101, I17, J18, R0 b) (RIf b fun x19 I20 J21 => (if ¬ x19 = (41 : Int32) then (Call D 22 [vr 3 0] (101, I20, J21, R0 b) (RVf b fun I23 J24 => WP D 27 184 [vn, vn, vn] [] (101, I23, J24, R0 b) Q)) else WP D 27 184 [vn, vn, vn] [] (101, (updI I20 3 0 8 ((I20 3 0 8) + (1 : Int32))), J21, R0 b) Q)))))))) : WP D 27 121 [vr 3 0, vi l1, vi l2] [] (101, I, J, R0 b) Q := by
  refine WP.blk (pc' := 124) (L' := [vr 3 0, vi l1, vi l2]) (st' := [vi 6, vi l1]) (h' := (101, I, J, R0 b)) 2 rfl ?_
  refine WP.icmp_ge (t := 180) (L' := [vr 3 0, vi l1, vi l2]) rfl rfl rfl rfl h (fun h => ?_) (fun h => ?_)
  · exact WP.mask rfl rfl h
  · refine WP.blk (pc' := 130) (L' := [vr 3 0, vi l1, vi l2]) (st' := [vi 40, vi l2]) (h' := (101, I, J, R0 b)) 2 rfl ?_
    refine WP.icmp_ne (t := 180) (L' := [vr 3 0, vi l1, vi l2]) rfl rfl rfl rfl h (fun h => ?_) (fun h => ?_)
    · exact WP.mask rfl rfl h
    · refine WP.blk (pc' := 148) (L' := [vr 3 0, vi l1, vi l2]) (st' := [vi (l1 + (1 : Int32)), vi 0, vr 3 0]) (h' := (101, (updI I 3 0 8 ((I 3 0 8) + (1 : Int32))), J, R0 b)) 11 rfl ?_
      refine WP.cal (y' := 25) (as := [vr 3 0, vi 0, vi (l1 + (1 : Int32))]) (L' := [vr 3 0, vi l1, vi l2]) (rest := []) rfl (fun f r h' hf => callV_ok hf rfl rfl rfl) h ?_
      rintro _ _ ⟨I17, J18, rfl, rfl, h⟩
      refine WP.blk (pc' := 152) (L' := [vr 3 0, vi l1, vi l2]) (st' := [vr 3 0]) (h' := (101, I17, J18, R0 b)) 1 rfl ?_
      refine WP.cal (y' := 21) (as := [vr 3 0]) (L' := [vr 3 0, vi l1, vi l2]) (rest := []) rfl (fun f r h' hf => callV_ok hf rfl rfl rfl) h ?_
      rintro _ _ ⟨x19, I20, J21, rfl, rfl, h⟩
      refine WP.blk (pc' := 157) (L' := [vr 3 0, vi l1, vi l2]) (st' := [vi 41, vi x19]) (h' := (101, I20, J21, R0 b)) 1 rfl ?_
      refine WP.icmp_ne (t := 173) (L' := [vr 3 0, vi l1, vi l2]) rfl rfl rfl rfl h (fun h => ?_) (fun h => ?_)
      · refine WP.blk (pc' := 174) (L' := [vr 3 0, vi l1, vi l2]) (st' := [vr 3 0]) (h' := (101, I20, J21, R0 b)) 1 rfl ?_
        refine WP.cal (y' := 22) (as := [vr 3 0]) (L' := [vr 3 0, vi l1, vi l2]) (rest := []) rfl (fun f r h' hf => callV_ok hf rfl rfl rfl) h ?_
        rintro _ _ ⟨I23, J24, rfl, rfl, h⟩
        refine WP.blk (pc' := 184) (L' := [vr 3 0, vi l1, vi l2]) (st' := []) (h' := (101, I23, J24, R0 b)) 1 rfl ?_
        exact WP.mask rfl rfl h
      · refine WP.blk (pc' := 184) (L' := [vr 3 0, vi l1, vi l2]) (st' := []) (h' := (101, (updI I20 3 0 8 ((I20 3 0 8) + (1 : Int32))), J21, R0 b)) 7 rfl ?_
        exact WP.mask rfl rfl h
set_option maxRecDepth 20000 in
theorem t_X3_readOperand_84 {D : Nat} (l1 : Int32) (l2 : Int32) (I : IM) (J : JM) (b : Bool) {Q : Option AV → AH → Prop} (h : (Call D 27 [vr 3 0, vi (l1 + (1 : Int32))] (101, (updI I 3 0 8 ((I 3 0 8) + (1 : Int32))), J, R0 b) (RVf b fun I26 J27 => (if ¬ l2 = (33 : Int32) then (Call D 23 [vr 3 0, vi 78] (101, I26, J27, R0 b) (RVf b fun I29 J30 => WP D 27 184 [vn, vn, vn] [] (101, I29, J30, R0 b) Q)) else (Call D 23 [vr 3 0, vi 33] (101, I26, J27, R0 b) (RVf b fun I32 J33 => WP D 27 184 [vn, vn, vn] [] (101, I32, J33, R0 b) Q)))))) : WP D 27 84 [vr 3 0, vi l1, vi l2] [] (101, I, J, R0 b) Q := by
  refine WP.blk (pc' := 98) (L' := [vr 3 0, vi l1, vi l2]) (st' := [vi (l1 + (1 : Int32)), vr 3 0]) (h' := (101, (updI I 3 0 8 ((I 3 0 8) + (1 : Int32))), J, R0 b)) 10 rfl ?_
  refine WP.cal (y' := 27) (as := [vr 3 0, vi (l1 + (1 : Int32))]) (L' := [vr 3 0, vi l1, vi l2]) (rest := []) rfl (fun f r h' hf => callV_ok hf rfl rfl rfl) h ?_
  rintro _ _ ⟨I26, J27, rfl, rfl, h⟩
  refine WP.blk (pc' := 105) (L' := [vr 3 0, vi l1, vi l2]) (st' := [vi 33, vi l2, vr 3 0]) (h' := (101, I26, J27, R0 b)) 3 rfl ?_
  refine WP.icmp_ne (t := 113) (L' := [vr 3 0, vi l1, vi l2]) rfl rfl rfl rfl h (fun h => ?_) (fun h => ?_)
  · refine WP.blk (pc' := 115) (L' := [vr 3 0, vi l1, vi l2]) (st' := [vi 78, vr 3 0]) (h' := (101, I26, J27, R0 b)) 1 rfl ?_
    refine WP.cal (y' := 23) (as := [vr 3 0, vi 78]) (L' := [vn, vn, vn]) (rest := []) rfl (fun f r h' hf => callV_ok hf rfl rfl rfl) h ?_
    rintro _ _ ⟨I29, J30, rfl, rfl, h⟩
    refine WP.blk (pc' := 184) (L' := [vn, vn, vn]) (st' := []) (h' := (101, I29, J30, R0 b)) 1 rfl ?_
    exact WP.mask rfl rfl h
  · refine WP.blk (pc' := 115) (L' := [vr 3 0, vi l1, vi l2]) (st' := [vi 33, vr 3 0]) (h' := (101, I26, J27, R0 b)) 2 rfl ?_
    refine WP.cal (y' := 23) (as := [vr 3 0, vi 33]) (L' := [vn, vn, vn]) (rest := []) rfl (fun f r h' hf => callV_ok hf rfl rfl rfl) h ?_
    rintro _ _ ⟨I32, J33, rfl, rfl, h⟩
    refine WP.blk (pc' := 184) (L' := [vn, vn, vn]) (st' := []) (h' := (101, I32, J33, R0 b)) 1 rfl ?_
    exact WP.mask rfl rfl h
set_option maxRecDepth 20000 in
theorem t_X3_readOperand_180 {D : Nat}  (I : IM) (J : JM) (b : Bool) {Q : Option AV → AH → Prop} (h : (Call D 22 [vr 3 0] (101, I, J, R0 b) (RVf b fun I35 J36 => WP D 27 184 [vn, vn, vn] [] (101, I35, J36, R0 b) Q))) : WP D 27 180 [vr 3 0, vn, vn] [] (101, I, J, R0 b) Q := by
  refine WP.blk (pc' := 181) (L' := [vr 3 0, vn, vn]) (st' := [vr 3 0]) (h' := (101, I, J, R0 b)) 1 rfl ?_
  refine WP.cal (y' := 22) (as := [vr 3 0]) (L' := [vr 3 0, vn, vn]) (rest := []) rfl (fun f r h' hf => callV_ok hf rfl rfl rfl) h ?_
  rintro _ _ ⟨I35, J36, rfl, rfl, h⟩
  exact WP.mask rfl rfl h
set_option maxRecDepth 20000 in
theorem t_X3_readNumber {D : Nat}  (I : IM) (J : JM) (b : Bool) {Q : Option AV → AH → Prop} (h : WP D 28 4 [vr 3 0, vi 0, vi 0] [] (101, I, J, R0 b) Q) : Call (D + 1) 28 [vr 3 0] (101, I, J, R0 b) Q := by
  refine Call.of rfl ?_
  show WP D 28 0 [vr 3 0, vn, vn] [] (101, I, J, R0 b) Q
  refine WP.blk (pc' := 4) (L' := [vr 3 0, vi 0, vi 0]) (st' := []) (h' := (101, I, J, R0 b)) 4 rfl ?_
  exact WP.mask rfl rfl h
set_option maxRecDepth 20000 in
theorem t_X3_readNumber_4 {D : Nat} (l1 : Int32) (l2 : Int32) (I : IM) (J : JM) (b : Bool) {Q : Option AV → AH → Prop} (h : (if (4 : Int32) ≤ l2 then (Call D 23 [vr 3 0, vi ((1000 : Int32) + l1)] (101, I, J, R0 b) (RVf b fun I2 J3 => Q none (101, I2, J3, R0 b))) else (Call D 21 [vr 3 0] (101, I, J, R0 b) (RIf b fun x4 I5 J6 => (if x4 < (48 : Int32) then (Call D 23 [vr 3 0, vi ((1000 : Int32) + l1)] (101, I5, J6, R0 b) (RVf b fun I8 J9 => Q none (101, I8, J9, R0 b))) else (Call D 21 [vr 3 0] (101, I5, J6, R0 b) (RIf b fun x10 I11 J12 => (if (57 : Int32) < x10 then (Call D 23 [vr 3 0, vi ((1000 : Int32) + l1)] (101, I11, J12, R0 b) (RVf b fun I14 J15 => Q none (101, I14, J15, R0 b))) else (Call D 21 [vr 3 0] (101, I11, J12, R0 b) (RIf b fun x16 I17 J18 => WP D 28 4 [vr 3 0, vi (((l1 * (10 : Int32)) + x16) - (48 : Int32)), vi (l2 + 1)] [] (101, (updI I17 3 0 8 ((I17 3 0 8) + (1 : Int32))), J18, R0 b) Q)))))))))) : WP D 28 4 [vr 3 0, vi l1, vi l2] [] (101, I, J, R0 b) Q := by
  refine WP.blk (pc' := 6) (L' := [vr 3 0, vi l1, vi l2]) (st' := [vi 4, vi l2]) (h' := (101, I, J, R0 b)) 2 rfl ?_
  refine WP.icmp_ge (t := 56) (L' := [vr 3 0, vi l1, vi l2]) rfl rfl rfl rfl h (fun h => ?_) (fun h => ?_)
  · refine WP.blk (pc' := 62) (L' := [vr 3 0, vi l1, vn]) (st' := [vi ((1000 : Int32) + l1), vr 3 0]) (h' := (101, I, J, R0 b)) 4 rfl ?_
    refine WP.cal (y' := 23) (as := [vr 3 0, vi ((1000 : Int32) + l1)]) (L' := [vr 3 0, vi l1, vn]) (rest := []) rfl (fun f r h' hf => callV_ok hf rfl rfl rfl) h ?_
    rintro _ _ ⟨I2, J3, rfl, rfl, h⟩
    exact WP.ret rfl rfl h
  · refine WP.blk (pc' := 10) (L' := [vr 3 0, vi l1, vi l2]) (st' := [vr 3 0]) (h' := (101, I, J, R0 b)) 1 rfl ?_
    refine WP.cal (y' := 21) (as := [vr 3 0]) (L' := [vr 3 0, vi l1, vi l2]) (rest := []) rfl (fun f r h' hf => callV_ok hf rfl rfl rfl) h ?_
    rintro _ _ ⟨x4, I5, J6, rfl, rfl, h⟩
    refine WP.blk (pc' := 15) (L' := [vr 3 0, vi l1, vi l2]) (st' := [vi 48, vi x4]) (h' := (101, I5, J6, R0 b)) 1 rfl ?_
    refine WP.icmp_lt (t := 56) (L' := [vr 3 0, vi l1, vi l2]) rfl rfl rfl rfl h (fun h => ?_) (fun h => ?_)
    · refine WP.blk (pc' := 62) (L' := [vr 3 0, vi l1, vn]) (st' := [vi ((1000 : Int32) + l1), vr 3 0]) (h' := (101, I5, J6, R0 b)) 4 rfl ?_
      refine WP.cal (y' := 23) (as := [vr 3 0, vi ((1000 : Int32) + l1)]) (L' := [vr 3 0, vi l1, vn]) (rest := []) rfl (fun f r h' hf => callV_ok hf rfl rfl rfl) h ?_
      rintro _ _ ⟨I8, J9, rfl, rfl, h⟩
      exact WP.ret rfl rfl h
    · refine WP.blk (pc' := 19) (L' := [vr 3 0, vi l1, vi l2]) (st' := [vr 3 0]) (h' := (101, I5, J6, R0 b)) 1 rfl ?_
      refine WP.cal (y' := 21) (as := [vr 3 0]) (L' := [vr 3 0, vi l1, vi l2]) (rest := []) rfl (fun f r h' hf => callV_ok hf rfl rfl rfl) h ?_
      rintro _ _ ⟨x10, I11, J12, rfl, rfl, h⟩
      refine WP.blk (pc' := 24) (L' := [vr 3 0, vi l1, vi l2]) (st' := [vi 57, vi x10]) (h' := (101, I11, J12, R0 b)) 1 rfl ?_
      refine WP.icmp_gt (t := 56) (L' := [vr 3 0, vi l1, vi l2]) rfl rfl rfl rfl h (fun h => ?_) (fun h => ?_)
      · refine WP.blk (pc' := 62) (L' := [vr 3 0, vi l1, vn]) (st' := [vi ((1000 : Int32) + l1), vr 3 0]) (h' := (101, I11, J12, R0 b)) 4 rfl ?_
        refine WP.cal (y' := 23) (as := [vr 3 0, vi ((1000 : Int32) + l1)]) (L' := [vr 3 0, vi l1, vn]) (rest := []) rfl (fun f r h' hf => callV_ok hf rfl rfl rfl) h ?_
        rintro _ _ ⟨I14, J15, rfl, rfl, h⟩
        exact WP.ret rfl rfl h
      · refine WP.blk (pc' := 32) (L' := [vr 3 0, vi l1, vi l2]) (st' := [vr 3 0, vi (l1 * (10 : Int32))]) (h' := (101, I11, J12, R0 b)) 4 rfl ?_
        refine WP.cal (y' := 21) (as := [vr 3 0]) (L' := [vr 3 0, vi l1, vi l2]) (rest := [vi (l1 * (10 : Int32))]) rfl (fun f r h' hf => callV_ok hf rfl rfl rfl) h ?_
        rintro _ _ ⟨x16, I17, J18, rfl, rfl, h⟩
        refine WP.blk (pc' := 4) (L' := [vr 3 0, vi (((l1 * (10 : Int32)) + x16) - (48 : Int32)), vi (l2 + 1)]) (st' := []) (h' := (101, (updI I17 3 0 8 ((I17 3 0 8) + (1 : Int32))), J18, R0 b)) 12 rfl ?_
        exact WP.mask rfl rfl h
set_option maxRecDepth 20000 in
theorem t_X3_minutes {D : Nat} (l1 : Int32) (l2 : Int32) (l3 : Int32) (I : IM) (J : JM) (b : Bool) {Q : Option AV → AH → Prop} (h : (Call D 12 [vr 1 0, vi 9] (101, I, J, R0 b) (RIf b fun x1 I2 J3 => (if ¬ (I2 3 0 6) = 0 then (Call D 11 [vr 1 0, vi l1, vi 0] (101, (updI (updI I2 26 0 0 l3) 26 0 1 x1), J3, R0 b) (RIf b fun x4 I5 J6 => (Call D 11 [vr 1 0, vi l1, vi 2] (101, (updI I5 26 0 2 x4), J6, R0 b) (RIf b fun x7 I8 J9 => (Call D 30 [vr 3 0] (101, (updI (updI (updI I8 26 0 3 x7) 26 0 4 l2) 26 0 5 l1), J9, R0 b) (RIf b fun x10 I11 J12 => Q (some (vi (if (0 : Int32) < (if x10 < (99 : Int32) then x10 else (99 : Int32)) then (if x10 < (99 : Int32) then x10 else (99 : Int32)) else (0 : Int32)))) (101, I11, J12, R0 b))))))) else Q (some (vi (if (1 : Int32) < (((30 : Int32) - l3) - (x1 / (2 : Int32))) then (((30 : Int32) - l3) - (x1 / (2 : Int32))) else (1 : Int32)))) (101, I2, J3, R0 b))))) : Call (D + 1) 29 [vr 3 0, vi l1, vi l2, vi l3] (101, I, J, R0 b) Q := by
  refine Call.of rfl ?_
  show WP D 29 0 [vr 3 0, vi l1, vi l2, vi l3, vn] [] (101, I, J, R0 b) Q
  refine WP.blk (pc' := 6) (L' := [vr 3 0, vi l1, vi l2, vi l3, vn]) (st' := [vi 9, vr 1 0]) (h' := (101, I, J, R0 b)) 3 rfl ?_
  refine WP.cal (y' := 12) (as := [vr 1 0, vi 9]) (L' := [vr 3 0, vi l1, vi l2, vi l3, vn]) (rest := []) rfl (fun f r h' hf => callV_ok hf rfl rfl rfl) h ?_
  rintro _ _ ⟨x1, I2, J3, rfl, rfl, h⟩
  refine WP.blk (pc' := 15) (L' := [vr 3 0, vi l1, vi l2, vi l3, vi x1]) (st' := [vi (I2 3 0 6)]) (h' := (101, I2, J3, R0 b)) 3 rfl ?_
  refine WP.if_ne (t := 32) (L' := [vr 3 0, vi l1, vi l2, vi l3, vi x1]) rfl rfl rfl rfl h (fun h => ?_) (fun h => ?_)
  · refine WP.blk (pc' := 58) (L' := [vr 3 0, vi l1, vi l2, vi l3, vi x1]) (st' := [vi 0, vi l1, vr 1 0, vi 2, vr 26 0]) (h' := (101, (updI (updI I2 26 0 0 l3) 26 0 1 x1), J3, R0 b)) 17 rfl ?_
    refine WP.cal (y' := 11) (as := [vr 1 0, vi l1, vi 0]) (L' := [vr 3 0, vi l1, vi l2, vi l3, vi x1]) (rest := [vi 2, vr 26 0]) rfl (fun f r h' hf => callV_ok hf rfl rfl rfl) h ?_
    rintro _ _ ⟨x4, I5, J6, rfl, rfl, h⟩
    refine WP.blk (pc' := 73) (L' := [vr 3 0, vi l1, vi l2, vi l3, vi x1]) (st' := [vi 2, vi l1, vr 1 0, vi 3, vr 26 0]) (h' := (101, (updI I5 26 0 2 x4), J6, R0 b)) 8 rfl ?_
    refine WP.cal (y' := 11) (as := [vr 1 0, vi l1, vi 2]) (L' := [vr 3 0, vi l1, vi l2, vi l3, vi x1]) (rest := [vi 3, vr 26 0]) rfl (fun f r h' hf => callV_ok hf rfl rfl rfl) h ?_
    rintro _ _ ⟨x7, I8, J9, rfl, rfl, h⟩
    refine WP.blk (pc' := 95) (L' := [vr 3 0, vi l1, vi l2, vi l3, vi x1]) (st' := [vr 3 0, vi 99, vi 0]) (h' := (101, (updI (updI (updI I8 26 0 3 x7) 26 0 4 l2) 26 0 5 l1), J9, R0 b)) 14 rfl ?_
    refine WP.cal (y' := 30) (as := [vr 3 0]) (L' := [vr 3 0, vi l1, vi l2, vi l3, vi x1]) (rest := [vi 99, vi 0]) rfl (fun f r h' hf => callV_ok hf rfl rfl rfl) h ?_
    rintro _ _ ⟨x10, I11, J12, rfl, rfl, h⟩
    refine WP.blk (pc' := 104) (L' := [vr 3 0, vi l1, vi l2, vi l3, vi x1]) (st' := [vi (if (0 : Int32) < (if x10 < (99 : Int32) then x10 else (99 : Int32)) then (if x10 < (99 : Int32) then x10 else (99 : Int32)) else (0 : Int32))]) (h' := (101, I11, J12, R0 b)) 2 rfl ?_
    exact WP.ret rfl rfl h
  · refine WP.blk (pc' := 31) (L' := [vr 3 0, vi l1, vi l2, vi l3, vi x1]) (st' := [vi (if (1 : Int32) < (((30 : Int32) - l3) - (x1 / (2 : Int32))) then (((30 : Int32) - l3) - (x1 / (2 : Int32))) else (1 : Int32))]) (h' := (101, I2, J3, R0 b)) 9 rfl ?_
    exact WP.ret rfl rfl h
set_option maxRecDepth 20000 in
theorem t_X3_workOut_f {D : Nat}  (I : IM) (J : JM) {Q : Option AV → AH → Prop} (h : WP D 30 4 [vr 3 0, vi 0, vi 0, vn, vn] [] (101, I, J, R0 false) Q) : Call (D + 1) 30 [vr 3 0] (101, I, J, R0 false) Q := by
  refine Call.of rfl ?_
  show WP D 30 0 [vr 3 0, vn, vn, vn, vn] [] (101, I, J, R0 false) Q
  refine WP.blk (pc' := 4) (L' := [vr 3 0, vi 0, vi 0, vn, vn]) (st' := []) (h' := (101, I, J, R0 false)) 4 rfl ?_
  exact WP.mask rfl rfl h
set_option maxRecDepth 20000 in
theorem t_X3_workOut_f_4 {D : Nat} (l1 : Int32) (l2 : Int32) (I : IM) (J : JM) {Q : Option AV → AH → Prop} (h : (if (I 3 0 6) ≤ l2 then Q (some (vi 0)) (101, I, J, R0 false) else (vp_in l2 256 ∧ (if (I 27 0 l2.toNatClampNeg) < (200 : Int32) then (if (1 : Int32) ≤ l1 then (if ¬ (I 27 0 l2.toNatClampNeg) = (59 : Int32) then (if ¬ (I 27 0 l2.toNatClampNeg) = (63 : Int32) then (if (I 27 0 l2.toNatClampNeg) = (33 : Int32) then (vp_in (l1 - (1 : Int32)) 128 ∧ (if ¬ (I 27 0 l2.toNatClampNeg) = (78 : Int32) then (if ¬ (I 25 0 (l1 - (1 : Int32)).toNatClampNeg) = 0 then (Call D 31 [vi 0] (101, I, J, R0 false) (RIf false fun x1 I2 J3 => (vp_in (l1 - (1 : Int32)) 128 ∧ WP D 30 4 [vr 3 0, vi l1, vi (l2 + 1), vn, vn] [] (101, (updI I2 25 0 (l1 - (1 : Int32)).toNatClampNeg x1), J3, R0 false) Q))) else (Call D 31 [vi 1] (101, I, J, R0 false) (RIf false fun x4 I5 J6 => (vp_in (l1 - (1 : Int32)) 128 ∧ WP D 30 4 [vr 3 0, vi l1, vi (l2 + 1), vn, vn] [] (101, (updI I5 25 0 (l1 - (1 : Int32)).toNatClampNeg x4), J6, R0 false) Q)))) else (vp_in (l1 - (1 : Int32)) 128 ∧ WP D 30 4 [vr 3 0, vi l1, vi (l2 + 1), vn, vn] [] (101, (updI I 25 0 (l1 - (1 : Int32)).toNatClampNeg (-(I 25 0 (l1 - (1 : Int32)).toNatClampNeg))), J, R0 false) Q))) else (if ¬ (I 27 0 l2.toNatClampNeg) = (78 : Int32) then (if (2 : Int32) ≤ l1 then (vp_in ((l1 + (-1)) - (1 : Int32)) 128 ∧ (vp_in (l1 + (-1)) 128 ∧ (Call D 32 [vi (I 27 0 l2.toNatClampNeg), vi (I 25 0 ((l1 + (-1)) - (1 : Int32)).toNatClampNeg), vi (I 25 0 (l1 + (-1)).toNatClampNeg)] (101, I, J, R0 false) (RIf false fun x7 I8 J9 => (vp_in ((l1 + (-1)) - (1 : Int32)) 128 ∧ WP D 30 4 [vr 3 0, vi (l1 + (-1)), vi (l2 + 1), vn, vn] [] (101, (updI I8 25 0 ((l1 + (-1)) - (1 : Int32)).toNatClampNeg x7), J9, R0 false) Q))))) else Q (some (vi 0)) (101, I, J, R0 false)) else (vp_in (l1 - (1 : Int32)) 128 ∧ (if ¬ (I 27 0 l2.toNatClampNeg) = (78 : Int32) then (if ¬ (I 25 0 (l1 - (1 : Int32)).toNatClampNeg) = 0 then (Call D 31 [vi 0] (101, I, J, R0 false) (RIf false fun x10 I11 J12 => (vp_in (l1 - (1 : Int32)) 128 ∧ WP D 30 4 [vr 3 0, vi l1, vi (l2 + 1), vn, vn] [] (101, (updI I11 25 0 (l1 - (1 : Int32)).toNatClampNeg x10), J12, R0 false) Q))) else (Call D 31 [vi 1] (101, I, J, R0 false) (RIf false fun x13 I14 J15 => (vp_in (l1 - (1 : Int32)) 128 ∧ WP D 30 4 [vr 3 0, vi l1, vi (l2 + 1), vn, vn] [] (101, (updI I14 25 0 (l1 - (1 : Int32)).toNatClampNeg x13), J15, R0 false) Q)))) else (vp_in (l1 - (1 : Int32)) 128 ∧ WP D 30 4 [vr 3 0, vi l1, vi (l2 + 1), vn, vn] [] (101, (updI I 25 0 (l1 - (1 : Int32)).toNatClampNeg (-(I 25 0 (l1 - (1 : Int32)).toNatClampNeg))), J, R0 false) Q))))) else (if (I 3 0 6) ≤ (l2 + (1 : Int32)) then (vp_in (l1 + (-1)) 128 ∧ (if ¬ (I 25 0 (l1 + (-1)).toNatClampNeg) = 0 then WP D 30 4 [vr 3 0, vi (l1 + (-1)), vi ((l2 + (1 : Int32)) + 1), vn, vn] [] (101, I, J, R0 false) Q else WP D 30 4 [vr 3 0, vi (l1 + (-1)), vi ((if l2 < ((I 3 0 6) - (1 : Int32)) then ((I 3 0 6) - (1 : Int32)) else l2) + 1), vn, vn] [] (101, I, J, R0 false) Q)) else (vp_in (l2 + (1 : Int32)) 256 ∧ (vp_in (l1 + (-1)) 128 ∧ (if ¬ (I 25 0 (l1 + (-1)).toNatClampNeg) = 0 then WP D 30 4 [vr 3 0, vi (l1 + (-1)), vi ((l2 + (1 : Int32)) + 1), vn, vn] [] (101, I, J, R0 false) Q else WP D 30 4 [vr 3 0, vi (l1 + (-1)), vi ((if l2 < ((I 27 0 (l2 + (1 : Int32)).toNatClampNeg) - (1 : Int32)) then ((I 27 0 (l2 + (1 : Int32)).toNatClampNeg) - (1 : Int32)) else l2) + 1), vn, vn] [] (101, I, J, R0 false) Q))))) else (vp_in (l1 - (1 : Int32)) 128 ∧ Q (some (vi (I 25 0 (l1 - (1 : Int32)).toNatClampNeg))) (101, I, J, R0 false))) else Q (some (vi 0)) (101, I, J, R0 false)) else (if l1 < (128 : Int32) then (Call D 259 [vr 3 0, vi (I 27 0 l2.toNatClampNeg)] (101, I, J, R0 false) (RIf false fun x16 I17 J18 => (vp_in l1 128 ∧ WP D 30 4 [vr 3 0, vi (l1 + 1), vi (l2 + 1), vn, vn] [] (101, (updI I17 25 0 l1.toNatClampNeg x16), J18, R0 false) Q))) else Q (some (vi 0)) (101, I, J, R0 false)))))) : WP D 30 4 [vr 3 0, vi l1, vi l2, vn, vn] [] (101, I, J, R0 false) Q := by
  refine WP.blk (pc' := 9) (L' := [vr 3 0, vi l1, vi l2, vn, vn]) (st' := [vi (I 3 0 6), vi l2]) (h' := (101, I, J, R0 false)) 3 rfl ?_
  refine WP.icmp_ge (t := 237) (L' := [vr 3 0, vi l1, vi l2, vn, vn]) rfl rfl rfl rfl h (fun h => ?_) (fun h => ?_)
  · refine WP.blk (pc' := 238) (L' := [vr 3 0, vi l1, vi l2, vn, vn]) (st' := [vi 0]) (h' := (101, I, J, R0 false)) 1 rfl ?_
    exact WP.ret rfl rfl h
  · refine WP.blk (pc' := 17) (L' := [vr 3 0, vi l1, vi l2, vn, vn]) (st' := [vi l2, vr 27 0]) (h' := (101, I, J, R0 false)) 3 rfl ?_
    refine WP.step (pc' := 18) (L' := [vr 3 0, vi l1, vi l2, vn, vn]) (st' := [vi (I 27 0 l2.toNatClampNeg)]) (h' := (101, I, J, R0 false)) rfl (iaload_ok (n := 256) rfl rfl rfl (inA_of h.1)) ?_
    have h := And.right h
    refine WP.blk (pc' := 23) (L' := [vr 3 0, vi l1, vi l2, vi (I 27 0 l2.toNatClampNeg), vn]) (st' := [vi 200, vi (I 27 0 l2.toNatClampNeg)]) (h' := (101, I, J, R0 false)) 3 rfl ?_
    refine WP.icmp_lt (t := 52) (L' := [vr 3 0, vi l1, vi l2, vi (I 27 0 l2.toNatClampNeg), vn]) rfl rfl rfl rfl h (fun h => ?_) (fun h => ?_)
    · refine WP.blk (pc' := 54) (L' := [vr 3 0, vi l1, vi l2, vi (I 27 0 l2.toNatClampNeg), vn]) (st' := [vi 1, vi l1]) (h' := (101, I, J, R0 false)) 2 rfl ?_
      refine WP.icmp_ge (t := 59) (L' := [vr 3 0, vi l1, vi l2, vi (I 27 0 l2.toNatClampNeg), vn]) rfl rfl rfl rfl h (fun h => ?_) (fun h => ?_)
      · refine WP.blk (pc' := 62) (L' := [vr 3 0, vi l1, vi l2, vi (I 27 0 l2.toNatClampNeg), vn]) (st' := [vi 59, vi (I 27 0 l2.toNatClampNeg)]) (h' := (101, I, J, R0 false)) 2 rfl ?_
        refine WP.icmp_ne (t := 74) (L' := [vr 3 0, vi l1, vi l2, vi (I 27 0 l2.toNatClampNeg), vn]) rfl rfl rfl rfl h (fun h => ?_) (fun h => ?_)
        · refine WP.blk (pc' := 77) (L' := [vr 3 0, vi l1, vi l2, vi (I 27 0 l2.toNatClampNeg), vn]) (st' := [vi 63, vi (I 27 0 l2.toNatClampNeg)]) (h' := (101, I, J, R0 false)) 2 rfl ?_
          refine WP.icmp_ne (t := 137) (L' := [vr 3 0, vi l1, vi l2, vi (I 27 0 l2.toNatClampNeg), vn]) rfl rfl rfl rfl h (fun h => ?_) (fun h => ?_)
          · refine WP.blk (pc' := 140) (L' := [vr 3 0, vi l1, vi l2, vi (I 27 0 l2.toNatClampNeg), vn]) (st' := [vi 33, vi (I 27 0 l2.toNatClampNeg)]) (h' := (101, I, J, R0 false)) 2 rfl ?_
            refine WP.icmp_eq (t := 149) (L' := [vr 3 0, vi l1, vi l2, vi (I 27 0 l2.toNatClampNeg), vn]) rfl rfl rfl rfl h (fun h => ?_) (fun h => ?_)
            · refine WP.blk (pc' := 156) (L' := [vr 3 0, vi l1, vi l2, vi (I 27 0 l2.toNatClampNeg), vn]) (st' := [vi (l1 - (1 : Int32)), vr 25 0]) (h' := (101, I, J, R0 false)) 5 rfl ?_
              refine WP.step (pc' := 157) (L' := [vr 3 0, vi l1, vi l2, vi (I 27 0 l2.toNatClampNeg), vn]) (st' := [vi (I 25 0 (l1 - (1 : Int32)).toNatClampNeg)]) (h' := (101, I, J, R0 false)) rfl (iaload_ok (n := 128) rfl rfl rfl (inA_of h.1)) ?_
              have h := And.right h
              refine WP.blk (pc' := 169) (L' := [vr 3 0, vi l1, vi l2, vi (I 27 0 l2.toNatClampNeg), vi (I 25 0 (l1 - (1 : Int32)).toNatClampNeg)]) (st' := [vi 78, vi (I 27 0 l2.toNatClampNeg), vi (l1 - (1 : Int32)), vr 25 0]) (h' := (101, I, J, R0 false)) 8 rfl ?_
              refine WP.icmp_ne (t := 178) (L' := [vr 3 0, vi l1, vi l2, vi (I 27 0 l2.toNatClampNeg), vi (I 25 0 (l1 - (1 : Int32)).toNatClampNeg)]) rfl rfl rfl rfl h (fun h => ?_) (fun h => ?_)
              · refine WP.blk (pc' := 180) (L' := [vr 3 0, vi l1, vi l2, vi (I 27 0 l2.toNatClampNeg), vi (I 25 0 (l1 - (1 : Int32)).toNatClampNeg)]) (st' := [vi (I 25 0 (l1 - (1 : Int32)).toNatClampNeg), vi (l1 - (1 : Int32)), vr 25 0]) (h' := (101, I, J, R0 false)) 1 rfl ?_
                refine WP.if_ne (t := 187) (L' := [vr 3 0, vi l1, vi l2, vi (I 27 0 l2.toNatClampNeg), vi (I 25 0 (l1 - (1 : Int32)).toNatClampNeg)]) rfl rfl rfl rfl h (fun h => ?_) (fun h => ?_)
                · refine WP.blk (pc' := 188) (L' := [vr 3 0, vi l1, vi l2, vi (I 27 0 l2.toNatClampNeg), vi (I 25 0 (l1 - (1 : Int32)).toNatClampNeg)]) (st' := [vi 0, vi (l1 - (1 : Int32)), vr 25 0]) (h' := (101, I, J, R0 false)) 1 rfl ?_
                  refine WP.cal (y' := 31) (as := [vi 0]) (L' := [vr 3 0, vi l1, vi l2, vn, vn]) (rest := [vi (l1 - (1 : Int32)), vr 25 0]) rfl (fun f r h' hf => callS_ok hf rfl rfl rfl) h ?_
                  rintro _ _ ⟨x1, I2, J3, rfl, rfl, h⟩
                  refine WP.step (pc' := 192) (L' := [vr 3 0, vi l1, vi l2, vn, vn]) (st' := []) (h' := (101, (updI I2 25 0 (l1 - (1 : Int32)).toNatClampNeg x1), J3, R0 false)) rfl (iastore_ok (n := 128) rfl rfl rfl (inA_of h.1)) ?_
                  have h := And.right h
                  refine WP.blk (pc' := 4) (L' := [vr 3 0, vi l1, vi (l2 + 1), vn, vn]) (st' := []) (h' := (101, (updI I2 25 0 (l1 - (1 : Int32)).toNatClampNeg x1), J3, R0 false)) 3 rfl ?_
                  exact WP.mask rfl rfl h
                · refine WP.blk (pc' := 188) (L' := [vr 3 0, vi l1, vi l2, vi (I 27 0 l2.toNatClampNeg), vi (I 25 0 (l1 - (1 : Int32)).toNatClampNeg)]) (st' := [vi 1, vi (l1 - (1 : Int32)), vr 25 0]) (h' := (101, I, J, R0 false)) 2 rfl ?_
                  refine WP.cal (y' := 31) (as := [vi 1]) (L' := [vr 3 0, vi l1, vi l2, vn, vn]) (rest := [vi (l1 - (1 : Int32)), vr 25 0]) rfl (fun f r h' hf => callS_ok hf rfl rfl rfl) h ?_
                  rintro _ _ ⟨x4, I5, J6, rfl, rfl, h⟩
                  refine WP.step (pc' := 192) (L' := [vr 3 0, vi l1, vi l2, vn, vn]) (st' := []) (h' := (101, (updI I5 25 0 (l1 - (1 : Int32)).toNatClampNeg x4), J6, R0 false)) rfl (iastore_ok (n := 128) rfl rfl rfl (inA_of h.1)) ?_
                  have h := And.right h
                  refine WP.blk (pc' := 4) (L' := [vr 3 0, vi l1, vi (l2 + 1), vn, vn]) (st' := []) (h' := (101, (updI I5 25 0 (l1 - (1 : Int32)).toNatClampNeg x4), J6, R0 false)) 3 rfl ?_
                  exact WP.mask rfl rfl h
              · refine WP.blk (pc' := 191) (L' := [vr 3 0, vi l1, vi l2, vi (I 27 0 l2.toNatClampNeg), vi (I 25 0 (l1 - (1 : Int32)).toNatClampNeg)]) (st' := [vi (-(I 25 0 (l1 - (1 : Int32)).toNatClampNeg)), vi (l1 - (1 : Int32)), vr 25 0]) (h' := (101, I, J, R0 false)) 3 rfl ?_
                refine WP.step (pc' := 192) (L' := [vr 3 0, vi l1, vi l2, vn, vn]) (st' := []) (h' := (101, (updI I 25 0 (l1 - (1 : Int32)).toNatClampNeg (-(I 25 0 (l1 - (1 : Int32)).toNatClampNeg))), J, R0 false)) rfl (iastore_ok (n := 128) rfl rfl rfl (inA_of h.1)) ?_
                have h := And.right h
                refine WP.blk (pc' := 4) (L' := [vr 3 0, vi l1, vi (l2 + 1), vn, vn]) (st' := []) (h' := (101, (updI I 25 0 (l1 - (1 : Int32)).toNatClampNeg (-(I 25 0 (l1 - (1 : Int32)).toNatClampNeg))), J, R0 false)) 3 rfl ?_
                exact WP.mask rfl rfl h
            · refine WP.blk (pc' := 146) (L' := [vr 3 0, vi l1, vi l2, vi (I 27 0 l2.toNatClampNeg), vn]) (st' := [vi 78, vi (I 27 0 l2.toNatClampNeg)]) (h' := (101, I, J, R0 false)) 2 rfl ?_
              refine WP.icmp_ne (t := 195) (L' := [vr 3 0, vi l1, vi l2, vi (I 27 0 l2.toNatClampNeg), vn]) rfl rfl rfl rfl h (fun h => ?_) (fun h => ?_)
              · refine WP.blk (pc' := 197) (L' := [vr 3 0, vi l1, vi l2, vi (I 27 0 l2.toNatClampNeg), vn]) (st' := [vi 2, vi l1]) (h' := (101, I, J, R0 false)) 2 rfl ?_
                refine WP.icmp_ge (t := 202) (L' := [vr 3 0, vi l1, vi l2, vi (I 27 0 l2.toNatClampNeg), vn]) rfl rfl rfl rfl h (fun h => ?_) (fun h => ?_)
                · refine WP.blk (pc' := 220) (L' := [vr 3 0, vi (l1 + (-1)), vi l2, vi (I 27 0 l2.toNatClampNeg), vn]) (st' := [vi ((l1 + (-1)) - (1 : Int32)), vr 25 0, vi (I 27 0 l2.toNatClampNeg), vi ((l1 + (-1)) - (1 : Int32)), vr 25 0]) (h' := (101, I, J, R0 false)) 12 rfl ?_
                  refine WP.step (pc' := 221) (L' := [vr 3 0, vi (l1 + (-1)), vi l2, vi (I 27 0 l2.toNatClampNeg), vn]) (st' := [vi (I 25 0 ((l1 + (-1)) - (1 : Int32)).toNatClampNeg), vi (I 27 0 l2.toNatClampNeg), vi ((l1 + (-1)) - (1 : Int32)), vr 25 0]) (h' := (101, I, J, R0 false)) rfl (iaload_ok (n := 128) rfl rfl rfl (inA_of h.1)) ?_
                  have h := And.right h
                  refine WP.blk (pc' := 226) (L' := [vr 3 0, vi (l1 + (-1)), vi l2, vi (I 27 0 l2.toNatClampNeg), vn]) (st' := [vi (l1 + (-1)), vr 25 0, vi (I 25 0 ((l1 + (-1)) - (1 : Int32)).toNatClampNeg), vi (I 27 0 l2.toNatClampNeg), vi ((l1 + (-1)) - (1 : Int32)), vr 25 0]) (h' := (101, I, J, R0 false)) 3 rfl ?_
                  refine WP.step (pc' := 227) (L' := [vr 3 0, vi (l1 + (-1)), vi l2, vi (I 27 0 l2.toNatClampNeg), vn]) (st' := [vi (I 25 0 (l1 + (-1)).toNatClampNeg), vi (I 25 0 ((l1 + (-1)) - (1 : Int32)).toNatClampNeg), vi (I 27 0 l2.toNatClampNeg), vi ((l1 + (-1)) - (1 : Int32)), vr 25 0]) (h' := (101, I, J, R0 false)) rfl (iaload_ok (n := 128) rfl rfl rfl (inA_of h.1)) ?_
                  have h := And.right h
                  refine WP.cal (y' := 32) (as := [vi (I 27 0 l2.toNatClampNeg), vi (I 25 0 ((l1 + (-1)) - (1 : Int32)).toNatClampNeg), vi (I 25 0 (l1 + (-1)).toNatClampNeg)]) (L' := [vr 3 0, vi (l1 + (-1)), vi l2, vi (I 27 0 l2.toNatClampNeg), vn]) (rest := [vi ((l1 + (-1)) - (1 : Int32)), vr 25 0]) rfl (fun f r h' hf => callS_ok hf rfl rfl rfl) h ?_
                  rintro _ _ ⟨x7, I8, J9, rfl, rfl, h⟩
                  refine WP.step (pc' := 231) (L' := [vr 3 0, vi (l1 + (-1)), vi l2, vi (I 27 0 l2.toNatClampNeg), vn]) (st' := []) (h' := (101, (updI I8 25 0 ((l1 + (-1)) - (1 : Int32)).toNatClampNeg x7), J9, R0 false)) rfl (iastore_ok (n := 128) rfl rfl rfl (inA_of h.1)) ?_
                  have h := And.right h
                  refine WP.blk (pc' := 4) (L' := [vr 3 0, vi (l1 + (-1)), vi (l2 + 1), vn, vn]) (st' := []) (h' := (101, (updI I8 25 0 ((l1 + (-1)) - (1 : Int32)).toNatClampNeg x7), J9, R0 false)) 2 rfl ?_
                  exact WP.mask rfl rfl h
                · refine WP.blk (pc' := 201) (L' := [vr 3 0, vi l1, vi l2, vi (I 27 0 l2.toNatClampNeg), vn]) (st' := [vi 0]) (h' := (101, I, J, R0 false)) 1 rfl ?_
                  exact WP.ret rfl rfl h
              · refine WP.blk (pc' := 156) (L' := [vr 3 0, vi l1, vi l2, vi (I 27 0 l2.toNatClampNeg), vn]) (st' := [vi (l1 - (1 : Int32)), vr 25 0]) (h' := (101, I, J, R0 false)) 5 rfl ?_
                refine WP.step (pc' := 157) (L' := [vr 3 0, vi l1, vi l2, vi (I 27 0 l2.toNatClampNeg), vn]) (st' := [vi (I 25 0 (l1 - (1 : Int32)).toNatClampNeg)]) (h' := (101, I, J, R0 false)) rfl (iaload_ok (n := 128) rfl rfl rfl (inA_of h.1)) ?_
                have h := And.right h
                refine WP.blk (pc' := 169) (L' := [vr 3 0, vi l1, vi l2, vi (I 27 0 l2.toNatClampNeg), vi (I 25 0 (l1 - (1 : Int32)).toNatClampNeg)]) (st' := [vi 78, vi (I 27 0 l2.toNatClampNeg), vi (l1 - (1 : Int32)), vr 25 0]) (h' := (101, I, J, R0 false)) 8 rfl ?_
                refine WP.icmp_ne (t := 178) (L' := [vr 3 0, vi l1, vi l2, vi (I 27 0 l2.toNatClampNeg), vi (I 25 0 (l1 - (1 : Int32)).toNatClampNeg)]) rfl rfl rfl rfl h (fun h => ?_) (fun h => ?_)
                · refine WP.blk (pc' := 180) (L' := [vr 3 0, vi l1, vi l2, vi (I 27 0 l2.toNatClampNeg), vi (I 25 0 (l1 - (1 : Int32)).toNatClampNeg)]) (st' := [vi (I 25 0 (l1 - (1 : Int32)).toNatClampNeg), vi (l1 - (1 : Int32)), vr 25 0]) (h' := (101, I, J, R0 false)) 1 rfl ?_
                  refine WP.if_ne (t := 187) (L' := [vr 3 0, vi l1, vi l2, vi (I 27 0 l2.toNatClampNeg), vi (I 25 0 (l1 - (1 : Int32)).toNatClampNeg)]) rfl rfl rfl rfl h (fun h => ?_) (fun h => ?_)
                  · refine WP.blk (pc' := 188) (L' := [vr 3 0, vi l1, vi l2, vi (I 27 0 l2.toNatClampNeg), vi (I 25 0 (l1 - (1 : Int32)).toNatClampNeg)]) (st' := [vi 0, vi (l1 - (1 : Int32)), vr 25 0]) (h' := (101, I, J, R0 false)) 1 rfl ?_
                    refine WP.cal (y' := 31) (as := [vi 0]) (L' := [vr 3 0, vi l1, vi l2, vn, vn]) (rest := [vi (l1 - (1 : Int32)), vr 25 0]) rfl (fun f r h' hf => callS_ok hf rfl rfl rfl) h ?_
                    rintro _ _ ⟨x10, I11, J12, rfl, rfl, h⟩
                    refine WP.step (pc' := 192) (L' := [vr 3 0, vi l1, vi l2, vn, vn]) (st' := []) (h' := (101, (updI I11 25 0 (l1 - (1 : Int32)).toNatClampNeg x10), J12, R0 false)) rfl (iastore_ok (n := 128) rfl rfl rfl (inA_of h.1)) ?_
                    have h := And.right h
                    refine WP.blk (pc' := 4) (L' := [vr 3 0, vi l1, vi (l2 + 1), vn, vn]) (st' := []) (h' := (101, (updI I11 25 0 (l1 - (1 : Int32)).toNatClampNeg x10), J12, R0 false)) 3 rfl ?_
                    exact WP.mask rfl rfl h
                  · refine WP.blk (pc' := 188) (L' := [vr 3 0, vi l1, vi l2, vi (I 27 0 l2.toNatClampNeg), vi (I 25 0 (l1 - (1 : Int32)).toNatClampNeg)]) (st' := [vi 1, vi (l1 - (1 : Int32)), vr 25 0]) (h' := (101, I, J, R0 false)) 2 rfl ?_
                    refine WP.cal (y' := 31) (as := [vi 1]) (L' := [vr 3 0, vi l1, vi l2, vn, vn]) (rest := [vi (l1 - (1 : Int32)), vr 25 0]) rfl (fun f r h' hf => callS_ok hf rfl rfl rfl) h ?_
                    rintro _ _ ⟨x13, I14, J15, rfl, rfl, h⟩
                    refine WP.step (pc' := 192) (L' := [vr 3 0, vi l1, vi l2, vn, vn]) (st' := []) (h' := (101, (updI I14 25 0 (l1 - (1 : Int32)).toNatClampNeg x13), J15, R0 false)) rfl (iastore_ok (n := 128) rfl rfl rfl (inA_of h.1)) ?_
                    have h := And.right h
                    refine WP.blk (pc' := 4) (L' := [vr 3 0, vi l1, vi (l2 + 1), vn, vn]) (st' := []) (h' := (101, (updI I14 25 0 (l1 - (1 : Int32)).toNatClampNeg x13), J15, R0 false)) 3 rfl ?_
                    exact WP.mask rfl rfl h
                · refine WP.blk (pc' := 191) (L' := [vr 3 0, vi l1, vi l2, vi (I 27 0 l2.toNatClampNeg), vi (I 25 0 (l1 - (1 : Int32)).toNatClampNeg)]) (st' := [vi (-(I 25 0 (l1 - (1 : Int32)).toNatClampNeg)), vi (l1 - (1 : Int32)), vr 25 0]) (h' := (101, I, J, R0 false)) 3 rfl ?_
                  refine WP.step (pc' := 192) (L' := [vr 3 0, vi l1, vi l2, vn, vn]) (st' := []) (h' := (101, (updI I 25 0 (l1 - (1 : Int32)).toNatClampNeg (-(I 25 0 (l1 - (1 : Int32)).toNatClampNeg))), J, R0 false)) rfl (iastore_ok (n := 128) rfl rfl rfl (inA_of h.1)) ?_
                  have h := And.right h
                  refine WP.blk (pc' := 4) (L' := [vr 3 0, vi l1, vi (l2 + 1), vn, vn]) (st' := []) (h' := (101, (updI I 25 0 (l1 - (1 : Int32)).toNatClampNeg (-(I 25 0 (l1 - (1 : Int32)).toNatClampNeg))), J, R0 false)) 3 rfl ?_
                  exact WP.mask rfl rfl h
          · refine WP.blk (pc' := 90) (L' := [vr 3 0, vi (l1 + (-1)), vi l2, vi (I 27 0 l2.toNatClampNeg), vn]) (st' := [vi (I 3 0 6), vi (l2 + (1 : Int32))]) (h' := (101, I, J, R0 false)) 6 rfl ?_
            refine WP.icmp_ge (t := 104) (L' := [vr 3 0, vi (l1 + (-1)), vi l2, vi (I 27 0 l2.toNatClampNeg), vn]) rfl rfl rfl rfl h (fun h => ?_) (fun h => ?_)
            · refine WP.blk (pc' := 115) (L' := [vr 3 0, vi (l1 + (-1)), vi l2, vn, vi (I 3 0 6)]) (st' := [vi (l1 + (-1)), vr 25 0]) (h' := (101, I, J, R0 false)) 6 rfl ?_
              refine WP.step (pc' := 116) (L' := [vr 3 0, vi (l1 + (-1)), vi l2, vn, vi (I 3 0 6)]) (st' := [vi (I 25 0 (l1 + (-1)).toNatClampNeg)]) (h' := (101, I, J, R0 false)) rfl (iaload_ok (n := 128) rfl rfl rfl (inA_of h.1)) ?_
              have h := And.right h
              refine WP.if_ne (t := 130) (L' := [vr 3 0, vi (l1 + (-1)), vi l2, vn, vi (I 3 0 6)]) rfl rfl rfl rfl h (fun h => ?_) (fun h => ?_)
              · refine WP.blk (pc' := 4) (L' := [vr 3 0, vi (l1 + (-1)), vi ((l2 + (1 : Int32)) + 1), vn, vn]) (st' := []) (h' := (101, I, J, R0 false)) 7 rfl ?_
                exact WP.mask rfl rfl h
              · refine WP.blk (pc' := 4) (L' := [vr 3 0, vi (l1 + (-1)), vi ((if l2 < ((I 3 0 6) - (1 : Int32)) then ((I 3 0 6) - (1 : Int32)) else l2) + 1), vn, vn]) (st' := []) (h' := (101, I, J, R0 false)) 10 rfl ?_
                exact WP.mask rfl rfl h
            · refine WP.blk (pc' := 100) (L' := [vr 3 0, vi (l1 + (-1)), vi l2, vi (I 27 0 l2.toNatClampNeg), vn]) (st' := [vi (l2 + (1 : Int32)), vr 27 0]) (h' := (101, I, J, R0 false)) 5 rfl ?_
              refine WP.step (pc' := 101) (L' := [vr 3 0, vi (l1 + (-1)), vi l2, vi (I 27 0 l2.toNatClampNeg), vn]) (st' := [vi (I 27 0 (l2 + (1 : Int32)).toNatClampNeg)]) (h' := (101, I, J, R0 false)) rfl (iaload_ok (n := 256) rfl rfl rfl (inA_of h.1)) ?_
              have h := And.right h
              refine WP.blk (pc' := 115) (L' := [vr 3 0, vi (l1 + (-1)), vi l2, vn, vi (I 27 0 (l2 + (1 : Int32)).toNatClampNeg)]) (st' := [vi (l1 + (-1)), vr 25 0]) (h' := (101, I, J, R0 false)) 5 rfl ?_
              refine WP.step (pc' := 116) (L' := [vr 3 0, vi (l1 + (-1)), vi l2, vn, vi (I 27 0 (l2 + (1 : Int32)).toNatClampNeg)]) (st' := [vi (I 25 0 (l1 + (-1)).toNatClampNeg)]) (h' := (101, I, J, R0 false)) rfl (iaload_ok (n := 128) rfl rfl rfl (inA_of h.1)) ?_
              have h := And.right h
              refine WP.if_ne (t := 130) (L' := [vr 3 0, vi (l1 + (-1)), vi l2, vn, vi (I 27 0 (l2 + (1 : Int32)).toNatClampNeg)]) rfl rfl rfl rfl h (fun h => ?_) (fun h => ?_)
              · refine WP.blk (pc' := 4) (L' := [vr 3 0, vi (l1 + (-1)), vi ((l2 + (1 : Int32)) + 1), vn, vn]) (st' := []) (h' := (101, I, J, R0 false)) 7 rfl ?_
                exact WP.mask rfl rfl h
              · refine WP.blk (pc' := 4) (L' := [vr 3 0, vi (l1 + (-1)), vi ((if l2 < ((I 27 0 (l2 + (1 : Int32)).toNatClampNeg) - (1 : Int32)) then ((I 27 0 (l2 + (1 : Int32)).toNatClampNeg) - (1 : Int32)) else l2) + 1), vn, vn]) (st' := []) (h' := (101, I, J, R0 false)) 10 rfl ?_
                exact WP.mask rfl rfl h
        · refine WP.blk (pc' := 72) (L' := [vr 3 0, vi l1, vi l2, vi (I 27 0 l2.toNatClampNeg), vn]) (st' := [vi (l1 - (1 : Int32)), vr 25 0]) (h' := (101, I, J, R0 false)) 5 rfl ?_
          refine WP.step (pc' := 73) (L' := [vr 3 0, vi l1, vi l2, vi (I 27 0 l2.toNatClampNeg), vn]) (st' := [vi (I 25 0 (l1 - (1 : Int32)).toNatClampNeg)]) (h' := (101, I, J, R0 false)) rfl (iaload_ok (n := 128) rfl rfl rfl (inA_of h.1)) ?_
          have h := And.right h
          exact WP.ret rfl rfl h
      · refine WP.blk (pc' := 58) (L' := [vr 3 0, vi l1, vi l2, vi (I 27 0 l2.toNatClampNeg), vn]) (st' := [vi 0]) (h' := (101, I, J, R0 false)) 1 rfl ?_
        exact WP.ret rfl rfl h
    · refine WP.blk (pc' := 30) (L' := [vr 3 0, vi l1, vi l2, vi (I 27 0 l2.toNatClampNeg), vn]) (st' := [vi 128, vi l1]) (h' := (101, I, J, R0 false)) 2 rfl ?_
      refine WP.icmp_lt (t := 35) (L' := [vr 3 0, vi l1, vi l2, vi (I 27 0 l2.toNatClampNeg), vn]) rfl rfl rfl rfl h (fun h => ?_) (fun h => ?_)
      · refine WP.blk (pc' := 42) (L' := [vr 3 0, vi l1, vi l2, vi (I 27 0 l2.toNatClampNeg), vn]) (st' := [vi (I 27 0 l2.toNatClampNeg), vr 3 0, vi l1, vr 25 0]) (h' := (101, I, J, R0 false)) 5 rfl ?_
        refine WP.cal (y' := 259) (as := [vr 3 0, vi (I 27 0 l2.toNatClampNeg)]) (L' := [vr 3 0, vi l1, vi l2, vi (I 27 0 l2.toNatClampNeg), vn]) (rest := [vi l1, vr 25 0]) rfl (fun f r h' hf => callV_ok hf rfl rfl rfl) h ?_
        rintro _ _ ⟨x16, I17, J18, rfl, rfl, h⟩
        refine WP.step (pc' := 46) (L' := [vr 3 0, vi l1, vi l2, vi (I 27 0 l2.toNatClampNeg), vn]) (st' := []) (h' := (101, (updI I17 25 0 l1.toNatClampNeg x16), J18, R0 false)) rfl (iastore_ok (n := 128) rfl rfl rfl (inA_of h.1)) ?_
        have h := And.right h
        refine WP.blk (pc' := 4) (L' := [vr 3 0, vi (l1 + 1), vi (l2 + 1), vn, vn]) (st' := []) (h' := (101, (updI I17 25 0 l1.toNatClampNeg x16), J18, R0 false)) 4 rfl ?_
        exact WP.mask rfl rfl h
      · refine WP.blk (pc' := 34) (L' := [vr 3 0, vi l1, vi l2, vi (I 27 0 l2.toNatClampNeg), vn]) (st' := [vi 0]) (h' := (101, I, J, R0 false)) 1 rfl ?_
        exact WP.ret rfl rfl h
set_option maxRecDepth 20000 in
theorem t_X3_workOut_t {D : Nat}  (I : IM) (J : JM) {Q : Option AV → AH → Prop} (h : WP D 30 4 [vr 3 0, vi 0, vi 0, vn, vn] [] (101, I, J, R0 true) Q) : Call (D + 1) 30 [vr 3 0] (101, I, J, R0 true) Q := by
  refine Call.of rfl ?_
  show WP D 30 0 [vr 3 0, vn, vn, vn, vn] [] (101, I, J, R0 true) Q
  refine WP.blk (pc' := 4) (L' := [vr 3 0, vi 0, vi 0, vn, vn]) (st' := []) (h' := (101, I, J, R0 true)) 4 rfl ?_
  exact WP.mask rfl rfl h
set_option maxRecDepth 20000 in
theorem t_X3_workOut_t_4 {D : Nat} (l1 : Int32) (l2 : Int32) (I : IM) (J : JM) {Q : Option AV → AH → Prop} (h : (if (I 3 0 6) ≤ l2 then Q (some (vi 0)) (101, I, J, R0 true) else (vp_in l2 256 ∧ (if (I 28 0 l2.toNatClampNeg) < (200 : Int32) then (if (1 : Int32) ≤ l1 then (if ¬ (I 28 0 l2.toNatClampNeg) = (59 : Int32) then (if ¬ (I 28 0 l2.toNatClampNeg) = (63 : Int32) then (if (I 28 0 l2.toNatClampNeg) = (33 : Int32) then (vp_in (l1 - (1 : Int32)) 128 ∧ (if ¬ (I 28 0 l2.toNatClampNeg) = (78 : Int32) then (if ¬ (I 25 0 (l1 - (1 : Int32)).toNatClampNeg) = 0 then (Call D 31 [vi 0] (101, I, J, R0 true) (RIf true fun x1 I2 J3 => (vp_in (l1 - (1 : Int32)) 128 ∧ WP D 30 4 [vr 3 0, vi l1, vi (l2 + 1), vn, vn] [] (101, (updI I2 25 0 (l1 - (1 : Int32)).toNatClampNeg x1), J3, R0 true) Q))) else (Call D 31 [vi 1] (101, I, J, R0 true) (RIf true fun x4 I5 J6 => (vp_in (l1 - (1 : Int32)) 128 ∧ WP D 30 4 [vr 3 0, vi l1, vi (l2 + 1), vn, vn] [] (101, (updI I5 25 0 (l1 - (1 : Int32)).toNatClampNeg x4), J6, R0 true) Q)))) else (vp_in (l1 - (1 : Int32)) 128 ∧ WP D 30 4 [vr 3 0, vi l1, vi (l2 + 1), vn, vn] [] (101, (updI I 25 0 (l1 - (1 : Int32)).toNatClampNeg (-(I 25 0 (l1 - (1 : Int32)).toNatClampNeg))), J, R0 true) Q))) else (if ¬ (I 28 0 l2.toNatClampNeg) = (78 : Int32) then (if (2 : Int32) ≤ l1 then (vp_in ((l1 + (-1)) - (1 : Int32)) 128 ∧ (vp_in (l1 + (-1)) 128 ∧ (Call D 32 [vi (I 28 0 l2.toNatClampNeg), vi (I 25 0 ((l1 + (-1)) - (1 : Int32)).toNatClampNeg), vi (I 25 0 (l1 + (-1)).toNatClampNeg)] (101, I, J, R0 true) (RIf true fun x7 I8 J9 => (vp_in ((l1 + (-1)) - (1 : Int32)) 128 ∧ WP D 30 4 [vr 3 0, vi (l1 + (-1)), vi (l2 + 1), vn, vn] [] (101, (updI I8 25 0 ((l1 + (-1)) - (1 : Int32)).toNatClampNeg x7), J9, R0 true) Q))))) else Q (some (vi 0)) (101, I, J, R0 true)) else (vp_in (l1 - (1 : Int32)) 128 ∧ (if ¬ (I 28 0 l2.toNatClampNeg) = (78 : Int32) then (if ¬ (I 25 0 (l1 - (1 : Int32)).toNatClampNeg) = 0 then (Call D 31 [vi 0] (101, I, J, R0 true) (RIf true fun x10 I11 J12 => (vp_in (l1 - (1 : Int32)) 128 ∧ WP D 30 4 [vr 3 0, vi l1, vi (l2 + 1), vn, vn] [] (101, (updI I11 25 0 (l1 - (1 : Int32)).toNatClampNeg x10), J12, R0 true) Q))) else (Call D 31 [vi 1] (101, I, J, R0 true) (RIf true fun x13 I14 J15 => (vp_in (l1 - (1 : Int32)) 128 ∧ WP D 30 4 [vr 3 0, vi l1, vi (l2 + 1), vn, vn] [] (101, (updI I14 25 0 (l1 - (1 : Int32)).toNatClampNeg x13), J15, R0 true) Q)))) else (vp_in (l1 - (1 : Int32)) 128 ∧ WP D 30 4 [vr 3 0, vi l1, vi (l2 + 1), vn, vn] [] (101, (updI I 25 0 (l1 - (1 : Int32)).toNatClampNeg (-(I 25 0 (l1 - (1 : Int32)).toNatClampNeg))), J, R0 true) Q))))) else (if (I 3 0 6) ≤ (l2 + (1 : Int32)) then (vp_in (l1 + (-1)) 128 ∧ (if ¬ (I 25 0 (l1 + (-1)).toNatClampNeg) = 0 then WP D 30 4 [vr 3 0, vi (l1 + (-1)), vi ((l2 + (1 : Int32)) + 1), vn, vn] [] (101, I, J, R0 true) Q else WP D 30 4 [vr 3 0, vi (l1 + (-1)), vi ((if l2 < ((I 3 0 6) - (1 : Int32)) then ((I 3 0 6) - (1 : Int32)) else l2) + 1), vn, vn] [] (101, I, J, R0 true) Q)) else (vp_in (l2 + (1 : Int32)) 256 ∧ (vp_in (l1 + (-1)) 128 ∧ (if ¬ (I 25 0 (l1 + (-1)).toNatClampNeg) = 0 then WP D 30 4 [vr 3 0, vi (l1 + (-1)), vi ((l2 + (1 : Int32)) + 1), vn, vn] [] (101, I, J, R0 true) Q else WP D 30 4 [vr 3 0, vi (l1 + (-1)), vi ((if l2 < ((I 28 0 (l2 + (1 : Int32)).toNatClampNeg) - (1 : Int32)) then ((I 28 0 (l2 + (1 : Int32)).toNatClampNeg) - (1 : Int32)) else l2) + 1), vn, vn] [] (101, I, J, R0 true) Q))))) else (vp_in (l1 - (1 : Int32)) 128 ∧ Q (some (vi (I 25 0 (l1 - (1 : Int32)).toNatClampNeg))) (101, I, J, R0 true))) else Q (some (vi 0)) (101, I, J, R0 true)) else (if l1 < (128 : Int32) then (Call D 259 [vr 3 0, vi (I 28 0 l2.toNatClampNeg)] (101, I, J, R0 true) (RIf true fun x16 I17 J18 => (vp_in l1 128 ∧ WP D 30 4 [vr 3 0, vi (l1 + 1), vi (l2 + 1), vn, vn] [] (101, (updI I17 25 0 l1.toNatClampNeg x16), J18, R0 true) Q))) else Q (some (vi 0)) (101, I, J, R0 true)))))) : WP D 30 4 [vr 3 0, vi l1, vi l2, vn, vn] [] (101, I, J, R0 true) Q := by
  refine WP.blk (pc' := 9) (L' := [vr 3 0, vi l1, vi l2, vn, vn]) (st' := [vi (I 3 0 6), vi l2]) (h' := (101, I, J, R0 true)) 3 rfl ?_
  refine WP.icmp_ge (t := 237) (L' := [vr 3 0, vi l1, vi l2, vn, vn]) rfl rfl rfl rfl h (fun h => ?_) (fun h => ?_)
  · refine WP.blk (pc' := 238) (L' := [vr 3 0, vi l1, vi l2, vn, vn]) (st' := [vi 0]) (h' := (101, I, J, R0 true)) 1 rfl ?_
    exact WP.ret rfl rfl h
  · refine WP.blk (pc' := 17) (L' := [vr 3 0, vi l1, vi l2, vn, vn]) (st' := [vi l2, vr 28 0]) (h' := (101, I, J, R0 true)) 3 rfl ?_
    refine WP.step (pc' := 18) (L' := [vr 3 0, vi l1, vi l2, vn, vn]) (st' := [vi (I 28 0 l2.toNatClampNeg)]) (h' := (101, I, J, R0 true)) rfl (iaload_ok (n := 256) rfl rfl rfl (inA_of h.1)) ?_
    have h := And.right h
    refine WP.blk (pc' := 23) (L' := [vr 3 0, vi l1, vi l2, vi (I 28 0 l2.toNatClampNeg), vn]) (st' := [vi 200, vi (I 28 0 l2.toNatClampNeg)]) (h' := (101, I, J, R0 true)) 3 rfl ?_
    refine WP.icmp_lt (t := 52) (L' := [vr 3 0, vi l1, vi l2, vi (I 28 0 l2.toNatClampNeg), vn]) rfl rfl rfl rfl h (fun h => ?_) (fun h => ?_)
    · refine WP.blk (pc' := 54) (L' := [vr 3 0, vi l1, vi l2, vi (I 28 0 l2.toNatClampNeg), vn]) (st' := [vi 1, vi l1]) (h' := (101, I, J, R0 true)) 2 rfl ?_
      refine WP.icmp_ge (t := 59) (L' := [vr 3 0, vi l1, vi l2, vi (I 28 0 l2.toNatClampNeg), vn]) rfl rfl rfl rfl h (fun h => ?_) (fun h => ?_)
      · refine WP.blk (pc' := 62) (L' := [vr 3 0, vi l1, vi l2, vi (I 28 0 l2.toNatClampNeg), vn]) (st' := [vi 59, vi (I 28 0 l2.toNatClampNeg)]) (h' := (101, I, J, R0 true)) 2 rfl ?_
        refine WP.icmp_ne (t := 74) (L' := [vr 3 0, vi l1, vi l2, vi (I 28 0 l2.toNatClampNeg), vn]) rfl rfl rfl rfl h (fun h => ?_) (fun h => ?_)
        · refine WP.blk (pc' := 77) (L' := [vr 3 0, vi l1, vi l2, vi (I 28 0 l2.toNatClampNeg), vn]) (st' := [vi 63, vi (I 28 0 l2.toNatClampNeg)]) (h' := (101, I, J, R0 true)) 2 rfl ?_
          refine WP.icmp_ne (t := 137) (L' := [vr 3 0, vi l1, vi l2, vi (I 28 0 l2.toNatClampNeg), vn]) rfl rfl rfl rfl h (fun h => ?_) (fun h => ?_)
          · refine WP.blk (pc' := 140) (L' := [vr 3 0, vi l1, vi l2, vi (I 28 0 l2.toNatClampNeg), vn]) (st' := [vi 33, vi (I 28 0 l2.toNatClampNeg)]) (h' := (101, I, J, R0 true)) 2 rfl ?_
            refine WP.icmp_eq (t := 149) (L' := [vr 3 0, vi l1, vi l2, vi (I 28 0 l2.toNatClampNeg), vn]) rfl rfl rfl rfl h (fun h => ?_) (fun h => ?_)
            · refine WP.blk (pc' := 156) (L' := [vr 3 0, vi l1, vi l2, vi (I 28 0 l2.toNatClampNeg), vn]) (st' := [vi (l1 - (1 : Int32)), vr 25 0]) (h' := (101, I, J, R0 true)) 5 rfl ?_
              refine WP.step (pc' := 157) (L' := [vr 3 0, vi l1, vi l2, vi (I 28 0 l2.toNatClampNeg), vn]) (st' := [vi (I 25 0 (l1 - (1 : Int32)).toNatClampNeg)]) (h' := (101, I, J, R0 true)) rfl (iaload_ok (n := 128) rfl rfl rfl (inA_of h.1)) ?_
              have h := And.right h
              refine WP.blk (pc' := 169) (L' := [vr 3 0, vi l1, vi l2, vi (I 28 0 l2.toNatClampNeg), vi (I 25 0 (l1 - (1 : Int32)).toNatClampNeg)]) (st' := [vi 78, vi (I 28 0 l2.toNatClampNeg), vi (l1 - (1 : Int32)), vr 25 0]) (h' := (101, I, J, R0 true)) 8 rfl ?_
              refine WP.icmp_ne (t := 178) (L' := [vr 3 0, vi l1, vi l2, vi (I 28 0 l2.toNatClampNeg), vi (I 25 0 (l1 - (1 : Int32)).toNatClampNeg)]) rfl rfl rfl rfl h (fun h => ?_) (fun h => ?_)
              · refine WP.blk (pc' := 180) (L' := [vr 3 0, vi l1, vi l2, vi (I 28 0 l2.toNatClampNeg), vi (I 25 0 (l1 - (1 : Int32)).toNatClampNeg)]) (st' := [vi (I 25 0 (l1 - (1 : Int32)).toNatClampNeg), vi (l1 - (1 : Int32)), vr 25 0]) (h' := (101, I, J, R0 true)) 1 rfl ?_
                refine WP.if_ne (t := 187) (L' := [vr 3 0, vi l1, vi l2, vi (I 28 0 l2.toNatClampNeg), vi (I 25 0 (l1 - (1 : Int32)).toNatClampNeg)]) rfl rfl rfl rfl h (fun h => ?_) (fun h => ?_)
                · refine WP.blk (pc' := 188) (L' := [vr 3 0, vi l1, vi l2, vi (I 28 0 l2.toNatClampNeg), vi (I 25 0 (l1 - (1 : Int32)).toNatClampNeg)]) (st' := [vi 0, vi (l1 - (1 : Int32)), vr 25 0]) (h' := (101, I, J, R0 true)) 1 rfl ?_
                  refine WP.cal (y' := 31) (as := [vi 0]) (L' := [vr 3 0, vi l1, vi l2, vn, vn]) (rest := [vi (l1 - (1 : Int32)), vr 25 0]) rfl (fun f r h' hf => callS_ok hf rfl rfl rfl) h ?_
                  rintro _ _ ⟨x1, I2, J3, rfl, rfl, h⟩
                  refine WP.step (pc' := 192) (L' := [vr 3 0, vi l1, vi l2, vn, vn]) (st' := []) (h' := (101, (updI I2 25 0 (l1 - (1 : Int32)).toNatClampNeg x1), J3, R0 true)) rfl (iastore_ok (n := 128) rfl rfl rfl (inA_of h.1)) ?_
                  have h := And.right h
                  refine WP.blk (pc' := 4) (L' := [vr 3 0, vi l1, vi (l2 + 1), vn, vn]) (st' := []) (h' := (101, (updI I2 25 0 (l1 - (1 : Int32)).toNatClampNeg x1), J3, R0 true)) 3 rfl ?_
                  exact WP.mask rfl rfl h
                · refine WP.blk (pc' := 188) (L' := [vr 3 0, vi l1, vi l2, vi (I 28 0 l2.toNatClampNeg), vi (I 25 0 (l1 - (1 : Int32)).toNatClampNeg)]) (st' := [vi 1, vi (l1 - (1 : Int32)), vr 25 0]) (h' := (101, I, J, R0 true)) 2 rfl ?_
                  refine WP.cal (y' := 31) (as := [vi 1]) (L' := [vr 3 0, vi l1, vi l2, vn, vn]) (rest := [vi (l1 - (1 : Int32)), vr 25 0]) rfl (fun f r h' hf => callS_ok hf rfl rfl rfl) h ?_
                  rintro _ _ ⟨x4, I5, J6, rfl, rfl, h⟩
                  refine WP.step (pc' := 192) (L' := [vr 3 0, vi l1, vi l2, vn, vn]) (st' := []) (h' := (101, (updI I5 25 0 (l1 - (1 : Int32)).toNatClampNeg x4), J6, R0 true)) rfl (iastore_ok (n := 128) rfl rfl rfl (inA_of h.1)) ?_
                  have h := And.right h
                  refine WP.blk (pc' := 4) (L' := [vr 3 0, vi l1, vi (l2 + 1), vn, vn]) (st' := []) (h' := (101, (updI I5 25 0 (l1 - (1 : Int32)).toNatClampNeg x4), J6, R0 true)) 3 rfl ?_
                  exact WP.mask rfl rfl h
              · refine WP.blk (pc' := 191) (L' := [vr 3 0, vi l1, vi l2, vi (I 28 0 l2.toNatClampNeg), vi (I 25 0 (l1 - (1 : Int32)).toNatClampNeg)]) (st' := [vi (-(I 25 0 (l1 - (1 : Int32)).toNatClampNeg)), vi (l1 - (1 : Int32)), vr 25 0]) (h' := (101, I, J, R0 true)) 3 rfl ?_
                refine WP.step (pc' := 192) (L' := [vr 3 0, vi l1, vi l2, vn, vn]) (st' := []) (h' := (101, (updI I 25 0 (l1 - (1 : Int32)).toNatClampNeg (-(I 25 0 (l1 - (1 : Int32)).toNatClampNeg))), J, R0 true)) rfl (iastore_ok (n := 128) rfl rfl rfl (inA_of h.1)) ?_
                have h := And.right h
                refine WP.blk (pc' := 4) (L' := [vr 3 0, vi l1, vi (l2 + 1), vn, vn]) (st' := []) (h' := (101, (updI I 25 0 (l1 - (1 : Int32)).toNatClampNeg (-(I 25 0 (l1 - (1 : Int32)).toNatClampNeg))), J, R0 true)) 3 rfl ?_
                exact WP.mask rfl rfl h
            · refine WP.blk (pc' := 146) (L' := [vr 3 0, vi l1, vi l2, vi (I 28 0 l2.toNatClampNeg), vn]) (st' := [vi 78, vi (I 28 0 l2.toNatClampNeg)]) (h' := (101, I, J, R0 true)) 2 rfl ?_
              refine WP.icmp_ne (t := 195) (L' := [vr 3 0, vi l1, vi l2, vi (I 28 0 l2.toNatClampNeg), vn]) rfl rfl rfl rfl h (fun h => ?_) (fun h => ?_)
              · refine WP.blk (pc' := 197) (L' := [vr 3 0, vi l1, vi l2, vi (I 28 0 l2.toNatClampNeg), vn]) (st' := [vi 2, vi l1]) (h' := (101, I, J, R0 true)) 2 rfl ?_
                refine WP.icmp_ge (t := 202) (L' := [vr 3 0, vi l1, vi l2, vi (I 28 0 l2.toNatClampNeg), vn]) rfl rfl rfl rfl h (fun h => ?_) (fun h => ?_)
                · refine WP.blk (pc' := 220) (L' := [vr 3 0, vi (l1 + (-1)), vi l2, vi (I 28 0 l2.toNatClampNeg), vn]) (st' := [vi ((l1 + (-1)) - (1 : Int32)), vr 25 0, vi (I 28 0 l2.toNatClampNeg), vi ((l1 + (-1)) - (1 : Int32)), vr 25 0]) (h' := (101, I, J, R0 true)) 12 rfl ?_
                  refine WP.step (pc' := 221) (L' := [vr 3 0, vi (l1 + (-1)), vi l2, vi (I 28 0 l2.toNatClampNeg), vn]) (st' := [vi (I 25 0 ((l1 + (-1)) - (1 : Int32)).toNatClampNeg), vi (I 28 0 l2.toNatClampNeg), vi ((l1 + (-1)) - (1 : Int32)), vr 25 0]) (h' := (101, I, J, R0 true)) rfl (iaload_ok (n := 128) rfl rfl rfl (inA_of h.1)) ?_
                  have h := And.right h
                  refine WP.blk (pc' := 226) (L' := [vr 3 0, vi (l1 + (-1)), vi l2, vi (I 28 0 l2.toNatClampNeg), vn]) (st' := [vi (l1 + (-1)), vr 25 0, vi (I 25 0 ((l1 + (-1)) - (1 : Int32)).toNatClampNeg), vi (I 28 0 l2.toNatClampNeg), vi ((l1 + (-1)) - (1 : Int32)), vr 25 0]) (h' := (101, I, J, R0 true)) 3 rfl ?_
                  refine WP.step (pc' := 227) (L' := [vr 3 0, vi (l1 + (-1)), vi l2, vi (I 28 0 l2.toNatClampNeg), vn]) (st' := [vi (I 25 0 (l1 + (-1)).toNatClampNeg), vi (I 25 0 ((l1 + (-1)) - (1 : Int32)).toNatClampNeg), vi (I 28 0 l2.toNatClampNeg), vi ((l1 + (-1)) - (1 : Int32)), vr 25 0]) (h' := (101, I, J, R0 true)) rfl (iaload_ok (n := 128) rfl rfl rfl (inA_of h.1)) ?_
                  have h := And.right h
                  refine WP.cal (y' := 32) (as := [vi (I 28 0 l2.toNatClampNeg), vi (I 25 0 ((l1 + (-1)) - (1 : Int32)).toNatClampNeg), vi (I 25 0 (l1 + (-1)).toNatClampNeg)]) (L' := [vr 3 0, vi (l1 + (-1)), vi l2, vi (I 28 0 l2.toNatClampNeg), vn]) (rest := [vi ((l1 + (-1)) - (1 : Int32)), vr 25 0]) rfl (fun f r h' hf => callS_ok hf rfl rfl rfl) h ?_
                  rintro _ _ ⟨x7, I8, J9, rfl, rfl, h⟩
                  refine WP.step (pc' := 231) (L' := [vr 3 0, vi (l1 + (-1)), vi l2, vi (I 28 0 l2.toNatClampNeg), vn]) (st' := []) (h' := (101, (updI I8 25 0 ((l1 + (-1)) - (1 : Int32)).toNatClampNeg x7), J9, R0 true)) rfl (iastore_ok (n := 128) rfl rfl rfl (inA_of h.1)) ?_
                  have h := And.right h
                  refine WP.blk (pc' := 4) (L' := [vr 3 0, vi (l1 + (-1)), vi (l2 + 1), vn, vn]) (st' := []) (h' := (101, (updI I8 25 0 ((l1 + (-1)) - (1 : Int32)).toNatClampNeg x7), J9, R0 true)) 2 rfl ?_
                  exact WP.mask rfl rfl h
                · refine WP.blk (pc' := 201) (L' := [vr 3 0, vi l1, vi l2, vi (I 28 0 l2.toNatClampNeg), vn]) (st' := [vi 0]) (h' := (101, I, J, R0 true)) 1 rfl ?_
                  exact WP.ret rfl rfl h
              · refine WP.blk (pc' := 156) (L' := [vr 3 0, vi l1, vi l2, vi (I 28 0 l2.toNatClampNeg), vn]) (st' := [vi (l1 - (1 : Int32)), vr 25 0]) (h' := (101, I, J, R0 true)) 5 rfl ?_
                refine WP.step (pc' := 157) (L' := [vr 3 0, vi l1, vi l2, vi (I 28 0 l2.toNatClampNeg), vn]) (st' := [vi (I 25 0 (l1 - (1 : Int32)).toNatClampNeg)]) (h' := (101, I, J, R0 true)) rfl (iaload_ok (n := 128) rfl rfl rfl (inA_of h.1)) ?_
                have h := And.right h
                refine WP.blk (pc' := 169) (L' := [vr 3 0, vi l1, vi l2, vi (I 28 0 l2.toNatClampNeg), vi (I 25 0 (l1 - (1 : Int32)).toNatClampNeg)]) (st' := [vi 78, vi (I 28 0 l2.toNatClampNeg), vi (l1 - (1 : Int32)), vr 25 0]) (h' := (101, I, J, R0 true)) 8 rfl ?_
                refine WP.icmp_ne (t := 178) (L' := [vr 3 0, vi l1, vi l2, vi (I 28 0 l2.toNatClampNeg), vi (I 25 0 (l1 - (1 : Int32)).toNatClampNeg)]) rfl rfl rfl rfl h (fun h => ?_) (fun h => ?_)
                · refine WP.blk (pc' := 180) (L' := [vr 3 0, vi l1, vi l2, vi (I 28 0 l2.toNatClampNeg), vi (I 25 0 (l1 - (1 : Int32)).toNatClampNeg)]) (st' := [vi (I 25 0 (l1 - (1 : Int32)).toNatClampNeg), vi (l1 - (1 : Int32)), vr 25 0]) (h' := (101, I, J, R0 true)) 1 rfl ?_
                  refine WP.if_ne (t := 187) (L' := [vr 3 0, vi l1, vi l2, vi (I 28 0 l2.toNatClampNeg), vi (I 25 0 (l1 - (1 : Int32)).toNatClampNeg)]) rfl rfl rfl rfl h (fun h => ?_) (fun h => ?_)
                  · refine WP.blk (pc' := 188) (L' := [vr 3 0, vi l1, vi l2, vi (I 28 0 l2.toNatClampNeg), vi (I 25 0 (l1 - (1 : Int32)).toNatClampNeg)]) (st' := [vi 0, vi (l1 - (1 : Int32)), vr 25 0]) (h' := (101, I, J, R0 true)) 1 rfl ?_
                    refine WP.cal (y' := 31) (as := [vi 0]) (L' := [vr 3 0, vi l1, vi l2, vn, vn]) (rest := [vi (l1 - (1 : Int32)), vr 25 0]) rfl (fun f r h' hf => callS_ok hf rfl rfl rfl) h ?_
                    rintro _ _ ⟨x10, I11, J12, rfl, rfl, h⟩
                    refine WP.step (pc' := 192) (L' := [vr 3 0, vi l1, vi l2, vn, vn]) (st' := []) (h' := (101, (updI I11 25 0 (l1 - (1 : Int32)).toNatClampNeg x10), J12, R0 true)) rfl (iastore_ok (n := 128) rfl rfl rfl (inA_of h.1)) ?_
                    have h := And.right h
                    refine WP.blk (pc' := 4) (L' := [vr 3 0, vi l1, vi (l2 + 1), vn, vn]) (st' := []) (h' := (101, (updI I11 25 0 (l1 - (1 : Int32)).toNatClampNeg x10), J12, R0 true)) 3 rfl ?_
                    exact WP.mask rfl rfl h
                  · refine WP.blk (pc' := 188) (L' := [vr 3 0, vi l1, vi l2, vi (I 28 0 l2.toNatClampNeg), vi (I 25 0 (l1 - (1 : Int32)).toNatClampNeg)]) (st' := [vi 1, vi (l1 - (1 : Int32)), vr 25 0]) (h' := (101, I, J, R0 true)) 2 rfl ?_
                    refine WP.cal (y' := 31) (as := [vi 1]) (L' := [vr 3 0, vi l1, vi l2, vn, vn]) (rest := [vi (l1 - (1 : Int32)), vr 25 0]) rfl (fun f r h' hf => callS_ok hf rfl rfl rfl) h ?_
                    rintro _ _ ⟨x13, I14, J15, rfl, rfl, h⟩
                    refine WP.step (pc' := 192) (L' := [vr 3 0, vi l1, vi l2, vn, vn]) (st' := []) (h' := (101, (updI I14 25 0 (l1 - (1 : Int32)).toNatClampNeg x13), J15, R0 true)) rfl (iastore_ok (n := 128) rfl rfl rfl (inA_of h.1)) ?_
                    have h := And.right h
                    refine WP.blk (pc' := 4) (L' := [vr 3 0, vi l1, vi (l2 + 1), vn, vn]) (st' := []) (h' := (101, (updI I14 25 0 (l1 - (1 : Int32)).toNatClampNeg x13), J15, R0 true)) 3 rfl ?_
                    exact WP.mask rfl rfl h
                · refine WP.blk (pc' := 191) (L' := [vr 3 0, vi l1, vi l2, vi (I 28 0 l2.toNatClampNeg), vi (I 25 0 (l1 - (1 : Int32)).toNatClampNeg)]) (st' := [vi (-(I 25 0 (l1 - (1 : Int32)).toNatClampNeg)), vi (l1 - (1 : Int32)), vr 25 0]) (h' := (101, I, J, R0 true)) 3 rfl ?_
                  refine WP.step (pc' := 192) (L' := [vr 3 0, vi l1, vi l2, vn, vn]) (st' := []) (h' := (101, (updI I 25 0 (l1 - (1 : Int32)).toNatClampNeg (-(I 25 0 (l1 - (1 : Int32)).toNatClampNeg))), J, R0 true)) rfl (iastore_ok (n := 128) rfl rfl rfl (inA_of h.1)) ?_
                  have h := And.right h
                  refine WP.blk (pc' := 4) (L' := [vr 3 0, vi l1, vi (l2 + 1), vn, vn]) (st' := []) (h' := (101, (updI I 25 0 (l1 - (1 : Int32)).toNatClampNeg (-(I 25 0 (l1 - (1 : Int32)).toNatClampNeg))), J, R0 true)) 3 rfl ?_
                  exact WP.mask rfl rfl h
          · refine WP.blk (pc' := 90) (L' := [vr 3 0, vi (l1 + (-1)), vi l2, vi (I 28 0 l2.toNatClampNeg), vn]) (st' := [vi (I 3 0 6), vi (l2 + (1 : Int32))]) (h' := (101, I, J, R0 true)) 6 rfl ?_
            refine WP.icmp_ge (t := 104) (L' := [vr 3 0, vi (l1 + (-1)), vi l2, vi (I 28 0 l2.toNatClampNeg), vn]) rfl rfl rfl rfl h (fun h => ?_) (fun h => ?_)
            · refine WP.blk (pc' := 115) (L' := [vr 3 0, vi (l1 + (-1)), vi l2, vn, vi (I 3 0 6)]) (st' := [vi (l1 + (-1)), vr 25 0]) (h' := (101, I, J, R0 true)) 6 rfl ?_
              refine WP.step (pc' := 116) (L' := [vr 3 0, vi (l1 + (-1)), vi l2, vn, vi (I 3 0 6)]) (st' := [vi (I 25 0 (l1 + (-1)).toNatClampNeg)]) (h' := (101, I, J, R0 true)) rfl (iaload_ok (n := 128) rfl rfl rfl (inA_of h.1)) ?_
              have h := And.right h
              refine WP.if_ne (t := 130) (L' := [vr 3 0, vi (l1 + (-1)), vi l2, vn, vi (I 3 0 6)]) rfl rfl rfl rfl h (fun h => ?_) (fun h => ?_)
              · refine WP.blk (pc' := 4) (L' := [vr 3 0, vi (l1 + (-1)), vi ((l2 + (1 : Int32)) + 1), vn, vn]) (st' := []) (h' := (101, I, J, R0 true)) 7 rfl ?_
                exact WP.mask rfl rfl h
              · refine WP.blk (pc' := 4) (L' := [vr 3 0, vi (l1 + (-1)), vi ((if l2 < ((I 3 0 6) - (1 : Int32)) then ((I 3 0 6) - (1 : Int32)) else l2) + 1), vn, vn]) (st' := []) (h' := (101, I, J, R0 true)) 10 rfl ?_
                exact WP.mask rfl rfl h
            · refine WP.blk (pc' := 100) (L' := [vr 3 0, vi (l1 + (-1)), vi l2, vi (I 28 0 l2.toNatClampNeg), vn]) (st' := [vi (l2 + (1 : Int32)), vr 28 0]) (h' := (101, I, J, R0 true)) 5 rfl ?_
              refine WP.step (pc' := 101) (L' := [vr 3 0, vi (l1 + (-1)), vi l2, vi (I 28 0 l2.toNatClampNeg), vn]) (st' := [vi (I 28 0 (l2 + (1 : Int32)).toNatClampNeg)]) (h' := (101, I, J, R0 true)) rfl (iaload_ok (n := 256) rfl rfl rfl (inA_of h.1)) ?_
              have h := And.right h
              refine WP.blk (pc' := 115) (L' := [vr 3 0, vi (l1 + (-1)), vi l2, vn, vi (I 28 0 (l2 + (1 : Int32)).toNatClampNeg)]) (st' := [vi (l1 + (-1)), vr 25 0]) (h' := (101, I, J, R0 true)) 5 rfl ?_
              refine WP.step (pc' := 116) (L' := [vr 3 0, vi (l1 + (-1)), vi l2, vn, vi (I 28 0 (l2 + (1 : Int32)).toNatClampNeg)]) (st' := [vi (I 25 0 (l1 + (-1)).toNatClampNeg)]) (h' := (101, I, J, R0 true)) rfl (iaload_ok (n := 128) rfl rfl rfl (inA_of h.1)) ?_
              have h := And.right h
              refine WP.if_ne (t := 130) (L' := [vr 3 0, vi (l1 + (-1)), vi l2, vn, vi (I 28 0 (l2 + (1 : Int32)).toNatClampNeg)]) rfl rfl rfl rfl h (fun h => ?_) (fun h => ?_)
              · refine WP.blk (pc' := 4) (L' := [vr 3 0, vi (l1 + (-1)), vi ((l2 + (1 : Int32)) + 1), vn, vn]) (st' := []) (h' := (101, I, J, R0 true)) 7 rfl ?_
                exact WP.mask rfl rfl h
              · refine WP.blk (pc' := 4) (L' := [vr 3 0, vi (l1 + (-1)), vi ((if l2 < ((I 28 0 (l2 + (1 : Int32)).toNatClampNeg) - (1 : Int32)) then ((I 28 0 (l2 + (1 : Int32)).toNatClampNeg) - (1 : Int32)) else l2) + 1), vn, vn]) (st' := []) (h' := (101, I, J, R0 true)) 10 rfl ?_
                exact WP.mask rfl rfl h
        · refine WP.blk (pc' := 72) (L' := [vr 3 0, vi l1, vi l2, vi (I 28 0 l2.toNatClampNeg), vn]) (st' := [vi (l1 - (1 : Int32)), vr 25 0]) (h' := (101, I, J, R0 true)) 5 rfl ?_
          refine WP.step (pc' := 73) (L' := [vr 3 0, vi l1, vi l2, vi (I 28 0 l2.toNatClampNeg), vn]) (st' := [vi (I 25 0 (l1 - (1 : Int32)).toNatClampNeg)]) (h' := (101, I, J, R0 true)) rfl (iaload_ok (n := 128) rfl rfl rfl (inA_of h.1)) ?_
          have h := And.right h
          exact WP.ret rfl rfl h
      · refine WP.blk (pc' := 58) (L' := [vr 3 0, vi l1, vi l2, vi (I 28 0 l2.toNatClampNeg), vn]) (st' := [vi 0]) (h' := (101, I, J, R0 true)) 1 rfl ?_
        exact WP.ret rfl rfl h
    · refine WP.blk (pc' := 30) (L' := [vr 3 0, vi l1, vi l2, vi (I 28 0 l2.toNatClampNeg), vn]) (st' := [vi 128, vi l1]) (h' := (101, I, J, R0 true)) 2 rfl ?_
      refine WP.icmp_lt (t := 35) (L' := [vr 3 0, vi l1, vi l2, vi (I 28 0 l2.toNatClampNeg), vn]) rfl rfl rfl rfl h (fun h => ?_) (fun h => ?_)
      · refine WP.blk (pc' := 42) (L' := [vr 3 0, vi l1, vi l2, vi (I 28 0 l2.toNatClampNeg), vn]) (st' := [vi (I 28 0 l2.toNatClampNeg), vr 3 0, vi l1, vr 25 0]) (h' := (101, I, J, R0 true)) 5 rfl ?_
        refine WP.cal (y' := 259) (as := [vr 3 0, vi (I 28 0 l2.toNatClampNeg)]) (L' := [vr 3 0, vi l1, vi l2, vi (I 28 0 l2.toNatClampNeg), vn]) (rest := [vi l1, vr 25 0]) rfl (fun f r h' hf => callV_ok hf rfl rfl rfl) h ?_
        rintro _ _ ⟨x16, I17, J18, rfl, rfl, h⟩
        refine WP.step (pc' := 46) (L' := [vr 3 0, vi l1, vi l2, vi (I 28 0 l2.toNatClampNeg), vn]) (st' := []) (h' := (101, (updI I17 25 0 l1.toNatClampNeg x16), J18, R0 true)) rfl (iastore_ok (n := 128) rfl rfl rfl (inA_of h.1)) ?_
        have h := And.right h
        refine WP.blk (pc' := 4) (L' := [vr 3 0, vi (l1 + 1), vi (l2 + 1), vn, vn]) (st' := []) (h' := (101, (updI I17 25 0 l1.toNatClampNeg x16), J18, R0 true)) 4 rfl ?_
        exact WP.mask rfl rfl h
      · refine WP.blk (pc' := 34) (L' := [vr 3 0, vi l1, vi l2, vi (I 28 0 l2.toNatClampNeg), vn]) (st' := [vi 0]) (h' := (101, I, J, R0 true)) 1 rfl ?_
        exact WP.ret rfl rfl h
set_option maxRecDepth 20000 in
theorem t_X3_truth {D : Nat} (l0 : Int32) (I : IM) (J : JM) (b : Bool) {Q : Option AV → AH → Prop} (h : (if l0 = 0 then Q (some (vi 0)) (101, I, J, R0 b) else Q (some (vi 1)) (101, I, J, R0 b))) : Call (D + 1) 31 [vi l0] (101, I, J, R0 b) Q := by
  refine Call.of rfl ?_
  show WP D 31 0 [vi l0] [] (101, I, J, R0 b) Q
  refine WP.blk (pc' := 1) (L' := [vi l0]) (st' := [vi l0]) (h' := (101, I, J, R0 b)) 1 rfl ?_
  refine WP.if_eq (t := 8) (L' := [vi l0]) rfl rfl rfl rfl h (fun h => ?_) (fun h => ?_)
  · refine WP.blk (pc' := 9) (L' := [vi l0]) (st' := [vi 0]) (h' := (101, I, J, R0 b)) 1 rfl ?_
    exact WP.ret rfl rfl h
  · refine WP.blk (pc' := 9) (L' := [vi l0]) (st' := [vi 1]) (h' := (101, I, J, R0 b)) 2 rfl ?_
    exact WP.ret rfl rfl h
set_option maxRecDepth 20000 in
theorem t_X3_join {D : Nat} (l0 : Int32) (l1 : Int32) (l2 : Int32) (I : IM) (J : JM) (b : Bool) {Q : Option AV → AH → Prop} (h : (if l0 = 38 then (if l1 = 0 then (Call D 31 [vi 0] (101, I, J, R0 b) (RIf b fun x1 I2 J3 => Q (some (vi x1)) (101, I2, J3, R0 b))) else (if l2 = 0 then (Call D 31 [vi 0] (101, I, J, R0 b) (RIf b fun x4 I5 J6 => Q (some (vi x4)) (101, I5, J6, R0 b))) else (Call D 31 [vi 1] (101, I, J, R0 b) (RIf b fun x7 I8 J9 => Q (some (vi x7)) (101, I8, J9, R0 b))))) else (if l0 = 42 then Q (some (vi (l1 * l2))) (101, I, J, R0 b) else (if l0 = 43 then Q (some (vi (l1 + l2))) (101, I, J, R0 b) else (if l0 = 45 then Q (some (vi (l1 - l2))) (101, I, J, R0 b) else (if l0 = 47 then (if ¬ l2 = 0 then (¬ l2 = 0 ∧ Q (some (vi (l1 / l2))) (101, I, J, R0 b)) else Q (some (vi 0)) (101, I, J, R0 b)) else (if l0 = 60 then (if l2 ≤ l1 then (Call D 31 [vi 0] (101, I, J, R0 b) (RIf b fun x10 I11 J12 => Q (some (vi x10)) (101, I11, J12, R0 b))) else (Call D 31 [vi 1] (101, I, J, R0 b) (RIf b fun x13 I14 J15 => Q (some (vi x13)) (101, I14, J15, R0 b)))) else (if l0 = 61 then (if ¬ l1 = l2 then (Call D 31 [vi 0] (101, I, J, R0 b) (RIf b fun x16 I17 J18 => Q (some (vi x16)) (101, I17, J18, R0 b))) else (Call D 31 [vi 1] (101, I, J, R0 b) (RIf b fun x19 I20 J21 => Q (some (vi x19)) (101, I20, J21, R0 b)))) else (if l0 = 62 then (if l1 ≤ l2 then (Call D 31 [vi 0] (101, I, J, R0 b) (RIf b fun x22 I23 J24 => Q (some (vi x22)) (101, I23, J24, R0 b))) else (Call D 31 [vi 1] (101, I, J, R0 b) (RIf b fun x25 I26 J27 => Q (some (vi x25)) (101, I26, J27, R0 b)))) else (if l0 = 124 then (if ¬ l1 = 0 then (Call D 31 [vi 1] (101, I, J, R0 b) (RIf b fun x28 I29 J30 => Q (some (vi x28)) (101, I29, J30, R0 b))) else (if l2 = 0 then (Call D 31 [vi 0] (101, I, J, R0 b) (RIf b fun x31 I32 J33 => Q (some (vi x31)) (101, I32, J33, R0 b))) else (Call D 31 [vi 1] (101, I, J, R0 b) (RIf b fun x34 I35 J36 => Q (some (vi x34)) (101, I35, J36, R0 b))))) else (if ¬ l2 = 0 then (¬ l2 = 0 ∧ Q (some (vi (l1 - l1 / l2 * l2))) (101, I, J, R0 b)) else Q (some (vi 0)) (101, I, J, R0 b)))))))))))) : Call (D + 1) 32 [vi l0, vi l1, vi l2] (101, I, J, R0 b) Q := by
  refine Call.of rfl ?_
  show WP D 32 0 [vi l0, vi l1, vi l2] [] (101, I, J, R0 b) Q
  refine WP.blk (pc' := 1) (L' := [vi l0, vi l1, vi l2]) (st' := [vi l0]) (h' := (101, I, J, R0 b)) 1 rfl ?_
  refine WP.step (pc' := swf [(38, 101), (42, 168), (43, 160), (45, 164), (47, 172), (60, 118), (61, 132), (62, 146), (124, 84)] 184 l0) (L' := [vi l0, vi l1, vi l2]) (st' := []) (h' := (101, I, J, R0 b)) rfl rfl ?_
  refine WP.ite (c := l0 = 38) (pc1 := 101) (pc2 := swf [(42, 168), (43, 160), (45, 164), (47, 172), (60, 118), (61, 132), (62, 146), (124, 84)] 184 l0) h (fun h => ?_) (fun h => ?_)
  · refine WP.blk (pc' := 102) (L' := [vi l0, vi l1, vi l2]) (st' := [vi l1]) (h' := (101, I, J, R0 b)) 1 rfl ?_
    refine WP.if_eq (t := 113) (L' := [vi l0, vi l1, vi l2]) rfl rfl rfl rfl h (fun h => ?_) (fun h => ?_)
    · refine WP.blk (pc' := 114) (L' := [vn, vn, vn]) (st' := [vi 0]) (h' := (101, I, J, R0 b)) 1 rfl ?_
      refine WP.cal (y' := 31) (as := [vi 0]) (L' := [vn, vn, vn]) (rest := []) rfl (fun f r h' hf => callS_ok hf rfl rfl rfl) h ?_
      rintro _ _ ⟨x1, I2, J3, rfl, rfl, h⟩
      exact WP.ret rfl rfl h
    · refine WP.blk (pc' := 106) (L' := [vi l0, vi l1, vi l2]) (st' := [vi l2]) (h' := (101, I, J, R0 b)) 1 rfl ?_
      refine WP.if_eq (t := 113) (L' := [vi l0, vi l1, vi l2]) rfl rfl rfl rfl h (fun h => ?_) (fun h => ?_)
      · refine WP.blk (pc' := 114) (L' := [vn, vn, vn]) (st' := [vi 0]) (h' := (101, I, J, R0 b)) 1 rfl ?_
        refine WP.cal (y' := 31) (as := [vi 0]) (L' := [vn, vn, vn]) (rest := []) rfl (fun f r h' hf => callS_ok hf rfl rfl rfl) h ?_
        rintro _ _ ⟨x4, I5, J6, rfl, rfl, h⟩
        exact WP.ret rfl rfl h
      · refine WP.blk (pc' := 114) (L' := [vi l0, vi l1, vi l2]) (st' := [vi 1]) (h' := (101, I, J, R0 b)) 2 rfl ?_
        refine WP.cal (y' := 31) (as := [vi 1]) (L' := [vn, vn, vn]) (rest := []) rfl (fun f r h' hf => callS_ok hf rfl rfl rfl) h ?_
        rintro _ _ ⟨x7, I8, J9, rfl, rfl, h⟩
        exact WP.ret rfl rfl h
  · refine WP.ite (c := l0 = 42) (pc1 := 168) (pc2 := swf [(43, 160), (45, 164), (47, 172), (60, 118), (61, 132), (62, 146), (124, 84)] 184 l0) h (fun h => ?_) (fun h => ?_)
    · refine WP.blk (pc' := 171) (L' := [vi l0, vi l1, vi l2]) (st' := [vi (l1 * l2)]) (h' := (101, I, J, R0 b)) 3 rfl ?_
      exact WP.ret rfl rfl h
    · refine WP.ite (c := l0 = 43) (pc1 := 160) (pc2 := swf [(45, 164), (47, 172), (60, 118), (61, 132), (62, 146), (124, 84)] 184 l0) h (fun h => ?_) (fun h => ?_)
      · refine WP.blk (pc' := 163) (L' := [vi l0, vi l1, vi l2]) (st' := [vi (l1 + l2)]) (h' := (101, I, J, R0 b)) 3 rfl ?_
        exact WP.ret rfl rfl h
      · refine WP.ite (c := l0 = 45) (pc1 := 164) (pc2 := swf [(47, 172), (60, 118), (61, 132), (62, 146), (124, 84)] 184 l0) h (fun h => ?_) (fun h => ?_)
        · refine WP.blk (pc' := 167) (L' := [vi l0, vi l1, vi l2]) (st' := [vi (l1 - l2)]) (h' := (101, I, J, R0 b)) 3 rfl ?_
          exact WP.ret rfl rfl h
        · refine WP.ite (c := l0 = 47) (pc1 := 172) (pc2 := swf [(60, 118), (61, 132), (62, 146), (124, 84)] 184 l0) h (fun h => ?_) (fun h => ?_)
          · refine WP.blk (pc' := 173) (L' := [vi l0, vi l1, vi l2]) (st' := [vi l2]) (h' := (101, I, J, R0 b)) 1 rfl ?_
            refine WP.if_ne (t := 180) (L' := [vi l0, vi l1, vi l2]) rfl rfl rfl rfl h (fun h => ?_) (fun h => ?_)
            · refine WP.blk (pc' := 182) (L' := [vi l0, vi l1, vi l2]) (st' := [vi l2, vi l1]) (h' := (101, I, J, R0 b)) 2 rfl ?_
              refine WP.g2 (pc' := 183) (L' := [vi l0, vi l1, vi l2]) (st' := [vi (l1 / l2)]) (h' := (101, I, J, R0 b)) (b := !(decide (l2 = 0))) rfl (not_dec h.1) rfl ?_
              have h := And.right h
              exact WP.ret rfl rfl h
            · refine WP.blk (pc' := 183) (L' := [vi l0, vi l1, vi l2]) (st' := [vi 0]) (h' := (101, I, J, R0 b)) 2 rfl ?_
              exact WP.ret rfl rfl h
          · refine WP.ite (c := l0 = 60) (pc1 := 118) (pc2 := swf [(61, 132), (62, 146), (124, 84)] 184 l0) h (fun h => ?_) (fun h => ?_)
            · refine WP.blk (pc' := 120) (L' := [vi l0, vi l1, vi l2]) (st' := [vi l2, vi l1]) (h' := (101, I, J, R0 b)) 2 rfl ?_
              refine WP.icmp_ge (t := 127) (L' := [vi l0, vi l1, vi l2]) rfl rfl rfl rfl h (fun h => ?_) (fun h => ?_)
              · refine WP.blk (pc' := 128) (L' := [vi l0, vi l1, vi l2]) (st' := [vi 0]) (h' := (101, I, J, R0 b)) 1 rfl ?_
                refine WP.cal (y' := 31) (as := [vi 0]) (L' := [vn, vn, vn]) (rest := []) rfl (fun f r h' hf => callS_ok hf rfl rfl rfl) h ?_
                rintro _ _ ⟨x10, I11, J12, rfl, rfl, h⟩
                exact WP.ret rfl rfl h
              · refine WP.blk (pc' := 128) (L' := [vi l0, vi l1, vi l2]) (st' := [vi 1]) (h' := (101, I, J, R0 b)) 2 rfl ?_
                refine WP.cal (y' := 31) (as := [vi 1]) (L' := [vn, vn, vn]) (rest := []) rfl (fun f r h' hf => callS_ok hf rfl rfl rfl) h ?_
                rintro _ _ ⟨x13, I14, J15, rfl, rfl, h⟩
                exact WP.ret rfl rfl h
            · refine WP.ite (c := l0 = 61) (pc1 := 132) (pc2 := swf [(62, 146), (124, 84)] 184 l0) h (fun h => ?_) (fun h => ?_)
              · refine WP.blk (pc' := 134) (L' := [vi l0, vi l1, vi l2]) (st' := [vi l2, vi l1]) (h' := (101, I, J, R0 b)) 2 rfl ?_
                refine WP.icmp_ne (t := 141) (L' := [vi l0, vi l1, vi l2]) rfl rfl rfl rfl h (fun h => ?_) (fun h => ?_)
                · refine WP.blk (pc' := 142) (L' := [vi l0, vi l1, vi l2]) (st' := [vi 0]) (h' := (101, I, J, R0 b)) 1 rfl ?_
                  refine WP.cal (y' := 31) (as := [vi 0]) (L' := [vn, vn, vn]) (rest := []) rfl (fun f r h' hf => callS_ok hf rfl rfl rfl) h ?_
                  rintro _ _ ⟨x16, I17, J18, rfl, rfl, h⟩
                  exact WP.ret rfl rfl h
                · refine WP.blk (pc' := 142) (L' := [vi l0, vi l1, vi l2]) (st' := [vi 1]) (h' := (101, I, J, R0 b)) 2 rfl ?_
                  refine WP.cal (y' := 31) (as := [vi 1]) (L' := [vn, vn, vn]) (rest := []) rfl (fun f r h' hf => callS_ok hf rfl rfl rfl) h ?_
                  rintro _ _ ⟨x19, I20, J21, rfl, rfl, h⟩
                  exact WP.ret rfl rfl h
              · refine WP.ite (c := l0 = 62) (pc1 := 146) (pc2 := swf [(124, 84)] 184 l0) h (fun h => ?_) (fun h => ?_)
                · refine WP.blk (pc' := 148) (L' := [vi l0, vi l1, vi l2]) (st' := [vi l2, vi l1]) (h' := (101, I, J, R0 b)) 2 rfl ?_
                  refine WP.icmp_le (t := 155) (L' := [vi l0, vi l1, vi l2]) rfl rfl rfl rfl h (fun h => ?_) (fun h => ?_)
                  · refine WP.blk (pc' := 156) (L' := [vi l0, vi l1, vi l2]) (st' := [vi 0]) (h' := (101, I, J, R0 b)) 1 rfl ?_
                    refine WP.cal (y' := 31) (as := [vi 0]) (L' := [vn, vn, vn]) (rest := []) rfl (fun f r h' hf => callS_ok hf rfl rfl rfl) h ?_
                    rintro _ _ ⟨x22, I23, J24, rfl, rfl, h⟩
                    exact WP.ret rfl rfl h
                  · refine WP.blk (pc' := 156) (L' := [vi l0, vi l1, vi l2]) (st' := [vi 1]) (h' := (101, I, J, R0 b)) 2 rfl ?_
                    refine WP.cal (y' := 31) (as := [vi 1]) (L' := [vn, vn, vn]) (rest := []) rfl (fun f r h' hf => callS_ok hf rfl rfl rfl) h ?_
                    rintro _ _ ⟨x25, I26, J27, rfl, rfl, h⟩
                    exact WP.ret rfl rfl h
                · refine WP.ite (c := l0 = 124) (pc1 := 84) (pc2 := swf [] 184 l0) h (fun h => ?_) (fun h => ?_)
                  · refine WP.blk (pc' := 85) (L' := [vi l0, vi l1, vi l2]) (st' := [vi l1]) (h' := (101, I, J, R0 b)) 1 rfl ?_
                    refine WP.if_ne (t := 92) (L' := [vi l0, vi l1, vi l2]) rfl rfl rfl rfl h (fun h => ?_) (fun h => ?_)
                    · refine WP.blk (pc' := 97) (L' := [vn, vn, vn]) (st' := [vi 1]) (h' := (101, I, J, R0 b)) 2 rfl ?_
                      refine WP.cal (y' := 31) (as := [vi 1]) (L' := [vn, vn, vn]) (rest := []) rfl (fun f r h' hf => callS_ok hf rfl rfl rfl) h ?_
                      rintro _ _ ⟨x28, I29, J30, rfl, rfl, h⟩
                      exact WP.ret rfl rfl h
                    · refine WP.blk (pc' := 89) (L' := [vi l0, vi l1, vi l2]) (st' := [vi l2]) (h' := (101, I, J, R0 b)) 1 rfl ?_
                      refine WP.if_eq (t := 96) (L' := [vi l0, vi l1, vi l2]) rfl rfl rfl rfl h (fun h => ?_) (fun h => ?_)
                      · refine WP.blk (pc' := 97) (L' := [vi l0, vi l1, vi l2]) (st' := [vi 0]) (h' := (101, I, J, R0 b)) 1 rfl ?_
                        refine WP.cal (y' := 31) (as := [vi 0]) (L' := [vn, vn, vn]) (rest := []) rfl (fun f r h' hf => callS_ok hf rfl rfl rfl) h ?_
                        rintro _ _ ⟨x31, I32, J33, rfl, rfl, h⟩
                        exact WP.ret rfl rfl h
                      · refine WP.blk (pc' := 97) (L' := [vn, vn, vn]) (st' := [vi 1]) (h' := (101, I, J, R0 b)) 2 rfl ?_
                        refine WP.cal (y' := 31) (as := [vi 1]) (L' := [vn, vn, vn]) (rest := []) rfl (fun f r h' hf => callS_ok hf rfl rfl rfl) h ?_
                        rintro _ _ ⟨x34, I35, J36, rfl, rfl, h⟩
                        exact WP.ret rfl rfl h
                  · show WP D 32 184 [vi l0, vi l1, vi l2] [] (101, I, J, R0 b) Q
                    refine WP.blk (pc' := 185) (L' := [vi l0, vi l1, vi l2]) (st' := [vi l2]) (h' := (101, I, J, R0 b)) 1 rfl ?_
                    refine WP.if_ne (t := 192) (L' := [vi l0, vi l1, vi l2]) rfl rfl rfl rfl h (fun h => ?_) (fun h => ?_)
                    · refine WP.blk (pc' := 194) (L' := [vi l0, vi l1, vi l2]) (st' := [vi l2, vi l1]) (h' := (101, I, J, R0 b)) 2 rfl ?_
                      refine WP.g2 (pc' := 195) (L' := [vi l0, vi l1, vi l2]) (st' := [vi (l1 - l1 / l2 * l2)]) (h' := (101, I, J, R0 b)) (b := !(decide (l2 = 0))) rfl (not_dec h.1) rfl ?_
                      have h := And.right h
                      exact WP.ret rfl rfl h
                    · refine WP.blk (pc' := 195) (L' := [vi l0, vi l1, vi l2]) (st' := [vi 0]) (h' := (101, I, J, R0 b)) 2 rfl ?_
                      exact WP.ret rfl rfl h
set_option maxRecDepth 20000 in
theorem t_J0_coder_7d493 {D : Nat}  (I : IM) (J : JM) (b : Bool) {Q : Option AV → AH → Prop} (h : Q (some (vi 0)) (101, I, J, R0 b)) : Call (D + 1) 245 [vr 990 0] (101, I, J, R0 b) Q := by
  refine Call.of rfl ?_
  show WP D 245 0 [vr 990 0] [] (101, I, J, R0 b) Q
  refine WP.blk (pc' := 14) (L' := [vr 990 0]) (st' := [vi 0]) (h' := (101, I, J, R0 b)) 5 rfl ?_
  exact WP.ret rfl rfl h
set_option maxRecDepth 20000 in
theorem t_J0_indexOf_0f7a4 {D : Nat} (l1 : Int32) (I : IM) (J : JM) (b : Bool) {Q : Option AV → AH → Prop} (h : (Call D 247 [vr 990 0, vi l1, vi 0] (101, I, J, R0 b) (RIf b fun x1 I2 J3 => Q (some (vi x1)) (101, I2, J3, R0 b)))) : Call (D + 1) 246 [vr 990 0, vi l1] (101, I, J, R0 b) Q := by
  refine Call.of rfl ?_
  show WP D 246 0 [vr 990 0, vi l1] [] (101, I, J, R0 b) Q
  refine WP.blk (pc' := 3) (L' := [vr 990 0, vi l1]) (st' := [vi 0, vi l1, vr 990 0]) (h' := (101, I, J, R0 b)) 3 rfl ?_
  refine WP.cal (y' := 247) (as := [vr 990 0, vi l1, vi 0]) (L' := [vr 990 0, vi l1]) (rest := []) rfl (fun f r h' hf => callV_ok hf rfl rfl rfl) h ?_
  rintro _ _ ⟨x1, I2, J3, rfl, rfl, h⟩
  exact WP.ret rfl rfl h
set_option maxRecDepth 20000 in
theorem t_J0_indexOf_7cf53 {D : Nat} (l1 : Int32) (l2 : Int32) (I : IM) (J : JM) (b : Bool) {Q : Option AV → AH → Prop} (h : (Call D 248 [vr 990 0] (101, I, J, R0 b) (RIf b fun x1 I2 J3 => (if x1 = 0 then (Call D 249 [vr 990 0] (101, I2, J3, R0 b) (RIf b fun x4 I5 J6 => False)) else (Call D 249 [vr 990 0] (101, I2, J3, R0 b) (RIf b fun x7 I8 J9 => (Call D 252 [vr 991 0, vi l1, vi l2, vi x7] (101, I8, J9, R0 b) (RIf b fun x10 I11 J12 => Q (some (vi x10)) (101, I11, J12, R0 b))))))))) : Call (D + 1) 247 [vr 990 0, vi l1, vi l2] (101, I, J, R0 b) Q := by
  refine Call.of rfl ?_
  show WP D 247 0 [vr 990 0, vi l1, vi l2] [] (101, I, J, R0 b) Q
  refine WP.blk (pc' := 1) (L' := [vr 990 0, vi l1, vi l2]) (st' := [vr 990 0]) (h' := (101, I, J, R0 b)) 1 rfl ?_
  refine WP.cal (y' := 248) (as := [vr 990 0]) (L' := [vr 990 0, vi l1, vi l2]) (rest := []) rfl (fun f r h' hf => callV_ok hf rfl rfl rfl) h ?_
  rintro _ _ ⟨x1, I2, J3, rfl, rfl, h⟩
  refine WP.if_eq (t := 23) (L' := [vr 990 0, vi l1, vi l2]) rfl rfl rfl rfl h (fun h => ?_) (fun h => ?_)
  · refine WP.blk (pc' := 30) (L' := [vr 990 0, vi l1, vi l2]) (st' := [vr 990 0, vi l2, vi l1, vr 991 0]) (h' := (101, I2, J3, R0 b)) 5 rfl ?_
    refine WP.cal (y' := 249) (as := [vr 990 0]) (L' := [vr 990 0, vi l1, vi l2]) (rest := [vi l2, vi l1, vr 991 0]) rfl (fun f r h' hf => callV_ok hf rfl rfl rfl) h ?_
    rintro _ _ ⟨x4, I5, J6, rfl, rfl, h⟩
    exact h.elim
  · refine WP.blk (pc' := 14) (L' := [vr 990 0, vi l1, vi l2]) (st' := [vr 990 0, vi l2, vi l1, vr 991 0]) (h' := (101, I2, J3, R0 b)) 5 rfl ?_
    refine WP.cal (y' := 249) (as := [vr 990 0]) (L' := [vr 990 0, vi l1, vi l2]) (rest := [vi l2, vi l1, vr 991 0]) rfl (fun f r h' hf => callV_ok hf rfl rfl rfl) h ?_
    rintro _ _ ⟨x7, I8, J9, rfl, rfl, h⟩
    refine WP.cal (y' := 252) (as := [vr 991 0, vi l1, vi l2, vi x7]) (L' := [vr 990 0, vi l1, vi l2]) (rest := []) rfl (fun f r h' hf => callS_ok hf rfl rfl rfl) h ?_
    rintro _ _ ⟨x10, I11, J12, rfl, rfl, h⟩
    refine WP.blk (pc' := 36) (L' := [vr 990 0, vi l1, vi l2]) (st' := [vi x10]) (h' := (101, I11, J12, R0 b)) 1 rfl ?_
    exact WP.ret rfl rfl h
set_option maxRecDepth 20000 in
theorem t_J0_isLatin1_aae02 {D : Nat}  (I : IM) (J : JM) (b : Bool) {Q : Option AV → AH → Prop} (h : Q (some (vi 1)) (101, I, J, R0 b)) : Call (D + 1) 248 [vr 990 0] (101, I, J, R0 b) Q := by
  refine Call.of rfl ?_
  show WP D 248 0 [vr 990 0] [] (101, I, J, R0 b) Q
  refine WP.blk (pc' := 18) (L' := [vr 990 0]) (st' := [vi 1]) (h' := (101, I, J, R0 b)) 7 rfl ?_
  exact WP.ret rfl rfl h
set_option maxRecDepth 20000 in
theorem t_J0_length_8abf5 {D : Nat}  (I : IM) (J : JM) (b : Bool) {Q : Option AV → AH → Prop} (h : (Call D 245 [vr 990 0] (101, I, J, R0 b) (RIf b fun x1 I2 J3 => Q (some (vi ((6 : Int32) >>> (x1 &&& 31)))) (101, I2, J3, R0 b)))) : Call (D + 1) 249 [vr 990 0] (101, I, J, R0 b) Q := by
  refine Call.of rfl ?_
  show WP D 249 0 [vr 990 0] [] (101, I, J, R0 b) Q
  refine WP.blk (pc' := 6) (L' := [vr 990 0]) (st' := [vr 990 0, vi 6]) (h' := (101, I, J, R0 b)) 4 rfl ?_
  refine WP.cal (y' := 245) (as := [vr 990 0]) (L' := [vr 990 0]) (rest := [vi 6]) rfl (fun f r h' hf => callV_ok hf rfl rfl rfl) h ?_
  rintro _ _ ⟨x1, I2, J3, rfl, rfl, h⟩
  refine WP.blk (pc' := 10) (L' := [vr 990 0]) (st' := [vi ((6 : Int32) >>> (x1 &&& 31))]) (h' := (101, I2, J3, R0 b)) 1 rfl ?_
  exact WP.ret rfl rfl h
set_option maxRecDepth 20000 in
theorem t_J1_canEncode_9a6ad {D : Nat} (l0 : Int32) (I : IM) (J : JM) (b : Bool) {Q : Option AV → AH → Prop} (h : (if l0 < 0 then Q (some (vi 0)) (101, I, J, R0 b) else (if (255 : Int32) < l0 then Q (some (vi 0)) (101, I, J, R0 b) else Q (some (vi 1)) (101, I, J, R0 b)))) : Call (D + 1) 250 [vi l0] (101, I, J, R0 b) Q := by
  refine Call.of rfl ?_
  show WP D 250 0 [vi l0] [] (101, I, J, R0 b) Q
  refine WP.blk (pc' := 1) (L' := [vi l0]) (st' := [vi l0]) (h' := (101, I, J, R0 b)) 1 rfl ?_
  refine WP.if_lt (t := 15) (L' := [vi l0]) rfl rfl rfl rfl h (fun h => ?_) (fun h => ?_)
  · refine WP.blk (pc' := 16) (L' := [vn]) (st' := [vi 0]) (h' := (101, I, J, R0 b)) 1 rfl ?_
    exact WP.ret rfl rfl h
  · refine WP.blk (pc' := 8) (L' := [vi l0]) (st' := [vi 255, vi l0]) (h' := (101, I, J, R0 b)) 2 rfl ?_
    refine WP.icmp_gt (t := 15) (L' := [vi l0]) rfl rfl rfl rfl h (fun h => ?_) (fun h => ?_)
    · refine WP.blk (pc' := 16) (L' := [vn]) (st' := [vi 0]) (h' := (101, I, J, R0 b)) 1 rfl ?_
      exact WP.ret rfl rfl h
    · refine WP.blk (pc' := 16) (L' := [vi l0]) (st' := [vi 1]) (h' := (101, I, J, R0 b)) 2 rfl ?_
      exact WP.ret rfl rfl h
set_option maxRecDepth 20000 in
theorem t_J1_indexOfChar_4cfef {D : Nat} (l1 : Int32) (l2 : Int32) (l3 : Int32) (I : IM) (J : JM) (b : Bool) {Q : Option AV → AH → Prop} (h : WP D 251 7 [vr 991 0, vn, vn, vi l3, vi (l1).toInt8.toInt32, vi l2] [] (101, I, J, R0 b) Q) : Call (D + 1) 251 [vr 991 0, vi l1, vi l2, vi l3] (101, I, J, R0 b) Q := by
  refine Call.of rfl ?_
  show WP D 251 0 [vr 991 0, vi l1, vi l2, vi l3, vn, vn] [] (101, I, J, R0 b) Q
  refine WP.blk (pc' := 7) (L' := [vr 991 0, vi l1, vi l2, vi l3, vi (l1).toInt8.toInt32, vi l2]) (st' := []) (h' := (101, I, J, R0 b)) 5 rfl ?_
  exact WP.mask rfl rfl h
set_option maxRecDepth 20000 in
theorem t_J1_indexOfChar_4cfef_7 {D : Nat} (l3 : Int32) (l4 : Int32) (l5 : Int32) (I : IM) (J : JM) (b : Bool) {Q : Option AV → AH → Prop} (h : (if l3 ≤ l5 then Q (some (vi (-1))) (101, I, J, R0 b) else (vp_in l5 6 ∧ (if ¬ ((STl 991).getD l5.toNatClampNeg 0) = l4 then WP D 251 7 [vr 991 0, vn, vn, vi l3, vi l4, vi (l5 + 1)] [] (101, I, J, R0 b) Q else Q (some (vi l5)) (101, I, J, R0 b))))) : WP D 251 7 [vr 991 0, vn, vn, vi l3, vi l4, vi l5] [] (101, I, J, R0 b) Q := by
  refine WP.blk (pc' := 10) (L' := [vr 991 0, vn, vn, vi l3, vi l4, vi l5]) (st' := [vi l3, vi l5]) (h' := (101, I, J, R0 b)) 2 rfl ?_
  refine WP.icmp_ge (t := 31) (L' := [vr 991 0, vn, vn, vi l3, vi l4, vi l5]) rfl rfl rfl rfl h (fun h => ?_) (fun h => ?_)
  · refine WP.blk (pc' := 32) (L' := [vr 991 0, vn, vn, vi l3, vi l4, vi l5]) (st' := [vi (-1)]) (h' := (101, I, J, R0 b)) 1 rfl ?_
    exact WP.ret rfl rfl h
  · refine WP.blk (pc' := 16) (L' := [vr 991 0, vn, vn, vi l3, vi l4, vi l5]) (st' := [vi l5, vr 991 0]) (h' := (101, I, J, R0 b)) 2 rfl ?_
    refine WP.step (pc' := 17) (L' := [vr 991 0, vn, vn, vi l3, vi l4, vi l5]) (st' := [vi ((STl 991).getD l5.toNatClampNeg 0)]) (h' := (101, I, J, R0 b)) rfl (baload_ok (n := 6) rfl rfl rfl (inA_of h.1)) ?_
    have h := And.right h
    refine WP.blk (pc' := 19) (L' := [vr 991 0, vn, vn, vi l3, vi l4, vi l5]) (st' := [vi l4, vi ((STl 991).getD l5.toNatClampNeg 0)]) (h' := (101, I, J, R0 b)) 1 rfl ?_
    refine WP.icmp_ne (t := 25) (L' := [vr 991 0, vn, vn, vi l3, vi l4, vi l5]) rfl rfl rfl rfl h (fun h => ?_) (fun h => ?_)
    · refine WP.blk (pc' := 7) (L' := [vr 991 0, vn, vn, vi l3, vi l4, vi (l5 + 1)]) (st' := []) (h' := (101, I, J, R0 b)) 2 rfl ?_
      exact WP.mask rfl rfl h
    · refine WP.blk (pc' := 24) (L' := [vr 991 0, vn, vn, vi l3, vi l4, vi l5]) (st' := [vi l5]) (h' := (101, I, J, R0 b)) 1 rfl ?_
      exact WP.ret rfl rfl h
set_option maxRecDepth 20000 in
theorem t_J1_indexOf_4cfef {D : Nat} (l1 : Int32) (l2 : Int32) (l3 : Int32) (I : IM) (J : JM) (b : Bool) {Q : Option AV → AH → Prop} (h : (Call D 250 [vi l1] (101, I, J, R0 b) (RIf b fun x1 I2 J3 => (if ¬ x1 = 0 then (if (if l2 < (0 : Int32) then (0 : Int32) else l2) < (if (6 : Int32) < l3 then (6 : Int32) else l3) then (Call D 251 [vr 991 0, vi l1, vi (if l2 < (0 : Int32) then (0 : Int32) else l2), vi (if (6 : Int32) < l3 then (6 : Int32) else l3)] (101, I2, J3, R0 b) (RIf b fun x4 I5 J6 => Q (some (vi x4)) (101, I5, J6, R0 b))) else Q (some (vi (-1))) (101, I2, J3, R0 b)) else Q (some (vi (-1))) (101, I2, J3, R0 b))))) : Call (D + 1) 252 [vr 991 0, vi l1, vi l2, vi l3] (101, I, J, R0 b) Q := by
  refine Call.of rfl ?_
  show WP D 252 0 [vr 991 0, vi l1, vi l2, vi l3] [] (101, I, J, R0 b) Q
  refine WP.blk (pc' := 1) (L' := [vr 991 0, vi l1, vi l2, vi l3]) (st' := [vi l1]) (h' := (101, I, J, R0 b)) 1 rfl ?_
  refine WP.cal (y' := 250) (as := [vi l1]) (L' := [vr 991 0, vi l1, vi l2, vi l3]) (rest := []) rfl (fun f r h' hf => callS_ok hf rfl rfl rfl) h ?_
  rintro _ _ ⟨x1, I2, J3, rfl, rfl, h⟩
  refine WP.if_ne (t := 9) (L' := [vr 991 0, vi l1, vi l2, vi l3]) rfl rfl rfl rfl h (fun h => ?_) (fun h => ?_)
  · refine WP.blk (pc' := 24) (L' := [vr 991 0, vi l1, vi (if l2 < (0 : Int32) then (0 : Int32) else l2), vi (if (6 : Int32) < l3 then (6 : Int32) else l3)]) (st' := [vi (if (6 : Int32) < l3 then (6 : Int32) else l3), vi (if l2 < (0 : Int32) then (0 : Int32) else l2)]) (h' := (101, I2, J3, R0 b)) 11 rfl ?_
    refine WP.icmp_lt (t := 29) (L' := [vr 991 0, vi l1, vi (if l2 < (0 : Int32) then (0 : Int32) else l2), vi (if (6 : Int32) < l3 then (6 : Int32) else l3)]) rfl rfl rfl rfl h (fun h => ?_) (fun h => ?_)
    · refine WP.blk (pc' := 33) (L' := [vr 991 0, vi l1, vi (if l2 < (0 : Int32) then (0 : Int32) else l2), vi (if (6 : Int32) < l3 then (6 : Int32) else l3)]) (st' := [vi (if (6 : Int32) < l3 then (6 : Int32) else l3), vi (if l2 < (0 : Int32) then (0 : Int32) else l2), vi l1, vr 991 0]) (h' := (101, I2, J3, R0 b)) 4 rfl ?_
      refine WP.cal (y' := 251) (as := [vr 991 0, vi l1, vi (if l2 < (0 : Int32) then (0 : Int32) else l2), vi (if (6 : Int32) < l3 then (6 : Int32) else l3)]) (L' := [vr 991 0, vi l1, vi (if l2 < (0 : Int32) then (0 : Int32) else l2), vi (if (6 : Int32) < l3 then (6 : Int32) else l3)]) (rest := []) rfl (fun f r h' hf => callS_ok hf rfl rfl rfl) h ?_
      rintro _ _ ⟨x4, I5, J6, rfl, rfl, h⟩
      exact WP.ret rfl rfl h
    · refine WP.blk (pc' := 28) (L' := [vr 991 0, vi l1, vi (if l2 < (0 : Int32) then (0 : Int32) else l2), vi (if (6 : Int32) < l3 then (6 : Int32) else l3)]) (st' := [vi (-1)]) (h' := (101, I2, J3, R0 b)) 1 rfl ?_
      exact WP.ret rfl rfl h
  · refine WP.blk (pc' := 8) (L' := [vr 991 0, vi l1, vi l2, vi l3]) (st' := [vi (-1)]) (h' := (101, I2, J3, R0 b)) 1 rfl ?_
    exact WP.ret rfl rfl h
set_option maxRecDepth 20000 in
theorem t_J6_bitCount_0f7a4 {D : Nat} (l0 : Int32) (I : IM) (J : JM) (b : Bool) {Q : Option AV → AH → Prop} (h : Q (some (vi ((((((((l0 - ((Int32.toUInt32 l0 >>> (Int32.toUInt32 (1 : Int32) &&& Int32.toUInt32 31)).toInt32 &&& (1431655765 : Int32))) &&& (858993459 : Int32)) + ((Int32.toUInt32 (l0 - ((Int32.toUInt32 l0 >>> (Int32.toUInt32 (1 : Int32) &&& Int32.toUInt32 31)).toInt32 &&& (1431655765 : Int32))) >>> (Int32.toUInt32 (2 : Int32) &&& Int32.toUInt32 31)).toInt32 &&& (858993459 : Int32))) + (Int32.toUInt32 (((l0 - ((Int32.toUInt32 l0 >>> (Int32.toUInt32 (1 : Int32) &&& Int32.toUInt32 31)).toInt32 &&& (1431655765 : Int32))) &&& (858993459 : Int32)) + ((Int32.toUInt32 (l0 - ((Int32.toUInt32 l0 >>> (Int32.toUInt32 (1 : Int32) &&& Int32.toUInt32 31)).toInt32 &&& (1431655765 : Int32))) >>> (Int32.toUInt32 (2 : Int32) &&& Int32.toUInt32 31)).toInt32 &&& (858993459 : Int32))) >>> (Int32.toUInt32 (4 : Int32) &&& Int32.toUInt32 31)).toInt32) &&& (252645135 : Int32)) + (Int32.toUInt32 (((((l0 - ((Int32.toUInt32 l0 >>> (Int32.toUInt32 (1 : Int32) &&& Int32.toUInt32 31)).toInt32 &&& (1431655765 : Int32))) &&& (858993459 : Int32)) + ((Int32.toUInt32 (l0 - ((Int32.toUInt32 l0 >>> (Int32.toUInt32 (1 : Int32) &&& Int32.toUInt32 31)).toInt32 &&& (1431655765 : Int32))) >>> (Int32.toUInt32 (2 : Int32) &&& Int32.toUInt32 31)).toInt32 &&& (858993459 : Int32))) + (Int32.toUInt32 (((l0 - ((Int32.toUInt32 l0 >>> (Int32.toUInt32 (1 : Int32) &&& Int32.toUInt32 31)).toInt32 &&& (1431655765 : Int32))) &&& (858993459 : Int32)) + ((Int32.toUInt32 (l0 - ((Int32.toUInt32 l0 >>> (Int32.toUInt32 (1 : Int32) &&& Int32.toUInt32 31)).toInt32 &&& (1431655765 : Int32))) >>> (Int32.toUInt32 (2 : Int32) &&& Int32.toUInt32 31)).toInt32 &&& (858993459 : Int32))) >>> (Int32.toUInt32 (4 : Int32) &&& Int32.toUInt32 31)).toInt32) &&& (252645135 : Int32)) >>> (Int32.toUInt32 (8 : Int32) &&& Int32.toUInt32 31)).toInt32) + (Int32.toUInt32 ((((((l0 - ((Int32.toUInt32 l0 >>> (Int32.toUInt32 (1 : Int32) &&& Int32.toUInt32 31)).toInt32 &&& (1431655765 : Int32))) &&& (858993459 : Int32)) + ((Int32.toUInt32 (l0 - ((Int32.toUInt32 l0 >>> (Int32.toUInt32 (1 : Int32) &&& Int32.toUInt32 31)).toInt32 &&& (1431655765 : Int32))) >>> (Int32.toUInt32 (2 : Int32) &&& Int32.toUInt32 31)).toInt32 &&& (858993459 : Int32))) + (Int32.toUInt32 (((l0 - ((Int32.toUInt32 l0 >>> (Int32.toUInt32 (1 : Int32) &&& Int32.toUInt32 31)).toInt32 &&& (1431655765 : Int32))) &&& (858993459 : Int32)) + ((Int32.toUInt32 (l0 - ((Int32.toUInt32 l0 >>> (Int32.toUInt32 (1 : Int32) &&& Int32.toUInt32 31)).toInt32 &&& (1431655765 : Int32))) >>> (Int32.toUInt32 (2 : Int32) &&& Int32.toUInt32 31)).toInt32 &&& (858993459 : Int32))) >>> (Int32.toUInt32 (4 : Int32) &&& Int32.toUInt32 31)).toInt32) &&& (252645135 : Int32)) + (Int32.toUInt32 (((((l0 - ((Int32.toUInt32 l0 >>> (Int32.toUInt32 (1 : Int32) &&& Int32.toUInt32 31)).toInt32 &&& (1431655765 : Int32))) &&& (858993459 : Int32)) + ((Int32.toUInt32 (l0 - ((Int32.toUInt32 l0 >>> (Int32.toUInt32 (1 : Int32) &&& Int32.toUInt32 31)).toInt32 &&& (1431655765 : Int32))) >>> (Int32.toUInt32 (2 : Int32) &&& Int32.toUInt32 31)).toInt32 &&& (858993459 : Int32))) + (Int32.toUInt32 (((l0 - ((Int32.toUInt32 l0 >>> (Int32.toUInt32 (1 : Int32) &&& Int32.toUInt32 31)).toInt32 &&& (1431655765 : Int32))) &&& (858993459 : Int32)) + ((Int32.toUInt32 (l0 - ((Int32.toUInt32 l0 >>> (Int32.toUInt32 (1 : Int32) &&& Int32.toUInt32 31)).toInt32 &&& (1431655765 : Int32))) >>> (Int32.toUInt32 (2 : Int32) &&& Int32.toUInt32 31)).toInt32 &&& (858993459 : Int32))) >>> (Int32.toUInt32 (4 : Int32) &&& Int32.toUInt32 31)).toInt32) &&& (252645135 : Int32)) >>> (Int32.toUInt32 (8 : Int32) &&& Int32.toUInt32 31)).toInt32) >>> (Int32.toUInt32 (16 : Int32) &&& Int32.toUInt32 31)).toInt32) &&& (63 : Int32)))) (101, I, J, R0 b)) : Call (D + 1) 253 [vi l0] (101, I, J, R0 b) Q := by
  refine Call.of rfl ?_
  show WP D 253 0 [vi l0] [] (101, I, J, R0 b) Q
  refine WP.blk (pc' := 52) (L' := [vi (((((((l0 - ((Int32.toUInt32 l0 >>> (Int32.toUInt32 (1 : Int32) &&& Int32.toUInt32 31)).toInt32 &&& (1431655765 : Int32))) &&& (858993459 : Int32)) + ((Int32.toUInt32 (l0 - ((Int32.toUInt32 l0 >>> (Int32.toUInt32 (1 : Int32) &&& Int32.toUInt32 31)).toInt32 &&& (1431655765 : Int32))) >>> (Int32.toUInt32 (2 : Int32) &&& Int32.toUInt32 31)).toInt32 &&& (858993459 : Int32))) + (Int32.toUInt32 (((l0 - ((Int32.toUInt32 l0 >>> (Int32.toUInt32 (1 : Int32) &&& Int32.toUInt32 31)).toInt32 &&& (1431655765 : Int32))) &&& (858993459 : Int32)) + ((Int32.toUInt32 (l0 - ((Int32.toUInt32 l0 >>> (Int32.toUInt32 (1 : Int32) &&& Int32.toUInt32 31)).toInt32 &&& (1431655765 : Int32))) >>> (Int32.toUInt32 (2 : Int32) &&& Int32.toUInt32 31)).toInt32 &&& (858993459 : Int32))) >>> (Int32.toUInt32 (4 : Int32) &&& Int32.toUInt32 31)).toInt32) &&& (252645135 : Int32)) + (Int32.toUInt32 (((((l0 - ((Int32.toUInt32 l0 >>> (Int32.toUInt32 (1 : Int32) &&& Int32.toUInt32 31)).toInt32 &&& (1431655765 : Int32))) &&& (858993459 : Int32)) + ((Int32.toUInt32 (l0 - ((Int32.toUInt32 l0 >>> (Int32.toUInt32 (1 : Int32) &&& Int32.toUInt32 31)).toInt32 &&& (1431655765 : Int32))) >>> (Int32.toUInt32 (2 : Int32) &&& Int32.toUInt32 31)).toInt32 &&& (858993459 : Int32))) + (Int32.toUInt32 (((l0 - ((Int32.toUInt32 l0 >>> (Int32.toUInt32 (1 : Int32) &&& Int32.toUInt32 31)).toInt32 &&& (1431655765 : Int32))) &&& (858993459 : Int32)) + ((Int32.toUInt32 (l0 - ((Int32.toUInt32 l0 >>> (Int32.toUInt32 (1 : Int32) &&& Int32.toUInt32 31)).toInt32 &&& (1431655765 : Int32))) >>> (Int32.toUInt32 (2 : Int32) &&& Int32.toUInt32 31)).toInt32 &&& (858993459 : Int32))) >>> (Int32.toUInt32 (4 : Int32) &&& Int32.toUInt32 31)).toInt32) &&& (252645135 : Int32)) >>> (Int32.toUInt32 (8 : Int32) &&& Int32.toUInt32 31)).toInt32) + (Int32.toUInt32 ((((((l0 - ((Int32.toUInt32 l0 >>> (Int32.toUInt32 (1 : Int32) &&& Int32.toUInt32 31)).toInt32 &&& (1431655765 : Int32))) &&& (858993459 : Int32)) + ((Int32.toUInt32 (l0 - ((Int32.toUInt32 l0 >>> (Int32.toUInt32 (1 : Int32) &&& Int32.toUInt32 31)).toInt32 &&& (1431655765 : Int32))) >>> (Int32.toUInt32 (2 : Int32) &&& Int32.toUInt32 31)).toInt32 &&& (858993459 : Int32))) + (Int32.toUInt32 (((l0 - ((Int32.toUInt32 l0 >>> (Int32.toUInt32 (1 : Int32) &&& Int32.toUInt32 31)).toInt32 &&& (1431655765 : Int32))) &&& (858993459 : Int32)) + ((Int32.toUInt32 (l0 - ((Int32.toUInt32 l0 >>> (Int32.toUInt32 (1 : Int32) &&& Int32.toUInt32 31)).toInt32 &&& (1431655765 : Int32))) >>> (Int32.toUInt32 (2 : Int32) &&& Int32.toUInt32 31)).toInt32 &&& (858993459 : Int32))) >>> (Int32.toUInt32 (4 : Int32) &&& Int32.toUInt32 31)).toInt32) &&& (252645135 : Int32)) + (Int32.toUInt32 (((((l0 - ((Int32.toUInt32 l0 >>> (Int32.toUInt32 (1 : Int32) &&& Int32.toUInt32 31)).toInt32 &&& (1431655765 : Int32))) &&& (858993459 : Int32)) + ((Int32.toUInt32 (l0 - ((Int32.toUInt32 l0 >>> (Int32.toUInt32 (1 : Int32) &&& Int32.toUInt32 31)).toInt32 &&& (1431655765 : Int32))) >>> (Int32.toUInt32 (2 : Int32) &&& Int32.toUInt32 31)).toInt32 &&& (858993459 : Int32))) + (Int32.toUInt32 (((l0 - ((Int32.toUInt32 l0 >>> (Int32.toUInt32 (1 : Int32) &&& Int32.toUInt32 31)).toInt32 &&& (1431655765 : Int32))) &&& (858993459 : Int32)) + ((Int32.toUInt32 (l0 - ((Int32.toUInt32 l0 >>> (Int32.toUInt32 (1 : Int32) &&& Int32.toUInt32 31)).toInt32 &&& (1431655765 : Int32))) >>> (Int32.toUInt32 (2 : Int32) &&& Int32.toUInt32 31)).toInt32 &&& (858993459 : Int32))) >>> (Int32.toUInt32 (4 : Int32) &&& Int32.toUInt32 31)).toInt32) &&& (252645135 : Int32)) >>> (Int32.toUInt32 (8 : Int32) &&& Int32.toUInt32 31)).toInt32) >>> (Int32.toUInt32 (16 : Int32) &&& Int32.toUInt32 31)).toInt32)]) (st' := [vi ((((((((l0 - ((Int32.toUInt32 l0 >>> (Int32.toUInt32 (1 : Int32) &&& Int32.toUInt32 31)).toInt32 &&& (1431655765 : Int32))) &&& (858993459 : Int32)) + ((Int32.toUInt32 (l0 - ((Int32.toUInt32 l0 >>> (Int32.toUInt32 (1 : Int32) &&& Int32.toUInt32 31)).toInt32 &&& (1431655765 : Int32))) >>> (Int32.toUInt32 (2 : Int32) &&& Int32.toUInt32 31)).toInt32 &&& (858993459 : Int32))) + (Int32.toUInt32 (((l0 - ((Int32.toUInt32 l0 >>> (Int32.toUInt32 (1 : Int32) &&& Int32.toUInt32 31)).toInt32 &&& (1431655765 : Int32))) &&& (858993459 : Int32)) + ((Int32.toUInt32 (l0 - ((Int32.toUInt32 l0 >>> (Int32.toUInt32 (1 : Int32) &&& Int32.toUInt32 31)).toInt32 &&& (1431655765 : Int32))) >>> (Int32.toUInt32 (2 : Int32) &&& Int32.toUInt32 31)).toInt32 &&& (858993459 : Int32))) >>> (Int32.toUInt32 (4 : Int32) &&& Int32.toUInt32 31)).toInt32) &&& (252645135 : Int32)) + (Int32.toUInt32 (((((l0 - ((Int32.toUInt32 l0 >>> (Int32.toUInt32 (1 : Int32) &&& Int32.toUInt32 31)).toInt32 &&& (1431655765 : Int32))) &&& (858993459 : Int32)) + ((Int32.toUInt32 (l0 - ((Int32.toUInt32 l0 >>> (Int32.toUInt32 (1 : Int32) &&& Int32.toUInt32 31)).toInt32 &&& (1431655765 : Int32))) >>> (Int32.toUInt32 (2 : Int32) &&& Int32.toUInt32 31)).toInt32 &&& (858993459 : Int32))) + (Int32.toUInt32 (((l0 - ((Int32.toUInt32 l0 >>> (Int32.toUInt32 (1 : Int32) &&& Int32.toUInt32 31)).toInt32 &&& (1431655765 : Int32))) &&& (858993459 : Int32)) + ((Int32.toUInt32 (l0 - ((Int32.toUInt32 l0 >>> (Int32.toUInt32 (1 : Int32) &&& Int32.toUInt32 31)).toInt32 &&& (1431655765 : Int32))) >>> (Int32.toUInt32 (2 : Int32) &&& Int32.toUInt32 31)).toInt32 &&& (858993459 : Int32))) >>> (Int32.toUInt32 (4 : Int32) &&& Int32.toUInt32 31)).toInt32) &&& (252645135 : Int32)) >>> (Int32.toUInt32 (8 : Int32) &&& Int32.toUInt32 31)).toInt32) + (Int32.toUInt32 ((((((l0 - ((Int32.toUInt32 l0 >>> (Int32.toUInt32 (1 : Int32) &&& Int32.toUInt32 31)).toInt32 &&& (1431655765 : Int32))) &&& (858993459 : Int32)) + ((Int32.toUInt32 (l0 - ((Int32.toUInt32 l0 >>> (Int32.toUInt32 (1 : Int32) &&& Int32.toUInt32 31)).toInt32 &&& (1431655765 : Int32))) >>> (Int32.toUInt32 (2 : Int32) &&& Int32.toUInt32 31)).toInt32 &&& (858993459 : Int32))) + (Int32.toUInt32 (((l0 - ((Int32.toUInt32 l0 >>> (Int32.toUInt32 (1 : Int32) &&& Int32.toUInt32 31)).toInt32 &&& (1431655765 : Int32))) &&& (858993459 : Int32)) + ((Int32.toUInt32 (l0 - ((Int32.toUInt32 l0 >>> (Int32.toUInt32 (1 : Int32) &&& Int32.toUInt32 31)).toInt32 &&& (1431655765 : Int32))) >>> (Int32.toUInt32 (2 : Int32) &&& Int32.toUInt32 31)).toInt32 &&& (858993459 : Int32))) >>> (Int32.toUInt32 (4 : Int32) &&& Int32.toUInt32 31)).toInt32) &&& (252645135 : Int32)) + (Int32.toUInt32 (((((l0 - ((Int32.toUInt32 l0 >>> (Int32.toUInt32 (1 : Int32) &&& Int32.toUInt32 31)).toInt32 &&& (1431655765 : Int32))) &&& (858993459 : Int32)) + ((Int32.toUInt32 (l0 - ((Int32.toUInt32 l0 >>> (Int32.toUInt32 (1 : Int32) &&& Int32.toUInt32 31)).toInt32 &&& (1431655765 : Int32))) >>> (Int32.toUInt32 (2 : Int32) &&& Int32.toUInt32 31)).toInt32 &&& (858993459 : Int32))) + (Int32.toUInt32 (((l0 - ((Int32.toUInt32 l0 >>> (Int32.toUInt32 (1 : Int32) &&& Int32.toUInt32 31)).toInt32 &&& (1431655765 : Int32))) &&& (858993459 : Int32)) + ((Int32.toUInt32 (l0 - ((Int32.toUInt32 l0 >>> (Int32.toUInt32 (1 : Int32) &&& Int32.toUInt32 31)).toInt32 &&& (1431655765 : Int32))) >>> (Int32.toUInt32 (2 : Int32) &&& Int32.toUInt32 31)).toInt32 &&& (858993459 : Int32))) >>> (Int32.toUInt32 (4 : Int32) &&& Int32.toUInt32 31)).toInt32) &&& (252645135 : Int32)) >>> (Int32.toUInt32 (8 : Int32) &&& Int32.toUInt32 31)).toInt32) >>> (Int32.toUInt32 (16 : Int32) &&& Int32.toUInt32 31)).toInt32) &&& (63 : Int32))]) (h' := (101, I, J, R0 b)) 41 rfl ?_
  exact WP.ret rfl rfl h
set_option maxRecDepth 20000 in
theorem t_J7_fill_53178 {D : Nat} (l1 : Int32) (I : IM) (J : JM) (b : Bool) {Q : Option AV → AH → Prop} (h : WP D 254 5 [vr 36 0, vi l1, vi 0, vi 7] [] (101, I, J, R0 b) Q) : Call (D + 1) 254 [vr 36 0, vi l1] (101, I, J, R0 b) Q := by
  refine Call.of rfl ?_
  show WP D 254 0 [vr 36 0, vi l1, vn, vn] [] (101, I, J, R0 b) Q
  refine WP.blk (pc' := 5) (L' := [vr 36 0, vi l1, vi 0, vi 7]) (st' := []) (h' := (101, I, J, R0 b)) 5 rfl ?_
  exact WP.mask rfl rfl h
set_option maxRecDepth 20000 in
theorem t_J7_fill_53178_5 {D : Nat} (l1 : Int32) (l2 : Int32) (l3 : Int32) (I : IM) (J : JM) (b : Bool) {Q : Option AV → AH → Prop} (h : (if l3 ≤ l2 then Q none (101, I, J, R0 b) else (vp_in l2 7 ∧ WP D 254 5 [vr 36 0, vi l1, vi (l2 + 1), vi l3] [] (101, (updI I 36 0 l2.toNatClampNeg l1), J, R0 b) Q))) : WP D 254 5 [vr 36 0, vi l1, vi l2, vi l3] [] (101, I, J, R0 b) Q := by
  refine WP.blk (pc' := 7) (L' := [vr 36 0, vi l1, vi l2, vi l3]) (st' := [vi l3, vi l2]) (h' := (101, I, J, R0 b)) 2 rfl ?_
  refine WP.icmp_ge (t := 20) (L' := [vr 36 0, vi l1, vi l2, vi l3]) rfl rfl rfl rfl h (fun h => ?_) (fun h => ?_)
  · exact WP.ret rfl rfl h
  · refine WP.blk (pc' := 13) (L' := [vr 36 0, vi l1, vi l2, vi l3]) (st' := [vi l1, vi l2, vr 36 0]) (h' := (101, I, J, R0 b)) 3 rfl ?_
    refine WP.step (pc' := 14) (L' := [vr 36 0, vi l1, vi l2, vi l3]) (st' := []) (h' := (101, (updI I 36 0 l2.toNatClampNeg l1), J, R0 b)) rfl (iastore_ok (n := 7) rfl rfl rfl (inA_of h.1)) ?_
    have h := And.right h
    refine WP.blk (pc' := 5) (L' := [vr 36 0, vi l1, vi (l2 + 1), vi l3]) (st' := []) (h' := (101, (updI I 36 0 l2.toNatClampNeg l1), J, R0 b)) 2 rfl ?_
    exact WP.mask rfl rfl h
set_option maxRecDepth 20000 in
theorem t_J7_fill_d0a16 {D : Nat} (w0 : Nat) (l1 : Int64) (I : IM) (J : JM) (b : Bool) {Q : Option AV → AH → Prop} (h : WP D 255 6 [vr 41 w0, vl l1, vn, vi 0, vi 60] [] (101, I, J, R0 b) Q) : Call (D + 1) 255 [vr 41 w0, vl l1] (101, I, J, R0 b) Q := by
  refine Call.of rfl ?_
  show WP D 255 0 [vr 41 w0, vl l1, vn, vn, vn] [] (101, I, J, R0 b) Q
  refine WP.blk (pc' := 6) (L' := [vr 41 w0, vl l1, vn, vi 0, vi 60]) (st' := []) (h' := (101, I, J, R0 b)) 5 rfl ?_
  exact WP.mask rfl rfl h
set_option maxRecDepth 20000 in
theorem t_J7_fill_d0a16_6 {D : Nat} (w0 : Nat) (l1 : Int64) (l3 : Int32) (l4 : Int32) (I : IM) (J : JM) (b : Bool) {Q : Option AV → AH → Prop} (h : (if l4 ≤ l3 then Q none (101, I, J, R0 b) else (vp_in l3 60 ∧ WP D 255 6 [vr 41 w0, vl l1, vn, vi (l3 + 1), vi l4] [] (101, I, (updJ J 41 w0 l3.toNatClampNeg l1), R0 b) Q))) : WP D 255 6 [vr 41 w0, vl l1, vn, vi l3, vi l4] [] (101, I, J, R0 b) Q := by
  refine WP.blk (pc' := 9) (L' := [vr 41 w0, vl l1, vn, vi l3, vi l4]) (st' := [vi l4, vi l3]) (h' := (101, I, J, R0 b)) 2 rfl ?_
  refine WP.icmp_ge (t := 22) (L' := [vr 41 w0, vl l1, vn, vi l3, vi l4]) rfl rfl rfl rfl h (fun h => ?_) (fun h => ?_)
  · exact WP.ret rfl rfl h
  · refine WP.blk (pc' := 15) (L' := [vr 41 w0, vl l1, vn, vi l3, vi l4]) (st' := [vl l1, vi l3, vr 41 w0]) (h' := (101, I, J, R0 b)) 3 rfl ?_
    refine WP.step (pc' := 16) (L' := [vr 41 w0, vl l1, vn, vi l3, vi l4]) (st' := []) (h' := (101, I, (updJ J 41 w0 l3.toNatClampNeg l1), R0 b)) rfl (lastore_ok (n := 60) rfl rfl rfl (inA_of h.1)) ?_
    have h := And.right h
    refine WP.blk (pc' := 6) (L' := [vr 41 w0, vl l1, vn, vi (l3 + 1), vi l4]) (st' := []) (h' := (101, I, (updJ J 41 w0 l3.toNatClampNeg l1), R0 b)) 2 rfl ?_
    exact WP.mask rfl rfl h
set_option maxRecDepth 20000 in
theorem t_X3_valueOf {D : Nat} (l1 : Int32) (I : IM) (J : JM) (b : Bool) {Q : Option AV → AH → Prop} (h : (if l1 < (1000 : Int32) then (if (l1 - (200 : Int32)) < 0 then Q (some (vi 0)) (101, I, J, R0 b) else (if (6 : Int32) ≤ (l1 - (200 : Int32)) then Q (some (vi 0)) (101, I, J, R0 b) else (vp_in (l1 - (200 : Int32)) 6 ∧ Q (some (vi (I 26 0 (l1 - (200 : Int32)).toNatClampNeg))) (101, I, J, R0 b)))) else Q (some (vi (l1 - (1000 : Int32)))) (101, I, J, R0 b))) : Call (D + 1) 259 [vr 3 0, vi l1] (101, I, J, R0 b) Q := by
  refine Call.of rfl ?_
  show WP D 259 0 [vr 3 0, vi l1, vn] [] (101, I, J, R0 b) Q
  refine WP.blk (pc' := 4) (L' := [vr 3 0, vi l1, vn]) (st' := [vi 1000, vi l1]) (h' := (101, I, J, R0 b)) 2 rfl ?_
  refine WP.icmp_lt (t := 13) (L' := [vr 3 0, vi l1, vn]) rfl rfl rfl rfl h (fun h => ?_) (fun h => ?_)
  · refine WP.blk (pc' := 20) (L' := [vr 3 0, vi l1, vi (l1 - (200 : Int32))]) (st' := [vi (l1 - (200 : Int32))]) (h' := (101, I, J, R0 b)) 5 rfl ?_
    refine WP.if_lt (t := 41) (L' := [vr 3 0, vi l1, vi (l1 - (200 : Int32))]) rfl rfl rfl rfl h (fun h => ?_) (fun h => ?_)
    · refine WP.blk (pc' := 42) (L' := [vn, vn, vn]) (st' := [vi 0]) (h' := (101, I, J, R0 b)) 1 rfl ?_
      exact WP.ret rfl rfl h
    · refine WP.blk (pc' := 29) (L' := [vr 3 0, vi l1, vi (l1 - (200 : Int32))]) (st' := [vi 6, vi (l1 - (200 : Int32))]) (h' := (101, I, J, R0 b)) 4 rfl ?_
      refine WP.icmp_ge (t := 41) (L' := [vr 3 0, vi l1, vi (l1 - (200 : Int32))]) rfl rfl rfl rfl h (fun h => ?_) (fun h => ?_)
      · refine WP.blk (pc' := 42) (L' := [vn, vn, vn]) (st' := [vi 0]) (h' := (101, I, J, R0 b)) 1 rfl ?_
        exact WP.ret rfl rfl h
      · refine WP.blk (pc' := 37) (L' := [vr 3 0, vi l1, vi (l1 - (200 : Int32))]) (st' := [vi (l1 - (200 : Int32)), vr 26 0]) (h' := (101, I, J, R0 b)) 3 rfl ?_
        refine WP.step (pc' := 38) (L' := [vr 3 0, vi l1, vi (l1 - (200 : Int32))]) (st' := [vi (I 26 0 (l1 - (200 : Int32)).toNatClampNeg)]) (h' := (101, I, J, R0 b)) rfl (iaload_ok (n := 6) rfl rfl rfl (inA_of h.1)) ?_
        have h := And.right h
        refine WP.blk (pc' := 42) (L' := [vr 3 0, vi l1, vi (l1 - (200 : Int32))]) (st' := [vi (I 26 0 (l1 - (200 : Int32)).toNatClampNeg)]) (h' := (101, I, J, R0 b)) 1 rfl ?_
        exact WP.ret rfl rfl h
  · refine WP.blk (pc' := 12) (L' := [vr 3 0, vi l1, vn]) (st' := [vi (l1 - (1000 : Int32))]) (h' := (101, I, J, R0 b)) 3 rfl ?_
    exact WP.ret rfl rfl h
