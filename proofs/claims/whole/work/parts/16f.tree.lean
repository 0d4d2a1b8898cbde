/-! TREES, by program (wip/whole/gen16.py): what each method does between its cuts -/
set_option maxRecDepth 20000 in
theorem t_X9_test {D : Nat} (l1 : Int32) (I : IM) (J : JM) (b : Bool) {Q : Option AV → AH → Prop} (h : (Call D 125 [vr 9 0, vi l1] (101, I, J, R0 b) (RIf b fun x1 I2 J3 => (if ¬ x1 = 0 then (Call D 63 [vr 8 1, vi l1] (101, I2, J3, R0 b) (RIf b fun x4 I5 J6 => (if ¬ x4 = 0 then (Call D 74 [vr 8 1, vi l1] (101, I5, J6, R0 b) (RIf b fun x7 I8 J9 => (if (I8 8 1 12) < x7 then Q (some (vi 0)) (101, I8, J9, R0 b) else Q (some (vi 1)) (101, I8, J9, R0 b)))) else Q (some (vi (-5))) (101, I5, J6, R0 b)))) else Q (some (vi (-1))) (101, I2, J3, R0 b))))) : Call (D + 1) 106 [vr 9 0, vi l1] (101, I, J, R0 b) Q := by
  refine Call.of rfl ?_
  show WP D 106 0 [vr 9 0, vi l1] [] (101, I, J, R0 b) Q
  refine WP.blk (pc' := 2) (L' := [vr 9 0, vi l1]) (st' := [vi l1, vr 9 0]) (h' := (101, I, J, R0 b)) 2 rfl ?_
  refine WP.cal (y' := 125) (as := [vr 9 0, vi l1]) (L' := [vr 9 0, vi l1]) (rest := []) rfl (fun f r h' hf => callV_ok hf rfl rfl rfl) h ?_
  rintro _ _ ⟨x1, I2, J3, rfl, rfl, h⟩
  refine WP.if_ne (t := 10) (L' := [vr 9 0, vi l1]) rfl rfl rfl rfl h (fun h => ?_) (fun h => ?_)
  · refine WP.blk (pc' := 18) (L' := [vr 9 0, vi l1]) (st' := [vi l1, vr 8 1]) (h' := (101, I2, J3, R0 b)) 4 rfl ?_
    refine WP.cal (y' := 63) (as := [vr 8 1, vi l1]) (L' := [vr 9 0, vi l1]) (rest := []) rfl (fun f r h' hf => callV_ok hf rfl rfl rfl) h ?_
    rintro _ _ ⟨x4, I5, J6, rfl, rfl, h⟩
    refine WP.if_ne (t := 27) (L' := [vr 9 0, vi l1]) rfl rfl rfl rfl h (fun h => ?_) (fun h => ?_)
    · refine WP.blk (pc' := 35) (L' := [vr 9 0, vi l1]) (st' := [vi l1, vr 8 1]) (h' := (101, I5, J6, R0 b)) 4 rfl ?_
      refine WP.cal (y' := 74) (as := [vr 8 1, vi l1]) (L' := [vr 9 0, vi l1]) (rest := []) rfl (fun f r h' hf => callV_ok hf rfl rfl rfl) h ?_
      rintro _ _ ⟨x7, I8, J9, rfl, rfl, h⟩
      refine WP.blk (pc' := 48) (L' := [vr 9 0, vi l1]) (st' := [vi (I8 8 1 12), vi x7]) (h' := (101, I8, J9, R0 b)) 4 rfl ?_
      refine WP.icmp_gt (t := 55) (L' := [vr 9 0, vi l1]) rfl rfl rfl rfl h (fun h => ?_) (fun h => ?_)
      · refine WP.blk (pc' := 56) (L' := [vr 9 0, vi l1]) (st' := [vi 0]) (h' := (101, I8, J9, R0 b)) 1 rfl ?_
        exact WP.ret rfl rfl h
      · refine WP.blk (pc' := 56) (L' := [vr 9 0, vi l1]) (st' := [vi 1]) (h' := (101, I8, J9, R0 b)) 2 rfl ?_
        exact WP.ret rfl rfl h
    · refine WP.blk (pc' := 26) (L' := [vr 9 0, vi l1]) (st' := [vi (-5)]) (h' := (101, I5, J6, R0 b)) 1 rfl ?_
      exact WP.ret rfl rfl h
  · refine WP.blk (pc' := 9) (L' := [vr 9 0, vi l1]) (st' := [vi (-1)]) (h' := (101, I2, J3, R0 b)) 1 rfl ?_
    exact WP.ret rfl rfl h
set_option maxRecDepth 20000 in
theorem t_X9_chair {D : Nat}  (I : IM) (J : JM) (b : Bool) {Q : Option AV → AH → Prop} (h : (Call D 60 [vr 8 1, vi (I 8 1 12)] (101, I, J, R0 b) (RVf b fun I2 J3 => Q (some (vi (I 8 1 10))) (101, (updI I2 2 0 4 ((I2 2 0 4) + (1 : Int32))), J3, R0 b)))) : Call (D + 1) 107 [vr 9 0] (101, I, J, R0 b) Q := by
  refine Call.of rfl ?_
  show WP D 107 0 [vr 9 0, vn] [] (101, I, J, R0 b) Q
  refine WP.blk (pc' := 28) (L' := [vr 9 0, vi (I 8 1 10)]) (st' := [vi (I 8 1 12), vr 8 1]) (h' := (101, I, J, R0 b)) 12 rfl ?_
  refine WP.cal (y' := 60) (as := [vr 8 1, vi (I 8 1 12)]) (L' := [vr 9 0, vi (I 8 1 10)]) (rest := []) rfl (fun f r h' hf => callV_ok hf rfl rfl rfl) h ?_
  rintro _ _ ⟨I2, J3, rfl, rfl, h⟩
  refine WP.blk (pc' := 45) (L' := [vr 9 0, vi (I 8 1 10)]) (st' := [vi (I 8 1 10)]) (h' := (101, (updI I2 2 0 4 ((I2 2 0 4) + (1 : Int32))), J3, R0 b)) 8 rfl ?_
  exact WP.ret rfl rfl h
set_option maxRecDepth 20000 in
theorem t_X9_led {D : Nat} (l1 : Int32) (I : IM) (J : JM) (b : Bool) {Q : Option AV → AH → Prop} (h : (if l1 = 0 then Q (some (vi (I 2 0 1))) (101, I, J, R0 b) else (if l1 = 1 then Q (some (vi (I 2 0 2))) (101, I, J, R0 b) else (if l1 = 2 then Q (some (vi (I 2 0 3))) (101, I, J, R0 b) else (if l1 = 3 then Q (some (vi (I 2 0 4))) (101, I, J, R0 b) else (if l1 = 4 then Q (some (vi (I 8 1 12))) (101, I, J, R0 b) else Q (some (vi (-1))) (101, I, J, R0 b))))))) : Call (D + 1) 108 [vr 9 0, vi l1] (101, I, J, R0 b) Q := by
  refine Call.of rfl ?_
  show WP D 108 0 [vr 9 0, vi l1] [] (101, I, J, R0 b) Q
  refine WP.blk (pc' := 1) (L' := [vr 9 0, vi l1]) (st' := [vi l1]) (h' := (101, I, J, R0 b)) 1 rfl ?_
  refine WP.step (pc' := swf [(0, 36), (1, 44), (2, 52), (3, 60), (4, 68)] 79 l1) (L' := [vr 9 0, vi l1]) (st' := []) (h' := (101, I, J, R0 b)) rfl rfl ?_
  refine WP.ite (c := l1 = 0) (pc1 := 36) (pc2 := swf [(1, 44), (2, 52), (3, 60), (4, 68)] 79 l1) h (fun h => ?_) (fun h => ?_)
  · refine WP.blk (pc' := 43) (L' := [vr 9 0, vi l1]) (st' := [vi (I 2 0 1)]) (h' := (101, I, J, R0 b)) 3 rfl ?_
    exact WP.ret rfl rfl h
  · refine WP.ite (c := l1 = 1) (pc1 := 44) (pc2 := swf [(2, 52), (3, 60), (4, 68)] 79 l1) h (fun h => ?_) (fun h => ?_)
    · refine WP.blk (pc' := 51) (L' := [vr 9 0, vi l1]) (st' := [vi (I 2 0 2)]) (h' := (101, I, J, R0 b)) 3 rfl ?_
      exact WP.ret rfl rfl h
    · refine WP.ite (c := l1 = 2) (pc1 := 52) (pc2 := swf [(3, 60), (4, 68)] 79 l1) h (fun h => ?_) (fun h => ?_)
      · refine WP.blk (pc' := 59) (L' := [vr 9 0, vi l1]) (st' := [vi (I 2 0 3)]) (h' := (101, I, J, R0 b)) 3 rfl ?_
        exact WP.ret rfl rfl h
      · refine WP.ite (c := l1 = 3) (pc1 := 60) (pc2 := swf [(4, 68)] 79 l1) h (fun h => ?_) (fun h => ?_)
        · refine WP.blk (pc' := 67) (L' := [vr 9 0, vi l1]) (st' := [vi (I 2 0 4)]) (h' := (101, I, J, R0 b)) 3 rfl ?_
          exact WP.ret rfl rfl h
        · refine WP.ite (c := l1 = 4) (pc1 := 68) (pc2 := swf [] 79 l1) h (fun h => ?_) (fun h => ?_)
          · refine WP.blk (pc' := 78) (L' := [vr 9 0, vi l1]) (st' := [vi (I 8 1 12)]) (h' := (101, I, J, R0 b)) 4 rfl ?_
            exact WP.ret rfl rfl h
          · show WP D 108 79 [vr 9 0, vi l1] [] (101, I, J, R0 b) Q
            refine WP.blk (pc' := 80) (L' := [vr 9 0, vi l1]) (st' := [vi (-1)]) (h' := (101, I, J, R0 b)) 1 rfl ?_
            exact WP.ret rfl rfl h
set_option maxRecDepth 20000 in
theorem t_X9_image {D : Nat}  (I : IM) (J : JM) (b : Bool) {Q : Option AV → AH → Prop} (h : (Call D 17 [vr 2 1, vr 2 0] (101, I, J, R0 b) (RVf b fun I2 J3 => Q (some (vi (I2 8 1 12))) (101, (updI I2 9 0 12 1), J3, R0 b)))) : Call (D + 1) 109 [vr 9 0] (101, I, J, R0 b) Q := by
  refine Call.of rfl ?_
  show WP D 109 0 [vr 9 0] [] (101, I, J, R0 b) Q
  refine WP.blk (pc' := 8) (L' := [vr 9 0]) (st' := [vr 2 0, vr 2 1]) (h' := (101, I, J, R0 b)) 4 rfl ?_
  refine WP.cal (y' := 17) (as := [vr 2 1, vr 2 0]) (L' := [vr 9 0]) (rest := []) rfl (fun f r h' hf => callV_ok hf rfl rfl rfl) h ?_
  rintro _ _ ⟨I2, J3, rfl, rfl, h⟩
  refine WP.blk (pc' := 26) (L' := [vr 9 0]) (st' := [vi (I2 8 1 12)]) (h' := (101, (updI I2 9 0 12 1), J3, R0 b)) 7 rfl ?_
  exact WP.ret rfl rfl h
set_option maxRecDepth 20000 in
theorem t_X9_back {D : Nat}  (I : IM) (J : JM) (b : Bool) {Q : Option AV → AH → Prop} (h : (if ¬ (I 9 0 12) = 0 then (Call D 17 [vr 2 0, vr 2 1] (101, I, J, R0 b) (RVf b fun I2 J3 => Q (some (vi (I2 8 1 12))) (101, I2, J3, R0 b))) else Q (some (vi (-5))) (101, I, J, R0 b))) : Call (D + 1) 110 [vr 9 0] (101, I, J, R0 b) Q := by
  refine Call.of rfl ?_
  show WP D 110 0 [vr 9 0] [] (101, I, J, R0 b) Q
  refine WP.blk (pc' := 4) (L' := [vr 9 0]) (st' := [vi (I 9 0 12)]) (h' := (101, I, J, R0 b)) 2 rfl ?_
  refine WP.if_ne (t := 10) (L' := [vr 9 0]) rfl rfl rfl rfl h (fun h => ?_) (fun h => ?_)
  · refine WP.blk (pc' := 18) (L' := [vr 9 0]) (st' := [vr 2 1, vr 2 0]) (h' := (101, I, J, R0 b)) 4 rfl ?_
    refine WP.cal (y' := 17) (as := [vr 2 0, vr 2 1]) (L' := [vr 9 0]) (rest := []) rfl (fun f r h' hf => callV_ok hf rfl rfl rfl) h ?_
    rintro _ _ ⟨I2, J3, rfl, rfl, h⟩
    refine WP.blk (pc' := 31) (L' := [vr 9 0]) (st' := [vi (I2 8 1 12)]) (h' := (101, I2, J3, R0 b)) 4 rfl ?_
    exact WP.ret rfl rfl h
  · refine WP.blk (pc' := 9) (L' := [vr 9 0]) (st' := [vi (-5)]) (h' := (101, I, J, R0 b)) 1 rfl ?_
    exact WP.ret rfl rfl h
set_option maxRecDepth 20000 in
theorem t_X9_undo {D : Nat}  (I : IM) (J : JM) (b : Bool) {Q : Option AV → AH → Prop} (h : (Call D 35 [vr 4 0, vr 1 0] (101, I, J, R0 b) (RIf b fun x1 I2 J3 => (if x1 = 0 then Q (some (vi (-5))) (101, I2, J3, R0 b) else Q (some (vi (I2 4 0 3))) (101, I2, J3, R0 b))))) : Call (D + 1) 111 [vr 9 0] (101, I, J, R0 b) Q := by
  refine Call.of rfl ?_
  show WP D 111 0 [vr 9 0] [] (101, I, J, R0 b) Q
  refine WP.blk (pc' := 8) (L' := [vr 9 0]) (st' := [vr 1 0, vr 4 0]) (h' := (101, I, J, R0 b)) 4 rfl ?_
  refine WP.cal (y' := 35) (as := [vr 4 0, vr 1 0]) (L' := [vr 9 0]) (rest := []) rfl (fun f r h' hf => callV_ok hf rfl rfl rfl) h ?_
  rintro _ _ ⟨x1, I2, J3, rfl, rfl, h⟩
  refine WP.if_eq (t := 24) (L' := [vr 9 0]) rfl rfl rfl rfl h (fun h => ?_) (fun h => ?_)
  · refine WP.blk (pc' := 26) (L' := [vr 9 0]) (st' := [vi (-5)]) (h' := (101, I2, J3, R0 b)) 1 rfl ?_
    exact WP.ret rfl rfl h
  · refine WP.blk (pc' := 26) (L' := [vr 9 0]) (st' := [vi (I2 4 0 3)]) (h' := (101, I2, J3, R0 b)) 4 rfl ?_
    exact WP.ret rfl rfl h
set_option maxRecDepth 20000 in
theorem t_X9_redo {D : Nat}  (I : IM) (J : JM) (b : Bool) {Q : Option AV → AH → Prop} (h : (Call D 36 [vr 4 0, vr 1 0] (101, I, J, R0 b) (RIf b fun x1 I2 J3 => (if x1 = 0 then Q (some (vi (-5))) (101, I2, J3, R0 b) else Q (some (vi (I2 4 0 4))) (101, I2, J3, R0 b))))) : Call (D + 1) 112 [vr 9 0] (101, I, J, R0 b) Q := by
  refine Call.of rfl ?_
  show WP D 112 0 [vr 9 0] [] (101, I, J, R0 b) Q
  refine WP.blk (pc' := 8) (L' := [vr 9 0]) (st' := [vr 1 0, vr 4 0]) (h' := (101, I, J, R0 b)) 4 rfl ?_
  refine WP.cal (y' := 36) (as := [vr 4 0, vr 1 0]) (L' := [vr 9 0]) (rest := []) rfl (fun f r h' hf => callV_ok hf rfl rfl rfl) h ?_
  rintro _ _ ⟨x1, I2, J3, rfl, rfl, h⟩
  refine WP.if_eq (t := 24) (L' := [vr 9 0]) rfl rfl rfl rfl h (fun h => ?_) (fun h => ?_)
  · refine WP.blk (pc' := 26) (L' := [vr 9 0]) (st' := [vi (-5)]) (h' := (101, I2, J3, R0 b)) 1 rfl ?_
    exact WP.ret rfl rfl h
  · refine WP.blk (pc' := 26) (L' := [vr 9 0]) (st' := [vi (I2 4 0 4)]) (h' := (101, I2, J3, R0 b)) 4 rfl ?_
    exact WP.ret rfl rfl h
set_option maxRecDepth 20000 in
theorem t_X9_body {D : Nat} (l1 : Int32) (I : IM) (J : JM) (b : Bool) {Q : Option AV → AH → Prop} (h : (Call D 1 [vi l1] (101, I, J, R0 b) (RIf b fun x1 I2 J3 => (if ¬ x1 = 0 then (Call D 3 [vr 0 0, vi l1] (101, I2, J3, R0 b) (RIf b fun x4 I5 J6 => (if x4 = 0 then Q (some (vi (-3))) (101, I5, J6, R0 b) else Q (some (vi ((I5 0 0 4) - (1 : Int32)))) (101, I5, J6, R0 b)))) else Q (some (vi (-1))) (101, I2, J3, R0 b))))) : Call (D + 1) 113 [vr 9 0, vi l1] (101, I, J, R0 b) Q := by
  refine Call.of rfl ?_
  show WP D 113 0 [vr 9 0, vi l1] [] (101, I, J, R0 b) Q
  refine WP.blk (pc' := 1) (L' := [vr 9 0, vi l1]) (st' := [vi l1]) (h' := (101, I, J, R0 b)) 1 rfl ?_
  refine WP.cal (y' := 1) (as := [vi l1]) (L' := [vr 9 0, vi l1]) (rest := []) rfl (fun f r h' hf => callS_ok hf rfl rfl rfl) h ?_
  rintro _ _ ⟨x1, I2, J3, rfl, rfl, h⟩
  refine WP.if_ne (t := 9) (L' := [vr 9 0, vi l1]) rfl rfl rfl rfl h (fun h => ?_) (fun h => ?_)
  · refine WP.blk (pc' := 14) (L' := [vr 9 0, vi l1]) (st' := [vi l1, vr 0 0]) (h' := (101, I2, J3, R0 b)) 3 rfl ?_
    refine WP.cal (y' := 3) (as := [vr 0 0, vi l1]) (L' := [vr 9 0, vi l1]) (rest := []) rfl (fun f r h' hf => callV_ok hf rfl rfl rfl) h ?_
    rintro _ _ ⟨x4, I5, J6, rfl, rfl, h⟩
    refine WP.if_eq (t := 32) (L' := [vr 9 0, vi l1]) rfl rfl rfl rfl h (fun h => ?_) (fun h => ?_)
    · refine WP.blk (pc' := 34) (L' := [vr 9 0, vi l1]) (st' := [vi (-3)]) (h' := (101, I5, J6, R0 b)) 1 rfl ?_
      exact WP.ret rfl rfl h
    · refine WP.blk (pc' := 34) (L' := [vr 9 0, vi l1]) (st' := [vi ((I5 0 0 4) - (1 : Int32))]) (h' := (101, I5, J6, R0 b)) 6 rfl ?_
      exact WP.ret rfl rfl h
  · refine WP.blk (pc' := 8) (L' := [vr 9 0, vi l1]) (st' := [vi (-1)]) (h' := (101, I2, J3, R0 b)) 1 rfl ?_
    exact WP.ret rfl rfl h
set_option maxRecDepth 20000 in
theorem t_X9_act {D : Nat} (l1 : Int32) (l2 : Int32) (l3 : Int32) (I : IM) (J : JM) (b : Bool) {Q : Option AV → AH → Prop} (h : (Call D 5 [vr 0 0, vi l1, vi l2, vi l3] (101, I, J, R0 b) (RIf b fun x1 I2 J3 => Q (some (vi x1)) (101, I2, J3, R0 b)))) : Call (D + 1) 114 [vr 9 0, vi l1, vi l2, vi l3] (101, I, J, R0 b) Q := by
  refine Call.of rfl ?_
  show WP D 114 0 [vr 9 0, vi l1, vi l2, vi l3] [] (101, I, J, R0 b) Q
  refine WP.blk (pc' := 7) (L' := [vr 9 0, vi l1, vi l2, vi l3]) (st' := [vi l3, vi l2, vi l1, vr 0 0]) (h' := (101, I, J, R0 b)) 5 rfl ?_
  refine WP.cal (y' := 5) (as := [vr 0 0, vi l1, vi l2, vi l3]) (L' := [vr 9 0, vi l1, vi l2, vi l3]) (rest := []) rfl (fun f r h' hf => callV_ok hf rfl rfl rfl) h ?_
  rintro _ _ ⟨x1, I2, J3, rfl, rfl, h⟩
  exact WP.ret rfl rfl h
set_option maxRecDepth 20000 in
theorem t_X9_trace {D : Nat} (l1 : Int32) (I : IM) (J : JM) (b : Bool) {Q : Option AV → AH → Prop} (h : (if l1 < 0 then Q (some (vi (-1))) (101, I, J, R0 b) else (Call D 4 [vr 0 0] (101, I, J, R0 b) (RIf b fun x1 I2 J3 => (if l1 < x1 then (vp_in l1 24 ∧ Q (some (vi (I2 39 0 l1.toNatClampNeg))) (101, I2, J3, R0 b)) else Q (some (vi (-1))) (101, I2, J3, R0 b)))))) : Call (D + 1) 115 [vr 9 0, vi l1] (101, I, J, R0 b) Q := by
  refine Call.of rfl ?_
  show WP D 115 0 [vr 9 0, vi l1] [] (101, I, J, R0 b) Q
  refine WP.blk (pc' := 1) (L' := [vr 9 0, vi l1]) (st' := [vi l1]) (h' := (101, I, J, R0 b)) 1 rfl ?_
  refine WP.if_lt (t := 15) (L' := [vr 9 0, vi l1]) rfl rfl rfl rfl h (fun h => ?_) (fun h => ?_)
  · refine WP.blk (pc' := 28) (L' := [vn, vn]) (st' := [vi (-1)]) (h' := (101, I, J, R0 b)) 2 rfl ?_
    exact WP.ret rfl rfl h
  · refine WP.blk (pc' := 9) (L' := [vr 9 0, vi l1]) (st' := [vr 0 0, vi l1]) (h' := (101, I, J, R0 b)) 3 rfl ?_
    refine WP.cal (y' := 4) (as := [vr 0 0]) (L' := [vr 9 0, vi l1]) (rest := [vi l1]) rfl (fun f r h' hf => callV_ok hf rfl rfl rfl) h ?_
    rintro _ _ ⟨x1, I2, J3, rfl, rfl, h⟩
    refine WP.icmp_lt (t := 19) (L' := [vr 9 0, vi l1]) rfl rfl rfl rfl h (fun h => ?_) (fun h => ?_)
    · refine WP.blk (pc' := 27) (L' := [vr 9 0, vi l1]) (st' := [vi l1, vr 39 0]) (h' := (101, I2, J3, R0 b)) 4 rfl ?_
      refine WP.step (pc' := 28) (L' := [vr 9 0, vi l1]) (st' := [vi (I2 39 0 l1.toNatClampNeg)]) (h' := (101, I2, J3, R0 b)) rfl (iaload_ok (n := 24) rfl rfl rfl (inA_of h.1)) ?_
      have h := And.right h
      exact WP.ret rfl rfl h
    · refine WP.blk (pc' := 28) (L' := [vn, vn]) (st' := [vi (-1)]) (h' := (101, I2, J3, R0 b)) 2 rfl ?_
      exact WP.ret rfl rfl h
set_option maxRecDepth 20000 in
theorem t_X9_keep {D : Nat} (l1 : Int32) (l2 : Int32) (I : IM) (J : JM) (b : Bool) {Q : Option AV → AH → Prop} (h : (Call D 123 [vi l1] (101, I, J, R0 b) (RIf b fun x1 I2 J3 => (if x1 = 0 then Q (some (vi (-1))) (101, I2, J3, R0 b) else (if l2 < (-1 : Int32) then Q (some (vi (-1))) (101, I2, J3, R0 b) else (if l2 < (I2 0 0 4) then (if 0 ≤ l2 then (vp_in l1 6 ∧ (Call D 48 [vr 6 l1.toNatClampNeg, vi l2] (101, I2, J3, R0 b) (RVf b fun I5 J6 => Q (some (vi 1)) (101, I5, J6, R0 b)))) else (vp_in l1 6 ∧ (Call D 47 [vr 6 l1.toNatClampNeg] (101, I2, J3, R0 b) (RVf b fun I8 J9 => Q (some (vi 1)) (101, I8, J9, R0 b))))) else Q (some (vi (-1))) (101, I2, J3, R0 b))))))) : Call (D + 1) 116 [vr 9 0, vi l1, vi l2] (101, I, J, R0 b) Q := by
  refine Call.of rfl ?_
  show WP D 116 0 [vr 9 0, vi l1, vi l2] [] (101, I, J, R0 b) Q
  refine WP.blk (pc' := 1) (L' := [vr 9 0, vi l1, vi l2]) (st' := [vi l1]) (h' := (101, I, J, R0 b)) 1 rfl ?_
  refine WP.cal (y' := 123) (as := [vi l1]) (L' := [vr 9 0, vi l1, vi l2]) (rest := []) rfl (fun f r h' hf => callS_ok hf rfl rfl rfl) h ?_
  rintro _ _ ⟨x1, I2, J3, rfl, rfl, h⟩
  refine WP.if_eq (t := 23) (L' := [vr 9 0, vi l1, vi l2]) rfl rfl rfl rfl h (fun h => ?_) (fun h => ?_)
  · refine WP.blk (pc' := 24) (L' := [vn, vn, vn]) (st' := [vi (-1)]) (h' := (101, I2, J3, R0 b)) 1 rfl ?_
    exact WP.ret rfl rfl h
  · refine WP.blk (pc' := 9) (L' := [vr 9 0, vi l1, vi l2]) (st' := [vi (-1), vi l2]) (h' := (101, I2, J3, R0 b)) 2 rfl ?_
    refine WP.icmp_lt (t := 23) (L' := [vr 9 0, vi l1, vi l2]) rfl rfl rfl rfl h (fun h => ?_) (fun h => ?_)
    · refine WP.blk (pc' := 24) (L' := [vn, vn, vn]) (st' := [vi (-1)]) (h' := (101, I2, J3, R0 b)) 1 rfl ?_
      exact WP.ret rfl rfl h
    · refine WP.blk (pc' := 20) (L' := [vr 9 0, vi l1, vi l2]) (st' := [vi (I2 0 0 4), vi l2]) (h' := (101, I2, J3, R0 b)) 4 rfl ?_
      refine WP.icmp_lt (t := 25) (L' := [vr 9 0, vi l1, vi l2]) rfl rfl rfl rfl h (fun h => ?_) (fun h => ?_)
      · refine WP.blk (pc' := 26) (L' := [vr 9 0, vi l1, vi l2]) (st' := [vi l2]) (h' := (101, I2, J3, R0 b)) 1 rfl ?_
        refine WP.if_ge (t := 41) (L' := [vr 9 0, vi l1, vi l2]) rfl rfl rfl rfl h (fun h => ?_) (fun h => ?_)
        · refine WP.blk (pc' := 46) (L' := [vr 9 0, vi l1, vi l2]) (st' := [vi l1, vr 40 0]) (h' := (101, I2, J3, R0 b)) 3 rfl ?_
          refine WP.step (pc' := 47) (L' := [vr 9 0, vi l1, vi l2]) (st' := [vr 6 l1.toNatClampNeg]) (h' := (101, I2, J3, R0 b)) rfl (aaload_ok (n := 6) rfl rfl rfl rfl (inA_of h.1)) ?_
          have h := And.right h
          refine WP.blk (pc' := 48) (L' := [vr 9 0, vi l1, vi l2]) (st' := [vi l2, vr 6 l1.toNatClampNeg]) (h' := (101, I2, J3, R0 b)) 1 rfl ?_
          refine WP.cal (y' := 48) (as := [vr 6 l1.toNatClampNeg, vi l2]) (L' := [vr 9 0, vi l1, vi l2]) (rest := []) rfl (fun f r h' hf => callV_ok hf rfl rfl rfl) h ?_
          rintro _ _ ⟨I5, J6, rfl, rfl, h⟩
          refine WP.blk (pc' := 52) (L' := [vn, vn, vn]) (st' := [vi 1]) (h' := (101, I5, J6, R0 b)) 1 rfl ?_
          exact WP.ret rfl rfl h
        · refine WP.blk (pc' := 34) (L' := [vr 9 0, vi l1, vi l2]) (st' := [vi l1, vr 40 0]) (h' := (101, I2, J3, R0 b)) 3 rfl ?_
          refine WP.step (pc' := 35) (L' := [vr 9 0, vi l1, vi l2]) (st' := [vr 6 l1.toNatClampNeg]) (h' := (101, I2, J3, R0 b)) rfl (aaload_ok (n := 6) rfl rfl rfl rfl (inA_of h.1)) ?_
          have h := And.right h
          refine WP.cal (y' := 47) (as := [vr 6 l1.toNatClampNeg]) (L' := [vr 9 0, vi l1, vi l2]) (rest := []) rfl (fun f r h' hf => callV_ok hf rfl rfl rfl) h ?_
          rintro _ _ ⟨I8, J9, rfl, rfl, h⟩
          refine WP.blk (pc' := 52) (L' := [vn, vn, vn]) (st' := [vi 1]) (h' := (101, I8, J9, R0 b)) 2 rfl ?_
          exact WP.ret rfl rfl h
      · refine WP.blk (pc' := 24) (L' := [vn, vn, vn]) (st' := [vi (-1)]) (h' := (101, I2, J3, R0 b)) 1 rfl ?_
        exact WP.ret rfl rfl h
set_option maxRecDepth 20000 in
theorem t_X9_row {D : Nat} (l1 : Int32) (l2 : Int32) (l3 : Int32) (I : IM) (J : JM) (b : Bool) {Q : Option AV → AH → Prop} (h : (Call D 123 [vi l1] (101, I, J, R0 b) (RIf b fun x1 I2 J3 => (if x1 = 0 then Q (some (vi (-1))) (101, I2, J3, R0 b) else (if l2 < 0 then Q (some (vi (-1))) (101, I2, J3, R0 b) else (if (4 : Int32) < l2 then Q (some (vi (-1))) (101, I2, J3, R0 b) else (if l3 ≤ (60 : Int32) then (if 0 ≤ l3 then (vp_in l1 6 ∧ (Call D 49 [vr 6 l1.toNatClampNeg, vi l2, vi l3] (101, I2, J3, R0 b) (RVf b fun I5 J6 => Q (some (vi 1)) (101, I5, J6, R0 b)))) else Q (some (vi (-14))) (101, I2, J3, R0 b)) else Q (some (vi (-1))) (101, I2, J3, R0 b)))))))) : Call (D + 1) 117 [vr 9 0, vi l1, vi l2, vi l3] (101, I, J, R0 b) Q := by
  refine Call.of rfl ?_
  show WP D 117 0 [vr 9 0, vi l1, vi l2, vi l3] [] (101, I, J, R0 b) Q
  refine WP.blk (pc' := 1) (L' := [vr 9 0, vi l1, vi l2, vi l3]) (st' := [vi l1]) (h' := (101, I, J, R0 b)) 1 rfl ?_
  refine WP.cal (y' := 123) (as := [vi l1]) (L' := [vr 9 0, vi l1, vi l2, vi l3]) (rest := []) rfl (fun f r h' hf => callS_ok hf rfl rfl rfl) h ?_
  rintro _ _ ⟨x1, I2, J3, rfl, rfl, h⟩
  refine WP.if_eq (t := 22) (L' := [vr 9 0, vi l1, vi l2, vi l3]) rfl rfl rfl rfl h (fun h => ?_) (fun h => ?_)
  · refine WP.blk (pc' := 23) (L' := [vn, vn, vn, vn]) (st' := [vi (-1)]) (h' := (101, I2, J3, R0 b)) 1 rfl ?_
    exact WP.ret rfl rfl h
  · refine WP.blk (pc' := 8) (L' := [vr 9 0, vi l1, vi l2, vi l3]) (st' := [vi l2]) (h' := (101, I2, J3, R0 b)) 1 rfl ?_
    refine WP.if_lt (t := 22) (L' := [vr 9 0, vi l1, vi l2, vi l3]) rfl rfl rfl rfl h (fun h => ?_) (fun h => ?_)
    · refine WP.blk (pc' := 23) (L' := [vn, vn, vn, vn]) (st' := [vi (-1)]) (h' := (101, I2, J3, R0 b)) 1 rfl ?_
      exact WP.ret rfl rfl h
    · refine WP.blk (pc' := 13) (L' := [vr 9 0, vi l1, vi l2, vi l3]) (st' := [vi 4, vi l2]) (h' := (101, I2, J3, R0 b)) 2 rfl ?_
      refine WP.icmp_gt (t := 22) (L' := [vr 9 0, vi l1, vi l2, vi l3]) rfl rfl rfl rfl h (fun h => ?_) (fun h => ?_)
      · refine WP.blk (pc' := 23) (L' := [vn, vn, vn, vn]) (st' := [vi (-1)]) (h' := (101, I2, J3, R0 b)) 1 rfl ?_
        exact WP.ret rfl rfl h
      · refine WP.blk (pc' := 19) (L' := [vr 9 0, vi l1, vi l2, vi l3]) (st' := [vi 60, vi l3]) (h' := (101, I2, J3, R0 b)) 2 rfl ?_
        refine WP.icmp_le (t := 24) (L' := [vr 9 0, vi l1, vi l2, vi l3]) rfl rfl rfl rfl h (fun h => ?_) (fun h => ?_)
        · refine WP.blk (pc' := 25) (L' := [vr 9 0, vi l1, vi l2, vi l3]) (st' := [vi l3]) (h' := (101, I2, J3, R0 b)) 1 rfl ?_
          refine WP.if_ge (t := 31) (L' := [vr 9 0, vi l1, vi l2, vi l3]) rfl rfl rfl rfl h (fun h => ?_) (fun h => ?_)
          · refine WP.blk (pc' := 36) (L' := [vr 9 0, vi l1, vi l2, vi l3]) (st' := [vi l1, vr 40 0]) (h' := (101, I2, J3, R0 b)) 3 rfl ?_
            refine WP.step (pc' := 37) (L' := [vr 9 0, vi l1, vi l2, vi l3]) (st' := [vr 6 l1.toNatClampNeg]) (h' := (101, I2, J3, R0 b)) rfl (aaload_ok (n := 6) rfl rfl rfl rfl (inA_of h.1)) ?_
            have h := And.right h
            refine WP.blk (pc' := 39) (L' := [vr 9 0, vi l1, vi l2, vi l3]) (st' := [vi l3, vi l2, vr 6 l1.toNatClampNeg]) (h' := (101, I2, J3, R0 b)) 2 rfl ?_
            refine WP.cal (y' := 49) (as := [vr 6 l1.toNatClampNeg, vi l2, vi l3]) (L' := [vr 9 0, vi l1, vi l2, vi l3]) (rest := []) rfl (fun f r h' hf => callV_ok hf rfl rfl rfl) h ?_
            rintro _ _ ⟨I5, J6, rfl, rfl, h⟩
            refine WP.blk (pc' := 43) (L' := [vr 9 0, vi l1, vi l2, vi l3]) (st' := [vi 1]) (h' := (101, I5, J6, R0 b)) 1 rfl ?_
            exact WP.ret rfl rfl h
          · refine WP.blk (pc' := 30) (L' := [vr 9 0, vi l1, vi l2, vi l3]) (st' := [vi (-14)]) (h' := (101, I2, J3, R0 b)) 1 rfl ?_
            exact WP.ret rfl rfl h
        · refine WP.blk (pc' := 23) (L' := [vn, vn, vn, vn]) (st' := [vi (-1)]) (h' := (101, I2, J3, R0 b)) 1 rfl ?_
          exact WP.ret rfl rfl h
set_option maxRecDepth 20000 in
theorem t_X9_put {D : Nat} (l1 : Int32) (l2 : Int32) (l3 : Int64) (I : IM) (J : JM) (b : Bool) {Q : Option AV → AH → Prop} (h : (Call D 126 [vr 9 0, vi l1, vi l2] (101, I, J, R0 b) (RIf b fun x1 I2 J3 => (if x1 = 0 then (vp_in l1 6 ∧ (Call D 52 [vr 6 l1.toNatClampNeg, vi l2, vl l3] (101, I2, J3, R0 b) (RVf b fun I5 J6 => Q (some (vi 1)) (101, I5, J6, R0 b)))) else Q (some (vi x1)) (101, I2, J3, R0 b))))) : Call (D + 1) 118 [vr 9 0, vi l1, vi l2, vl l3] (101, I, J, R0 b) Q := by
  refine Call.of rfl ?_
  show WP D 118 0 [vr 9 0, vi l1, vi l2, vl l3, vn, vn] [] (101, I, J, R0 b) Q
  refine WP.blk (pc' := 3) (L' := [vr 9 0, vi l1, vi l2, vl l3, vn, vn]) (st' := [vi l2, vi l1, vr 9 0]) (h' := (101, I, J, R0 b)) 3 rfl ?_
  refine WP.cal (y' := 126) (as := [vr 9 0, vi l1, vi l2]) (L' := [vr 9 0, vi l1, vi l2, vl l3, vn, vn]) (rest := []) rfl (fun f r h' hf => callV_ok hf rfl rfl rfl) h ?_
  rintro _ _ ⟨x1, I2, J3, rfl, rfl, h⟩
  refine WP.blk (pc' := 10) (L' := [vr 9 0, vi l1, vi l2, vl l3, vn, vi x1]) (st' := [vi x1]) (h' := (101, I2, J3, R0 b)) 2 rfl ?_
  refine WP.if_eq (t := 16) (L' := [vr 9 0, vi l1, vi l2, vl l3, vn, vi x1]) rfl rfl rfl rfl h (fun h => ?_) (fun h => ?_)
  · refine WP.blk (pc' := 21) (L' := [vr 9 0, vi l1, vi l2, vl l3, vn, vi x1]) (st' := [vi l1, vr 40 0]) (h' := (101, I2, J3, R0 b)) 3 rfl ?_
    refine WP.step (pc' := 22) (L' := [vr 9 0, vi l1, vi l2, vl l3, vn, vi x1]) (st' := [vr 6 l1.toNatClampNeg]) (h' := (101, I2, J3, R0 b)) rfl (aaload_ok (n := 6) rfl rfl rfl rfl (inA_of h.1)) ?_
    have h := And.right h
    refine WP.blk (pc' := 24) (L' := [vr 9 0, vi l1, vi l2, vl l3, vn, vi x1]) (st' := [vl l3, vi l2, vr 6 l1.toNatClampNeg]) (h' := (101, I2, J3, R0 b)) 2 rfl ?_
    refine WP.cal (y' := 52) (as := [vr 6 l1.toNatClampNeg, vi l2, vl l3]) (L' := [vr 9 0, vi l1, vi l2, vl l3, vn, vi x1]) (rest := []) rfl (fun f r h' hf => callV_ok hf rfl rfl rfl) h ?_
    rintro _ _ ⟨I5, J6, rfl, rfl, h⟩
    refine WP.blk (pc' := 28) (L' := [vr 9 0, vi l1, vi l2, vl l3, vn, vi x1]) (st' := [vi 1]) (h' := (101, I5, J6, R0 b)) 1 rfl ?_
    exact WP.ret rfl rfl h
  · refine WP.blk (pc' := 15) (L' := [vr 9 0, vi l1, vi l2, vl l3, vn, vi x1]) (st' := [vi x1]) (h' := (101, I2, J3, R0 b)) 1 rfl ?_
    exact WP.ret rfl rfl h
set_option maxRecDepth 20000 in
theorem t_X9_element {D : Nat} (l1 : Int32) (l2 : Int32) (I : IM) (J : JM) (b : Bool) {Q : Option AV → AH → Prop} (h : (Call D 126 [vr 9 0, vi l1, vi l2] (101, I, J, R0 b) (RIf b fun x1 I2 J3 => (if x1 = 0 then (vp_in l1 6 ∧ (vp_in l2 60 ∧ Q (some (vl (J3 41 l1.toNatClampNeg l2.toNatClampNeg))) (101, I2, J3, R0 b))) else Q (some (vl (-9223372036854775808))) (101, I2, J3, R0 b))))) : Call (D + 1) 119 [vr 9 0, vi l1, vi l2] (101, I, J, R0 b) Q := by
  refine Call.of rfl ?_
  show WP D 119 0 [vr 9 0, vi l1, vi l2] [] (101, I, J, R0 b) Q
  refine WP.blk (pc' := 3) (L' := [vr 9 0, vi l1, vi l2]) (st' := [vi l2, vi l1, vr 9 0]) (h' := (101, I, J, R0 b)) 3 rfl ?_
  refine WP.cal (y' := 126) (as := [vr 9 0, vi l1, vi l2]) (L' := [vr 9 0, vi l1, vi l2]) (rest := []) rfl (fun f r h' hf => callV_ok hf rfl rfl rfl) h ?_
  rintro _ _ ⟨x1, I2, J3, rfl, rfl, h⟩
  refine WP.if_eq (t := 15) (L' := [vr 9 0, vi l1, vi l2]) rfl rfl rfl rfl h (fun h => ?_) (fun h => ?_)
  · refine WP.blk (pc' := 20) (L' := [vr 9 0, vi l1, vi l2]) (st' := [vi l1, vr 40 0]) (h' := (101, I2, J3, R0 b)) 3 rfl ?_
    refine WP.step (pc' := 21) (L' := [vr 9 0, vi l1, vi l2]) (st' := [vr 6 l1.toNatClampNeg]) (h' := (101, I2, J3, R0 b)) rfl (aaload_ok (n := 6) rfl rfl rfl rfl (inA_of h.1)) ?_
    have h := And.right h
    refine WP.blk (pc' := 25) (L' := [vr 9 0, vi l1, vi l2]) (st' := [vi l2, vr 41 l1.toNatClampNeg]) (h' := (101, I2, J3, R0 b)) 2 rfl ?_
    refine WP.step (pc' := 26) (L' := [vr 9 0, vi l1, vi l2]) (st' := [vl (J3 41 l1.toNatClampNeg l2.toNatClampNeg)]) (h' := (101, I2, J3, R0 b)) rfl (laload_ok (n := 60) rfl rfl rfl (inA_of h.1)) ?_
    have h := And.right h
    exact WP.ret rfl rfl h
  · refine WP.blk (pc' := 26) (L' := [vr 9 0, vi l1, vi l2]) (st' := [vl (-9223372036854775808)]) (h' := (101, I2, J3, R0 b)) 2 rfl ?_
    exact WP.ret rfl rfl h
set_option maxRecDepth 20000 in
theorem t_X9_shift {D : Nat} (l1 : Int32) (l2 : Int32) (l3 : Int32) (l4 : Int32) (l5 : Int32) (I : IM) (J : JM) (b : Bool) {Q : Option AV → AH → Prop} (h : (Call D 123 [vi l1] (101, I, J, R0 b) (RIf b fun x1 I2 J3 => (if x1 = 0 then Q (some (vi (-1))) (101, I2, J3, R0 b) else (Call D 123 [vi l3] (101, I2, J3, R0 b) (RIf b fun x4 I5 J6 => (if ¬ x4 = 0 then (vp_in l1 6 ∧ (vp_in l3 6 ∧ (if (I5 6 l1.toNatClampNeg 0) = 0 then Q (some (vi (-11))) (101, I5, J6, R0 b) else (if ¬ (I5 6 l3.toNatClampNeg 0) = 0 then (if ¬ (I5 6 l1.toNatClampNeg 0) = (2 : Int32) then Q (some (vi (-12))) (101, I5, J6, R0 b) else (if ¬ (I5 6 l3.toNatClampNeg 0) = (2 : Int32) then Q (some (vi (-12))) (101, I5, J6, R0 b) else (if (I5 6 l1.toNatClampNeg 2) = (I5 6 l3.toNatClampNeg 2) then (Call D 51 [vr 6 l1.toNatClampNeg, vi l2, vi l5] (101, I5, J6, R0 b) (RIf b fun x7 I8 J9 => (if x7 = 0 then Q (some (vi (-13))) (101, I8, J9, R0 b) else (Call D 51 [vr 6 l3.toNatClampNeg, vi l4, vi l5] (101, I8, J9, R0 b) (RIf b fun x10 I11 J12 => (if ¬ x10 = 0 then ((¬ l2 < 0 ∧ ¬ l4 < 0 ∧ ¬ l5 < 0 ∧ l2.toNatClampNeg + l5.toNatClampNeg ≤ 60 ∧ l4.toNatClampNeg + l5.toNatClampNeg ≤ 60) ∧ Q (some (vi l5)) (101, I11, (cpyJ J12 41 l1.toNatClampNeg 41 l3.toNatClampNeg l2.toNatClampNeg l4.toNatClampNeg l5.toNatClampNeg), R0 b)) else Q (some (vi (-13))) (101, I11, J12, R0 b))))))) else Q (some (vi (-12))) (101, I5, J6, R0 b)))) else Q (some (vi (-11))) (101, I5, J6, R0 b))))) else Q (some (vi (-1))) (101, I5, J6, R0 b)))))))) : Call (D + 1) 120 [vr 9 0, vi l1, vi l2, vi l3, vi l4, vi l5] (101, I, J, R0 b) Q := by
  refine Call.of rfl ?_
  show WP D 120 0 [vr 9 0, vi l1, vi l2, vi l3, vi l4, vi l5, vn, vn] [] (101, I, J, R0 b) Q
  refine WP.blk (pc' := 1) (L' := [vr 9 0, vi l1, vi l2, vi l3, vi l4, vi l5, vn, vn]) (st' := [vi l1]) (h' := (101, I, J, R0 b)) 1 rfl ?_
  refine WP.cal (y' := 123) (as := [vi l1]) (L' := [vr 9 0, vi l1, vi l2, vi l3, vi l4, vi l5, vn, vn]) (rest := []) rfl (fun f r h' hf => callS_ok hf rfl rfl rfl) h ?_
  rintro _ _ ⟨x1, I2, J3, rfl, rfl, h⟩
  refine WP.if_eq (t := 14) (L' := [vr 9 0, vi l1, vi l2, vi l3, vi l4, vi l5, vn, vn]) rfl rfl rfl rfl h (fun h => ?_) (fun h => ?_)
  · refine WP.blk (pc' := 15) (L' := [vn, vn, vn, vn, vn, vn, vn, vn]) (st' := [vi (-1)]) (h' := (101, I2, J3, R0 b)) 1 rfl ?_
    exact WP.ret rfl rfl h
  · refine WP.blk (pc' := 8) (L' := [vr 9 0, vi l1, vi l2, vi l3, vi l4, vi l5, vn, vn]) (st' := [vi l3]) (h' := (101, I2, J3, R0 b)) 1 rfl ?_
    refine WP.cal (y' := 123) (as := [vi l3]) (L' := [vr 9 0, vi l1, vi l2, vi l3, vi l4, vi l5, vn, vn]) (rest := []) rfl (fun f r h' hf => callS_ok hf rfl rfl rfl) h ?_
    rintro _ _ ⟨x4, I5, J6, rfl, rfl, h⟩
    refine WP.if_ne (t := 16) (L' := [vr 9 0, vi l1, vi l2, vi l3, vi l4, vi l5, vn, vn]) rfl rfl rfl rfl h (fun h => ?_) (fun h => ?_)
    · refine WP.blk (pc' := 21) (L' := [vr 9 0, vi l1, vi l2, vi l3, vi l4, vi l5, vn, vn]) (st' := [vi l1, vr 40 0]) (h' := (101, I5, J6, R0 b)) 3 rfl ?_
      refine WP.step (pc' := 22) (L' := [vr 9 0, vi l1, vi l2, vi l3, vi l4, vi l5, vn, vn]) (st' := [vr 6 l1.toNatClampNeg]) (h' := (101, I5, J6, R0 b)) rfl (aaload_ok (n := 6) rfl rfl rfl rfl (inA_of h.1)) ?_
      have h := And.right h
      refine WP.blk (pc' := 29) (L' := [vr 9 0, vi l1, vi l2, vi l3, vi l4, vi l5, vr 6 l1.toNatClampNeg, vn]) (st' := [vi l3, vr 40 0]) (h' := (101, I5, J6, R0 b)) 4 rfl ?_
      refine WP.step (pc' := 30) (L' := [vr 9 0, vi l1, vi l2, vi l3, vi l4, vi l5, vr 6 l1.toNatClampNeg, vn]) (st' := [vr 6 l3.toNatClampNeg]) (h' := (101, I5, J6, R0 b)) rfl (aaload_ok (n := 6) rfl rfl rfl rfl (inA_of h.1)) ?_
      have h := And.right h
      refine WP.blk (pc' := 37) (L' := [vr 9 0, vi l1, vi l2, vi l3, vi l4, vi l5, vr 6 l1.toNatClampNeg, vr 6 l3.toNatClampNeg]) (st' := [vi (I5 6 l1.toNatClampNeg 0)]) (h' := (101, I5, J6, R0 b)) 3 rfl ?_
      refine WP.if_eq (t := 48) (L' := [vr 9 0, vi l1, vi l2, vi l3, vi l4, vi l5, vr 6 l1.toNatClampNeg, vr 6 l3.toNatClampNeg]) rfl rfl rfl rfl h (fun h => ?_) (fun h => ?_)
      · refine WP.blk (pc' := 50) (L' := [vn, vn, vn, vn, vn, vn, vn, vn]) (st' := [vi (-11)]) (h' := (101, I5, J6, R0 b)) 1 rfl ?_
        exact WP.ret rfl rfl h
      · refine WP.blk (pc' := 45) (L' := [vr 9 0, vi l1, vi l2, vi l3, vi l4, vi l5, vr 6 l1.toNatClampNeg, vr 6 l3.toNatClampNeg]) (st' := [vi (I5 6 l3.toNatClampNeg 0)]) (h' := (101, I5, J6, R0 b)) 2 rfl ?_
        refine WP.if_ne (t := 51) (L' := [vr 9 0, vi l1, vi l2, vi l3, vi l4, vi l5, vr 6 l1.toNatClampNeg, vr 6 l3.toNatClampNeg]) rfl rfl rfl rfl h (fun h => ?_) (fun h => ?_)
        · refine WP.blk (pc' := 57) (L' := [vr 9 0, vi l1, vi l2, vi l3, vi l4, vi l5, vr 6 l1.toNatClampNeg, vr 6 l3.toNatClampNeg]) (st' := [vi 2, vi (I5 6 l1.toNatClampNeg 0)]) (h' := (101, I5, J6, R0 b)) 3 rfl ?_
          refine WP.icmp_ne (t := 82) (L' := [vr 9 0, vi l1, vi l2, vi l3, vi l4, vi l5, vr 6 l1.toNatClampNeg, vr 6 l3.toNatClampNeg]) rfl rfl rfl rfl h (fun h => ?_) (fun h => ?_)
          · refine WP.blk (pc' := 84) (L' := [vn, vn, vn, vn, vn, vn, vn, vn]) (st' := [vi (-12)]) (h' := (101, I5, J6, R0 b)) 1 rfl ?_
            exact WP.ret rfl rfl h
          · refine WP.blk (pc' := 66) (L' := [vr 9 0, vi l1, vi l2, vi l3, vi l4, vi l5, vr 6 l1.toNatClampNeg, vr 6 l3.toNatClampNeg]) (st' := [vi 2, vi (I5 6 l3.toNatClampNeg 0)]) (h' := (101, I5, J6, R0 b)) 3 rfl ?_
            refine WP.icmp_ne (t := 82) (L' := [vr 9 0, vi l1, vi l2, vi l3, vi l4, vi l5, vr 6 l1.toNatClampNeg, vr 6 l3.toNatClampNeg]) rfl rfl rfl rfl h (fun h => ?_) (fun h => ?_)
            · refine WP.blk (pc' := 84) (L' := [vn, vn, vn, vn, vn, vn, vn, vn]) (st' := [vi (-12)]) (h' := (101, I5, J6, R0 b)) 1 rfl ?_
              exact WP.ret rfl rfl h
            · refine WP.blk (pc' := 79) (L' := [vr 9 0, vi l1, vi l2, vi l3, vi l4, vi l5, vr 6 l1.toNatClampNeg, vr 6 l3.toNatClampNeg]) (st' := [vi (I5 6 l3.toNatClampNeg 2), vi (I5 6 l1.toNatClampNeg 2)]) (h' := (101, I5, J6, R0 b)) 4 rfl ?_
              refine WP.icmp_eq (t := 85) (L' := [vr 9 0, vi l1, vi l2, vi l3, vi l4, vi l5, vr 6 l1.toNatClampNeg, vr 6 l3.toNatClampNeg]) rfl rfl rfl rfl h (fun h => ?_) (fun h => ?_)
              · refine WP.blk (pc' := 90) (L' := [vr 9 0, vi l1, vi l2, vi l3, vi l4, vi l5, vr 6 l1.toNatClampNeg, vr 6 l3.toNatClampNeg]) (st' := [vi l5, vi l2, vr 6 l1.toNatClampNeg]) (h' := (101, I5, J6, R0 b)) 3 rfl ?_
                refine WP.cal (y' := 51) (as := [vr 6 l1.toNatClampNeg, vi l2, vi l5]) (L' := [vr 9 0, vi l1, vi l2, vi l3, vi l4, vi l5, vr 6 l1.toNatClampNeg, vr 6 l3.toNatClampNeg]) (rest := []) rfl (fun f r h' hf => callV_ok hf rfl rfl rfl) h ?_
                rintro _ _ ⟨x7, I8, J9, rfl, rfl, h⟩
                refine WP.if_eq (t := 108) (L' := [vr 9 0, vi l1, vi l2, vi l3, vi l4, vi l5, vr 6 l1.toNatClampNeg, vr 6 l3.toNatClampNeg]) rfl rfl rfl rfl h (fun h => ?_) (fun h => ?_)
                · refine WP.blk (pc' := 110) (L' := [vn, vn, vn, vn, vn, vn, vn, vn]) (st' := [vi (-13)]) (h' := (101, I8, J9, R0 b)) 1 rfl ?_
                  exact WP.ret rfl rfl h
                · refine WP.blk (pc' := 102) (L' := [vr 9 0, vi l1, vi l2, vi l3, vi l4, vi l5, vr 6 l1.toNatClampNeg, vr 6 l3.toNatClampNeg]) (st' := [vi l5, vi l4, vr 6 l3.toNatClampNeg]) (h' := (101, I8, J9, R0 b)) 3 rfl ?_
                  refine WP.cal (y' := 51) (as := [vr 6 l3.toNatClampNeg, vi l4, vi l5]) (L' := [vr 9 0, vi l1, vi l2, vi l3, vi l4, vi l5, vr 6 l1.toNatClampNeg, vr 6 l3.toNatClampNeg]) (rest := []) rfl (fun f r h' hf => callV_ok hf rfl rfl rfl) h ?_
                  rintro _ _ ⟨x10, I11, J12, rfl, rfl, h⟩
                  refine WP.if_ne (t := 111) (L' := [vr 9 0, vi l1, vi l2, vi l3, vi l4, vi l5, vr 6 l1.toNatClampNeg, vr 6 l3.toNatClampNeg]) rfl rfl rfl rfl h (fun h => ?_) (fun h => ?_)
                  · refine WP.blk (pc' := 126) (L' := [vr 9 0, vi l1, vi l2, vi l3, vi l4, vi l5, vr 6 l1.toNatClampNeg, vr 6 l3.toNatClampNeg]) (st' := [vi l5, vi l4, vr 41 l3.toNatClampNeg, vi l2, vr 41 l1.toNatClampNeg]) (h' := (101, I11, J12, R0 b)) 7 rfl ?_
                    refine WP.step (pc' := 129) (L' := [vr 9 0, vi l1, vi l2, vi l3, vi l4, vi l5, vr 6 l1.toNatClampNeg, vr 6 l3.toNatClampNeg]) (st' := []) (h' := (101, I11, (cpyJ J12 41 l1.toNatClampNeg 41 l3.toNatClampNeg l2.toNatClampNeg l4.toNatClampNeg l5.toNatClampNeg), R0 b)) rfl (copyJ_ok (y := 120) (sp := l2) (dp := l4) (n := l5) rfl rfl rfl rfl rfl rfl h.1) ?_
                    have h := And.right h
                    refine WP.blk (pc' := 131) (L' := [vr 9 0, vi l1, vi l2, vi l3, vi l4, vi l5, vr 6 l1.toNatClampNeg, vr 6 l3.toNatClampNeg]) (st' := [vi l5]) (h' := (101, I11, (cpyJ J12 41 l1.toNatClampNeg 41 l3.toNatClampNeg l2.toNatClampNeg l4.toNatClampNeg l5.toNatClampNeg), R0 b)) 1 rfl ?_
                    exact WP.ret rfl rfl h
                  · refine WP.blk (pc' := 110) (L' := [vn, vn, vn, vn, vn, vn, vn, vn]) (st' := [vi (-13)]) (h' := (101, I11, J12, R0 b)) 1 rfl ?_
                    exact WP.ret rfl rfl h
              · refine WP.blk (pc' := 84) (L' := [vn, vn, vn, vn, vn, vn, vn, vn]) (st' := [vi (-12)]) (h' := (101, I5, J6, R0 b)) 1 rfl ?_
                exact WP.ret rfl rfl h
        · refine WP.blk (pc' := 50) (L' := [vn, vn, vn, vn, vn, vn, vn, vn]) (st' := [vi (-11)]) (h' := (101, I5, J6, R0 b)) 1 rfl ?_
          exact WP.ret rfl rfl h
    · refine WP.blk (pc' := 15) (L' := [vn, vn, vn, vn, vn, vn, vn, vn]) (st' := [vi (-1)]) (h' := (101, I5, J6, R0 b)) 1 rfl ?_
      exact WP.ret rfl rfl h
set_option maxRecDepth 20000 in
theorem t_X9_taken {D : Nat} (l1 : Int32) (l2 : Int32) (I : IM) (J : JM) (b : Bool) {Q : Option AV → AH → Prop} (h : (Call D 123 [vi l1] (101, I, J, R0 b) (RIf b fun x1 I2 J3 => (if x1 = 0 then Q (some (vi (-1))) (101, I2, J3, R0 b) else (Call D 1 [vi l2] (101, I2, J3, R0 b) (RIf b fun x4 I5 J6 => (if ¬ x4 = 0 then (vp_in l1 6 ∧ (if ¬ (I5 6 l1.toNatClampNeg 0) = 0 then (if (I5 6 l1.toNatClampNeg 0) = (1 : Int32) then (Call D 256 [vr 0 0, vi (I5 6 l1.toNatClampNeg 1)] (101, I5, J6, R0 b) (RIf b fun x7 I8 J9 => (Call D 2 [vi x7, vi l2] (101, I8, J9, R0 b) (RIf b fun x10 I11 J12 => (if x10 = 0 then Q (some (vi (-12))) (101, I11, J12, R0 b) else Q (some (vi x7)) (101, I11, J12, R0 b)))))) else Q (some (vi (-12))) (101, I5, J6, R0 b)) else Q (some (vi (-11))) (101, I5, J6, R0 b))) else Q (some (vi (-1))) (101, I5, J6, R0 b)))))))) : Call (D + 1) 121 [vr 9 0, vi l1, vi l2] (101, I, J, R0 b) Q := by
  refine Call.of rfl ?_
  show WP D 121 0 [vr 9 0, vi l1, vi l2, vn, vn] [] (101, I, J, R0 b) Q
  refine WP.blk (pc' := 1) (L' := [vr 9 0, vi l1, vi l2, vn, vn]) (st' := [vi l1]) (h' := (101, I, J, R0 b)) 1 rfl ?_
  refine WP.cal (y' := 123) (as := [vi l1]) (L' := [vr 9 0, vi l1, vi l2, vn, vn]) (rest := []) rfl (fun f r h' hf => callS_ok hf rfl rfl rfl) h ?_
  rintro _ _ ⟨x1, I2, J3, rfl, rfl, h⟩
  refine WP.if_eq (t := 14) (L' := [vr 9 0, vi l1, vi l2, vn, vn]) rfl rfl rfl rfl h (fun h => ?_) (fun h => ?_)
  · refine WP.blk (pc' := 15) (L' := [vn, vn, vn, vn, vn]) (st' := [vi (-1)]) (h' := (101, I2, J3, R0 b)) 1 rfl ?_
    exact WP.ret rfl rfl h
  · refine WP.blk (pc' := 8) (L' := [vr 9 0, vi l1, vi l2, vn, vn]) (st' := [vi l2]) (h' := (101, I2, J3, R0 b)) 1 rfl ?_
    refine WP.cal (y' := 1) (as := [vi l2]) (L' := [vr 9 0, vi l1, vi l2, vn, vn]) (rest := []) rfl (fun f r h' hf => callS_ok hf rfl rfl rfl) h ?_
    rintro _ _ ⟨x4, I5, J6, rfl, rfl, h⟩
    refine WP.if_ne (t := 16) (L' := [vr 9 0, vi l1, vi l2, vn, vn]) rfl rfl rfl rfl h (fun h => ?_) (fun h => ?_)
    · refine WP.blk (pc' := 21) (L' := [vr 9 0, vi l1, vi l2, vn, vn]) (st' := [vi l1, vr 40 0]) (h' := (101, I5, J6, R0 b)) 3 rfl ?_
      refine WP.step (pc' := 22) (L' := [vr 9 0, vi l1, vi l2, vn, vn]) (st' := [vr 6 l1.toNatClampNeg]) (h' := (101, I5, J6, R0 b)) rfl (aaload_ok (n := 6) rfl rfl rfl rfl (inA_of h.1)) ?_
      have h := And.right h
      refine WP.blk (pc' := 27) (L' := [vr 9 0, vi l1, vi l2, vr 6 l1.toNatClampNeg, vn]) (st' := [vi (I5 6 l1.toNatClampNeg 0)]) (h' := (101, I5, J6, R0 b)) 3 rfl ?_
      refine WP.if_ne (t := 33) (L' := [vr 9 0, vi l1, vi l2, vr 6 l1.toNatClampNeg, vn]) rfl rfl rfl rfl h (fun h => ?_) (fun h => ?_)
      · refine WP.blk (pc' := 38) (L' := [vr 9 0, vi l1, vi l2, vr 6 l1.toNatClampNeg, vn]) (st' := [vi 1, vi (I5 6 l1.toNatClampNeg 0)]) (h' := (101, I5, J6, R0 b)) 3 rfl ?_
        refine WP.icmp_eq (t := 44) (L' := [vr 9 0, vi l1, vi l2, vr 6 l1.toNatClampNeg, vn]) rfl rfl rfl rfl h (fun h => ?_) (fun h => ?_)
        · refine WP.blk (pc' := 52) (L' := [vr 9 0, vi l1, vi l2, vr 6 l1.toNatClampNeg, vn]) (st' := [vi (I5 6 l1.toNatClampNeg 1), vr 0 0]) (h' := (101, I5, J6, R0 b)) 4 rfl ?_
          refine WP.cal (y' := 256) (as := [vr 0 0, vi (I5 6 l1.toNatClampNeg 1)]) (L' := [vr 9 0, vi l1, vi l2, vr 6 l1.toNatClampNeg, vn]) (rest := []) rfl (fun f r h' hf => callV_ok hf rfl rfl rfl) h ?_
          rintro _ _ ⟨x7, I8, J9, rfl, rfl, h⟩
          refine WP.blk (pc' := 60) (L' := [vr 9 0, vi l1, vi l2, vr 6 l1.toNatClampNeg, vi x7]) (st' := [vi l2, vi x7]) (h' := (101, I8, J9, R0 b)) 3 rfl ?_
          refine WP.cal (y' := 2) (as := [vi x7, vi l2]) (L' := [vr 9 0, vi l1, vi l2, vr 6 l1.toNatClampNeg, vi x7]) (rest := []) rfl (fun f r h' hf => callS_ok hf rfl rfl rfl) h ?_
          rintro _ _ ⟨x10, I11, J12, rfl, rfl, h⟩
          refine WP.if_eq (t := 71) (L' := [vr 9 0, vi l1, vi l2, vr 6 l1.toNatClampNeg, vi x7]) rfl rfl rfl rfl h (fun h => ?_) (fun h => ?_)
          · refine WP.blk (pc' := 73) (L' := [vr 9 0, vi l1, vi l2, vr 6 l1.toNatClampNeg, vi x7]) (st' := [vi (-12)]) (h' := (101, I11, J12, R0 b)) 1 rfl ?_
            exact WP.ret rfl rfl h
          · refine WP.blk (pc' := 73) (L' := [vr 9 0, vi l1, vi l2, vr 6 l1.toNatClampNeg, vi x7]) (st' := [vi x7]) (h' := (101, I11, J12, R0 b)) 2 rfl ?_
            exact WP.ret rfl rfl h
        · refine WP.blk (pc' := 43) (L' := [vr 9 0, vi l1, vi l2, vr 6 l1.toNatClampNeg, vn]) (st' := [vi (-12)]) (h' := (101, I5, J6, R0 b)) 1 rfl ?_
          exact WP.ret rfl rfl h
      · refine WP.blk (pc' := 32) (L' := [vr 9 0, vi l1, vi l2, vr 6 l1.toNatClampNeg, vn]) (st' := [vi (-11)]) (h' := (101, I5, J6, R0 b)) 1 rfl ?_
        exact WP.ret rfl rfl h
    · refine WP.blk (pc' := 15) (L' := [vn, vn, vn, vn, vn]) (st' := [vi (-1)]) (h' := (101, I5, J6, R0 b)) 1 rfl ?_
      exact WP.ret rfl rfl h
set_option maxRecDepth 20000 in
theorem t_X9_count {D : Nat} (l1 : Int32) (I : IM) (J : JM) (b : Bool) {Q : Option AV → AH → Prop} (h : (if l1 = 0 then Q (some (vi (I 1 0 1))) (101, I, J, R0 b) else (if l1 = 1 then Q (some (vi (I 3 0 10))) (101, I, J, R0 b) else (if l1 = 2 then Q (some (vi (I 4 0 3))) (101, I, J, R0 b) else (if l1 = 3 then Q (some (vi (I 0 0 4))) (101, I, J, R0 b) else (if l1 = 4 then Q (some (vi (I 0 0 5))) (101, I, J, R0 b) else Q (some (vi (-1))) (101, I, J, R0 b))))))) : Call (D + 1) 122 [vr 9 0, vi l1] (101, I, J, R0 b) Q := by
  refine Call.of rfl ?_
  show WP D 122 0 [vr 9 0, vi l1] [] (101, I, J, R0 b) Q
  refine WP.blk (pc' := 1) (L' := [vr 9 0, vi l1]) (st' := [vi l1]) (h' := (101, I, J, R0 b)) 1 rfl ?_
  refine WP.step (pc' := swf [(0, 36), (1, 44), (2, 52), (3, 60), (4, 68)] 76 l1) (L' := [vr 9 0, vi l1]) (st' := []) (h' := (101, I, J, R0 b)) rfl rfl ?_
  refine WP.ite (c := l1 = 0) (pc1 := 36) (pc2 := swf [(1, 44), (2, 52), (3, 60), (4, 68)] 76 l1) h (fun h => ?_) (fun h => ?_)
  · refine WP.blk (pc' := 43) (L' := [vr 9 0, vi l1]) (st' := [vi (I 1 0 1)]) (h' := (101, I, J, R0 b)) 3 rfl ?_
    exact WP.ret rfl rfl h
  · refine WP.ite (c := l1 = 1) (pc1 := 44) (pc2 := swf [(2, 52), (3, 60), (4, 68)] 76 l1) h (fun h => ?_) (fun h => ?_)
    · refine WP.blk (pc' := 51) (L' := [vr 9 0, vi l1]) (st' := [vi (I 3 0 10)]) (h' := (101, I, J, R0 b)) 3 rfl ?_
      exact WP.ret rfl rfl h
    · refine WP.ite (c := l1 = 2) (pc1 := 52) (pc2 := swf [(3, 60), (4, 68)] 76 l1) h (fun h => ?_) (fun h => ?_)
      · refine WP.blk (pc' := 59) (L' := [vr 9 0, vi l1]) (st' := [vi (I 4 0 3)]) (h' := (101, I, J, R0 b)) 3 rfl ?_
        exact WP.ret rfl rfl h
      · refine WP.ite (c := l1 = 3) (pc1 := 60) (pc2 := swf [(4, 68)] 76 l1) h (fun h => ?_) (fun h => ?_)
        · refine WP.blk (pc' := 67) (L' := [vr 9 0, vi l1]) (st' := [vi (I 0 0 4)]) (h' := (101, I, J, R0 b)) 3 rfl ?_
          exact WP.ret rfl rfl h
        · refine WP.ite (c := l1 = 4) (pc1 := 68) (pc2 := swf [] 76 l1) h (fun h => ?_) (fun h => ?_)
          · refine WP.blk (pc' := 75) (L' := [vr 9 0, vi l1]) (st' := [vi (I 0 0 5)]) (h' := (101, I, J, R0 b)) 3 rfl ?_
            exact WP.ret rfl rfl h
          · show WP D 122 76 [vr 9 0, vi l1] [] (101, I, J, R0 b) Q
            refine WP.blk (pc' := 77) (L' := [vr 9 0, vi l1]) (st' := [vi (-1)]) (h' := (101, I, J, R0 b)) 1 rfl ?_
            exact WP.ret rfl rfl h
set_option maxRecDepth 20000 in
theorem t_X9_isShelf {D : Nat} (l0 : Int32) (I : IM) (J : JM) (b : Bool) {Q : Option AV → AH → Prop} (h : (if l0 < 0 then Q (some (vi 0)) (101, I, J, R0 b) else (if (6 : Int32) ≤ l0 then Q (some (vi 0)) (101, I, J, R0 b) else Q (some (vi 1)) (101, I, J, R0 b)))) : Call (D + 1) 123 [vi l0] (101, I, J, R0 b) Q := by
  refine Call.of rfl ?_
  show WP D 123 0 [vi l0] [] (101, I, J, R0 b) Q
  refine WP.blk (pc' := 1) (L' := [vi l0]) (st' := [vi l0]) (h' := (101, I, J, R0 b)) 1 rfl ?_
  refine WP.if_lt (t := 14) (L' := [vi l0]) rfl rfl rfl rfl h (fun h => ?_) (fun h => ?_)
  · refine WP.blk (pc' := 15) (L' := [vn]) (st' := [vi 0]) (h' := (101, I, J, R0 b)) 1 rfl ?_
    exact WP.ret rfl rfl h
  · refine WP.blk (pc' := 7) (L' := [vi l0]) (st' := [vi 6, vi l0]) (h' := (101, I, J, R0 b)) 2 rfl ?_
    refine WP.icmp_ge (t := 14) (L' := [vi l0]) rfl rfl rfl rfl h (fun h => ?_) (fun h => ?_)
    · refine WP.blk (pc' := 15) (L' := [vn]) (st' := [vi 0]) (h' := (101, I, J, R0 b)) 1 rfl ?_
      exact WP.ret rfl rfl h
    · refine WP.blk (pc' := 15) (L' := [vi l0]) (st' := [vi 1]) (h' := (101, I, J, R0 b)) 2 rfl ?_
      exact WP.ret rfl rfl h
set_option maxRecDepth 20000 in
theorem t_X9_isZeroOrOne {D : Nat} (l0 : Int32) (I : IM) (J : JM) (b : Bool) {Q : Option AV → AH → Prop} (h : (if l0 = 0 then Q (some (vi 1)) (101, I, J, R0 b) else (if ¬ l0 = (1 : Int32) then Q (some (vi 0)) (101, I, J, R0 b) else Q (some (vi 1)) (101, I, J, R0 b)))) : Call (D + 1) 124 [vi l0] (101, I, J, R0 b) Q := by
  refine Call.of rfl ?_
  show WP D 124 0 [vi l0] [] (101, I, J, R0 b) Q
  refine WP.blk (pc' := 1) (L' := [vi l0]) (st' := [vi l0]) (h' := (101, I, J, R0 b)) 1 rfl ?_
  refine WP.if_eq (t := 9) (L' := [vi l0]) rfl rfl rfl rfl h (fun h => ?_) (fun h => ?_)
  · refine WP.blk (pc' := 14) (L' := [vn]) (st' := [vi 1]) (h' := (101, I, J, R0 b)) 2 rfl ?_
    exact WP.ret rfl rfl h
  · refine WP.blk (pc' := 6) (L' := [vi l0]) (st' := [vi 1, vi l0]) (h' := (101, I, J, R0 b)) 2 rfl ?_
    refine WP.icmp_ne (t := 13) (L' := [vi l0]) rfl rfl rfl rfl h (fun h => ?_) (fun h => ?_)
    · refine WP.blk (pc' := 14) (L' := [vi l0]) (st' := [vi 0]) (h' := (101, I, J, R0 b)) 1 rfl ?_
      exact WP.ret rfl rfl h
    · refine WP.blk (pc' := 14) (L' := [vn]) (st' := [vi 1]) (h' := (101, I, J, R0 b)) 2 rfl ?_
      exact WP.ret rfl rfl h
set_option maxRecDepth 20000 in
theorem t_X9_isJoint {D : Nat} (l1 : Int32) (I : IM) (J : JM) (b : Bool) {Q : Option AV → AH → Prop} (h : (if l1 < 0 then Q (some (vi 0)) (101, I, J, R0 b) else (if (I 1 0 1) ≤ l1 then Q (some (vi 0)) (101, I, J, R0 b) else Q (some (vi 1)) (101, I, J, R0 b)))) : Call (D + 1) 125 [vr 9 0, vi l1] (101, I, J, R0 b) Q := by
  refine Call.of rfl ?_
  show WP D 125 0 [vr 9 0, vi l1] [] (101, I, J, R0 b) Q
  refine WP.blk (pc' := 1) (L' := [vr 9 0, vi l1]) (st' := [vi l1]) (h' := (101, I, J, R0 b)) 1 rfl ?_
  refine WP.if_lt (t := 19) (L' := [vr 9 0, vi l1]) rfl rfl rfl rfl h (fun h => ?_) (fun h => ?_)
  · refine WP.blk (pc' := 20) (L' := [vn, vn]) (st' := [vi 0]) (h' := (101, I, J, R0 b)) 1 rfl ?_
    exact WP.ret rfl rfl h
  · refine WP.blk (pc' := 12) (L' := [vr 9 0, vi l1]) (st' := [vi (I 1 0 1), vi l1]) (h' := (101, I, J, R0 b)) 4 rfl ?_
    refine WP.icmp_ge (t := 19) (L' := [vr 9 0, vi l1]) rfl rfl rfl rfl h (fun h => ?_) (fun h => ?_)
    · refine WP.blk (pc' := 20) (L' := [vn, vn]) (st' := [vi 0]) (h' := (101, I, J, R0 b)) 1 rfl ?_
      exact WP.ret rfl rfl h
    · refine WP.blk (pc' := 20) (L' := [vr 9 0, vi l1]) (st' := [vi 1]) (h' := (101, I, J, R0 b)) 2 rfl ?_
      exact WP.ret rfl rfl h
set_option maxRecDepth 20000 in
theorem t_X9_lackOfPlace {D : Nat} (l1 : Int32) (l2 : Int32) (I : IM) (J : JM) (b : Bool) {Q : Option AV → AH → Prop} (h : (Call D 123 [vi l1] (101, I, J, R0 b) (RIf b fun x1 I2 J3 => (if ¬ x1 = 0 then (vp_in l1 6 ∧ (if ¬ (I2 6 l1.toNatClampNeg 0) = 0 then (if (I2 6 l1.toNatClampNeg 0) = (2 : Int32) then (if l2 < 0 then Q (some (vi (-13))) (101, I2, J3, R0 b) else (if l2 < (I2 6 l1.toNatClampNeg 3) then Q (some (vi 0)) (101, I2, J3, R0 b) else Q (some (vi (-13))) (101, I2, J3, R0 b))) else Q (some (vi (-12))) (101, I2, J3, R0 b)) else Q (some (vi (-11))) (101, I2, J3, R0 b))) else Q (some (vi (-1))) (101, I2, J3, R0 b))))) : Call (D + 1) 126 [vr 9 0, vi l1, vi l2] (101, I, J, R0 b) Q := by
  refine Call.of rfl ?_
  show WP D 126 0 [vr 9 0, vi l1, vi l2, vn] [] (101, I, J, R0 b) Q
  refine WP.blk (pc' := 1) (L' := [vr 9 0, vi l1, vi l2, vn]) (st' := [vi l1]) (h' := (101, I, J, R0 b)) 1 rfl ?_
  refine WP.cal (y' := 123) (as := [vi l1]) (L' := [vr 9 0, vi l1, vi l2, vn]) (rest := []) rfl (fun f r h' hf => callS_ok hf rfl rfl rfl) h ?_
  rintro _ _ ⟨x1, I2, J3, rfl, rfl, h⟩
  refine WP.if_ne (t := 9) (L' := [vr 9 0, vi l1, vi l2, vn]) rfl rfl rfl rfl h (fun h => ?_) (fun h => ?_)
  · refine WP.blk (pc' := 14) (L' := [vr 9 0, vi l1, vi l2, vn]) (st' := [vi l1, vr 40 0]) (h' := (101, I2, J3, R0 b)) 3 rfl ?_
    refine WP.step (pc' := 15) (L' := [vr 9 0, vi l1, vi l2, vn]) (st' := [vr 6 l1.toNatClampNeg]) (h' := (101, I2, J3, R0 b)) rfl (aaload_ok (n := 6) rfl rfl rfl rfl (inA_of h.1)) ?_
    have h := And.right h
    refine WP.blk (pc' := 20) (L' := [vr 9 0, vi l1, vi l2, vr 6 l1.toNatClampNeg]) (st' := [vi (I2 6 l1.toNatClampNeg 0)]) (h' := (101, I2, J3, R0 b)) 3 rfl ?_
    refine WP.if_ne (t := 26) (L' := [vr 9 0, vi l1, vi l2, vr 6 l1.toNatClampNeg]) rfl rfl rfl rfl h (fun h => ?_) (fun h => ?_)
    · refine WP.blk (pc' := 31) (L' := [vr 9 0, vi l1, vi l2, vr 6 l1.toNatClampNeg]) (st' := [vi 2, vi (I2 6 l1.toNatClampNeg 0)]) (h' := (101, I2, J3, R0 b)) 3 rfl ?_
      refine WP.icmp_eq (t := 37) (L' := [vr 9 0, vi l1, vi l2, vr 6 l1.toNatClampNeg]) rfl rfl rfl rfl h (fun h => ?_) (fun h => ?_)
      · refine WP.blk (pc' := 38) (L' := [vr 9 0, vi l1, vi l2, vr 6 l1.toNatClampNeg]) (st' := [vi l2]) (h' := (101, I2, J3, R0 b)) 1 rfl ?_
        refine WP.if_lt (t := 49) (L' := [vr 9 0, vi l1, vi l2, vr 6 l1.toNatClampNeg]) rfl rfl rfl rfl h (fun h => ?_) (fun h => ?_)
        · refine WP.blk (pc' := 55) (L' := [vn, vn, vn, vn]) (st' := [vi (-13)]) (h' := (101, I2, J3, R0 b)) 2 rfl ?_
          exact WP.ret rfl rfl h
        · refine WP.blk (pc' := 46) (L' := [vr 9 0, vi l1, vi l2, vr 6 l1.toNatClampNeg]) (st' := [vi (I2 6 l1.toNatClampNeg 3), vi l2]) (h' := (101, I2, J3, R0 b)) 3 rfl ?_
          refine WP.icmp_lt (t := 54) (L' := [vr 9 0, vi l1, vi l2, vr 6 l1.toNatClampNeg]) rfl rfl rfl rfl h (fun h => ?_) (fun h => ?_)
          · refine WP.blk (pc' := 55) (L' := [vr 9 0, vi l1, vi l2, vr 6 l1.toNatClampNeg]) (st' := [vi 0]) (h' := (101, I2, J3, R0 b)) 1 rfl ?_
            exact WP.ret rfl rfl h
          · refine WP.blk (pc' := 55) (L' := [vn, vn, vn, vn]) (st' := [vi (-13)]) (h' := (101, I2, J3, R0 b)) 2 rfl ?_
            exact WP.ret rfl rfl h
      · refine WP.blk (pc' := 36) (L' := [vr 9 0, vi l1, vi l2, vr 6 l1.toNatClampNeg]) (st' := [vi (-12)]) (h' := (101, I2, J3, R0 b)) 1 rfl ?_
        exact WP.ret rfl rfl h
    · refine WP.blk (pc' := 25) (L' := [vr 9 0, vi l1, vi l2, vr 6 l1.toNatClampNeg]) (st' := [vi (-11)]) (h' := (101, I2, J3, R0 b)) 1 rfl ?_
      exact WP.ret rfl rfl h
  · refine WP.blk (pc' := 8) (L' := [vr 9 0, vi l1, vi l2, vn]) (st' := [vi (-1)]) (h' := (101, I2, J3, R0 b)) 1 rfl ?_
    exact WP.ret rfl rfl h
set_option maxRecDepth 20000 in
theorem t_X9_readPlan {D : Nat} (l1 : Int32) (I : IM) (J : JM) (b : Bool) {Q : Option AV → AH → Prop} (h : (Call D 123 [vi l1] (101, I, J, R0 b) (RIf b fun x1 I2 J3 => (if ¬ x1 = 0 then (vp_in l1 6 ∧ (Call D 50 [vr 6 l1.toNatClampNeg, vi 0] (101, I2, J3, R0 b) (RIf b fun x4 I5 J6 => (if x4 = 0 then WP D 127 39 [vr 9 0, vn, vr 6 l1.toNatClampNeg, vn, vi 0, vi 0, vn] [] (101, (updI I5 9 0 11 0), J6, R0 b) Q else Q (some (vi x4)) (101, I5, J6, R0 b))))) else Q (some (vi (-1))) (101, I2, J3, R0 b))))) : Call (D + 1) 127 [vr 9 0, vi l1] (101, I, J, R0 b) Q := by
  refine Call.of rfl ?_
  show WP D 127 0 [vr 9 0, vi l1, vn, vn, vn, vn, vn] [] (101, I, J, R0 b) Q
  refine WP.blk (pc' := 1) (L' := [vr 9 0, vi l1, vn, vn, vn, vn, vn]) (st' := [vi l1]) (h' := (101, I, J, R0 b)) 1 rfl ?_
  refine WP.cal (y' := 123) (as := [vi l1]) (L' := [vr 9 0, vi l1, vn, vn, vn, vn, vn]) (rest := []) rfl (fun f r h' hf => callS_ok hf rfl rfl rfl) h ?_
  rintro _ _ ⟨x1, I2, J3, rfl, rfl, h⟩
  refine WP.if_ne (t := 9) (L' := [vr 9 0, vi l1, vn, vn, vn, vn, vn]) rfl rfl rfl rfl h (fun h => ?_) (fun h => ?_)
  · refine WP.blk (pc' := 14) (L' := [vr 9 0, vi l1, vn, vn, vn, vn, vn]) (st' := [vi l1, vr 40 0]) (h' := (101, I2, J3, R0 b)) 3 rfl ?_
    refine WP.step (pc' := 15) (L' := [vr 9 0, vi l1, vn, vn, vn, vn, vn]) (st' := [vr 6 l1.toNatClampNeg]) (h' := (101, I2, J3, R0 b)) rfl (aaload_ok (n := 6) rfl rfl rfl rfl (inA_of h.1)) ?_
    have h := And.right h
    refine WP.blk (pc' := 18) (L' := [vr 9 0, vi l1, vr 6 l1.toNatClampNeg, vn, vn, vn, vn]) (st' := [vi 0, vr 6 l1.toNatClampNeg]) (h' := (101, I2, J3, R0 b)) 3 rfl ?_
    refine WP.cal (y' := 50) (as := [vr 6 l1.toNatClampNeg, vi 0]) (L' := [vr 9 0, vi l1, vr 6 l1.toNatClampNeg, vn, vn, vn, vn]) (rest := []) rfl (fun f r h' hf => callV_ok hf rfl rfl rfl) h ?_
    rintro _ _ ⟨x4, I5, J6, rfl, rfl, h⟩
    refine WP.blk (pc' := 23) (L' := [vr 9 0, vi l1, vr 6 l1.toNatClampNeg, vi x4, vn, vn, vn]) (st' := [vi x4]) (h' := (101, I5, J6, R0 b)) 2 rfl ?_
    refine WP.if_eq (t := 28) (L' := [vr 9 0, vi l1, vr 6 l1.toNatClampNeg, vi x4, vn, vn, vn]) rfl rfl rfl rfl h (fun h => ?_) (fun h => ?_)
    · refine WP.blk (pc' := 39) (L' := [vr 9 0, vi l1, vr 6 l1.toNatClampNeg, vi x4, vi 0, vi 0, vn]) (st' := []) (h' := (101, (updI I5 9 0 11 0), J6, R0 b)) 7 rfl ?_
      exact WP.mask rfl rfl h
    · refine WP.blk (pc' := 27) (L' := [vr 9 0, vi l1, vr 6 l1.toNatClampNeg, vi x4, vn, vn, vn]) (st' := [vi x4]) (h' := (101, I5, J6, R0 b)) 1 rfl ?_
      exact WP.ret rfl rfl h
  · refine WP.blk (pc' := 8) (L' := [vr 9 0, vi l1, vn, vn, vn, vn, vn]) (st' := [vi (-1)]) (h' := (101, I2, J3, R0 b)) 1 rfl ?_
    exact WP.ret rfl rfl h
set_option maxRecDepth 20000 in
theorem t_X9_readPlan_39 {D : Nat} (w2 : Nat) (l4 : Int32) (l5 : Int32) (I : IM) (J : JM) (b : Bool) {Q : Option AV → AH → Prop} (h : (if (I 6 w2 3) ≤ l5 then Q (some (vi 0)) (101, I, J, R0 b) else (if (7 : Int32) ≤ (I 9 0 11) then Q (some (vi 0)) (101, I, J, R0 b) else (vp_in l5 60 ∧ (Call D 125 [vr 9 0, vi ((J 41 w2 l5.toNatClampNeg)).toInt32] (101, I, J, R0 b) (RIf b fun x7 I8 J9 => (if x7 = 0 then Q (some (vi 0)) (101, I8, J9, R0 b) else (if ¬ ((l4 >>> (((J 41 w2 l5.toNatClampNeg)).toInt32 &&& 31)) &&& (1 : Int32)) = (1 : Int32) then (vp_in (I8 9 0 11) 7 ∧ WP D 127 39 [vr 9 0, vn, vr 6 w2, vn, vi (l4 ||| ((1 : Int32) <<< (((J 41 w2 l5.toNatClampNeg)).toInt32 &&& 31))), vi (l5 + 1), vn] [] (101, (updI (updI I8 42 0 (I8 9 0 11).toNatClampNeg ((J 41 w2 l5.toNatClampNeg)).toInt32) 9 0 11 ((I8 9 0 11) + (1 : Int32))), J9, R0 b) Q) else Q (some (vi 0)) (101, I8, J9, R0 b))))))))) : WP D 127 39 [vr 9 0, vn, vr 6 w2, vn, vi l4, vi l5, vn] [] (101, I, J, R0 b) Q := by
  refine WP.blk (pc' := 45) (L' := [vr 9 0, vn, vr 6 w2, vn, vi l4, vi l5, vn]) (st' := [vi (I 6 w2 3), vi l5]) (h' := (101, I, J, R0 b)) 3 rfl ?_
  refine WP.icmp_ge (t := 126) (L' := [vr 9 0, vn, vr 6 w2, vn, vi l4, vi l5, vn]) rfl rfl rfl rfl h (fun h => ?_) (fun h => ?_)
  · refine WP.blk (pc' := 127) (L' := [vn, vn, vn, vn, vn, vn, vn]) (st' := [vi 0]) (h' := (101, I, J, R0 b)) 1 rfl ?_
    exact WP.ret rfl rfl h
  · refine WP.blk (pc' := 54) (L' := [vr 9 0, vn, vr 6 w2, vn, vi l4, vi l5, vn]) (st' := [vi 7, vi (I 9 0 11)]) (h' := (101, I, J, R0 b)) 3 rfl ?_
    refine WP.icmp_ge (t := 126) (L' := [vr 9 0, vn, vr 6 w2, vn, vi l4, vi l5, vn]) rfl rfl rfl rfl h (fun h => ?_) (fun h => ?_)
    · refine WP.blk (pc' := 127) (L' := [vn, vn, vn, vn, vn, vn, vn]) (st' := [vi 0]) (h' := (101, I, J, R0 b)) 1 rfl ?_
      exact WP.ret rfl rfl h
    · refine WP.blk (pc' := 63) (L' := [vr 9 0, vn, vr 6 w2, vn, vi l4, vi l5, vn]) (st' := [vi l5, vr 41 w2]) (h' := (101, I, J, R0 b)) 3 rfl ?_
      refine WP.step (pc' := 64) (L' := [vr 9 0, vn, vr 6 w2, vn, vi l4, vi l5, vn]) (st' := [vl (J 41 w2 l5.toNatClampNeg)]) (h' := (101, I, J, R0 b)) rfl (laload_ok (n := 60) rfl rfl rfl (inA_of h.1)) ?_
      have h := And.right h
      refine WP.blk (pc' := 70) (L' := [vr 9 0, vn, vr 6 w2, vn, vi l4, vi l5, vi ((J 41 w2 l5.toNatClampNeg)).toInt32]) (st' := [vi ((J 41 w2 l5.toNatClampNeg)).toInt32, vr 9 0]) (h' := (101, I, J, R0 b)) 4 rfl ?_
      refine WP.cal (y' := 125) (as := [vr 9 0, vi ((J 41 w2 l5.toNatClampNeg)).toInt32]) (L' := [vr 9 0, vn, vr 6 w2, vn, vi l4, vi l5, vi ((J 41 w2 l5.toNatClampNeg)).toInt32]) (rest := []) rfl (fun f r h' hf => callV_ok hf rfl rfl rfl) h ?_
      rintro _ _ ⟨x7, I8, J9, rfl, rfl, h⟩
      refine WP.if_eq (t := 126) (L' := [vr 9 0, vn, vr 6 w2, vn, vi l4, vi l5, vi ((J 41 w2 l5.toNatClampNeg)).toInt32]) rfl rfl rfl rfl h (fun h => ?_) (fun h => ?_)
      · refine WP.blk (pc' := 127) (L' := [vn, vn, vn, vn, vn, vn, vn]) (st' := [vi 0]) (h' := (101, I8, J9, R0 b)) 1 rfl ?_
        exact WP.ret rfl rfl h
      · refine WP.blk (pc' := 84) (L' := [vr 9 0, vn, vr 6 w2, vn, vi l4, vi l5, vi ((J 41 w2 l5.toNatClampNeg)).toInt32]) (st' := [vi 1, vi ((l4 >>> (((J 41 w2 l5.toNatClampNeg)).toInt32 &&& 31)) &&& (1 : Int32))]) (h' := (101, I8, J9, R0 b)) 6 rfl ?_
        refine WP.icmp_ne (t := 90) (L' := [vr 9 0, vn, vr 6 w2, vn, vi l4, vi l5, vi ((J 41 w2 l5.toNatClampNeg)).toInt32]) rfl rfl rfl rfl h (fun h => ?_) (fun h => ?_)
        · refine WP.blk (pc' := 109) (L' := [vr 9 0, vn, vr 6 w2, vn, vi (l4 ||| ((1 : Int32) <<< (((J 41 w2 l5.toNatClampNeg)).toInt32 &&& 31))), vi l5, vi ((J 41 w2 l5.toNatClampNeg)).toInt32]) (st' := [vi ((J 41 w2 l5.toNatClampNeg)).toInt32, vi (I8 9 0 11), vr 42 0]) (h' := (101, I8, J9, R0 b)) 11 rfl ?_
          refine WP.step (pc' := 110) (L' := [vr 9 0, vn, vr 6 w2, vn, vi (l4 ||| ((1 : Int32) <<< (((J 41 w2 l5.toNatClampNeg)).toInt32 &&& 31))), vi l5, vi ((J 41 w2 l5.toNatClampNeg)).toInt32]) (st' := []) (h' := (101, (updI I8 42 0 (I8 9 0 11).toNatClampNeg ((J 41 w2 l5.toNatClampNeg)).toInt32), J9, R0 b)) rfl (iastore_ok (n := 7) rfl rfl rfl (inA_of h.1)) ?_
          have h := And.right h
          refine WP.blk (pc' := 39) (L' := [vr 9 0, vn, vr 6 w2, vn, vi (l4 ||| ((1 : Int32) <<< (((J 41 w2 l5.toNatClampNeg)).toInt32 &&& 31))), vi (l5 + 1), vi ((J 41 w2 l5.toNatClampNeg)).toInt32]) (st' := []) (h' := (101, (updI (updI I8 42 0 (I8 9 0 11).toNatClampNeg ((J 41 w2 l5.toNatClampNeg)).toInt32) 9 0 11 ((I8 9 0 11) + (1 : Int32))), J9, R0 b)) 8 rfl ?_
          exact WP.mask rfl rfl h
        · refine WP.blk (pc' := 127) (L' := [vn, vn, vn, vn, vn, vn, vn]) (st' := [vi 0]) (h' := (101, I8, J9, R0 b)) 2 rfl ?_
          exact WP.ret rfl rfl h
set_option maxRecDepth 20000 in
theorem t_X9_readPlanAndDrips {D : Nat} (l1 : Int32) (I : IM) (J : JM) (b : Bool) {Q : Option AV → AH → Prop} (h : (if l1 < 0 then Q (some (vi (-1))) (101, I, J, R0 b) else (Call D 123 [vi (l1 / (10 : Int32))] (101, I, J, R0 b) (RIf b fun x1 I2 J3 => (if x1 = 0 then Q (some (vi (-1))) (101, I2, J3, R0 b) else (Call D 123 [vi (l1 - l1 / (10 : Int32) * (10 : Int32))] (101, I2, J3, R0 b) (RIf b fun x4 I5 J6 => (if ¬ x4 = 0 then (vp_in (l1 / (10 : Int32)) 6 ∧ (Call D 50 [vr 6 (l1 / (10 : Int32)).toNatClampNeg, vi 0] (101, I5, J6, R0 b) (RIf b fun x7 I8 J9 => (vp_in (l1 - l1 / (10 : Int32) * (10 : Int32)) 6 ∧ (Call D 50 [vr 6 (l1 - l1 / (10 : Int32) * (10 : Int32)).toNatClampNeg, vi 1] (101, I8, J9, R0 b) (RIf b fun x10 I11 J12 => (if x7 = (-11 : Int32) then Q (some (vi (-11))) (101, I11, J12, R0 b) else (if ¬ x10 = (-11 : Int32) then (if ¬ x7 = 0 then Q (some (vi (-12))) (101, I11, J12, R0 b) else (if x10 = 0 then (Call D 127 [vr 9 0, vi (l1 / (10 : Int32))] (101, I11, J12, R0 b) (RIf b fun x13 I14 J15 => Q (some (vi x13)) (101, I14, J15, R0 b))) else Q (some (vi (-12))) (101, I11, J12, R0 b))) else Q (some (vi (-11))) (101, I11, J12, R0 b))))))))) else Q (some (vi (-1))) (101, I5, J6, R0 b))))))))) : Call (D + 1) 128 [vr 9 0, vi l1] (101, I, J, R0 b) Q := by
  refine Call.of rfl ?_
  show WP D 128 0 [vr 9 0, vi l1, vn, vn] [] (101, I, J, R0 b) Q
  refine WP.blk (pc' := 1) (L' := [vr 9 0, vi l1, vn, vn]) (st' := [vi l1]) (h' := (101, I, J, R0 b)) 1 rfl ?_
  refine WP.if_lt (t := 24) (L' := [vr 9 0, vi l1, vn, vn]) rfl rfl rfl rfl h (fun h => ?_) (fun h => ?_)
  · refine WP.blk (pc' := 25) (L' := [vn, vn, vn, vn]) (st' := [vi (-1)]) (h' := (101, I, J, R0 b)) 1 rfl ?_
    exact WP.ret rfl rfl h
  · refine WP.blk (pc' := 8) (L' := [vr 9 0, vi l1, vn, vn]) (st' := [vi (l1 / (10 : Int32))]) (h' := (101, I, J, R0 b)) 3 rfl ?_
    refine WP.cal (y' := 123) (as := [vi (l1 / (10 : Int32))]) (L' := [vr 9 0, vi l1, vn, vn]) (rest := []) rfl (fun f r h' hf => callS_ok hf rfl rfl rfl) h ?_
    rintro _ _ ⟨x1, I2, J3, rfl, rfl, h⟩
    refine WP.if_eq (t := 24) (L' := [vr 9 0, vi l1, vn, vn]) rfl rfl rfl rfl h (fun h => ?_) (fun h => ?_)
    · refine WP.blk (pc' := 25) (L' := [vn, vn, vn, vn]) (st' := [vi (-1)]) (h' := (101, I2, J3, R0 b)) 1 rfl ?_
      exact WP.ret rfl rfl h
    · refine WP.blk (pc' := 18) (L' := [vr 9 0, vi l1, vn, vn]) (st' := [vi (l1 - l1 / (10 : Int32) * (10 : Int32))]) (h' := (101, I2, J3, R0 b)) 3 rfl ?_
      refine WP.cal (y' := 123) (as := [vi (l1 - l1 / (10 : Int32) * (10 : Int32))]) (L' := [vr 9 0, vi l1, vn, vn]) (rest := []) rfl (fun f r h' hf => callS_ok hf rfl rfl rfl) h ?_
      rintro _ _ ⟨x4, I5, J6, rfl, rfl, h⟩
      refine WP.if_ne (t := 26) (L' := [vr 9 0, vi l1, vn, vn]) rfl rfl rfl rfl h (fun h => ?_) (fun h => ?_)
      · refine WP.blk (pc' := 34) (L' := [vr 9 0, vi l1, vn, vn]) (st' := [vi (l1 / (10 : Int32)), vr 40 0]) (h' := (101, I5, J6, R0 b)) 5 rfl ?_
        refine WP.step (pc' := 35) (L' := [vr 9 0, vi l1, vn, vn]) (st' := [vr 6 (l1 / (10 : Int32)).toNatClampNeg]) (h' := (101, I5, J6, R0 b)) rfl (aaload_ok (n := 6) rfl rfl rfl rfl (inA_of h.1)) ?_
        have h := And.right h
        refine WP.blk (pc' := 36) (L' := [vr 9 0, vi l1, vn, vn]) (st' := [vi 0, vr 6 (l1 / (10 : Int32)).toNatClampNeg]) (h' := (101, I5, J6, R0 b)) 1 rfl ?_
        refine WP.cal (y' := 50) (as := [vr 6 (l1 / (10 : Int32)).toNatClampNeg, vi 0]) (L' := [vr 9 0, vi l1, vn, vn]) (rest := []) rfl (fun f r h' hf => callV_ok hf rfl rfl rfl) h ?_
        rintro _ _ ⟨x7, I8, J9, rfl, rfl, h⟩
        refine WP.blk (pc' := 48) (L' := [vr 9 0, vi l1, vi x7, vn]) (st' := [vi (l1 - l1 / (10 : Int32) * (10 : Int32)), vr 40 0]) (h' := (101, I8, J9, R0 b)) 6 rfl ?_
        refine WP.step (pc' := 49) (L' := [vr 9 0, vi l1, vi x7, vn]) (st' := [vr 6 (l1 - l1 / (10 : Int32) * (10 : Int32)).toNatClampNeg]) (h' := (101, I8, J9, R0 b)) rfl (aaload_ok (n := 6) rfl rfl rfl rfl (inA_of h.1)) ?_
        have h := And.right h
        refine WP.blk (pc' := 50) (L' := [vr 9 0, vi l1, vi x7, vn]) (st' := [vi 1, vr 6 (l1 - l1 / (10 : Int32) * (10 : Int32)).toNatClampNeg]) (h' := (101, I8, J9, R0 b)) 1 rfl ?_
        refine WP.cal (y' := 50) (as := [vr 6 (l1 - l1 / (10 : Int32) * (10 : Int32)).toNatClampNeg, vi 1]) (L' := [vr 9 0, vi l1, vi x7, vn]) (rest := []) rfl (fun f r h' hf => callV_ok hf rfl rfl rfl) h ?_
        rintro _ _ ⟨x10, I11, J12, rfl, rfl, h⟩
        refine WP.blk (pc' := 57) (L' := [vr 9 0, vi l1, vi x7, vi x10]) (st' := [vi (-11), vi x7]) (h' := (101, I11, J12, R0 b)) 3 rfl ?_
        refine WP.icmp_eq (t := 66) (L' := [vr 9 0, vi l1, vi x7, vi x10]) rfl rfl rfl rfl h (fun h => ?_) (fun h => ?_)
        · refine WP.blk (pc' := 68) (L' := [vn, vn, vn, vn]) (st' := [vi (-11)]) (h' := (101, I11, J12, R0 b)) 1 rfl ?_
          exact WP.ret rfl rfl h
        · refine WP.blk (pc' := 63) (L' := [vr 9 0, vi l1, vi x7, vi x10]) (st' := [vi (-11), vi x10]) (h' := (101, I11, J12, R0 b)) 2 rfl ?_
          refine WP.icmp_ne (t := 69) (L' := [vr 9 0, vi l1, vi x7, vi x10]) rfl rfl rfl rfl h (fun h => ?_) (fun h => ?_)
          · refine WP.blk (pc' := 70) (L' := [vr 9 0, vi l1, vi x7, vi x10]) (st' := [vi x7]) (h' := (101, I11, J12, R0 b)) 1 rfl ?_
            refine WP.if_ne (t := 77) (L' := [vr 9 0, vi l1, vi x7, vi x10]) rfl rfl rfl rfl h (fun h => ?_) (fun h => ?_)
            · refine WP.blk (pc' := 79) (L' := [vn, vn, vn, vn]) (st' := [vi (-12)]) (h' := (101, I11, J12, R0 b)) 1 rfl ?_
              exact WP.ret rfl rfl h
            · refine WP.blk (pc' := 74) (L' := [vr 9 0, vi l1, vi x7, vi x10]) (st' := [vi x10]) (h' := (101, I11, J12, R0 b)) 1 rfl ?_
              refine WP.if_eq (t := 80) (L' := [vr 9 0, vi l1, vi x7, vi x10]) rfl rfl rfl rfl h (fun h => ?_) (fun h => ?_)
              · refine WP.blk (pc' := 85) (L' := [vr 9 0, vi l1, vi x7, vi x10]) (st' := [vi (l1 / (10 : Int32)), vr 9 0]) (h' := (101, I11, J12, R0 b)) 4 rfl ?_
                refine WP.cal (y' := 127) (as := [vr 9 0, vi (l1 / (10 : Int32))]) (L' := [vr 9 0, vi l1, vi x7, vi x10]) (rest := []) rfl (fun f r h' hf => callV_ok hf rfl rfl rfl) h ?_
                rintro _ _ ⟨x13, I14, J15, rfl, rfl, h⟩
                exact WP.ret rfl rfl h
              · refine WP.blk (pc' := 79) (L' := [vn, vn, vn, vn]) (st' := [vi (-12)]) (h' := (101, I11, J12, R0 b)) 1 rfl ?_
                exact WP.ret rfl rfl h
          · refine WP.blk (pc' := 68) (L' := [vn, vn, vn, vn]) (st' := [vi (-11)]) (h' := (101, I11, J12, R0 b)) 1 rfl ?_
            exact WP.ret rfl rfl h
      · refine WP.blk (pc' := 25) (L' := [vn, vn, vn, vn]) (st' := [vi (-1)]) (h' := (101, I5, J6, R0 b)) 1 rfl ?_
        exact WP.ret rfl rfl h
set_option maxRecDepth 20000 in
theorem t_X9_tryPlan {D : Nat}  (I : IM) (J : JM) (b : Bool) {Q : Option AV → AH → Prop} (h : (Call D 60 [vr 8 0, vi 0] (101, I, J, R0 b) (RVf b fun I2 J3 => (Call D 130 [vr 9 0, vi 0] (101, I2, J3, R0 b) (RIf b fun x4 I5 J6 => Q (some (vi (I5 8 0 10))) (101, I5, J6, R0 b)))))) : Call (D + 1) 129 [vr 9 0] (101, I, J, R0 b) Q := by
  refine Call.of rfl ?_
  show WP D 129 0 [vr 9 0] [] (101, I, J, R0 b) Q
  refine WP.blk (pc' := 5) (L' := [vr 9 0]) (st' := [vi 0, vr 8 0]) (h' := (101, I, J, R0 b)) 3 rfl ?_
  refine WP.cal (y' := 60) (as := [vr 8 0, vi 0]) (L' := [vr 9 0]) (rest := []) rfl (fun f r h' hf => callV_ok hf rfl rfl rfl) h ?_
  rintro _ _ ⟨I2, J3, rfl, rfl, h⟩
  refine WP.blk (pc' := 10) (L' := [vr 9 0]) (st' := [vi 0, vr 9 0]) (h' := (101, I2, J3, R0 b)) 2 rfl ?_
  refine WP.cal (y' := 130) (as := [vr 9 0, vi 0]) (L' := [vr 9 0]) (rest := []) rfl (fun f r h' hf => callV_ok hf rfl rfl rfl) h ?_
  rintro _ _ ⟨x4, I5, J6, rfl, rfl, h⟩
  refine WP.blk (pc' := 21) (L' := [vr 9 0]) (st' := [vi (I5 8 0 10)]) (h' := (101, I5, J6, R0 b)) 4 rfl ?_
  exact WP.ret rfl rfl h
set_option maxRecDepth 20000 in
theorem t_X9_goOnFrom {D : Nat} (l1 : Int32) (I : IM) (J : JM) (b : Bool) {Q : Option AV → AH → Prop} (h : WP D 130 2 [vr 9 0, vn, vi l1] [] (101, I, J, R0 b) Q) : Call (D + 1) 130 [vr 9 0, vi l1] (101, I, J, R0 b) Q := by
  refine Call.of rfl ?_
  show WP D 130 0 [vr 9 0, vi l1, vn] [] (101, I, J, R0 b) Q
  refine WP.blk (pc' := 2) (L' := [vr 9 0, vi l1, vi l1]) (st' := []) (h' := (101, I, J, R0 b)) 2 rfl ?_
  exact WP.mask rfl rfl h
set_option maxRecDepth 20000 in
theorem t_X9_goOnFrom_2 {D : Nat} (l2 : Int32) (I : IM) (J : JM) (b : Bool) {Q : Option AV → AH → Prop} (h : (if (I 9 0 11) ≤ l2 then Q (some (vi 1)) (101, I, J, R0 b) else (vp_in l2 7 ∧ (Call D 64 [vr 8 0, vi (I 42 0 l2.toNatClampNeg)] (101, I, J, R0 b) (RIf b fun x1 I2 J3 => (if ¬ x1 = 0 then WP D 130 2 [vr 9 0, vn, vi (l2 + 1)] [] (101, I2, J3, R0 b) Q else Q (some (vi 0)) (101, I2, J3, R0 b))))))) : WP D 130 2 [vr 9 0, vn, vi l2] [] (101, I, J, R0 b) Q := by
  refine WP.blk (pc' := 7) (L' := [vr 9 0, vn, vi l2]) (st' := [vi (I 9 0 11), vi l2]) (h' := (101, I, J, R0 b)) 3 rfl ?_
  refine WP.icmp_ge (t := 34) (L' := [vr 9 0, vn, vi l2]) rfl rfl rfl rfl h (fun h => ?_) (fun h => ?_)
  · refine WP.blk (pc' := 35) (L' := [vr 9 0, vn, vi l2]) (st' := [vi 1]) (h' := (101, I, J, R0 b)) 1 rfl ?_
    exact WP.ret rfl rfl h
  · refine WP.blk (pc' := 19) (L' := [vr 9 0, vn, vi l2]) (st' := [vi l2, vr 42 0, vr 8 0]) (h' := (101, I, J, R0 b)) 5 rfl ?_
    refine WP.step (pc' := 20) (L' := [vr 9 0, vn, vi l2]) (st' := [vi (I 42 0 l2.toNatClampNeg), vr 8 0]) (h' := (101, I, J, R0 b)) rfl (iaload_ok (n := 7) rfl rfl rfl (inA_of h.1)) ?_
    have h := And.right h
    refine WP.cal (y' := 64) (as := [vr 8 0, vi (I 42 0 l2.toNatClampNeg)]) (L' := [vr 9 0, vn, vi l2]) (rest := []) rfl (fun f r h' hf => callV_ok hf rfl rfl rfl) h ?_
    rintro _ _ ⟨x1, I2, J3, rfl, rfl, h⟩
    refine WP.if_ne (t := 28) (L' := [vr 9 0, vn, vi l2]) rfl rfl rfl rfl h (fun h => ?_) (fun h => ?_)
    · refine WP.blk (pc' := 2) (L' := [vr 9 0, vn, vi (l2 + 1)]) (st' := []) (h' := (101, I2, J3, R0 b)) 2 rfl ?_
      exact WP.mask rfl rfl h
    · refine WP.blk (pc' := 27) (L' := [vr 9 0, vn, vi l2]) (st' := [vi 0]) (h' := (101, I2, J3, R0 b)) 1 rfl ?_
      exact WP.ret rfl rfl h
set_option maxRecDepth 20000 in
theorem t_X9_tryPlanWithout {D : Nat} (l1 : Int32) (I : IM) (J : JM) (b : Bool) {Q : Option AV → AH → Prop} (h : (Call D 60 [vr 8 0, vi 0] (101, I, J, R0 b) (RVf b fun I2 J3 => WP D 131 10 [vr 9 0, vi l1, vi 0] [] (101, I2, J3, R0 b) Q))) : Call (D + 1) 131 [vr 9 0, vi l1] (101, I, J, R0 b) Q := by
  refine Call.of rfl ?_
  show WP D 131 0 [vr 9 0, vi l1, vn] [] (101, I, J, R0 b) Q
  refine WP.blk (pc' := 5) (L' := [vr 9 0, vi l1, vn]) (st' := [vi 0, vr 8 0]) (h' := (101, I, J, R0 b)) 3 rfl ?_
  refine WP.cal (y' := 60) (as := [vr 8 0, vi 0]) (L' := [vr 9 0, vi l1, vn]) (rest := []) rfl (fun f r h' hf => callV_ok hf rfl rfl rfl) h ?_
  rintro _ _ ⟨I2, J3, rfl, rfl, h⟩
  refine WP.blk (pc' := 10) (L' := [vr 9 0, vi l1, vi 0]) (st' := []) (h' := (101, I2, J3, R0 b)) 2 rfl ?_
  exact WP.mask rfl rfl h
set_option maxRecDepth 20000 in
theorem t_X9_tryPlanWithout_10 {D : Nat} (l1 : Int32) (l2 : Int32) (I : IM) (J : JM) (b : Bool) {Q : Option AV → AH → Prop} (h : (if (I 9 0 11) ≤ l2 then Q (some (vi (I 8 0 10))) (101, I, J, R0 b) else (if l2 = l1 then WP D 131 10 [vr 9 0, vi l1, vi (l2 + 1)] [] (101, I, J, R0 b) Q else (vp_in l2 7 ∧ (Call D 64 [vr 8 0, vi (I 42 0 l2.toNatClampNeg)] (101, I, J, R0 b) (RIf b fun x4 I5 J6 => (if ¬ x4 = 0 then WP D 131 10 [vr 9 0, vi l1, vi (l2 + 1)] [] (101, I5, J6, R0 b) Q else Q (some (vi (I5 8 0 10))) (101, I5, J6, R0 b)))))))) : WP D 131 10 [vr 9 0, vi l1, vi l2] [] (101, I, J, R0 b) Q := by
  refine WP.blk (pc' := 15) (L' := [vr 9 0, vi l1, vi l2]) (st' := [vi (I 9 0 11), vi l2]) (h' := (101, I, J, R0 b)) 3 rfl ?_
  refine WP.icmp_ge (t := 48) (L' := [vr 9 0, vi l1, vi l2]) rfl rfl rfl rfl h (fun h => ?_) (fun h => ?_)
  · refine WP.blk (pc' := 55) (L' := [vr 9 0, vn, vn]) (st' := [vi (I 8 0 10)]) (h' := (101, I, J, R0 b)) 3 rfl ?_
    exact WP.ret rfl rfl h
  · refine WP.blk (pc' := 20) (L' := [vr 9 0, vi l1, vi l2]) (st' := [vi l1, vi l2]) (h' := (101, I, J, R0 b)) 2 rfl ?_
    refine WP.icmp_eq (t := 42) (L' := [vr 9 0, vi l1, vi l2]) rfl rfl rfl rfl h (fun h => ?_) (fun h => ?_)
    · refine WP.blk (pc' := 10) (L' := [vr 9 0, vi l1, vi (l2 + 1)]) (st' := []) (h' := (101, I, J, R0 b)) 2 rfl ?_
      exact WP.mask rfl rfl h
    · refine WP.blk (pc' := 32) (L' := [vr 9 0, vi l1, vi l2]) (st' := [vi l2, vr 42 0, vr 8 0]) (h' := (101, I, J, R0 b)) 5 rfl ?_
      refine WP.step (pc' := 33) (L' := [vr 9 0, vi l1, vi l2]) (st' := [vi (I 42 0 l2.toNatClampNeg), vr 8 0]) (h' := (101, I, J, R0 b)) rfl (iaload_ok (n := 7) rfl rfl rfl (inA_of h.1)) ?_
      have h := And.right h
      refine WP.cal (y' := 64) (as := [vr 8 0, vi (I 42 0 l2.toNatClampNeg)]) (L' := [vr 9 0, vi l1, vi l2]) (rest := []) rfl (fun f r h' hf => callV_ok hf rfl rfl rfl) h ?_
      rintro _ _ ⟨x4, I5, J6, rfl, rfl, h⟩
      refine WP.if_ne (t := 42) (L' := [vr 9 0, vi l1, vi l2]) rfl rfl rfl rfl h (fun h => ?_) (fun h => ?_)
      · refine WP.blk (pc' := 10) (L' := [vr 9 0, vi l1, vi (l2 + 1)]) (st' := []) (h' := (101, I5, J6, R0 b)) 2 rfl ?_
        exact WP.mask rfl rfl h
      · refine WP.blk (pc' := 55) (L' := [vr 9 0, vn, vn]) (st' := [vi (I5 8 0 10)]) (h' := (101, I5, J6, R0 b)) 4 rfl ?_
        exact WP.ret rfl rfl h
set_option maxRecDepth 20000 in
theorem t_X9_soonestDone {D : Nat}  (I : IM) (J : JM) (b : Bool) {Q : Option AV → AH → Prop} (h : (Call D 38 [vr 5 0] (101, I, J, R0 b) (RVf b fun I2 J3 => (Call D 40 [vr 5 0, vi 2, vi 1000000] (101, I2, J3, R0 b) (RVf b fun I5 J6 => (if (I5 5 0 7) ≤ 0 then Q (some (vi (-2000000000))) (101, I5, J6, R0 b) else Q (some (vi (I5 5 0 8))) (101, I5, J6, R0 b))))))) : Call (D + 1) 132 [vr 9 0] (101, I, J, R0 b) Q := by
  refine Call.of rfl ?_
  show WP D 132 0 [vr 9 0] [] (101, I, J, R0 b) Q
  refine WP.blk (pc' := 4) (L' := [vr 9 0]) (st' := [vr 5 0]) (h' := (101, I, J, R0 b)) 2 rfl ?_
  refine WP.cal (y' := 38) (as := [vr 5 0]) (L' := [vr 9 0]) (rest := []) rfl (fun f r h' hf => callV_ok hf rfl rfl rfl) h ?_
  rintro _ _ ⟨I2, J3, rfl, rfl, h⟩
  refine WP.blk (pc' := 14) (L' := [vr 9 0]) (st' := [vi 1000000, vi 2, vr 5 0]) (h' := (101, I2, J3, R0 b)) 4 rfl ?_
  refine WP.cal (y' := 40) (as := [vr 5 0, vi 2, vi 1000000]) (L' := [vr 9 0]) (rest := []) rfl (fun f r h' hf => callV_ok hf rfl rfl rfl) h ?_
  rintro _ _ ⟨I5, J6, rfl, rfl, h⟩
  refine WP.blk (pc' := 24) (L' := [vr 9 0]) (st' := [vi (I5 5 0 7)]) (h' := (101, I5, J6, R0 b)) 3 rfl ?_
  refine WP.if_le (t := 37) (L' := [vr 9 0]) rfl rfl rfl rfl h (fun h => ?_) (fun h => ?_)
  · refine WP.blk (pc' := 39) (L' := [vr 9 0]) (st' := [vi (-2000000000)]) (h' := (101, I5, J6, R0 b)) 1 rfl ?_
    exact WP.ret rfl rfl h
  · refine WP.blk (pc' := 39) (L' := [vr 9 0]) (st' := [vi (I5 5 0 8)]) (h' := (101, I5, J6, R0 b)) 4 rfl ?_
    exact WP.ret rfl rfl h
set_option maxRecDepth 20000 in
theorem t_X9_drawChair {D : Nat} (l1 : Int32) (I : IM) (J : JM) (b : Bool) {Q : Option AV → AH → Prop} (h : (Call D 60 [vr 8 0, vi 0] (101, I, J, R0 b) (RVf b fun I2 J3 => WP D 133 12 [vr 9 0, vn, vi l1, vi 0, vn, vn] [] (101, I2, J3, R0 b) Q))) : Call (D + 1) 133 [vr 9 0, vi l1] (101, I, J, R0 b) Q := by
  refine Call.of rfl ?_
  show WP D 133 0 [vr 9 0, vi l1, vn, vn, vn, vn] [] (101, I, J, R0 b) Q
  refine WP.blk (pc' := 7) (L' := [vr 9 0, vi l1, vi l1, vn, vn, vn]) (st' := [vi 0, vr 8 0]) (h' := (101, I, J, R0 b)) 5 rfl ?_
  refine WP.cal (y' := 60) (as := [vr 8 0, vi 0]) (L' := [vr 9 0, vi l1, vi l1, vn, vn, vn]) (rest := []) rfl (fun f r h' hf => callV_ok hf rfl rfl rfl) h ?_
  rintro _ _ ⟨I2, J3, rfl, rfl, h⟩
  refine WP.blk (pc' := 12) (L' := [vr 9 0, vi l1, vi l1, vi 0, vn, vn]) (st' := []) (h' := (101, I2, J3, R0 b)) 2 rfl ?_
  exact WP.mask rfl rfl h
set_option maxRecDepth 20000 in
theorem t_X9_drawChair_12 {D : Nat} (l2 : Int32) (l3 : Int32) (I : IM) (J : JM) (b : Bool) {Q : Option AV → AH → Prop} (h : (if (I 9 0 11) ≤ l3 then Q (some (vi l2)) (101, I, J, R0 b) else (vp_in l3 7 ∧ (Call D 65 [vr 8 0, vi (I 42 0 l3.toNatClampNeg)] (101, I, J, R0 b) (RIf b fun x4 I5 J6 => (if 0 ≤ x4 then (vp_in l3 7 ∧ (Call D 11 [vr 1 0, vi (I5 42 0 l3.toNatClampNeg), vi 0] (101, I5, J6, R0 b) (RIf b fun x7 I8 J9 => (Call D 12 [vr 1 0, vi 10] (101, I8, J9, R0 b) (RIf b fun x10 I11 J12 => (if x10 ≤ ((Int32.toUInt32 ((l2 * (1103515245 : Int32)) + (12345 : Int32)) >>> (Int32.toUInt32 (8 : Int32) &&& Int32.toUInt32 31)).toInt32 - (Int32.toUInt32 ((l2 * (1103515245 : Int32)) + (12345 : Int32)) >>> (Int32.toUInt32 (8 : Int32) &&& Int32.toUInt32 31)).toInt32 / (12 : Int32) * (12 : Int32)) then (vp_in l3 7 ∧ (Call D 66 [vr 8 0, vi (I11 42 0 l3.toNatClampNeg), vi x4, vi x7] (101, I11, J12, R0 b) (RIf b fun x13 I14 J15 => (if ¬ x13 = 0 then WP D 133 12 [vr 9 0, vn, vi ((l2 * (1103515245 : Int32)) + (12345 : Int32)), vi (l3 + 1), vn, vn] [] (101, I14, J15, R0 b) Q else Q (some (vi ((l2 * (1103515245 : Int32)) + (12345 : Int32)))) (101, I14, J15, R0 b))))) else (vp_in l3 7 ∧ (Call D 66 [vr 8 0, vi (I11 42 0 l3.toNatClampNeg), vi x4, vi (x7 * (2 : Int32))] (101, I11, J12, R0 b) (RIf b fun x16 I17 J18 => (if ¬ x16 = 0 then WP D 133 12 [vr 9 0, vn, vi ((l2 * (1103515245 : Int32)) + (12345 : Int32)), vi (l3 + 1), vn, vn] [] (101, I17, J18, R0 b) Q else Q (some (vi ((l2 * (1103515245 : Int32)) + (12345 : Int32)))) (101, I17, J18, R0 b))))))))))) else Q (some (vi l2)) (101, I5, J6, R0 b))))))) : WP D 133 12 [vr 9 0, vn, vi l2, vi l3, vn, vn] [] (101, I, J, R0 b) Q := by
  refine WP.blk (pc' := 17) (L' := [vr 9 0, vn, vi l2, vi l3, vn, vn]) (st' := [vi (I 9 0 11), vi l3]) (h' := (101, I, J, R0 b)) 3 rfl ?_
  refine WP.icmp_ge (t := 123) (L' := [vr 9 0, vn, vi l2, vi l3, vn, vn]) rfl rfl rfl rfl h (fun h => ?_) (fun h => ?_)
  · refine WP.blk (pc' := 124) (L' := [vn, vn, vi l2, vn, vn, vn]) (st' := [vi l2]) (h' := (101, I, J, R0 b)) 1 rfl ?_
    exact WP.ret rfl rfl h
  · refine WP.blk (pc' := 29) (L' := [vr 9 0, vn, vi l2, vi l3, vn, vn]) (st' := [vi l3, vr 42 0, vr 8 0]) (h' := (101, I, J, R0 b)) 5 rfl ?_
    refine WP.step (pc' := 30) (L' := [vr 9 0, vn, vi l2, vi l3, vn, vn]) (st' := [vi (I 42 0 l3.toNatClampNeg), vr 8 0]) (h' := (101, I, J, R0 b)) rfl (iaload_ok (n := 7) rfl rfl rfl (inA_of h.1)) ?_
    have h := And.right h
    refine WP.cal (y' := 65) (as := [vr 8 0, vi (I 42 0 l3.toNatClampNeg)]) (L' := [vr 9 0, vn, vi l2, vi l3, vn, vn]) (rest := []) rfl (fun f r h' hf => callV_ok hf rfl rfl rfl) h ?_
    rintro _ _ ⟨x4, I5, J6, rfl, rfl, h⟩
    refine WP.blk (pc' := 37) (L' := [vr 9 0, vn, vi l2, vi l3, vi x4, vn]) (st' := [vi x4]) (h' := (101, I5, J6, R0 b)) 2 rfl ?_
    refine WP.if_ge (t := 43) (L' := [vr 9 0, vn, vi l2, vi l3, vi x4, vn]) rfl rfl rfl rfl h (fun h => ?_) (fun h => ?_)
    · refine WP.blk (pc' := 62) (L' := [vr 9 0, vn, vi ((l2 * (1103515245 : Int32)) + (12345 : Int32)), vi l3, vi x4, vn]) (st' := [vi l3, vr 42 0, vr 1 0]) (h' := (101, I5, J6, R0 b)) 11 rfl ?_
      refine WP.step (pc' := 63) (L' := [vr 9 0, vn, vi ((l2 * (1103515245 : Int32)) + (12345 : Int32)), vi l3, vi x4, vn]) (st' := [vi (I5 42 0 l3.toNatClampNeg), vr 1 0]) (h' := (101, I5, J6, R0 b)) rfl (iaload_ok (n := 7) rfl rfl rfl (inA_of h.1)) ?_
      have h := And.right h
      refine WP.blk (pc' := 64) (L' := [vr 9 0, vn, vi ((l2 * (1103515245 : Int32)) + (12345 : Int32)), vi l3, vi x4, vn]) (st' := [vi 0, vi (I5 42 0 l3.toNatClampNeg), vr 1 0]) (h' := (101, I5, J6, R0 b)) 1 rfl ?_
      refine WP.cal (y' := 11) (as := [vr 1 0, vi (I5 42 0 l3.toNatClampNeg), vi 0]) (L' := [vr 9 0, vn, vi ((l2 * (1103515245 : Int32)) + (12345 : Int32)), vi l3, vi x4, vn]) (rest := []) rfl (fun f r h' hf => callV_ok hf rfl rfl rfl) h ?_
      rintro _ _ ⟨x7, I8, J9, rfl, rfl, h⟩
      refine WP.blk (pc' := 82) (L' := [vr 9 0, vn, vi ((l2 * (1103515245 : Int32)) + (12345 : Int32)), vi l3, vi x4, vi x7]) (st' := [vi 10, vr 1 0, vi ((Int32.toUInt32 ((l2 * (1103515245 : Int32)) + (12345 : Int32)) >>> (Int32.toUInt32 (8 : Int32) &&& Int32.toUInt32 31)).toInt32 - (Int32.toUInt32 ((l2 * (1103515245 : Int32)) + (12345 : Int32)) >>> (Int32.toUInt32 (8 : Int32) &&& Int32.toUInt32 31)).toInt32 / (12 : Int32) * (12 : Int32))]) (h' := (101, I8, J9, R0 b)) 9 rfl ?_
      refine WP.cal (y' := 12) (as := [vr 1 0, vi 10]) (L' := [vr 9 0, vn, vi ((l2 * (1103515245 : Int32)) + (12345 : Int32)), vi l3, vi x4, vi x7]) (rest := [vi ((Int32.toUInt32 ((l2 * (1103515245 : Int32)) + (12345 : Int32)) >>> (Int32.toUInt32 (8 : Int32) &&& Int32.toUInt32 31)).toInt32 - (Int32.toUInt32 ((l2 * (1103515245 : Int32)) + (12345 : Int32)) >>> (Int32.toUInt32 (8 : Int32) &&& Int32.toUInt32 31)).toInt32 / (12 : Int32) * (12 : Int32))]) rfl (fun f r h' hf => callV_ok hf rfl rfl rfl) h ?_
      rintro _ _ ⟨x10, I11, J12, rfl, rfl, h⟩
      refine WP.icmp_ge (t := 94) (L' := [vr 9 0, vn, vi ((l2 * (1103515245 : Int32)) + (12345 : Int32)), vi l3, vi x4, vi x7]) rfl rfl rfl rfl h (fun h => ?_) (fun h => ?_)
      · refine WP.blk (pc' := 103) (L' := [vr 9 0, vn, vi ((l2 * (1103515245 : Int32)) + (12345 : Int32)), vi l3, vi x4, vi x7]) (st' := [vi l3, vr 42 0, vr 8 0]) (h' := (101, I11, J12, R0 b)) 5 rfl ?_
        refine WP.step (pc' := 104) (L' := [vr 9 0, vn, vi ((l2 * (1103515245 : Int32)) + (12345 : Int32)), vi l3, vi x4, vi x7]) (st' := [vi (I11 42 0 l3.toNatClampNeg), vr 8 0]) (h' := (101, I11, J12, R0 b)) rfl (iaload_ok (n := 7) rfl rfl rfl (inA_of h.1)) ?_
        have h := And.right h
        refine WP.blk (pc' := 108) (L' := [vr 9 0, vn, vi ((l2 * (1103515245 : Int32)) + (12345 : Int32)), vi l3, vi x4, vi x7]) (st' := [vi x7, vi x4, vi (I11 42 0 l3.toNatClampNeg), vr 8 0]) (h' := (101, I11, J12, R0 b)) 2 rfl ?_
        refine WP.cal (y' := 66) (as := [vr 8 0, vi (I11 42 0 l3.toNatClampNeg), vi x4, vi x7]) (L' := [vr 9 0, vn, vi ((l2 * (1103515245 : Int32)) + (12345 : Int32)), vi l3, vi x4, vi x7]) (rest := []) rfl (fun f r h' hf => callV_ok hf rfl rfl rfl) h ?_
        rintro _ _ ⟨x13, I14, J15, rfl, rfl, h⟩
        refine WP.if_ne (t := 117) (L' := [vr 9 0, vn, vi ((l2 * (1103515245 : Int32)) + (12345 : Int32)), vi l3, vi x4, vi x7]) rfl rfl rfl rfl h (fun h => ?_) (fun h => ?_)
        · refine WP.blk (pc' := 12) (L' := [vr 9 0, vn, vi ((l2 * (1103515245 : Int32)) + (12345 : Int32)), vi (l3 + 1), vi x4, vi x7]) (st' := []) (h' := (101, I14, J15, R0 b)) 2 rfl ?_
          exact WP.mask rfl rfl h
        · refine WP.blk (pc' := 124) (L' := [vn, vn, vi ((l2 * (1103515245 : Int32)) + (12345 : Int32)), vn, vn, vn]) (st' := [vi ((l2 * (1103515245 : Int32)) + (12345 : Int32))]) (h' := (101, I14, J15, R0 b)) 2 rfl ?_
          exact WP.ret rfl rfl h
      · refine WP.blk (pc' := 103) (L' := [vr 9 0, vn, vi ((l2 * (1103515245 : Int32)) + (12345 : Int32)), vi l3, vi x4, vi (x7 * (2 : Int32))]) (st' := [vi l3, vr 42 0, vr 8 0]) (h' := (101, I11, J12, R0 b)) 9 rfl ?_
        refine WP.step (pc' := 104) (L' := [vr 9 0, vn, vi ((l2 * (1103515245 : Int32)) + (12345 : Int32)), vi l3, vi x4, vi (x7 * (2 : Int32))]) (st' := [vi (I11 42 0 l3.toNatClampNeg), vr 8 0]) (h' := (101, I11, J12, R0 b)) rfl (iaload_ok (n := 7) rfl rfl rfl (inA_of h.1)) ?_
        have h := And.right h
        refine WP.blk (pc' := 108) (L' := [vr 9 0, vn, vi ((l2 * (1103515245 : Int32)) + (12345 : Int32)), vi l3, vi x4, vi (x7 * (2 : Int32))]) (st' := [vi (x7 * (2 : Int32)), vi x4, vi (I11 42 0 l3.toNatClampNeg), vr 8 0]) (h' := (101, I11, J12, R0 b)) 2 rfl ?_
        refine WP.cal (y' := 66) (as := [vr 8 0, vi (I11 42 0 l3.toNatClampNeg), vi x4, vi (x7 * (2 : Int32))]) (L' := [vr 9 0, vn, vi ((l2 * (1103515245 : Int32)) + (12345 : Int32)), vi l3, vi x4, vi (x7 * (2 : Int32))]) (rest := []) rfl (fun f r h' hf => callV_ok hf rfl rfl rfl) h ?_
        rintro _ _ ⟨x16, I17, J18, rfl, rfl, h⟩
        refine WP.if_ne (t := 117) (L' := [vr 9 0, vn, vi ((l2 * (1103515245 : Int32)) + (12345 : Int32)), vi l3, vi x4, vi (x7 * (2 : Int32))]) rfl rfl rfl rfl h (fun h => ?_) (fun h => ?_)
        · refine WP.blk (pc' := 12) (L' := [vr 9 0, vn, vi ((l2 * (1103515245 : Int32)) + (12345 : Int32)), vi (l3 + 1), vi x4, vi (x7 * (2 : Int32))]) (st' := []) (h' := (101, I17, J18, R0 b)) 2 rfl ?_
          exact WP.mask rfl rfl h
        · refine WP.blk (pc' := 124) (L' := [vn, vn, vi ((l2 * (1103515245 : Int32)) + (12345 : Int32)), vn, vn, vn]) (st' := [vi ((l2 * (1103515245 : Int32)) + (12345 : Int32))]) (h' := (101, I17, J18, R0 b)) 2 rfl ?_
          exact WP.ret rfl rfl h
    · refine WP.blk (pc' := 124) (L' := [vn, vn, vi l2, vn, vn, vn]) (st' := [vi l2]) (h' := (101, I5, J6, R0 b)) 2 rfl ?_
      exact WP.ret rfl rfl h
