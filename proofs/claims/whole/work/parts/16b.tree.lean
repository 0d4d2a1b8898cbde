/-! TREES, by program (wip/whole/gen16.py): what each method does between its cuts -/
set_option maxRecDepth 20000 in
theorem t_X8_clear {D : Nat} (w : Nat) (l1 : Int32) (I : IM) (J : JM) (b : Bool) {Q : Option AV → AH → Prop} (h : Q none (101, (updI (updI (updI (updI I 8 w 9 0) 8 w 10 0) 8 w 11 0) 8 w 12 l1), J, R0 b)) : Call (D + 1) 60 [vr 8 w, vi l1] (101, I, J, R0 b) Q := by
  refine Call.of rfl ?_
  show WP D 60 0 [vr 8 w, vi l1] [] (101, I, J, R0 b) Q
  refine WP.blk (pc' := 20) (L' := [vr 8 w, vi l1]) (st' := []) (h' := (101, (updI (updI (updI (updI I 8 w 9 0) 8 w 10 0) 8 w 11 0) 8 w 12 l1), J, R0 b)) 12 rfl ?_
  exact WP.ret rfl rfl h
set_option maxRecDepth 20000 in
theorem t_X8_nextChair {D : Nat} (w : Nat) (I : IM) (J : JM) (b : Bool) {Q : Option AV → AH → Prop} (h : Q none (101, (updI (updI I 8 w 9 (I 8 w 10)) 8 w 11 0), J, R0 b)) : Call (D + 1) 61 [vr 8 w] (101, I, J, R0 b) Q := by
  refine Call.of rfl ?_
  show WP D 61 0 [vr 8 w] [] (101, I, J, R0 b) Q
  refine WP.blk (pc' := 13) (L' := [vr 8 w]) (st' := []) (h' := (101, (updI (updI I 8 w 9 (I 8 w 10)) 8 w 11 0), J, R0 b)) 7 rfl ?_
  exact WP.ret rfl rfl h
set_option maxRecDepth 20000 in
theorem t_X8_copyFrom {D : Nat} (w : Nat) (w1 : Nat) (I : IM) (J : JM) (b : Bool) {Q : Option AV → AH → Prop} (h : ((¬ (0 : Int32) < 0 ∧ ¬ (0 : Int32) < 0 ∧ ¬ (if (I 8 w1 10) < (I 8 w 2) then (I 8 w1 10) else (I 8 w 2)) < 0 ∧ 0 + (if (I 8 w1 10) < (I 8 w 2) then (I 8 w1 10) else (I 8 w 2)).toNatClampNeg ≤ (LENf 30 w1) ∧ 0 + (if (I 8 w1 10) < (I 8 w 2) then (I 8 w1 10) else (I 8 w 2)).toNatClampNeg ≤ (LENf 30 w)) ∧ ((¬ (0 : Int32) < 0 ∧ ¬ (0 : Int32) < 0 ∧ ¬ (if (I 8 w1 10) < (I 8 w 2) then (I 8 w1 10) else (I 8 w 2)) < 0 ∧ 0 + (if (I 8 w1 10) < (I 8 w 2) then (I 8 w1 10) else (I 8 w 2)).toNatClampNeg ≤ (LENf 31 w1) ∧ 0 + (if (I 8 w1 10) < (I 8 w 2) then (I 8 w1 10) else (I 8 w 2)).toNatClampNeg ≤ (LENf 31 w)) ∧ ((¬ (0 : Int32) < 0 ∧ ¬ (0 : Int32) < 0 ∧ ¬ (if (I 8 w1 10) < (I 8 w 2) then (I 8 w1 10) else (I 8 w 2)) < 0 ∧ 0 + (if (I 8 w1 10) < (I 8 w 2) then (I 8 w1 10) else (I 8 w 2)).toNatClampNeg ≤ (LENf 32 w1) ∧ 0 + (if (I 8 w1 10) < (I 8 w 2) then (I 8 w1 10) else (I 8 w 2)).toNatClampNeg ≤ (LENf 32 w)) ∧ ((¬ (0 : Int32) < 0 ∧ ¬ (0 : Int32) < 0 ∧ ¬ (if (I 8 w1 10) < (I 8 w 2) then (I 8 w1 10) else (I 8 w 2)) < 0 ∧ 0 + (if (I 8 w1 10) < (I 8 w 2) then (I 8 w1 10) else (I 8 w 2)).toNatClampNeg ≤ (LENf 33 w1) ∧ 0 + (if (I 8 w1 10) < (I 8 w 2) then (I 8 w1 10) else (I 8 w 2)).toNatClampNeg ≤ (LENf 33 w)) ∧ ((¬ (0 : Int32) < 0 ∧ ¬ (0 : Int32) < 0 ∧ ¬ (if (I 8 w1 10) < (I 8 w 2) then (I 8 w1 10) else (I 8 w 2)) < 0 ∧ 0 + (if (I 8 w1 10) < (I 8 w 2) then (I 8 w1 10) else (I 8 w 2)).toNatClampNeg ≤ (LENf 34 w1) ∧ 0 + (if (I 8 w1 10) < (I 8 w 2) then (I 8 w1 10) else (I 8 w 2)).toNatClampNeg ≤ (LENf 34 w)) ∧ ((¬ (0 : Int32) < 0 ∧ ¬ (0 : Int32) < 0 ∧ ¬ (if (I 8 w1 10) < (I 8 w 2) then (I 8 w1 10) else (I 8 w 2)) < 0 ∧ 0 + (if (I 8 w1 10) < (I 8 w 2) then (I 8 w1 10) else (I 8 w 2)).toNatClampNeg ≤ (LENf 35 w1) ∧ 0 + (if (I 8 w1 10) < (I 8 w 2) then (I 8 w1 10) else (I 8 w 2)).toNatClampNeg ≤ (LENf 35 w)) ∧ Q none (101, (updI (updI (updI (updI (cpyI (cpyI (cpyI (cpyI (cpyI (cpyI I 30 w1 30 w 0 0 (if (I 8 w1 10) < (I 8 w 2) then (I 8 w1 10) else (I 8 w 2)).toNatClampNeg) 31 w1 31 w 0 0 (if (I 8 w1 10) < (I 8 w 2) then (I 8 w1 10) else (I 8 w 2)).toNatClampNeg) 32 w1 32 w 0 0 (if (I 8 w1 10) < (I 8 w 2) then (I 8 w1 10) else (I 8 w 2)).toNatClampNeg) 33 w1 33 w 0 0 (if (I 8 w1 10) < (I 8 w 2) then (I 8 w1 10) else (I 8 w 2)).toNatClampNeg) 34 w1 34 w 0 0 (if (I 8 w1 10) < (I 8 w 2) then (I 8 w1 10) else (I 8 w 2)).toNatClampNeg) 35 w1 35 w 0 0 (if (I 8 w1 10) < (I 8 w 2) then (I 8 w1 10) else (I 8 w 2)).toNatClampNeg) 8 w 9 (I 8 w1 9)) 8 w 10 (if (I 8 w1 10) < (I 8 w 2) then (I 8 w1 10) else (I 8 w 2))) 8 w 11 (I 8 w1 11)) 8 w 12 (I 8 w1 12)), J, R0 b)))))))) : Call (D + 1) 62 [vr 8 w, vr 8 w1] (101, I, J, R0 b) Q := by
  refine Call.of rfl ?_
  show WP D 62 0 [vr 8 w, vr 8 w1, vn] [] (101, I, J, R0 b) Q
  refine WP.blk (pc' := 23) (L' := [vr 8 w, vr 8 w1, vi (if (I 8 w1 10) < (I 8 w 2) then (I 8 w1 10) else (I 8 w 2))]) (st' := [vi (if (I 8 w1 10) < (I 8 w 2) then (I 8 w1 10) else (I 8 w 2)), vi 0, vr 30 w, vi 0, vr 30 w1]) (h' := (101, I, J, R0 b)) 13 rfl ?_
  refine WP.step (pc' := 26) (L' := [vr 8 w, vr 8 w1, vi (if (I 8 w1 10) < (I 8 w 2) then (I 8 w1 10) else (I 8 w 2))]) (st' := []) (h' := (101, (cpyI I 30 w1 30 w 0 0 (if (I 8 w1 10) < (I 8 w 2) then (I 8 w1 10) else (I 8 w 2)).toNatClampNeg), J, R0 b)) rfl (copyI_ok (y := 62) (sp := (0 : Int32)) (dp := (0 : Int32)) (n := (if (I 8 w1 10) < (I 8 w 2) then (I 8 w1 10) else (I 8 w 2))) rfl rfl rfl rfl rfl rfl h.1) ?_
  have h := And.right h
  refine WP.blk (pc' := 37) (L' := [vr 8 w, vr 8 w1, vi (if (I 8 w1 10) < (I 8 w 2) then (I 8 w1 10) else (I 8 w 2))]) (st' := [vi (if (I 8 w1 10) < (I 8 w 2) then (I 8 w1 10) else (I 8 w 2)), vi 0, vr 31 w, vi 0, vr 31 w1]) (h' := (101, (cpyI I 30 w1 30 w 0 0 (if (I 8 w1 10) < (I 8 w 2) then (I 8 w1 10) else (I 8 w 2)).toNatClampNeg), J, R0 b)) 7 rfl ?_
  refine WP.step (pc' := 40) (L' := [vr 8 w, vr 8 w1, vi (if (I 8 w1 10) < (I 8 w 2) then (I 8 w1 10) else (I 8 w 2))]) (st' := []) (h' := (101, (cpyI (cpyI I 30 w1 30 w 0 0 (if (I 8 w1 10) < (I 8 w 2) then (I 8 w1 10) else (I 8 w 2)).toNatClampNeg) 31 w1 31 w 0 0 (if (I 8 w1 10) < (I 8 w 2) then (I 8 w1 10) else (I 8 w 2)).toNatClampNeg), J, R0 b)) rfl (copyI_ok (y := 62) (sp := (0 : Int32)) (dp := (0 : Int32)) (n := (if (I 8 w1 10) < (I 8 w 2) then (I 8 w1 10) else (I 8 w 2))) rfl rfl rfl rfl rfl rfl h.1) ?_
  have h := And.right h
  refine WP.blk (pc' := 51) (L' := [vr 8 w, vr 8 w1, vi (if (I 8 w1 10) < (I 8 w 2) then (I 8 w1 10) else (I 8 w 2))]) (st' := [vi (if (I 8 w1 10) < (I 8 w 2) then (I 8 w1 10) else (I 8 w 2)), vi 0, vr 32 w, vi 0, vr 32 w1]) (h' := (101, (cpyI (cpyI I 30 w1 30 w 0 0 (if (I 8 w1 10) < (I 8 w 2) then (I 8 w1 10) else (I 8 w 2)).toNatClampNeg) 31 w1 31 w 0 0 (if (I 8 w1 10) < (I 8 w 2) then (I 8 w1 10) else (I 8 w 2)).toNatClampNeg), J, R0 b)) 7 rfl ?_
  refine WP.step (pc' := 54) (L' := [vr 8 w, vr 8 w1, vi (if (I 8 w1 10) < (I 8 w 2) then (I 8 w1 10) else (I 8 w 2))]) (st' := []) (h' := (101, (cpyI (cpyI (cpyI I 30 w1 30 w 0 0 (if (I 8 w1 10) < (I 8 w 2) then (I 8 w1 10) else (I 8 w 2)).toNatClampNeg) 31 w1 31 w 0 0 (if (I 8 w1 10) < (I 8 w 2) then (I 8 w1 10) else (I 8 w 2)).toNatClampNeg) 32 w1 32 w 0 0 (if (I 8 w1 10) < (I 8 w 2) then (I 8 w1 10) else (I 8 w 2)).toNatClampNeg), J, R0 b)) rfl (copyI_ok (y := 62) (sp := (0 : Int32)) (dp := (0 : Int32)) (n := (if (I 8 w1 10) < (I 8 w 2) then (I 8 w1 10) else (I 8 w 2))) rfl rfl rfl rfl rfl rfl h.1) ?_
  have h := And.right h
  refine WP.blk (pc' := 65) (L' := [vr 8 w, vr 8 w1, vi (if (I 8 w1 10) < (I 8 w 2) then (I 8 w1 10) else (I 8 w 2))]) (st' := [vi (if (I 8 w1 10) < (I 8 w 2) then (I 8 w1 10) else (I 8 w 2)), vi 0, vr 33 w, vi 0, vr 33 w1]) (h' := (101, (cpyI (cpyI (cpyI I 30 w1 30 w 0 0 (if (I 8 w1 10) < (I 8 w 2) then (I 8 w1 10) else (I 8 w 2)).toNatClampNeg) 31 w1 31 w 0 0 (if (I 8 w1 10) < (I 8 w 2) then (I 8 w1 10) else (I 8 w 2)).toNatClampNeg) 32 w1 32 w 0 0 (if (I 8 w1 10) < (I 8 w 2) then (I 8 w1 10) else (I 8 w 2)).toNatClampNeg), J, R0 b)) 7 rfl ?_
  refine WP.step (pc' := 68) (L' := [vr 8 w, vr 8 w1, vi (if (I 8 w1 10) < (I 8 w 2) then (I 8 w1 10) else (I 8 w 2))]) (st' := []) (h' := (101, (cpyI (cpyI (cpyI (cpyI I 30 w1 30 w 0 0 (if (I 8 w1 10) < (I 8 w 2) then (I 8 w1 10) else (I 8 w 2)).toNatClampNeg) 31 w1 31 w 0 0 (if (I 8 w1 10) < (I 8 w 2) then (I 8 w1 10) else (I 8 w 2)).toNatClampNeg) 32 w1 32 w 0 0 (if (I 8 w1 10) < (I 8 w 2) then (I 8 w1 10) else (I 8 w 2)).toNatClampNeg) 33 w1 33 w 0 0 (if (I 8 w1 10) < (I 8 w 2) then (I 8 w1 10) else (I 8 w 2)).toNatClampNeg), J, R0 b)) rfl (copyI_ok (y := 62) (sp := (0 : Int32)) (dp := (0 : Int32)) (n := (if (I 8 w1 10) < (I 8 w 2) then (I 8 w1 10) else (I 8 w 2))) rfl rfl rfl rfl rfl rfl h.1) ?_
  have h := And.right h
  refine WP.blk (pc' := 79) (L' := [vr 8 w, vr 8 w1, vi (if (I 8 w1 10) < (I 8 w 2) then (I 8 w1 10) else (I 8 w 2))]) (st' := [vi (if (I 8 w1 10) < (I 8 w 2) then (I 8 w1 10) else (I 8 w 2)), vi 0, vr 34 w, vi 0, vr 34 w1]) (h' := (101, (cpyI (cpyI (cpyI (cpyI I 30 w1 30 w 0 0 (if (I 8 w1 10) < (I 8 w 2) then (I 8 w1 10) else (I 8 w 2)).toNatClampNeg) 31 w1 31 w 0 0 (if (I 8 w1 10) < (I 8 w 2) then (I 8 w1 10) else (I 8 w 2)).toNatClampNeg) 32 w1 32 w 0 0 (if (I 8 w1 10) < (I 8 w 2) then (I 8 w1 10) else (I 8 w 2)).toNatClampNeg) 33 w1 33 w 0 0 (if (I 8 w1 10) < (I 8 w 2) then (I 8 w1 10) else (I 8 w 2)).toNatClampNeg), J, R0 b)) 7 rfl ?_
  refine WP.step (pc' := 82) (L' := [vr 8 w, vr 8 w1, vi (if (I 8 w1 10) < (I 8 w 2) then (I 8 w1 10) else (I 8 w 2))]) (st' := []) (h' := (101, (cpyI (cpyI (cpyI (cpyI (cpyI I 30 w1 30 w 0 0 (if (I 8 w1 10) < (I 8 w 2) then (I 8 w1 10) else (I 8 w 2)).toNatClampNeg) 31 w1 31 w 0 0 (if (I 8 w1 10) < (I 8 w 2) then (I 8 w1 10) else (I 8 w 2)).toNatClampNeg) 32 w1 32 w 0 0 (if (I 8 w1 10) < (I 8 w 2) then (I 8 w1 10) else (I 8 w 2)).toNatClampNeg) 33 w1 33 w 0 0 (if (I 8 w1 10) < (I 8 w 2) then (I 8 w1 10) else (I 8 w 2)).toNatClampNeg) 34 w1 34 w 0 0 (if (I 8 w1 10) < (I 8 w 2) then (I 8 w1 10) else (I 8 w 2)).toNatClampNeg), J, R0 b)) rfl (copyI_ok (y := 62) (sp := (0 : Int32)) (dp := (0 : Int32)) (n := (if (I 8 w1 10) < (I 8 w 2) then (I 8 w1 10) else (I 8 w 2))) rfl rfl rfl rfl rfl rfl h.1) ?_
  have h := And.right h
  refine WP.blk (pc' := 93) (L' := [vr 8 w, vr 8 w1, vi (if (I 8 w1 10) < (I 8 w 2) then (I 8 w1 10) else (I 8 w 2))]) (st' := [vi (if (I 8 w1 10) < (I 8 w 2) then (I 8 w1 10) else (I 8 w 2)), vi 0, vr 35 w, vi 0, vr 35 w1]) (h' := (101, (cpyI (cpyI (cpyI (cpyI (cpyI I 30 w1 30 w 0 0 (if (I 8 w1 10) < (I 8 w 2) then (I 8 w1 10) else (I 8 w 2)).toNatClampNeg) 31 w1 31 w 0 0 (if (I 8 w1 10) < (I 8 w 2) then (I 8 w1 10) else (I 8 w 2)).toNatClampNeg) 32 w1 32 w 0 0 (if (I 8 w1 10) < (I 8 w 2) then (I 8 w1 10) else (I 8 w 2)).toNatClampNeg) 33 w1 33 w 0 0 (if (I 8 w1 10) < (I 8 w 2) then (I 8 w1 10) else (I 8 w 2)).toNatClampNeg) 34 w1 34 w 0 0 (if (I 8 w1 10) < (I 8 w 2) then (I 8 w1 10) else (I 8 w 2)).toNatClampNeg), J, R0 b)) 7 rfl ?_
  refine WP.step (pc' := 96) (L' := [vr 8 w, vr 8 w1, vi (if (I 8 w1 10) < (I 8 w 2) then (I 8 w1 10) else (I 8 w 2))]) (st' := []) (h' := (101, (cpyI (cpyI (cpyI (cpyI (cpyI (cpyI I 30 w1 30 w 0 0 (if (I 8 w1 10) < (I 8 w 2) then (I 8 w1 10) else (I 8 w 2)).toNatClampNeg) 31 w1 31 w 0 0 (if (I 8 w1 10) < (I 8 w 2) then (I 8 w1 10) else (I 8 w 2)).toNatClampNeg) 32 w1 32 w 0 0 (if (I 8 w1 10) < (I 8 w 2) then (I 8 w1 10) else (I 8 w 2)).toNatClampNeg) 33 w1 33 w 0 0 (if (I 8 w1 10) < (I 8 w 2) then (I 8 w1 10) else (I 8 w 2)).toNatClampNeg) 34 w1 34 w 0 0 (if (I 8 w1 10) < (I 8 w 2) then (I 8 w1 10) else (I 8 w 2)).toNatClampNeg) 35 w1 35 w 0 0 (if (I 8 w1 10) < (I 8 w 2) then (I 8 w1 10) else (I 8 w 2)).toNatClampNeg), J, R0 b)) rfl (copyI_ok (y := 62) (sp := (0 : Int32)) (dp := (0 : Int32)) (n := (if (I 8 w1 10) < (I 8 w 2) then (I 8 w1 10) else (I 8 w 2))) rfl rfl rfl rfl rfl rfl h.1) ?_
  have h := And.right h
  refine WP.blk (pc' := 125) (L' := [vr 8 w, vr 8 w1, vi (if (I 8 w1 10) < (I 8 w 2) then (I 8 w1 10) else (I 8 w 2))]) (st' := []) (h' := (101, (updI (updI (updI (updI (cpyI (cpyI (cpyI (cpyI (cpyI (cpyI I 30 w1 30 w 0 0 (if (I 8 w1 10) < (I 8 w 2) then (I 8 w1 10) else (I 8 w 2)).toNatClampNeg) 31 w1 31 w 0 0 (if (I 8 w1 10) < (I 8 w 2) then (I 8 w1 10) else (I 8 w 2)).toNatClampNeg) 32 w1 32 w 0 0 (if (I 8 w1 10) < (I 8 w 2) then (I 8 w1 10) else (I 8 w 2)).toNatClampNeg) 33 w1 33 w 0 0 (if (I 8 w1 10) < (I 8 w 2) then (I 8 w1 10) else (I 8 w 2)).toNatClampNeg) 34 w1 34 w 0 0 (if (I 8 w1 10) < (I 8 w 2) then (I 8 w1 10) else (I 8 w 2)).toNatClampNeg) 35 w1 35 w 0 0 (if (I 8 w1 10) < (I 8 w 2) then (I 8 w1 10) else (I 8 w 2)).toNatClampNeg) 8 w 9 (I 8 w1 9)) 8 w 10 (if (I 8 w1 10) < (I 8 w 2) then (I 8 w1 10) else (I 8 w 2))) 8 w 11 (I 8 w1 11)) 8 w 12 (I 8 w1 12)), J, R0 b)) 15 rfl ?_
  exact WP.ret rfl rfl h
set_option maxRecDepth 20000 in
theorem t_X8_hasFitted {D : Nat} (w : Nat) (l1 : Int32) (I : IM) (J : JM) (b : Bool) {Q : Option AV → AH → Prop} (h : (if ¬ (((I 8 w 11) >>> (l1 &&& 31)) &&& (1 : Int32)) = (1 : Int32) then Q (some (vi 0)) (101, I, J, R0 b) else Q (some (vi 1)) (101, I, J, R0 b))) : Call (D + 1) 63 [vr 8 w, vi l1] (101, I, J, R0 b) Q := by
  refine Call.of rfl ?_
  show WP D 63 0 [vr 8 w, vi l1] [] (101, I, J, R0 b) Q
  refine WP.blk (pc' := 9) (L' := [vr 8 w, vi l1]) (st' := [vi 1, vi (((I 8 w 11) >>> (l1 &&& 31)) &&& (1 : Int32))]) (h' := (101, I, J, R0 b)) 7 rfl ?_
  refine WP.icmp_ne (t := 16) (L' := [vr 8 w, vi l1]) rfl rfl rfl rfl h (fun h => ?_) (fun h => ?_)
  · refine WP.blk (pc' := 17) (L' := [vr 8 w, vi l1]) (st' := [vi 0]) (h' := (101, I, J, R0 b)) 1 rfl ?_
    exact WP.ret rfl rfl h
  · refine WP.blk (pc' := 17) (L' := [vr 8 w, vi l1]) (st' := [vi 1]) (h' := (101, I, J, R0 b)) 2 rfl ?_
    exact WP.ret rfl rfl h
set_option maxRecDepth 20000 in
theorem t_X8_join {D : Nat} (w : Nat) (l1 : Int32) (I : IM) (J : JM) (b : Bool) {Q : Option AV → AH → Prop} (h : (Call D 65 [vr 8 w, vi l1] (101, I, J, R0 b) (RIf b fun x1 I2 J3 => (if x1 < 0 then Q (some (vi 0)) (101, I2, J3, R0 b) else (Call D 11 [vr 1 0, vi l1, vi 0] (101, I2, J3, R0 b) (RIf b fun x4 I5 J6 => (Call D 66 [vr 8 w, vi l1, vi x1, vi x4] (101, I5, J6, R0 b) (RIf b fun x7 I8 J9 => (if x7 = 0 then Q (some (vi 0)) (101, I8, J9, R0 b) else Q (some (vi 1)) (101, I8, J9, R0 b)))))))))) : Call (D + 1) 64 [vr 8 w, vi l1] (101, I, J, R0 b) Q := by
  refine Call.of rfl ?_
  show WP D 64 0 [vr 8 w, vi l1, vn] [] (101, I, J, R0 b) Q
  refine WP.blk (pc' := 2) (L' := [vr 8 w, vi l1, vn]) (st' := [vi l1, vr 8 w]) (h' := (101, I, J, R0 b)) 2 rfl ?_
  refine WP.cal (y' := 65) (as := [vr 8 w, vi l1]) (L' := [vr 8 w, vi l1, vn]) (rest := []) rfl (fun f r h' hf => callV_ok hf rfl rfl rfl) h ?_
  rintro _ _ ⟨x1, I2, J3, rfl, rfl, h⟩
  refine WP.blk (pc' := 7) (L' := [vr 8 w, vi l1, vi x1]) (st' := [vi x1]) (h' := (101, I2, J3, R0 b)) 2 rfl ?_
  refine WP.if_lt (t := 32) (L' := [vr 8 w, vi l1, vi x1]) rfl rfl rfl rfl h (fun h => ?_) (fun h => ?_)
  · refine WP.blk (pc' := 33) (L' := [vn, vn, vn]) (st' := [vi 0]) (h' := (101, I2, J3, R0 b)) 1 rfl ?_
    exact WP.ret rfl rfl h
  · refine WP.blk (pc' := 19) (L' := [vr 8 w, vi l1, vi x1]) (st' := [vi 0, vi l1, vr 1 0, vi x1, vi l1, vr 8 w]) (h' := (101, I2, J3, R0 b)) 7 rfl ?_
    refine WP.cal (y' := 11) (as := [vr 1 0, vi l1, vi 0]) (L' := [vr 8 w, vi l1, vi x1]) (rest := [vi x1, vi l1, vr 8 w]) rfl (fun f r h' hf => callV_ok hf rfl rfl rfl) h ?_
    rintro _ _ ⟨x4, I5, J6, rfl, rfl, h⟩
    refine WP.cal (y' := 66) (as := [vr 8 w, vi l1, vi x1, vi x4]) (L' := [vr 8 w, vi l1, vi x1]) (rest := []) rfl (fun f r h' hf => callV_ok hf rfl rfl rfl) h ?_
    rintro _ _ ⟨x7, I8, J9, rfl, rfl, h⟩
    refine WP.if_eq (t := 32) (L' := [vr 8 w, vi l1, vi x1]) rfl rfl rfl rfl h (fun h => ?_) (fun h => ?_)
    · refine WP.blk (pc' := 33) (L' := [vn, vn, vn]) (st' := [vi 0]) (h' := (101, I8, J9, R0 b)) 1 rfl ?_
      exact WP.ret rfl rfl h
    · refine WP.blk (pc' := 33) (L' := [vr 8 w, vi l1, vi x1]) (st' := [vi 1]) (h' := (101, I8, J9, R0 b)) 2 rfl ?_
      exact WP.ret rfl rfl h
set_option maxRecDepth 20000 in
theorem t_X8_beginning {D : Nat} (w : Nat) (l1 : Int32) (I : IM) (J : JM) (b : Bool) {Q : Option AV → AH → Prop} (h : (Call D 11 [vr 1 0, vi l1, vi 1] (101, I, J, R0 b) (RIf b fun x1 I2 J3 => (Call D 11 [vr 1 0, vi l1, vi 4] (101, I2, J3, R0 b) (RIf b fun x4 I5 J6 => (if ¬ (x4 &&& ((I5 8 w 11) ^^^ (-1 : Int32))) = 0 then Q (some (vi (-2))) (101, I5, J6, R0 b) else (if x1 ≤ (I5 7 0 3) then WP D 65 51 [vr 8 w, vi l1, vi x1, vi (I5 8 w 12), vi 0] [] (101, I5, J6, R0 b) Q else Q (some (vi (-2))) (101, I5, J6, R0 b)))))))) : Call (D + 1) 65 [vr 8 w, vi l1] (101, I, J, R0 b) Q := by
  refine Call.of rfl ?_
  show WP D 65 0 [vr 8 w, vi l1, vn, vn, vn] [] (101, I, J, R0 b) Q
  refine WP.blk (pc' := 6) (L' := [vr 8 w, vi l1, vn, vn, vn]) (st' := [vi 1, vi l1, vr 1 0]) (h' := (101, I, J, R0 b)) 4 rfl ?_
  refine WP.cal (y' := 11) (as := [vr 1 0, vi l1, vi 1]) (L' := [vr 8 w, vi l1, vn, vn, vn]) (rest := []) rfl (fun f r h' hf => callV_ok hf rfl rfl rfl) h ?_
  rintro _ _ ⟨x1, I2, J3, rfl, rfl, h⟩
  refine WP.blk (pc' := 16) (L' := [vr 8 w, vi l1, vi x1, vn, vn]) (st' := [vi 4, vi l1, vr 1 0]) (h' := (101, I2, J3, R0 b)) 5 rfl ?_
  refine WP.cal (y' := 11) (as := [vr 1 0, vi l1, vi 4]) (L' := [vr 8 w, vi l1, vi x1, vn, vn]) (rest := []) rfl (fun f r h' hf => callV_ok hf rfl rfl rfl) h ?_
  rintro _ _ ⟨x4, I5, J6, rfl, rfl, h⟩
  refine WP.blk (pc' := 26) (L' := [vr 8 w, vi l1, vi x1, vn, vn]) (st' := [vi (x4 &&& ((I5 8 w 11) ^^^ (-1 : Int32)))]) (h' := (101, I5, J6, R0 b)) 5 rfl ?_
  refine WP.if_ne (t := 40) (L' := [vr 8 w, vi l1, vi x1, vn, vn]) rfl rfl rfl rfl h (fun h => ?_) (fun h => ?_)
  · refine WP.blk (pc' := 42) (L' := [vn, vn, vn, vn, vn]) (st' := [vi (-2)]) (h' := (101, I5, J6, R0 b)) 1 rfl ?_
    exact WP.ret rfl rfl h
  · refine WP.blk (pc' := 37) (L' := [vr 8 w, vi l1, vi x1, vn, vn]) (st' := [vi (I5 7 0 3), vi x1]) (h' := (101, I5, J6, R0 b)) 4 rfl ?_
    refine WP.icmp_le (t := 43) (L' := [vr 8 w, vi l1, vi x1, vn, vn]) rfl rfl rfl rfl h (fun h => ?_) (fun h => ?_)
    · refine WP.blk (pc' := 51) (L' := [vr 8 w, vi l1, vi x1, vi (I5 8 w 12), vi 0]) (st' := []) (h' := (101, I5, J6, R0 b)) 5 rfl ?_
      exact WP.mask rfl rfl h
    · refine WP.blk (pc' := 42) (L' := [vn, vn, vn, vn, vn]) (st' := [vi (-2)]) (h' := (101, I5, J6, R0 b)) 1 rfl ?_
      exact WP.ret rfl rfl h
set_option maxRecDepth 20000 in
theorem t_X8_beginning_51 {D : Nat} (w : Nat) (l1 : Int32) (l2 : Int32) (l3 : Int32) (l4 : Int32) (I : IM) (J : JM) (b : Bool) {Q : Option AV → AH → Prop} (h : (if (I 8 w 10) < l4 then (Call D 72 [vr 8 w, vi l1, vi l3] (101, I, J, R0 b) (RIf b fun x7 I8 J9 => (if x7 = 0 then Q (some (vi l3)) (101, I8, J9, R0 b) else Q (some (vi (-2))) (101, I8, J9, R0 b)))) else (Call D 69 [vr 8 w, vi l3] (101, I, J, R0 b) (RIf b fun x10 I11 J12 => (if l2 ≤ x10 then (Call D 72 [vr 8 w, vi l1, vi l3] (101, I11, J12, R0 b) (RIf b fun x13 I14 J15 => (if x13 = 0 then Q (some (vi l3)) (101, I14, J15, R0 b) else Q (some (vi (-2))) (101, I14, J15, R0 b)))) else (Call D 71 [vr 8 w, vi l3] (101, I11, J12, R0 b) (RIf b fun x16 I17 J18 => (if x16 < (1000000 : Int32) then WP D 65 51 [vr 8 w, vi l1, vi l2, vi x16, vi (l4 + 1)] [] (101, I17, J18, R0 b) Q else Q (some (vi (-2))) (101, I17, J18, R0 b))))))))) : WP D 65 51 [vr 8 w, vi l1, vi l2, vi l3, vi l4] [] (101, I, J, R0 b) Q := by
  refine WP.blk (pc' := 57) (L' := [vr 8 w, vi l1, vi l2, vi l3, vi l4]) (st' := [vi (I 8 w 10), vi l4]) (h' := (101, I, J, R0 b)) 3 rfl ?_
  refine WP.icmp_gt (t := 90) (L' := [vr 8 w, vi l1, vi l2, vi l3, vi l4]) rfl rfl rfl rfl h (fun h => ?_) (fun h => ?_)
  · refine WP.blk (pc' := 93) (L' := [vr 8 w, vi l1, vn, vi l3, vn]) (st' := [vi l3, vi l1, vr 8 w]) (h' := (101, I, J, R0 b)) 3 rfl ?_
    refine WP.cal (y' := 72) (as := [vr 8 w, vi l1, vi l3]) (L' := [vr 8 w, vi l1, vn, vi l3, vn]) (rest := []) rfl (fun f r h' hf => callV_ok hf rfl rfl rfl) h ?_
    rintro _ _ ⟨x7, I8, J9, rfl, rfl, h⟩
    refine WP.if_eq (t := 104) (L' := [vr 8 w, vi l1, vn, vi l3, vn]) rfl rfl rfl rfl h (fun h => ?_) (fun h => ?_)
    · refine WP.blk (pc' := 105) (L' := [vr 8 w, vi l1, vn, vi l3, vn]) (st' := [vi l3]) (h' := (101, I8, J9, R0 b)) 1 rfl ?_
      exact WP.ret rfl rfl h
    · refine WP.blk (pc' := 105) (L' := [vr 8 w, vi l1, vn, vi l3, vn]) (st' := [vi (-2)]) (h' := (101, I8, J9, R0 b)) 2 rfl ?_
      exact WP.ret rfl rfl h
  · refine WP.blk (pc' := 62) (L' := [vr 8 w, vi l1, vi l2, vi l3, vi l4]) (st' := [vi l3, vr 8 w]) (h' := (101, I, J, R0 b)) 2 rfl ?_
    refine WP.cal (y' := 69) (as := [vr 8 w, vi l3]) (L' := [vr 8 w, vi l1, vi l2, vi l3, vi l4]) (rest := []) rfl (fun f r h' hf => callV_ok hf rfl rfl rfl) h ?_
    rintro _ _ ⟨x10, I11, J12, rfl, rfl, h⟩
    refine WP.blk (pc' := 66) (L' := [vr 8 w, vi l1, vi l2, vi l3, vi l4]) (st' := [vi l2, vi x10]) (h' := (101, I11, J12, R0 b)) 1 rfl ?_
    refine WP.icmp_ge (t := 90) (L' := [vr 8 w, vi l1, vi l2, vi l3, vi l4]) rfl rfl rfl rfl h (fun h => ?_) (fun h => ?_)
    · refine WP.blk (pc' := 93) (L' := [vr 8 w, vi l1, vn, vi l3, vn]) (st' := [vi l3, vi l1, vr 8 w]) (h' := (101, I11, J12, R0 b)) 3 rfl ?_
      refine WP.cal (y' := 72) (as := [vr 8 w, vi l1, vi l3]) (L' := [vr 8 w, vi l1, vn, vi l3, vn]) (rest := []) rfl (fun f r h' hf => callV_ok hf rfl rfl rfl) h ?_
      rintro _ _ ⟨x13, I14, J15, rfl, rfl, h⟩
      refine WP.if_eq (t := 104) (L' := [vr 8 w, vi l1, vn, vi l3, vn]) rfl rfl rfl rfl h (fun h => ?_) (fun h => ?_)
      · refine WP.blk (pc' := 105) (L' := [vr 8 w, vi l1, vn, vi l3, vn]) (st' := [vi l3]) (h' := (101, I14, J15, R0 b)) 1 rfl ?_
        exact WP.ret rfl rfl h
      · refine WP.blk (pc' := 105) (L' := [vr 8 w, vi l1, vn, vi l3, vn]) (st' := [vi (-2)]) (h' := (101, I14, J15, R0 b)) 2 rfl ?_
        exact WP.ret rfl rfl h
    · refine WP.blk (pc' := 71) (L' := [vr 8 w, vi l1, vi l2, vi l3, vi l4]) (st' := [vi l3, vr 8 w]) (h' := (101, I11, J12, R0 b)) 2 rfl ?_
      refine WP.cal (y' := 71) (as := [vr 8 w, vi l3]) (L' := [vr 8 w, vi l1, vi l2, vi l3, vi l4]) (rest := []) rfl (fun f r h' hf => callV_ok hf rfl rfl rfl) h ?_
      rintro _ _ ⟨x16, I17, J18, rfl, rfl, h⟩
      refine WP.blk (pc' := 78) (L' := [vr 8 w, vi l1, vi l2, vi x16, vi l4]) (st' := [vi 1000000, vi x16]) (h' := (101, I17, J18, R0 b)) 3 rfl ?_
      refine WP.icmp_lt (t := 84) (L' := [vr 8 w, vi l1, vi l2, vi x16, vi l4]) rfl rfl rfl rfl h (fun h => ?_) (fun h => ?_)
      · refine WP.blk (pc' := 51) (L' := [vr 8 w, vi l1, vi l2, vi x16, vi (l4 + 1)]) (st' := []) (h' := (101, I17, J18, R0 b)) 2 rfl ?_
        exact WP.mask rfl rfl h
      · refine WP.blk (pc' := 83) (L' := [vr 8 w, vi l1, vi l2, vi x16, vi l4]) (st' := [vi (-2)]) (h' := (101, I17, J18, R0 b)) 1 rfl ?_
        exact WP.ret rfl rfl h
set_option maxRecDepth 20000 in
theorem t_X8_fasten {D : Nat} (w : Nat) (l1 : Int32) (l2 : Int32) (l3 : Int32) (I : IM) (J : JM) (b : Bool) {Q : Option AV → AH → Prop} (h : (if (I 7 0 5) = 0 then (Call D 57 [vr 7 0, vi l1, vi ((I 8 w 10) - (I 8 w 9))] (101, I, J, R0 b) (RIf b fun x1 I2 J3 => (if ((l2 + l3) + x1) ≤ (l2 + l3) then WP D 66 102 [vr 8 w, vi l1, vi l2, vn, vi (l2 + l3), vi ((l2 + l3) + x1), vi 0, vn] [] (101, I2, J3, R0 b) Q else (Call D 11 [vr 1 0, vi l1, vi 2] (101, I2, J3, R0 b) (RIf b fun x4 I5 J6 => (if x4 ≤ 0 then WP D 66 102 [vr 8 w, vi l1, vi l2, vn, vi (l2 + l3), vi ((l2 + l3) + x1), vi x4, vn] [] (101, I5, J6, R0 b) Q else (Call D 11 [vr 1 0, vi l1, vi 3] (101, I5, J6, R0 b) (RIf b fun x7 I8 J9 => (if ¬ x7 = (1 : Int32) then WP D 66 102 [vr 8 w, vi l1, vi l2, vn, vi (l2 + l3), vi ((l2 + l3) + x1), vi x4, vn] [] (101, I8, J9, R0 b) Q else (Call D 70 [vr 8 w, vi (l2 + l3)] (101, I8, J9, R0 b) (RIf b fun x10 I11 J12 => (if (I11 7 0 4) ≤ x10 then WP D 66 102 [vr 8 w, vi l1, vi l2, vn, vi (l2 + l3), vi ((l2 + l3) + x1), vi x4, vn] [] (101, I11, J12, R0 b) Q else (if (I11 8 w 2) ≤ (I11 8 w 10) then WP D 66 137 [vn, vn, vn, vn, vn, vn, vn, vn] [] (101, I11, J12, R0 b) Q else WP D 66 139 [vr 8 w, vi l1, vi l2, vn, vi (l2 + l3), vi ((l2 + l3) + x1), vi x4, vi 1] [] (101, I11, J12, R0 b) Q))))))))))))) else (if (1000000 : Int32) ≤ (l2 + l3) then WP D 66 102 [vr 8 w, vi l1, vi l2, vn, vi (l2 + l3), vi 1000000, vi 0, vn] [] (101, I, J, R0 b) Q else (Call D 11 [vr 1 0, vi l1, vi 2] (101, I, J, R0 b) (RIf b fun x13 I14 J15 => (if x13 ≤ 0 then WP D 66 102 [vr 8 w, vi l1, vi l2, vn, vi (l2 + l3), vi 1000000, vi x13, vn] [] (101, I14, J15, R0 b) Q else (Call D 11 [vr 1 0, vi l1, vi 3] (101, I14, J15, R0 b) (RIf b fun x16 I17 J18 => (if ¬ x16 = (1 : Int32) then WP D 66 102 [vr 8 w, vi l1, vi l2, vn, vi (l2 + l3), vi 1000000, vi x13, vn] [] (101, I17, J18, R0 b) Q else (Call D 70 [vr 8 w, vi (l2 + l3)] (101, I17, J18, R0 b) (RIf b fun x19 I20 J21 => (if (I20 7 0 4) ≤ x19 then WP D 66 102 [vr 8 w, vi l1, vi l2, vn, vi (l2 + l3), vi 1000000, vi x13, vn] [] (101, I20, J21, R0 b) Q else (if (I20 8 w 2) ≤ (I20 8 w 10) then WP D 66 137 [vn, vn, vn, vn, vn, vn, vn, vn] [] (101, I20, J21, R0 b) Q else WP D 66 139 [vr 8 w, vi l1, vi l2, vn, vi (l2 + l3), vi 1000000, vi x13, vi 1] [] (101, I20, J21, R0 b) Q))))))))))))) : Call (D + 1) 66 [vr 8 w, vi l1, vi l2, vi l3] (101, I, J, R0 b) Q := by
  refine Call.of rfl ?_
  show WP D 66 0 [vr 8 w, vi l1, vi l2, vi l3, vn, vn, vn, vn] [] (101, I, J, R0 b) Q
  refine WP.blk (pc' := 12) (L' := [vr 8 w, vi l1, vi l2, vi l3, vi (l2 + l3), vn, vn, vn]) (st' := [vi (I 7 0 5)]) (h' := (101, I, J, R0 b)) 7 rfl ?_
  refine WP.if_eq (t := 20) (L' := [vr 8 w, vi l1, vi l2, vi l3, vi (l2 + l3), vn, vn, vn]) rfl rfl rfl rfl h (fun h => ?_) (fun h => ?_)
  · refine WP.blk (pc' := 36) (L' := [vr 8 w, vi l1, vi l2, vi l3, vi (l2 + l3), vn, vn, vn]) (st' := [vi ((I 8 w 10) - (I 8 w 9)), vi l1, vr 7 0, vi (l2 + l3)]) (h' := (101, I, J, R0 b)) 9 rfl ?_
    refine WP.cal (y' := 57) (as := [vr 7 0, vi l1, vi ((I 8 w 10) - (I 8 w 9))]) (L' := [vr 8 w, vi l1, vi l2, vi l3, vi (l2 + l3), vn, vn, vn]) (rest := [vi (l2 + l3)]) rfl (fun f r h' hf => callV_ok hf rfl rfl rfl) h ?_
    rintro _ _ ⟨x1, I2, J3, rfl, rfl, h⟩
    refine WP.blk (pc' := 46) (L' := [vr 8 w, vi l1, vi l2, vn, vi (l2 + l3), vi ((l2 + l3) + x1), vn, vn]) (st' := [vi (l2 + l3), vi ((l2 + l3) + x1)]) (h' := (101, I2, J3, R0 b)) 4 rfl ?_
    refine WP.icmp_le (t := 61) (L' := [vr 8 w, vi l1, vi l2, vn, vi (l2 + l3), vi ((l2 + l3) + x1), vn, vn]) rfl rfl rfl rfl h (fun h => ?_) (fun h => ?_)
    · refine WP.blk (pc' := 102) (L' := [vr 8 w, vi l1, vi l2, vn, vi (l2 + l3), vi ((l2 + l3) + x1), vi 0, vn]) (st' := []) (h' := (101, I2, J3, R0 b)) 4 rfl ?_
      exact WP.mask rfl rfl h
    · refine WP.blk (pc' := 55) (L' := [vr 8 w, vi l1, vi l2, vn, vi (l2 + l3), vi ((l2 + l3) + x1), vn, vn]) (st' := [vi 2, vi l1, vr 1 0]) (h' := (101, I2, J3, R0 b)) 4 rfl ?_
      refine WP.cal (y' := 11) (as := [vr 1 0, vi l1, vi 2]) (L' := [vr 8 w, vi l1, vi l2, vn, vi (l2 + l3), vi ((l2 + l3) + x1), vn, vn]) (rest := []) rfl (fun f r h' hf => callV_ok hf rfl rfl rfl) h ?_
      rintro _ _ ⟨x4, I5, J6, rfl, rfl, h⟩
      refine WP.blk (pc' := 66) (L' := [vr 8 w, vi l1, vi l2, vn, vi (l2 + l3), vi ((l2 + l3) + x1), vi x4, vn]) (st' := [vi x4]) (h' := (101, I5, J6, R0 b)) 3 rfl ?_
      refine WP.if_le (t := 102) (L' := [vr 8 w, vi l1, vi l2, vn, vi (l2 + l3), vi ((l2 + l3) + x1), vi x4, vn]) rfl rfl rfl rfl h (fun h => ?_) (fun h => ?_)
      · exact WP.mask rfl rfl h
      · refine WP.blk (pc' := 75) (L' := [vr 8 w, vi l1, vi l2, vn, vi (l2 + l3), vi ((l2 + l3) + x1), vi x4, vn]) (st' := [vi 3, vi l1, vr 1 0]) (h' := (101, I5, J6, R0 b)) 4 rfl ?_
        refine WP.cal (y' := 11) (as := [vr 1 0, vi l1, vi 3]) (L' := [vr 8 w, vi l1, vi l2, vn, vi (l2 + l3), vi ((l2 + l3) + x1), vi x4, vn]) (rest := []) rfl (fun f r h' hf => callV_ok hf rfl rfl rfl) h ?_
        rintro _ _ ⟨x7, I8, J9, rfl, rfl, h⟩
        refine WP.blk (pc' := 79) (L' := [vr 8 w, vi l1, vi l2, vn, vi (l2 + l3), vi ((l2 + l3) + x1), vi x4, vn]) (st' := [vi 1, vi x7]) (h' := (101, I8, J9, R0 b)) 1 rfl ?_
        refine WP.icmp_ne (t := 102) (L' := [vr 8 w, vi l1, vi l2, vn, vi (l2 + l3), vi ((l2 + l3) + x1), vi x4, vn]) rfl rfl rfl rfl h (fun h => ?_) (fun h => ?_)
        · exact WP.mask rfl rfl h
        · refine WP.blk (pc' := 85) (L' := [vr 8 w, vi l1, vi l2, vn, vi (l2 + l3), vi ((l2 + l3) + x1), vi x4, vn]) (st' := [vi (l2 + l3), vr 8 w]) (h' := (101, I8, J9, R0 b)) 2 rfl ?_
          refine WP.cal (y' := 70) (as := [vr 8 w, vi (l2 + l3)]) (L' := [vr 8 w, vi l1, vi l2, vn, vi (l2 + l3), vi ((l2 + l3) + x1), vi x4, vn]) (rest := []) rfl (fun f r h' hf => callV_ok hf rfl rfl rfl) h ?_
          rintro _ _ ⟨x10, I11, J12, rfl, rfl, h⟩
          refine WP.blk (pc' := 95) (L' := [vr 8 w, vi l1, vi l2, vn, vi (l2 + l3), vi ((l2 + l3) + x1), vi x4, vn]) (st' := [vi (I11 7 0 4), vi x10]) (h' := (101, I11, J12, R0 b)) 3 rfl ?_
          refine WP.icmp_ge (t := 102) (L' := [vr 8 w, vi l1, vi l2, vn, vi (l2 + l3), vi ((l2 + l3) + x1), vi x4, vn]) rfl rfl rfl rfl h (fun h => ?_) (fun h => ?_)
          · exact WP.mask rfl rfl h
          · refine WP.blk (pc' := 113) (L' := [vr 8 w, vi l1, vi l2, vn, vi (l2 + l3), vi ((l2 + l3) + x1), vi x4, vi 1]) (st' := [vi (I11 8 w 2), vi (I11 8 w 10)]) (h' := (101, I11, J12, R0 b)) 7 rfl ?_
            refine WP.icmp_ge (t := 137) (L' := [vr 8 w, vi l1, vi l2, vn, vi (l2 + l3), vi ((l2 + l3) + x1), vi x4, vi 1]) rfl rfl rfl rfl h (fun h => ?_) (fun h => ?_)
            · exact WP.mask rfl rfl h
            · refine WP.blk (pc' := 139) (L' := [vr 8 w, vi l1, vi l2, vn, vi (l2 + l3), vi ((l2 + l3) + x1), vi x4, vi 1]) (st' := []) (h' := (101, I11, J12, R0 b)) 2 rfl ?_
              exact WP.mask rfl rfl h
  · refine WP.blk (pc' := 46) (L' := [vr 8 w, vi l1, vi l2, vn, vi (l2 + l3), vi 1000000, vn, vn]) (st' := [vi (l2 + l3), vi 1000000]) (h' := (101, I, J, R0 b)) 5 rfl ?_
    refine WP.icmp_le (t := 61) (L' := [vr 8 w, vi l1, vi l2, vn, vi (l2 + l3), vi 1000000, vn, vn]) rfl rfl rfl rfl h (fun h => ?_) (fun h => ?_)
    · refine WP.blk (pc' := 102) (L' := [vr 8 w, vi l1, vi l2, vn, vi (l2 + l3), vi 1000000, vi 0, vn]) (st' := []) (h' := (101, I, J, R0 b)) 4 rfl ?_
      exact WP.mask rfl rfl h
    · refine WP.blk (pc' := 55) (L' := [vr 8 w, vi l1, vi l2, vn, vi (l2 + l3), vi 1000000, vn, vn]) (st' := [vi 2, vi l1, vr 1 0]) (h' := (101, I, J, R0 b)) 4 rfl ?_
      refine WP.cal (y' := 11) (as := [vr 1 0, vi l1, vi 2]) (L' := [vr 8 w, vi l1, vi l2, vn, vi (l2 + l3), vi 1000000, vn, vn]) (rest := []) rfl (fun f r h' hf => callV_ok hf rfl rfl rfl) h ?_
      rintro _ _ ⟨x13, I14, J15, rfl, rfl, h⟩
      refine WP.blk (pc' := 66) (L' := [vr 8 w, vi l1, vi l2, vn, vi (l2 + l3), vi 1000000, vi x13, vn]) (st' := [vi x13]) (h' := (101, I14, J15, R0 b)) 3 rfl ?_
      refine WP.if_le (t := 102) (L' := [vr 8 w, vi l1, vi l2, vn, vi (l2 + l3), vi 1000000, vi x13, vn]) rfl rfl rfl rfl h (fun h => ?_) (fun h => ?_)
      · exact WP.mask rfl rfl h
      · refine WP.blk (pc' := 75) (L' := [vr 8 w, vi l1, vi l2, vn, vi (l2 + l3), vi 1000000, vi x13, vn]) (st' := [vi 3, vi l1, vr 1 0]) (h' := (101, I14, J15, R0 b)) 4 rfl ?_
        refine WP.cal (y' := 11) (as := [vr 1 0, vi l1, vi 3]) (L' := [vr 8 w, vi l1, vi l2, vn, vi (l2 + l3), vi 1000000, vi x13, vn]) (rest := []) rfl (fun f r h' hf => callV_ok hf rfl rfl rfl) h ?_
        rintro _ _ ⟨x16, I17, J18, rfl, rfl, h⟩
        refine WP.blk (pc' := 79) (L' := [vr 8 w, vi l1, vi l2, vn, vi (l2 + l3), vi 1000000, vi x13, vn]) (st' := [vi 1, vi x16]) (h' := (101, I17, J18, R0 b)) 1 rfl ?_
        refine WP.icmp_ne (t := 102) (L' := [vr 8 w, vi l1, vi l2, vn, vi (l2 + l3), vi 1000000, vi x13, vn]) rfl rfl rfl rfl h (fun h => ?_) (fun h => ?_)
        · exact WP.mask rfl rfl h
        · refine WP.blk (pc' := 85) (L' := [vr 8 w, vi l1, vi l2, vn, vi (l2 + l3), vi 1000000, vi x13, vn]) (st' := [vi (l2 + l3), vr 8 w]) (h' := (101, I17, J18, R0 b)) 2 rfl ?_
          refine WP.cal (y' := 70) (as := [vr 8 w, vi (l2 + l3)]) (L' := [vr 8 w, vi l1, vi l2, vn, vi (l2 + l3), vi 1000000, vi x13, vn]) (rest := []) rfl (fun f r h' hf => callV_ok hf rfl rfl rfl) h ?_
          rintro _ _ ⟨x19, I20, J21, rfl, rfl, h⟩
          refine WP.blk (pc' := 95) (L' := [vr 8 w, vi l1, vi l2, vn, vi (l2 + l3), vi 1000000, vi x13, vn]) (st' := [vi (I20 7 0 4), vi x19]) (h' := (101, I20, J21, R0 b)) 3 rfl ?_
          refine WP.icmp_ge (t := 102) (L' := [vr 8 w, vi l1, vi l2, vn, vi (l2 + l3), vi 1000000, vi x13, vn]) rfl rfl rfl rfl h (fun h => ?_) (fun h => ?_)
          · exact WP.mask rfl rfl h
          · refine WP.blk (pc' := 113) (L' := [vr 8 w, vi l1, vi l2, vn, vi (l2 + l3), vi 1000000, vi x13, vi 1]) (st' := [vi (I20 8 w 2), vi (I20 8 w 10)]) (h' := (101, I20, J21, R0 b)) 7 rfl ?_
            refine WP.icmp_ge (t := 137) (L' := [vr 8 w, vi l1, vi l2, vn, vi (l2 + l3), vi 1000000, vi x13, vi 1]) rfl rfl rfl rfl h (fun h => ?_) (fun h => ?_)
            · exact WP.mask rfl rfl h
            · refine WP.blk (pc' := 139) (L' := [vr 8 w, vi l1, vi l2, vn, vi (l2 + l3), vi 1000000, vi x13, vi 1]) (st' := []) (h' := (101, I20, J21, R0 b)) 2 rfl ?_
              exact WP.mask rfl rfl h
set_option maxRecDepth 20000 in
theorem t_X8_fasten_102 {D : Nat} (w : Nat) (l1 : Int32) (l2 : Int32) (l4 : Int32) (l5 : Int32) (l6 : Int32) (I : IM) (J : JM) (b : Bool) {Q : Option AV → AH → Prop} (h : (if (I 8 w 2) ≤ (I 8 w 10) then WP D 66 137 [vn, vn, vn, vn, vn, vn, vn, vn] [] (101, I, J, R0 b) Q else (if l6 ≤ 0 then WP D 66 139 [vr 8 w, vi l1, vi l2, vn, vi l4, vi l5, vi l6, vi 0] [] (101, I, J, R0 b) Q else (Call D 69 [vr 8 w, vi l4] (101, I, J, R0 b) (RIf b fun x22 I23 J24 => (if l6 ≤ x22 then WP D 66 139 [vr 8 w, vi l1, vi l2, vn, vi l4, vi l5, vi l6, vi 0] [] (101, I23, J24, R0 b) Q else WP D 66 137 [vn, vn, vn, vn, vn, vn, vn, vn] [] (101, I23, J24, R0 b) Q)))))) : WP D 66 102 [vr 8 w, vi l1, vi l2, vn, vi l4, vi l5, vi l6, vn] [] (101, I, J, R0 b) Q := by
  refine WP.blk (pc' := 113) (L' := [vr 8 w, vi l1, vi l2, vn, vi l4, vi l5, vi l6, vi 0]) (st' := [vi (I 8 w 2), vi (I 8 w 10)]) (h' := (101, I, J, R0 b)) 6 rfl ?_
  refine WP.icmp_ge (t := 137) (L' := [vr 8 w, vi l1, vi l2, vn, vi l4, vi l5, vi l6, vi 0]) rfl rfl rfl rfl h (fun h => ?_) (fun h => ?_)
  · exact WP.mask rfl rfl h
  · refine WP.blk (pc' := 123) (L' := [vr 8 w, vi l1, vi l2, vn, vi l4, vi l5, vi l6, vi 0]) (st' := [vi l6]) (h' := (101, I, J, R0 b)) 3 rfl ?_
    refine WP.if_le (t := 139) (L' := [vr 8 w, vi l1, vi l2, vn, vi l4, vi l5, vi l6, vi 0]) rfl rfl rfl rfl h (fun h => ?_) (fun h => ?_)
    · exact WP.mask rfl rfl h
    · refine WP.blk (pc' := 129) (L' := [vr 8 w, vi l1, vi l2, vn, vi l4, vi l5, vi l6, vi 0]) (st' := [vi l4, vr 8 w]) (h' := (101, I, J, R0 b)) 2 rfl ?_
      refine WP.cal (y' := 69) (as := [vr 8 w, vi l4]) (L' := [vr 8 w, vi l1, vi l2, vn, vi l4, vi l5, vi l6, vi 0]) (rest := []) rfl (fun f r h' hf => callV_ok hf rfl rfl rfl) h ?_
      rintro _ _ ⟨x22, I23, J24, rfl, rfl, h⟩
      refine WP.blk (pc' := 134) (L' := [vr 8 w, vi l1, vi l2, vn, vi l4, vi l5, vi l6, vi 0]) (st' := [vi l6, vi x22]) (h' := (101, I23, J24, R0 b)) 1 rfl ?_
      refine WP.icmp_ge (t := 139) (L' := [vr 8 w, vi l1, vi l2, vn, vi l4, vi l5, vi l6, vi 0]) rfl rfl rfl rfl h (fun h => ?_) (fun h => ?_)
      · exact WP.mask rfl rfl h
      · exact WP.mask rfl rfl h
set_option maxRecDepth 20000 in
theorem t_X8_fasten_139 {D : Nat} (w : Nat) (l1 : Int32) (l2 : Int32) (l4 : Int32) (l5 : Int32) (l6 : Int32) (l7 : Int32) (I : IM) (J : JM) (b : Bool) {Q : Option AV → AH → Prop} (h : (vp_in (I 8 w 10) (LENf 30 w) ∧ (vp_in (I 8 w 10) (LENf 31 w) ∧ (vp_in (I 8 w 10) (LENf 32 w) ∧ (vp_in (I 8 w 10) (LENf 33 w) ∧ (if l7 = 0 then (vp_in (I 8 w 10) (LENf 34 w) ∧ (if l7 = 0 then (vp_in (I 8 w 10) (LENf 35 w) ∧ Q (some (vi 1)) (101, (updI (updI (updI (updI (updI (updI (updI (updI (updI I 30 w (I 8 w 10).toNatClampNeg l1) 31 w (I 8 w 10).toNatClampNeg l2) 32 w (I 8 w 10).toNatClampNeg l4) 33 w (I 8 w 10).toNatClampNeg l5) 34 w (I 8 w 10).toNatClampNeg l6) 35 w (I 8 w 10).toNatClampNeg 0) 8 w 10 ((I 8 w 10) + (1 : Int32))) 8 w 11 ((I 8 w 11) ||| ((1 : Int32) <<< (l1 &&& 31)))) 8 w 12 l4), J, R0 b)) else (vp_in (I 8 w 10) (LENf 35 w) ∧ Q (some (vi 1)) (101, (updI (updI (updI (updI (updI (updI (updI (updI (updI I 30 w (I 8 w 10).toNatClampNeg l1) 31 w (I 8 w 10).toNatClampNeg l2) 32 w (I 8 w 10).toNatClampNeg l4) 33 w (I 8 w 10).toNatClampNeg l5) 34 w (I 8 w 10).toNatClampNeg l6) 35 w (I 8 w 10).toNatClampNeg 1) 8 w 10 ((I 8 w 10) + (1 : Int32))) 8 w 11 ((I 8 w 11) ||| ((1 : Int32) <<< (l1 &&& 31)))) 8 w 12 l4), J, R0 b)))) else (vp_in (I 8 w 10) (LENf 34 w) ∧ (if l7 = 0 then (vp_in (I 8 w 10) (LENf 35 w) ∧ Q (some (vi 1)) (101, (updI (updI (updI (updI (updI (updI (updI (updI (updI I 30 w (I 8 w 10).toNatClampNeg l1) 31 w (I 8 w 10).toNatClampNeg l2) 32 w (I 8 w 10).toNatClampNeg l4) 33 w (I 8 w 10).toNatClampNeg l5) 34 w (I 8 w 10).toNatClampNeg 0) 35 w (I 8 w 10).toNatClampNeg 0) 8 w 10 ((I 8 w 10) + (1 : Int32))) 8 w 11 ((I 8 w 11) ||| ((1 : Int32) <<< (l1 &&& 31)))) 8 w 12 l4), J, R0 b)) else (vp_in (I 8 w 10) (LENf 35 w) ∧ Q (some (vi 1)) (101, (updI (updI (updI (updI (updI (updI (updI (updI (updI I 30 w (I 8 w 10).toNatClampNeg l1) 31 w (I 8 w 10).toNatClampNeg l2) 32 w (I 8 w 10).toNatClampNeg l4) 33 w (I 8 w 10).toNatClampNeg l5) 34 w (I 8 w 10).toNatClampNeg 0) 35 w (I 8 w 10).toNatClampNeg 1) 8 w 10 ((I 8 w 10) + (1 : Int32))) 8 w 11 ((I 8 w 11) ||| ((1 : Int32) <<< (l1 &&& 31)))) 8 w 12 l4), J, R0 b)))))))))) : WP D 66 139 [vr 8 w, vi l1, vi l2, vn, vi l4, vi l5, vi l6, vi l7] [] (101, I, J, R0 b) Q := by
  refine WP.blk (pc' := 148) (L' := [vr 8 w, vi l1, vi l2, vn, vi l4, vi l5, vi l6, vi l7]) (st' := [vi l1, vi (I 8 w 10), vr 30 w]) (h' := (101, I, J, R0 b)) 5 rfl ?_
  refine WP.step (pc' := 149) (L' := [vr 8 w, vi l1, vi l2, vn, vi l4, vi l5, vi l6, vi l7]) (st' := []) (h' := (101, (updI I 30 w (I 8 w 10).toNatClampNeg l1), J, R0 b)) rfl (iastore_ok (n := (LENf 30 w)) rfl rfl rfl (inA_of h.1)) ?_
  have h := And.right h
  refine WP.blk (pc' := 158) (L' := [vr 8 w, vi l1, vi l2, vn, vi l4, vi l5, vi l6, vi l7]) (st' := [vi l2, vi (I 8 w 10), vr 31 w]) (h' := (101, (updI I 30 w (I 8 w 10).toNatClampNeg l1), J, R0 b)) 5 rfl ?_
  refine WP.step (pc' := 159) (L' := [vr 8 w, vi l1, vi l2, vn, vi l4, vi l5, vi l6, vi l7]) (st' := []) (h' := (101, (updI (updI I 30 w (I 8 w 10).toNatClampNeg l1) 31 w (I 8 w 10).toNatClampNeg l2), J, R0 b)) rfl (iastore_ok (n := (LENf 31 w)) rfl rfl rfl (inA_of h.1)) ?_
  have h := And.right h
  refine WP.blk (pc' := 169) (L' := [vr 8 w, vi l1, vi l2, vn, vi l4, vi l5, vi l6, vi l7]) (st' := [vi l4, vi (I 8 w 10), vr 32 w]) (h' := (101, (updI (updI I 30 w (I 8 w 10).toNatClampNeg l1) 31 w (I 8 w 10).toNatClampNeg l2), J, R0 b)) 5 rfl ?_
  refine WP.step (pc' := 170) (L' := [vr 8 w, vi l1, vi l2, vn, vi l4, vi l5, vi l6, vi l7]) (st' := []) (h' := (101, (updI (updI (updI I 30 w (I 8 w 10).toNatClampNeg l1) 31 w (I 8 w 10).toNatClampNeg l2) 32 w (I 8 w 10).toNatClampNeg l4), J, R0 b)) rfl (iastore_ok (n := (LENf 32 w)) rfl rfl rfl (inA_of h.1)) ?_
  have h := And.right h
  refine WP.blk (pc' := 180) (L' := [vr 8 w, vi l1, vi l2, vn, vi l4, vi l5, vi l6, vi l7]) (st' := [vi l5, vi (I 8 w 10), vr 33 w]) (h' := (101, (updI (updI (updI I 30 w (I 8 w 10).toNatClampNeg l1) 31 w (I 8 w 10).toNatClampNeg l2) 32 w (I 8 w 10).toNatClampNeg l4), J, R0 b)) 5 rfl ?_
  refine WP.step (pc' := 181) (L' := [vr 8 w, vi l1, vi l2, vn, vi l4, vi l5, vi l6, vi l7]) (st' := []) (h' := (101, (updI (updI (updI (updI I 30 w (I 8 w 10).toNatClampNeg l1) 31 w (I 8 w 10).toNatClampNeg l2) 32 w (I 8 w 10).toNatClampNeg l4) 33 w (I 8 w 10).toNatClampNeg l5), J, R0 b)) rfl (iastore_ok (n := (LENf 33 w)) rfl rfl rfl (inA_of h.1)) ?_
  have h := And.right h
  refine WP.blk (pc' := 191) (L' := [vr 8 w, vi l1, vi l2, vn, vi l4, vi l5, vi l6, vi l7]) (st' := [vi l7, vi (I 8 w 10), vr 34 w]) (h' := (101, (updI (updI (updI (updI I 30 w (I 8 w 10).toNatClampNeg l1) 31 w (I 8 w 10).toNatClampNeg l2) 32 w (I 8 w 10).toNatClampNeg l4) 33 w (I 8 w 10).toNatClampNeg l5), J, R0 b)) 5 rfl ?_
  refine WP.if_eq (t := 198) (L' := [vr 8 w, vi l1, vi l2, vn, vi l4, vi l5, vi l6, vi l7]) rfl rfl rfl rfl h (fun h => ?_) (fun h => ?_)
  · refine WP.blk (pc' := 200) (L' := [vr 8 w, vi l1, vi l2, vn, vi l4, vi l5, vi l6, vi l7]) (st' := [vi l6, vi (I 8 w 10), vr 34 w]) (h' := (101, (updI (updI (updI (updI I 30 w (I 8 w 10).toNatClampNeg l1) 31 w (I 8 w 10).toNatClampNeg l2) 32 w (I 8 w 10).toNatClampNeg l4) 33 w (I 8 w 10).toNatClampNeg l5), J, R0 b)) 1 rfl ?_
    refine WP.step (pc' := 201) (L' := [vr 8 w, vi l1, vn, vn, vi l4, vn, vn, vi l7]) (st' := []) (h' := (101, (updI (updI (updI (updI (updI I 30 w (I 8 w 10).toNatClampNeg l1) 31 w (I 8 w 10).toNatClampNeg l2) 32 w (I 8 w 10).toNatClampNeg l4) 33 w (I 8 w 10).toNatClampNeg l5) 34 w (I 8 w 10).toNatClampNeg l6), J, R0 b)) rfl (iastore_ok (n := (LENf 34 w)) rfl rfl rfl (inA_of h.1)) ?_
    have h := And.right h
    refine WP.blk (pc' := 211) (L' := [vr 8 w, vi l1, vn, vn, vi l4, vn, vn, vi l7]) (st' := [vi l7, vi (I 8 w 10), vr 35 w]) (h' := (101, (updI (updI (updI (updI (updI I 30 w (I 8 w 10).toNatClampNeg l1) 31 w (I 8 w 10).toNatClampNeg l2) 32 w (I 8 w 10).toNatClampNeg l4) 33 w (I 8 w 10).toNatClampNeg l5) 34 w (I 8 w 10).toNatClampNeg l6), J, R0 b)) 5 rfl ?_
    refine WP.if_eq (t := 218) (L' := [vr 8 w, vi l1, vn, vn, vi l4, vn, vn, vi l7]) rfl rfl rfl rfl h (fun h => ?_) (fun h => ?_)
    · refine WP.blk (pc' := 219) (L' := [vr 8 w, vi l1, vn, vn, vi l4, vn, vn, vi l7]) (st' := [vi 0, vi (I 8 w 10), vr 35 w]) (h' := (101, (updI (updI (updI (updI (updI I 30 w (I 8 w 10).toNatClampNeg l1) 31 w (I 8 w 10).toNatClampNeg l2) 32 w (I 8 w 10).toNatClampNeg l4) 33 w (I 8 w 10).toNatClampNeg l5) 34 w (I 8 w 10).toNatClampNeg l6), J, R0 b)) 1 rfl ?_
      refine WP.step (pc' := 220) (L' := [vr 8 w, vi l1, vn, vn, vi l4, vn, vn, vn]) (st' := []) (h' := (101, (updI (updI (updI (updI (updI (updI I 30 w (I 8 w 10).toNatClampNeg l1) 31 w (I 8 w 10).toNatClampNeg l2) 32 w (I 8 w 10).toNatClampNeg l4) 33 w (I 8 w 10).toNatClampNeg l5) 34 w (I 8 w 10).toNatClampNeg l6) 35 w (I 8 w 10).toNatClampNeg 0), J, R0 b)) rfl (iastore_ok (n := (LENf 35 w)) rfl rfl rfl (inA_of h.1)) ?_
      have h := And.right h
      refine WP.blk (pc' := 249) (L' := [vr 8 w, vi l1, vn, vn, vi l4, vn, vn, vn]) (st' := [vi 1]) (h' := (101, (updI (updI (updI (updI (updI (updI (updI (updI (updI I 30 w (I 8 w 10).toNatClampNeg l1) 31 w (I 8 w 10).toNatClampNeg l2) 32 w (I 8 w 10).toNatClampNeg l4) 33 w (I 8 w 10).toNatClampNeg l5) 34 w (I 8 w 10).toNatClampNeg l6) 35 w (I 8 w 10).toNatClampNeg 0) 8 w 10 ((I 8 w 10) + (1 : Int32))) 8 w 11 ((I 8 w 11) ||| ((1 : Int32) <<< (l1 &&& 31)))) 8 w 12 l4), J, R0 b)) 18 rfl ?_
      exact WP.ret rfl rfl h
    · refine WP.blk (pc' := 219) (L' := [vr 8 w, vi l1, vn, vn, vi l4, vn, vn, vi l7]) (st' := [vi 1, vi (I 8 w 10), vr 35 w]) (h' := (101, (updI (updI (updI (updI (updI I 30 w (I 8 w 10).toNatClampNeg l1) 31 w (I 8 w 10).toNatClampNeg l2) 32 w (I 8 w 10).toNatClampNeg l4) 33 w (I 8 w 10).toNatClampNeg l5) 34 w (I 8 w 10).toNatClampNeg l6), J, R0 b)) 2 rfl ?_
      refine WP.step (pc' := 220) (L' := [vr 8 w, vi l1, vn, vn, vi l4, vn, vn, vn]) (st' := []) (h' := (101, (updI (updI (updI (updI (updI (updI I 30 w (I 8 w 10).toNatClampNeg l1) 31 w (I 8 w 10).toNatClampNeg l2) 32 w (I 8 w 10).toNatClampNeg l4) 33 w (I 8 w 10).toNatClampNeg l5) 34 w (I 8 w 10).toNatClampNeg l6) 35 w (I 8 w 10).toNatClampNeg 1), J, R0 b)) rfl (iastore_ok (n := (LENf 35 w)) rfl rfl rfl (inA_of h.1)) ?_
      have h := And.right h
      refine WP.blk (pc' := 249) (L' := [vr 8 w, vi l1, vn, vn, vi l4, vn, vn, vn]) (st' := [vi 1]) (h' := (101, (updI (updI (updI (updI (updI (updI (updI (updI (updI I 30 w (I 8 w 10).toNatClampNeg l1) 31 w (I 8 w 10).toNatClampNeg l2) 32 w (I 8 w 10).toNatClampNeg l4) 33 w (I 8 w 10).toNatClampNeg l5) 34 w (I 8 w 10).toNatClampNeg l6) 35 w (I 8 w 10).toNatClampNeg 1) 8 w 10 ((I 8 w 10) + (1 : Int32))) 8 w 11 ((I 8 w 11) ||| ((1 : Int32) <<< (l1 &&& 31)))) 8 w 12 l4), J, R0 b)) 18 rfl ?_
      exact WP.ret rfl rfl h
  · refine WP.blk (pc' := 200) (L' := [vr 8 w, vi l1, vi l2, vn, vi l4, vi l5, vi l6, vi l7]) (st' := [vi 0, vi (I 8 w 10), vr 34 w]) (h' := (101, (updI (updI (updI (updI I 30 w (I 8 w 10).toNatClampNeg l1) 31 w (I 8 w 10).toNatClampNeg l2) 32 w (I 8 w 10).toNatClampNeg l4) 33 w (I 8 w 10).toNatClampNeg l5), J, R0 b)) 2 rfl ?_
    refine WP.step (pc' := 201) (L' := [vr 8 w, vi l1, vn, vn, vi l4, vn, vn, vi l7]) (st' := []) (h' := (101, (updI (updI (updI (updI (updI I 30 w (I 8 w 10).toNatClampNeg l1) 31 w (I 8 w 10).toNatClampNeg l2) 32 w (I 8 w 10).toNatClampNeg l4) 33 w (I 8 w 10).toNatClampNeg l5) 34 w (I 8 w 10).toNatClampNeg 0), J, R0 b)) rfl (iastore_ok (n := (LENf 34 w)) rfl rfl rfl (inA_of h.1)) ?_
    have h := And.right h
    refine WP.blk (pc' := 211) (L' := [vr 8 w, vi l1, vn, vn, vi l4, vn, vn, vi l7]) (st' := [vi l7, vi (I 8 w 10), vr 35 w]) (h' := (101, (updI (updI (updI (updI (updI I 30 w (I 8 w 10).toNatClampNeg l1) 31 w (I 8 w 10).toNatClampNeg l2) 32 w (I 8 w 10).toNatClampNeg l4) 33 w (I 8 w 10).toNatClampNeg l5) 34 w (I 8 w 10).toNatClampNeg 0), J, R0 b)) 5 rfl ?_
    refine WP.if_eq (t := 218) (L' := [vr 8 w, vi l1, vn, vn, vi l4, vn, vn, vi l7]) rfl rfl rfl rfl h (fun h => ?_) (fun h => ?_)
    · refine WP.blk (pc' := 219) (L' := [vr 8 w, vi l1, vn, vn, vi l4, vn, vn, vi l7]) (st' := [vi 0, vi (I 8 w 10), vr 35 w]) (h' := (101, (updI (updI (updI (updI (updI I 30 w (I 8 w 10).toNatClampNeg l1) 31 w (I 8 w 10).toNatClampNeg l2) 32 w (I 8 w 10).toNatClampNeg l4) 33 w (I 8 w 10).toNatClampNeg l5) 34 w (I 8 w 10).toNatClampNeg 0), J, R0 b)) 1 rfl ?_
      refine WP.step (pc' := 220) (L' := [vr 8 w, vi l1, vn, vn, vi l4, vn, vn, vn]) (st' := []) (h' := (101, (updI (updI (updI (updI (updI (updI I 30 w (I 8 w 10).toNatClampNeg l1) 31 w (I 8 w 10).toNatClampNeg l2) 32 w (I 8 w 10).toNatClampNeg l4) 33 w (I 8 w 10).toNatClampNeg l5) 34 w (I 8 w 10).toNatClampNeg 0) 35 w (I 8 w 10).toNatClampNeg 0), J, R0 b)) rfl (iastore_ok (n := (LENf 35 w)) rfl rfl rfl (inA_of h.1)) ?_
      have h := And.right h
      refine WP.blk (pc' := 249) (L' := [vr 8 w, vi l1, vn, vn, vi l4, vn, vn, vn]) (st' := [vi 1]) (h' := (101, (updI (updI (updI (updI (updI (updI (updI (updI (updI I 30 w (I 8 w 10).toNatClampNeg l1) 31 w (I 8 w 10).toNatClampNeg l2) 32 w (I 8 w 10).toNatClampNeg l4) 33 w (I 8 w 10).toNatClampNeg l5) 34 w (I 8 w 10).toNatClampNeg 0) 35 w (I 8 w 10).toNatClampNeg 0) 8 w 10 ((I 8 w 10) + (1 : Int32))) 8 w 11 ((I 8 w 11) ||| ((1 : Int32) <<< (l1 &&& 31)))) 8 w 12 l4), J, R0 b)) 18 rfl ?_
      exact WP.ret rfl rfl h
    · refine WP.blk (pc' := 219) (L' := [vr 8 w, vi l1, vn, vn, vi l4, vn, vn, vi l7]) (st' := [vi 1, vi (I 8 w 10), vr 35 w]) (h' := (101, (updI (updI (updI (updI (updI I 30 w (I 8 w 10).toNatClampNeg l1) 31 w (I 8 w 10).toNatClampNeg l2) 32 w (I 8 w 10).toNatClampNeg l4) 33 w (I 8 w 10).toNatClampNeg l5) 34 w (I 8 w 10).toNatClampNeg 0), J, R0 b)) 2 rfl ?_
      refine WP.step (pc' := 220) (L' := [vr 8 w, vi l1, vn, vn, vi l4, vn, vn, vn]) (st' := []) (h' := (101, (updI (updI (updI (updI (updI (updI I 30 w (I 8 w 10).toNatClampNeg l1) 31 w (I 8 w 10).toNatClampNeg l2) 32 w (I 8 w 10).toNatClampNeg l4) 33 w (I 8 w 10).toNatClampNeg l5) 34 w (I 8 w 10).toNatClampNeg 0) 35 w (I 8 w 10).toNatClampNeg 1), J, R0 b)) rfl (iastore_ok (n := (LENf 35 w)) rfl rfl rfl (inA_of h.1)) ?_
      have h := And.right h
      refine WP.blk (pc' := 249) (L' := [vr 8 w, vi l1, vn, vn, vi l4, vn, vn, vn]) (st' := [vi 1]) (h' := (101, (updI (updI (updI (updI (updI (updI (updI (updI (updI I 30 w (I 8 w 10).toNatClampNeg l1) 31 w (I 8 w 10).toNatClampNeg l2) 32 w (I 8 w 10).toNatClampNeg l4) 33 w (I 8 w 10).toNatClampNeg l5) 34 w (I 8 w 10).toNatClampNeg 0) 35 w (I 8 w 10).toNatClampNeg 1) 8 w 10 ((I 8 w 10) + (1 : Int32))) 8 w 11 ((I 8 w 11) ||| ((1 : Int32) <<< (l1 &&& 31)))) 8 w 12 l4), J, R0 b)) 18 rfl ?_
      exact WP.ret rfl rfl h
set_option maxRecDepth 20000 in
theorem t_X8_drop {D : Nat} (w : Nat) (I : IM) (J : JM) (b : Bool) {Q : Option AV → AH → Prop} (h : (if (I 8 w 10) ≤ 0 then Q none (101, I, J, R0 b) else (vp_in ((updI I 8 w 10 ((I 8 w 10) - (1 : Int32))) 8 w 10) (LENf 30 w) ∧ (if ((updI (updI I 8 w 10 ((I 8 w 10) - (1 : Int32))) 8 w 11 ((I 8 w 11) &&& (((1 : Int32) <<< ((I 30 w ((updI I 8 w 10 ((I 8 w 10) - (1 : Int32))) 8 w 10).toNatClampNeg) &&& 31)) ^^^ (-1 : Int32)))) 8 w 10) ≤ 0 then Q none (101, (updI (updI (updI I 8 w 10 ((I 8 w 10) - (1 : Int32))) 8 w 11 ((I 8 w 11) &&& (((1 : Int32) <<< ((I 30 w ((updI I 8 w 10 ((I 8 w 10) - (1 : Int32))) 8 w 10).toNatClampNeg) &&& 31)) ^^^ (-1 : Int32)))) 8 w 12 0), J, R0 b) else (vp_in (((updI (updI I 8 w 10 ((I 8 w 10) - (1 : Int32))) 8 w 11 ((I 8 w 11) &&& (((1 : Int32) <<< ((I 30 w ((updI I 8 w 10 ((I 8 w 10) - (1 : Int32))) 8 w 10).toNatClampNeg) &&& 31)) ^^^ (-1 : Int32)))) 8 w 10) - (1 : Int32)) (LENf 32 w) ∧ Q none (101, (updI (updI (updI I 8 w 10 ((I 8 w 10) - (1 : Int32))) 8 w 11 ((I 8 w 11) &&& (((1 : Int32) <<< ((I 30 w ((updI I 8 w 10 ((I 8 w 10) - (1 : Int32))) 8 w 10).toNatClampNeg) &&& 31)) ^^^ (-1 : Int32)))) 8 w 12 (I 32 w (((updI (updI I 8 w 10 ((I 8 w 10) - (1 : Int32))) 8 w 11 ((I 8 w 11) &&& (((1 : Int32) <<< ((I 30 w ((updI I 8 w 10 ((I 8 w 10) - (1 : Int32))) 8 w 10).toNatClampNeg) &&& 31)) ^^^ (-1 : Int32)))) 8 w 10) - (1 : Int32)).toNatClampNeg)), J, R0 b)))))) : Call (D + 1) 67 [vr 8 w] (101, I, J, R0 b) Q := by
  refine Call.of rfl ?_
  show WP D 67 0 [vr 8 w] [] (101, I, J, R0 b) Q
  refine WP.blk (pc' := 4) (L' := [vr 8 w]) (st' := [vi (I 8 w 10)]) (h' := (101, I, J, R0 b)) 2 rfl ?_
  refine WP.if_le (t := 65) (L' := [vr 8 w]) rfl rfl rfl rfl h (fun h => ?_) (fun h => ?_)
  · exact WP.ret rfl rfl h
  · refine WP.blk (pc' := 31) (L' := [vr 8 w]) (st' := [vi ((updI I 8 w 10 ((I 8 w 10) - (1 : Int32))) 8 w 10), vr 30 w, vi 1, vi (I 8 w 11), vr 8 w]) (h' := (101, (updI I 8 w 10 ((I 8 w 10) - (1 : Int32))), J, R0 b)) 14 rfl ?_
    refine WP.step (pc' := 32) (L' := [vr 8 w]) (st' := [vi (I 30 w ((updI I 8 w 10 ((I 8 w 10) - (1 : Int32))) 8 w 10).toNatClampNeg), vi 1, vi (I 8 w 11), vr 8 w]) (h' := (101, (updI I 8 w 10 ((I 8 w 10) - (1 : Int32))), J, R0 b)) rfl (iaload_ok (n := (LENf 30 w)) rfl rfl rfl (inA_of h.1)) ?_
    have h := And.right h
    refine WP.blk (pc' := 44) (L' := [vr 8 w]) (st' := [vi ((updI (updI I 8 w 10 ((I 8 w 10) - (1 : Int32))) 8 w 11 ((I 8 w 11) &&& (((1 : Int32) <<< ((I 30 w ((updI I 8 w 10 ((I 8 w 10) - (1 : Int32))) 8 w 10).toNatClampNeg) &&& 31)) ^^^ (-1 : Int32)))) 8 w 10), vr 8 w]) (h' := (101, (updI (updI I 8 w 10 ((I 8 w 10) - (1 : Int32))) 8 w 11 ((I 8 w 11) &&& (((1 : Int32) <<< ((I 30 w ((updI I 8 w 10 ((I 8 w 10) - (1 : Int32))) 8 w 10).toNatClampNeg) &&& 31)) ^^^ (-1 : Int32)))), J, R0 b)) 8 rfl ?_
    refine WP.if_le (t := 61) (L' := [vr 8 w]) rfl rfl rfl rfl h (fun h => ?_) (fun h => ?_)
    · refine WP.blk (pc' := 65) (L' := [vn]) (st' := []) (h' := (101, (updI (updI (updI I 8 w 10 ((I 8 w 10) - (1 : Int32))) 8 w 11 ((I 8 w 11) &&& (((1 : Int32) <<< ((I 30 w ((updI I 8 w 10 ((I 8 w 10) - (1 : Int32))) 8 w 10).toNatClampNeg) &&& 31)) ^^^ (-1 : Int32)))) 8 w 12 0), J, R0 b)) 2 rfl ?_
      exact WP.ret rfl rfl h
    · refine WP.blk (pc' := 57) (L' := [vr 8 w]) (st' := [vi (((updI (updI I 8 w 10 ((I 8 w 10) - (1 : Int32))) 8 w 11 ((I 8 w 11) &&& (((1 : Int32) <<< ((I 30 w ((updI I 8 w 10 ((I 8 w 10) - (1 : Int32))) 8 w 10).toNatClampNeg) &&& 31)) ^^^ (-1 : Int32)))) 8 w 10) - (1 : Int32)), vr 32 w, vr 8 w]) (h' := (101, (updI (updI I 8 w 10 ((I 8 w 10) - (1 : Int32))) 8 w 11 ((I 8 w 11) &&& (((1 : Int32) <<< ((I 30 w ((updI I 8 w 10 ((I 8 w 10) - (1 : Int32))) 8 w 10).toNatClampNeg) &&& 31)) ^^^ (-1 : Int32)))), J, R0 b)) 6 rfl ?_
      refine WP.step (pc' := 58) (L' := [vr 8 w]) (st' := [vi (I 32 w (((updI (updI I 8 w 10 ((I 8 w 10) - (1 : Int32))) 8 w 11 ((I 8 w 11) &&& (((1 : Int32) <<< ((I 30 w ((updI I 8 w 10 ((I 8 w 10) - (1 : Int32))) 8 w 10).toNatClampNeg) &&& 31)) ^^^ (-1 : Int32)))) 8 w 10) - (1 : Int32)).toNatClampNeg), vr 8 w]) (h' := (101, (updI (updI I 8 w 10 ((I 8 w 10) - (1 : Int32))) 8 w 11 ((I 8 w 11) &&& (((1 : Int32) <<< ((I 30 w ((updI I 8 w 10 ((I 8 w 10) - (1 : Int32))) 8 w 10).toNatClampNeg) &&& 31)) ^^^ (-1 : Int32)))), J, R0 b)) rfl (iaload_ok (n := (LENf 32 w)) rfl rfl rfl (inA_of h.1)) ?_
      have h := And.right h
      refine WP.blk (pc' := 65) (L' := [vn]) (st' := []) (h' := (101, (updI (updI (updI I 8 w 10 ((I 8 w 10) - (1 : Int32))) 8 w 11 ((I 8 w 11) &&& (((1 : Int32) <<< ((I 30 w ((updI I 8 w 10 ((I 8 w 10) - (1 : Int32))) 8 w 10).toNatClampNeg) &&& 31)) ^^^ (-1 : Int32)))) 8 w 12 (I 32 w (((updI (updI I 8 w 10 ((I 8 w 10) - (1 : Int32))) 8 w 11 ((I 8 w 11) &&& (((1 : Int32) <<< ((I 30 w ((updI I 8 w 10 ((I 8 w 10) - (1 : Int32))) 8 w 10).toNatClampNeg) &&& 31)) ^^^ (-1 : Int32)))) 8 w 10) - (1 : Int32)).toNatClampNeg)), J, R0 b)) 2 rfl ?_
      exact WP.ret rfl rfl h
set_option maxRecDepth 20000 in
theorem t_X8_cutTo {D : Nat} (w : Nat) (l1 : Int32) (I : IM) (J : JM) (b : Bool) {Q : Option AV → AH → Prop} (h : WP D 68 5 [vr 8 w, vi l1, vi (I 8 w 10)] [] (101, I, J, R0 b) Q) : Call (D + 1) 68 [vr 8 w, vi l1] (101, I, J, R0 b) Q := by
  refine Call.of rfl ?_
  show WP D 68 0 [vr 8 w, vi l1, vn] [] (101, I, J, R0 b) Q
  refine WP.blk (pc' := 5) (L' := [vr 8 w, vi l1, vi (I 8 w 10)]) (st' := []) (h' := (101, I, J, R0 b)) 3 rfl ?_
  exact WP.mask rfl rfl h
set_option maxRecDepth 20000 in
theorem t_X8_cutTo_5 {D : Nat} (w : Nat) (l1 : Int32) (l2 : Int32) (I : IM) (J : JM) (b : Bool) {Q : Option AV → AH → Prop} (h : (if l2 ≤ l1 then Q none (101, I, J, R0 b) else (Call D 67 [vr 8 w] (101, I, J, R0 b) (RVf b fun I2 J3 => WP D 68 5 [vr 8 w, vi l1, vi (l2 + (-1))] [] (101, I2, J3, R0 b) Q)))) : WP D 68 5 [vr 8 w, vi l1, vi l2] [] (101, I, J, R0 b) Q := by
  refine WP.blk (pc' := 7) (L' := [vr 8 w, vi l1, vi l2]) (st' := [vi l1, vi l2]) (h' := (101, I, J, R0 b)) 2 rfl ?_
  refine WP.icmp_le (t := 20) (L' := [vr 8 w, vi l1, vi l2]) rfl rfl rfl rfl h (fun h => ?_) (fun h => ?_)
  · exact WP.ret rfl rfl h
  · refine WP.blk (pc' := 11) (L' := [vr 8 w, vi l1, vi l2]) (st' := [vr 8 w]) (h' := (101, I, J, R0 b)) 1 rfl ?_
    refine WP.cal (y' := 67) (as := [vr 8 w]) (L' := [vr 8 w, vi l1, vi l2]) (rest := []) rfl (fun f r h' hf => callV_ok hf rfl rfl rfl) h ?_
    rintro _ _ ⟨I2, J3, rfl, rfl, h⟩
    refine WP.blk (pc' := 5) (L' := [vr 8 w, vi l1, vi (l2 + (-1))]) (st' := []) (h' := (101, I2, J3, R0 b)) 2 rfl ?_
    exact WP.mask rfl rfl h
set_option maxRecDepth 20000 in
theorem t_X8_handsFree {D : Nat} (w : Nat) (l1 : Int32) (I : IM) (J : JM) (b : Bool) {Q : Option AV → AH → Prop} (h : WP D 69 10 [vr 8 w, vi l1, vi (I 7 0 3), vi 0] [] (101, I, J, R0 b) Q) : Call (D + 1) 69 [vr 8 w, vi l1] (101, I, J, R0 b) Q := by
  refine Call.of rfl ?_
  show WP D 69 0 [vr 8 w, vi l1, vn, vn] [] (101, I, J, R0 b) Q
  refine WP.blk (pc' := 10) (L' := [vr 8 w, vi l1, vi (I 7 0 3), vi 0]) (st' := []) (h' := (101, I, J, R0 b)) 6 rfl ?_
  exact WP.mask rfl rfl h
set_option maxRecDepth 20000 in
theorem t_X8_handsFree_10 {D : Nat} (w : Nat) (l1 : Int32) (l2 : Int32) (l3 : Int32) (I : IM) (J : JM) (b : Bool) {Q : Option AV → AH → Prop} (h : (if (I 8 w 10) ≤ l3 then Q (some (vi l2)) (101, I, J, R0 b) else (vp_in l3 (LENf 33 w) ∧ (if (I 33 w l3.toNatClampNeg) ≤ l1 then WP D 69 10 [vr 8 w, vi l1, vi l2, vi (l3 + 1)] [] (101, I, J, R0 b) Q else (vp_in l3 (LENf 34 w) ∧ WP D 69 10 [vr 8 w, vi l1, vi (l2 - (I 34 w l3.toNatClampNeg)), vi (l3 + 1)] [] (101, I, J, R0 b) Q))))) : WP D 69 10 [vr 8 w, vi l1, vi l2, vi l3] [] (101, I, J, R0 b) Q := by
  refine WP.blk (pc' := 15) (L' := [vr 8 w, vi l1, vi l2, vi l3]) (st' := [vi (I 8 w 10), vi l3]) (h' := (101, I, J, R0 b)) 3 rfl ?_
  refine WP.icmp_ge (t := 43) (L' := [vr 8 w, vi l1, vi l2, vi l3]) rfl rfl rfl rfl h (fun h => ?_) (fun h => ?_)
  · refine WP.blk (pc' := 44) (L' := [vr 8 w, vi l1, vi l2, vi l3]) (st' := [vi l2]) (h' := (101, I, J, R0 b)) 1 rfl ?_
    exact WP.ret rfl rfl h
  · refine WP.blk (pc' := 23) (L' := [vr 8 w, vi l1, vi l2, vi l3]) (st' := [vi l3, vr 33 w]) (h' := (101, I, J, R0 b)) 3 rfl ?_
    refine WP.step (pc' := 24) (L' := [vr 8 w, vi l1, vi l2, vi l3]) (st' := [vi (I 33 w l3.toNatClampNeg)]) (h' := (101, I, J, R0 b)) rfl (iaload_ok (n := (LENf 33 w)) rfl rfl rfl (inA_of h.1)) ?_
    have h := And.right h
    refine WP.blk (pc' := 25) (L' := [vr 8 w, vi l1, vi l2, vi l3]) (st' := [vi l1, vi (I 33 w l3.toNatClampNeg)]) (h' := (101, I, J, R0 b)) 1 rfl ?_
    refine WP.icmp_le (t := 37) (L' := [vr 8 w, vi l1, vi l2, vi l3]) rfl rfl rfl rfl h (fun h => ?_) (fun h => ?_)
    · refine WP.blk (pc' := 10) (L' := [vr 8 w, vi l1, vi l2, vi (l3 + 1)]) (st' := []) (h' := (101, I, J, R0 b)) 2 rfl ?_
      exact WP.mask rfl rfl h
    · refine WP.blk (pc' := 34) (L' := [vr 8 w, vi l1, vi l2, vi l3]) (st' := [vi l3, vr 34 w, vi l2]) (h' := (101, I, J, R0 b)) 4 rfl ?_
      refine WP.step (pc' := 35) (L' := [vr 8 w, vi l1, vi l2, vi l3]) (st' := [vi (I 34 w l3.toNatClampNeg), vi l2]) (h' := (101, I, J, R0 b)) rfl (iaload_ok (n := (LENf 34 w)) rfl rfl rfl (inA_of h.1)) ?_
      have h := And.right h
      refine WP.blk (pc' := 10) (L' := [vr 8 w, vi l1, vi (l2 - (I 34 w l3.toNatClampNeg)), vi (l3 + 1)]) (st' := []) (h' := (101, I, J, R0 b)) 4 rfl ?_
      exact WP.mask rfl rfl h
set_option maxRecDepth 20000 in
theorem t_X8_clampsUsed {D : Nat} (w : Nat) (l1 : Int32) (I : IM) (J : JM) (b : Bool) {Q : Option AV → AH → Prop} (h : WP D 70 4 [vr 8 w, vi l1, vi 0, vi 0] [] (101, I, J, R0 b) Q) : Call (D + 1) 70 [vr 8 w, vi l1] (101, I, J, R0 b) Q := by
  refine Call.of rfl ?_
  show WP D 70 0 [vr 8 w, vi l1, vn, vn] [] (101, I, J, R0 b) Q
  refine WP.blk (pc' := 4) (L' := [vr 8 w, vi l1, vi 0, vi 0]) (st' := []) (h' := (101, I, J, R0 b)) 4 rfl ?_
  exact WP.mask rfl rfl h
set_option maxRecDepth 20000 in
theorem t_X8_clampsUsed_4 {D : Nat} (w : Nat) (l1 : Int32) (l2 : Int32) (l3 : Int32) (I : IM) (J : JM) (b : Bool) {Q : Option AV → AH → Prop} (h : (if (I 8 w 10) ≤ l3 then Q (some (vi l2)) (101, I, J, R0 b) else (vp_in l3 (LENf 33 w) ∧ (if (I 33 w l3.toNatClampNeg) ≤ l1 then WP D 70 4 [vr 8 w, vi l1, vi l2, vi (l3 + 1)] [] (101, I, J, R0 b) Q else (vp_in l3 (LENf 35 w) ∧ WP D 70 4 [vr 8 w, vi l1, vi (l2 + (I 35 w l3.toNatClampNeg)), vi (l3 + 1)] [] (101, I, J, R0 b) Q))))) : WP D 70 4 [vr 8 w, vi l1, vi l2, vi l3] [] (101, I, J, R0 b) Q := by
  refine WP.blk (pc' := 9) (L' := [vr 8 w, vi l1, vi l2, vi l3]) (st' := [vi (I 8 w 10), vi l3]) (h' := (101, I, J, R0 b)) 3 rfl ?_
  refine WP.icmp_ge (t := 37) (L' := [vr 8 w, vi l1, vi l2, vi l3]) rfl rfl rfl rfl h (fun h => ?_) (fun h => ?_)
  · refine WP.blk (pc' := 38) (L' := [vr 8 w, vi l1, vi l2, vi l3]) (st' := [vi l2]) (h' := (101, I, J, R0 b)) 1 rfl ?_
    exact WP.ret rfl rfl h
  · refine WP.blk (pc' := 17) (L' := [vr 8 w, vi l1, vi l2, vi l3]) (st' := [vi l3, vr 33 w]) (h' := (101, I, J, R0 b)) 3 rfl ?_
    refine WP.step (pc' := 18) (L' := [vr 8 w, vi l1, vi l2, vi l3]) (st' := [vi (I 33 w l3.toNatClampNeg)]) (h' := (101, I, J, R0 b)) rfl (iaload_ok (n := (LENf 33 w)) rfl rfl rfl (inA_of h.1)) ?_
    have h := And.right h
    refine WP.blk (pc' := 19) (L' := [vr 8 w, vi l1, vi l2, vi l3]) (st' := [vi l1, vi (I 33 w l3.toNatClampNeg)]) (h' := (101, I, J, R0 b)) 1 rfl ?_
    refine WP.icmp_le (t := 31) (L' := [vr 8 w, vi l1, vi l2, vi l3]) rfl rfl rfl rfl h (fun h => ?_) (fun h => ?_)
    · refine WP.blk (pc' := 4) (L' := [vr 8 w, vi l1, vi l2, vi (l3 + 1)]) (st' := []) (h' := (101, I, J, R0 b)) 2 rfl ?_
      exact WP.mask rfl rfl h
    · refine WP.blk (pc' := 28) (L' := [vr 8 w, vi l1, vi l2, vi l3]) (st' := [vi l3, vr 35 w, vi l2]) (h' := (101, I, J, R0 b)) 4 rfl ?_
      refine WP.step (pc' := 29) (L' := [vr 8 w, vi l1, vi l2, vi l3]) (st' := [vi (I 35 w l3.toNatClampNeg), vi l2]) (h' := (101, I, J, R0 b)) rfl (iaload_ok (n := (LENf 35 w)) rfl rfl rfl (inA_of h.1)) ?_
      have h := And.right h
      refine WP.blk (pc' := 4) (L' := [vr 8 w, vi l1, vi (l2 + (I 35 w l3.toNatClampNeg)), vi (l3 + 1)]) (st' := []) (h' := (101, I, J, R0 b)) 4 rfl ?_
      exact WP.mask rfl rfl h
set_option maxRecDepth 20000 in
theorem t_X8_nextHandFree {D : Nat} (w : Nat) (l1 : Int32) (I : IM) (J : JM) (b : Bool) {Q : Option AV → AH → Prop} (h : WP D 71 5 [vr 8 w, vi l1, vi 1000000, vi 0] [] (101, I, J, R0 b) Q) : Call (D + 1) 71 [vr 8 w, vi l1] (101, I, J, R0 b) Q := by
  refine Call.of rfl ?_
  show WP D 71 0 [vr 8 w, vi l1, vn, vn] [] (101, I, J, R0 b) Q
  refine WP.blk (pc' := 5) (L' := [vr 8 w, vi l1, vi 1000000, vi 0]) (st' := []) (h' := (101, I, J, R0 b)) 4 rfl ?_
  exact WP.mask rfl rfl h
set_option maxRecDepth 20000 in
theorem t_X8_nextHandFree_5 {D : Nat} (w : Nat) (l1 : Int32) (l2 : Int32) (l3 : Int32) (I : IM) (J : JM) (b : Bool) {Q : Option AV → AH → Prop} (h : (if (I 8 w 10) ≤ l3 then Q (some (vi l2)) (101, I, J, R0 b) else (vp_in l3 (LENf 34 w) ∧ (if (I 34 w l3.toNatClampNeg) ≤ 0 then WP D 71 5 [vr 8 w, vi l1, vi l2, vi (l3 + 1)] [] (101, I, J, R0 b) Q else (vp_in l3 (LENf 33 w) ∧ (if (I 33 w l3.toNatClampNeg) ≤ l1 then WP D 71 5 [vr 8 w, vi l1, vi l2, vi (l3 + 1)] [] (101, I, J, R0 b) Q else (vp_in l3 (LENf 33 w) ∧ WP D 71 5 [vr 8 w, vi l1, vi (if (I 33 w l3.toNatClampNeg) < l2 then (I 33 w l3.toNatClampNeg) else l2), vi (l3 + 1)] [] (101, I, J, R0 b) Q))))))) : WP D 71 5 [vr 8 w, vi l1, vi l2, vi l3] [] (101, I, J, R0 b) Q := by
  refine WP.blk (pc' := 10) (L' := [vr 8 w, vi l1, vi l2, vi l3]) (st' := [vi (I 8 w 10), vi l3]) (h' := (101, I, J, R0 b)) 3 rfl ?_
  refine WP.icmp_ge (t := 49) (L' := [vr 8 w, vi l1, vi l2, vi l3]) rfl rfl rfl rfl h (fun h => ?_) (fun h => ?_)
  · refine WP.blk (pc' := 50) (L' := [vr 8 w, vi l1, vi l2, vi l3]) (st' := [vi l2]) (h' := (101, I, J, R0 b)) 1 rfl ?_
    exact WP.ret rfl rfl h
  · refine WP.blk (pc' := 18) (L' := [vr 8 w, vi l1, vi l2, vi l3]) (st' := [vi l3, vr 34 w]) (h' := (101, I, J, R0 b)) 3 rfl ?_
    refine WP.step (pc' := 19) (L' := [vr 8 w, vi l1, vi l2, vi l3]) (st' := [vi (I 34 w l3.toNatClampNeg)]) (h' := (101, I, J, R0 b)) rfl (iaload_ok (n := (LENf 34 w)) rfl rfl rfl (inA_of h.1)) ?_
    have h := And.right h
    refine WP.if_le (t := 43) (L' := [vr 8 w, vi l1, vi l2, vi l3]) rfl rfl rfl rfl h (fun h => ?_) (fun h => ?_)
    · refine WP.blk (pc' := 5) (L' := [vr 8 w, vi l1, vi l2, vi (l3 + 1)]) (st' := []) (h' := (101, I, J, R0 b)) 2 rfl ?_
      exact WP.mask rfl rfl h
    · refine WP.blk (pc' := 27) (L' := [vr 8 w, vi l1, vi l2, vi l3]) (st' := [vi l3, vr 33 w]) (h' := (101, I, J, R0 b)) 3 rfl ?_
      refine WP.step (pc' := 28) (L' := [vr 8 w, vi l1, vi l2, vi l3]) (st' := [vi (I 33 w l3.toNatClampNeg)]) (h' := (101, I, J, R0 b)) rfl (iaload_ok (n := (LENf 33 w)) rfl rfl rfl (inA_of h.1)) ?_
      have h := And.right h
      refine WP.blk (pc' := 29) (L' := [vr 8 w, vi l1, vi l2, vi l3]) (st' := [vi l1, vi (I 33 w l3.toNatClampNeg)]) (h' := (101, I, J, R0 b)) 1 rfl ?_
      refine WP.icmp_le (t := 43) (L' := [vr 8 w, vi l1, vi l2, vi l3]) rfl rfl rfl rfl h (fun h => ?_) (fun h => ?_)
      · refine WP.blk (pc' := 5) (L' := [vr 8 w, vi l1, vi l2, vi (l3 + 1)]) (st' := []) (h' := (101, I, J, R0 b)) 2 rfl ?_
        exact WP.mask rfl rfl h
      · refine WP.blk (pc' := 38) (L' := [vr 8 w, vi l1, vi l2, vi l3]) (st' := [vi l3, vr 33 w, vi l2]) (h' := (101, I, J, R0 b)) 4 rfl ?_
        refine WP.step (pc' := 39) (L' := [vr 8 w, vi l1, vi l2, vi l3]) (st' := [vi (I 33 w l3.toNatClampNeg), vi l2]) (h' := (101, I, J, R0 b)) rfl (iaload_ok (n := (LENf 33 w)) rfl rfl rfl (inA_of h.1)) ?_
        have h := And.right h
        refine WP.blk (pc' := 5) (L' := [vr 8 w, vi l1, vi (if (I 33 w l3.toNatClampNeg) < l2 then (I 33 w l3.toNatClampNeg) else l2), vi (l3 + 1)]) (st' := []) (h' := (101, I, J, R0 b)) 4 rfl ?_
        exact WP.mask rfl rfl h
set_option maxRecDepth 20000 in
theorem t_X8_isSprung {D : Nat} (w : Nat) (l1 : Int32) (l2 : Int32) (I : IM) (J : JM) (b : Bool) {Q : Option AV → AH → Prop} (h : (Call D 11 [vr 1 0, vi l1, vi 5] (101, I, J, R0 b) (RIf b fun x1 I2 J3 => (if ¬ (x1 &&& (I2 8 w 11)) = 0 then WP D 72 27 [vr 8 w, vn, vi l2, vi (x1 &&& (I2 8 w 11)), vi (I2 8 w 9)] [] (101, I2, J3, R0 b) Q else Q (some (vi 0)) (101, I2, J3, R0 b))))) : Call (D + 1) 72 [vr 8 w, vi l1, vi l2] (101, I, J, R0 b) Q := by
  refine Call.of rfl ?_
  show WP D 72 0 [vr 8 w, vi l1, vi l2, vn, vn] [] (101, I, J, R0 b) Q
  refine WP.blk (pc' := 6) (L' := [vr 8 w, vi l1, vi l2, vn, vn]) (st' := [vi 5, vi l1, vr 1 0]) (h' := (101, I, J, R0 b)) 4 rfl ?_
  refine WP.cal (y' := 11) (as := [vr 1 0, vi l1, vi 5]) (L' := [vr 8 w, vi l1, vi l2, vn, vn]) (rest := []) rfl (fun f r h' hf => callV_ok hf rfl rfl rfl) h ?_
  rintro _ _ ⟨x1, I2, J3, rfl, rfl, h⟩
  refine WP.blk (pc' := 16) (L' := [vr 8 w, vi l1, vi l2, vi (x1 &&& (I2 8 w 11)), vn]) (st' := [vi (x1 &&& (I2 8 w 11))]) (h' := (101, I2, J3, R0 b)) 5 rfl ?_
  refine WP.if_ne (t := 21) (L' := [vr 8 w, vi l1, vi l2, vi (x1 &&& (I2 8 w 11)), vn]) rfl rfl rfl rfl h (fun h => ?_) (fun h => ?_)
  · refine WP.blk (pc' := 27) (L' := [vr 8 w, vi l1, vi l2, vi (x1 &&& (I2 8 w 11)), vi (I2 8 w 9)]) (st' := []) (h' := (101, I2, J3, R0 b)) 3 rfl ?_
    exact WP.mask rfl rfl h
  · refine WP.blk (pc' := 20) (L' := [vr 8 w, vi l1, vi l2, vi (x1 &&& (I2 8 w 11)), vn]) (st' := [vi 0]) (h' := (101, I2, J3, R0 b)) 1 rfl ?_
    exact WP.ret rfl rfl h
set_option maxRecDepth 20000 in
theorem t_X8_isSprung_27 {D : Nat} (w : Nat) (l2 : Int32) (l3 : Int32) (l4 : Int32) (I : IM) (J : JM) (b : Bool) {Q : Option AV → AH → Prop} (h : (if (I 8 w 10) ≤ l4 then Q (some (vi 0)) (101, I, J, R0 b) else (vp_in l4 (LENf 30 w) ∧ (if ¬ ((l3 >>> ((I 30 w l4.toNatClampNeg) &&& 31)) &&& (1 : Int32)) = (1 : Int32) then WP D 72 27 [vr 8 w, vn, vi l2, vi l3, vi (l4 + 1)] [] (101, I, J, R0 b) Q else (vp_in l4 (LENf 33 w) ∧ (if l2 < (I 33 w l4.toNatClampNeg) then WP D 72 27 [vr 8 w, vn, vi l2, vi l3, vi (l4 + 1)] [] (101, I, J, R0 b) Q else Q (some (vi 1)) (101, I, J, R0 b))))))) : WP D 72 27 [vr 8 w, vn, vi l2, vi l3, vi l4] [] (101, I, J, R0 b) Q := by
  refine WP.blk (pc' := 33) (L' := [vr 8 w, vn, vi l2, vi l3, vi l4]) (st' := [vi (I 8 w 10), vi l4]) (h' := (101, I, J, R0 b)) 3 rfl ?_
  refine WP.icmp_ge (t := 70) (L' := [vr 8 w, vn, vi l2, vi l3, vi l4]) rfl rfl rfl rfl h (fun h => ?_) (fun h => ?_)
  · refine WP.blk (pc' := 71) (L' := [vr 8 w, vn, vi l2, vi l3, vi l4]) (st' := [vi 0]) (h' := (101, I, J, R0 b)) 1 rfl ?_
    exact WP.ret rfl rfl h
  · refine WP.blk (pc' := 43) (L' := [vr 8 w, vn, vi l2, vi l3, vi l4]) (st' := [vi l4, vr 30 w, vi l3]) (h' := (101, I, J, R0 b)) 4 rfl ?_
    refine WP.step (pc' := 44) (L' := [vr 8 w, vn, vi l2, vi l3, vi l4]) (st' := [vi (I 30 w l4.toNatClampNeg), vi l3]) (h' := (101, I, J, R0 b)) rfl (iaload_ok (n := (LENf 30 w)) rfl rfl rfl (inA_of h.1)) ?_
    have h := And.right h
    refine WP.blk (pc' := 48) (L' := [vr 8 w, vn, vi l2, vi l3, vi l4]) (st' := [vi 1, vi ((l3 >>> ((I 30 w l4.toNatClampNeg) &&& 31)) &&& (1 : Int32))]) (h' := (101, I, J, R0 b)) 4 rfl ?_
    refine WP.icmp_ne (t := 64) (L' := [vr 8 w, vn, vi l2, vi l3, vi l4]) rfl rfl rfl rfl h (fun h => ?_) (fun h => ?_)
    · refine WP.blk (pc' := 27) (L' := [vr 8 w, vn, vi l2, vi l3, vi (l4 + 1)]) (st' := []) (h' := (101, I, J, R0 b)) 2 rfl ?_
      exact WP.mask rfl rfl h
    · refine WP.blk (pc' := 57) (L' := [vr 8 w, vn, vi l2, vi l3, vi l4]) (st' := [vi l4, vr 33 w]) (h' := (101, I, J, R0 b)) 3 rfl ?_
      refine WP.step (pc' := 58) (L' := [vr 8 w, vn, vi l2, vi l3, vi l4]) (st' := [vi (I 33 w l4.toNatClampNeg)]) (h' := (101, I, J, R0 b)) rfl (iaload_ok (n := (LENf 33 w)) rfl rfl rfl (inA_of h.1)) ?_
      have h := And.right h
      refine WP.blk (pc' := 59) (L' := [vr 8 w, vn, vi l2, vi l3, vi l4]) (st' := [vi l2, vi (I 33 w l4.toNatClampNeg)]) (h' := (101, I, J, R0 b)) 1 rfl ?_
      refine WP.icmp_gt (t := 64) (L' := [vr 8 w, vn, vi l2, vi l3, vi l4]) rfl rfl rfl rfl h (fun h => ?_) (fun h => ?_)
      · refine WP.blk (pc' := 27) (L' := [vr 8 w, vn, vi l2, vi l3, vi (l4 + 1)]) (st' := []) (h' := (101, I, J, R0 b)) 2 rfl ?_
        exact WP.mask rfl rfl h
      · refine WP.blk (pc' := 63) (L' := [vr 8 w, vn, vi l2, vi l3, vi l4]) (st' := [vi 1]) (h' := (101, I, J, R0 b)) 1 rfl ?_
        exact WP.ret rfl rfl h
set_option maxRecDepth 20000 in
theorem t_X8_latest {D : Nat} (w : Nat) (I : IM) (J : JM) (b : Bool) {Q : Option AV → AH → Prop} (h : WP D 73 4 [vr 8 w, vi 0, vi 0] [] (101, I, J, R0 b) Q) : Call (D + 1) 73 [vr 8 w] (101, I, J, R0 b) Q := by
  refine Call.of rfl ?_
  show WP D 73 0 [vr 8 w, vn, vn] [] (101, I, J, R0 b) Q
  refine WP.blk (pc' := 4) (L' := [vr 8 w, vi 0, vi 0]) (st' := []) (h' := (101, I, J, R0 b)) 4 rfl ?_
  exact WP.mask rfl rfl h
set_option maxRecDepth 20000 in
theorem t_X8_latest_4 {D : Nat} (w : Nat) (l1 : Int32) (l2 : Int32) (I : IM) (J : JM) (b : Bool) {Q : Option AV → AH → Prop} (h : (if (I 8 w 10) ≤ l2 then Q (some (vi l1)) (101, I, J, R0 b) else (vp_in l2 (LENf 33 w) ∧ WP D 73 4 [vr 8 w, vi (if l1 < (I 33 w l2.toNatClampNeg) then (I 33 w l2.toNatClampNeg) else l1), vi (l2 + 1)] [] (101, I, J, R0 b) Q))) : WP D 73 4 [vr 8 w, vi l1, vi l2] [] (101, I, J, R0 b) Q := by
  refine WP.blk (pc' := 9) (L' := [vr 8 w, vi l1, vi l2]) (st' := [vi (I 8 w 10), vi l2]) (h' := (101, I, J, R0 b)) 3 rfl ?_
  refine WP.icmp_ge (t := 29) (L' := [vr 8 w, vi l1, vi l2]) rfl rfl rfl rfl h (fun h => ?_) (fun h => ?_)
  · refine WP.blk (pc' := 30) (L' := [vr 8 w, vi l1, vi l2]) (st' := [vi l1]) (h' := (101, I, J, R0 b)) 1 rfl ?_
    exact WP.ret rfl rfl h
  · refine WP.blk (pc' := 18) (L' := [vr 8 w, vi l1, vi l2]) (st' := [vi l2, vr 33 w, vi l1]) (h' := (101, I, J, R0 b)) 4 rfl ?_
    refine WP.step (pc' := 19) (L' := [vr 8 w, vi l1, vi l2]) (st' := [vi (I 33 w l2.toNatClampNeg), vi l1]) (h' := (101, I, J, R0 b)) rfl (iaload_ok (n := (LENf 33 w)) rfl rfl rfl (inA_of h.1)) ?_
    have h := And.right h
    refine WP.blk (pc' := 4) (L' := [vr 8 w, vi (if l1 < (I 33 w l2.toNatClampNeg) then (I 33 w l2.toNatClampNeg) else l1), vi (l2 + 1)]) (st' := []) (h' := (101, I, J, R0 b)) 4 rfl ?_
    exact WP.mask rfl rfl h
set_option maxRecDepth 20000 in
theorem t_X8_setOf {D : Nat} (w : Nat) (l1 : Int32) (I : IM) (J : JM) (b : Bool) {Q : Option AV → AH → Prop} (h : WP D 74 5 [vr 8 w, vi l1, vi (I 8 w 9)] [] (101, I, J, R0 b) Q) : Call (D + 1) 74 [vr 8 w, vi l1] (101, I, J, R0 b) Q := by
  refine Call.of rfl ?_
  show WP D 74 0 [vr 8 w, vi l1, vn] [] (101, I, J, R0 b) Q
  refine WP.blk (pc' := 5) (L' := [vr 8 w, vi l1, vi (I 8 w 9)]) (st' := []) (h' := (101, I, J, R0 b)) 3 rfl ?_
  exact WP.mask rfl rfl h
set_option maxRecDepth 20000 in
theorem t_X8_setOf_5 {D : Nat} (w : Nat) (l1 : Int32) (l2 : Int32) (I : IM) (J : JM) (b : Bool) {Q : Option AV → AH → Prop} (h : (if (I 8 w 10) ≤ l2 then Q (some (vi (-2))) (101, I, J, R0 b) else (vp_in l2 (LENf 30 w) ∧ (if ¬ (I 30 w l2.toNatClampNeg) = l1 then WP D 74 5 [vr 8 w, vi l1, vi (l2 + 1)] [] (101, I, J, R0 b) Q else (vp_in l2 (LENf 33 w) ∧ Q (some (vi (I 33 w l2.toNatClampNeg))) (101, I, J, R0 b)))))) : WP D 74 5 [vr 8 w, vi l1, vi l2] [] (101, I, J, R0 b) Q := by
  refine WP.blk (pc' := 10) (L' := [vr 8 w, vi l1, vi l2]) (st' := [vi (I 8 w 10), vi l2]) (h' := (101, I, J, R0 b)) 3 rfl ?_
  refine WP.icmp_ge (t := 36) (L' := [vr 8 w, vi l1, vi l2]) rfl rfl rfl rfl h (fun h => ?_) (fun h => ?_)
  · refine WP.blk (pc' := 38) (L' := [vr 8 w, vi l1, vi l2]) (st' := [vi (-2)]) (h' := (101, I, J, R0 b)) 1 rfl ?_
    exact WP.ret rfl rfl h
  · refine WP.blk (pc' := 18) (L' := [vr 8 w, vi l1, vi l2]) (st' := [vi l2, vr 30 w]) (h' := (101, I, J, R0 b)) 3 rfl ?_
    refine WP.step (pc' := 19) (L' := [vr 8 w, vi l1, vi l2]) (st' := [vi (I 30 w l2.toNatClampNeg)]) (h' := (101, I, J, R0 b)) rfl (iaload_ok (n := (LENf 30 w)) rfl rfl rfl (inA_of h.1)) ?_
    have h := And.right h
    refine WP.blk (pc' := 20) (L' := [vr 8 w, vi l1, vi l2]) (st' := [vi l1, vi (I 30 w l2.toNatClampNeg)]) (h' := (101, I, J, R0 b)) 1 rfl ?_
    refine WP.icmp_ne (t := 30) (L' := [vr 8 w, vi l1, vi l2]) rfl rfl rfl rfl h (fun h => ?_) (fun h => ?_)
    · refine WP.blk (pc' := 5) (L' := [vr 8 w, vi l1, vi (l2 + 1)]) (st' := []) (h' := (101, I, J, R0 b)) 2 rfl ?_
      exact WP.mask rfl rfl h
    · refine WP.blk (pc' := 28) (L' := [vr 8 w, vi l1, vi l2]) (st' := [vi l2, vr 33 w]) (h' := (101, I, J, R0 b)) 3 rfl ?_
      refine WP.step (pc' := 29) (L' := [vr 8 w, vi l1, vi l2]) (st' := [vi (I 33 w l2.toNatClampNeg)]) (h' := (101, I, J, R0 b)) rfl (iaload_ok (n := (LENf 33 w)) rfl rfl rfl (inA_of h.1)) ?_
      have h := And.right h
      exact WP.ret rfl rfl h
set_option maxRecDepth 20000 in
theorem t_X8_firstNotSo {D : Nat} (w : Nat) (w1 : Nat) (I : IM) (J : JM) (b : Bool) {Q : Option AV → AH → Prop} (h : WP D 75 2 [vr 8 w, vr 6 w1, vi 0, vn] [] (101, I, J, R0 b) Q) : Call (D + 1) 75 [vr 8 w, vr 6 w1] (101, I, J, R0 b) Q := by
  refine Call.of rfl ?_
  show WP D 75 0 [vr 8 w, vr 6 w1, vn, vn] [] (101, I, J, R0 b) Q
  refine WP.blk (pc' := 2) (L' := [vr 8 w, vr 6 w1, vi 0, vn]) (st' := []) (h' := (101, I, J, R0 b)) 2 rfl ?_
  exact WP.mask rfl rfl h
set_option maxRecDepth 20000 in
theorem t_X8_firstNotSo_2 {D : Nat} (w : Nat) (w1 : Nat) (l2 : Int32) (I : IM) (J : JM) (b : Bool) {Q : Option AV → AH → Prop} (h : (if (I 6 w1 3) ≤ l2 then Q (some (vi (-2))) (101, I, J, R0 b) else (vp_in l2 60 ∧ (Call D 74 [vr 8 w, vi ((J 41 w1 l2.toNatClampNeg)).toInt32] (101, I, J, R0 b) (RIf b fun x1 I2 J3 => (if x1 < 0 then Q (some (vi (l2 / (2 : Int32)))) (101, I2, J3, R0 b) else (if (I2 6 w1 3) ≤ (l2 + (1 : Int32)) then Q (some (vi (l2 / (2 : Int32)))) (101, I2, J3, R0 b) else (vp_in (l2 + (1 : Int32)) 60 ∧ (if (lg_cmp (J3 41 w1 (l2 + (1 : Int32)).toNatClampNeg) (x1).toInt64) = 0 then WP D 75 2 [vr 8 w, vr 6 w1, vi (l2 + 2), vn] [] (101, I2, J3, R0 b) Q else Q (some (vi (l2 / (2 : Int32)))) (101, I2, J3, R0 b)))))))))) : WP D 75 2 [vr 8 w, vr 6 w1, vi l2, vn] [] (101, I, J, R0 b) Q := by
  refine WP.blk (pc' := 7) (L' := [vr 8 w, vr 6 w1, vi l2, vn]) (st' := [vi (I 6 w1 3), vi l2]) (h' := (101, I, J, R0 b)) 3 rfl ?_
  refine WP.icmp_ge (t := 60) (L' := [vr 8 w, vr 6 w1, vi l2, vn]) rfl rfl rfl rfl h (fun h => ?_) (fun h => ?_)
  · refine WP.blk (pc' := 62) (L' := [vr 8 w, vr 6 w1, vi l2, vn]) (st' := [vi (-2)]) (h' := (101, I, J, R0 b)) 1 rfl ?_
    exact WP.ret rfl rfl h
  · refine WP.blk (pc' := 16) (L' := [vr 8 w, vr 6 w1, vi l2, vn]) (st' := [vi l2, vr 41 w1, vr 8 w]) (h' := (101, I, J, R0 b)) 4 rfl ?_
    refine WP.step (pc' := 17) (L' := [vr 8 w, vr 6 w1, vi l2, vn]) (st' := [vl (J 41 w1 l2.toNatClampNeg), vr 8 w]) (h' := (101, I, J, R0 b)) rfl (laload_ok (n := 60) rfl rfl rfl (inA_of h.1)) ?_
    have h := And.right h
    refine WP.blk (pc' := 18) (L' := [vr 8 w, vr 6 w1, vi l2, vn]) (st' := [vi ((J 41 w1 l2.toNatClampNeg)).toInt32, vr 8 w]) (h' := (101, I, J, R0 b)) 1 rfl ?_
    refine WP.cal (y' := 74) (as := [vr 8 w, vi ((J 41 w1 l2.toNatClampNeg)).toInt32]) (L' := [vr 8 w, vr 6 w1, vi l2, vn]) (rest := []) rfl (fun f r h' hf => callV_ok hf rfl rfl rfl) h ?_
    rintro _ _ ⟨x1, I2, J3, rfl, rfl, h⟩
    refine WP.blk (pc' := 23) (L' := [vr 8 w, vr 6 w1, vi l2, vi x1]) (st' := [vi x1]) (h' := (101, I2, J3, R0 b)) 2 rfl ?_
    refine WP.if_lt (t := 50) (L' := [vr 8 w, vr 6 w1, vi l2, vi x1]) rfl rfl rfl rfl h (fun h => ?_) (fun h => ?_)
    · refine WP.blk (pc' := 53) (L' := [vn, vn, vi l2, vn]) (st' := [vi (l2 / (2 : Int32))]) (h' := (101, I2, J3, R0 b)) 3 rfl ?_
      exact WP.ret rfl rfl h
    · refine WP.blk (pc' := 33) (L' := [vr 8 w, vr 6 w1, vi l2, vi x1]) (st' := [vi (I2 6 w1 3), vi (l2 + (1 : Int32))]) (h' := (101, I2, J3, R0 b)) 5 rfl ?_
      refine WP.icmp_ge (t := 50) (L' := [vr 8 w, vr 6 w1, vi l2, vi x1]) rfl rfl rfl rfl h (fun h => ?_) (fun h => ?_)
      · refine WP.blk (pc' := 53) (L' := [vn, vn, vi l2, vn]) (st' := [vi (l2 / (2 : Int32))]) (h' := (101, I2, J3, R0 b)) 3 rfl ?_
        exact WP.ret rfl rfl h
      · refine WP.blk (pc' := 43) (L' := [vr 8 w, vr 6 w1, vi l2, vi x1]) (st' := [vi (l2 + (1 : Int32)), vr 41 w1]) (h' := (101, I2, J3, R0 b)) 5 rfl ?_
        refine WP.step (pc' := 44) (L' := [vr 8 w, vr 6 w1, vi l2, vi x1]) (st' := [vl (J3 41 w1 (l2 + (1 : Int32)).toNatClampNeg)]) (h' := (101, I2, J3, R0 b)) rfl (laload_ok (n := 60) rfl rfl rfl (inA_of h.1)) ?_
        have h := And.right h
        refine WP.blk (pc' := 47) (L' := [vr 8 w, vr 6 w1, vi l2, vi x1]) (st' := [vi (lg_cmp (J3 41 w1 (l2 + (1 : Int32)).toNatClampNeg) (x1).toInt64)]) (h' := (101, I2, J3, R0 b)) 3 rfl ?_
        refine WP.if_eq (t := 54) (L' := [vr 8 w, vr 6 w1, vi l2, vi x1]) rfl rfl rfl rfl h (fun h => ?_) (fun h => ?_)
        · refine WP.blk (pc' := 2) (L' := [vr 8 w, vr 6 w1, vi (l2 + 2), vi x1]) (st' := []) (h' := (101, I2, J3, R0 b)) 2 rfl ?_
          exact WP.mask rfl rfl h
        · refine WP.blk (pc' := 53) (L' := [vn, vn, vi l2, vn]) (st' := [vi (l2 / (2 : Int32))]) (h' := (101, I2, J3, R0 b)) 3 rfl ?_
          exact WP.ret rfl rfl h
set_option maxRecDepth 20000 in
theorem t_X8_heldByHands {D : Nat} (w : Nat) (I : IM) (J : JM) (b : Bool) {Q : Option AV → AH → Prop} (h : WP D 76 7 [vr 8 w, vi 0, vi (I 8 w 9)] [] (101, I, J, R0 b) Q) : Call (D + 1) 76 [vr 8 w] (101, I, J, R0 b) Q := by
  refine Call.of rfl ?_
  show WP D 76 0 [vr 8 w, vn, vn] [] (101, I, J, R0 b) Q
  refine WP.blk (pc' := 7) (L' := [vr 8 w, vi 0, vi (I 8 w 9)]) (st' := []) (h' := (101, I, J, R0 b)) 5 rfl ?_
  exact WP.mask rfl rfl h
set_option maxRecDepth 20000 in
theorem t_X8_heldByHands_7 {D : Nat} (w : Nat) (l1 : Int32) (l2 : Int32) (I : IM) (J : JM) (b : Bool) {Q : Option AV → AH → Prop} (h : (if (I 8 w 10) ≤ l2 then Q (some (vi l1)) (101, I, J, R0 b) else (vp_in l2 (LENf 34 w) ∧ (if (I 34 w l2.toNatClampNeg) ≤ 0 then WP D 76 7 [vr 8 w, vi l1, vi (l2 + 1)] [] (101, I, J, R0 b) Q else (vp_in l2 (LENf 30 w) ∧ WP D 76 7 [vr 8 w, vi (l1 ||| ((1 : Int32) <<< ((I 30 w l2.toNatClampNeg) &&& 31))), vi (l2 + 1)] [] (101, I, J, R0 b) Q))))) : WP D 76 7 [vr 8 w, vi l1, vi l2] [] (101, I, J, R0 b) Q := by
  refine WP.blk (pc' := 12) (L' := [vr 8 w, vi l1, vi l2]) (st' := [vi (I 8 w 10), vi l2]) (h' := (101, I, J, R0 b)) 3 rfl ?_
  refine WP.icmp_ge (t := 41) (L' := [vr 8 w, vi l1, vi l2]) rfl rfl rfl rfl h (fun h => ?_) (fun h => ?_)
  · refine WP.blk (pc' := 42) (L' := [vr 8 w, vi l1, vi l2]) (st' := [vi l1]) (h' := (101, I, J, R0 b)) 1 rfl ?_
    exact WP.ret rfl rfl h
  · refine WP.blk (pc' := 20) (L' := [vr 8 w, vi l1, vi l2]) (st' := [vi l2, vr 34 w]) (h' := (101, I, J, R0 b)) 3 rfl ?_
    refine WP.step (pc' := 21) (L' := [vr 8 w, vi l1, vi l2]) (st' := [vi (I 34 w l2.toNatClampNeg)]) (h' := (101, I, J, R0 b)) rfl (iaload_ok (n := (LENf 34 w)) rfl rfl rfl (inA_of h.1)) ?_
    have h := And.right h
    refine WP.if_le (t := 35) (L' := [vr 8 w, vi l1, vi l2]) rfl rfl rfl rfl h (fun h => ?_) (fun h => ?_)
    · refine WP.blk (pc' := 7) (L' := [vr 8 w, vi l1, vi (l2 + 1)]) (st' := []) (h' := (101, I, J, R0 b)) 2 rfl ?_
      exact WP.mask rfl rfl h
    · refine WP.blk (pc' := 31) (L' := [vr 8 w, vi l1, vi l2]) (st' := [vi l2, vr 30 w, vi 1, vi l1]) (h' := (101, I, J, R0 b)) 5 rfl ?_
      refine WP.step (pc' := 32) (L' := [vr 8 w, vi l1, vi l2]) (st' := [vi (I 30 w l2.toNatClampNeg), vi 1, vi l1]) (h' := (101, I, J, R0 b)) rfl (iaload_ok (n := (LENf 30 w)) rfl rfl rfl (inA_of h.1)) ?_
      have h := And.right h
      refine WP.blk (pc' := 7) (L' := [vr 8 w, vi (l1 ||| ((1 : Int32) <<< ((I 30 w l2.toNatClampNeg) &&& 31))), vi (l2 + 1)]) (st' := []) (h' := (101, I, J, R0 b)) 5 rfl ?_
      exact WP.mask rfl rfl h
set_option maxRecDepth 20000 in
theorem t_X8_clampsAtOnce {D : Nat} (w : Nat) (I : IM) (J : JM) (b : Bool) {Q : Option AV → AH → Prop} (h : WP D 77 4 [vr 8 w, vi 0, vi 0, vn, vn] [] (101, I, J, R0 b) Q) : Call (D + 1) 77 [vr 8 w] (101, I, J, R0 b) Q := by
  refine Call.of rfl ?_
  show WP D 77 0 [vr 8 w, vn, vn, vn, vn] [] (101, I, J, R0 b) Q
  refine WP.blk (pc' := 4) (L' := [vr 8 w, vi 0, vi 0, vn, vn]) (st' := []) (h' := (101, I, J, R0 b)) 4 rfl ?_
  exact WP.mask rfl rfl h
set_option maxRecDepth 20000 in
theorem t_X8_clampsAtOnce_4 {D : Nat} (w : Nat) (l1 : Int32) (l2 : Int32) (I : IM) (J : JM) (b : Bool) {Q : Option AV → AH → Prop} (h : (if (I 8 w 10) ≤ l2 then Q (some (vi l1)) (101, I, J, R0 b) else WP D 77 17 [vr 8 w, vi l1, vi l2, vi 0, vi 0] [] (101, I, J, R0 b) Q)) : WP D 77 4 [vr 8 w, vi l1, vi l2, vn, vn] [] (101, I, J, R0 b) Q := by
  refine WP.blk (pc' := 9) (L' := [vr 8 w, vi l1, vi l2, vn, vn]) (st' := [vi (I 8 w 10), vi l2]) (h' := (101, I, J, R0 b)) 3 rfl ?_
  refine WP.icmp_ge (t := 71) (L' := [vr 8 w, vi l1, vi l2, vn, vn]) rfl rfl rfl rfl h (fun h => ?_) (fun h => ?_)
  · refine WP.blk (pc' := 72) (L' := [vr 8 w, vi l1, vi l2, vn, vn]) (st' := [vi l1]) (h' := (101, I, J, R0 b)) 1 rfl ?_
    exact WP.ret rfl rfl h
  · refine WP.blk (pc' := 17) (L' := [vr 8 w, vi l1, vi l2, vi 0, vi 0]) (st' := []) (h' := (101, I, J, R0 b)) 4 rfl ?_
    exact WP.mask rfl rfl h
set_option maxRecDepth 20000 in
theorem t_X8_clampsAtOnce_17 {D : Nat} (w : Nat) (l1 : Int32) (l2 : Int32) (l3 : Int32) (l4 : Int32) (I : IM) (J : JM) (b : Bool) {Q : Option AV → AH → Prop} (h : (if l2 < l4 then WP D 77 4 [vr 8 w, vi (if l1 < l3 then l3 else l1), vi (l2 + 1), vn, vn] [] (101, I, J, R0 b) Q else (vp_in l4 (LENf 33 w) ∧ (vp_in l2 (LENf 32 w) ∧ (if (I 33 w l4.toNatClampNeg) ≤ (I 32 w l2.toNatClampNeg) then WP D 77 17 [vr 8 w, vi l1, vi l2, vi (l3 + (0 : Int32)), vi (l4 + 1)] [] (101, I, J, R0 b) Q else (vp_in l4 (LENf 35 w) ∧ WP D 77 17 [vr 8 w, vi l1, vi l2, vi (l3 + (I 35 w l4.toNatClampNeg)), vi (l4 + 1)] [] (101, I, J, R0 b) Q)))))) : WP D 77 17 [vr 8 w, vi l1, vi l2, vi l3, vi l4] [] (101, I, J, R0 b) Q := by
  refine WP.blk (pc' := 20) (L' := [vr 8 w, vi l1, vi l2, vi l3, vi l4]) (st' := [vi l2, vi l4]) (h' := (101, I, J, R0 b)) 2 rfl ?_
  refine WP.icmp_gt (t := 59) (L' := [vr 8 w, vi l1, vi l2, vi l3, vi l4]) rfl rfl rfl rfl h (fun h => ?_) (fun h => ?_)
  · refine WP.blk (pc' := 4) (L' := [vr 8 w, vi (if l1 < l3 then l3 else l1), vi (l2 + 1), vi l3, vi l4]) (st' := []) (h' := (101, I, J, R0 b)) 6 rfl ?_
    exact WP.mask rfl rfl h
  · refine WP.blk (pc' := 30) (L' := [vr 8 w, vi l1, vi l2, vi l3, vi l4]) (st' := [vi l4, vr 33 w, vi l3]) (h' := (101, I, J, R0 b)) 4 rfl ?_
    refine WP.step (pc' := 31) (L' := [vr 8 w, vi l1, vi l2, vi l3, vi l4]) (st' := [vi (I 33 w l4.toNatClampNeg), vi l3]) (h' := (101, I, J, R0 b)) rfl (iaload_ok (n := (LENf 33 w)) rfl rfl rfl (inA_of h.1)) ?_
    have h := And.right h
    refine WP.blk (pc' := 36) (L' := [vr 8 w, vi l1, vi l2, vi l3, vi l4]) (st' := [vi l2, vr 32 w, vi (I 33 w l4.toNatClampNeg), vi l3]) (h' := (101, I, J, R0 b)) 3 rfl ?_
    refine WP.step (pc' := 37) (L' := [vr 8 w, vi l1, vi l2, vi l3, vi l4]) (st' := [vi (I 32 w l2.toNatClampNeg), vi (I 33 w l4.toNatClampNeg), vi l3]) (h' := (101, I, J, R0 b)) rfl (iaload_ok (n := (LENf 32 w)) rfl rfl rfl (inA_of h.1)) ?_
    have h := And.right h
    refine WP.icmp_le (t := 50) (L' := [vr 8 w, vi l1, vi l2, vi l3, vi l4]) rfl rfl rfl rfl h (fun h => ?_) (fun h => ?_)
    · refine WP.blk (pc' := 17) (L' := [vr 8 w, vi l1, vi l2, vi (l3 + (0 : Int32)), vi (l4 + 1)]) (st' := []) (h' := (101, I, J, R0 b)) 5 rfl ?_
      exact WP.mask rfl rfl h
    · refine WP.blk (pc' := 46) (L' := [vr 8 w, vi l1, vi l2, vi l3, vi l4]) (st' := [vi l4, vr 35 w, vi l3]) (h' := (101, I, J, R0 b)) 3 rfl ?_
      refine WP.step (pc' := 47) (L' := [vr 8 w, vi l1, vi l2, vi l3, vi l4]) (st' := [vi (I 35 w l4.toNatClampNeg), vi l3]) (h' := (101, I, J, R0 b)) rfl (iaload_ok (n := (LENf 35 w)) rfl rfl rfl (inA_of h.1)) ?_
      have h := And.right h
      refine WP.blk (pc' := 17) (L' := [vr 8 w, vi l1, vi l2, vi (l3 + (I 35 w l4.toNatClampNeg)), vi (l4 + 1)]) (st' := []) (h' := (101, I, J, R0 b)) 5 rfl ?_
      exact WP.mask rfl rfl h
