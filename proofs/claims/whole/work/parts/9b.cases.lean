/-! THE LAW'S CASES -/
theorem cmp_self (x : Int64) : lg_cmp x x = 0 := by
  unfold lg_cmp
  rw [if_neg (by exact Int64.lt_irrefl), if_pos rfl]
section LWC
variable {Lx : Nat} {xs : Nat → Int32} {P : WT} {I : IM} {J : JM} {g : Sg} {b : Bool} {t k : Nat}
theorem lwc_0 (hP : LwR Lx xs P) (hL : Lx ≤ 3072) (ht : t + 6 ≤ Lx) (hc : k < 512) (hX : XR g I J b) (hM : MR g I J) (hO : SOK g k) (hK : GoOn P t (k + 1)) : P 101 4471 220 (LsT t) [] (101, I, J, R0 b) := by
  refine hP.one (c' := 101) (s' := 4471) (pc' := 221) (L' := LsT t) (st' := [vr 9 0]) (h' := (101, I, J, R0 b)) rfl rfl ?_
  refine hP.rd (j := 1) rfl rfl rfl rfl rfl rfl (by omega) hL ?_
  refine hP.rd (j := 2) rfl rfl rfl rfl rfl rfl (by omega) hL ?_
  exact hP.op (pc := 231) (pc2 := 245) (st2 := [vi (xs (t + 2)), vi (xs (t + 1))]) (as := [vi (xs (t + 1)), vi (xs (t + 2))]) (op_joint _ _) hc hX hM hO hK rfl rfl rfl rfl (fun x h1 K => (hP.rd (j := 1) rfl rfl rfl rfl rfl rfl (by omega) hL (hP.rd (j := 2) rfl rfl rfl rfl rfl rfl (by omega) hL K))) rfl (fun _ => rfl) (fun _ => rfl) rfl
theorem lwc_1 (hP : LwR Lx xs P) (hL : Lx ≤ 3072) (ht : t + 6 ≤ Lx) (hc : k < 512) (hX : XR g I J b) (hM : MR g I J) (hO : SOK g k) (hK : GoOn P t (k + 1)) : P 101 4471 253 (LsT t) [] (101, I, J, R0 b) := by
  refine hP.one (c' := 101) (s' := 4471) (pc' := 254) (L' := LsT t) (st' := [vr 9 0]) (h' := (101, I, J, R0 b)) rfl rfl ?_
  refine hP.rd (j := 1) rfl rfl rfl rfl rfl rfl (by omega) hL ?_
  refine hP.rd (j := 2) rfl rfl rfl rfl rfl rfl (by omega) hL ?_
  refine hP.rd (j := 3) rfl rfl rfl rfl rfl rfl (by omega) hL ?_
  exact hP.op (pc := 269) (pc2 := 288) (st2 := [vi (xs (t + 3)), vi (xs (t + 2)), vi (xs (t + 1))]) (as := [vi (xs (t + 1)), vi (xs (t + 2)), vi (xs (t + 3))]) (op_joints _ _ _) hc hX hM hO hK rfl rfl rfl rfl (fun x h1 K => (hP.rd (j := 1) rfl rfl rfl rfl rfl rfl (by omega) hL (hP.rd (j := 2) rfl rfl rfl rfl rfl rfl (by omega) hL (hP.rd (j := 3) rfl rfl rfl rfl rfl rfl (by omega) hL K)))) rfl (fun _ => rfl) (fun _ => rfl) rfl
theorem lwc_2 (hP : LwR Lx xs P) (hL : Lx ≤ 3072) (ht : t + 6 ≤ Lx) (hc : k < 512) (hX : XR g I J b) (hM : MR g I J) (hO : SOK g k) (hK : GoOn P t (k + 1)) : P 101 4471 296 (LsT t) [] (101, I, J, R0 b) := by
  refine hP.one (c' := 101) (s' := 4471) (pc' := 297) (L' := LsT t) (st' := [vr 9 0]) (h' := (101, I, J, R0 b)) rfl rfl ?_
  refine hP.rd (j := 1) rfl rfl rfl rfl rfl rfl (by omega) hL ?_
  refine hP.rd (j := 2) rfl rfl rfl rfl rfl rfl (by omega) hL ?_
  refine hP.rd (j := 3) rfl rfl rfl rfl rfl rfl (by omega) hL ?_
  exact hP.op (pc := 312) (pc2 := 331) (st2 := [vi (xs (t + 3)), vi (xs (t + 2)), vi (xs (t + 1))]) (as := [vi (xs (t + 1)), vi (xs (t + 2)), vi (xs (t + 3))]) (op_mend _ _ _) hc hX hM hO hK rfl rfl rfl rfl (fun x h1 K => (hP.rd (j := 1) rfl rfl rfl rfl rfl rfl (by omega) hL (hP.rd (j := 2) rfl rfl rfl rfl rfl rfl (by omega) hL (hP.rd (j := 3) rfl rfl rfl rfl rfl rfl (by omega) hL K)))) rfl (fun _ => rfl) (fun _ => rfl) rfl
theorem lwc_3 (hP : LwR Lx xs P) (hL : Lx ≤ 3072) (ht : t + 6 ≤ Lx) (hc : k < 512) (hX : XR g I J b) (hM : MR g I J) (hO : SOK g k) (hK : GoOn P t (k + 1)) : P 101 4471 339 (LsT t) [] (101, I, J, R0 b) := by
  refine hP.one (c' := 101) (s' := 4471) (pc' := 340) (L' := LsT t) (st' := [vr 9 0]) (h' := (101, I, J, R0 b)) rfl rfl ?_
  refine hP.rd (j := 1) rfl rfl rfl rfl rfl rfl (by omega) hL ?_
  refine hP.rd (j := 2) rfl rfl rfl rfl rfl rfl (by omega) hL ?_
  exact hP.op (pc := 350) (pc2 := 364) (st2 := [vi (xs (t + 2)), vi (xs (t + 1))]) (as := [vi (xs (t + 1)), vi (xs (t + 2))]) (op_of _ _) hc hX hM hO hK rfl rfl rfl rfl (fun x h1 K => (hP.rd (j := 1) rfl rfl rfl rfl rfl rfl (by omega) hL (hP.rd (j := 2) rfl rfl rfl rfl rfl rfl (by omega) hL K))) rfl (fun _ => rfl) (fun _ => rfl) rfl
theorem lwc_4 (hP : LwR Lx xs P) (hL : Lx ≤ 3072) (ht : t + 6 ≤ Lx) (hc : k < 512) (hX : XR g I J b) (hM : MR g I J) (hO : SOK g k) (hK : GoOn P t (k + 1)) : P 101 4471 372 (LsT t) [] (101, I, J, R0 b) := by
  refine hP.one (c' := 101) (s' := 4471) (pc' := 373) (L' := LsT t) (st' := [vr 9 0]) (h' := (101, I, J, R0 b)) rfl rfl ?_
  refine hP.rd (j := 1) rfl rfl rfl rfl rfl rfl (by omega) hL ?_
  exact hP.op (pc := 378) (pc2 := 387) (st2 := [vi (xs (t + 1))]) (as := [vi (xs (t + 1))]) (op_feed _) hc hX hM hO hK rfl rfl rfl rfl (fun x h1 K => (hP.rd (j := 1) rfl rfl rfl rfl rfl rfl (by omega) hL K)) rfl (fun _ => rfl) (fun _ => rfl) rfl
theorem lwc_5 (hP : LwR Lx xs P) (hL : Lx ≤ 3072) (ht : t + 6 ≤ Lx) (hc : k < 512) (hX : XR g I J b) (hM : MR g I J) (hO : SOK g k) (hK : GoOn P t (k + 1)) : P 101 4471 395 (LsT t) [] (101, I, J, R0 b) := by
  refine hP.one (c' := 101) (s' := 4471) (pc' := 396) (L' := LsT t) (st' := [vr 9 0]) (h' := (101, I, J, R0 b)) rfl rfl ?_
  refine hP.cal (pc := 396) (rest := []) (op_law g k I J b hc hX hM hO) rfl rfl rfl ?_
  rintro _ _ ⟨x, I1, b1, rfl, hh, cl⟩
  have K1 : P 101 4471 399 (LsT t) [vi x] (101, I1, J, R0 b1) := by
    refine hP.one (c' := 101) (s' := 4471) (pc' := 400) (L' := LsT t) (st' := [vr 10 0, vi x]) (h' := (101, I1, J, R0 b1)) rfl rfl ?_
    refine hP.cal (pc := 400) (rest := [vi x]) cl rfl rfl rfl ?_
    rintro _ _ ⟨x2, I2, J2, rfl, rfl, rfl, g', hX', hM', hO'⟩
    exact hP.icmp rfl (hK g' I2 J2 b1 hX' hM' hO')
  rcases hh with ⟨rfl, rfl⟩ | ⟨rfl, rfl⟩
  · exact K1
  · exact hP.2.2.2 _ _ _ _ _ _ _ _ _ (agR_RX b) (okR_R0 _ _ _) K1
theorem lwc_6 (hP : LwR Lx xs P) (hL : Lx ≤ 3072) (ht : t + 6 ≤ Lx) (hc : k < 512) (hX : XR g I J b) (hM : MR g I J) (hO : SOK g k) (hK : GoOn P t (k + 1)) : P 101 4471 408 (LsT t) [] (101, I, J, R0 b) := by
  refine hP.one (c' := 101) (s' := 4471) (pc' := 409) (L' := LsT t) (st' := [vr 9 0]) (h' := (101, I, J, R0 b)) rfl rfl ?_
  refine hP.rd (j := 1) rfl rfl rfl rfl rfl rfl (by omega) hL ?_
  exact hP.op (pc := 414) (pc2 := 423) (st2 := [vi (xs (t + 1))]) (as := [vi (xs (t + 1))]) (op_sets _) hc hX hM hO hK rfl rfl rfl rfl (fun x h1 K => (hP.rd (j := 1) rfl rfl rfl rfl rfl rfl (by omega) hL K)) rfl (fun _ => rfl) (fun _ => rfl) rfl
theorem lwc_7 (hP : LwR Lx xs P) (hL : Lx ≤ 3072) (ht : t + 6 ≤ Lx) (hc : k < 512) (hX : XR g I J b) (hM : MR g I J) (hO : SOK g k) (hK : GoOn P t (k + 1)) : P 101 4471 431 (LsT t) [] (101, I, J, R0 b) := by
  refine hP.one (c' := 101) (s' := 4471) (pc' := 432) (L' := LsT t) (st' := [vr 9 0]) (h' := (101, I, J, R0 b)) rfl rfl ?_
  refine hP.rd (j := 1) rfl rfl rfl rfl rfl rfl (by omega) hL ?_
  refine hP.rd (j := 2) rfl rfl rfl rfl rfl rfl (by omega) hL ?_
  refine hP.rd (j := 3) rfl rfl rfl rfl rfl rfl (by omega) hL ?_
  exact hP.op (pc := 447) (pc2 := 466) (st2 := [vi (xs (t + 3)), vi (xs (t + 2)), vi (xs (t + 1))]) (as := [vi (xs (t + 1)), vi (xs (t + 2)), vi (xs (t + 3))]) (op_order _ _ _) hc hX hM hO hK rfl rfl rfl rfl (fun x h1 K => (hP.rd (j := 1) rfl rfl rfl rfl rfl rfl (by omega) hL (hP.rd (j := 2) rfl rfl rfl rfl rfl rfl (by omega) hL (hP.rd (j := 3) rfl rfl rfl rfl rfl rfl (by omega) hL K)))) rfl (fun _ => rfl) (fun _ => rfl) rfl
theorem lwc_8 (hP : LwR Lx xs P) (hL : Lx ≤ 3072) (ht : t + 6 ≤ Lx) (hc : k < 512) (hX : XR g I J b) (hM : MR g I J) (hO : SOK g k) (hK : GoOn P t (k + 1)) : P 101 4471 474 (LsT t) [] (101, I, J, R0 b) := by
  refine hP.one (c' := 101) (s' := 4471) (pc' := 475) (L' := LsT t) (st' := [vr 9 0]) (h' := (101, I, J, R0 b)) rfl rfl ?_
  refine hP.rd (j := 1) rfl rfl rfl rfl rfl rfl (by omega) hL ?_
  refine hP.rd (j := 2) rfl rfl rfl rfl rfl rfl (by omega) hL ?_
  exact hP.op (pc := 485) (pc2 := 499) (st2 := [vi (xs (t + 2)), vi (xs (t + 1))]) (as := [vi (xs (t + 1)), vi (xs (t + 2))]) (op_done _ _) hc hX hM hO hK rfl rfl rfl rfl (fun x h1 K => (hP.rd (j := 1) rfl rfl rfl rfl rfl rfl (by omega) hL (hP.rd (j := 2) rfl rfl rfl rfl rfl rfl (by omega) hL K))) rfl (fun _ => rfl) (fun _ => rfl) rfl
theorem lwc_9 (hP : LwR Lx xs P) (hL : Lx ≤ 3072) (ht : t + 6 ≤ Lx) (hc : k < 512) (hX : XR g I J b) (hM : MR g I J) (hO : SOK g k) (hK : GoOn P t (k + 1)) : P 101 4471 507 (LsT t) [] (101, I, J, R0 b) := by
  refine hP.one (c' := 101) (s' := 4471) (pc' := 508) (L' := LsT t) (st' := [vr 9 0]) (h' := (101, I, J, R0 b)) rfl rfl ?_
  refine hP.rd (j := 1) rfl rfl rfl rfl rfl rfl (by omega) hL ?_
  exact hP.op (pc := 513) (pc2 := 522) (st2 := [vi (xs (t + 1))]) (as := [vi (xs (t + 1))]) (op_can _) hc hX hM hO hK rfl rfl rfl rfl (fun x h1 K => (hP.rd (j := 1) rfl rfl rfl rfl rfl rfl (by omega) hL K)) rfl (fun _ => rfl) (fun _ => rfl) rfl
theorem lwc_10 (hP : LwR Lx xs P) (hL : Lx ≤ 3072) (ht : t + 6 ≤ Lx) (hc : k < 512) (hX : XR g I J b) (hM : MR g I J) (hO : SOK g k) (hK : GoOn P t (k + 1)) : P 101 4471 530 (LsT t) [] (101, I, J, R0 b) := by
  refine hP.one (c' := 101) (s' := 4471) (pc' := 531) (L' := LsT t) (st' := [vr 9 0]) (h' := (101, I, J, R0 b)) rfl rfl ?_
  refine hP.rd (j := 1) rfl rfl rfl rfl rfl rfl (by omega) hL ?_
  exact hP.op (pc := 536) (pc2 := 545) (st2 := [vi (xs (t + 1))]) (as := [vi (xs (t + 1))]) (op_soonest _) hc hX hM hO hK rfl rfl rfl rfl (fun x h1 K => (hP.rd (j := 1) rfl rfl rfl rfl rfl rfl (by omega) hL K)) rfl (fun _ => rfl) (fun _ => rfl) rfl
theorem lwc_11 (hP : LwR Lx xs P) (hL : Lx ≤ 3072) (ht : t + 6 ≤ Lx) (hc : k < 512) (hX : XR g I J b) (hM : MR g I J) (hO : SOK g k) (hK : GoOn P t (k + 1)) : P 101 4471 553 (LsT t) [] (101, I, J, R0 b) := by
  refine hP.one (c' := 101) (s' := 4471) (pc' := 554) (L' := LsT t) (st' := [vr 9 0]) (h' := (101, I, J, R0 b)) rfl rfl ?_
  refine hP.rd (j := 1) rfl rfl rfl rfl rfl rfl (by omega) hL ?_
  refine hP.rd (j := 2) rfl rfl rfl rfl rfl rfl (by omega) hL ?_
  exact hP.op (pc := 564) (pc2 := 578) (st2 := [vi (xs (t + 2)), vi (xs (t + 1))]) (as := [vi (xs (t + 1)), vi (xs (t + 2))]) (op_need _ _) hc hX hM hO hK rfl rfl rfl rfl (fun x h1 K => (hP.rd (j := 1) rfl rfl rfl rfl rfl rfl (by omega) hL (hP.rd (j := 2) rfl rfl rfl rfl rfl rfl (by omega) hL K))) rfl (fun _ => rfl) (fun _ => rfl) rfl
theorem lwc_12 (hP : LwR Lx xs P) (hL : Lx ≤ 3072) (ht : t + 6 ≤ Lx) (hc : k < 512) (hX : XR g I J b) (hM : MR g I J) (hO : SOK g k) (hK : GoOn P t (k + 1)) : P 101 4471 586 (LsT t) [] (101, I, J, R0 b) := by
  refine hP.one (c' := 101) (s' := 4471) (pc' := 587) (L' := LsT t) (st' := [vr 9 0]) (h' := (101, I, J, R0 b)) rfl rfl ?_
  refine hP.rd (j := 1) rfl rfl rfl rfl rfl rfl (by omega) hL ?_
  refine hP.rd (j := 2) rfl rfl rfl rfl rfl rfl (by omega) hL ?_
  exact hP.op (pc := 597) (pc2 := 611) (st2 := [vi (xs (t + 2)), vi (xs (t + 1))]) (as := [vi (xs (t + 1)), vi (xs (t + 2))]) (op_glue _ _) hc hX hM hO hK rfl rfl rfl rfl (fun x h1 K => (hP.rd (j := 1) rfl rfl rfl rfl rfl rfl (by omega) hL (hP.rd (j := 2) rfl rfl rfl rfl rfl rfl (by omega) hL K))) rfl (fun _ => rfl) (fun _ => rfl) rfl
theorem lwc_13 (hP : LwR Lx xs P) (hL : Lx ≤ 3072) (ht : t + 6 ≤ Lx) (hc : k < 512) (hX : XR g I J b) (hM : MR g I J) (hO : SOK g k) (hK : GoOn P t (k + 1)) : P 101 4471 619 (LsT t) [] (101, I, J, R0 b) := by
  refine hP.one (c' := 101) (s' := 4471) (pc' := 620) (L' := LsT t) (st' := [vr 9 0]) (h' := (101, I, J, R0 b)) rfl rfl ?_
  refine hP.rd (j := 1) rfl rfl rfl rfl rfl rfl (by omega) hL ?_
  exact hP.op (pc := 625) (pc2 := 634) (st2 := [vi (xs (t + 1))]) (as := [vi (xs (t + 1))]) (op_worth _) hc hX hM hO hK rfl rfl rfl rfl (fun x h1 K => (hP.rd (j := 1) rfl rfl rfl rfl rfl rfl (by omega) hL K)) rfl (fun _ => rfl) (fun _ => rfl) rfl
theorem lwc_14 (hP : LwR Lx xs P) (hL : Lx ≤ 3072) (ht : t + 6 ≤ Lx) (hc : k < 512) (hX : XR g I J b) (hM : MR g I J) (hO : SOK g k) (hK : GoOn P t (k + 1)) : P 101 4471 642 (LsT t) [] (101, I, J, R0 b) := by
  refine hP.one (c' := 101) (s' := 4471) (pc' := 643) (L' := LsT t) (st' := [vr 9 0]) (h' := (101, I, J, R0 b)) rfl rfl ?_
  refine hP.rd (j := 1) rfl rfl rfl rfl rfl rfl (by omega) hL ?_
  exact hP.op (pc := 648) (pc2 := 657) (st2 := [vi (xs (t + 1))]) (as := [vi (xs (t + 1))]) (op_inWay _) hc hX hM hO hK rfl rfl rfl rfl (fun x h1 K => (hP.rd (j := 1) rfl rfl rfl rfl rfl rfl (by omega) hL K)) rfl (fun _ => rfl) (fun _ => rfl) rfl
theorem lwc_15 (hP : LwR Lx xs P) (hL : Lx ≤ 3072) (ht : t + 6 ≤ Lx) (hc : k < 512) (hX : XR g I J b) (hM : MR g I J) (hO : SOK g k) (hK : GoOn P t (k + 1)) : P 101 4471 665 (LsT t) [] (101, I, J, R0 b) := by
  refine hP.one (c' := 101) (s' := 4471) (pc' := 666) (L' := LsT t) (st' := [vr 9 0]) (h' := (101, I, J, R0 b)) rfl rfl ?_
  exact hP.op (pc := 666) (pc2 := 670) (st2 := []) (as := []) (op_dry) hc hX hM hO hK rfl rfl rfl rfl (fun x h1 K => K) rfl (fun _ => rfl) (fun _ => rfl) rfl
theorem lwc_16 (hP : LwR Lx xs P) (hL : Lx ≤ 3072) (ht : t + 6 ≤ Lx) (hc : k < 512) (hX : XR g I J b) (hM : MR g I J) (hO : SOK g k) (hK : GoOn P t (k + 1)) : P 101 4471 678 (LsT t) [] (101, I, J, R0 b) := by
  refine hP.one (c' := 101) (s' := 4471) (pc' := 679) (L' := LsT t) (st' := [vr 9 0]) (h' := (101, I, J, R0 b)) rfl rfl ?_
  refine hP.rd (j := 1) rfl rfl rfl rfl rfl rfl (by omega) hL ?_
  exact hP.op (pc := 684) (pc2 := 693) (st2 := [vi (xs (t + 1))]) (as := [vi (xs (t + 1))]) (op_atOnce _) hc hX hM hO hK rfl rfl rfl rfl (fun x h1 K => (hP.rd (j := 1) rfl rfl rfl rfl rfl rfl (by omega) hL K)) rfl (fun _ => rfl) (fun _ => rfl) rfl
theorem lwc_17 (hP : LwR Lx xs P) (hL : Lx ≤ 3072) (ht : t + 6 ≤ Lx) (hc : k < 512) (hX : XR g I J b) (hM : MR g I J) (hO : SOK g k) (hK : GoOn P t (k + 1)) : P 101 4471 701 (LsT t) [] (101, I, J, R0 b) := by
  refine hP.one (c' := 101) (s' := 4471) (pc' := 702) (L' := LsT t) (st' := [vr 9 0]) (h' := (101, I, J, R0 b)) rfl rfl ?_
  refine hP.rd (j := 1) rfl rfl rfl rfl rfl rfl (by omega) hL ?_
  refine hP.rd (j := 2) rfl rfl rfl rfl rfl rfl (by omega) hL ?_
  exact hP.op (pc := 712) (pc2 := 726) (st2 := [vi (xs (t + 2)), vi (xs (t + 1))]) (as := [vi (xs (t + 1)), vi (xs (t + 2))]) (op_wrong _ _) hc hX hM hO hK rfl rfl rfl rfl (fun x h1 K => (hP.rd (j := 1) rfl rfl rfl rfl rfl rfl (by omega) hL (hP.rd (j := 2) rfl rfl rfl rfl rfl rfl (by omega) hL K))) rfl (fun _ => rfl) (fun _ => rfl) rfl
theorem lwc_18 (hP : LwR Lx xs P) (hL : Lx ≤ 3072) (ht : t + 6 ≤ Lx) (hc : k < 512) (hX : XR g I J b) (hM : MR g I J) (hO : SOK g k) (hK : GoOn P t (k + 1)) : P 101 4471 734 (LsT t) [] (101, I, J, R0 b) := by
  refine hP.one (c' := 101) (s' := 4471) (pc' := 735) (L' := LsT t) (st' := [vr 9 0]) (h' := (101, I, J, R0 b)) rfl rfl ?_
  refine hP.rd (j := 1) rfl rfl rfl rfl rfl rfl (by omega) hL ?_
  refine hP.rd (j := 2) rfl rfl rfl rfl rfl rfl (by omega) hL ?_
  exact hP.op (pc := 745) (pc2 := 759) (st2 := [vi (xs (t + 2)), vi (xs (t + 1))]) (as := [vi (xs (t + 1)), vi (xs (t + 2))]) (op_round _ _) hc hX hM hO hK rfl rfl rfl rfl (fun x h1 K => (hP.rd (j := 1) rfl rfl rfl rfl rfl rfl (by omega) hL (hP.rd (j := 2) rfl rfl rfl rfl rfl rfl (by omega) hL K))) rfl (fun _ => rfl) (fun _ => rfl) rfl
theorem lwc_19 (hP : LwR Lx xs P) (hL : Lx ≤ 3072) (ht : t + 6 ≤ Lx) (hc : k < 512) (hX : XR g I J b) (hM : MR g I J) (hO : SOK g k) (hK : GoOn P t (k + 1)) : P 101 4471 767 (LsT t) [] (101, I, J, R0 b) := by
  refine hP.one (c' := 101) (s' := 4471) (pc' := 768) (L' := LsT t) (st' := [vr 9 0]) (h' := (101, I, J, R0 b)) rfl rfl ?_
  refine hP.rd (j := 1) rfl rfl rfl rfl rfl rfl (by omega) hL ?_
  exact hP.op (pc := 773) (pc2 := 782) (st2 := [vi (xs (t + 1))]) (as := [vi (xs (t + 1))]) (op_judge _) hc hX hM hO hK rfl rfl rfl rfl (fun x h1 K => (hP.rd (j := 1) rfl rfl rfl rfl rfl rfl (by omega) hL K)) rfl (fun _ => rfl) (fun _ => rfl) rfl
theorem lwc_20 (hP : LwR Lx xs P) (hL : Lx ≤ 3072) (ht : t + 6 ≤ Lx) (hc : k < 512) (hX : XR g I J b) (hM : MR g I J) (hO : SOK g k) (hK : GoOn P t (k + 1)) : P 101 4471 790 (LsT t) [] (101, I, J, R0 b) := by
  refine hP.one (c' := 101) (s' := 4471) (pc' := 791) (L' := LsT t) (st' := [vr 9 0]) (h' := (101, I, J, R0 b)) rfl rfl ?_
  refine hP.rd (j := 1) rfl rfl rfl rfl rfl rfl (by omega) hL ?_
  refine hP.rd (j := 2) rfl rfl rfl rfl rfl rfl (by omega) hL ?_
  exact hP.op (pc := 801) (pc2 := 815) (st2 := [vi (xs (t + 2)), vi (xs (t + 1))]) (as := [vi (xs (t + 1)), vi (xs (t + 2))]) (op_which _ _) hc hX hM hO hK rfl rfl rfl rfl (fun x h1 K => (hP.rd (j := 1) rfl rfl rfl rfl rfl rfl (by omega) hL (hP.rd (j := 2) rfl rfl rfl rfl rfl rfl (by omega) hL K))) rfl (fun _ => rfl) (fun _ => rfl) rfl
theorem lwc_21 (hP : LwR Lx xs P) (hL : Lx ≤ 3072) (ht : t + 6 ≤ Lx) (hc : k < 512) (hX : XR g I J b) (hM : MR g I J) (hO : SOK g k) (hK : GoOn P t (k + 1)) : P 101 4471 823 (LsT t) [] (101, I, J, R0 b) := by
  refine hP.one (c' := 101) (s' := 4471) (pc' := 824) (L' := LsT t) (st' := [vr 9 0]) (h' := (101, I, J, R0 b)) rfl rfl ?_
  refine hP.rd (j := 1) rfl rfl rfl rfl rfl rfl (by omega) hL ?_
  exact hP.op (pc := 829) (pc2 := 838) (st2 := [vi (xs (t + 1))]) (as := [vi (xs (t + 1))]) (op_who _) hc hX hM hO hK rfl rfl rfl rfl (fun x h1 K => (hP.rd (j := 1) rfl rfl rfl rfl rfl rfl (by omega) hL K)) rfl (fun _ => rfl) (fun _ => rfl) rfl
theorem lwc_22 (hP : LwR Lx xs P) (hL : Lx ≤ 3072) (ht : t + 6 ≤ Lx) (hc : k < 512) (hX : XR g I J b) (hM : MR g I J) (hO : SOK g k) (hK : GoOn P t (k + 1)) : P 101 4471 846 (LsT t) [] (101, I, J, R0 b) := by
  refine hP.one (c' := 101) (s' := 4471) (pc' := 847) (L' := LsT t) (st' := [vr 9 0]) (h' := (101, I, J, R0 b)) rfl rfl ?_
  refine hP.rd (j := 1) rfl rfl rfl rfl rfl rfl (by omega) hL ?_
  refine hP.rd (j := 2) rfl rfl rfl rfl rfl rfl (by omega) hL ?_
  exact hP.op (pc := 857) (pc2 := 871) (st2 := [vi (xs (t + 2)), vi (xs (t + 1))]) (as := [vi (xs (t + 1)), vi (xs (t + 2))]) (op_byHand _ _) hc hX hM hO hK rfl rfl rfl rfl (fun x h1 K => (hP.rd (j := 1) rfl rfl rfl rfl rfl rfl (by omega) hL (hP.rd (j := 2) rfl rfl rfl rfl rfl rfl (by omega) hL K))) rfl (fun _ => rfl) (fun _ => rfl) rfl
theorem lwc_23 (hP : LwR Lx xs P) (hL : Lx ≤ 3072) (ht : t + 6 ≤ Lx) (hc : k < 512) (hX : XR g I J b) (hM : MR g I J) (hO : SOK g k) (hK : GoOn P t (k + 1)) : P 101 4471 879 (LsT t) [] (101, I, J, R0 b) := by
  refine hP.one (c' := 101) (s' := 4471) (pc' := 880) (L' := LsT t) (st' := [vr 9 0]) (h' := (101, I, J, R0 b)) rfl rfl ?_
  refine hP.rd (j := 1) rfl rfl rfl rfl rfl rfl (by omega) hL ?_
  refine hP.rd (j := 2) rfl rfl rfl rfl rfl rfl (by omega) hL ?_
  refine hP.rd (j := 3) rfl rfl rfl rfl rfl rfl (by omega) hL ?_
  refine hP.rd (j := 4) rfl rfl rfl rfl rfl rfl (by omega) hL ?_
  exact hP.op (pc := 900) (pc2 := 924) (st2 := [vi (xs (t + 4)), vi (xs (t + 3)), vi (xs (t + 2)), vi (xs (t + 1))]) (as := [vi (xs (t + 1)), vi (xs (t + 2)), vi (xs (t + 3)), vi (xs (t + 4))]) (op_drawn _ _ _ _) hc hX hM hO hK rfl rfl rfl rfl (fun x h1 K => (hP.rd (j := 1) rfl rfl rfl rfl rfl rfl (by omega) hL (hP.rd (j := 2) rfl rfl rfl rfl rfl rfl (by omega) hL (hP.rd (j := 3) rfl rfl rfl rfl rfl rfl (by omega) hL (hP.rd (j := 4) rfl rfl rfl rfl rfl rfl (by omega) hL K))))) rfl (fun _ => rfl) (fun _ => rfl) rfl
theorem lwc_24 (hP : LwR Lx xs P) (hL : Lx ≤ 3072) (ht : t + 6 ≤ Lx) (hc : k < 512) (hX : XR g I J b) (hM : MR g I J) (hO : SOK g k) (hK : GoOn P t (k + 1)) : P 101 4471 932 (LsT t) [] (101, I, J, R0 b) := by
  refine hP.one (c' := 101) (s' := 4471) (pc' := 933) (L' := LsT t) (st' := [vr 9 0]) (h' := (101, I, J, R0 b)) rfl rfl ?_
  refine hP.rd (j := 1) rfl rfl rfl rfl rfl rfl (by omega) hL ?_
  exact hP.op (pc := 938) (pc2 := 947) (st2 := [vi (xs (t + 1))]) (as := [vi (xs (t + 1))]) (op_fit _) hc hX hM hO hK rfl rfl rfl rfl (fun x h1 K => (hP.rd (j := 1) rfl rfl rfl rfl rfl rfl (by omega) hL K)) rfl (fun _ => rfl) (fun _ => rfl) rfl
theorem lwc_25 (hP : LwR Lx xs P) (hL : Lx ≤ 3072) (ht : t + 6 ≤ Lx) (hc : k < 512) (hX : XR g I J b) (hM : MR g I J) (hO : SOK g k) (hK : GoOn P t (k + 1)) : P 101 4471 955 (LsT t) [] (101, I, J, R0 b) := by
  refine hP.one (c' := 101) (s' := 4471) (pc' := 956) (L' := LsT t) (st' := [vr 9 0]) (h' := (101, I, J, R0 b)) rfl rfl ?_
  refine hP.rd (j := 1) rfl rfl rfl rfl rfl rfl (by omega) hL ?_
  exact hP.op (pc := 961) (pc2 := 970) (st2 := [vi (xs (t + 1))]) (as := [vi (xs (t + 1))]) (op_stay _) hc hX hM hO hK rfl rfl rfl rfl (fun x h1 K => (hP.rd (j := 1) rfl rfl rfl rfl rfl rfl (by omega) hL K)) rfl (fun _ => rfl) (fun _ => rfl) rfl
theorem lwc_26 (hP : LwR Lx xs P) (hL : Lx ≤ 3072) (ht : t + 6 ≤ Lx) (hc : k < 512) (hX : XR g I J b) (hM : MR g I J) (hO : SOK g k) (hK : GoOn P t (k + 1)) : P 101 4471 978 (LsT t) [] (101, I, J, R0 b) := by
  refine hP.one (c' := 101) (s' := 4471) (pc' := 979) (L' := LsT t) (st' := [vr 9 0]) (h' := (101, I, J, R0 b)) rfl rfl ?_
  refine hP.rd (j := 1) rfl rfl rfl rfl rfl rfl (by omega) hL ?_
  exact hP.op (pc := 984) (pc2 := 993) (st2 := [vi (xs (t + 1))]) (as := [vi (xs (t + 1))]) (op_test _) hc hX hM hO hK rfl rfl rfl rfl (fun x h1 K => (hP.rd (j := 1) rfl rfl rfl rfl rfl rfl (by omega) hL K)) rfl (fun _ => rfl) (fun _ => rfl) rfl
theorem lwc_27 (hP : LwR Lx xs P) (hL : Lx ≤ 3072) (ht : t + 6 ≤ Lx) (hc : k < 512) (hX : XR g I J b) (hM : MR g I J) (hO : SOK g k) (hK : GoOn P t (k + 1)) : P 101 4471 1001 (LsT t) [] (101, I, J, R0 b) := by
  refine hP.one (c' := 101) (s' := 4471) (pc' := 1002) (L' := LsT t) (st' := [vr 9 0]) (h' := (101, I, J, R0 b)) rfl rfl ?_
  exact hP.op (pc := 1002) (pc2 := 1006) (st2 := []) (as := []) (op_chair) hc hX hM hO hK rfl rfl rfl rfl (fun x h1 K => K) rfl (fun _ => rfl) (fun _ => rfl) rfl
theorem lwc_28 (hP : LwR Lx xs P) (hL : Lx ≤ 3072) (ht : t + 6 ≤ Lx) (hc : k < 512) (hX : XR g I J b) (hM : MR g I J) (hO : SOK g k) (hK : GoOn P t (k + 1)) : P 101 4471 1014 (LsT t) [] (101, I, J, R0 b) := by
  refine hP.one (c' := 101) (s' := 4471) (pc' := 1015) (L' := LsT t) (st' := [vr 9 0]) (h' := (101, I, J, R0 b)) rfl rfl ?_
  refine hP.rd (j := 1) rfl rfl rfl rfl rfl rfl (by omega) hL ?_
  exact hP.op (pc := 1020) (pc2 := 1029) (st2 := [vi (xs (t + 1))]) (as := [vi (xs (t + 1))]) (op_led _) hc hX hM hO hK rfl rfl rfl rfl (fun x h1 K => (hP.rd (j := 1) rfl rfl rfl rfl rfl rfl (by omega) hL K)) rfl (fun _ => rfl) (fun _ => rfl) rfl
theorem lwc_29 (hP : LwR Lx xs P) (hL : Lx ≤ 3072) (ht : t + 6 ≤ Lx) (hc : k < 512) (hX : XR g I J b) (hM : MR g I J) (hO : SOK g k) (hK : GoOn P t (k + 1)) : P 101 4471 1037 (LsT t) [] (101, I, J, R0 b) := by
  refine hP.one (c' := 101) (s' := 4471) (pc' := 1038) (L' := LsT t) (st' := [vr 9 0]) (h' := (101, I, J, R0 b)) rfl rfl ?_
  exact hP.op (pc := 1038) (pc2 := 1042) (st2 := []) (as := []) (op_image) hc hX hM hO hK rfl rfl rfl rfl (fun x h1 K => K) rfl (fun _ => rfl) (fun _ => rfl) rfl
theorem lwc_30 (hP : LwR Lx xs P) (hL : Lx ≤ 3072) (ht : t + 6 ≤ Lx) (hc : k < 512) (hX : XR g I J b) (hM : MR g I J) (hO : SOK g k) (hK : GoOn P t (k + 1)) : P 101 4471 1050 (LsT t) [] (101, I, J, R0 b) := by
  refine hP.one (c' := 101) (s' := 4471) (pc' := 1051) (L' := LsT t) (st' := [vr 9 0]) (h' := (101, I, J, R0 b)) rfl rfl ?_
  exact hP.op (pc := 1051) (pc2 := 1055) (st2 := []) (as := []) (op_back) hc hX hM hO hK rfl rfl rfl rfl (fun x h1 K => K) rfl (fun _ => rfl) (fun _ => rfl) rfl
theorem lwc_31 (hP : LwR Lx xs P) (hL : Lx ≤ 3072) (ht : t + 6 ≤ Lx) (hc : k < 512) (hX : XR g I J b) (hM : MR g I J) (hO : SOK g k) (hK : GoOn P t (k + 1)) : P 101 4471 1063 (LsT t) [] (101, I, J, R0 b) := by
  refine hP.one (c' := 101) (s' := 4471) (pc' := 1064) (L' := LsT t) (st' := [vr 9 0]) (h' := (101, I, J, R0 b)) rfl rfl ?_
  exact hP.op (pc := 1064) (pc2 := 1068) (st2 := []) (as := []) (op_undo) hc hX hM hO hK rfl rfl rfl rfl (fun x h1 K => K) rfl (fun _ => rfl) (fun _ => rfl) rfl
theorem lwc_32 (hP : LwR Lx xs P) (hL : Lx ≤ 3072) (ht : t + 6 ≤ Lx) (hc : k < 512) (hX : XR g I J b) (hM : MR g I J) (hO : SOK g k) (hK : GoOn P t (k + 1)) : P 101 4471 1076 (LsT t) [] (101, I, J, R0 b) := by
  refine hP.one (c' := 101) (s' := 4471) (pc' := 1077) (L' := LsT t) (st' := [vr 9 0]) (h' := (101, I, J, R0 b)) rfl rfl ?_
  exact hP.op (pc := 1077) (pc2 := 1081) (st2 := []) (as := []) (op_redo) hc hX hM hO hK rfl rfl rfl rfl (fun x h1 K => K) rfl (fun _ => rfl) (fun _ => rfl) rfl
theorem lwc_33 (hP : LwR Lx xs P) (hL : Lx ≤ 3072) (ht : t + 6 ≤ Lx) (hc : k < 512) (hX : XR g I J b) (hM : MR g I J) (hO : SOK g k) (hK : GoOn P t (k + 1)) : P 101 4471 1089 (LsT t) [] (101, I, J, R0 b) := by
  refine hP.one (c' := 101) (s' := 4471) (pc' := 1090) (L' := LsT t) (st' := [vr 9 0]) (h' := (101, I, J, R0 b)) rfl rfl ?_
  refine hP.rd (j := 1) rfl rfl rfl rfl rfl rfl (by omega) hL ?_
  exact hP.op (pc := 1095) (pc2 := 1104) (st2 := [vi (xs (t + 1))]) (as := [vi (xs (t + 1))]) (op_body _) hc hX hM hO hK rfl rfl rfl rfl (fun x h1 K => (hP.rd (j := 1) rfl rfl rfl rfl rfl rfl (by omega) hL K)) rfl (fun _ => rfl) (fun _ => rfl) rfl
theorem lwc_34 (hP : LwR Lx xs P) (hL : Lx ≤ 3072) (ht : t + 6 ≤ Lx) (hc : k < 512) (hX : XR g I J b) (hM : MR g I J) (hO : SOK g k) (hK : GoOn P t (k + 1)) : P 101 4471 1112 (LsT t) [] (101, I, J, R0 b) := by
  refine hP.one (c' := 101) (s' := 4471) (pc' := 1113) (L' := LsT t) (st' := [vr 9 0]) (h' := (101, I, J, R0 b)) rfl rfl ?_
  refine hP.rd (j := 1) rfl rfl rfl rfl rfl rfl (by omega) hL ?_
  refine hP.rd (j := 2) rfl rfl rfl rfl rfl rfl (by omega) hL ?_
  refine hP.rd (j := 3) rfl rfl rfl rfl rfl rfl (by omega) hL ?_
  exact hP.op (pc := 1128) (pc2 := 1147) (st2 := [vi (xs (t + 3)), vi (xs (t + 2)), vi (xs (t + 1))]) (as := [vi (xs (t + 1)), vi (xs (t + 2)), vi (xs (t + 3))]) (op_act _ _ _) hc hX hM hO hK rfl rfl rfl rfl (fun x h1 K => (hP.rd (j := 1) rfl rfl rfl rfl rfl rfl (by omega) hL (hP.rd (j := 2) rfl rfl rfl rfl rfl rfl (by omega) hL (hP.rd (j := 3) rfl rfl rfl rfl rfl rfl (by omega) hL K)))) rfl (fun _ => rfl) (fun _ => rfl) rfl
theorem lwc_35 (hP : LwR Lx xs P) (hL : Lx ≤ 3072) (ht : t + 6 ≤ Lx) (hc : k < 512) (hX : XR g I J b) (hM : MR g I J) (hO : SOK g k) (hK : GoOn P t (k + 1)) : P 101 4471 1155 (LsT t) [] (101, I, J, R0 b) := by
  refine hP.one (c' := 101) (s' := 4471) (pc' := 1156) (L' := LsT t) (st' := [vr 9 0]) (h' := (101, I, J, R0 b)) rfl rfl ?_
  refine hP.rd (j := 1) rfl rfl rfl rfl rfl rfl (by omega) hL ?_
  exact hP.op (pc := 1161) (pc2 := 1170) (st2 := [vi (xs (t + 1))]) (as := [vi (xs (t + 1))]) (op_trace _) hc hX hM hO hK rfl rfl rfl rfl (fun x h1 K => (hP.rd (j := 1) rfl rfl rfl rfl rfl rfl (by omega) hL K)) rfl (fun _ => rfl) (fun _ => rfl) rfl
theorem lwc_36 (hP : LwR Lx xs P) (hL : Lx ≤ 3072) (ht : t + 6 ≤ Lx) (hc : k < 512) (hX : XR g I J b) (hM : MR g I J) (hO : SOK g k) (hK : GoOn P t (k + 1)) : P 101 4471 1178 (LsT t) [] (101, I, J, R0 b) := by
  refine hP.one (c' := 101) (s' := 4471) (pc' := 1179) (L' := LsT t) (st' := [vr 9 0]) (h' := (101, I, J, R0 b)) rfl rfl ?_
  refine hP.rd (j := 1) rfl rfl rfl rfl rfl rfl (by omega) hL ?_
  refine hP.rd (j := 2) rfl rfl rfl rfl rfl rfl (by omega) hL ?_
  exact hP.op (pc := 1189) (pc2 := 1203) (st2 := [vi (xs (t + 2)), vi (xs (t + 1))]) (as := [vi (xs (t + 1)), vi (xs (t + 2))]) (op_keep _ _) hc hX hM hO hK rfl rfl rfl rfl (fun x h1 K => (hP.rd (j := 1) rfl rfl rfl rfl rfl rfl (by omega) hL (hP.rd (j := 2) rfl rfl rfl rfl rfl rfl (by omega) hL K))) rfl (fun _ => rfl) (fun _ => rfl) rfl
theorem lwc_37 (hP : LwR Lx xs P) (hL : Lx ≤ 3072) (ht : t + 6 ≤ Lx) (hc : k < 512) (hX : XR g I J b) (hM : MR g I J) (hO : SOK g k) (hK : GoOn P t (k + 1)) : P 101 4471 1211 (LsT t) [] (101, I, J, R0 b) := by
  refine hP.one (c' := 101) (s' := 4471) (pc' := 1212) (L' := LsT t) (st' := [vr 9 0]) (h' := (101, I, J, R0 b)) rfl rfl ?_
  refine hP.rd (j := 1) rfl rfl rfl rfl rfl rfl (by omega) hL ?_
  refine hP.rd (j := 2) rfl rfl rfl rfl rfl rfl (by omega) hL ?_
  refine hP.rd (j := 3) rfl rfl rfl rfl rfl rfl (by omega) hL ?_
  exact hP.op (pc := 1227) (pc2 := 1246) (st2 := [vi (xs (t + 3)), vi (xs (t + 2)), vi (xs (t + 1))]) (as := [vi (xs (t + 1)), vi (xs (t + 2)), vi (xs (t + 3))]) (op_row _ _ _) hc hX hM hO hK rfl rfl rfl rfl (fun x h1 K => (hP.rd (j := 1) rfl rfl rfl rfl rfl rfl (by omega) hL (hP.rd (j := 2) rfl rfl rfl rfl rfl rfl (by omega) hL (hP.rd (j := 3) rfl rfl rfl rfl rfl rfl (by omega) hL K)))) rfl (fun _ => rfl) (fun _ => rfl) rfl
theorem lwc_39 (hP : LwR Lx xs P) (hL : Lx ≤ 3072) (ht : t + 6 ≤ Lx) (hc : k < 512) (hX : XR g I J b) (hM : MR g I J) (hO : SOK g k) (hK : GoOn P t (k + 1)) : P 101 4471 1327 (LsT t) [] (101, I, J, R0 b) := by
  refine hP.one (c' := 101) (s' := 4471) (pc' := 1328) (L' := LsT t) (st' := [vr 9 0]) (h' := (101, I, J, R0 b)) rfl rfl ?_
  refine hP.rd (j := 1) rfl rfl rfl rfl rfl rfl (by omega) hL ?_
  refine hP.rd (j := 2) rfl rfl rfl rfl rfl rfl (by omega) hL ?_
  refine hP.cal (pc := 1338) (rest := []) (op_element (xs (t + 1)) (xs (t + 2)) g k I J b hc hX hM hO) rfl rfl rfl ?_
  rintro _ _ ⟨x, I1, J1, rfl, rfl, cl⟩
  refine hP.one (c' := 101) (s' := 4471) (pc' := 1342) (L' := LsT t) (st' := [vr 10 0, vl x]) (h' := (101, I1, J1, R0 b)) rfl rfl ?_
  refine hP.rd (j := 1) rfl rfl rfl rfl rfl rfl (by omega) hL ?_
  refine hP.rd (j := 2) rfl rfl rfl rfl rfl rfl (by omega) hL ?_
  refine hP.cal (pc := 1352) (rest := [vl x]) cl rfl rfl rfl ?_
  rintro _ _ ⟨x2, I2, J2, rfl, rfl, rfl, g', hX', hM', hO'⟩
  refine hP.one (c' := 101) (s' := 4471) (pc' := 1356) (L' := LsT t) (st' := [vi (lg_cmp x2 x2)]) (h' := (101, I2, J2, R0 b)) rfl rfl ?_
  rw [cmp_self]
  exact hP.one (c' := 101) (s' := 4471) (pc' := 1480) (L' := LsT t) (st' := []) (h' := (101, I2, J2, R0 b)) rfl rfl (hK g' I2 J2 b hX' hM' hO')
theorem lwc_40 (hP : LwR Lx xs P) (hL : Lx ≤ 3072) (ht : t + 6 ≤ Lx) (hc : k < 512) (hX : XR g I J b) (hM : MR g I J) (hO : SOK g k) (hK : GoOn P t (k + 1)) : P 101 4471 1361 (LsT t) [] (101, I, J, R0 b) := by
  refine hP.one (c' := 101) (s' := 4471) (pc' := 1362) (L' := LsT t) (st' := [vr 9 0]) (h' := (101, I, J, R0 b)) rfl rfl ?_
  refine hP.rd (j := 1) rfl rfl rfl rfl rfl rfl (by omega) hL ?_
  refine hP.rd (j := 2) rfl rfl rfl rfl rfl rfl (by omega) hL ?_
  refine hP.rd (j := 3) rfl rfl rfl rfl rfl rfl (by omega) hL ?_
  refine hP.rd (j := 4) rfl rfl rfl rfl rfl rfl (by omega) hL ?_
  refine hP.rd (j := 5) rfl rfl rfl rfl rfl rfl (by omega) hL ?_
  exact hP.op (pc := 1387) (pc2 := 1416) (st2 := [vi (xs (t + 5)), vi (xs (t + 4)), vi (xs (t + 3)), vi (xs (t + 2)), vi (xs (t + 1))]) (as := [vi (xs (t + 1)), vi (xs (t + 2)), vi (xs (t + 3)), vi (xs (t + 4)), vi (xs (t + 5))]) (op_shift _ _ _ _ _) hc hX hM hO hK rfl rfl rfl rfl (fun x h1 K => (hP.rd (j := 1) rfl rfl rfl rfl rfl rfl (by omega) hL (hP.rd (j := 2) rfl rfl rfl rfl rfl rfl (by omega) hL (hP.rd (j := 3) rfl rfl rfl rfl rfl rfl (by omega) hL (hP.rd (j := 4) rfl rfl rfl rfl rfl rfl (by omega) hL (hP.rd (j := 5) rfl rfl rfl rfl rfl rfl (by omega) hL K)))))) rfl (fun _ => rfl) (fun _ => rfl) rfl
theorem lwc_41 (hP : LwR Lx xs P) (hL : Lx ≤ 3072) (ht : t + 6 ≤ Lx) (hc : k < 512) (hX : XR g I J b) (hM : MR g I J) (hO : SOK g k) (hK : GoOn P t (k + 1)) : P 101 4471 1424 (LsT t) [] (101, I, J, R0 b) := by
  refine hP.one (c' := 101) (s' := 4471) (pc' := 1425) (L' := LsT t) (st' := [vr 9 0]) (h' := (101, I, J, R0 b)) rfl rfl ?_
  refine hP.rd (j := 1) rfl rfl rfl rfl rfl rfl (by omega) hL ?_
  refine hP.rd (j := 2) rfl rfl rfl rfl rfl rfl (by omega) hL ?_
  exact hP.op (pc := 1435) (pc2 := 1449) (st2 := [vi (xs (t + 2)), vi (xs (t + 1))]) (as := [vi (xs (t + 1)), vi (xs (t + 2))]) (op_taken _ _) hc hX hM hO hK rfl rfl rfl rfl (fun x h1 K => (hP.rd (j := 1) rfl rfl rfl rfl rfl rfl (by omega) hL (hP.rd (j := 2) rfl rfl rfl rfl rfl rfl (by omega) hL K))) rfl (fun _ => rfl) (fun _ => rfl) rfl
theorem lwc_42 (hP : LwR Lx xs P) (hL : Lx ≤ 3072) (ht : t + 6 ≤ Lx) (hc : k < 512) (hX : XR g I J b) (hM : MR g I J) (hO : SOK g k) (hK : GoOn P t (k + 1)) : P 101 4471 1457 (LsT t) [] (101, I, J, R0 b) := by
  refine hP.one (c' := 101) (s' := 4471) (pc' := 1458) (L' := LsT t) (st' := [vr 9 0]) (h' := (101, I, J, R0 b)) rfl rfl ?_
  refine hP.rd (j := 1) rfl rfl rfl rfl rfl rfl (by omega) hL ?_
  exact hP.op (pc := 1463) (pc2 := 1472) (st2 := [vi (xs (t + 1))]) (as := [vi (xs (t + 1))]) (op_count _) hc hX hM hO hK rfl rfl rfl rfl (fun x h1 K => (hP.rd (j := 1) rfl rfl rfl rfl rfl rfl (by omega) hL K)) rfl (fun _ => rfl) (fun _ => rfl) rfl
abbrev vPt (a c : Int32) : Int64 := (a.toInt64 <<< ((32 : Int32).toInt64 &&& 63)) ||| (c.toInt64 &&& 4294967295)
theorem lwc_38 (hP : LwR Lx xs P) (hL : Lx ≤ 3072) (ht : t + 6 ≤ Lx) (hc : k < 512) (hX : XR g I J b) (hM : MR g I J) (hO : SOK g k) (hK : GoOn P t (k + 1)) : P 101 4471 1254 (LsT t) [] (101, I, J, R0 b) := by
  refine hP.one (c' := 101) (s' := 4471) (pc' := 1255) (L' := LsT t) (st' := [vr 9 0]) (h' := (101, I, J, R0 b)) rfl rfl ?_
  refine hP.rd (j := 1) rfl rfl rfl rfl rfl rfl (by omega) hL ?_
  refine hP.rd (j := 2) rfl rfl rfl rfl rfl rfl (by omega) hL ?_
  refine hP.rd (j := 3) rfl rfl rfl rfl rfl rfl (by omega) hL ?_
  refine hP.one (c' := 101) (s' := 4471) (pc' := 1271) (L' := LsT t) (st' := vl (xs (t + 3)).toInt64 :: vi (xs (t + 2)) :: vi (xs (t + 1)) :: [vr 9 0]) (h' := (101, I, J, R0 b)) rfl rfl ?_
  refine hP.one (c' := 101) (s' := 4471) (pc' := 1273) (L' := LsT t) (st' := vi 32 :: vl (xs (t + 3)).toInt64 :: vi (xs (t + 2)) :: vi (xs (t + 1)) :: [vr 9 0]) (h' := (101, I, J, R0 b)) rfl rfl ?_
  refine hP.one (c' := 101) (s' := 4471) (pc' := 1274) (L' := LsT t) (st' := vl ((xs (t + 3)).toInt64 <<< ((32 : Int32).toInt64 &&& 63)) :: vi (xs (t + 2)) :: vi (xs (t + 1)) :: [vr 9 0]) (h' := (101, I, J, R0 b)) rfl rfl ?_
  refine hP.rd (j := 4) rfl rfl rfl rfl rfl rfl (by omega) hL ?_
  refine hP.one (c' := 101) (s' := 4471) (pc' := 1280) (L' := LsT t) (st' := vl (xs (t + 4)).toInt64 :: vl ((xs (t + 3)).toInt64 <<< ((32 : Int32).toInt64 &&& 63)) :: vi (xs (t + 2)) :: vi (xs (t + 1)) :: [vr 9 0]) (h' := (101, I, J, R0 b)) rfl rfl ?_
  refine hP.one (c' := 101) (s' := 4471) (pc' := 1283) (L' := LsT t) (st' := vl 4294967295 :: vl (xs (t + 4)).toInt64 :: vl ((xs (t + 3)).toInt64 <<< ((32 : Int32).toInt64 &&& 63)) :: vi (xs (t + 2)) :: vi (xs (t + 1)) :: [vr 9 0]) (h' := (101, I, J, R0 b)) rfl rfl ?_
  refine hP.one (c' := 101) (s' := 4471) (pc' := 1284) (L' := LsT t) (st' := vl ((xs (t + 4)).toInt64 &&& 4294967295) :: vl ((xs (t + 3)).toInt64 <<< ((32 : Int32).toInt64 &&& 63)) :: vi (xs (t + 2)) :: vi (xs (t + 1)) :: [vr 9 0]) (h' := (101, I, J, R0 b)) rfl rfl ?_
  refine hP.one (c' := 101) (s' := 4471) (pc' := 1285) (L' := LsT t) (st' := vl (vPt (xs (t + 3)) (xs (t + 4))) :: vi (xs (t + 2)) :: vi (xs (t + 1)) :: [vr 9 0]) (h' := (101, I, J, R0 b)) rfl rfl ?_
  refine hP.op (pc := 1285) (pc2 := 1319) (st2 := [vl (vPt (xs (t + 3)) (xs (t + 4))), vi (xs (t + 2)), vi (xs (t + 1))]) (as := [vi (xs (t + 1)), vi (xs (t + 2)), vl (vPt (xs (t + 3)) (xs (t + 4)))]) (op_put _ _ _) hc hX hM hO hK rfl rfl rfl rfl (fun x h1 K => ?_) rfl (fun _ => rfl) (fun _ => rfl) rfl
  refine hP.rd (j := 1) rfl rfl rfl rfl rfl rfl (by omega) hL ?_
  refine hP.rd (j := 2) rfl rfl rfl rfl rfl rfl (by omega) hL ?_
  refine hP.rd (j := 3) rfl rfl rfl rfl rfl rfl (by omega) hL ?_
  refine hP.one (c' := 101) (s' := 4471) (pc' := 1305) (L' := LsT t) (st' := vl (xs (t + 3)).toInt64 :: vi (xs (t + 2)) :: vi (xs (t + 1)) :: [vr 10 0, vi x]) (h' := h1) rfl rfl ?_
  refine hP.one (c' := 101) (s' := 4471) (pc' := 1307) (L' := LsT t) (st' := vi 32 :: vl (xs (t + 3)).toInt64 :: vi (xs (t + 2)) :: vi (xs (t + 1)) :: [vr 10 0, vi x]) (h' := h1) rfl rfl ?_
  refine hP.one (c' := 101) (s' := 4471) (pc' := 1308) (L' := LsT t) (st' := vl ((xs (t + 3)).toInt64 <<< ((32 : Int32).toInt64 &&& 63)) :: vi (xs (t + 2)) :: vi (xs (t + 1)) :: [vr 10 0, vi x]) (h' := h1) rfl rfl ?_
  refine hP.rd (j := 4) rfl rfl rfl rfl rfl rfl (by omega) hL ?_
  refine hP.one (c' := 101) (s' := 4471) (pc' := 1314) (L' := LsT t) (st' := vl (xs (t + 4)).toInt64 :: vl ((xs (t + 3)).toInt64 <<< ((32 : Int32).toInt64 &&& 63)) :: vi (xs (t + 2)) :: vi (xs (t + 1)) :: [vr 10 0, vi x]) (h' := h1) rfl rfl ?_
  refine hP.one (c' := 101) (s' := 4471) (pc' := 1317) (L' := LsT t) (st' := vl 4294967295 :: vl (xs (t + 4)).toInt64 :: vl ((xs (t + 3)).toInt64 <<< ((32 : Int32).toInt64 &&& 63)) :: vi (xs (t + 2)) :: vi (xs (t + 1)) :: [vr 10 0, vi x]) (h' := h1) rfl rfl ?_
  refine hP.one (c' := 101) (s' := 4471) (pc' := 1318) (L' := LsT t) (st' := vl ((xs (t + 4)).toInt64 &&& 4294967295) :: vl ((xs (t + 3)).toInt64 <<< ((32 : Int32).toInt64 &&& 63)) :: vi (xs (t + 2)) :: vi (xs (t + 1)) :: [vr 10 0, vi x]) (h' := h1) rfl rfl ?_
  refine hP.one (c' := 101) (s' := 4471) (pc' := 1319) (L' := LsT t) (st' := vl (vPt (xs (t + 3)) (xs (t + 4))) :: vi (xs (t + 2)) :: vi (xs (t + 1)) :: [vr 10 0, vi x]) (h' := h1) rfl rfl ?_
  exact K
end LWC
theorem P_swf {Q : Nat → Prop} {x a : Int32} {n d : Nat} {r : List (Int32 × Nat)} (h1 : Q n) (h2 : Q (swf r d x)) : Q (swf ((a, n) :: r) d x) := by
  unfold swf
  split
  · exact h1
  · exact h2
section LWL
variable {Lx : Nat} {xs : Nat → Int32} {P : WT}
theorem lwc_sw (hP : LwR Lx xs P) {I : IM} {J : JM} {g : Sg} {b : Bool} {t k : Nat} (hL : Lx ≤ 3072) (ht : t + 6 ≤ Lx) (hc : k < 512) (hX : XR g I J b) (hM : MR g I J) (hO : SOK g k) (hK : GoOn P t (k + 1)) (x : Int32) : P 101 4471 (swf [(0, 220), (1, 253), (2, 296), (3, 339), (4, 372), (5, 395), (6, 408), (7, 431), (8, 474), (9, 507), (10, 530), (11, 553), (12, 586), (13, 619), (14, 642), (15, 665), (16, 678), (17, 701), (18, 734), (19, 767), (20, 790), (21, 823), (22, 846), (23, 879), (24, 932), (25, 955), (26, 978), (27, 1001), (28, 1014), (29, 1037), (30, 1050), (31, 1063), (32, 1076), (33, 1089), (34, 1112), (35, 1155), (36, 1178), (37, 1211), (38, 1254), (39, 1327), (40, 1361), (41, 1424), (42, 1457)] 1480 x) (LsT t) [] (101, I, J, R0 b) := by
  refine P_swf (Q := fun n => P 101 4471 n (LsT t) [] (101, I, J, R0 b)) (lwc_0 hP hL ht hc hX hM hO hK) ?_
  refine P_swf (Q := fun n => P 101 4471 n (LsT t) [] (101, I, J, R0 b)) (lwc_1 hP hL ht hc hX hM hO hK) ?_
  refine P_swf (Q := fun n => P 101 4471 n (LsT t) [] (101, I, J, R0 b)) (lwc_2 hP hL ht hc hX hM hO hK) ?_
  refine P_swf (Q := fun n => P 101 4471 n (LsT t) [] (101, I, J, R0 b)) (lwc_3 hP hL ht hc hX hM hO hK) ?_
  refine P_swf (Q := fun n => P 101 4471 n (LsT t) [] (101, I, J, R0 b)) (lwc_4 hP hL ht hc hX hM hO hK) ?_
  refine P_swf (Q := fun n => P 101 4471 n (LsT t) [] (101, I, J, R0 b)) (lwc_5 hP hL ht hc hX hM hO hK) ?_
  refine P_swf (Q := fun n => P 101 4471 n (LsT t) [] (101, I, J, R0 b)) (lwc_6 hP hL ht hc hX hM hO hK) ?_
  refine P_swf (Q := fun n => P 101 4471 n (LsT t) [] (101, I, J, R0 b)) (lwc_7 hP hL ht hc hX hM hO hK) ?_
  refine P_swf (Q := fun n => P 101 4471 n (LsT t) [] (101, I, J, R0 b)) (lwc_8 hP hL ht hc hX hM hO hK) ?_
  refine P_swf (Q := fun n => P 101 4471 n (LsT t) [] (101, I, J, R0 b)) (lwc_9 hP hL ht hc hX hM hO hK) ?_
  refine P_swf (Q := fun n => P 101 4471 n (LsT t) [] (101, I, J, R0 b)) (lwc_10 hP hL ht hc hX hM hO hK) ?_
  refine P_swf (Q := fun n => P 101 4471 n (LsT t) [] (101, I, J, R0 b)) (lwc_11 hP hL ht hc hX hM hO hK) ?_
  refine P_swf (Q := fun n => P 101 4471 n (LsT t) [] (101, I, J, R0 b)) (lwc_12 hP hL ht hc hX hM hO hK) ?_
  refine P_swf (Q := fun n => P 101 4471 n (LsT t) [] (101, I, J, R0 b)) (lwc_13 hP hL ht hc hX hM hO hK) ?_
  refine P_swf (Q := fun n => P 101 4471 n (LsT t) [] (101, I, J, R0 b)) (lwc_14 hP hL ht hc hX hM hO hK) ?_
  refine P_swf (Q := fun n => P 101 4471 n (LsT t) [] (101, I, J, R0 b)) (lwc_15 hP hL ht hc hX hM hO hK) ?_
  refine P_swf (Q := fun n => P 101 4471 n (LsT t) [] (101, I, J, R0 b)) (lwc_16 hP hL ht hc hX hM hO hK) ?_
  refine P_swf (Q := fun n => P 101 4471 n (LsT t) [] (101, I, J, R0 b)) (lwc_17 hP hL ht hc hX hM hO hK) ?_
  refine P_swf (Q := fun n => P 101 4471 n (LsT t) [] (101, I, J, R0 b)) (lwc_18 hP hL ht hc hX hM hO hK) ?_
  refine P_swf (Q := fun n => P 101 4471 n (LsT t) [] (101, I, J, R0 b)) (lwc_19 hP hL ht hc hX hM hO hK) ?_
  refine P_swf (Q := fun n => P 101 4471 n (LsT t) [] (101, I, J, R0 b)) (lwc_20 hP hL ht hc hX hM hO hK) ?_
  refine P_swf (Q := fun n => P 101 4471 n (LsT t) [] (101, I, J, R0 b)) (lwc_21 hP hL ht hc hX hM hO hK) ?_
  refine P_swf (Q := fun n => P 101 4471 n (LsT t) [] (101, I, J, R0 b)) (lwc_22 hP hL ht hc hX hM hO hK) ?_
  refine P_swf (Q := fun n => P 101 4471 n (LsT t) [] (101, I, J, R0 b)) (lwc_23 hP hL ht hc hX hM hO hK) ?_
  refine P_swf (Q := fun n => P 101 4471 n (LsT t) [] (101, I, J, R0 b)) (lwc_24 hP hL ht hc hX hM hO hK) ?_
  refine P_swf (Q := fun n => P 101 4471 n (LsT t) [] (101, I, J, R0 b)) (lwc_25 hP hL ht hc hX hM hO hK) ?_
  refine P_swf (Q := fun n => P 101 4471 n (LsT t) [] (101, I, J, R0 b)) (lwc_26 hP hL ht hc hX hM hO hK) ?_
  refine P_swf (Q := fun n => P 101 4471 n (LsT t) [] (101, I, J, R0 b)) (lwc_27 hP hL ht hc hX hM hO hK) ?_
  refine P_swf (Q := fun n => P 101 4471 n (LsT t) [] (101, I, J, R0 b)) (lwc_28 hP hL ht hc hX hM hO hK) ?_
  refine P_swf (Q := fun n => P 101 4471 n (LsT t) [] (101, I, J, R0 b)) (lwc_29 hP hL ht hc hX hM hO hK) ?_
  refine P_swf (Q := fun n => P 101 4471 n (LsT t) [] (101, I, J, R0 b)) (lwc_30 hP hL ht hc hX hM hO hK) ?_
  refine P_swf (Q := fun n => P 101 4471 n (LsT t) [] (101, I, J, R0 b)) (lwc_31 hP hL ht hc hX hM hO hK) ?_
  refine P_swf (Q := fun n => P 101 4471 n (LsT t) [] (101, I, J, R0 b)) (lwc_32 hP hL ht hc hX hM hO hK) ?_
  refine P_swf (Q := fun n => P 101 4471 n (LsT t) [] (101, I, J, R0 b)) (lwc_33 hP hL ht hc hX hM hO hK) ?_
  refine P_swf (Q := fun n => P 101 4471 n (LsT t) [] (101, I, J, R0 b)) (lwc_34 hP hL ht hc hX hM hO hK) ?_
  refine P_swf (Q := fun n => P 101 4471 n (LsT t) [] (101, I, J, R0 b)) (lwc_35 hP hL ht hc hX hM hO hK) ?_
  refine P_swf (Q := fun n => P 101 4471 n (LsT t) [] (101, I, J, R0 b)) (lwc_36 hP hL ht hc hX hM hO hK) ?_
  refine P_swf (Q := fun n => P 101 4471 n (LsT t) [] (101, I, J, R0 b)) (lwc_37 hP hL ht hc hX hM hO hK) ?_
  refine P_swf (Q := fun n => P 101 4471 n (LsT t) [] (101, I, J, R0 b)) (lwc_38 hP hL ht hc hX hM hO hK) ?_
  refine P_swf (Q := fun n => P 101 4471 n (LsT t) [] (101, I, J, R0 b)) (lwc_39 hP hL ht hc hX hM hO hK) ?_
  refine P_swf (Q := fun n => P 101 4471 n (LsT t) [] (101, I, J, R0 b)) (lwc_40 hP hL ht hc hX hM hO hK) ?_
  refine P_swf (Q := fun n => P 101 4471 n (LsT t) [] (101, I, J, R0 b)) (lwc_41 hP hL ht hc hX hM hO hK) ?_
  refine P_swf (Q := fun n => P 101 4471 n (LsT t) [] (101, I, J, R0 b)) (lwc_42 hP hL ht hc hX hM hO hK) ?_
  exact hK g I J b hX hM (hO.up hc)
end LWL
