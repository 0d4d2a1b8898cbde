/-! CHANGES: act, the op -/
def gTr (g : Sg) (t : Nat × List Nat) : Sg := (g.1, g.2.1, g.2.2.1, g.2.2.2.1, g.2.2.2.2.1, g.2.2.2.2.2.1, g.2.2.2.2.2.2.1, t, g.2.2.2.2.2.2.2.2)
def kA (a k : Nat) (n x : Int32) : Int32 × List Nat := if a = 0 then kF k n x else if a = 1 then kH k n x else if a = 2 then kS k n x else kT k n x
theorem kF_len (k : Nat) (n x : Int32) : (kF k n x).2.length ≤ 3 := by
  unfold kF
  split
  · exact (by decide : ([20, 1] : List Nat).length ≤ 3)
  · split
    · exact (by decide : ([81, 70, 1] : List Nat).length ≤ 3)
    · split
      · exact (by decide : ([70, 1] : List Nat).length ≤ 3)
      · exact (by decide : ([1] : List Nat).length ≤ 3)
theorem kPH_len (k : Nat) (n x : Int32) : (kPH k n x).2.length ≤ 4 := by
  have := kF_len k n x
  show (10 :: (kF k n x).2).length ≤ 4
  rw [List.length_cons]
  omega
theorem kLH_len (k : Nat) (n x : Int32) : (kLH k n x).2.length ≤ 5 := by
  have := kPH_len k n x
  show (30 :: (kPH k n x).2).length ≤ 5
  rw [List.length_cons]
  omega
theorem kS_len (k : Nat) (n x : Int32) : (kS k n x).2.length ≤ 6 := by
  have := kF_len k n 2
  unfold kS
  split
  · show (60 :: ([40, 11] ++ (kF k n 2).2)).length ≤ 6
    simp only [List.length_cons, List.length_append, List.length_nil]
    omega
  · split
    · exact (by decide : ([40, 11] : List Nat).length ≤ 6)
    · exact (by decide : ([11] : List Nat).length ≤ 6)
theorem kH_len (k : Nat) (n x : Int32) : (kH k n x).2.length ≤ 11 := by
  have h1 := kLH_len k n (x + 1)
  have h2 := kPH_len k n x
  have h3 := kS_len k n 2
  have h4 := kLH_len k n x
  unfold kH
  split
  · show (41 :: (kLH k n (x + 1)).2).length ≤ 11
    rw [List.length_cons]
    omega
  · split
    · show (80 :: ((kPH k n x).2 ++ (kS k n 2).2)).length ≤ 11
      rw [List.length_cons, List.length_append]
      omega
    · split <;> omega
theorem kPT_len (k : Nat) (n x : Int32) : (kPT k n x).2.length ≤ 18 := by
  have h1 := kH_len k n x
  have h3 := kS_len k n 1
  show (2 :: ((kH k n x).2 ++ (kS k n 1).2)).length ≤ 18
  rw [List.length_cons, List.length_append]
  omega
theorem kT_len (k : Nat) (n x : Int32) : (kT k n x).2.length ≤ 19 := by
  have h1 := kPT_len k n x
  unfold kT
  split
  · show (50 :: (kPT k n x).2).length ≤ 19
    rw [List.length_cons]
    omega
  · split
    · show (61 :: (kPT k n x).2).length ≤ 19
      rw [List.length_cons]
      omega
    · omega
theorem kA_len (a k : Nat) (n x : Int32) : (kA a k n x).2.length ≤ 24 := by
  have h1 := kF_len k n x
  have h2 := kH_len k n x
  have h3 := kS_len k n x
  have h4 := kT_len k n x
  unfold kA
  split
  · omega
  · split
    · omega
    · split <;> omega
theorem run_A {a k : Nat} {n x : Int32} (ha : a < 4) (hk : k < 8) : RunP 8 (iZ (k : Int)) n (iZ (k : Int)) (iZ (a : Int)) x (kA a k n x).1 (kA a k n x).2 := by
  rcases (show a = 0 ∨ a = 1 ∨ a = 2 ∨ a = 3 by omega) with rfl | rfl | rfl | rfl
  · exact (run_F hk).up (by omega)
  · exact (run_H hk).up (by omega)
  · exact (run_S hk).up (by omega)
  · exact run_T hk
section ACTO
variable {D : Nat} {g : Sg} {c : Nat} {I : IM} {J : JM} {b : Bool}
theorem XR.tr {I' : IM} {t : Nat × List Nat} (h : XR g I J b) (hT : TrC I' t) (e : ∀ s j k, ¬ (s = 39 ∨ (s = 0 ∧ (k = 2 ∨ k = 3 ∨ k = 5))) → I' s j k = I s j k) : XR (gTr g t) I' J b := by
  obtain ⟨h1, h2, h3, h4, h5, h6, h7, h8, h9, h10, h11, h12⟩ := h
  have hcs : cs b = 27 ∨ cs b = 28 := by cases b <;> decide
  exact ⟨h1.eq (fun s k z => e _ _ _ (by omega)), h2.eq (fun s k z => e _ _ _ (by omega)), h3.eq (fun s k z => e _ _ _ (by omega)), h4.eq (fun s k z => e _ _ _ (by omega)), fun s hs => (h5 s hs).eq (fun k => e _ _ _ (by omega)) (fun _ => rfl), h6.eq (fun s k z => e _ _ _ (by omega)), hT, h8.eq (fun s k z => e _ _ _ (by omega)) (fun k => e _ _ _ (by omega)), (e _ _ _ (by omega)).trans h9, h10.fr (e _ _ _ (by omega)), h11.fr (e _ _ _ (by omega)), fun d hd => (h12 d hd).eq (fun s k z => e _ _ _ (by omega)) (fun k => e _ _ _ (by omega))⟩
theorem MR.tr {I' : IM} {t : Nat × List Nat} (h : MR g I J) (hT : TrM I' t) (e : ∀ s k, ¬ (s = 80 ∨ (s = 10 ∧ k = 74)) → I' s 0 k = I s 0 k) : MR (gTr g t) I' J := by
  obtain ⟨h1, h2, h3, h4, h5, h6, h7, h8, ⟨h9, h10⟩, h11, h12⟩ := h
  exact ⟨h1.eq (fun s k z => e _ _ (by omega)), h2.eq (fun s k z => e _ _ (by omega)), h3.eq (fun s k z => e _ _ (by omega)), h4.eq (fun s k z => e _ _ (by omega)), fun s hs => (h5 s hs).eq (fun t k z => e _ _ (by omega)) (fun _ => rfl), h6.eq (fun s k z => e _ _ (by omega)), hT, h8.eq (fun s k z => e _ _ (by omega)), ⟨(e _ _ (by omega)).trans h9, fun d hd => (h10 d hd).eq (fun s k z => e _ _ (by omega))⟩, (e _ _ (by omega)).trans h11, (e _ _ (by omega)).trans h12⟩
theorem SOK.tr {t : Nat × List Nat} (h : SOK g c) (h1 : t.2.length = min t.1 24) (h2 : t.1 ≤ 1000) : SOK (gTr g t) c := by
  obtain ⟨k1, k2, k3, k4, k5, k6, k7⟩ := h
  exact ⟨k1, k2, k3, k4, k5, ⟨h1, h2⟩, k7⟩
theorem m_act_bad {x y z : Int32} (hM : MR g I J) (hO : SOK g c) (h : ¬ (0 ≤ x.toInt ∧ x.toInt < (gB g).length ∧ 0 ≤ y.toInt ∧ y.toInt ≤ 3)) : Call 900 235 [vr 10 0, vi x, vi y, vi z] (101, I, J, R0 b) (RIf b fun w I' J' => w = 0 ∧ J' = J ∧ MR (gTr g (0, [])) I' J ∧ Fr pMa I I') := by
  obtain ⟨l1, l2⟩ := hO.2.2.2.2.1
  have hTm : BoM I (gB g) := hM.2.2.2.2.2.1
  have hM1 : MR (gTr g (0, [])) (updI I 10 0 74 0) J := hM.tr ⟨uI_eq, fun k x hk => by cases hk⟩ (fun s k z => by rw [updI_if, if_neg (by omega)])
  have hF : Fr pMa I (updI I 10 0 74 0) := Fr.id.upd rfl
  have h72 : updI I 10 0 74 0 10 0 72 = iZ ((gB g).length : Int) := by rw [updI_if, if_neg (by omega)]; exact hTm.1
  refine t_X10_act (D := 899) _ _ _ I J b ?_
  generalize updI I 10 0 74 0 = I1 at hM1 hF h72 ⊢
  refine (p_isBody (D := 897) h72).mono ?_
  rintro r h ⟨rfl, rfl⟩
  refine RIf.mk ?_
  cases h1 : inB x 0 (iZ (((gB g).length : Int) - 1))
  · exact ifp rfl (RIf.mk ⟨rfl, rfl, hM1, hF⟩)
  · obtain ⟨v, v1, rfl⟩ := (keep_in l1).mp h1
    rw [iZ_toInt (by omega) (by omega)] at h
    refine ifn (by decide) ((p_M_in (D := 898) y 0 3).mono ?_)
    rintro r h ⟨rfl, rfl⟩
    refine RIf.mk ?_
    rw [inB_no (l := 0) (h := 3) rfl rfl (by omega)]
    exact ifn (fun z => z rfl) (RIf.mk ⟨rfl, rfl, hM1, hF⟩)
theorem m_act {n a k : Nat} {z : Int32} (hM : MR g I J) (hO : SOK g c) (hk : (gB g)[n]? = some k) (hn : n < (gB g).length) (ha : a < 4) : Call 900 235 [vr 10 0, vi (iZ (n : Int)), vi (iZ (a : Int)), vi z] (101, I, J, R0 b) (RIf b fun w I' J' => w = (kA a k (iZ (n : Int)) z).1 ∧ J' = J ∧ MR (gTr g ((kA a k (iZ (n : Int)) z).2.length, (kA a k (iZ (n : Int)) z).2)) I' J ∧ Fr pMa I I') := by
  obtain ⟨l1, l2⟩ := hO.2.2.2.2.1
  have hk8 : k < 8 := l2 _ (List.mem_of_getElem? hk)
  have hTm : BoM I (gB g) := hM.2.2.2.2.2.1
  have hlen := kA_len a k (iZ (n : Int)) z
  have hF : Fr pMa I (updI I 10 0 74 0) := Fr.id.upd rfl
  have u0 : ∀ s j i, ¬ (s = 10 ∧ i = 74) → updI I 10 0 74 0 s j i = I s j i := fun s j i w => by rw [updI_if, if_neg (by omega)]
  have hT0 : TrB (updI I 10 0 74 0) [] := ⟨uI_eq, fun k x hk => by cases hk⟩
  refine t_X10_act (D := 899) _ _ _ I J b ?_
  generalize updI I 10 0 74 0 = I1 at hF u0 hT0 ⊢
  have h72 : I1 10 0 72 = iZ ((gB g).length : Int) := (u0 _ _ _ (by omega)).trans hTm.1
  have h79 : I1 79 0 n = iZ (k : Int) := (u0 _ _ _ (by omega)).trans (hTm.2 n k hk)
  refine (p_isBody (D := 897) h72).mono ?_
  rintro r h ⟨rfl, rfl⟩
  refine RIf.mk ?_
  rw [(keep_in l1).mpr ⟨n, hn, rfl⟩]
  refine ifn (by decide) ((p_M_in (D := 898) _ 0 3).mono ?_)
  rintro r h ⟨rfl, rfl⟩
  refine RIf.mk ?_
  rw [inB_of (l := 0) (h := 3) rfl rfl (by rw [iZ_toInt (by omega) (by omega)]; omega)]
  refine ifp (by decide) ?_
  have hfin : ∀ (w : Int32) (t : List Nat), kA a k (iZ (n : Int)) z = (w, t) → ∀ (I2 : IM), TrB I2 ([] ++ t) → (∀ s j i, ¬ (s = 80 ∨ (s = 10 ∧ i = 74)) → I2 s j i = I1 s j i) → RIf b (fun w I' J' => w = (kA a k (iZ (n : Int)) z).1 ∧ J' = J ∧ MR (gTr g ((kA a k (iZ (n : Int)) z).2.length, (kA a k (iZ (n : Int)) z).2)) I' J ∧ Fr pMa I I') (some (vi w)) (101, I2, J, R0 b) := fun w t e I2 q1 q2 => by
    rw [e]
    refine RIf.mk ⟨rfl, rfl, hM.tr q1 (fun s i y => (q2 _ _ _ y).trans (u0 _ _ _ (by omega))), fun s j i y => ?_⟩
    have y : ¬ (s = 10 ∨ 43 ≤ s) := fun yy => by
      rw [← pMa_iff (j := j) (k := i), y] at yy
      cases yy
    exact (q2 _ _ _ (by omega)).trans (u0 _ _ _ (by omega))
  rcases (show a = 0 ∨ a = 1 ∨ a = 2 ∨ a = 3 by omega) with rfl | rfl | rfl | rfl
  · refine ifn (fun z => z rfl) ((mun_F (x := z) hk8 (by omega) 895 I1 J b [] (by rw [List.length_nil, Nat.zero_add]; exact hlen) hT0 h79).mono ?_)
    rintro r h ⟨w, I2, J2, rfl, rfl, rfl, rfl, q1, q2⟩
    exact RIf.mk (hfin _ _ rfl I2 q1 q2)
  · refine ifp (by decide) (ifn (fun z => z rfl) ((mun_H (x := z) hk8 (by omega) 892 I1 J b [] (by rw [List.length_nil, Nat.zero_add]; exact hlen) hT0 h79).mono ?_))
    rintro r h ⟨w, I2, J2, rfl, rfl, rfl, rfl, q1, q2⟩
    exact RIf.mk (hfin _ _ rfl I2 q1 q2)
  · refine ifp (by decide) (ifp (by decide) (ifn (fun z => z rfl) ((mun_S (x := z) hk8 (by omega) 894 I1 J b [] (by rw [List.length_nil, Nat.zero_add]; exact hlen) hT0 h79).mono ?_)))
    rintro r h ⟨w, I2, J2, rfl, rfl, rfl, rfl, q1, q2⟩
    exact RIf.mk (hfin _ _ rfl I2 q1 q2)
  · refine ifp (by decide) (ifp (by decide) (ifp (by decide) ((mun_T (x := z) hk8 (by omega) 890 I1 J b [] (by rw [List.length_nil, Nat.zero_add]; exact hlen) hT0 h79).mono ?_)))
    rintro r h ⟨w, I2, J2, rfl, rfl, rfl, rfl, q1, q2⟩
    exact RIf.mk (hfin _ _ rfl I2 q1 q2)
theorem p_kindOf_n {x : Int32} {B : List Nat} (hT : BoC I B) (hl : B.length ≤ 50) (h : ¬ (0 ≤ x.toInt ∧ x.toInt < B.length)) : Pu (D + 1) 256 [vr 0 0, vi x] I J b (-1) := by
  have el : (iZ (B.length : Int)).toInt = B.length := iZ_toInt (by omega) (by omega)
  refine t_X0_kindOf _ I J b ?_
  rw [hT.1]
  exact ift (c_lt (m := 0) rfl) (fun _ => ⟨rfl, rfl⟩) (fun c1 => ift (c_ge (m := B.length) el) (fun _ => ⟨rfl, rfl⟩) (fun c2 => absurd ⟨by omega, by omega⟩ h))
theorem op_act (x y z : Int32) : Op 114 235 [vi x, vi y, vi z] := by
  intro g c I J b hc hX hM hO
  have hT : BoC I (gB g) := hX.2.2.2.2.2.1
  obtain ⟨l1, l2⟩ := hO.2.2.2.2.1
  have el : (iZ ((gB g).length : Int)).toInt = (gB g).length := iZ_toInt (by omega) (by omega)
  refine t_X9_act (D := 899) _ _ _ I J b (t_X0_start (D := 898) _ _ _ I J b ?_)
  have hX1 : XR (gTr g (0, [])) (updI I 0 0 5 0) J b := hX.tr ⟨uI_eq, fun k x hk => by cases hk⟩ (fun s j k w => by rw [updI_if, if_neg (by omega)])
  have hM1 : MR g (updI I 0 0 5 0) J := hM.eq (fun s k w => by unfold mCe at w; rw [updI_if, if_neg (by omega)]) (fun _ => rfl)
  have hbad : ¬ (0 ≤ x.toInt ∧ x.toInt < (gB g).length ∧ 0 ≤ y.toInt ∧ y.toInt ≤ 3) → RIf b (fun x1 I2 J3 => RIf b (fun w I1 J1 => Call 900 235 [vr 10 0, vi x, vi y, vi z] (101, I1, J1, R0 b) (RIf b fun x2 I2 J2 => x2 = w ∧ ∃ g', XR g' I2 J2 b ∧ MR g' I2 J2 ∧ SOK g' (c + 1))) (some (vi x1)) (101, I2, J3, R0 b)) (some (vi 0)) (101, updI I 0 0 5 0, J, R0 b) := fun h => by
    generalize updI I 0 0 5 0 = I1 at hX1 hM1 ⊢
    refine RIf.mk (RIf.mk ((m_act_bad (z := z) hM1 hO h).useI ?_))
    rintro w I2 J2 ⟨rfl, rfl, hM2, hf⟩
    exact ⟨rfl, _, hX1.frM hf (fun _ _ _ => rfl), hM2, (hO.up hc).tr rfl (by show (0 : Nat) ≤ 1000; omega)⟩
  have hT1 : BoC (updI I 0 0 5 0) (gB g) := hX1.2.2.2.2.2.1
  by_cases hin : ¬ (0 ≤ x.toInt ∧ x.toInt < (gB g).length)
  · exact (p_kindOf_n (D := 897) hT1 l1 hin).use (ifp (by decide) (hbad (fun w => hin ⟨w.1, w.2.1⟩)))
  have hin := Classical.not_not.mp hin
  obtain ⟨n, rfl, hn⟩ := nat_of (x := x) (by omega)
  have hg : (gB g)[n]? = some (gB g)[n] := List.getElem?_eq_getElem (by omega)
  generalize (gB g)[n]'(by omega) = k at hg
  have hk8 : k < 8 := l2 _ (List.mem_of_getElem? hg)
  refine (p_kindOf (D := 897) hT1 l1 hg).use (ifn (by rw [i_0]; exact nlt (by omega) (by omega) (by omega)) (ift (c_lt (m := 0) rfl) (fun c3 => hbad (fun w => by omega)) (fun c3 => ift (c_lt (m := 4) rfl) (fun c4 => ?_) (fun c4 => hbad (fun w => by omega)))))
  obtain ⟨a, rfl, ha⟩ := nat_of (x := y) (by omega)
  have hlen := kA_len a k (iZ (n : Int)) z
  have u0 : ∀ s j i, ¬ (s = 0 ∧ (i = 2 ∨ i = 3 ∨ i = 5)) → updI (updI (updI I 0 0 5 0) 0 0 2 (iZ (n : Int))) 0 0 3 (iZ (k : Int)) s j i = I s j i := fun s j i w => by rw [updI_if, if_neg (by omega), updI_if, if_neg (by omega), updI_if, if_neg (by omega)]
  have a3 : updI (updI (updI I 0 0 5 0) 0 0 2 (iZ (n : Int))) 0 0 3 (iZ (k : Int)) 0 0 3 = iZ (k : Int) := uI_eq
  have a2 : updI (updI (updI I 0 0 5 0) 0 0 2 (iZ (n : Int))) 0 0 3 (iZ (k : Int)) 0 0 2 = iZ (n : Int) := by rw [updI_if, if_neg (by omega), uI_eq]
  have a5 : TrA (updI (updI (updI I 0 0 5 0) 0 0 2 (iZ (n : Int))) 0 0 3 (iZ (k : Int))) [] := ⟨by rw [updI_if, if_neg (by omega), updI_if, if_neg (by omega), uI_eq]; rfl, fun k x hk => by cases hk⟩
  generalize updI (updI (updI I 0 0 5 0) 0 0 2 (iZ (n : Int))) 0 0 3 (iZ (k : Int)) = I1 at u0 a2 a3 a5 ⊢
  refine (run_A (x := z) (show a < 4 by omega) hk8 887 0 I1 J b [] (by omega) (by simpa using hlen) a5 a2 a3).mono ?_
  rintro r h ⟨w, I2, J2, rfl, rfl, rfl, rfl, q1, q2⟩
  have hX2 : XR (gTr g ((kA a k (iZ (n : Int)) z).2.length, (kA a k (iZ (n : Int)) z).2)) I2 J2 b := hX.tr q1 (fun s j i w => (q2 _ _ _ (by omega)).trans (u0 _ _ _ (by omega)))
  have hM2 : MR g I2 J2 := hM.eq (fun s i w => by unfold mCe at w; exact (q2 _ _ _ (by omega)).trans (u0 _ _ _ (by omega))) (fun _ => rfl)
  refine RIf.mk (RIf.mk (RIf.mk ((m_act (z := z) hM2 hO hg (by omega) (show a < 4 by omega)).useI ?_)))
  rintro w I3 J3 ⟨rfl, rfl, hM3, hf⟩
  exact ⟨rfl, _, hX2.frM hf (fun _ _ _ => rfl), hM3, (hO.up hc).tr (by show (kA a k (iZ (n : Int)) z).2.length = min (kA a k (iZ (n : Int)) z).2.length 24; omega) (by show (kA a k (iZ (n : Int)) z).2.length ≤ 1000; omega)⟩
end ACTO
