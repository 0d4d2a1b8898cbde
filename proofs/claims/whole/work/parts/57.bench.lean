/-! CHANGES: another bench -/
theorem XR.bn {g : Sg} {I I' : IM} {J : JM} {b : Bool} {n : Nat} {V : Nat → Nat → Nat} (h : XR g I J b) (hB : BnC I' n V) (e : ∀ s j k, ¬ (s = 1 ∨ s = 20) → I' s j k = I s j k) : XR (n, V, g.2.2) I' J b := by
  obtain ⟨h1, h2, h3, h4, h5, h6, h7, h8, h9, h10, h11, h12⟩ := h
  have hcs : cs b ≠ 20 ∧ cs b ≠ 1 := by cases b <;> exact ⟨by decide, by decide⟩
  exact ⟨hB, h2.eq (fun s k z => e _ _ _ (by omega)), h3.eq (fun s k z => e _ _ _ (by omega)), h4.eq (fun s k z => e _ _ _ (by omega)), fun s hs => (h5 s hs).eq (fun k => e _ _ _ (by omega)) (fun _ => rfl), h6.eq (fun s k z => e _ _ _ (by omega)), h7.eq (fun s k z => e _ _ _ (by omega)), h8.eq (fun s k z => e _ _ _ (by omega)) (fun k => e _ _ _ (by omega)), (e _ _ _ (by omega)).trans h9, h10.fr (e _ _ _ (by omega)), h11.fr (e _ _ _ (by omega)), fun d hd => (h12 d hd).eq (fun s k z => e _ _ _ (by omega)) (fun k => e _ _ _ (by omega))⟩
theorem MR.bn' {g : Sg} {I I' : IM} {J : JM} {n : Nat} {V : Nat → Nat → Nat} (h : MR g I J) (hB : BnM I' n V) (e : ∀ s k, ¬ ((s = 10 ∧ (k = 1 ∨ (8 ≤ k ∧ k ≤ 12))) ∨ (43 ≤ s ∧ s ≤ 48)) → I' s 0 k = I s 0 k) : MR (n, V, g.2.2) I' J := by
  obtain ⟨h1, h2, h3, h4, h5, h6, h7, h8, ⟨h9, h10⟩, h11, h12⟩ := h
  exact ⟨hB, h2.eq (fun s k z => e _ _ (by omega)), h3.eq (fun s k z => e _ _ (by omega)), h4.eq (fun s k z => e _ _ (by omega)), fun s hs => (h5 s hs).eq (fun t k z => e _ _ (by omega)) (fun _ => rfl), h6.eq (fun s k z => e _ _ (by omega)), h7.eq (fun s k z => e _ _ (by omega)), h8.eq (fun s k z => e _ _ (by omega)), ⟨(e _ _ (by omega)).trans h9, fun d hd => (h10 d hd).eq (fun s k z => e _ _ (by omega))⟩, (e _ _ (by omega)).trans h11, (e _ _ (by omega)).trans h12⟩
theorem DeOK.n {c n n' : Nat} {d : De} (h : DeOK c n d) (hn : n ≤ n') : DeOK c n' d := by
  obtain ⟨d1, d2, d3, d4⟩ := h
  exact ⟨d1, d2, fun e he => Nat.lt_of_lt_of_le (d3 e he) hn, d4⟩
theorem chOK.n {n n' : Nat} {c : Ch} (h : chOK n c) (hn : n ≤ n') : chOK n' c := by
  obtain ⟨h1, h2⟩ := h
  refine ⟨?_, h2⟩
  rcases h1 with h1 | h1
  · exact Or.inl ⟨h1.1, by omega⟩
  · exact Or.inr h1
theorem SOK.bn {g : Sg} {c n : Nat} {V : Nat → Nat → Nat} (h : SOK g c) (hB : BnOK n V) (hn : gN g ≤ n) : SOK (n, V, g.2.2) c := by
  obtain ⟨h1, h2, h3, h4, h5, h6, h7, h8, h9⟩ := h
  exact ⟨hB, ⟨h2.1, h2.2.1, fun x hx => (h2.2.2 x hx).n hn⟩, h3, h4, h5, h6, h7.n hn, fun d hd => (h8 d hd).n hn, h9⟩
def vAdd (V : Nat → Nat → Nat) (n a p h : Nat) : Nat → Nat → Nat := fun q j => if j = n ∧ q < 6 then (if q = 0 then a else if q = 1 then p else if q = 2 then h else if q = 3 then 1 else 0) else V q j
theorem vAdd_ok {V : Nat → Nat → Nat} {n a p h : Nat} (hO : BnOK n V) (hn : n < 7) (ha : a ≤ 9) (hp : p ≤ 3) (hh : h ≤ 2) : BnOK (n + 1) (vAdd V n a p h) := by
  obtain ⟨h1, h2, h3, h4, h5, h6, h7, h8⟩ := hO
  have e : ∀ q j, ¬ (j = n ∧ q < 6) → vAdd V n a p h q j = V q j := fun q j z => if_neg z
  refine ⟨by omega, fun j hj => ?_, by rw [e _ _ (by omega)]; exact h3, by rw [e _ _ (by omega)]; exact h4, by rw [e _ _ (by omega)]; exact h5, by rw [e _ _ (by omega)]; exact h6, by rw [e _ _ (by omega)]; exact h7, fun j hj => by rw [e _ _ (by omega), e _ _ (by omega)]; exact h8 j (by omega)⟩
  by_cases hjn : j = n
  · subst hjn
    refine ⟨?_, ?_, ?_, ?_, ?_, ?_⟩ <;> simp [vAdd] <;> omega
  · rw [e _ _ (by omega), e _ _ (by omega), e _ _ (by omega), e _ _ (by omega), e _ _ (by omega), e _ _ (by omega)]
    exact h2 j hj
section BENCH
variable {D n : Nat} {V : Nat → Nat → Nat} {g : Sg} {c : Nat} {I : IM} {J : JM} {b : Bool}
theorem iZ_ix (n q : Nat) : iZ (n : Int) * (6 : Int32) + iZ (q : Int) = iZ ((6 * n + q : Nat) : Int) := by
  rw [show (6 : Int32) = iZ 6 from rfl, iZ_mul, iZ_add]
  congr 1
  omega
theorem e_add {a p h : Nat} {x y z : Int32} (hB : BnC I n V) (hO : BnOK n V) (hn : n < 7) (hx : x = iZ (a : Int)) (hy : y = iZ (p : Int)) (hz : z = iZ (h : Int)) : Call (D + 1) 13 [vr 1 0, vi x, vi y, vi z] (101, I, J, R0 b) (RIf b fun r I' J' => r = iZ (n : Int) ∧ J' = J ∧ BnC I' (n + 1) (vAdd V n a p h) ∧ ∀ s j k, ¬ (s = 1 ∨ s = 20) → I' s j k = I s j k) := by
  refine t_X1_add _ _ _ I J b ?_
  obtain ⟨b1, b2, b3⟩ := hB
  rw [b1]
  refine ifp (by rw [show (7 : Int32) = iZ 7 from rfl]; exact tlt (by omega) (by omega) (by omega)) ?_
  rw [show (0 : Int32) = iZ ((0 : Nat) : Int) from rfl, show (1 : Int32) = iZ ((1 : Nat) : Int) from rfl, show (2 : Int32) = iZ ((2 : Nat) : Int) from rfl, show (3 : Int32) = iZ ((3 : Nat) : Int) from rfl, iZ_ix, iZ_ix, iZ_ix, iZ_ix, iZ_ck (by omega), iZ_ck (by omega), iZ_ck (by omega), iZ_ck (by omega)]
  refine ⟨vp_iZ (by omega) (by omega) (by omega), vp_iZ (by omega) (by omega) (by omega), vp_iZ (by omega) (by omega) (by omega), vp_iZ (by omega) (by omega) (by omega), RIf.mk ⟨?_, rfl, ⟨?_, fun j q hj hq => ?_, fun q h1 h2 => ?_⟩, fun s j k z => ?_⟩⟩
  · rw [iZ_add, iZ_sub]
    congr 1
    omega
  · rw [uI_eq, iZ_add]
    congr 1
  · rw [updI_if, if_neg (by omega)]
    by_cases hjn : j = n
    · subst hjn
      rcases (show q = 0 ∨ q = 1 ∨ q = 2 ∨ q = 3 ∨ q = 4 ∨ q = 5 by omega) with rfl | rfl | rfl | rfl | rfl | rfl
      · rw [updI_if, if_neg (by omega), updI_if, if_neg (by omega), updI_if, if_neg (by omega), uI_eq, hx]
        simp [vAdd]
      · rw [updI_if, if_neg (by omega), updI_if, if_neg (by omega), uI_eq, hy]
        simp [vAdd]
      · rw [updI_if, if_neg (by omega), uI_eq, hz]
        simp [vAdd]
      · rw [uI_eq]
        simp [vAdd]
      · rw [updI_if, if_neg (by omega), updI_if, if_neg (by omega), updI_if, if_neg (by omega), updI_if, if_neg (by omega), b2 j 4 hj (by omega), (hO.2.2.2.2.2.2.2 j (by omega)).1]
        simp [vAdd]
      · rw [updI_if, if_neg (by omega), updI_if, if_neg (by omega), updI_if, if_neg (by omega), updI_if, if_neg (by omega), b2 j 5 hj (by omega), (hO.2.2.2.2.2.2.2 j (by omega)).2]
        simp [vAdd]
    · rw [updI_if, if_neg (by omega), updI_if, if_neg (by omega), updI_if, if_neg (by omega), updI_if, if_neg (by omega), b2 j q hj hq]
      congr 2
      exact (if_neg (by omega)).symm
  · rw [updI_if, if_neg (by omega), updI_if, if_neg (by omega), updI_if, if_neg (by omega), updI_if, if_neg (by omega), updI_if, if_neg (by omega), b3 q h1 h2]
    congr 2
    exact (if_neg (by omega)).symm
  · rw [updI_if, if_neg (by omega), updI_if, if_neg (by omega), updI_if, if_neg (by omega), updI_if, if_neg (by omega), updI_if, if_neg (by omega)]
theorem p_addF {x y z : Int32} (hB : BnC I n V) (h7 : n ≤ 7) (hn : ¬ n < 7) : Pu (D + 1) 13 [vr 1 0, vi x, vi y, vi z] I J b (-3) := by
  refine t_X1_add _ _ _ I J b ?_
  rw [hB.1]
  exact ifn (by rw [show (7 : Int32) = iZ 7 from rfl]; exact nlt (by omega) (by omega) (by omega)) ⟨rfl, rfl⟩
theorem p_read {k : Nat} (hk : k < 47) : Pu (D + 1) 257 [vr 1 0, vi (iZ (k : Int))] I J b (I 20 0 k) := by
  refine t_X1_read _ I J b ?_
  rw [iZ_ck (by omega)]
  exact ifn (by rw [i_0]; exact nlt (by omega) (by omega) (by omega)) (ifn (by rw [show (47 : Int32) = iZ 47 from rfl]; exact nle (by omega) (by omega) (by omega)) ⟨vp_iZ (by omega) (by omega) (by omega), rfl, rfl⟩)
theorem p_write {k : Nat} {v : Int32} (hk : k < 47) : EfV (D + 1) 258 [vr 1 0, vi (iZ (k : Int)), vi v] I J b (updI I 20 0 k v) J := by
  refine t_X1_write _ _ I J b ?_
  rw [iZ_ck (by omega)]
  exact ifn (by rw [i_0]; exact nlt (by omega) (by omega) (by omega)) (ifn (by rw [show (47 : Int32) = iZ 47 from rfl]; exact nle (by omega) (by omega) (by omega)) ⟨vp_iZ (by omega) (by omega) (by omega), rfl, rfl⟩)
theorem e_addJ {a p h : Nat} {x y z : Int32} (hB : BnM I n V) (hO : BnOK n V) (hn : n < 7) (hx : x = iZ (a : Int)) (hy : y = iZ (p : Int)) (hz : z = iZ (h : Int)) : Call (D + 1) 138 [vr 10 0, vi x, vi y, vi z] (101, I, J, R0 b) (RIf b fun r I' J' => r = iZ (n : Int) ∧ J' = J ∧ BnM I' (n + 1) (vAdd V n a p h) ∧ (∀ s k, ¬ ((s = 10 ∧ (k = 1 ∨ (8 ≤ k ∧ k ≤ 12))) ∨ (43 ≤ s ∧ s ≤ 48)) → I' s 0 k = I s 0 k) ∧ Fr pMa I I') := by
  refine t_X10_addJoint _ _ _ I J b ?_
  obtain ⟨b1, b2, b3⟩ := hB
  have hv : vp_in (iZ (n : Int)) 7 := vp_iZ (by omega) (by omega) (by omega)
  rw [b1, iZ_ck (by omega)]
  refine ⟨hv, hv, hv, hv, hv, hv, RIf.mk ⟨?_, rfl, ⟨?_, fun j q hj hq => ?_, fun q h1 h2 => ?_⟩, fun s k z => ?_, ?_⟩⟩
  · rw [i_1, iZ_add, iZ_sub]
    congr 1
    omega
  · rw [uI_eq, iZ_s]
  · rw [updI_if, if_neg (by omega)]
    by_cases hjn : j = n
    · subst hjn
      rcases (show q = 0 ∨ q = 1 ∨ q = 2 ∨ q = 3 ∨ q = 4 ∨ q = 5 by omega) with rfl | rfl | rfl | rfl | rfl | rfl
      · rw [updI_if, if_neg (by omega), updI_if, if_neg (by omega), updI_if, if_neg (by omega), updI_if, if_neg (by omega), updI_if, if_neg (by omega), uI_eq, hx]
        simp [vAdd]
      · rw [updI_if, if_neg (by omega), updI_if, if_neg (by omega), updI_if, if_neg (by omega), updI_if, if_neg (by omega), uI_eq, hy]
        simp [vAdd]
      · rw [updI_if, if_neg (by omega), updI_if, if_neg (by omega), updI_if, if_neg (by omega), uI_eq, hz]
        simp [vAdd]
      · rw [updI_if, if_neg (by omega), updI_if, if_neg (by omega), uI_eq]
        simp [vAdd]
        rfl
      · rw [updI_if, if_neg (by omega), uI_eq]
        simp [vAdd]
        rfl
      · rw [uI_eq]
        simp [vAdd]
        rfl
    · rw [updI_if, if_neg (by omega), updI_if, if_neg (by omega), updI_if, if_neg (by omega), updI_if, if_neg (by omega), updI_if, if_neg (by omega), updI_if, if_neg (by omega), b2 j q hj hq]
      congr 2
      exact (if_neg (by omega)).symm
  · rw [updI_if, if_neg (by omega), updI_if, if_neg (by omega), updI_if, if_neg (by omega), updI_if, if_neg (by omega), updI_if, if_neg (by omega), updI_if, if_neg (by omega), updI_if, if_neg (by omega), b3 q h1 h2]
    congr 2
    exact (if_neg (by omega)).symm
  · rw [updI_if, if_neg (by omega), updI_if, if_neg (by omega), updI_if, if_neg (by omega), updI_if, if_neg (by omega), updI_if, if_neg (by omega), updI_if, if_neg (by omega), updI_if, if_neg (by omega)]
  · exact ((((((Fr.id.upd rfl).upd rfl).upd rfl).upd rfl).upd rfl).upd rfl).upd rfl
end BENCH
