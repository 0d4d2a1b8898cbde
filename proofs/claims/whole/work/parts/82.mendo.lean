/-! CHANGES: mend, the op -/
theorem maybe_le {q j v : Nat} (h : maybe q j v) : v ≤ 127 := by
  unfold maybe at h
  omega
section MENDO
variable {D : Nat} {g : Sg} {c : Nat} {J : JM} {b : Bool} {Q : Option AV → AH → Prop}
theorem w_ch34 {I0 : IM} {x1 x2 x3 x4 : Int32} (K : ∀ I, (∀ s j k, ¬ (49 ≤ s ∧ s ≤ 52) → I s j k = I0 s j k) → (∀ k, k + 1 < 40 → I 49 0 k = I0 49 0 (k + 1) ∧ I 50 0 k = I0 50 0 (k + 1) ∧ I 51 0 k = I0 51 0 (k + 1) ∧ I 52 0 k = I0 52 0 (k + 1)) → WP D 143 34 [vr 10 0, vi x1, vi x2, vi x3, vi x4, vi (iZ (40 : Nat))] [] (101, I, J, R0 b) Q) : ∀ (m l : Nat) (I : IM), m + l = 40 → 1 ≤ l → (∀ s j k, ¬ (49 ≤ s ∧ s ≤ 52) → I s j k = I0 s j k) → (∀ k, k + 1 < l → I 49 0 k = I0 49 0 (k + 1) ∧ I 50 0 k = I0 50 0 (k + 1) ∧ I 51 0 k = I0 51 0 (k + 1) ∧ I 52 0 k = I0 52 0 (k + 1)) → (∀ k, l ≤ k → I 49 0 k = I0 49 0 k ∧ I 50 0 k = I0 50 0 k ∧ I 51 0 k = I0 51 0 k ∧ I 52 0 k = I0 52 0 k) → WP D 143 34 [vr 10 0, vi x1, vi x2, vi x3, vi x4, vi (iZ (l : Int))] [] (101, I, J, R0 b) Q := by
  intro m
  induction m with
  | zero =>
    intro l I hl h1 hf hk hr
    have : l = 40 := by omega
    subst this
    exact K I hf hk
  | succ m ih =>
    intro l I hl h1 hf hk hr
    have e1 : iZ (l : Int) - (1 : Int32) = iZ ((l - 1 : Nat) : Int) := by
      rw [i_1, iZ_sub]
      congr 1
      omega
    have hv : vp_in (iZ (l : Int)) 40 := vp_iZ (by omega) (by omega) (by omega)
    have hv1 : vp_in (iZ ((l - 1 : Nat) : Int)) 40 := vp_iZ (by omega) (by omega) (by omega)
    refine t_X10_changes_34 _ _ _ _ _ I J b ?_
    rw [e1, iZ_s, iZ_ck (k := l) (by omega), iZ_ck (k := l - 1) (by omega)]
    refine ifn (by rw [show (40 : Int32) = iZ 40 from rfl]; exact nle (by omega) (by omega) (by omega)) ⟨hv, hv1, hv, hv1, hv, hv1, hv, hv1, ?_⟩
    obtain ⟨r1, r2, r3, r4⟩ := hr l (Nat.le_refl _)
    rw [r1, r2, r3, r4]
    refine ih (l + 1) _ (by omega) (by omega) (fun s j k z => ?_) (fun k hk2 => ?_) (fun k hk2 => ?_)
    · rw [updI_if, if_neg (by omega), updI_if, if_neg (by omega), updI_if, if_neg (by omega), updI_if, if_neg (by omega)]
      exact hf s j k z
    · by_cases h : k = l - 1
      · subst h
        rw [show l - 1 + 1 = l by omega]
        refine ⟨?_, ?_, ?_, ?_⟩
        · rw [updI_if, if_neg (by omega), updI_if, if_neg (by omega), updI_if, if_neg (by omega), uI_eq]
        · rw [updI_if, if_neg (by omega), updI_if, if_neg (by omega), uI_eq]
        · rw [updI_if, if_neg (by omega), uI_eq]
        · rw [uI_eq]
      · obtain ⟨a1, a2, a3, a4⟩ := hk k (by omega)
        refine ⟨?_, ?_, ?_, ?_⟩ <;> (rw [updI_if, if_neg (by omega), updI_if, if_neg (by omega), updI_if, if_neg (by omega), updI_if, if_neg (by omega)]; assumption)
    · obtain ⟨a1, a2, a3, a4⟩ := hr k (by omega)
      refine ⟨?_, ?_, ?_, ?_⟩ <;> (rw [updI_if, if_neg (by omega), updI_if, if_neg (by omega), updI_if, if_neg (by omega), updI_if, if_neg (by omega)]; assumption)
theorem m_changes {q j u : Nat} {I : IM} (hM : MR g I J) (hO : SOK g c) (hn : numP (gN g) q j) (hm : maybe q j u) (hne : gV g q j ≠ u) : Call (D + 2) 143 [vr 10 0, vi (iZ (q : Int)), vi (iZ (j : Int)), vi (iZ (u : Int))] (101, I, J, R0 b) (RIf b fun x I' J' => x = iZ (gV g q j : Int) ∧ J' = J ∧ Fr pMa I I' ∧ MR (gLg g (vPut (gV g) q j u) (lgN (gG g) (gU g) (q, j, gV g q j, u)) (lgN (gG g) (gU g) (q, j, gV g q j, u)).length) I' J) := by
  have n7 := hO.1.1
  have hmv := maybe_of hO.1 hn
  have hu := maybe_le hm
  have hvu := maybe_le hmv
  obtain ⟨l1, l2, l3⟩ := hO.2.1
  obtain ⟨g1, g2, g3⟩ : LgM I (gG g) (gU g) := hM.2.1
  have hlen := lgN_len (ch := (q, j, gV g q j, u)) l2 l1
  have hch : chOK (gN g) (q, j, gV g q j, u) := ⟨hn, hmv, hm⟩
  have hfin : ∀ I1, LgM I1 (lgN (gG g) (gU g) (q, j, gV g q j, u)) (lgN (gG g) (gU g) (q, j, gV g q j, u)).length → (∀ s i k, ¬ ((s = 10 ∧ (k = 13 ∨ k = 14)) ∨ (49 ≤ s ∧ s ≤ 52)) → I1 s i k = I s i k) → Call (D + 1) 142 [vr 10 0, vi (iZ (q : Int)), vi (iZ (j : Int)), vi (iZ (u : Int))] (101, I1, J, R0 b) (RVf b fun I5 J6 => (RIf b fun x I' J' => x = iZ (gV g q j : Int) ∧ J' = J ∧ Fr pMa I I' ∧ MR (gLg g (vPut (gV g) q j u) (lgN (gG g) (gU g) (q, j, gV g q j, u)) (lgN (gG g) (gU g) (q, j, gV g q j, u)).length) I' J) (some (vi (iZ (gV g q j : Int)))) (101, I5, J6, R0 b)) := fun I1 hL hf => by
    refine e_lays (D := D) (ch := (q, j, gV g q j, u)) (v := u) (n := gN g) (V := gV g) (hM.bn.eq (fun s k z => hf _ _ _ (by omega))) hch n7 rfl rfl rfl (fun I3 k1 k2 k3 => ?_)
    have hF1 : Fr pMa I I1 := fun s i k z => by
      have z : ¬ (s = 10 ∨ 43 ≤ s) := fun y => by
        rw [← pMa_iff (j := i) (k := k), z] at y
        cases y
      exact hf _ _ _ (by omega)
    refine RIf.mk ⟨rfl, rfl, hF1.tr k3, hM.lg k1 (hL.eq (fun s k z => k2 _ _ (by omega))) (fun s k z => by rw [k2 _ _ (by omega)]; exact hf _ _ _ (by omega))⟩
  refine t_X10_changes (D := D + 1) _ _ _ I J b ((p_valueAt (D := D) hM.bn n7 hn).use ?_)
  rw [g1]
  refine ifp (by rw [iZ_eq (by omega) (by omega) (by omega) (by omega)]; omega) (ifs (fun c1 => ?_) (fun c1 => ?_))
  · rw [show (40 : Int32) = iZ 40 from rfl, iZ_eq (by omega) (by omega) (by omega) (by omega)] at c1
    have c1 : gU g < 40 := by omega
    rw [if_pos c1] at hlen
    have hv : vp_in (iZ (gU g : Int)) 40 := vp_iZ (by omega) (by omega) (by omega)
    rw [iZ_ck (by omega), iZ_s]
    refine ⟨hv, hv, hv, hv, hfin _ ⟨?_, ?_, fun k x hk => ?_⟩ (fun s i k z => ?_)⟩
    · rw [uI_eq, hlen]
    · rw [updI_if, if_neg (by omega), updI_if, if_neg (by omega), updI_if, if_neg (by omega), updI_if, if_neg (by omega), updI_if, if_neg (by omega), uI_eq, Nat.sub_self]
      rfl
    · rcases lgN_at l2 l1 hk with ⟨_, ⟨k1, k2⟩ | ⟨rfl, rfl⟩⟩ | ⟨z, _⟩
      · obtain ⟨y1, y2, y3, y4⟩ := g3 k x k2
        refine ⟨?_, ?_, ?_, ?_⟩ <;> (rw [updI_if, if_neg (by omega), updI_if, if_neg (by omega), updI_if, if_neg (by omega), updI_if, if_neg (by omega), updI_if, if_neg (by omega), updI_if, if_neg (by omega)]; assumption)
      · refine ⟨?_, ?_, ?_, ?_⟩
        · rw [updI_if, if_neg (by omega), updI_if, if_neg (by omega), updI_if, if_neg (by omega), updI_if, if_neg (by omega), uI_eq]
        · rw [updI_if, if_neg (by omega), updI_if, if_neg (by omega), updI_if, if_neg (by omega), uI_eq]
        · rw [updI_if, if_neg (by omega), updI_if, if_neg (by omega), uI_eq]
        · rw [updI_if, if_neg (by omega), uI_eq]
      · omega
    · rw [updI_if, if_neg (by omega), updI_if, if_neg (by omega), updI_if, if_neg (by omega), updI_if, if_neg (by omega), updI_if, if_neg (by omega), updI_if, if_neg (by omega)]
  · have c1 := Classical.not_not.mp c1
    rw [show (40 : Int32) = iZ 40 from rfl, iZ_eq (by omega) (by omega) (by omega) (by omega)] at c1
    have c1 : gU g = 40 := by omega
    rw [if_neg (by omega)] at hlen
    have u0 : ∀ s i k, ¬ (s = 10 ∧ k = 14) → updI I 10 0 14 0 s i k = I s i k := fun s i k z => by rw [updI_if, if_neg (by omega)]
    have a14 : updI I 10 0 14 0 10 0 14 = 0 := uI_eq
    generalize updI I 10 0 14 0 = I1 at u0 a14 ⊢
    refine w_ch34 (I0 := I1) (fun I2 f2 k2 => ?_) 39 1 I1 (by omega) (by omega) (fun _ _ _ _ => rfl) (fun k z => by omega) (fun k _ => ⟨rfl, rfl, rfl, rfl⟩)
    refine t_X10_changes_34 _ _ _ _ _ I2 J b (ifp (by decide) ?_)
    have e13 : I2 10 0 13 - (1 : Int32) = iZ ((39 : Nat) : Int) := by
      rw [f2 _ _ _ (by omega), u0 _ _ _ (by omega), g1, c1]
      rfl
    have hv : vp_in (iZ ((39 : Nat) : Int)) 40 := vp_iZ (by omega) (by omega) (by omega)
    rw [e13, iZ_ck (by omega), iZ_s]
    refine ⟨hv, hv, hv, hv, hfin _ ⟨?_, ?_, fun k x hk => ?_⟩ (fun s i k z => ?_)⟩
    · rw [uI_eq, hlen]
    · rw [updI_if, if_neg (by omega), updI_if, if_neg (by omega), updI_if, if_neg (by omega), updI_if, if_neg (by omega), updI_if, if_neg (by omega), updI_if, if_neg (by omega), f2 _ _ _ (by omega), a14, Nat.sub_self]
      rfl
    · rcases lgN_at l2 l1 hk with ⟨z, _⟩ | ⟨_, ⟨k1, k3⟩ | ⟨rfl, rfl⟩⟩
      · omega
      · obtain ⟨y1, y2, y3, y4⟩ := g3 (k + 1) x k3
        obtain ⟨z1, z2, z3, z4⟩ := k2 k (by omega)
        rw [u0 _ _ _ (by omega), y1] at z1
        rw [u0 _ _ _ (by omega), y2] at z2
        rw [u0 _ _ _ (by omega), y3] at z3
        rw [u0 _ _ _ (by omega), y4] at z4
        refine ⟨?_, ?_, ?_, ?_⟩ <;> (rw [updI_if, if_neg (by omega), updI_if, if_neg (by omega), updI_if, if_neg (by omega), updI_if, if_neg (by omega), updI_if, if_neg (by omega), updI_if, if_neg (by omega)]; assumption)
      · refine ⟨?_, ?_, ?_, ?_⟩
        · rw [updI_if, if_neg (by omega), updI_if, if_neg (by omega), updI_if, if_neg (by omega), updI_if, if_neg (by omega), uI_eq]
        · rw [updI_if, if_neg (by omega), updI_if, if_neg (by omega), updI_if, if_neg (by omega), uI_eq]
        · rw [updI_if, if_neg (by omega), updI_if, if_neg (by omega), uI_eq]
        · rw [updI_if, if_neg (by omega), uI_eq]
    · rw [updI_if, if_neg (by omega), updI_if, if_neg (by omega), updI_if, if_neg (by omega), updI_if, if_neg (by omega), updI_if, if_neg (by omega), updI_if, if_neg (by omega), f2 _ _ _ (by omega), u0 _ _ _ (by omega)]
theorem SOK.lg {V : Nat → Nat → Nat} {C : List Ch} {u : Nat} (h : SOK g c) (hB : BnOK (gN g) V) (h1 : C.length ≤ 40) (h2 : u ≤ C.length) (h3 : ∀ x ∈ C, chOK (gN g) x) : SOK (gLg g V C u) c := by
  obtain ⟨k1, k2, k3⟩ := h
  exact ⟨hB, ⟨h1, h2, h3⟩, k3⟩
theorem op_mend (x y v : Int32) : Op 82 148 [vi x, vi y, vi v] := by
  intro g c I J b hc hX hM hO
  have n7 := hO.1.1
  obtain ⟨l1, l2, l3⟩ := hO.2.1
  refine t_X9_mend (D := 899) _ _ _ I J b ?_
  by_cases hn : ¬ numOK (gN g) x y
  · refine (p_place_n (D := 898) hX.1.1 n7 hn).use (ifp (by decide) (op_same hc hX hM hO ?_))
    exact t_X10_mend (D := 899) _ _ _ I J b ((p_one_n (D := 896) hM.bn.1 n7 hn).use (ifp rfl ⟨rfl, rfl⟩))
  have hn1 := Classical.not_not.mp hn
  clear hn
  have hn2 := hn1
  obtain ⟨q, j, hp, rfl, rfl⟩ := numOK_ex hn1
  obtain ⟨e1, e2⟩ := BnC_at hX.1 n7 hp
  have hq10 : q ≤ 10 := by unfold numP at hp; omega
  refine (p_place_y (D := 898) hX.1.1 n7 hp).use (ifn (by rw [i_0]; exact nlt (by omega) (by omega) (by omega)) ?_)
  refine (p_mayX (D := 898) hq10).use ?_
  have hmod : ∀ (I1 : IM) (R : Option AV → AH → Prop), I1 10 0 1 = iZ (gN g : Int) → (if bI (mayF q j v) = 0 then R (some (vi (-1))) (101, I1, J, R0 b) else Call 899 143 [vr 10 0, vi (iZ (q : Int)), vi (iZ (j : Int)), vi v] (101, I1, J, R0 b) (RIf b fun x7 I8 J9 => R (some (vi x7)) (101, I8, J9, R0 b))) → Call 900 148 [vr 10 0, vi (iZ (j : Int)), vi (iZ (q : Int)), vi v] (101, I1, J, R0 b) R := fun I1 R hI1 h => by
    refine t_X10_mend (D := 899) _ _ _ I1 J b ?_
    refine (p_one_y (D := 896) hI1 n7 hn2).mono ?_
    rintro r h2 ⟨rfl, rfl⟩
    refine RIf.mk (ifn (by decide) ?_)
    refine (p_mayM (D := 897) hq10).mono ?_
    rintro r h2 ⟨rfl, rfl⟩
    exact RIf.mk h
  cases hm : mayF q j v
  · refine ifn (fun z => z rfl) (op_same hc hX hM hO (hmod I _ hM.bn.1 ?_))
    rw [hm]
    exact ifp rfl ⟨rfl, rfl⟩
  rw [hm] at hmod
  obtain ⟨u, rfl, hmy, hu⟩ := may_ex hm hq10
  have hmv := maybe_of hO.1 hp
  have hvu := maybe_le hmv
  refine ifp (by decide) ((p_read (D := 898) e2).use ?_)
  rw [e1]
  refine ifs (fun c1 => ?_) (fun c1 => ?_)
  · refine op_same hc hX hM hO (hmod I _ hM.bn.1 (ifn (by decide) ?_))
    refine t_X10_changes (D := 898) _ _ _ I J b ((p_valueAt (D := 897) hM.bn n7 hp).use ?_)
    exact ifn (fun z => z c1) (RIf.mk ⟨rfl, rfl⟩)
  · rw [iZ_eq (by omega) (by omega) (by omega) (by omega)] at c1
    have hne : gV g q j ≠ u := by omega
    have hch : chOK (gN g) (q, j, gV g q j, u) := ⟨hp, hmv, hmy⟩
    have hcP : chP (q, j, 0, 0) = chP (q, j, gV g q j, u) := rfl
    rw [hcP] at e2 ⊢
    refine (p_write (D := 898) e2).use ?_
    have hBn : BnC (updI I 20 0 (chP (q, j, gV g q j, u)) (iZ (u : Int))) (gN g) (vPut (gV g) q j u) := hX.1.put (v := u) hch n7
    have hL1 : LgC (updI I 20 0 (chP (q, j, gV g q j, u)) (iZ (u : Int))) (gG g) (gU g) := hX.2.1.eq (fun s k z => by rw [updI_if, if_neg (by omega)])
    have v1 : ∀ s i k, ¬ s = 20 → updI I 20 0 (chP (q, j, gV g q j, u)) (iZ (u : Int)) s i k = I s i k := fun s i k z => by rw [updI_if, if_neg (by omega)]
    generalize updI I 20 0 (chP (q, j, gV g q j, u)) (iZ (u : Int)) = I1 at hBn hL1 v1 ⊢
    refine (e_logAdd (D := 898) (ch := (q, j, gV g q j, u)) hL1 l2 l1).mono ?_
    rintro r h ⟨I2, J2, rfl, rfl, rfl, hL2, f2⟩
    have hX2 : XR (gLg g (vPut (gV g) q j u) (lgN (gG g) (gU g) (q, j, gV g q j, u)) (lgN (gG g) (gU g) (q, j, gV g q j, u)).length) I2 J2 b := hX.lg (hBn.eq (fun s k z => f2 _ _ _ (by omega))) hL2 (fun s i k z => by rw [f2 _ _ _ (by omega), v1 _ _ _ (by omega)])
    have hM2 : MR g I2 J2 := hM.eq (fun s k z => by unfold mCe at z; rw [f2 _ _ _ (by omega), v1 _ _ _ (by omega)]) (fun _ => rfl)
    refine RVf.mk (RIf.mk (hmod I2 _ hM2.bn.1 (ifn (by decide) ?_)))
    refine (m_changes (D := 897) hM2 hO hp hmy hne).useI ?_
    rintro x I3 J3 ⟨rfl, rfl, hf3, hM3⟩
    refine RIf.mk ⟨rfl, _, hX2.frM hf3 (fun _ _ _ => rfl), hM3, (hO.up hc).lg (vPut_ok hO.1 hch hmy) ?_ (Nat.le_refl _) (fun y hy => ?_)⟩
    · rw [lgN_len l2 l1]
      split <;> omega
    · rcases lgN_mem hy with hy | rfl
      · exact l3 y hy
      · exact hch
end MENDO
