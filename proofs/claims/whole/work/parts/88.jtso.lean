/-! CHANGES: joints from a row, the model; the op -/
section JTSO
variable {D : Nat} {g : Sg} {J : JM} {b : Bool}
theorem w_jtM {s i n : Nat} {q : Sh} {I0 : IM} (hs : s < 6) (hi : i < 2147483648) (hn : n ≤ 7) (h2 : sK q = 2) (hL : sL q ≤ 60) (hq : ShM I0 J s q) : ∀ (m c N : Nat) (V : Nat → Nat → Nat) (I : IM), n < m + c → c ≤ n → BnM I N V → BnOK N V → (∀ s k, ¬ ((s = 10 ∧ (k = 1 ∨ (8 ≤ k ∧ k ≤ 12))) ∨ (43 ≤ s ∧ s ≤ 48)) → I s 0 k = I0 s 0 k) → Fr pMa I0 I → WP (D + 2) 140 58 [vr 10 0, vi (iZ (s : Int)), vi (iZ (i : Int)), vi (iZ (n : Int)), vi (iZ (c : Int)), vn, vn, vn] [] (101, I, J, R0 b) (RIf b fun x I' J' => x = iZ ((jsF q i n m c N V).1 : Int) ∧ J' = J ∧ BnM I' (jsF q i n m c N V).2.1 (jsF q i n m c N V).2.2 ∧ (∀ s k, ¬ ((s = 10 ∧ (k = 1 ∨ (8 ≤ k ∧ k ≤ 12))) ∨ (43 ≤ s ∧ s ≤ 48)) → I' s 0 k = I0 s 0 k) ∧ Fr pMa I0 I') := by
  intro m
  induction m with
  | zero =>
    intro c N V I h1 h2
    omega
  | succ m ih =>
    intro c N V I h1 h3 hB hO hf hF
    have n7 := hO.1
    have hend : (n ≤ c ∨ 7 ≤ N ∨ okJ q (i + 3 * c) = false) → ∀ v, v = iZ (c : Int) → RIf b (fun x I' J' => x = iZ ((jsF q i n (m + 1) c N V).1 : Int) ∧ J' = J ∧ BnM I' (jsF q i n (m + 1) c N V).2.1 (jsF q i n (m + 1) c N V).2.2 ∧ (∀ s k, ¬ ((s = 10 ∧ (k = 1 ∨ (8 ≤ k ∧ k ≤ 12))) ∨ (43 ≤ s ∧ s ≤ 48)) → I' s 0 k = I0 s 0 k) ∧ Fr pMa I0 I') (some (vi v)) (101, I, J, R0 b) := fun h v hv => by
      rw [jsF_n h]
      exact RIf.mk ⟨hv, rfl, hB, hf, hF⟩
    obtain ⟨q1, q2⟩ := hq
    obtain ⟨r1, r2⟩ := q2 h2
    have hv6 : vp_in (iZ (s : Int)) 6 := vp_iZ (by omega) (by omega) (by omega)
    have cm1 := (lgc (jZ ((i + 3 * c : Nat) : Int)) 0).2.1
    rw [jZ_toInt (by omega) (by omega), show (0 : Int64).toInt = 0 from rfl] at cm1
    have cm2 := (lgc (jZ (((i + 3 * c : Nat) : Int) + 2)) (jZ (sL q : Int))).2.2
    rw [jZ_toInt (by omega) (by omega), jZ_toInt (by omega) (by omega)] at cm2
    refine t_X10_joints_58 _ _ _ _ I J b ?_
    rw [pl_eq hi (by omega), iZ_ck (k := s) (by omega), hf 82 s (by omega), r1, iZ_64 (n := (sL q : Int)) (by omega) (by omega), show (2 : Int64) = jZ 2 from rfl, jZ_add, hB.1]
    refine ifs (fun c1 => hend (Or.inl ?_) _ ?_) (fun c1 => ift cm1 (fun c2 => absurd c2 (by omega)) (fun _ => ⟨hv6, ift cm2 (fun c3 => hend (Or.inr (Or.inr ?_)) _ rfl) (fun c3 => ifs (fun c4 => ?_) (fun c4 => hend (Or.inr (Or.inl ?_)) _ rfl))⟩))
    · rw [iZ_le (by omega) (by omega) (by omega) (by omega)] at c1
      omega
    · rw [iZ_le (by omega) (by omega) (by omega) (by omega)] at c1
      congr 1
      omega
    · unfold okJ
      rw [decide_eq_false (by omega), Bool.false_and]
    · rw [iZ_le (by omega) (by omega) (by omega) (by omega)] at c1
      rw [i_7, iZ_eq (by omega) (by omega) (by omega) (by omega)] at c4
      have hp : i + 3 * c + 3 ≤ sL q := by omega
      have e0 : (60 : Int32) * iZ (s : Int) + (jZ ((i + 3 * c : Nat) : Int)).toInt32 = iZ ((60 * s + (i + 3 * c) : Nat) : Int) := by
        rw [jZ_32, show (60 : Int32) = iZ 60 from rfl, iZ_mul, iZ_add]
        congr 1
      have e1 : iZ ((60 * s + (i + 3 * c) : Nat) : Int) + (1 : Int32) = iZ ((60 * s + (i + 3 * c + 1) : Nat) : Int) := iZ_s _
      have e2 : iZ ((60 * s + (i + 3 * c) : Nat) : Int) + (2 : Int32) = iZ ((60 * s + (i + 3 * c + 2) : Nat) : Int) := by
        rw [i_2, iZ_add]
        rfl
      have v0 : vp_in (iZ ((60 * s + (i + 3 * c) : Nat) : Int)) 360 := vp_iZ (by omega) (by omega) (by omega)
      have v1 : vp_in (iZ ((60 * s + (i + 3 * c + 1) : Nat) : Int)) 360 := vp_iZ (by omega) (by omega) (by omega)
      have v2 : vp_in (iZ ((60 * s + (i + 3 * c + 2) : Nat) : Int)) 360 := vp_iZ (by omega) (by omega) (by omega)
      rw [e0, e1, e2, iZ_ck (k := 60 * s + (i + 3 * c)) (by omega), iZ_ck (k := 60 * s + (i + 3 * c + 1)) (by omega), iZ_ck (k := 60 * s + (i + 3 * c + 2)) (by omega), r2 _ (by omega)]
      refine ⟨v0, (p_M_in (D := D + 1) _ 1 9).mono ?_⟩
      rintro r h ⟨rfl, rfl⟩
      refine RIf.mk ?_
      cases h0 : inB (sC q (i + 3 * c)).toInt32 1 9
      · refine ifp rfl (hend (Or.inr (Or.inr ?_)) _ rfl)
        unfold okJ cN
        rw [h0, Bool.false_and, Bool.and_false]
      rw [r2 _ (by omega)]
      refine ifn (by decide) ⟨v1, (p_M_in (D := D + 1) _ 0 3).mono ?_⟩
      rintro r h ⟨rfl, rfl⟩
      refine RIf.mk ?_
      cases h1 : inB (sC q (i + 3 * c + 1)).toInt32 0 3
      · refine ifp rfl (hend (Or.inr (Or.inr ?_)) _ rfl)
        unfold okJ cN
        rw [h1, Bool.false_and, Bool.and_false, Bool.and_false]
      rw [r2 _ (by omega)]
      refine ifn (by decide) ⟨v2, (p_M_in (D := D + 1) _ 0 2).mono ?_⟩
      rintro r h ⟨rfl, rfl⟩
      refine RIf.mk ?_
      cases h4 : inB (sC q (i + 3 * c + 2)).toInt32 0 2
      · refine ifn (fun z => z rfl) (hend (Or.inr (Or.inr ?_)) _ rfl)
        unfold okJ cN
        rw [h4, Bool.and_false, Bool.and_false, Bool.and_false]
      have hok : okJ q (i + 3 * c) = true := by
        unfold okJ cN
        rw [h0, h1, h4, decide_eq_true hp]
        rfl
      obtain ⟨_, _, _, _, a1, a2, a3, b1, b2, b3⟩ := okJ_ex hok
      rw [r2 _ (by omega), r2 _ (by omega), r2 _ (by omega)]
      refine ifp (by decide) ⟨v0, v1, v2, (e_addJ (D := D + 1) (a := vN q (i + 3 * c)) (p := vN q (i + 3 * c + 1)) (h := vN q (i + 3 * c + 2)) hB hO (by omega) b1 b2 b3).mono ?_⟩
      rintro r h ⟨x, I1, J1, rfl, rfl, rfl, rfl, k1, k2, k3⟩
      refine RIf.mk ?_
      rw [jsF_y (by omega) (by omega) hok, iZ_s]
      exact ih (c + 1) (N + 1) _ I1 (by omega) (by omega) k1 (vAdd_ok hO (by omega) a1 a2 a3) (fun s k z => (k2 s k z).trans (hf s k z)) (hF.tr k3)
    · rw [i_7] at c4
      have c4 := Classical.not_not.mp c4
      rw [iZ_eq (by omega) (by omega) (by omega) (by omega)] at c4
      omega
theorem op_joints (x y z : Int32) : Op 80 140 [vi x, vi y, vi z] := by
  intro g c I J b hc hX hM hO
  have n7 := hO.1.1
  refine t_X9_joints (D := 899) _ _ _ I J b ((p_X_isShelf (D := 898) _).use ?_)
  cases hx : inB x 0 5
  · refine ifp rfl (op_same hc hX hM hO ?_)
    refine t_X10_joints (D := 899) _ _ _ I J b ((p_M_isShelf (D := 897) _).use ?_)
    rw [hx]
    exact ifp rfl ⟨rfl, rfl⟩
  obtain ⟨s, hs, rfl⟩ := in05x hx
  have hv : vp_in (iZ (s : Int)) 6 := vp_iZ (by omega) (by omega) (by omega)
  -- the model, to its choice
  have hmod : ∀ (I1 : IM) (R : Option AV → AH → Prop), MR g I1 J → (inB z 1 7 = false → R (some (vi (-1))) (101, I1, J, R0 b)) → (inB z 1 7 = true → lackV (gS g s) 0 = -12 → R (some (vi (-12))) (101, I1, J, R0 b)) → (inB z 1 7 = true → lackV (gS g s) 0 = -11 → R (some (vi 0)) (101, I1, J, R0 b)) → (inB z 1 7 = true → lackV (gS g s) 0 = 0 → WP 899 140 58 [vr 10 0, vi (iZ (s : Int)), vi y, vi z, vi 0, vn, vn, vn] [] (101, I1, J, R0 b) R) → Call 900 140 [vr 10 0, vi (iZ (s : Int)), vi y, vi z] (101, I1, J, R0 b) R := fun I1 R hM1 g1 g2 g3 g4 => by
    obtain ⟨q1, q2⟩ := hM1.sh s hs
    have hok := (hO.2.2.2.1 s hs).1
    have hk2 := hok.1
    refine t_X10_joints (D := 899) _ _ _ I1 J b ((p_M_isShelf (D := 897) _).mono ?_)
    rintro r h ⟨rfl, rfl⟩
    refine RIf.mk ?_
    rw [hx]
    refine ifn (by decide) ((p_M_in (D := 898) z 1 7).mono ?_)
    rintro r h ⟨rfl, rfl⟩
    refine RIf.mk ?_
    cases hz : inB z 1 7
    · exact ifn (fun z => z rfl) (g1 hz)
    rw [iZ_ck (by omega), q1]
    refine ifp (by decide) ⟨hv, ?_⟩
    rcases lackV_cases (gS g s) 0 with h | h | ⟨h, h2, h3⟩
    · have h0 : sK (gS g s) = 0 := by
        by_cases h0 : sK (gS g s) = 0
        · exact h0
        · exfalso
          unfold lackV at h
          rw [if_neg h0] at h
          split at h <;> cases h
      rw [(shG_m1 hok).mpr h0]
      exact ifp rfl ⟨hv, ifn (fun z => z rfl) (g3 hz h)⟩
    · have h0 : ¬ shH (gS g s) = -1 := fun w => by
        rw [lackV_0 ((shG_m1 hok).mp w)] at h
        cases h
      have h2 : ¬ shH (gS g s) = -2 := fun w => by
        have hn1 : ¬ sK (gS g s) = 1 := fun y => by
          have := (shG_0 hok).mpr y
          omega
        have hn0 : ¬ sK (gS g s) = 0 := fun y => h0 ((shG_m1 hok).mpr y)
        have hk : sK (gS g s) = 2 := by omega
        have := shG_2 hk
        rw [lackV_y hk (by omega)] at h
        cases h
      have hg := shG_ge hok
      have e1 : (iZ (shH (gS g s))).toInt = shH (gS g s) := iZ_toInt (by omega) (by omega)
      exact ift (c_eq (m := -1) rfl) (fun c1 => absurd c1 (by omega)) (fun _ => ⟨hv, ift (c_eq (m := -2) rfl) (fun c1 => absurd c1 (by omega)) (fun _ => g2 hz h)⟩)
    · rw [show shH (gS g s) = -2 by rw [shG_2 h2, h3]; rfl]
      exact ifn (by decide) ⟨hv, ifp rfl ⟨hv, ifp (by decide) (g4 hz h)⟩⟩
  obtain ⟨hsh, hok⟩ := hX.sh hO s hs
  have hbadz : inB z 1 7 = false → Pu 900 140 [vr 10 0, vi (iZ (s : Int)), vi y, vi z] I J b (-1) := fun h => hmod I _ hM (fun _ => ⟨rfl, rfl⟩) (fun h2 => (by rw [h] at h2; cases h2)) (fun h2 => (by rw [h] at h2; cases h2)) (fun h2 => (by rw [h] at h2; cases h2))
  refine ifn (by decide) (ift (c_lt (m := 1) rfl) (fun c1 => op_same hc hX hM hO (hbadz (inB_no (l := 1) (h := 7) rfl rfl (by omega)))) (fun c1 => ift (c_le (m := 7) rfl) (fun c2 => ?_) (fun c2 => op_same hc hX hM hO (hbadz (inB_no (l := 1) (h := 7) rfl rfl (by omega))))))
  have hz : inB z 1 7 = true := inB_of (l := 1) (h := 7) rfl rfl (by omega)
  rw [iZ_ck (by omega)]
  refine ⟨hv, ((p_lackOfRow (D := 898) (so := 0) hsh hok (by omega) (x := 0) rfl).use ?_)⟩
  rcases lackV_cases (gS g s) 0 with h | h | ⟨h, h2, h3⟩
  · rw [h]
    refine ifp (by decide) (ifp (by decide) (op_same hc hX hM hO (hmod I _ hM (fun w => (by rw [hz] at w; cases w)) (fun _ w => (by rw [h] at w; cases w)) (fun _ _ => ⟨rfl, rfl⟩) (fun _ w => (by rw [h] at w; cases w)))))
  · rw [h]
    refine ifn (fun z => z rfl) (op_same hc hX hM hO (hmod I _ hM (fun w => (by rw [hz] at w; cases w)) (fun _ _ => ⟨rfl, rfl⟩) (fun _ w => (by rw [h] at w; cases w)) (fun _ w => (by rw [h] at w; cases w))))
  · rw [h]
    have hLn := (hok.2.2 h2).2.1
    obtain ⟨n, rfl, hn⟩ := nat_of (x := z) (by omega)
    refine ifp (by decide) (ifn (fun z => z rfl) (ift (c_ge (m := 0) rfl) (fun c3 => ?_) (fun c3 => ?_)))
    · obtain ⟨i, rfl, hi⟩ := nat_of (x := y) c3
      have hil := (iZ (i : Int)).toInt_lt
      have hi2 : i < 2147483648 := by omega
      have hn7 : n ≤ 7 := by omega
      refine (w_jtX (D := 897) (n := n) hs hi2 hn7 h2 hLn hsh 8 0 (gN g) (gV g) I (by omega) (by omega) hX.1 hO.1 (fun _ _ _ _ => rfl)).mono ?_
      rintro r h5 ⟨x, I1, J1, rfl, rfl, rfl, rfl, k1, k2⟩
      obtain ⟨o1, o2⟩ := jsF_ok (q := gS g s) (i := i) (n := n) 8 0 (gN g) (gV g) hO.1
      have hX1 := hX.bn k1 k2
      have hM1 : MR g I1 J1 := hM.eq (fun s k w => k2 s 0 k (by unfold mCe at w; omega)) (fun _ => rfl)
      refine RIf.mk (hmod I1 _ hM1 (fun w => (by rw [hz] at w; cases w)) (fun _ w => (by rw [h] at w; cases w)) (fun _ w => (by rw [h] at w; cases w)) (fun _ _ => ?_))
      refine (w_jtM (D := 897) (n := n) hs hi2 hn7 h2 hLn (hM1.sh s hs) 8 0 (gN g) (gV g) I1 (by omega) (by omega) hM1.bn hO.1 (fun _ _ _ => rfl) Fr.id).mono ?_
      rintro r h5 ⟨x, I2, J2, rfl, rfl, rfl, rfl, k3, k4, k5⟩
      exact RIf.mk ⟨rfl, _, hX1.frM k5 (fun _ _ _ => rfl), hM1.bn' k3 k4, (hO.bn o1 o2).up hc⟩
    · refine op_same hc hX hM hO (hmod I _ hM (fun w => (by rw [hz] at w; cases w)) (fun _ w => (by rw [h] at w; cases w)) (fun _ w => (by rw [h] at w; cases w)) (fun _ _ => ?_))
      have hye : y = iZ y.toInt := (iZ_self y).symm
      have hyl := y.toInt_lt
      have hyg := y.le_toInt
      refine t_X10_joints_58 _ _ _ _ I J b ?_
      have e0 : y.toInt64 + ((3 : Int32) * (0 : Int32)).toInt64 = jZ y.toInt := by
        rw [show ((3 : Int32) * (0 : Int32)).toInt64 = jZ 0 from rfl]
        conv => lhs; rw [hye]
        rw [iZ_64 (by omega) (by omega), jZ_add, Int.add_zero]
      rw [e0]
      have cm1 := (lgc (jZ y.toInt) 0).2.1
      rw [jZ_toInt (by omega) (by omega), show (0 : Int64).toInt = 0 from rfl] at cm1
      refine ift (c_le (x := iZ (n : Int)) (m := 0) rfl) (fun c4 => absurd c4 (by omega)) (fun _ => ift cm1 (fun _ => ⟨rfl, rfl⟩) (fun c5 => absurd c5 (by omega)))
end JTSO
