/-! THE PARSER: lines; the class's lines -/
def lnE (tp : List Nat) (p : Nat) : Sum Nat (Nat × Ln) := match pE tp 42 0 0 p with
  | .inl f => .inl f
  | .inr (q, T) => if chT tp q = 63 then (match pE tp 42 0 0 (q + 1) with
    | .inl f => .inl f
    | .inr (q2, U) => .inr (q2, (some T, U))) else .inr (q, (none, T))
def txE (tp : List Nat) : Nat → Nat → List Ln → Sum Nat (List Ln)
  | 0, p, _ => .inl p
  | m + 1, p, L => if chT tp p = 59 then (match lnE tp (p + 1) with
    | .inl f => .inl f
    | .inr (q, l) => txE tp m q (L ++ [l])) else if p < tp.length then .inl p else .inr L
def tE (tp : List Nat) : Sum Nat (List Ln) := match lnE tp 0 with
  | .inl f => .inl f
  | .inr (q, l) => txE tp 121 q [l]
def goodL (tp : List Nat) (p : Nat) (r : Sum Nat (Nat × Ln)) : Prop := match r with
  | .inl f => p ≤ f ∧ f ≤ tp.length
  | .inr (q, l) => p < q ∧ q ≤ tp.length ∧ (lnS l).length ≤ q - p ∧ (∀ st, 2 * (lnC st l).length + 2 * p ≤ 2 * q + 4 ∧ 2 * (lnC st l).length + 3 * p ≤ 3 * q + 3 ∧ 1 ≤ (lnC st l).length) ∧ wfL l ∧ 1 ≤ l.2.length
theorem lnE_good {tp : List Nat} {p : Nat} (hN : tpOK tp) (hp : p ≤ tp.length) : goodL tp p (lnE tp p) := by
  have hN1 := hN.1
  have hg := pE_good (tp := tp) 42 0 0 p hp
  unfold lnE
  cases hx : pE tp 42 0 0 p with
  | inl f =>
    rw [hx] at hg
    exact hg
  | inr y =>
    obtain ⟨q, T⟩ := y
    rw [hx] at hg
    obtain ⟨k1, k2, k3, k4⟩ := hg
    dsimp only
    split
    · next h63 =>
      have hlt := chT_lt (tp := tp) (p := q) (by omega)
      have hg2 := pE_good (tp := tp) 42 0 0 (q + 1) (by omega)
      cases hx2 : pE tp 42 0 0 (q + 1) with
      | inl f =>
        rw [hx2] at hg2
        exact ⟨by have := hg2.1; omega, hg2.2⟩
      | inr y =>
        obtain ⟨q2, U⟩ := y
        rw [hx2] at hg2
        obtain ⟨j1, j2, j3, j4⟩ := hg2
        have l1 := wfx_ne k4
        have l2 := wfx_ne j4
        refine ⟨by omega, j2, ?_, fun st => ?_, ⟨wfx_wfT k4 (by omega), wfx_wfT (T := U) j4 (by omega)⟩, l2⟩
        · show (T ++ U).length ≤ q2 - p
          rw [List.length_append]
          omega
        · have e : (lnC st (some T, U)).length = T.length + U.length + 3 := by
            show (T ++ ([63, st + T.length + 2 + U.length + 1] ++ (U ++ [59]))).length = _
            simp only [List.length_append, List.length_cons, List.length_nil]
            omega
          rw [e]
          omega
    · have l1 := wfx_ne k4
      refine ⟨k1, k2, ?_, fun st => ?_, ⟨trivial, wfx_wfT (T := T) k4 (by omega)⟩, l1⟩
      · show ([] ++ T).length ≤ q - p
        rw [List.nil_append]
        exact k3
      · have e : (lnC st (none, T)).length = T.length + 1 := by
          show (T ++ [59]).length = _
          rw [List.length_append]
          rfl
        rw [e]
        omega
theorem cC_snoc : ∀ (L : List Ln) (st : Nat) (l : Ln), cC st (L ++ [l]) = cC st L ++ lnC (st + (cC st L).length) l
  | [], st, l => by
    show lnC st l ++ [] = [] ++ lnC (st + 0) l
    rw [List.append_nil, List.nil_append, Nat.add_zero]
  | a :: L, st, l => by
    show lnC st a ++ cC (st + (lnC st a).length) (L ++ [l]) = (lnC st a ++ cC (st + (lnC st a).length) L) ++ lnC (st + (lnC st a ++ cC (st + (lnC st a).length) L).length) l
    rw [cC_snoc L, List.append_assoc, List.length_append, Nat.add_assoc]
section LINE
variable {D : Nat} {I : IM} {J : JM} {b : Bool} {tp W : List Nat} {p f : Nat}
theorem CS.put {X Y : List Nat} {z v : Nat} (h : CS b I tp p (X ++ (z :: Y))) : CS b (updI I (cs (!b)) 0 X.length (iZ (v : Int))) tp p (X ++ (v :: Y)) := by
  obtain ⟨h8, h9, h7, hW, ⟨h10, h24⟩, hp⟩ := h
  have hc := @csn b
  have e : ∀ s k, ¬ (s = cs (!b) ∧ k = X.length) → updI I (cs (!b)) 0 X.length (iZ (v : Int)) s 0 k = I s 0 k := fun s k z => by rw [updI_if, if_neg (by omega)]
  refine ⟨(e _ _ (by omega)).trans h8, (e _ _ (by omega)).trans h9, (e _ _ (by omega)).trans ?_, fun k w hk => ?_, ⟨(e _ _ (by omega)).trans h10, fun k x hk => (e _ _ (by omega)).trans (h24 k x hk)⟩, hp⟩
  · rw [h7, List.length_append, List.length_append, List.length_cons, List.length_cons]
  · by_cases hkx : k = X.length
    · subst hkx
      rw [List.getElem?_append_right (Nat.le_refl _), Nat.sub_self] at hk
      cases hk
      exact uI_eq
    · rw [e _ _ (by omega)]
      refine hW k w ?_
      rw [List.getElem?_append] at hk ⊢
      split
      · next hlt =>
        rw [if_pos hlt] at hk
        exact hk
      · next hge =>
        rw [if_neg hge] at hk
        obtain ⟨j, hj⟩ : ∃ j, k - X.length = j + 1 := ⟨k - X.length - 1, by omega⟩
        rw [hj] at hk ⊢
        exact hk
theorem CF.fr {I' : IM} (h : CF I tp f) (e : ∀ s k, (s = 3 ∧ 7 ≤ k ∧ k ≤ 10) ∨ s = 24 → I' s 0 k = I s 0 k) : CF I' tp f := by
  obtain ⟨hf, ⟨h10, h24⟩, ⟨d, d1, d2⟩, h9⟩ := h
  refine ⟨hf, ⟨(e _ _ (by omega)).trans h10, fun k x hk => (e _ _ (by omega)).trans (h24 k x hk)⟩, ⟨d, d1, (e _ _ (by omega)).trans d2⟩, ?_⟩
  rcases h9 with h9 | ⟨h9, h8, hd⟩
  · exact Or.inl ((e _ _ (by omega)).trans h9)
  · exact Or.inr ⟨(e _ _ (by omega)).trans h9, (e _ _ (by omega)).trans h8, hd⟩
theorem t_rl {Q : Option AV → AH → Prop} (h : (Call D 25 [vr 3 0, vi 0, vi 0] (101, I, J, R0 b) (RVf b fun I2 J3 => (Call D 21 [vr 3 0] (101, I2, J3, R0 b) (RIf b fun x4 I5 J6 => (if x4 = (63 : Int32) then (Call D 23 [vr 3 0, vi 63] (101, (updI I5 3 0 8 ((I5 3 0 8) + (1 : Int32))), J6, R0 b) (RVf b fun I8 J9 => (Call D 23 [vr 3 0, vi 0] (101, I8, J9, R0 b) (RVf b fun I11 J12 => (Call D 25 [vr 3 0, vi 0, vi 0] (101, I11, J12, R0 b) (RVf b fun I14 J15 => (Call D 23 [vr 3 0, vi 59] (101, I14, J15, R0 b) (RVf b fun I17 J18 => (if (256 : Int32) ≤ (I8 3 0 7) then Q none (101, I17, J18, R0 b) else (vp_in (I8 3 0 7) 256 ∧ Q none (101, (updI I17 (cs (!b)) 0 (I8 3 0 7).toNatClampNeg (I17 3 0 7)), J18, R0 b))))))))))) else (Call D 23 [vr 3 0, vi 59] (101, I5, J6, R0 b) (RVf b fun I20 J21 => Q none (101, I20, J21, R0 b))))))))) : Call (D + 1) 24 [vr 3 0] (101, I, J, R0 b) Q := by
  cases b
  · exact t_X3_readLine_f I J h
  · exact t_X3_readLine_t I J h
def CRL (b : Bool) (I : IM) (tp W : List Nat) (r : Sum Nat (Nat × Ln)) : Prop := match r with
  | .inl f => CF I tp f
  | .inr (q, l) => CS b I tp q (W ++ lnC W.length l)
theorem x_line (hN : tpOK tp) (hD : 100 ≤ D) (hS : CS b I tp p W) (hr : 2 * W.length ≤ 3 * p) : Call (D + 1) 24 [vr 3 0] (101, I, J, R0 b) (RVf b fun I' J' => J' = J ∧ Fr (pDr b) I I' ∧ CRL b I' tp W (lnE tp p)) := by
  have hN1 := hN.1
  have hp := hS.2.2.2.2.2
  have hcn := @csn b
  obtain ⟨D, rfl⟩ : ∃ D', D = D' + 1 := ⟨D - 1, by omega⟩
  have hg := pE_good (tp := tp) 42 0 0 p hp
  refine t_rl (D := D + 1) ?_
  have hc1 : Call (D + 1) 25 [vr 3 0, vi 0, vi 0] (101, I, J, R0 b) (RVf b fun I' J' => J' = J ∧ Fr (pDr b) I I' ∧ CR b I' tp W (pE tp 42 0 0 p)) := (x_all (b := b) hN 42 0 0 p (by omega) (by omega) (by omega) hp).1 D I J W (by omega) hS (by omega)
  refine hc1.mono ?_
  rintro r h ⟨I1, J1, rfl, rfl, rfl, hf1, k1⟩
  refine RVf.mk ?_
  cases hx : pE tp 42 0 0 p with
  | inl f =>
    have e0 : lnE tp p = .inl f := by
      unfold lnE
      rw [hx]
    rw [hx] at k1
    rw [e0]
    obtain ⟨v, hv, hpu⟩ := p_next_f (D := D) (J := J1) (b := b) hN k1
    have ev : (iZ v).toInt = v := iZ_toInt (by omega) (by omega)
    refine hpu.use (ift (c_eq (m := 63) rfl) (fun z => absurd z (by omega)) (fun _ => ?_))
    refine (e_emit_f (D := D) k1).mono ?_
    rintro r h ⟨I2, J2, rfl, rfl, rfl, hf2, k2⟩
    exact RVf.mk (RVf.mk ⟨rfl, hf1.tr hf2, k2⟩)
  | inr y =>
    obtain ⟨q, T⟩ := y
    rw [hx] at k1 hg
    obtain ⟨g1, g2, g3, g4⟩ := hg
    have k1 : CS b I1 tp q (W ++ T) := k1
    refine (p_next_s (D := D) hN k1).use (ift (cV_is (k := 63) (by omega) rfl) (fun c1 => ?_) (fun c1 => ?_))
    · have hlt := chT_lt (tp := tp) (p := q) (by omega)
      have hg2 := pE_good (tp := tp) 42 0 0 (q + 1) (by omega)
      refine (e_emit_s (D := D) (w := 63) (k1.go hlt) (by rw [List.length_append]; omega) rfl).mono ?_
      rintro r h ⟨I2, J2, rfl, rfl, rfl, hf2, k2⟩
      refine RVf.mk ((e_emit_s (D := D) (w := 0) k2 (by rw [List.length_append, List.length_append, List.length_singleton]; omega) rfl).mono ?_)
      rintro r h ⟨I3, J3, rfl, rfl, rfl, hf3, k3⟩
      refine RVf.mk ?_
      have h7 : I2 3 0 7 = iZ ((W ++ T ++ [63]).length : Int) := k2.2.2.1
      have hl7 : (W ++ T ++ [63]).length = W.length + T.length + 1 := by
        rw [List.length_append, List.length_append, List.length_singleton]
      have hc2 : Call (D + 1) 25 [vr 3 0, vi 0, vi 0] (101, I3, J3, R0 b) (RVf b fun I' J' => J' = J3 ∧ Fr (pDr b) I3 I' ∧ CR b I' tp (W ++ T ++ [63] ++ [0]) (pE tp 42 0 0 (q + 1))) := (x_all (b := b) hN 42 0 0 (q + 1) (by omega) (by omega) (by omega) (by omega)).1 D I3 J3 (W ++ T ++ [63] ++ [0]) (by omega) k3 (by simp only [List.length_append, List.length_singleton]; omega)
      refine hc2.mono ?_
      rintro r h ⟨I4, J4, rfl, rfl, rfl, hf4, k4⟩
      refine RVf.mk ?_
      have hF4 : Fr (pDr b) I I4 := (((hf1.tr pDr_go).tr hf2).tr hf3).tr hf4
      have hdr : ∀ (I5 : IM) (v : Int32), Fr (pDr b) I5 (updI I5 (cs (!b)) 0 (iZ ((W ++ T ++ [63]).length : Int)).toNatClampNeg v) := fun I5 v => Fr.id.upd (pDr_iff.mpr (Or.inl rfl))
      rw [h7]
      have hvp : vp_in (iZ ((W ++ T ++ [63]).length : Int)) 256 := vp_iZ (by omega) (by omega) (by omega)
      have hn7 : ¬ (256 : Int32) ≤ iZ ((W ++ T ++ [63]).length : Int) := by
        rw [show (256 : Int32) = iZ 256 from rfl]
        exact nle (by omega) (by omega) (by omega)
      cases hx2 : pE tp 42 0 0 (q + 1) with
      | inl f =>
        have e0 : lnE tp p = .inl f := by
          unfold lnE
          rw [hx]
          dsimp only
          rw [if_pos c1, hx2]
        rw [hx2] at k4
        rw [e0]
        refine (e_emit_f (D := D) k4).mono ?_
        rintro r h ⟨I5, J5, rfl, rfl, rfl, hf5, k5⟩
        refine RVf.mk (ifn hn7 ⟨hvp, RVf.mk ⟨rfl, (hF4.tr hf5).tr (hdr _ _), ?_⟩⟩)
        exact CF.fr k5 (fun s k z => by rw [updI_if, if_neg (by omega)])
      | inr y =>
        obtain ⟨q2, U⟩ := y
        rw [hx2] at k4 hg2
        obtain ⟨j1, j2, j3, j4⟩ := hg2
        have e0 : lnE tp p = .inr (q2, (some T, U)) := by
          unfold lnE
          rw [hx]
          dsimp only
          rw [if_pos c1, hx2]
        rw [e0]
        refine (e_emit_s (D := D) (w := 59) k4 (by simp only [List.length_append, List.length_singleton]; omega) rfl).mono ?_
        rintro r h ⟨I5, J5, rfl, rfl, rfl, hf5, k5⟩
        refine RVf.mk (ifn hn7 ⟨hvp, RVf.mk ⟨rfl, (hF4.tr hf5).tr (hdr _ _), ?_⟩⟩)
        have h57 : I5 3 0 7 = iZ ((W.length + T.length + 2 + U.length + 1 : Nat) : Int) := by
          rw [k5.2.2.1]
          congr 2
          simp only [List.length_append, List.length_singleton]
        have e1 : W ++ T ++ [63] ++ [0] ++ U ++ [59] = (W ++ T ++ [63]) ++ (0 :: (U ++ [59])) := by simp
        rw [e1] at k5
        rw [h57, iZ_ck (by omega)]
        have := k5.put (v := W.length + T.length + 2 + U.length + 1)
        show CS b _ tp q2 (W ++ (T ++ ([63, W.length + T.length + 2 + U.length + 1] ++ (U ++ [59]))))
        have e2 : W ++ (T ++ ([63, W.length + T.length + 2 + U.length + 1] ++ (U ++ [59]))) = (W ++ T ++ [63]) ++ ((W.length + T.length + 2 + U.length + 1) :: (U ++ [59])) := by simp
        rw [e2]
        exact this
    · have e0 : lnE tp p = .inr (q, (none, T)) := by
        unfold lnE
        rw [hx]
        dsimp only
        rw [if_neg c1]
      rw [e0]
      refine (e_emit_s (D := D) (w := 59) k1 (by rw [List.length_append]; omega) rfl).mono ?_
      rintro r h ⟨I2, J2, rfl, rfl, rfl, hf2, k2⟩
      rw [List.append_assoc] at k2
      exact RVf.mk (RVf.mk ⟨rfl, hf1.tr hf2, k2⟩)
end LINE
