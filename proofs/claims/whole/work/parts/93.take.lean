/-! THE PARSER: a text; the class takes it -/
theorem stS_snoc (L : List Ln) (l : Ln) : stS (L ++ [l]) = stS L ++ lnS l := by
  unfold stS
  rw [List.flatMap_append]
  simp
def invT (tp : List Nat) (p : Nat) (L : List Ln) : Prop := (∀ l ∈ L, wfL l ∧ 1 ≤ l.2.length) ∧ 2 * L.length ≤ p + 1 ∧ 2 * (cC 0 L).length ≤ 3 * (p + 1) ∧ (stS L).length ≤ p ∧ 1 ≤ L.length ∧ 1 ≤ (cC 0 L).length ∧ p ≤ tp.length
theorem invT.snoc {tp : List Nat} {p q : Nat} {L : List Ln} {l : Ln} (h : invT tp p L) (hg : goodL tp (p + 1) (.inr (q, l))) : invT tp q (L ++ [l]) := by
  obtain ⟨h1, h2, h3, h4, h5, h6, h7⟩ := h
  obtain ⟨g1, g2, g3, g4, g5, g6⟩ := hg
  have g4 := g4 (0 + (cC 0 L).length)
  refine ⟨fun x hx => ?_, ?_, ?_, ?_, ?_, ?_, g2⟩
  · rw [List.mem_append, List.mem_singleton] at hx
    rcases hx with hx | rfl
    · exact h1 x hx
    · exact ⟨g5, g6⟩
  · rw [List.length_append, List.length_singleton]
    omega
  · rw [cC_snoc, List.length_append]
    omega
  · rw [stS_snoc, List.length_append]
    omega
  · rw [List.length_append]
    omega
  · rw [cC_snoc, List.length_append]
    omega
theorem invT.one {tp : List Nat} {q : Nat} {l : Ln} (hg : goodL tp 0 (.inr (q, l))) : invT tp q [l] := by
  obtain ⟨g1, g2, g3, g4, g5, g6⟩ := hg
  have g4 := g4 0
  have ec : cC 0 [l] = lnC 0 l := by
    show lnC 0 l ++ [] = lnC 0 l
    rw [List.append_nil]
  have es : stS [l] = lnS l := by
    unfold stS
    simp
  refine ⟨fun x hx => ?_, ?_, ?_, ?_, ?_, ?_, g2⟩
  · rw [List.mem_singleton] at hx
    subst hx
    exact ⟨g5, g6⟩
  · rw [List.length_singleton]
    omega
  · rw [ec]
    omega
  · rw [es]
    omega
  · rw [List.length_singleton]
    omega
  · rw [ec]
    omega
def goodT (tp : List Nat) (r : Sum Nat (List Ln)) : Prop := match r with
  | .inl f => f ≤ tp.length
  | .inr L => invT tp tp.length L
theorem txE_good {tp : List Nat} (hN : tpOK tp) : ∀ (m p : Nat) (L : List Ln), invT tp p L → goodT tp (txE tp m p L)
  | 0, p, L, h => h.2.2.2.2.2.2
  | m + 1, p, L, h => by
    have hp := h.2.2.2.2.2.2
    unfold txE
    split
    · next hc =>
      have hlt := chT_lt (tp := tp) (p := p) (by omega)
      have hg := lnE_good hN (p := p + 1) (by omega)
      cases hx : lnE tp (p + 1) with
      | inl f =>
        rw [hx] at hg
        exact hg.2
      | inr y =>
        obtain ⟨q, l⟩ := y
        rw [hx] at hg
        exact txE_good hN m q _ (h.snoc hg)
    · split
      · exact hp
      · next hge =>
        have : p = tp.length := by omega
        subst this
        exact h
theorem tE_good {tp : List Nat} (hN : tpOK tp) : goodT tp (tE tp) := by
  have hg := lnE_good hN (p := 0) (Nat.zero_le _)
  unfold tE
  cases hx : lnE tp 0 with
  | inl f =>
    rw [hx] at hg
    exact hg.2
  | inr y =>
    obtain ⟨q, l⟩ := y
    rw [hx] at hg
    exact txE_good hN 121 q _ (invT.one hg)
def RX (b : Bool) : RM := updR (updR (R0 b) 3 0 4 (some (cs (!b), 0))) 3 0 5 (some (cs b, 0))
def EndB (D : Nat) (b : Bool) (Q : Option AV → AH → Prop) (I : IM) (J : JM) : Prop := (if (I 3 0 10) ≤ (I 3 0 8) then (if 0 ≤ (I 3 0 9) then Q (some (vi (I 3 0 9))) (101, (updI I 3 0 10 0), J, R0 b) else Q (some (vi (I 3 0 9))) (101, (updI (updI I 3 0 10 0) 3 0 6 (I 3 0 7)), J, RX b)) else (Call D 22 [vr 3 0] (101, I, J, R0 b) (RVf b fun I5 J6 => (if 0 ≤ (I5 3 0 9) then Q (some (vi (I5 3 0 9))) (101, (updI I5 3 0 10 0), J6, R0 b) else Q (some (vi (I5 3 0 9))) (101, (updI (updI I5 3 0 10 0) 3 0 6 (I5 3 0 7)), J6, RX b)))))
def pTk (b : Bool) (s _j k : Nat) : Bool := Nat.beq s (cs (!b)) || (Nat.beq s 3 && (Nat.ble 7 k && Nat.ble k 10))
theorem pTk_iff {b : Bool} {s j k : Nat} : pTk b s j k = true ↔ s = cs (!b) ∨ (s = 3 ∧ 7 ≤ k ∧ k ≤ 10) := by
  unfold pTk
  simp only [Bool.or_eq_true, Bool.and_eq_true, nb_iff, Nat.ble_eq]
theorem pDr_tk {b : Bool} {I I' : IM} (h : Fr (pDr b) I I') : Fr (pTk b) I I' := h.subT (fun s j k z => by
  rw [pDr_iff] at z
  rw [pTk_iff]
  omega)
/-- what taking the tape does -/
def TkQ (b : Bool) (I0 : IM) (J : JM) (res : Sum Nat (List Ln)) (r : Option AV) (h : AH) : Prop := match res with
  | .inl f => ∃ I', r = some (vi (iZ (f : Int))) ∧ h = (101, I', J, R0 b) ∧ I' 3 0 10 = 0 ∧ Fr (pTk b) I0 I'
  | .inr L => ∃ I', r = some (vi (-1)) ∧ h = (101, I', J, RX b) ∧ I' 3 0 10 = 0 ∧ I' 3 0 6 = iZ ((cC 0 L).length : Int) ∧ (∀ (k w : Nat), (cC 0 L)[k]? = some w → I' (cs (!b)) 0 k = iZ (w : Int)) ∧ ∀ s j k, ¬ (s = 3 ∧ k = 6) → pTk b s j k = false → I' s j k = I0 s j k
section TAKE
variable {D : Nat} {I : IM} {J : JM} {b : Bool} {tp W : List Nat} {p f : Nat}
theorem t_tk {Q : Option AV → AH → Prop} (h : Call D 24 [vr 3 0] (101, (updI (updI (updI I 3 0 8 0) 3 0 9 (-1)) 3 0 7 0), J, R0 b) (RVf b fun I2 J3 => WP D 20 21 [vr 3 0, vi 0] [] (101, I2, J3, R0 b) Q)) : Call (D + 1) 20 [vr 3 0] (101, I, J, R0 b) Q := by
  cases b
  · exact t_X3_take_f I J h
  · exact t_X3_take_t I J h
theorem t_tk21 (l1 : Int32) {Q : Option AV → AH → Prop} (h : if (120 : Int32) ≤ l1 then EndB D b Q I J else (Call D 21 [vr 3 0] (101, I, J, R0 b) (RIf b fun x7 I8 J9 => (if ¬ x7 = (59 : Int32) then EndB D b Q I8 J9 else (Call D 24 [vr 3 0] (101, (updI I8 3 0 8 ((I8 3 0 8) + (1 : Int32))), J9, R0 b) (RVf b fun I14 J15 => WP D 20 21 [vr 3 0, vi (l1 + 1)] [] (101, I14, J15, R0 b) Q)))))) : WP D 20 21 [vr 3 0, vi l1] [] (101, I, J, R0 b) Q := by
  cases b
  · exact t_X3_take_f_21 l1 I J h
  · exact t_X3_take_t_21 l1 I J h
theorem e_endF {I0 : IM} (hN : tpOK tp) (h : CF I tp f) (hF : Fr (pTk b) I0 I) : EndB (D + 1) b (TkQ b I0 J (.inl f)) I J := by
  have hN1 := hN.1
  have hh := h
  obtain ⟨hf, ⟨h10, h24⟩, _, h9⟩ := h
  have hz : ∀ I5 : IM, I5 3 0 9 = iZ (f : Int) → 0 ≤ I5 3 0 9 := fun I5 e => by rw [e, i_0]; exact tle (by omega) (by omega) (by omega)
  have hu : ∀ I5 : IM, Fr (pTk b) I0 I5 → Fr (pTk b) I0 (updI I5 3 0 10 0) := fun I5 hh => hh.upd (pTk_iff.mpr (Or.inr ⟨rfl, by omega, by omega⟩))
  refine ifs (fun c1 => ?_) (fun c1 => ?_)
  · rcases h9 with h9 | ⟨h9, h8, hd⟩
    · exact ifp (hz I h9) ⟨_, by rw [h9], rfl, uI_eq, hu _ hF⟩
    · exfalso
      have hd := of_decide_eq_true hd
      have hlt := chT_lt (tp := tp) (p := f) (by omega)
      rw [h10, h8, iZ_le (by omega) (by omega) (by omega) (by omega)] at c1
      omega
  · refine (e_fail_f (D := D) hN hh).mono ?_
    rintro r h ⟨I1, J1, rfl, rfl, rfl, hf1, _, h9⟩
    exact RVf.mk (ifp (hz I1 h9) ⟨_, by rw [h9], rfl, uI_eq, hu _ (hF.tr (pDr_tk hf1))⟩)
theorem e_endS {I0 : IM} {L : List Ln} (hN : tpOK tp) (h : CS b I tp p (cC 0 L)) (hl : (cC 0 L).length ≤ 256) (hF : Fr (pTk b) I0 I) : EndB (D + 1) b (TkQ b I0 J (if p < tp.length then .inl p else .inr L)) I J := by
  have hN1 := hN.1
  have hh := h
  have hcn := @csn b
  obtain ⟨h8, h9, h7, hW, ⟨h10, h24⟩, hp⟩ := h
  unfold EndB
  rw [h10, h8]
  refine ifs (fun c1 => ?_) (fun c1 => ?_)
  · rw [iZ_le (by omega) (by omega) (by omega) (by omega)] at c1
    rw [h9, h7, if_neg (show ¬ p < tp.length by omega)]
    refine ifn (by decide) ⟨_, rfl, rfl, ?_, uI_eq, fun k w hk => ?_, fun s j k z1 z2 => (by rw [updI_if, if_neg (by omega)]; exact (hF.upd (pTk_iff.mpr (Or.inr ⟨rfl, by omega, by omega⟩))) s j k z2)⟩
    · rw [updI_if, if_neg (by omega), uI_eq]
    · rw [updI_if, if_neg (by omega), updI_if, if_neg (by omega)]
      exact hW k w hk
  · rw [iZ_le (by omega) (by omega) (by omega) (by omega)] at c1
    rw [if_pos (show p < tp.length by omega)]
    refine (e_fail_s (D := D) hN hh hl).mono ?_
    rintro r h ⟨I1, J1, rfl, rfl, rfl, hf1, _, h9⟩
    exact RVf.mk (ifp (by rw [h9, i_0]; exact tle (by omega) (by omega) (by omega)) ⟨_, by rw [h9], rfl, uI_eq, (hF.tr (pDr_tk hf1)).upd (pTk_iff.mpr (Or.inr ⟨rfl, by omega, by omega⟩))⟩)
theorem w_takeF {I0 : IM} {i : Nat} (hN : tpOK tp) (hi : i < 120) (h : CF I tp f) (hF : Fr (pTk b) I0 I) : WP (D + 1) 20 21 [vr 3 0, vi (iZ (i : Int))] [] (101, I, J, R0 b) (TkQ b I0 J (.inl f)) := by
  refine t_tk21 _ (ifn (by rw [show (120 : Int32) = iZ 120 from rfl]; exact nle (by omega) (by omega) (by omega)) ?_)
  obtain ⟨v, hv, hpu⟩ := p_next_f (D := D) (J := J) (b := b) hN h
  have ev : (iZ v).toInt = v := iZ_toInt (by omega) (by omega)
  exact hpu.use (ift (c_ne (m := 59) rfl) (fun _ => e_endF hN h hF) (fun z => absurd z (by omega)))
theorem w_take {I0 : IM} (hN : tpOK tp) (hD : 100 ≤ D) : ∀ (m i p : Nat) (L : List Ln) (I : IM) (J : JM), m + i = 121 → 2 * i + 1 ≤ p → invT tp p L → CS b I tp p (cC 0 L) → Fr (pTk b) I0 I → WP (D + 1) 20 21 [vr 3 0, vi (iZ (i : Int))] [] (101, I, J, R0 b) (TkQ b I0 J (txE tp m p L)) := by
  have hN1 := hN.1
  intro m
  induction m with
  | zero =>
    intro i p L I J h1 h2 h3
    have := h3.2.2.2.2.2.2
    omega
  | succ m ih =>
    intro i p L I J h1 h2 h3 hS hF
    obtain ⟨t1, t2, t3, t4, t5, t6, t7⟩ := h3
    have hi : i < 120 := by omega
    refine t_tk21 _ (ifn (by rw [show (120 : Int32) = iZ 120 from rfl]; exact nle (by omega) (by omega) (by omega)) ?_)
    refine (p_next_s (D := D) hN hS).use (ift (cV_isn (k := 59) (by omega) rfl) (fun c1 => ?_) (fun c1 => ?_))
    · have e0 : txE tp (m + 1) p L = if p < tp.length then .inl p else .inr L := by
        conv => lhs; unfold txE
        rw [if_neg c1]
      rw [e0]
      exact e_endS hN hS (by omega) hF
    · have c1 : chT tp p = 59 := by omega
      have hlt := chT_lt (tp := tp) (p := p) (by omega)
      have hg := lnE_good hN (p := p + 1) (by omega)
      have e0 : txE tp (m + 1) p L = match lnE tp (p + 1) with
        | .inl f => .inl f
        | .inr (q, l) => txE tp m q (L ++ [l]) := by
        conv => lhs; unfold txE
        rw [if_pos c1]
        cases lnE tp (p + 1) <;> rfl
      obtain ⟨D, rfl⟩ : ∃ D', D = D' + 1 := ⟨D - 1, by omega⟩
      rw [e0, iZ_s]
      by_cases hD1 : 100 ≤ D + 1
      · refine (x_line (D := D + 1) hN hD1 (hS.go hlt) (by omega)).mono ?_
        rintro r h ⟨I1, J1, rfl, rfl, rfl, hf1, k1⟩
        refine RVf.mk ?_
        have hF1 : Fr (pTk b) I0 I1 := hF.tr (pDr_tk (pDr_go.tr hf1))
        cases hx : lnE tp (p + 1) with
        | inl f =>
          rw [hx] at k1
          exact w_takeF hN (by omega) k1 hF1
        | inr y =>
          obtain ⟨q, l⟩ := y
          rw [hx] at k1 hg
          have k1 : CS b I1 tp q (cC 0 L ++ lnC (cC 0 L).length l) := k1
          have ec : cC 0 (L ++ [l]) = cC 0 L ++ lnC (cC 0 L).length l := by rw [cC_snoc, Nat.zero_add]
          rw [← ec] at k1
          have hq := hg.1
          exact ih (i + 1) q (L ++ [l]) I1 J1 (by omega) (by omega) (invT.snoc ⟨t1, t2, t3, t4, t5, t6, t7⟩ hg) k1 hF1
      · exact absurd hD hD1
theorem x_take (hN : tpOK tp) (hT : TpC I tp) (hD : 102 ≤ D) : Call (D + 1) 20 [vr 3 0] (101, I, J, R0 b) (TkQ b I J (tE tp)) := by
  have hN1 := hN.1
  have hcn := @csn b
  obtain ⟨D, rfl⟩ : ∃ D', D = D' + 1 := ⟨D - 1, by omega⟩
  refine t_tk (D := D + 1) ?_
  have hF0 : Fr (pTk b) I (updI (updI (updI I 3 0 8 0) 3 0 9 (-1)) 3 0 7 0) := ((Fr.id.upd (pTk_iff.mpr (Or.inr ⟨rfl, by omega, by omega⟩))).upd (pTk_iff.mpr (Or.inr ⟨rfl, by omega, by omega⟩))).upd (pTk_iff.mpr (Or.inr ⟨rfl, by omega, by omega⟩))
  have hS : CS b (updI (updI (updI I 3 0 8 0) 3 0 9 (-1)) 3 0 7 0) tp 0 [] := by
    refine ⟨?_, ?_, uI_eq, fun k w hk => (by cases hk), ⟨?_, fun k x hk => ?_⟩, Nat.zero_le _⟩
    · rw [updI_if, if_neg (by omega), updI_if, if_neg (by omega), uI_eq]
      rfl
    · rw [updI_if, if_neg (by omega), uI_eq]
    · rw [updI_if, if_neg (by omega), updI_if, if_neg (by omega), updI_if, if_neg (by omega)]
      exact hT.1
    · rw [updI_if, if_neg (by omega), updI_if, if_neg (by omega), updI_if, if_neg (by omega)]
      exact hT.2 k x hk
  generalize updI (updI (updI I 3 0 8 0) 3 0 9 (-1)) 3 0 7 0 = I0 at hF0 hS ⊢
  have hg := lnE_good hN (p := 0) (Nat.zero_le _)
  refine (x_line (D := D) hN (by omega) hS (by show 2 * 0 ≤ _; omega)).mono ?_
  rintro r h ⟨I1, J1, rfl, rfl, rfl, hf1, k1⟩
  refine RVf.mk ?_
  have hF1 : Fr (pTk b) I I1 := hF0.tr (pDr_tk hf1)
  unfold tE
  cases hx : lnE tp 0 with
  | inl f =>
    rw [hx] at k1
    exact w_takeF (i := 0) hN (by omega) k1 hF1
  | inr y =>
    obtain ⟨q, l⟩ := y
    rw [hx] at k1 hg
    have k1 : CS b I1 tp q ([] ++ lnC 0 l) := k1
    have ec : cC 0 [l] = [] ++ lnC 0 l := by
      show lnC 0 l ++ [] = _
      rw [List.append_nil, List.nil_append]
    rw [← ec] at k1
    have hq := hg.1
    exact w_take hN (by omega) 121 0 q [l] I1 J1 (by omega) (by omega) (invT.one hg) k1 hF1
end TAKE
