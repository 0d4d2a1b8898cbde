/-! THE PARSER, the model: operands, levels -/
def XMo (tp : List Nat) (e y p o : Nat) (r : Rs) : Prop := ∀ (D : Nat) (I : IM) (J : JM) (b : Bool) (S : List Nat), e + 6 ≤ D → MS I tp p o S → S.length ≤ p → Call (D + 1) y [vr 10 0] (101, I, J, R0 b) (RVf b fun I' J' => J' = J ∧ Fr pMd I I' ∧ MPQ I' tp p o S r)
def LvT (tp : List Nat) (lv y y' : Nat) (L : List AV) : Prop := (∀ (D : Nat) (I : IM) (J : JM) (b : Bool) (Q : Option AV → AH → Prop), Call D y' [vr 10 0] (101, I, J, R0 b) (RVf b fun I2 J3 => WP D y 4 L [] (101, I2, J3, R0 b) Q) → Call (D + 1) y [vr 10 0] (101, I, J, R0 b) Q) ∧ (∀ (D : Nat) (I : IM) (J : JM) (b : Bool) (Q : Option AV → AH → Prop) (f q a : Nat), MF I tp f q a → Q none (101, I, J, R0 b) → WP D y 4 L [] (101, I, J, R0 b) Q) ∧ (∀ (D : Nat) (I : IM) (J : JM) (b : Bool) (Q : Option AV → AH → Prop) (p o : Nat) (S : List Nat), MS I tp p o S → lvO (chT tp p) ≠ lv → Q none (101, I, J, R0 b) → WP (D + 1) y 4 L [] (101, I, J, R0 b) Q) ∧ (∀ (D : Nat) (I : IM) (J : JM) (b : Bool) (Q : Option AV → AH → Prop) (p o : Nat) (S : List Nat), MS I tp p o S → lvO (chT tp p) = lv → (∀ z, z = iZ (chT tp p : Int) → Call (D + 1) y' [vr 10 0] (101, (updI I 10 0 21 ((I 10 0 21) + (1 : Int32))), J, R0 b) (RVf b fun I11 J12 => Call (D + 1) 153 [vr 10 0, vi z, vi 0] (101, I11, J12, R0 b) (RVf b fun I14 J15 => WP (D + 1) y 4 L [] (101, I14, J15, R0 b) Q))) → WP (D + 1) y 4 L [] (101, I, J, R0 b) Q)
theorem mV_lt {c : Nat} (h : c < 128) : mV c = iZ (c : Int) := by
  unfold mV mvI
  rw [if_pos h]
theorem MF.ge {I : IM} {tp : List Nat} {f q a : Nat} (hN : tpOK tp) (h : MF I tp f q a) : 0 ≤ I 10 0 22 := by
  have hN1 := hN.1
  have h2 := h.2.1
  rw [h.1, i_0]
  exact tle (by omega) (by omega) (by omega)
theorem MS.nge {I : IM} {tp S : List Nat} {p o : Nat} (h : MS I tp p o S) : ¬ 0 ≤ I 10 0 22 := by
  rw [h.2.1]
  decide
theorem lvT_4 {tp : List Nat} (hN : tpOK tp) : LvT tp 4 158 157 [vr 10 0, vn] := by
  refine ⟨fun D I J b Q h => t_X10_product I J b h, fun D I J b Q f q a hm h => t_X10_product_4 I J b (ifp (hm.ge hN) h), fun D I J b Q p o S hS hc h => ?_, fun D I J b Q p o S hS hc K => ?_⟩
  · exact t_X10_product_4 I J b (ifn hS.nge ((p_look_s (D := D) hN hS).use (ift (mV_is (k := 42) (by omega) rfl) (fun z => absurd (by rw [z]; rfl) hc) (fun _ => (p_look_s (D := D) hN hS).use (ift (mV_is (k := 47) (by omega) rfl) (fun z => absurd (by rw [z]; rfl) hc) (fun _ => (p_look_s (D := D) hN hS).use (ift (mV_isn (k := 37) (by omega) rfl) (fun _ => h) (fun z => absurd (by rw [Classical.not_not.mp z]; rfl) hc))))))))
  · have hlt := (lvO_op hc (by omega)).2
    have hz := mV_lt (c := chT tp p) (by omega)
    refine t_X10_product_4 I J b (ifn hS.nge ((p_look_s (D := D) hN hS).use (ift (mV_is (k := 42) (by omega) rfl) (fun _ => (p_look_s (D := D) hN hS).use (K _ hz)) (fun z1 => (p_look_s (D := D) hN hS).use (ift (mV_is (k := 47) (by omega) rfl) (fun _ => (p_look_s (D := D) hN hS).use (K _ hz)) (fun z2 => (p_look_s (D := D) hN hS).use (ift (mV_isn (k := 37) (by omega) rfl) (fun z3 => absurd hc ?_) (fun _ => (p_look_s (D := D) hN hS).use (K _ hz))))))))) 
    unfold lvO
    repeat (first | omega | split)
theorem lvT_3 {tp : List Nat} (hN : tpOK tp) : LvT tp 3 159 158 [vr 10 0, vn] := by
  refine ⟨fun D I J b Q h => t_X10_sum I J b h, fun D I J b Q f q a hm h => t_X10_sum_4 I J b (ifp (hm.ge hN) h), fun D I J b Q p o S hS hc h => ?_, fun D I J b Q p o S hS hc K => ?_⟩
  · exact t_X10_sum_4 I J b (ifn hS.nge ((p_look_s (D := D) hN hS).use (ift (mV_is (k := 43) (by omega) rfl) (fun z => absurd (by rw [z]; rfl) hc) (fun _ => (p_look_s (D := D) hN hS).use (ift (mV_isn (k := 45) (by omega) rfl) (fun _ => h) (fun z => absurd (by rw [Classical.not_not.mp z]; rfl) hc))))))
  · have hlt := (lvO_op hc (by omega)).2
    have hz := mV_lt (c := chT tp p) (by omega)
    refine t_X10_sum_4 I J b (ifn hS.nge ((p_look_s (D := D) hN hS).use (ift (mV_is (k := 43) (by omega) rfl) (fun _ => (p_look_s (D := D) hN hS).use (K _ hz)) (fun z1 => (p_look_s (D := D) hN hS).use (ift (mV_isn (k := 45) (by omega) rfl) (fun z3 => absurd hc ?_) (fun _ => (p_look_s (D := D) hN hS).use (K _ hz)))))))
    unfold lvO
    repeat (first | omega | split)
theorem lvT_1 {tp : List Nat} (hN : tpOK tp) : LvT tp 1 161 160 [vr 10 0] := by
  refine ⟨fun D I J b Q h => t_X10_both I J b h, fun D I J b Q f q a hm h => t_X10_both_4 I J b (ifp (hm.ge hN) h), fun D I J b Q p o S hS hc h => ?_, fun D I J b Q p o S hS hc K => ?_⟩
  · exact t_X10_both_4 I J b (ifn hS.nge ((p_look_s (D := D) hN hS).use (ift (mV_isn (k := 38) (by omega) rfl) (fun _ => h) (fun z => absurd (by rw [Classical.not_not.mp z]; rfl) hc))))
  · refine t_X10_both_4 I J b (ifn hS.nge ((p_look_s (D := D) hN hS).use (ift (mV_isn (k := 38) (by omega) rfl) (fun z3 => absurd hc ?_) (fun z => K _ (by rw [Classical.not_not.mp z]; rfl)))))
    unfold lvO
    repeat (first | omega | split)
theorem lvT_0 {tp : List Nat} (hN : tpOK tp) : LvT tp 0 162 161 [vr 10 0] := by
  refine ⟨fun D I J b Q h => t_X10_either I J b h, fun D I J b Q f q a hm h => t_X10_either_4 I J b (ifp (hm.ge hN) h), fun D I J b Q p o S hS hc h => ?_, fun D I J b Q p o S hS hc K => ?_⟩
  · exact t_X10_either_4 I J b (ifn hS.nge ((p_look_s (D := D) hN hS).use (ift (mV_isn (k := 124) (by omega) rfl) (fun _ => h) (fun z => absurd (by rw [Classical.not_not.mp z]; rfl) hc))))
  · refine t_X10_either_4 I J b (ifn hS.nge ((p_look_s (D := D) hN hS).use (ift (mV_isn (k := 124) (by omega) rfl) (fun z3 => absurd hc ?_) (fun z => K _ (by rw [Classical.not_not.mp z]; rfl)))))
    unfold lvO
    repeat (first | omega | split)
theorem am_op {c : Nat} (h : isOp c) : tkOK c ∧ am c = c ∧ wi c = 0 := by
  refine ⟨Or.inr (Or.inr (Or.inr (Or.inr h))), ?_, ?_⟩
  · unfold isOp at h
    unfold am
    rw [if_neg (by omega), if_neg (by omega), if_neg (by omega), if_neg (by omega)]
  · unfold isOp at h
    unfold wi
    rw [if_neg (by omega), if_neg (by omega)]
section PARN
variable {D : Nat} {I : IM} {J : JM} {b : Bool} {tp S : List Nat} {p o f q a : Nat}
theorem w_lpm {y y' lv e p0 : Nat} {L : List AV} {nx : Nat → Rs} {I0 : IM} (hN : tpOK tp) (hl : lv < 5) (hL : LvT tp lv y y' L) (hx : ∀ p, p ≤ tp.length → XMo tp e y' p o (nx p)) (hg : ∀ p, p ≤ tp.length → good tp p (nx p)) (hS0 : S.length ≤ p0) (hD : e + 6 ≤ D) : ∀ (m p : Nat) (T : List Nat) (I : IM) (J : JM), 120 ≤ m + p → p0 ≤ p → T.length ≤ p - p0 → MS I tp p o (S ++ T) → Fr pMd I0 I → WP (D + 1) y 4 L [] (101, I, J, R0 b) (RVf b fun I' J' => J' = J ∧ Fr pMd I0 I' ∧ MPQ I' tp p0 o S (lpE tp lv nx m p T)) := by
  have hN1 := hN.1
  obtain ⟨hT, hF, hA, hB⟩ := hL
  intro m
  induction m with
  | zero =>
    intro p T I J hm hp hT2 hS hF0
    have hpN := hS.2.2.2.2.2.2
    refine hA D I J b _ p o _ hS ?_ (RVf.mk ⟨rfl, hF0, hS⟩)
    rw [chT_end (by omega)]
    show 9 ≠ lv
    omega
  | succ m ih =>
    intro p T I J hm hp hT2 hS hF0
    have hpN := hS.2.2.2.2.2.2
    by_cases hc : lvO (chT tp p) = lv
    · obtain ⟨c2, c3⟩ := lvO_op hc hl
      have hlt := chT_lt (tp := tp) (p := p) (by omega)
      obtain ⟨a1, a2, a3⟩ := am_op c2
      have e0 : lpE tp lv nx (m + 1) p T = match nx (p + 1) with
        | .inl f => .inl f
        | .inr (q, U) => lpE tp lv nx m q (T ++ (U ++ [chT tp p])) := by
        conv => lhs; unfold lpE
        rw [if_pos hc]
        cases nx (p + 1) <;> rfl
      have hgp := hg (p + 1) (by omega)
      refine hB D I J b _ p o _ hS hc (fun z hz => ?_)
      obtain ⟨D', rfl⟩ : ∃ D', D = D' + 1 := ⟨D - 1, by omega⟩
      refine (hx (p + 1) (by omega) (D' + 1) _ J b (S ++ T) (by omega) (hS.go hlt) (by rw [List.length_append]; omega)).mono ?_
      rintro r h ⟨I1, J1, rfl, rfl, rfl, hf1, k1⟩
      refine RVf.mk ?_
      rw [e0]
      cases hxx : nx (p + 1) with
      | inl f =>
        rw [hxx] at k1
        obtain ⟨q, a, q1, q2, hm1⟩ := k1
        have hqN := hm1.2.2.2.1
        rw [List.length_append] at q2
        refine (e_step_f (D := D' + 1) hm1 (by omega)).mono ?_
        rintro r h ⟨I2, J2, rfl, rfl, rfl, hf2, hm2⟩
        exact RVf.mk (hF _ I2 J2 b _ _ _ _ hm2 (RVf.mk ⟨rfl, ((hF0.tr pMd_go).tr hf1).tr hf2, q, a + 1, by omega, by omega, hm2⟩))
      | inr w =>
        obtain ⟨q, U⟩ := w
        rw [hxx] at k1 hgp
        obtain ⟨g1, g2, g3, g4⟩ := hgp
        refine (e_step_s (D := D' + 1) (w := chT tp p) k1 (by rw [List.length_append, List.length_append]; omega) a1 (by rw [a2]; exact hz) (by rw [a3]; rfl)).mono ?_
        rintro r h ⟨I2, J2, rfl, rfl, rfl, hf2, k2⟩
        rw [List.append_assoc, List.append_assoc] at k2
        exact RVf.mk (ih q _ I2 J2 (by omega) (by omega) (by rw [List.length_append, List.length_append, List.length_singleton]; omega) k2 (((hF0.tr pMd_go).tr hf1).tr hf2))
    · have e0 : lpE tp lv nx (m + 1) p T = .inr (p, T) := by
        unfold lpE
        rw [if_neg hc]
      rw [e0]
      exact hA D I J b _ p o _ hS hc (RVf.mk ⟨rfl, hF0, hS⟩)
theorem x_lvm {y y' lv e : Nat} {L : List AV} {nx : Nat → Rs} (hN : tpOK tp) (hl : lv < 5) (hL : LvT tp lv y y' L) (hx : ∀ p, p ≤ tp.length → XMo tp e y' p o (nx p)) (hg : ∀ p, p ≤ tp.length → good tp p (nx p)) (hp : p ≤ tp.length) : XMo tp (e + 1) y p o (match nx p with
    | .inl f => .inl f
    | .inr (q, T) => lpE tp lv nx 120 q T) := by
  intro D I J b S hD hS hSl
  have hN1 := hN.1
  have hgp := hg p hp
  obtain ⟨D, rfl⟩ : ∃ D', D = D' + 1 := ⟨D - 1, by omega⟩
  refine hL.1 (D + 1) I J b _ ((hx p hp D I J b S (by omega) hS hSl).mono ?_)
  rintro r h ⟨I1, J1, rfl, rfl, rfl, hf1, k1⟩
  refine RVf.mk ?_
  cases hxx : nx p with
  | inl f =>
    rw [hxx] at k1
    obtain ⟨q, a, q1, q2, hm1⟩ := k1
    exact hL.2.1 _ I1 J1 b _ _ _ _ hm1 (RVf.mk ⟨rfl, hf1, q, a, q1, q2, hm1⟩)
  | inr w =>
    obtain ⟨q, T⟩ := w
    rw [hxx] at k1 hgp
    obtain ⟨g1, g2, g3, g4⟩ := hgp
    exact w_lpm (D := D) hN hl hL hx hg hSl (by omega) 120 q T I1 J1 (by omega) (by omega) g3 k1 hf1
theorem x_cmp {e : Nat} {nx : Nat → Rs} (hN : tpOK tp) (hx : ∀ p, p ≤ tp.length → XMo tp e 159 p o (nx p)) (hg : ∀ p, p ≤ tp.length → good tp p (nx p)) (hp : p ≤ tp.length) : XMo tp (e + 1) 160 p o (match nx p with
    | .inl f => .inl f
    | .inr (q, T) => lpE tp 2 nx 1 q T) := by
  intro D I J b S hD hS hSl
  have hN1 := hN.1
  have hgp := hg p hp
  obtain ⟨D, rfl⟩ : ∃ D', D = D' + 1 := ⟨D - 1, by omega⟩
  refine t_X10_compared (D := D + 1) I J b ((hx p hp D I J b S (by omega) hS hSl).mono ?_)
  rintro r h ⟨I1, J1, rfl, rfl, rfl, hf1, k1⟩
  refine RVf.mk ?_
  cases hxx : nx p with
  | inl f =>
    rw [hxx] at k1
    obtain ⟨q, a, q1, q2, hm1⟩ := k1
    refine (p_look (D := D) hN hm1.2.2.1 hm1.2.2.2.2.2 hm1.2.2.2.1).use (ifp (hm1.ge hN) (RVf.mk ⟨rfl, hf1, q, a, q1, q2, hm1⟩))
  | inr w =>
    obtain ⟨q, T⟩ := w
    rw [hxx] at k1 hgp
    obtain ⟨g1, g2, g3, g4⟩ := hgp
    have k1 : MS I1 tp q o (S ++ T) := k1
    dsimp only
    have hB : lvO (chT tp q) = 2 → Call (D + 1) 159 [vr 10 0] (101, (updI I1 10 0 21 ((I1 10 0 21) + (1 : Int32))), J1, R0 b) (RVf b fun I8 J9 => Call (D + 1) 153 [vr 10 0, vi (mV (chT tp q)), vi 0] (101, I8, J9, R0 b) (RVf b fun I11 J12 => (RVf b fun I' J' => J' = J1 ∧ Fr pMd I I' ∧ MPQ I' tp p o S (lpE tp 2 nx 1 q T)) none (101, I11, J12, R0 b))) := fun hc => by
      obtain ⟨c2, c3⟩ := lvO_op hc (by omega)
      have hlt := chT_lt (tp := tp) (p := q) (by omega)
      obtain ⟨a1, a2, a3⟩ := am_op c2
      have hz := mV_lt (c := chT tp q) (by omega)
      have e0 : lpE tp 2 nx 1 q T = match nx (q + 1) with
        | .inl f => .inl f
        | .inr (q2, U) => .inr (q2, T ++ (U ++ [chT tp q])) := by
        conv => lhs; unfold lpE
        rw [if_pos hc]
        cases nx (q + 1) <;> rfl
      have hgp2 := hg (q + 1) (by omega)
      refine (hx (q + 1) (by omega) D _ J1 b (S ++ T) (by omega) (k1.go hlt) (by rw [List.length_append]; omega)).mono ?_
      rintro r h ⟨I2, J2, rfl, rfl, rfl, hf2, k2⟩
      refine RVf.mk ?_
      rw [e0]
      cases hx2 : nx (q + 1) with
      | inl f =>
        rw [hx2] at k2
        obtain ⟨q3, a, q1, q2, hm1⟩ := k2
        have hqN := hm1.2.2.2.1
        rw [List.length_append] at q2
        refine (e_step_f (D := D) hm1 (by omega)).mono ?_
        rintro r h ⟨I3, J3, rfl, rfl, rfl, hf3, hm2⟩
        exact RVf.mk (RVf.mk ⟨rfl, ((hf1.tr pMd_go).tr hf2).tr hf3, q3, a + 1, by omega, by omega, hm2⟩)
      | inr w =>
        obtain ⟨q3, U⟩ := w
        rw [hx2] at k2 hgp2
        obtain ⟨j1, j2, j3, j4⟩ := hgp2
        refine (e_step_s (D := D) (w := chT tp q) k2 (by rw [List.length_append, List.length_append]; omega) a1 (by rw [a2]; exact hz) (by rw [a3]; rfl)).mono ?_
        rintro r h ⟨I3, J3, rfl, rfl, rfl, hf3, k3⟩
        rw [List.append_assoc, List.append_assoc] at k3
        exact RVf.mk (RVf.mk ⟨rfl, ((hf1.tr pMd_go).tr hf2).tr hf3, k3⟩)
    refine (p_look_s (D := D) hN k1).use (ifn k1.nge (ift (mV_is (k := 60) (by omega) rfl) (fun z => hB (by rw [z]; rfl)) (fun z1 => ift (mV_is (k := 61) (by omega) rfl) (fun z => hB (by rw [z]; rfl)) (fun z2 => ift (mV_is (k := 62) (by omega) rfl) (fun z => hB (by rw [z]; rfl)) (fun z3 => ?_)))))
    have hc : ¬ lvO (chT tp q) = 2 := by
      unfold lvO
      repeat (first | omega | split)
    have e0 : lpE tp 2 nx 1 q T = .inr (q, T) := by
      unfold lpE
      rw [if_neg hc]
    rw [e0]
    exact RVf.mk ⟨rfl, hf1, k1⟩
theorem x_mop {e : Nat} {un pa : Nat → Rs} (hN : tpOK tp) (ho : o ≤ 6) (h1 : o < 6 → ∀ p, p ≤ tp.length → XMo tp e 157 p (o + 1) (un p)) (h2 : o < 6 → ∀ p, p ≤ tp.length → XMo tp e 162 p (o + 1) (pa p)) (g1 : ∀ p, p ≤ tp.length → good tp p (un p)) (g2 : ∀ p, p ≤ tp.length → good tp p (pa p)) (hp : p ≤ tp.length) : XMo tp (e + 1) 157 p o (opE tp un pa o p) := by
  intro D I J b S hD hS hSl
  have hN1 := hN.1
  obtain ⟨D, rfl⟩ : ∃ D', D = D' + 6 := ⟨D - 6, by omega⟩
  refine t_X10_operand (D := D + 6) I J b ((p_look_s (D := D + 5) hN hS).use ((p_nm (D := D + 5)).use ?_))
  by_cases hnm : nmO (chT tp p) < 6
  · have hdg : isDg (chT tp p) = false := by
      refine decide_eq_false (fun z => ?_)
      unfold nmO at hnm
      rw [if_neg (by omega), if_neg (by omega), if_neg (by omega), if_neg (by omega), if_neg (by omega), if_neg (by omega)] at hnm
      omega
    have hlt := chT_lt (tp := tp) (p := p) (fun z => by rw [z] at hnm; revert hnm; decide)
    have enm : nmR (chT tp p) = iZ (nmO (chT tp p) : Int) := if_pos hnm
    have e0 : opE tp un pa o p = .inr (p + 1, [200 + nmO (chT tp p)]) := by
      unfold opE
      rw [if_neg (by rw [hdg]; decide), if_pos hnm]
    rw [e0, enm]
    refine ifn (by rw [i_0]; exact nlt (by omega) (by omega) (by omega)) ((p_nm (D := D + 5)).use ?_)
    rw [enm]
    refine (e_step_s (D := D + 5) (w := 200 + nmO (chT tp p)) hS (by omega) (Or.inr (Or.inl ⟨by omega, by omega⟩)) ?_ ?_).mono ?_
    · unfold am
      rw [if_neg (by omega), if_pos (by omega)]
      rfl
    · unfold wi
      rw [if_neg (by omega), if_pos (by omega), show 200 + nmO (chT tp p) - 200 = nmO (chT tp p) by omega]
    · rintro r h ⟨I1, J1, rfl, rfl, rfl, hf1, k1⟩
      exact RVf.mk (RVf.mk ⟨rfl, hf1.tr pMd_go, k1.go hlt⟩)
  have enm : nmR (chT tp p) = -1 := if_neg hnm
  rw [enm]
  refine ifp (by decide) ?_
  have hun : (chT tp p = 33 ∨ chT tp p = 45) → Call (D + 6) 155 [vr 10 0] (101, I, J, R0 b) (RIf b fun x7 I8 J9 => (if ¬ x7 = 0 then Call (D + 6) 157 [vr 10 0] (101, I8, J9, R0 b) (RVf b fun I11 J12 => (if ¬ mV (chT tp p) = (33 : Int32) then Call (D + 6) 153 [vr 10 0, vi 4, vi 0] (101, (updI I11 10 0 23 ((I11 10 0 23) - (1 : Int32))), J12, R0 b) (RVf b fun I14 J15 => (RVf b fun I' J' => J' = J ∧ Fr pMd I I' ∧ MPQ I' tp p o S (opE tp un pa o p)) none (101, I14, J15, R0 b)) else Call (D + 6) 153 [vr 10 0, vi 3, vi 0] (101, (updI I11 10 0 23 ((I11 10 0 23) - (1 : Int32))), J12, R0 b) (RVf b fun I17 J18 => (RVf b fun I' J' => J' = J ∧ Fr pMd I I' ∧ MPQ I' tp p o S (opE tp un pa o p)) none (101, I17, J18, R0 b)))) else (RVf b fun I' J' => J' = J ∧ Fr pMd I I' ∧ MPQ I' tp p o S (opE tp un pa o p)) none (101, I8, J9, R0 b))) := fun hc => by
    have hlt := chT_lt (tp := tp) (p := p) (by omega)
    have hdg : isDg (chT tp p) = false := decide_eq_false (by omega)
    refine (e_opens (D := D + 4) hN hS ho hlt).mono ?_
    rintro r h ⟨x, I1, J1, rfl, rfl, rfl, hf1, ka, kb⟩
    refine RIf.mk ?_
    by_cases ho6 : o < 6
    · obtain ⟨rfl, k1⟩ := ka ho6
      have e0 : opE tp un pa o p = match un (p + 1) with
        | .inl f => .inl f
        | .inr (q, U) => .inr (q, U ++ [if chT tp p = 33 then 33 else 78]) := by
        unfold opE
        rw [if_neg (by rw [hdg]; decide), if_neg hnm, if_pos hc, if_pos ho6]
        cases un (p + 1) <;> rfl
      have hg := g1 (p + 1) (by omega)
      refine ifp (by decide) ((h1 ho6 (p + 1) (by omega) (D + 5) I1 J1 b S (by omega) k1 (by omega)).mono ?_)
      rintro r h ⟨I2, J2, rfl, rfl, rfl, hf2, k2⟩
      refine RVf.mk ?_
      rw [e0]
      have hF2 : ∀ z, Fr pMd I (updI I2 10 0 23 z) := fun z => (hf1.tr hf2).upd (pMd_iff.mpr (by omega))
      cases hx : un (p + 1) with
      | inl f =>
        rw [hx] at k2
        obtain ⟨q, a, q1, q2, hm1⟩ := k2
        have hqN := hm1.2.2.2.1
        have hem : ∀ z, Call (D + 6) 153 [vr 10 0, vi z, vi 0] (101, (updI I2 10 0 23 ((I2 10 0 23) - (1 : Int32))), J2, R0 b) (RVf b fun I14 J15 => (RVf b fun I' J' => J' = J2 ∧ Fr pMd I I' ∧ MPQ I' tp p o S (.inl f)) none (101, I14, J15, R0 b)) := fun z => by
          refine (e_step_f (D := D + 5) hm1.op (by omega)).mono ?_
          rintro r h ⟨I3, J3, rfl, rfl, rfl, hf3, hm3⟩
          exact RVf.mk (RVf.mk ⟨rfl, (hF2 _).tr hf3, q, a + 1, by omega, by omega, hm3⟩)
        exact ifs (fun _ => hem _) (fun _ => hem _)
      | inr w =>
        obtain ⟨q, U⟩ := w
        rw [hx] at k2 hg
        obtain ⟨j1, j2, j3, j4⟩ := hg
        have k2 : MS I2 tp q (o + 1) (S ++ U) := k2
        have k3 : MS (updI I2 10 0 23 ((I2 10 0 23) - (1 : Int32))) tp q o (S ++ U) := k2.op (by
          rw [k2.2.2.1, i_1, iZ_sub]
          congr 1
          omega)
        have hem : ∀ z (w : Nat), (w = 33 ∨ w = 78) → z = iZ (am w : Int) → wi w = 0 → w = (if chT tp p = 33 then 33 else 78) → Call (D + 6) 153 [vr 10 0, vi z, vi 0] (101, (updI I2 10 0 23 ((I2 10 0 23) - (1 : Int32))), J2, R0 b) (RVf b fun I14 J15 => (RVf b fun I' J' => J' = J2 ∧ Fr pMd I I' ∧ MPQ I' tp p o S (.inr (q, U ++ [if chT tp p = 33 then 33 else 78]))) none (101, I14, J15, R0 b)) := fun z w hw hz hw0 hwe => by
          refine (e_step_s (D := D + 5) (w := w) k3 (by rw [List.length_append]; omega) (by unfold tkOK; omega) hz (by rw [hw0]; rfl)).mono ?_
          rintro r h ⟨I3, J3, rfl, rfl, rfl, hf3, k4⟩
          rw [List.append_assoc] at k4
          rw [← hwe]
          exact RVf.mk (RVf.mk ⟨rfl, (hF2 _).tr hf3, k4⟩)
        exact ift (mV_isn (k := 33) (by omega) rfl) (fun c1 => hem _ 78 (Or.inr rfl) rfl rfl (by rw [if_neg c1])) (fun c1 => hem _ 33 (Or.inl rfl) rfl rfl (by rw [if_pos (by omega)]))
    · obtain ⟨rfl, k1⟩ := kb ho6
      have e0 : opE tp un pa o p = .inl p := by
        unfold opE
        rw [if_neg (by rw [hdg]; decide), if_neg hnm, if_pos hc, if_neg ho6]
      rw [e0]
      exact ifn (fun z => z rfl) (RVf.mk ⟨rfl, hf1, p, S.length, Nat.le_refl _, by omega, k1⟩)
  refine ift (mV_is (k := 33) (by omega) rfl) (fun c1 => hun (Or.inl c1)) (fun c1 => ift (mV_isn (k := 45) (by omega) rfl) (fun c2 => ift (mV_isn (k := 40) (by omega) rfl) (fun c3 => ?_) (fun c3 => ?_)) (fun c2 => hun (Or.inr (Classical.not_not.mp c2))))
  · refine (e_fig (D := D + 3) hN hS hSl).mono ?_
    rintro r h ⟨I1, J1, rfl, rfl, rfl, hf1, k1⟩
    refine RVf.mk (RVf.mk ⟨rfl, hf1, ?_⟩)
    have e0 : opE tp un pa o p = if isDg (chT tp p) = false then .inl p else fgE tp p (nuE tp 4 p 0).1 (nuE tp 4 p 0).2 := by
      unfold opE
      cases hd : isDg (chT tp p)
      · rw [if_neg (by decide), if_neg hnm, if_neg (by omega), if_neg c3, if_pos rfl]
      · rw [if_pos rfl, if_neg (c := (true = false)) (by decide)]
        rfl
    rw [e0]
    exact k1
  · have c3 := Classical.not_not.mp c3
    have hlt := chT_lt (tp := tp) (p := p) (by omega)
    have hdg : isDg (chT tp p) = false := decide_eq_false (by omega)
    refine (e_opens (D := D + 4) hN hS ho hlt).mono ?_
    rintro r h ⟨x, I1, J1, rfl, rfl, rfl, hf1, ka, kb⟩
    refine RIf.mk ?_
    by_cases ho6 : o < 6
    · obtain ⟨rfl, k1⟩ := ka ho6
      have e0 : opE tp un pa o p = match pa (p + 1) with
        | .inl f => .inl f
        | .inr (q, U) => if chT tp q = 41 then .inr (q + 1, U) else .inl q := by
        unfold opE
        rw [if_neg (by rw [hdg]; decide), if_neg hnm, if_neg (by omega), if_pos c3, if_pos ho6]
        cases pa (p + 1) <;> rfl
      have hg := g2 (p + 1) (by omega)
      refine ifp (by decide) ((h2 ho6 (p + 1) (by omega) (D + 5) I1 J1 b S (by omega) k1 (by omega)).mono ?_)
      rintro r h ⟨I2, J2, rfl, rfl, rfl, hf2, k2⟩
      refine RVf.mk ?_
      rw [e0]
      cases hx : pa (p + 1) with
      | inl f =>
        rw [hx] at k2
        obtain ⟨q, a, q1, q2, hm1⟩ := k2
        exact ifn (by rw [Int32.not_lt]; exact hm1.ge hN) (RVf.mk ⟨rfl, hf1.tr hf2, q, a, by omega, by omega, hm1⟩)
      | inr w =>
        obtain ⟨q, U⟩ := w
        rw [hx] at k2 hg
        obtain ⟨j1, j2, j3, j4⟩ := hg
        have k2 : MS I2 tp q (o + 1) (S ++ U) := k2
        refine ifp (by rw [k2.2.1]; decide) ((p_look_s (D := D + 5) hN k2).use (ift (mV_is (k := 41) (by omega) rfl) (fun c4 => ?_) (fun c4 => ?_)))
        · have hlt2 := chT_lt (tp := tp) (p := q) (by omega)
          have k3 := (k2.go hlt2).op (o' := o) (z := I2 10 0 23 - (1 : Int32)) (by
            rw [k2.2.2.1, i_1, iZ_sub]
            congr 1
            omega)
          refine RVf.mk ⟨rfl, ((hf1.tr hf2).tr pMd_go).upd (pMd_iff.mpr (by omega)), ?_⟩
          dsimp only
          rw [if_pos c4]
          exact k3
        · refine (e_faulty_s (D := D + 5) hN k2).mono ?_
          rintro r h ⟨I3, J3, rfl, rfl, rfl, hf3, hm3⟩
          refine RVf.mk (RVf.mk ⟨rfl, (hf1.tr hf2).tr hf3, ?_⟩)
          dsimp only
          rw [if_neg c4]
          exact ⟨q, (S ++ U).length, by omega, by rw [List.length_append]; omega, hm3⟩
    · obtain ⟨rfl, k1⟩ := kb ho6
      have e0 : opE tp un pa o p = .inl p := by
        unfold opE
        rw [if_neg (by rw [hdg]; decide), if_neg hnm, if_neg (by omega), if_pos c3, if_neg ho6]
      rw [e0]
      exact ifn (fun z => z rfl) (RVf.mk ⟨rfl, hf1, p, S.length, Nat.le_refl _, by omega, k1⟩)
theorem x_mall (hN : tpOK tp) : ∀ (n lv o p : Nat), lv ≤ 5 → o ≤ 6 → (6 - o) * 6 + (6 - lv) ≤ n → p ≤ tp.length → XMo tp n (162 - lv) p o (pE tp n lv o p) := by
  intro n
  induction n with
  | zero => intro lv o p h1 h2 h3; omega
  | succ n ih =>
    intro lv o p h1 h2 h3 hp
    by_cases h5 : lv = 5
    · subst h5
      have e0 : pE tp (n + 1) 5 o p = opE tp (pE tp n 5 (o + 1)) (pE tp n 0 (o + 1)) o p := by
        conv => lhs; unfold pE
        rw [if_neg (by omega)]
      rw [e0]
      exact x_mop (e := n) hN h2 (fun h6 p hp => ih 5 (o + 1) p (by omega) (by omega) (by omega) hp) (fun h6 p hp => ih 0 (o + 1) p (by omega) (by omega) (by omega) hp) (fun p hp => pE_good n 5 (o + 1) p hp) (fun p hp => pE_good n 0 (o + 1) p hp) hp
    · have hl : lv < 5 := by omega
      have e0 : pE tp (n + 1) lv o p = match pE tp n (lv + 1) o p with
        | .inl f => .inl f
        | .inr (q, T) => lpE tp lv (pE tp n (lv + 1) o) (if lv = 2 then 1 else 120) q T := by
        conv => lhs; unfold pE
        rw [if_pos hl]
        cases pE tp n (lv + 1) o p <;> rfl
      rw [e0]
      have hx : ∀ p, p ≤ tp.length → XMo tp n (162 - (lv + 1)) p o (pE tp n (lv + 1) o p) := fun p hp => ih (lv + 1) o p (by omega) h2 (by omega) hp
      have hg : ∀ p, p ≤ tp.length → good tp p (pE tp n (lv + 1) o p) := fun p hp => pE_good n (lv + 1) o p hp
      rcases (show lv = 0 ∨ lv = 1 ∨ lv = 2 ∨ lv = 3 ∨ lv = 4 by omega) with rfl | rfl | rfl | rfl | rfl
      · exact x_lvm hN (by omega) (lvT_0 hN) hx hg hp
      · exact x_lvm hN (by omega) (lvT_1 hN) hx hg hp
      · exact x_cmp hN hx hg hp
      · exact x_lvm hN (by omega) (lvT_3 hN) hx hg hp
      · exact x_lvm hN (by omega) (lvT_4 hN) hx hg hp
end PARN
