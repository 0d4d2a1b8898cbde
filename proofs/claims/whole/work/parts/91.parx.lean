/-! THE PARSER, the class: operands, levels -/
def XPo (b : Bool) (tp : List Nat) (e y : Nat) (as : List AV) (p : Nat) (r : Rs) : Prop := ∀ (D : Nat) (I : IM) (J : JM) (W : List Nat), e + 4 ≤ D → CS b I tp p W → W.length + tp.length ≤ p + 250 → Call (D + 1) y (vr 3 0 :: as) (101, I, J, R0 b) (RVf b fun I' J' => J' = J ∧ Fr (pDr b) I I' ∧ CR b I' tp W r)
theorem XPo.up {b : Bool} {tp : List Nat} {e e' y p : Nat} {as : List AV} {r : Rs} (h : XPo b tp e y as p r) (he : e ≤ e') : XPo b tp e' y as p r := fun D I J W h1 h2 h3 => h D I J W (by omega) h2 h3
section PARX
variable {D : Nat} {I : IM} {J : JM} {b : Bool} {tp W : List Nat} {p f : Nat}
theorem w_184 {Q : Option AV → AH → Prop} (h : Q none (101, I, J, R0 b)) : WP D 27 184 [vn, vn, vn] [] (101, I, J, R0 b) Q := WP.ret rfl rfl h
theorem x_op {e o : Nat} {un pa : Nat → Rs} (hN : tpOK tp) (ho : o ≤ 6) (h1 : o < 6 → ∀ p, p ≤ tp.length → XPo b tp e 27 [vi (iZ ((o + 1 : Nat) : Int))] p (un p)) (h2 : o < 6 → ∀ p, p ≤ tp.length → XPo b tp e 25 [vi 0, vi (iZ ((o + 1 : Nat) : Int))] p (pa p)) (g1 : ∀ p, p ≤ tp.length → good tp p (un p)) (g2 : ∀ p, p ≤ tp.length → good tp p (pa p)) : XPo b tp (e + 1) 27 [vi (iZ (o : Int))] p (opE tp un pa o p) := by
  intro D I J W hD hS hr
  have hN1 := hN.1
  have hp := hS.2.2.2.2.2
  obtain ⟨D, rfl⟩ : ∃ D', D = D' + 4 := ⟨D - 4, by omega⟩
  have hcv := cV_toInt (chT tp p)
  have hcb := cvI_b (chT tp p)
  refine t_X3_readOperand (D := D + 4) _ I J b ((p_next_s (D := D + 3) hN hS).use ?_)
  have h180 : opE tp un pa o p = .inl p → WP (D + 4) 27 180 [vr 3 0, vn, vn] [] (101, I, J, R0 b) (RVf b fun I' J' => J' = J ∧ Fr (pDr b) I I' ∧ CR b I' tp W (opE tp un pa o p)) := fun e => by
    refine t_X3_readOperand_180 I J b ((e_fail_s (D := D + 3) hN hS (by omega)).mono ?_)
    rintro r h ⟨I1, J1, rfl, rfl, rfl, hf, hc, _⟩
    exact RVf.mk (w_184 (RVf.mk ⟨rfl, hf, by rw [e]; exact hc⟩))
  have h84 : (chT tp p = 33 ∨ chT tp p = 45) → o < 6 → nmO (chT tp p) ≥ 6 → isDg (chT tp p) = false → WP (D + 4) 27 84 [vr 3 0, vi (iZ (o : Int)), vi (cV (chT tp p))] [] (101, I, J, R0 b) (RVf b fun I' J' => J' = J ∧ Fr (pDr b) I I' ∧ CR b I' tp W (opE tp un pa o p)) := fun hc ho6 hnm hdg => by
    have hlt := chT_lt (tp := tp) (p := p) (by omega)
    have e0 : opE tp un pa o p = match un (p + 1) with
      | .inl f => .inl f
      | .inr (q, U) => .inr (q, U ++ [if chT tp p = 33 then 33 else 78]) := by
      unfold opE
      rw [if_neg (by rw [hdg]; decide), if_neg (by omega), if_pos hc, if_pos ho6]
      cases un (p + 1) <;> rfl
    have hg := g1 (p + 1) (by omega)
    refine t_X3_readOperand_84 _ _ I J b ?_
    rw [iZ_s]
    refine (h1 ho6 (p + 1) (by omega) (D + 3) _ J W (by omega) (hS.go hlt) (by omega)).mono ?_
    rintro r h ⟨I1, J1, rfl, rfl, rfl, hf1, hc1⟩
    refine RVf.mk ?_
    rw [e0]
    cases hx : un (p + 1) with
    | inl f =>
      rw [hx] at hc1
      have hem : ∀ z, Call (D + 4) 23 [vr 3 0, vi z] (101, I1, J1, R0 b) (RVf b fun I29 J30 => WP (D + 4) 27 184 [vn, vn, vn] [] (101, I29, J30, R0 b) (RVf b fun I' J' => J' = J1 ∧ Fr (pDr b) I I' ∧ CR b I' tp W (.inl f))) := fun z => by
        refine (e_emit_f (D := D + 3) hc1).mono ?_
        rintro r h ⟨I2, J2, rfl, rfl, rfl, hf2, hc2⟩
        exact RVf.mk (w_184 (RVf.mk ⟨rfl, (pDr_go.tr hf1).tr hf2, hc2⟩))
      exact ifs (fun _ => hem _) (fun _ => hem _)
    | inr y =>
      obtain ⟨q, U⟩ := y
      rw [hx] at hc1 hg
      obtain ⟨k1, k2, k3, k4⟩ := hg
      have hem : ∀ z (w : Nat), z = iZ (w : Int) → w = (if chT tp p = 33 then 33 else 78) → Call (D + 4) 23 [vr 3 0, vi z] (101, I1, J1, R0 b) (RVf b fun I29 J30 => WP (D + 4) 27 184 [vn, vn, vn] [] (101, I29, J30, R0 b) (RVf b fun I' J' => J' = J1 ∧ Fr (pDr b) I I' ∧ CR b I' tp W (.inr (q, U ++ [if chT tp p = 33 then 33 else 78])))) := fun z w hz hw => by
        refine (e_emit_s (D := D + 3) (w := w) hc1 (by rw [List.length_append]; omega) hz).mono ?_
        rintro r h ⟨I2, J2, rfl, rfl, rfl, hf2, hc2⟩
        rw [List.append_assoc] at hc2
        rw [← hw]
        exact RVf.mk (w_184 (RVf.mk ⟨rfl, (pDr_go.tr hf1).tr hf2, hc2⟩))
      refine ift (cV_isn (k := 33) (by omega) rfl) (fun c1 => hem _ 78 rfl (by rw [if_neg c1])) (fun c1 => hem _ 33 rfl (by rw [if_pos (by omega)]))
  have h121 : nmO (chT tp p) ≥ 6 → isDg (chT tp p) = false → (o < 6 → ¬ (chT tp p = 33 ∨ chT tp p = 45)) → WP (D + 4) 27 121 [vr 3 0, vi (iZ (o : Int)), vi (cV (chT tp p))] [] (101, I, J, R0 b) (RVf b fun I' J' => J' = J ∧ Fr (pDr b) I I' ∧ CR b I' tp W (opE tp un pa o p)) := fun hnm hdg h33 => by
    refine t_X3_readOperand_121 _ _ I J b (ift (c_ge (m := 6) rfl) (fun c1 => h180 ?_) (fun c1 => ift (cV_isn (k := 40) (by omega) rfl) (fun c2 => h180 ?_) (fun c2 => ?_)))
    · rw [iZ_toInt (by omega) (by omega)] at c1
      unfold opE
      rw [if_neg (by rw [hdg]; decide), if_neg (by omega)]
      split
      · rw [if_neg (by omega)]
      · split
        · rw [if_neg (by omega)]
        · rfl
    · rw [iZ_toInt (by omega) (by omega)] at c1
      unfold opE
      rw [if_neg (by rw [hdg]; decide), if_neg (by omega), if_neg (h33 (by omega)), if_neg c2]
    · rw [iZ_toInt (by omega) (by omega)] at c1
      have c2 : chT tp p = 40 := by omega
      have ho6 : o < 6 := by omega
      have hlt := chT_lt (tp := tp) (p := p) (by omega)
      have e0 : opE tp un pa o p = match pa (p + 1) with
        | .inl f => .inl f
        | .inr (q, U) => if chT tp q = 41 then .inr (q + 1, U) else .inl q := by
        unfold opE
        rw [if_neg (by rw [hdg]; decide), if_neg (by omega), if_neg (h33 ho6), if_pos c2, if_pos ho6]
        cases pa (p + 1) <;> rfl
      have hg := g2 (p + 1) (by omega)
      rw [iZ_s]
      refine (h2 ho6 (p + 1) (by omega) (D + 3) _ J W (by omega) (hS.go hlt) (by omega)).mono ?_
      rintro r h ⟨I1, J1, rfl, rfl, rfl, hf1, hc1⟩
      refine RVf.mk ?_
      rw [e0]
      cases hx : pa (p + 1) with
      | inl f =>
        rw [hx] at hc1
        obtain ⟨v, hv, hpu⟩ := p_next_f (D := D + 3) (J := J1) (b := b) hN hc1
        have ev : (iZ v).toInt = v := iZ_toInt (by omega) (by omega)
        refine hpu.use (ift (c_ne (m := 41) rfl) (fun _ => ?_) (fun z => absurd z (by omega)))
        refine (e_fail_f (D := D + 3) hN hc1).mono ?_
        rintro r h ⟨I2, J2, rfl, rfl, rfl, hf2, hc2, _⟩
        exact RVf.mk (w_184 (RVf.mk ⟨rfl, (pDr_go.tr hf1).tr hf2, hc2⟩))
      | inr y =>
        obtain ⟨q, U⟩ := y
        rw [hx] at hc1 hg
        obtain ⟨k1, k2, k3, k4⟩ := hg
        refine (p_next_s (D := D + 3) hN hc1).use (ift (cV_isn (k := 41) (by omega) rfl) (fun c3 => ?_) (fun c3 => ?_))
        · refine (e_fail_s (D := D + 3) hN hc1 (by rw [List.length_append]; omega)).mono ?_
          rintro r h ⟨I2, J2, rfl, rfl, rfl, hf2, hc2, _⟩
          refine RVf.mk (w_184 (RVf.mk ⟨rfl, (pDr_go.tr hf1).tr hf2, ?_⟩))
          dsimp only
          rw [if_neg c3]
          exact hc2
        · have c3 : chT tp q = 41 := by omega
          have hlt2 := chT_lt (tp := tp) (p := q) (by omega)
          refine w_184 (RVf.mk ⟨rfl, (pDr_go.tr hf1).tr pDr_go, ?_⟩)
          dsimp only
          rw [if_pos c3]
          exact CS.go hc1 hlt2
  have h66 : nmO (chT tp p) ≥ 6 → isDg (chT tp p) = false → WP (D + 4) 27 66 [vr 3 0, vi (iZ (o : Int)), vi (cV (chT tp p))] [] (101, I, J, R0 b) (RVf b fun I' J' => J' = J ∧ Fr (pDr b) I I' ∧ CR b I' tp W (opE tp un pa o p)) := fun hnm hdg => by
    have eo : (iZ (o : Int)).toInt = o := iZ_toInt (by omega) (by omega)
    exact t_X3_readOperand_66 _ _ I J b (ift (c_ge (m := 6) rfl) (fun c1 => h121 hnm hdg (by omega)) (fun c1 => ift (cV_is (k := 33) (by omega) rfl) (fun c2 => h84 (Or.inl c2) (by omega) hnm hdg) (fun c2 => ift (cV_isn (k := 45) (by omega) rfl) (fun c3 => h121 hnm hdg (by omega)) (fun c3 => h84 (Or.inr (by omega)) (by omega) hnm hdg))))
  have h24 : isDg (chT tp p) = false → WP (D + 4) 27 24 [vr 3 0, vi (iZ (o : Int)), vi (cV (chT tp p))] [] (101, I, J, R0 b) (RVf b fun I' J' => J' = J ∧ Fr (pDr b) I I' ∧ CR b I' tp W (opE tp un pa o p)) := fun hdg => by
    refine t_X3_readOperand_24 _ _ I J b (ift (c_le (m := 0) rfl) (fun c1 => h66 ?_ hdg) (fun c1 => ?_))
    · unfold nmO
      rw [if_neg (by omega), if_neg (by omega), if_neg (by omega), if_neg (by omega), if_neg (by omega), if_neg (by omega)]
      omega
    · have hc255 : chT tp p ≤ 255 := by omega
      have hlt := chT_lt (tp := tp) (p := p) (by omega)
      have ecv := cV_at hN hlt
      rw [ecv]
      refine (p_ix (D := D) hc255).use ?_
      by_cases hnm : nmO (chT tp p) < 6
      · rw [if_pos hnm]
        refine ifn (by rw [i_0]; exact nlt (by omega) (by omega) (by omega)) ?_
        refine (p_ix (D := D) hc255).use ?_
        rw [if_pos hnm]
        have hem := e_emit_s (D := D + 3) (J := J) (w := 200 + nmO (chT tp p)) (z := (200 : Int32) + iZ (nmO (chT tp p) : Int)) (hS.go hlt) (by omega) (by rw [show (200 : Int32) = iZ 200 from rfl, iZ_add]; congr 1)
        refine hem.mono ?_
        rintro r h ⟨I2, J2, rfl, rfl, rfl, hf2, hc2⟩
        refine RVf.mk (w_184 (RVf.mk ⟨rfl, pDr_go.tr hf2, ?_⟩))
        have e0 : opE tp un pa o p = .inr (p + 1, [200 + nmO (chT tp p)]) := by
          unfold opE
          rw [if_neg (by rw [hdg]; decide), if_pos hnm]
        rw [e0]
        exact hc2
      · rw [if_neg hnm]
        refine ifp (by decide) ?_
        rw [← ecv]
        exact h66 (by omega) hdg
  refine ift (c_lt (m := 48) rfl) (fun c1 => h24 ?_) (fun c1 => ift (c_gt (m := 57) rfl) (fun c2 => h24 ?_) (fun c2 => ?_))
  · exact decide_eq_false (by omega)
  · exact decide_eq_false (by omega)
  · have hdg : isDg (chT tp p) = true := decide_eq_true (by omega)
    refine (e_num (D := D + 2) hN hS (by omega)).mono ?_
    rintro r h ⟨I1, J1, rfl, rfl, rfl, hf1, hc1⟩
    refine RVf.mk (w_184 (RVf.mk ⟨rfl, hf1, ?_⟩))
    unfold opE
    rw [if_pos hdg]
    obtain ⟨a1, a2, a3⟩ := nuE_lt hp hdg
    split
    · next h5 =>
      obtain ⟨y8, y9, y7, _, y10, _⟩ := hc1
      exact ⟨a2, y10, ⟨_, by rw [List.length_append, List.length_singleton]; omega, y7⟩, Or.inr ⟨y9, y8, h5⟩⟩
    · exact hc1
theorem w_lpf {lv : Nat} {o : Int32} (hl : lv < 5) (hN : tpOK tp) {m i : Int32} (h : CF I tp f) : WP (D + 1) 25 34 [vr 3 0, vi (iZ (lv : Int)), vi o, vi m, vi i, vn] [] (101, I, J, R0 b) (RVf b fun I' J' => J' = J ∧ Fr (pDr b) I I' ∧ CF I' tp f) := by
  refine t_X3_readLevel_34 _ _ _ _ I J b (ifs (fun _ => RVf.mk ⟨rfl, Fr.id, h⟩) (fun _ => ?_))
  obtain ⟨v, hv, hpu⟩ := p_next_f (D := D) (J := J) (b := b) hN h
  refine hpu.use ((p_lv_d (D := D) hv).use ?_)
  exact ifp (by rw [i_m1]; exact nne (by omega) (by omega) (by omega) (by omega) (by omega)) (RVf.mk ⟨rfl, Fr.id, h⟩)
theorem lvR_is {c lv : Nat} (hl : lv < 5) : ¬ lvR c = iZ (lv : Int) ↔ ¬ lvO c = lv := by
  unfold lvR
  split
  · next h =>
    rw [i_m1, iZ_eq (by omega) (by omega) (by omega) (by omega)]
    omega
  · next h =>
    have h9 : lvO c ≤ 9 := by
      unfold lvO
      repeat (first | omega | split)
    rw [iZ_eq (by omega) (by omega) (by omega) (by omega)]
    omega
theorem w_lps {e lv o most p0 : Nat} {nx : Nat → Rs} {I0 : IM} (hl : lv < 5) (hN : tpOK tp) (hx : ∀ p, p ≤ tp.length → XPo b tp e 25 [vi (iZ ((lv + 1 : Nat) : Int)), vi (iZ (o : Int))] p (nx p)) (hg : ∀ p, p ≤ tp.length → good tp p (nx p)) (hr : W.length + tp.length ≤ p0 + 250) (hm : most ≤ 120) (hD : e + 4 ≤ D) : ∀ (m i p : Nat) (T : List Nat) (I : IM), m + i = most → p0 ≤ p → T.length ≤ p - p0 → CS b I tp p (W ++ T) → Fr (pDr b) I0 I → WP (D + 1) 25 34 [vr 3 0, vi (iZ (lv : Int)), vi (iZ (o : Int)), vi (iZ (most : Int)), vi (iZ (i : Int)), vn] [] (101, I, J, R0 b) (RVf b fun I' J' => J' = J ∧ Fr (pDr b) I0 I' ∧ CR b I' tp W (lpE tp lv nx m p T)) := by
  have hN1 := hN.1
  intro m
  induction m with
  | zero =>
    intro i p T I hi h1 h2 hS hF
    have : i = most := by omega
    subst this
    exact t_X3_readLevel_34 _ _ _ _ I J b (ifp (tle (by omega) (by omega) (by omega)) (RVf.mk ⟨rfl, hF, hS⟩))
  | succ m ih =>
    intro i p T I hi h1 h2 hS hF
    have hp := hS.2.2.2.2.2
    refine t_X3_readLevel_34 _ _ _ _ I J b (ifn (nle (by omega) (by omega) (by omega)) ?_)
    refine (p_next_s (D := D) hN hS).use ((p_lv_c (D := D)).use (ift (lvR_is hl) (fun c1 => ?_) (fun c1 => ?_)))
    · have e0 : lpE tp lv nx (m + 1) p T = .inr (p, T) := by
        unfold lpE
        rw [if_neg c1]
      rw [e0]
      exact RVf.mk ⟨rfl, hF, hS⟩
    · have c1 := Classical.not_not.mp c1
      obtain ⟨c2, c3⟩ := lvO_op c1 hl
      have hlt := chT_lt (tp := tp) (p := p) (by omega)
      have e0 : lpE tp lv nx (m + 1) p T = match nx (p + 1) with
        | .inl f => .inl f
        | .inr (q, U) => lpE tp lv nx m q (T ++ (U ++ [chT tp p])) := by
        conv => lhs; unfold lpE
        rw [if_pos c1]
        cases nx (p + 1) <;> rfl
      have hgp := hg (p + 1) (by omega)
      refine (p_next_s (D := D) hN hS).use ?_
      rw [iZ_s lv, iZ_s i, cV_at hN hlt]
      obtain ⟨D', rfl⟩ : ∃ D', D = D' + 1 := ⟨D - 1, by omega⟩
      have hcall : Call (D' + 1 + 1) 25 (vr 3 0 :: [vi (iZ ((lv + 1 : Nat) : Int)), vi (iZ (o : Int))]) (101, updI I 3 0 8 (I 3 0 8 + (1 : Int32)), J, R0 b) (RVf b fun I' J' => J' = J ∧ Fr (pDr b) (updI I 3 0 8 (I 3 0 8 + (1 : Int32))) I' ∧ CR b I' tp (W ++ T) (nx (p + 1))) := hx (p + 1) (by omega) (D' + 1) _ J (W ++ T) (by omega) (hS.go hlt) (by rw [List.length_append]; omega)
      refine hcall.mono ?_
      rintro r h ⟨I1, J1, rfl, rfl, rfl, hf1, hc1⟩
      refine RVf.mk ?_
      rw [e0]
      cases hxx : nx (p + 1) with
      | inl f =>
        rw [hxx] at hc1
        refine (e_emit_f (D := D' + 1) hc1).mono ?_
        rintro r h ⟨I2, J2, rfl, rfl, rfl, hf2, hc2⟩
        refine RVf.mk ((w_lpf (D := D' + 1) hl hN hc2).mono ?_)
        rintro r h ⟨I3, J3, rfl, rfl, rfl, hf3, hc3⟩
        exact RVf.mk ⟨rfl, (((hF.tr pDr_go).tr hf1).tr hf2).tr hf3, hc3⟩
      | inr y =>
        obtain ⟨q, U⟩ := y
        rw [hxx] at hc1 hgp
        obtain ⟨k1, k2, k3, k4⟩ := hgp
        refine (e_emit_s (D := D' + 1) (w := chT tp p) hc1 (by rw [List.length_append, List.length_append]; omega) rfl).mono ?_
        rintro r h ⟨I2, J2, rfl, rfl, rfl, hf2, hc2⟩
        rw [List.append_assoc, List.append_assoc] at hc2
        exact RVf.mk (ih (i + 1) q _ I2 (by omega) (by omega) (by rw [List.length_append, List.length_append, List.length_singleton]; omega) hc2 (((hF.tr pDr_go).tr hf1).tr hf2))
theorem x_all (hN : tpOK tp) : ∀ (n lv o p : Nat), lv ≤ 5 → o ≤ 6 → (6 - o) * 6 + (6 - lv) ≤ n → p ≤ tp.length → XPo b tp (2 * n + 1) 25 [vi (iZ (lv : Int)), vi (iZ (o : Int))] p (pE tp n lv o p) ∧ (lv = 5 → XPo b tp (2 * n) 27 [vi (iZ (o : Int))] p (pE tp n 5 o p)) := by
  intro n
  induction n with
  | zero => intro lv o p h1 h2 h3; omega
  | succ n ih =>
    intro lv o p h1 h2 h3 hp
    have h27 : lv = 5 → XPo b tp (2 * (n + 1)) 27 [vi (iZ (o : Int))] p (pE tp (n + 1) 5 o p) := fun h5 => by
      have e0 : pE tp (n + 1) 5 o p = opE tp (pE tp n 5 (o + 1)) (pE tp n 0 (o + 1)) o p := by
        conv => lhs; unfold pE
        rw [if_neg (by omega)]
      rw [e0]
      exact x_op (e := 2 * n + 1) hN h2 (fun h6 p hp => ((ih 5 (o + 1) p (by omega) (by omega) (by omega) hp).2 rfl).up (by omega)) (fun h6 p hp => (ih 0 (o + 1) p (by omega) (by omega) (by omega) hp).1) (fun p hp => pE_good n 5 (o + 1) p hp) (fun p hp => pE_good n 0 (o + 1) p hp)
    refine ⟨?_, h27⟩
    intro D I J W hD hS hr
    have hN1 := hN.1
    have elv : (iZ (lv : Int)).toInt = lv := iZ_toInt (by omega) (by omega)
    obtain ⟨D, rfl⟩ : ∃ D', D = D' + 1 := ⟨D - 1, by omega⟩
    refine t_X3_readLevel (D := D + 1) _ _ I J b (ift (c_lt (m := 5) rfl) (fun c1 => ?_) (fun c1 => ?_))
    · have hl : lv < 5 := by omega
      have hgp := pE_good n (lv + 1) o p hp
      have e0 : pE tp (n + 1) lv o p = match pE tp n (lv + 1) o p with
        | .inl f => .inl f
        | .inr (q, T) => lpE tp lv (pE tp n (lv + 1) o) (if lv = 2 then 1 else 120) q T := by
        conv => lhs; unfold pE
        rw [if_pos hl]
        cases pE tp n (lv + 1) o p <;> rfl
      rw [iZ_s]
      refine ((ih (lv + 1) o p (by omega) h2 (by omega) hp).1 D I J W (by omega) hS hr).mono ?_
      rintro r h ⟨I1, J1, rfl, rfl, rfl, hf1, hc1⟩
      refine RVf.mk ?_
      rw [e0]
      cases hx : pE tp n (lv + 1) o p with
      | inl f =>
        rw [hx] at hc1
        have hfin : ∀ m : Int32, WP (D + 1) 25 34 [vr 3 0, vi (iZ (lv : Int)), vi (iZ (o : Int)), vi m, vi 0, vn] [] (101, I1, J1, R0 b) (RVf b fun I' J' => J' = J1 ∧ Fr (pDr b) I I' ∧ CR b I' tp W (.inl f)) := fun m => by
          refine (w_lpf (D := D) hl hN hc1).mono ?_
          rintro r h ⟨I3, J3, rfl, rfl, rfl, hf3, hc3⟩
          exact RVf.mk ⟨rfl, hf1.tr hf3, hc3⟩
        exact ifs (fun _ => hfin _) (fun _ => hfin _)
      | inr y =>
        obtain ⟨q, T⟩ := y
        rw [hx] at hc1 hgp
        obtain ⟨k1, k2, k3, k4⟩ := hgp
        have hl1 : ∀ p, p ≤ tp.length → XPo b tp (2 * n + 1) 25 [vi (iZ ((lv + 1 : Nat) : Int)), vi (iZ (o : Int))] p (pE tp n (lv + 1) o p) := fun p hp => (ih (lv + 1) o p (by omega) h2 (by omega) hp).1
        refine ift (c_ne (m := 2) rfl) (fun c2 => ?_) (fun c2 => ?_)
        · rw [if_neg (by omega)]
          exact w_lps (D := D) (e := 2 * n + 1) (most := 120) (p0 := p) hl hN hl1 (fun p hp => pE_good n (lv + 1) o p hp) hr (by omega) (by omega) 120 0 q T I1 (by omega) (by omega) k3 hc1 hf1
        · rw [if_pos (by omega)]
          exact w_lps (D := D) (e := 2 * n + 1) (most := 1) (p0 := p) hl hN hl1 (fun p hp => pE_good n (lv + 1) o p hp) hr (by omega) (by omega) 1 0 q T I1 (by omega) (by omega) k3 hc1 hf1
    · have hl : lv = 5 := by omega
      subst hl
      refine (h27 rfl D I J W (by omega) hS hr).mono ?_
      rintro r h ⟨I1, J1, rfl, rfl, rfl, hf1, hc1⟩
      exact RVf.mk (RVf.mk ⟨rfl, hf1, hc1⟩)
end PARX
