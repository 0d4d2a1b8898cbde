/-! CHANGES: stay; led -/
def aLed (x : Int32) (g : Sg) : Int32 := if x = 0 then iZ ((gD g).2.2.1 : Int) else if x = 1 then iZ ((gD g).2.2.2.1 : Int) else if x = 2 then iZ ((gD g).2.2.2.2.1 : Int) else if x = 3 then iZ ((gD g).2.2.2.2.2 : Int) else if x = 4 then iZ ((gD g).2.1 : Int) else -1
section STAY
variable {D : Nat} {g : Sg} {c : Nat} {I : IM} {J : JM} {b : Bool}
theorem cX_led {x : Int32} (hX : XR g I J b) : TX (D + 1) 108 [vr 9 0, vi x] I J b (aLed x g) := by
  obtain ⟨w1, w2, w3, w4, w5⟩ : DeC 1 0 I (gD g) := hX.2.2.2.2.2.2.2.1
  refine t_X9_led _ I J b ?_
  rw [w2, w3, w4, w5, w1.2.2.2.2.1]
  exact ifs (fun z0 => RIf.tx (by unfold aLed; rw [if_pos z0]) Fr.id) (fun z0 => ifs (fun z1 => RIf.tx (by unfold aLed; rw [if_neg z0, if_pos z1]) Fr.id) (fun z1 => ifs (fun z2 => RIf.tx (by unfold aLed; rw [if_neg z0, if_neg z1, if_pos z2]) Fr.id) (fun z2 => ifs (fun z3 => RIf.tx (by unfold aLed; rw [if_neg z0, if_neg z1, if_neg z2, if_pos z3]) Fr.id) (fun z3 => ifs (fun z4 => RIf.tx (by unfold aLed; rw [if_neg z0, if_neg z1, if_neg z2, if_neg z3, if_pos z4]) Fr.id) (fun z4 => RIf.tx (by unfold aLed; rw [if_neg z0, if_neg z1, if_neg z2, if_neg z3, if_neg z4]) Fr.id)))))
theorem cM_led {x : Int32} (hM : MR g I J) : TM (D + 2) 216 [vr 10 0, vi x] I J b (aLed x g) := by
  obtain ⟨m1, m2, m3, m4, m5, m6, m7, m8, m9⟩ : DeM I (gD g) := hM.2.2.2.2.2.2.2.1
  refine t_X10_led _ I J b ?_
  refine ifs (fun c1 => ?_) (fun c1 => ?_)
  · refine (p_M_in x 0 3).use ?_
    cases hx : inB x 0 3
    · refine ifp rfl (RIf.tm ?_ Fr.id)
      have hne : ∀ k : Nat, k ≤ 3 → ¬ x = iZ (k : Int) := by
        rintro k hk rfl
        have : inB (iZ (k : Int)) 0 3 = true := by
          rcases (show k = 0 ∨ k = 1 ∨ k = 2 ∨ k = 3 by omega) with rfl | rfl | rfl | rfl <;> decide
        rw [hx] at this
        cases this
      unfold aLed
      rw [if_neg (show ¬ x = 0 from hne 0 (by omega)), if_neg (show ¬ x = 1 from hne 1 (by omega)), if_neg (show ¬ x = 2 from hne 2 (by omega)), if_neg (show ¬ x = 3 from hne 3 (by omega)), if_neg c1]
    · obtain ⟨a, a1, a2, rfl⟩ := inB_ex (l := 0) (h := 3) rfl rfl (by omega) (by omega) hx
      refine ifn (by decide) ?_
      rw [iZ_ck (by omega)]
      refine ⟨vp_iZ (by omega) (by omega) (by omega), ?_⟩
      rcases (show a = 0 ∨ a = 1 ∨ a = 2 ∨ a = 3 by omega) with rfl | rfl | rfl | rfl
      · exact RIf.tm m6 Fr.id
      · exact RIf.tm m7 Fr.id
      · exact RIf.tm m8 Fr.id
      · exact RIf.tm m9 Fr.id
  · have c1 := Classical.not_not.mp c1
    subst c1
    exact RIf.tm m1 Fr.id
theorem op_led (x : Int32) : Op 108 216 [vi x] := Op.th (aLed x) (fun g c I J b hX hO => cX_led (D := 899) hX) (fun g c I J b hM hO => cM_led (D := 898) hM)
theorem op_stay (x : Int32) : Op 105 213 [vi x] := by
  intro g c I J b hc hX hM hO
  obtain ⟨w1, w2, w3, w4, w5⟩ : DeC 1 0 I (gD g) := hX.2.2.2.2.2.2.2.1
  obtain ⟨m1, m2, m3, m4, m5, m6, m7, m8, m9⟩ : DeM I (gD g) := hM.2.2.2.2.2.2.2.1
  obtain ⟨o1, o2, o3, o4, o5, o6, o7, o8⟩ : DeOK c (gN g) (gD g) := hO.2.2.2.2.2.2.1
  have hbad : inB x 1 999 = false → Pu 900 213 [vr 10 0, vi x] I J b (-1) := fun hz => by
    refine t_X10_stay (D := 899) _ I J b ((p_M_in (D := 898) x 1 999).use ?_)
    rw [hz]
    exact ifn (fun z => z rfl) ⟨rfl, rfl⟩
  refine t_X9_stay (D := 899) _ I J b ?_
  refine ifs (fun c1 => op_same hc hX hM hO (hbad ?_)) (fun c1 => ifs (fun c2 => ?_) (fun c2 => op_same hc hX hM hO (hbad ?_)))
  · unfold inB
    rw [decide_eq_false (by rw [le_i]; rw [lt_i] at c1; omega)]
    rfl
  · have hin : inB x 1 999 = true := by
      unfold inB
      rw [decide_eq_true (by rw [le_i]; rw [lt_i] at c1; omega), decide_eq_true c2]
      rfl
    obtain ⟨a, a1, a2, rfl⟩ := inB_ex (l := 1) (h := 999) rfl rfl (by omega) (by omega) hin
    have hs : iZ ((gD g).2.1 : Int) + iZ (a : Int) = iZ (((gD g).2.1 + a : Nat) : Int) := by rw [iZ_add]; rfl
    rw [w1.2.2.2.2.1, hs]
    refine ifs (fun c3 => ?_) (fun c3 => ?_)
    · rw [show (9999 : Int32) = iZ 9999 from rfl] at c3
      have c3 := (tle' (by omega) (by omega) (by omega) (by omega)).mp c3
      have hd2 : DeC 1 0 (updI (updI I 8 1 12 (iZ (((gD g).2.1 + a : Nat) : Int))) 2 0 3 (I 2 0 3 + iZ (a : Int))) ((gD g).1, (gD g).2.1 + a, (gD g).2.2.1, (gD g).2.2.2.1, (gD g).2.2.2.2.1 + a, (gD g).2.2.2.2.2) := by
        refine ⟨?_, ?_, ?_, ?_, ?_⟩
        · exact (w1.now (m := (gD g).2.1 + a)).frame (fun s k z => by rw [updI_if, if_neg (by omega)])
        · rw [updI_if, if_neg (by omega), updI_if, if_neg (by omega)]; exact w2
        · rw [updI_if, if_neg (by omega), updI_if, if_neg (by omega)]; exact w3
        · rw [uI_eq, w4, iZ_add]; rfl
        · rw [updI_if, if_neg (by omega), updI_if, if_neg (by omega)]; exact w5
      have e2 : ∀ s j k, ¬ (((s = 8 ∨ (30 ≤ s ∧ s ≤ 35)) ∧ j = 1) ∨ (s = 2 ∧ j = 0)) → updI (updI I 8 1 12 (iZ (((gD g).2.1 + a : Nat) : Int))) 2 0 3 (I 2 0 3 + iZ (a : Int)) s j k = I s j k := fun s j k z => by
        rw [updI_if, if_neg (by omega), updI_if, if_neg (by omega)]
      generalize updI (updI I 8 1 12 (iZ (((gD g).2.1 + a : Nat) : Int))) 2 0 3 (I 2 0 3 + iZ (a : Int)) = I2 at hd2 e2 ⊢
      have hX2 := hX.de hd2 e2
      have hM2 : MR g I2 J := hM.eq (fun s k z => e2 s 0 k (by unfold mCe at z; omega)) (fun _ => rfl)
      obtain ⟨m1, m2, m3, m4, m5, m6, m7, m8, m9⟩ := hM2.2.2.2.2.2.2.2.1
      refine RIf.mk (t_X10_stay (D := 899) _ I2 J b ((p_M_in (D := 898) _ 1 999).use ?_))
      rw [hin]
      refine ifp (by decide) ?_
      rw [m1, hs]
      refine ifp (by rw [show (9999 : Int32) = iZ 9999 from rfl]; exact tle (by omega) (by omega) (by omega)) ?_
      have ho : ∀ s k, ¬ (s = 10 ∧ k = 57) → ¬ (s = 75 ∧ k = 2) → updI (updI I2 10 0 57 (iZ (((gD g).2.1 + a : Nat) : Int))) 75 0 2 (I2 75 0 2 + iZ (a : Int)) s 0 k = I2 s 0 k := fun s k z1 z2 => by
        rw [updI_if, if_neg (by omega), updI_if, if_neg (by omega)]
      have hdm : DeM (updI (updI I2 10 0 57 (iZ (((gD g).2.1 + a : Nat) : Int))) 75 0 2 (I2 75 0 2 + iZ (a : Int))) ((gD g).1, (gD g).2.1 + a, (gD g).2.2.1, (gD g).2.2.2.1, (gD g).2.2.2.2.1 + a, (gD g).2.2.2.2.2) := by
        refine ⟨?_, (ho _ _ (by omega) (by omega)).trans m2, (ho _ _ (by omega) (by omega)).trans m3, fun k e hk => ⟨(ho _ _ (by omega) (by omega)).trans (m4 k e hk).1, (ho _ _ (by omega) (by omega)).trans (m4 k e hk).2.1, (ho _ _ (by omega) (by omega)).trans (m4 k e hk).2.2⟩, fun e he => (ho _ _ (by omega) (by omega)).trans (m5 e he), (ho _ _ (by omega) (by omega)).trans m6, (ho _ _ (by omega) (by omega)).trans m7, ?_, (ho _ _ (by omega) (by omega)).trans m9⟩
        · rw [updI_if, if_neg (by omega), uI_eq]
        · rw [uI_eq, m8, iZ_add]; rfl
      exact RIf.mk ⟨rfl, _, hX2.frM ((Fr.id.upd rfl).upd rfl) (fun _ _ _ => rfl), hM2.de hdm (fun s k z _ => ho s k (by omega) (by omega)), (hO.up hc).de ⟨o1.mono (fun e he => he) (by show (gD g).2.1 ≤ (gD g).2.1 + a; omega) (by show (gD g).2.1 + a ≤ _; omega), o2, o3, (by show (gD g).2.1 + a ≤ _; omega), (by show (gD g).2.2.1 ≤ _; omega), (by show (gD g).2.2.2.1 ≤ _; omega), (by show (gD g).2.2.2.2.1 + a ≤ _; omega), (by show (gD g).2.2.2.2.2 ≤ _; omega)⟩⟩
    · refine op_same hc hX hM hO ?_
      refine t_X10_stay (D := 899) _ I J b ((p_M_in (D := 898) _ 1 999).use ?_)
      rw [hin]
      refine ifp (by decide) ?_
      rw [m1, hs]
      exact ifn c3 ⟨rfl, rfl⟩
  · unfold inB
    rw [decide_eq_false c2, Bool.and_false]
end STAY
