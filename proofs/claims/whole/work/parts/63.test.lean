/-! OPS: test -/
def fTest (E : List En) (nw : Nat) (x : Int32) : Int32 := match stO E x with
  | none => -5
  | some s => if nw < s then 0 else 1
def aTest (x : Int32) (g : Sg) : Int32 := if 0 ≤ x.toInt ∧ x.toInt < gN g then fTest (gD g).1 (gD g).2.1 x else -1
section TEST
variable {D : Nat} {g : Sg} {c : Nat} {I : IM} {J : JM} {b : Bool}
theorem bt_0 : ∀ B : Fin 128, ∀ j : Fin 7, ((iZ (B.val : Int)) >>> (iZ (j.val : Int) &&& 31)) &&& (1 : Int32) = 0 ↔ tb B.val j.val = false := by decide +kernel
theorem isJ_ex {x : Int32} {n : Nat} (hn : n ≤ 7) (h : 0 ≤ x.toInt ∧ x.toInt < n) : ∃ j : Nat, j < n ∧ x = iZ (j : Int) := by
  obtain ⟨v, v1, rfl⟩ := nn_ex (x := x) (by
    rw [lt_i]
    have : (0 : Int32).toInt = 0 := rfl
    omega)
  rw [iZ_toInt (by omega) (by omega)] at h
  exact ⟨v, by omega, rfl⟩
theorem stO_at {E : List En} {j : Nat} (h7 : ∀ e ∈ E, xj e < 7) (hj : j < 7) (hnd : (E.map xj).Nodup) : (tb (bs E) j = false ∧ stO E (iZ (j : Int)) = none) ∨ (tb (bs E) j = true ∧ ∃ e ∈ E, xj e = j ∧ stO E (iZ (j : Int)) = some (xs e)) := by
  have ht : tb (bs E) j = E.any fun e => xj e == j := by rw [tb_bit (bs_lt h7) hj, bs_bit]
  unfold stO
  cases hf : E.find? (fun e => decide (iZ (xj e : Int) = iZ (j : Int))) with
  | none =>
    left
    refine ⟨?_, rfl⟩
    rw [ht, List.any_eq_false]
    intro e he z
    have := List.find?_eq_none.mp hf e he
    have z : xj e = j := by simpa using z
    exact this (decide_eq_true (by rw [z]))
  | some e =>
    right
    have he := List.mem_of_find?_eq_some hf
    have h2 := List.find?_some hf
    have h2 := of_decide_eq_true h2
    have := h7 e he
    rw [iZ_eq (by omega) (by omega) (by omega) (by omega)] at h2
    refine ⟨?_, e, he, by omega, rfl⟩
    rw [ht, List.any_eq_true]
    exact ⟨e, he, by simp; omega⟩
theorem aTest_n {x : Int32} (h : ¬ (0 ≤ x.toInt ∧ x.toInt < gN g)) : aTest x g = -1 := if_neg h
theorem aTest_y {x : Int32} (h : 0 ≤ x.toInt ∧ x.toInt < gN g) : aTest x g = fTest (gD g).1 (gD g).2.1 x := if_pos h
theorem cX_test {x : Int32} (hX : XR g I J b) (hO : SOK g c) : TX (D + 3) 106 [vr 9 0, vi x] I J b (aTest x g) := by
  have n7 := hO.1.1
  obtain ⟨w1, w2, w3, w4, w5⟩ : DeC 1 0 I (gD g) := hX.2.2.2.2.2.2.2.1
  obtain ⟨o1, o2, o3, o4, o5, o6, o7, o8⟩ : DeOK c (gN g) (gD g) := hO.2.2.2.2.2.2.1
  have hc9 : c ≤ 512 := hO.2.2.2.2.2.2.2.2
  refine t_X9_test _ I J b ?_
  refine (p_isJ (D := D + 1) hX.1.1 n7).use ?_
  by_cases hx : 0 ≤ x.toInt ∧ x.toInt < gN g
  · rw [decide_eq_true hx, aTest_y hx]
    refine ifp (by decide) ?_
    obtain ⟨j, hj, rfl⟩ := isJ_ex n7 hx
    have h7 : ∀ e ∈ (gD g).1, xj e < 7 := fun e he => by have := o3 e he; omega
    refine (p_hasFitted (D := D + 1) w1 h7 (by omega)).use ?_
    rw [List.drop_zero]
    have hany : ((gD g).1.any fun e => xj e == j) = tb (bs (gD g).1) j := by rw [tb_bit (bs_lt h7) (by omega), bs_bit]
    rw [hany]
    rcases stO_at h7 (show j < 7 by omega) o2 with ⟨t1, t2⟩ | ⟨t1, e, he, hej, t2⟩
    · rw [t1]
      refine ifn (fun z => z rfl) (RIf.tx ?_ Fr.id)
      unfold fTest
      rw [t2]
    · rw [t1]
      refine ifp (by decide) ?_
      refine (p_setOf (D := D + 1) w1).use ?_
      rw [List.drop_zero, t2, w1.2.2.2.2.1]
      have hxe := o1.xle he
      have hf : fTest (gD g).1 (gD g).2.1 (iZ (j : Int)) = if (gD g).2.1 < xs e then 0 else 1 := by
        unfold fTest
        rw [t2]
      rw [hf]
      show (if iZ ((gD g).2.1 : Int) < iZ (xs e : Int) then _ else _)
      by_cases hlt : (gD g).2.1 < xs e
      · exact ifp (tlt (by omega) (by omega) (by omega)) (RIf.tx (by rw [if_pos hlt]) Fr.id)
      · exact ifn (nlt (by omega) (by omega) (by omega)) (RIf.tx (by rw [if_neg hlt]) Fr.id)
  · rw [decide_eq_false hx, aTest_n hx]
    exact ifn (fun z => z rfl) (RIf.tx rfl Fr.id)
theorem cM_test {x : Int32} (hM : MR g I J) (hO : SOK g c) : TM (D + 3) 214 [vr 10 0, vi x] I J b (aTest x g) := by
  have n7 := hO.1.1
  obtain ⟨m1, m2, m3, m4, m5, m6, m7, m8, m9⟩ : DeM I (gD g) := hM.2.2.2.2.2.2.2.1
  obtain ⟨o1, o2, o3, o4, o5, o6, o7, o8⟩ : DeOK c (gN g) (gD g) := hO.2.2.2.2.2.2.1
  have hc9 : c ≤ 512 := hO.2.2.2.2.2.2.2.2
  refine t_X10_test _ I J b ?_
  refine (p_M_isJoint (D := D) hM.bn.1 n7).use ?_
  by_cases hx : 0 ≤ x.toInt ∧ x.toInt < gN g
  · rw [decide_eq_true hx, aTest_y hx]
    refine ifp (by decide) ?_
    obtain ⟨j, hj, rfl⟩ := isJ_ex n7 hx
    have h7 : ∀ e ∈ (gD g).1, xj e < 7 := fun e he => by have := o3 e he; omega
    have hB : bs (gD g).1 < 128 := bs_lt h7
    have hbt := bt_0 ⟨bs (gD g).1, hB⟩ ⟨j, by omega⟩
    dsimp only at hbt
    rw [m2]
    rcases stO_at h7 (show j < 7 by omega) o2 with ⟨t1, t2⟩ | ⟨t1, e, he, hej, t2⟩
    · refine ifn (fun z => z (hbt.mpr t1)) (RIf.tm ?_ Fr.id)
      unfold fTest
      rw [t2]
    · refine ifp (fun z => by rw [hbt.mp z] at t1; cases t1) ⟨vp_iZ (by omega) (by omega) (by omega), ?_⟩
      rw [iZ_ck (by omega), m1, ← hej, m5 e he, hej]
      have hxe := o1.xle he
      have hf : fTest (gD g).1 (gD g).2.1 (iZ (j : Int)) = if (gD g).2.1 < xs e then 0 else 1 := by
        unfold fTest
        rw [t2]
      rw [hf]
      by_cases hlt : (gD g).2.1 < xs e
      · exact ifp (tlt (by omega) (by omega) (by omega)) (RIf.tm (by rw [if_pos hlt]) Fr.id)
      · exact ifn (nlt (by omega) (by omega) (by omega)) (RIf.tm (by rw [if_neg hlt]) Fr.id)
  · rw [decide_eq_false hx, aTest_n hx]
    exact ifn (fun z => z rfl) (RIf.tm rfl Fr.id)
theorem op_test (x : Int32) : Op 106 214 [vi x] := Op.th (aTest x) (fun g c I J b hX hO => cX_test (D := 897) hX hO) (fun g c I J b hM hO => cM_test (D := 897) hM hO)
end TEST
