/-! CHANGES: mend, what may be; the log -/
def mayF (q j : Nat) (v : Int32) : Bool := inB v ((STl 900).getD q 0) ((STl 901).getD q 0) && (if q = 4 ∨ q = 5 then decide (((v >>> (iZ (j : Int) &&& 31)) &&& (1 : Int32)) = 0) else true)
def lgN (C : List Ch) (U : Nat) (ch : Ch) : List Ch := (if U < 40 then C.take U else C.drop 1) ++ [ch]
def gLg (g : Sg) (V : Nat → Nat → Nat) (C : List Ch) (u : Nat) : Sg := (g.1, V, (C, u), g.2.2.2)
theorem lgN_len {C : List Ch} {U : Nat} {ch : Ch} (h1 : U ≤ C.length) (h2 : C.length ≤ 40) : (lgN C U ch).length = (if U < 40 then U + 1 else 40) := by
  unfold lgN
  split
  · simp
    omega
  · simp
    omega
theorem lgN_at {C : List Ch} {U k : Nat} {ch c : Ch} (h1 : U ≤ C.length) (h2 : C.length ≤ 40) (h : (lgN C U ch)[k]? = some c) : (U < 40 ∧ ((k < U ∧ C[k]? = some c) ∨ (k = U ∧ c = ch))) ∨ (¬ U < 40 ∧ ((k < 39 ∧ C[k + 1]? = some c) ∨ (k = 39 ∧ c = ch))) := by
  unfold lgN at h
  split at h
  · next hU =>
    left
    refine ⟨hU, ?_⟩
    have hl : (C.take U).length = U := by
      rw [List.length_take]
      omega
    rw [List.getElem?_append] at h
    split at h
    · next hk =>
      rw [hl] at hk
      rw [List.getElem?_take, if_pos hk] at h
      exact Or.inl ⟨hk, h⟩
    · next hk =>
      rw [hl] at hk h
      have hlt : k - U < 1 := by
        rw [List.getElem?_eq_some_iff] at h
        exact h.1
      have hk0 : k - U = 0 := by omega
      rw [hk0] at h
      cases h
      exact Or.inr ⟨by omega, rfl⟩
  · next hU =>
    right
    refine ⟨hU, ?_⟩
    have hl : (C.drop 1).length = 39 := by
      rw [List.length_drop]
      omega
    rw [List.getElem?_append] at h
    split at h
    · next hk =>
      rw [hl] at hk
      rw [List.getElem?_drop] at h
      exact Or.inl ⟨hk, by rw [Nat.add_comm]; exact h⟩
    · next hk =>
      rw [hl] at hk h
      have hlt : k - 39 < 1 := by
        rw [List.getElem?_eq_some_iff] at h
        exact h.1
      have hk0 : k - 39 = 0 := by omega
      rw [hk0] at h
      cases h
      exact Or.inr ⟨by omega, rfl⟩
theorem lgN_mem {C : List Ch} {U : Nat} {ch c : Ch} (h : c ∈ lgN C U ch) : c ∈ C ∨ c = ch := by
  unfold lgN at h
  rw [List.mem_append, List.mem_singleton] at h
  rcases h with h | h
  · left
    split at h
    · exact List.mem_of_mem_take h
    · exact List.mem_of_mem_drop h
  · exact Or.inr h
theorem may_ex {q j : Nat} {v : Int32} (h : mayF q j v = true) (hq : q ≤ 10) : ∃ u : Nat, v = iZ (u : Int) ∧ maybe q j u ∧ u ≤ 127 := by
  unfold mayF at h
  rw [Bool.and_eq_true] at h
  obtain ⟨h, _⟩ := h
  unfold maybe
  rcases (show q = 0 ∨ q = 1 ∨ q = 2 ∨ q = 3 ∨ q = 4 ∨ q = 5 ∨ q = 6 ∨ q = 7 ∨ q = 8 ∨ q = 9 ∨ q = 10 by omega) with rfl | rfl | rfl | rfl | rfl | rfl | rfl | rfl | rfl | rfl | rfl
  · obtain ⟨u, u1, u2, rfl⟩ := inB_ex (l := 1) (h := 9) rfl rfl (by omega) (by omega) h
    exact ⟨u, rfl, by omega, by omega⟩
  · obtain ⟨u, u1, u2, rfl⟩ := inB_ex (l := 0) (h := 3) rfl rfl (by omega) (by omega) h
    exact ⟨u, rfl, by omega, by omega⟩
  · obtain ⟨u, u1, u2, rfl⟩ := inB_ex (l := 0) (h := 2) rfl rfl (by omega) (by omega) h
    exact ⟨u, rfl, by omega, by omega⟩
  · obtain ⟨u, u1, u2, rfl⟩ := inB_ex (l := 0) (h := 1) rfl rfl (by omega) (by omega) h
    exact ⟨u, rfl, by omega, by omega⟩
  · obtain ⟨u, u1, u2, rfl⟩ := inB_ex (l := 0) (h := 127) rfl rfl (by omega) (by omega) h
    exact ⟨u, rfl, by omega, by omega⟩
  · obtain ⟨u, u1, u2, rfl⟩ := inB_ex (l := 0) (h := 127) rfl rfl (by omega) (by omega) h
    exact ⟨u, rfl, by omega, by omega⟩
  · obtain ⟨u, u1, u2, rfl⟩ := inB_ex (l := 0) (h := 3) rfl rfl (by omega) (by omega) h
    exact ⟨u, rfl, by omega, by omega⟩
  · obtain ⟨u, u1, u2, rfl⟩ := inB_ex (l := 0) (h := 6) rfl rfl (by omega) (by omega) h
    exact ⟨u, rfl, by omega, by omega⟩
  · obtain ⟨u, u1, u2, rfl⟩ := inB_ex (l := 0) (h := 99) rfl rfl (by omega) (by omega) h
    exact ⟨u, rfl, by omega, by omega⟩
  · obtain ⟨u, u1, u2, rfl⟩ := inB_ex (l := 0) (h := 30) rfl rfl (by omega) (by omega) h
    exact ⟨u, rfl, by omega, by omega⟩
  · obtain ⟨u, u1, u2, rfl⟩ := inB_ex (l := 0) (h := 12) rfl rfl (by omega) (by omega) h
    exact ⟨u, rfl, by omega, by omega⟩
theorem maybe_of {n q j : Nat} {V : Nat → Nat → Nat} (hO : BnOK n V) (hn : numP n q j) : maybe q j (V q j) := by
  obtain ⟨h1, h2, h3, h4, h5, h6, h7, h8⟩ := hO
  unfold numP at hn
  unfold maybe
  by_cases h : q < 6
  · obtain ⟨a0, a1, a2, a3, a4, a5⟩ := h2 j (by omega)
    rcases (show q = 0 ∨ q = 1 ∨ q = 2 ∨ q = 3 ∨ q = 4 ∨ q = 5 by omega) with rfl | rfl | rfl | rfl | rfl | rfl <;> omega
  · have hj : j = 0 := by omega
    subst hj
    rcases (show q = 6 ∨ q = 7 ∨ q = 8 ∨ q = 9 ∨ q = 10 by omega) with rfl | rfl | rfl | rfl | rfl <;> omega
section MEND
variable {D n : Nat} {V : Nat → Nat → Nat} {g : Sg} {c : Nat} {I : IM} {J : JM} {b : Bool}
theorem p_mayX {q j : Nat} {v : Int32} (hq : q ≤ 10) : Pu (D + 1) 10 [vr 1 0, vi (iZ (j : Int)), vi (iZ (q : Int)), vi v] I J b (bI (mayF q j v)) := by
  have hv : vp_in (iZ (q : Int)) 11 := vp_iZ (by omega) (by omega) (by omega)
  have e1 : inB v ((STl 900).getD q 0) ((STl 901).getD q 0) = (!(decide (v < (STl 900).getD q 0)) && decide (v ≤ (STl 901).getD q 0)) := by
    unfold inB
    congr 1
    by_cases h : v < (STl 900).getD q 0
    · rw [decide_eq_true h, decide_eq_false (Int32.not_le.mpr h)]
      rfl
    · rw [decide_eq_false h, decide_eq_true (Int32.not_lt.mp h)]
      rfl
  refine t_X1_mayBe _ _ _ I J b (ifn (by rw [i_0]; exact nlt (by omega) (by omega) (by omega)) (ifn (by rw [i_10]; exact nlt (by omega) (by omega) (by omega)) ⟨hv, ?_⟩))
  rw [iZ_ck (by omega)]
  unfold mayF
  rw [e1]
  refine ifs (fun c1 => ⟨?_, rfl⟩) (fun c1 => ⟨hv, ifs (fun c2 => ?_) (fun c2 => ⟨?_, rfl⟩)⟩)
  · rw [decide_eq_true c1]
    rfl
  · rw [decide_eq_false c1, decide_eq_true c2]
    have hb : ∀ (hq45 : q = 4 ∨ q = 5), (if ¬ ((v >>> (iZ (j : Int) &&& 31)) &&& (1 : Int32)) = 0 then (some (vi 0) = some (vi (bI (!false && true && (if q = 4 ∨ q = 5 then decide (((v >>> (iZ (j : Int) &&& 31)) &&& (1 : Int32)) = 0) else true)))) ∧ (101, I, J, R0 b) = (101, I, J, R0 b)) else (some (vi 1) = some (vi (bI (!false && true && (if q = 4 ∨ q = 5 then decide (((v >>> (iZ (j : Int) &&& 31)) &&& (1 : Int32)) = 0) else true)))) ∧ (101, I, J, R0 b) = (101, I, J, R0 b))) := fun hq45 => by
      rw [if_pos hq45]
      refine ifs (fun c3 => ⟨?_, rfl⟩) (fun c3 => ⟨?_, rfl⟩)
      · rw [decide_eq_false c3]
        rfl
      · rw [decide_eq_true (Classical.not_not.mp c3)]
        rfl
    refine ifs (fun c3 => ?_) (fun c3 => ifs (fun c4 => ?_) (fun c4 => ?_))
    · rw [show (4 : Int32) = iZ 4 from rfl, iZ_eq (by omega) (by omega) (by omega) (by omega)] at c3
      exact hb (by omega)
    · rw [show (4 : Int32) = iZ 4 from rfl, iZ_eq (by omega) (by omega) (by omega) (by omega)] at c3
      rw [i_5, iZ_eq (by omega) (by omega) (by omega) (by omega)] at c4
      rw [if_neg (by omega)]
      exact ⟨rfl, rfl⟩
    · have c4 := Classical.not_not.mp c4
      rw [i_5, iZ_eq (by omega) (by omega) (by omega) (by omega)] at c4
      exact hb (by omega)
  · rw [decide_eq_false c1, decide_eq_false c2]
    rfl
theorem p_mayM {q j : Nat} {v : Int32} (hq : q ≤ 10) : Pu (D + 2) 147 [vi (iZ (j : Int)), vi (iZ (q : Int)), vi v] I J b (bI (mayF q j v)) := by
  refine t_X10_mayBe _ _ _ I J b ?_
  have hplain : ∀ lo hi, (STl 900).getD q 0 = lo → (STl 901).getD q 0 = hi → ¬ (q = 4 ∨ q = 5) → Call (D + 1) 135 [vi v, vi lo, vi hi] (101, I, J, R0 b) (RIf b fun x1 I2 J3 => (x1 &&& 1 = x1 ∧ (some (vi x1) = some (vi (bI (mayF q j v))) ∧ (101, I2, J3, R0 b) = (101, I, J, R0 b)))) := fun lo hi e1 e2 e3 => by
    refine (p_M_in (D := D) v lo hi).use ⟨bI_and _, ?_, rfl⟩
    unfold mayF
    rw [e1, e2, if_neg e3, Bool.and_true]
  have hbit : (STl 900).getD q 0 = 0 → (STl 901).getD q 0 = 127 → (q = 4 ∨ q = 5) → Call (D + 1) 135 [vi v, vi 0, vi 127] (101, I, J, R0 b) (RIf b fun x13 I14 J15 => (if x13 = 0 then (some (vi 0) = some (vi (bI (mayF q j v))) ∧ (101, I14, J15, R0 b) = (101, I, J, R0 b)) else (if ¬ ((v >>> (iZ (j : Int) &&& 31)) &&& (1 : Int32)) = 0 then (some (vi 0) = some (vi (bI (mayF q j v))) ∧ (101, I14, J15, R0 b) = (101, I, J, R0 b)) else (some (vi 1) = some (vi (bI (mayF q j v))) ∧ (101, I14, J15, R0 b) = (101, I, J, R0 b))))) := fun e1 e2 e3 => by
    refine (p_M_in (D := D) v 0 127).use ?_
    unfold mayF
    rw [e1, e2, if_pos e3]
    cases hi : inB v 0 127
    · exact ifp rfl ⟨rfl, rfl⟩
    · refine ifn (by decide) (ifs (fun c3 => ⟨?_, rfl⟩) (fun c3 => ⟨?_, rfl⟩))
      · rw [decide_eq_false c3]
        rfl
      · rw [decide_eq_true (Classical.not_not.mp c3)]
        rfl
  rcases (show q = 0 ∨ q = 1 ∨ q = 2 ∨ q = 3 ∨ q = 4 ∨ q = 5 ∨ q = 6 ∨ q = 7 ∨ q = 8 ∨ q = 9 ∨ q = 10 by omega) with rfl | rfl | rfl | rfl | rfl | rfl | rfl | rfl | rfl | rfl | rfl <;> (repeat (first | refine ifp (by decide) ?_ | refine ifn (by decide) ?_)) <;> first | exact hplain _ _ rfl rfl (by omega) | exact hbit rfl rfl (by omega)
theorem e_logAdd {C : List Ch} {U : Nat} {ch : Ch} (h : LgC I C U) (h1 : U ≤ C.length) (h2 : C.length ≤ 40) : Call (D + 1) 34 [vr 4 0, vi (iZ (chP ch : Int)), vi (iZ (ch.2.2.1 : Int)), vi (iZ (ch.2.2.2 : Int))] (101, I, J, R0 b) (RVf b fun I' J' => J' = J ∧ LgC I' (lgN C U ch) (lgN C U ch).length ∧ ∀ s j k, ¬ ((s = 4 ∧ (k = 3 ∨ k = 4)) ∨ (21 ≤ s ∧ s ≤ 23)) → I' s j k = I s j k) := by
  obtain ⟨g1, g2, g3⟩ := h
  have hlen := lgN_len (ch := ch) h1 h2
  refine t_X4_add _ _ _ I J b ?_
  rw [g1]
  refine ifs (fun c1 => ?_) (fun c1 => ?_)
  · rw [show (40 : Int32) = iZ 40 from rfl, iZ_lt (by omega) (by omega) (by omega) (by omega)] at c1
    have c1 : U < 40 := by omega
    rw [if_pos c1] at hlen
    have hv : vp_in (iZ (U : Int)) 40 := vp_iZ (by omega) (by omega) (by omega)
    rw [iZ_ck (by omega), iZ_s]
    refine ⟨hv, hv, hv, RVf.mk ⟨rfl, ⟨?_, ?_, fun k x hk => ?_⟩, fun s j k z => ?_⟩⟩
    · rw [updI_if, if_neg (by omega), uI_eq, hlen]
    · rw [uI_eq, Nat.sub_self]
      rfl
    · rcases lgN_at h1 h2 hk with ⟨_, ⟨k1, k2⟩ | ⟨rfl, rfl⟩⟩ | ⟨z, _⟩
      · obtain ⟨y1, y2, y3⟩ := g3 k x k2
        refine ⟨?_, ?_, ?_⟩ <;> (rw [updI_if, if_neg (by omega), updI_if, if_neg (by omega), updI_if, if_neg (by omega), updI_if, if_neg (by omega), updI_if, if_neg (by omega)]; assumption)
      · refine ⟨?_, ?_, ?_⟩
        · rw [updI_if, if_neg (by omega), updI_if, if_neg (by omega), updI_if, if_neg (by omega), updI_if, if_neg (by omega), uI_eq]
        · rw [updI_if, if_neg (by omega), updI_if, if_neg (by omega), updI_if, if_neg (by omega), uI_eq]
        · rw [updI_if, if_neg (by omega), updI_if, if_neg (by omega), uI_eq]
      · omega
    · rw [updI_if, if_neg (by omega), updI_if, if_neg (by omega), updI_if, if_neg (by omega), updI_if, if_neg (by omega), updI_if, if_neg (by omega)]
  · rw [show (40 : Int32) = iZ 40 from rfl, iZ_lt (by omega) (by omega) (by omega) (by omega)] at c1
    have c1 : ¬ U < 40 := by omega
    rw [if_neg c1] at hlen
    have hq : ¬ (1 : Int32) < 0 ∧ ¬ (0 : Int32) < 0 ∧ ¬ (39 : Int32) < 0 ∧ 1 + 39 ≤ 40 ∧ 0 + 39 ≤ 40 := by decide
    refine ⟨hq, hq, hq, RVf.mk ⟨rfl, ⟨?_, ?_, fun k x hk => ?_⟩, fun s j k z => ?_⟩⟩
    · rw [updI_if, if_neg (by omega), uI_eq, hlen]
      rfl
    · rw [uI_eq, Nat.sub_self]
      rfl
    · rcases lgN_at h1 h2 hk with ⟨z, _⟩ | ⟨_, ⟨k1, k2⟩ | ⟨rfl, rfl⟩⟩
      · exact absurd z c1
      · obtain ⟨y1, y2, y3⟩ := g3 (k + 1) x k2
        have e : 1 + (k - 0) = k + 1 := by omega
        refine ⟨?_, ?_, ?_⟩
        · rw [updI_if, if_neg (by omega), updI_if, if_neg (by omega), updI_if, if_neg (by omega), updI_if, if_neg (by omega), updI_if, if_neg (by omega), updI_if, if_neg (by omega), cpyI_if, if_neg (by omega), cpyI_if, if_neg (by omega), cpyI_if, if_pos ⟨rfl, rfl⟩, pk_cpy_in (Nat.zero_le _) (by omega), e]
          exact y1
        · rw [updI_if, if_neg (by omega), updI_if, if_neg (by omega), updI_if, if_neg (by omega), updI_if, if_neg (by omega), updI_if, if_neg (by omega), updI_if, if_neg (by omega), cpyI_if, if_neg (by omega), cpyI_if, if_pos ⟨rfl, rfl⟩, pk_cpy_in (Nat.zero_le _) (by omega), e, cpyI_if, if_neg (by omega)]
          exact y2
        · rw [updI_if, if_neg (by omega), updI_if, if_neg (by omega), updI_if, if_neg (by omega), updI_if, if_neg (by omega), updI_if, if_neg (by omega), updI_if, if_neg (by omega), cpyI_if, if_pos ⟨rfl, rfl⟩, pk_cpy_in (Nat.zero_le _) (by omega), e, cpyI_if, if_neg (by omega), cpyI_if, if_neg (by omega)]
          exact y3
      · refine ⟨?_, ?_, ?_⟩
        · rw [updI_if, if_neg (by omega), updI_if, if_neg (by omega), updI_if, if_neg (by omega), updI_if, if_neg (by omega), uI_eq]
        · rw [updI_if, if_neg (by omega), updI_if, if_neg (by omega), updI_if, if_neg (by omega), uI_eq]
        · rw [updI_if, if_neg (by omega), updI_if, if_neg (by omega), uI_eq]
    · rw [updI_if, if_neg (by omega), updI_if, if_neg (by omega), updI_if, if_neg (by omega), updI_if, if_neg (by omega), updI_if, if_neg (by omega), updI_if, if_neg (by omega), cpyI_if, if_neg (by omega), cpyI_if, if_neg (by omega), cpyI_if, if_neg (by omega)]
theorem XR.lg {I' : IM} {C : List Ch} {u : Nat} (h : XR g I J b) (hB : BnC I' (gN g) V) (hL : LgC I' C u) (e : ∀ s j k, ¬ (s = 20 ∨ s = 4 ∨ (21 ≤ s ∧ s ≤ 23)) → I' s j k = I s j k) : XR (gLg g V C u) I' J b := by
  obtain ⟨h1, h2, h3, h4, h5, h6, h7, h8, h9, h10, h11, h12⟩ := h
  have hcs : cs b = 27 ∨ cs b = 28 := by cases b <;> decide
  exact ⟨hB, hL, h3.eq (fun s k z => e _ _ _ (by omega)), h4.eq (fun s k z => e _ _ _ (by omega)), fun s hs => (h5 s hs).eq (fun k => e _ _ _ (by omega)) (fun _ => rfl), h6.eq (fun s k z => e _ _ _ (by omega)), h7.eq (fun s k z => e _ _ _ (by omega)), h8.eq (fun s k z => e _ _ _ (by omega)) (fun k => e _ _ _ (by omega)), (e _ _ _ (by omega)).trans h9, h10.fr (e _ _ _ (by omega)), h11.fr (e _ _ _ (by omega)), fun d hd => (h12 d hd).eq (fun s k z => e _ _ _ (by omega)) (fun k => e _ _ _ (by omega))⟩
theorem MR.lg {I' : IM} {C : List Ch} {u : Nat} (h : MR g I J) (hB : BnM I' (gN g) V) (hL : LgM I' C u) (e : ∀ s k, ¬ ((s = 10 ∧ ((8 ≤ k ∧ k ≤ 12) ∨ k = 13 ∨ k = 14)) ∨ (43 ≤ s ∧ s ≤ 52)) → I' s 0 k = I s 0 k) : MR (gLg g V C u) I' J := by
  obtain ⟨h1, h2, h3, h4, h5, h6, h7, h8, ⟨h9, h10⟩, h11, h12⟩ := h
  exact ⟨hB, hL, h3.eq (fun s k z => e _ _ (by omega)), h4.eq (fun s k z => e _ _ (by omega)), fun s hs => (h5 s hs).eq (fun t k z => e _ _ (by omega)) (fun _ => rfl), h6.eq (fun s k z => e _ _ (by omega)), h7.eq (fun s k z => e _ _ (by omega)), h8.eq (fun s k z => e _ _ (by omega)), ⟨(e _ _ (by omega)).trans h9, fun d hd => (h10 d hd).eq (fun s k z => e _ _ (by omega))⟩, (e _ _ (by omega)).trans h11, (e _ _ (by omega)).trans h12⟩
end MEND
