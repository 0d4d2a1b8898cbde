/-! OPS: taken -/
def unF (k : Int32) : Nat → Int32 → Bool
  | 0, _ => false
  | m + 1, a => if inB a 0 7 = false then false else if a = k then true else unF k m ((STl 902).getD a.toNatClampNeg 0)
section TAKEN
variable {D : Nat} {g : Sg} {c : Nat} {I : IM} {J : JM} {b : Bool}
theorem w_under {k : Int32} : ∀ (m l : Nat) (a : Int32), m + l = 8 → WP (D + 1) 2 4 [vn, vi k, vi a, vi (iZ (l : Int))] [] (101, I, J, R0 b) (fun r h => r = some (vi (bI (unF k m a))) ∧ h = (101, I, J, R0 b)) := by
  intro m
  induction m with
  | zero =>
    intro l a hl
    exact t_X0_isUnder_4 _ _ _ I J b (ifp (by rw [show (8 : Int32) = iZ 8 from rfl]; exact tle (by omega) (by omega) (by omega)) ⟨rfl, rfl⟩)
  | succ m ih =>
    intro l a hl
    refine t_X0_isUnder_4 _ _ _ I J b (ifn (by rw [show (8 : Int32) = iZ 8 from rfl]; exact nle (by omega) (by omega) (by omega)) ?_)
    refine (p_isKind (D := D)).use ?_
    cases hin : inB a 0 7
    · refine ifp rfl ⟨?_, rfl⟩
      unfold unF
      rw [if_pos hin]
      rfl
    · refine ifn (by decide) ?_
      obtain ⟨v, v1, v2, rfl⟩ := inB_ex (l := 0) (h := 7) rfl rfl (by omega) (by omega) hin
      refine ifs (fun c1 => ⟨vp_iZ (by omega) (by omega) (by omega), ?_⟩) (fun c1 => ⟨?_, rfl⟩)
      · rw [iZ_s]
        have := ih (l + 1) ((STl 902).getD (iZ (v : Int)).toNatClampNeg 0) (by omega)
        have e : unF k (m + 1) (iZ (v : Int)) = unF k m ((STl 902).getD (iZ (v : Int)).toNatClampNeg 0) := by
          conv => lhs; unfold unF
          rw [if_neg (by rw [hin]; decide), if_neg c1]
        rw [e]
        exact this
      · have c1 := Classical.not_not.mp c1
        unfold unF
        rw [if_neg (by rw [hin]; decide), if_pos c1]
        rfl
theorem p_kindOf {n k : Nat} {B : List Nat} (hT : BoC I B) (hl : B.length ≤ 50) (hg : B[n]? = some k) : Pu (D + 1) 256 [vr 0 0, vi (iZ (n : Int))] I J b (iZ (k : Int)) := by
  have hn : n < B.length := (List.getElem?_eq_some_iff.mp hg).1
  refine t_X0_kindOf _ I J b ?_
  rw [hT.1, iZ_ck (by omega), hT.2 n k hg]
  exact ifn (by rw [i_0]; exact nlt (by omega) (by omega) (by omega)) (ifn (nle (by omega) (by omega) (by omega)) ⟨vp_iZ (by omega) (by omega) (by omega), rfl, rfl⟩)
theorem p_under {a k : Int32} : Pu (D + 2) 2 [vi a, vi k] I J b (bI (unF k 8 a)) := t_X0_isUnder _ _ I J b (w_under 8 0 a (by omega))
theorem p_underM {a k : Nat} (ha : a < 8) (hk : k < 8) : Pu (D + 1) 223 [vi (iZ (a : Int)), vi (iZ (k : Int))] I J b (bI (unF (iZ (k : Int)) 8 (iZ (a : Int)))) := by
  rcases (show a = 0 ∨ a = 1 ∨ a = 2 ∨ a = 3 ∨ a = 4 ∨ a = 5 ∨ a = 6 ∨ a = 7 by omega) with rfl | rfl | rfl | rfl | rfl | rfl | rfl | rfl <;> rcases (show k = 0 ∨ k = 1 ∨ k = 2 ∨ k = 3 ∨ k = 4 ∨ k = 5 ∨ k = 6 ∨ k = 7 by omega) with rfl | rfl | rfl | rfl | rfl | rfl | rfl | rfl <;> (refine t_X10_isUnder _ _ I J b ?_; repeat (first | refine ifp (by decide) ?_ | refine ifn (by decide) ?_)) <;> exact ⟨rfl, rfl⟩
def fTaken (q : Sh) (B : List Nat) (k : Int32) : Int32 := if sK q = 0 then -11 else if sK q = 1 then (match B[sA q]? with
  | none => -12
  | some y => if unF k 8 (iZ (y : Int)) then iZ (y : Int) else -12) else -12
def aTaken (x k : Int32) (g : Sg) : Int32 := if inB x 0 5 = false then -1 else if inB k 0 7 = false then -1 else fTaken (gS g x.toInt.toNat) (gB g) k
theorem aTaken_x {x k : Int32} (h : inB x 0 5 = false) : aTaken x k g = -1 := if_pos h
theorem aTaken_k {x k : Int32} (h : inB x 0 5 = true) (h2 : inB k 0 7 = false) : aTaken x k g = -1 := by
  unfold aTaken
  rw [if_neg (by rw [h]; decide), if_pos h2]
theorem aTaken_y {s : Nat} {k : Int32} (hs : s < 6) (h : inB (iZ (s : Int)) 0 5 = true) (h2 : inB k 0 7 = true) : aTaken (iZ (s : Int)) k g = fTaken (gS g s) (gB g) k := by
  unfold aTaken
  rw [if_neg (by rw [h]; decide), if_neg (by rw [h2]; decide), iZ_toInt (by omega) (by omega), Int.toNat_natCast]
theorem fTaken_0 {q : Sh} {B : List Nat} {k : Int32} (h : sK q = 0) : fTaken q B k = -11 := if_pos h
theorem fTaken_2 {q : Sh} {B : List Nat} {k : Int32} (h : sK q ≠ 0) (h1 : sK q ≠ 1) : fTaken q B k = -12 := by
  unfold fTaken
  rw [if_neg h, if_neg h1]
theorem fTaken_1 {q : Sh} {B : List Nat} {k : Int32} {y : Nat} (h : sK q = 1) (hy : B[sA q]? = some y) : fTaken q B k = if unF k 8 (iZ (y : Int)) then iZ (y : Int) else -12 := by
  unfold fTaken
  rw [if_neg (by omega), if_pos h, hy]
theorem cX_taken {x k : Int32} (hX : XR g I J b) (hO : SOK g c) : TX (D + 3) 121 [vr 9 0, vi x, vi k] I J b (aTaken x k g) := by
  have hT : BoC I (gB g) := hX.2.2.2.2.2.1
  obtain ⟨l1, l2⟩ := hO.2.2.2.2.1
  refine t_X9_taken _ _ I J b ((p_X_isShelf (D := D + 1) x).use ?_)
  cases hx : inB x 0 5
  · exact ifp rfl (RIf.tx (aTaken_x hx).symm Fr.id)
  refine ifn (by decide) ((p_isKind (D := D + 1)).use ?_)
  cases hk : inB k 0 7
  · exact ifn (fun z => z rfl) (RIf.tx (aTaken_k hx hk).symm Fr.id)
  obtain ⟨s, hs, rfl⟩ := in05x hx
  rw [aTaken_y hs hx hk, iZ_ck (by omega)]
  refine ifp (by decide) ⟨vp_iZ (by omega) (by omega) (by omega), ?_⟩
  obtain ⟨⟨q1, q2, q3⟩, hok⟩ := hX.sh hO s hs
  have hk2 := hok.1
  have hlen := (hO.2.2.2.1 s hs).2
  rw [q1]
  refine ifs (fun c1 => ?_) (fun c1 => ?_)
  · rw [i_0, iZ_eq (by omega) (by omega) (by omega) (by omega)] at c1
    have c1 : ¬ sK (gS g s) = 0 := by omega
    refine ifs (fun c2 => ?_) (fun c2 => ?_)
    · rw [i_1, iZ_eq (by omega) (by omega) (by omega) (by omega)] at c2
      have c2 : sK (gS g s) = 1 := by omega
      have hl := hlen c2
      have hg : (gB g)[sA (gS g s)]? = some (gB g)[sA (gS g s)] := List.getElem?_eq_getElem (by omega)
      rw [q2 c2, fTaken_1 c2 hg]
      refine (p_kindOf (D := D + 1) hT l1 hg).use ((p_under (D := D)).use ?_)
      cases hu : unF k 8 (iZ ((gB g)[sA (gS g s)] : Int))
      · exact ifp rfl (RIf.tx rfl Fr.id)
      · exact ifn (by decide) (RIf.tx rfl Fr.id)
    · rw [i_1, iZ_eq (by omega) (by omega) (by omega) (by omega)] at c2
      exact RIf.tx (fTaken_2 c1 (by omega)).symm Fr.id
  · have c1 := Classical.not_not.mp c1
    rw [i_0, iZ_eq (by omega) (by omega) (by omega) (by omega)] at c1
    exact RIf.tx (fTaken_0 (by omega)).symm Fr.id
theorem cM_taken {x k : Int32} (hM : MR g I J) (hO : SOK g c) : TM (D + 3) 244 [vr 10 0, vi x, vi k] I J b (aTaken x k g) := by
  have hT : BoM I (gB g) := hM.2.2.2.2.2.1
  obtain ⟨l1, l2⟩ := hO.2.2.2.2.1
  refine t_X10_taken _ _ I J b ((p_M_isShelf (D := D) x).use ?_)
  cases hx : inB x 0 5
  · exact ifp rfl (RIf.tm (aTaken_x hx).symm Fr.id)
  refine ifn (by decide) ((p_M_in (D := D + 1) k 0 7).use ?_)
  cases hk : inB k 0 7
  · exact ifn (fun z => z rfl) (RIf.tm (aTaken_k hx hk).symm Fr.id)
  obtain ⟨s, hs, rfl⟩ := in05x hx
  have hv : vp_in (iZ (s : Int)) 6 := vp_iZ (by omega) (by omega) (by omega)
  rw [aTaken_y hs hx hk, iZ_ck (by omega)]
  refine ifp (by decide) ⟨hv, ?_⟩
  obtain ⟨q1, q2⟩ := hM.sh s hs
  have hok := (hO.2.2.2.1 s hs).1
  have hk2 := hok.1
  have hlen := (hO.2.2.2.1 s hs).2
  obtain ⟨kk, k1, k2, rfl⟩ := inB_ex (l := 0) (h := 7) rfl rfl (by omega) (by omega) hk
  rcases (show sK (gS g s) = 0 ∨ sK (gS g s) = 1 ∨ sK (gS g s) = 2 by omega) with h0 | h1 | h2
  · have e : shH (gS g s) = -1 := if_pos h0
    rw [q1, e]
    exact ifn (fun z => z rfl) (RIf.tm (fTaken_0 h0).symm Fr.id)
  · have e : shH (gS g s) = (sA (gS g s) : Int) := by
      unfold shH
      rw [if_neg (by omega), if_pos h1]
    have hl := hlen h1
    have hg : (gB g)[sA (gS g s)]? = some (gB g)[sA (gS g s)] := List.getElem?_eq_getElem (by omega)
    have hy := l2 _ (List.mem_of_getElem? hg)
    have hvb : vp_in (iZ (sA (gS g s) : Int)) 50 := vp_iZ (by omega) (by omega) (by omega)
    rw [q1, e, iZ_ck (by omega), hT.2 _ _ hg, fTaken_1 h1 hg]
    refine ifp (by rw [show (-1 : Int32) = iZ (-1) from rfl, iZ_eq (by omega) (by omega) (by omega) (by omega)]; omega) ⟨hv, ifn (by rw [i_0]; exact nlt (by omega) (by omega) (by omega)) ⟨hv, hvb, (p_underM (D := D + 1) hy (show kk < 8 by omega)).use ?_⟩⟩
    cases hu : unF (iZ (kk : Int)) 8 (iZ ((gB g)[sA (gS g s)] : Int))
    · exact ifp rfl (RIf.tm rfl Fr.id)
    · refine ifn (by decide) ⟨hv, ?_⟩
      rw [q1, e, iZ_ck (by omega), hT.2 _ _ hg]
      exact ⟨hvb, RIf.tm rfl Fr.id⟩
  · have e : shH (gS g s) = -2 - (sA (gS g s) : Int) := by
      unfold shH
      rw [if_neg (by omega), if_neg (by omega)]
    have hA := (hok.2.2 h2).1
    rw [q1, e]
    exact ifp (by rw [show (-1 : Int32) = iZ (-1) from rfl, iZ_eq (by omega) (by omega) (by omega) (by omega)]; omega) ⟨hv, ifp (by rw [i_0]; exact tlt (by omega) (by omega) (by omega)) (RIf.tm (fTaken_2 (by omega) (by omega)).symm Fr.id)⟩
theorem op_taken (x k : Int32) : Op 121 244 [vi x, vi k] := Op.th (aTaken x k) (fun g c I J b hX hO => cX_taken (D := 897) hX hO) (fun g c I J b hM hO => cM_taken (D := 897) hM hO)
end TAKEN
