/-! OPS: taken -/
def unF (k : Int32) : Nat → Int32 → Bool
  | 0, _ => false
  | m + 1, a => if inB a 0 7 = false then false else if a = k then true else unF k m ((STl 902).getD a.toNatClampNeg 0)
section TAKEN
variable {D : Nat} {g : Sg} {c : Nat} {I : IM} {J : JM} {b : Bool}
theorem w_under {k : Int32} : ∀ (m l : Nat) (a : Int32), m + l = 8 → WP (D + 1) 2 4 [vn, vi k, vi a, vi (iZ (l : Int))] [] (101, I, J, R0 b) (fun r h => r = some (vi (bI (unF k m a))) ∧ h = (101, I, J, R0 b)) := by
  intro m
  induction m with
  | zero =>
    intro l a hl
    exact t_X0_isUnder_4 _ _ _ I J b (ifp (by rw [show (8 : Int32) = iZ 8 from rfl]; exact tle (by omega) (by omega) (by omega)) ⟨rfl, rfl⟩)
  | succ m ih =>
    intro l a hl
    refine t_X0_isUnder_4 _ _ _ I J b (ifn (by rw [show (8 : Int32) = iZ 8 from rfl]; exact nle (by omega) (by omega) (by omega)) ?_)
    refine (p_isKind (D := D)).use ?_
    cases hin : inB a 0 7
    · refine ifp rfl ⟨?_, rfl⟩
      unfold unF
      rw [if_pos hin]
      rfl
    · refine ifn (by decide) ?_
      obtain ⟨v, v1, v2, rfl⟩ := inB_ex (l := 0) (h := 7) rfl rfl (by omega) (by omega) hin
      refine ifs (fun c1 => ⟨vp_iZ (by omega) (by omega) (by omega), ?_⟩) (fun c1 => ⟨?_, rfl⟩)
      · rw [iZ_s]
        have := ih (l + 1) ((STl 902).getD (iZ (v : Int)).toNatClampNeg 0) (by omega)
        have e : unF k (m + 1) (iZ (v : Int)) = unF k m ((STl 902).getD (iZ (v : Int)).toNatClampNeg 0) := by
          conv => lhs; unfold unF
          rw [if_neg (by rw [hin]; decide), if_neg c1]
        rw [e]
        exact this
      · have c1 := Classical.not_not.mp c1
        unfold unF
        rw [if_neg (by rw [hin]; decide), if_pos c1]
        rfl
theorem p_under {a k : Int32} : Pu (D + 2) 2 [vi a, vi k] I J b (bI (unF k 8 a)) := t_X0_isUnder _ _ I J b (w_under 8 0 a (by omega))
theorem p_underM {a k : Nat} (ha : a < 8) (hk : k < 8) : Pu (D + 1) 223 [vi (iZ (a : Int)), vi (iZ (k : Int))] I J b (bI (unF (iZ (k : Int)) 8 (iZ (a : Int)))) := by
  rcases (show a = 0 ∨ a = 1 ∨ a = 2 ∨ a = 3 ∨ a = 4 ∨ a = 5 ∨ a = 6 ∨ a = 7 by omega) with rfl | rfl | rfl | rfl | rfl | rfl | rfl | rfl <;> rcases (show k = 0 ∨ k = 1 ∨ k = 2 ∨ k = 3 ∨ k = 4 ∨ k = 5 ∨ k = 6 ∨ k = 7 by omega) with rfl | rfl | rfl | rfl | rfl | rfl | rfl | rfl <;> (refine t_X10_isUnder _ _ I J b ?_; repeat (first | refine ifp (by decide) ?_ | refine ifn (by decide) ?_)) <;> exact ⟨rfl, rfl⟩
end TAKEN
