/-! OPS IN THOUGHT: which, the two programs -/
section OPM
variable {D n : Nat} {g : Sg} {c : Nat} {I : IM} {J : JM} {b : Bool}
theorem w_bind {s : Nat} {q : Sh} {I0 : IM} (hs : s < 6) (hq : ShC I0 J s q) (hk : sK q = 2) (hok : ShOK q) (hs1 : sA q = 1) (hn : n ≤ 7) (h1 : I0 1 0 1 = iZ (n : Int)) : ∀ (m k : Nat) (due : Nat → Option Int) (I : IM), k + m = 31 → (∀ s j k, s ≠ 36 → I s j k = I0 s j k) → DuC I due → WP D 39 6 [vr 5 0, vr 6 s, vi (iZ ((2 * k : Nat) : Int)), vn, vn] [] (101, I, J, R0 b) (RIf b fun x I' J' => J' = J ∧ (∀ s j k, s ≠ 36 → I' s j k = I0 s j k) ∧ x = bI (bdF n q m k due).isSome ∧ ∀ d, bdF n q m k due = some d → DuC I' d) := by
  obtain ⟨q1, q2, q3, q4⟩ := hok.2.2 hk
  obtain ⟨_, c2, c3⟩ := hq.2.2 hk
  intro m
  induction m with
  | zero =>
    intro k due I hkm hI hd
    refine t_X5_bindTo_6 s _ I J b ?_
    rw [hI _ _ _ (by omega), c2]
    exact ifp (tle (by omega) (by omega) (by omega)) (RIf.mk ⟨rfl, hI, rfl, fun d h => by
      have h : some due = some d := h
      cases h
      exact hd⟩)
  | succ m ih =>
    intro k due I hkm hI hd
    have hno : bdF n q (m + 1) k due = none → RIf b (fun x I' J' => J' = J ∧ (∀ s j k, s ≠ 36 → I' s j k = I0 s j k) ∧ x = bI (bdF n q (m + 1) k due).isSome ∧ ∀ d, bdF n q (m + 1) k due = some d → DuC I' d) (some (vi 0)) (101, I, J, R0 b) := fun h => RIf.mk ⟨rfl, hI, by rw [h]; rfl, fun d z => by rw [h] at z; cases z⟩
    refine t_X5_bindTo_6 s _ I J b ?_
    rw [hI 6 s 3 (by omega), hI 1 0 1 (by omega), c2, h1]
    refine ifs (fun z1 => ?_) (fun z1 => ?_)
    · have z1 := (tle' (by omega) (by omega) (by omega) (by omega)).mp z1
      have hb : bdF n q (m + 1) k due = some due := by
        unfold bdF
        rw [if_pos (by omega)]
      refine RIf.mk ⟨rfl, hI, by rw [hb]; rfl, fun d h => ?_⟩
      rw [hb] at h
      cases h
      exact hd
    · have z2 : 2 * k < sL q := by
        apply Classical.byContradiction
        intro z
        exact z1 (tle (by omega) (by omega) (by omega))
      refine ⟨vp_iZ (by omega) (by omega) (by omega), ?_⟩
      rw [iZ_ck (by omega), c3 (2 * k) (by omega)]
      have hbe : bdF n q (m + 1) k due = if 0 ≤ (sC q (2 * k)).toInt32.toInt ∧ (sC q (2 * k)).toInt32.toInt < n ∧ 2 * k + 1 < sL q ∧ (due (sC q (2 * k)).toInt32.toInt.toNat = none ∨ due (sC q (2 * k)).toInt32.toInt.toNat = some (sC q (2 * k + 1)).toInt32.toInt) then bdF n q m (k + 1) (duU due (sC q (2 * k)).toInt32.toInt.toNat (sC q (2 * k + 1)).toInt32.toInt) else none := by
        conv => lhs; unfold bdF
        rw [if_neg (by omega)]
      generalize hX : (sC q (2 * k)).toInt32 = X at hbe ⊢
      obtain ⟨x, rfl, x1, x2⟩ := iZ_ex X
      rw [iZ_toInt x1 x2] at hbe
      refine ifs (fun z3 => ?_) (fun z3 => ?_)
      · rw [i_0, iZ_lt (by omega) (by omega) (by omega) (by omega)] at z3
        exact hno (by rw [hbe, if_neg (fun z => by omega)])
      · rw [i_0, iZ_lt (by omega) (by omega) (by omega) (by omega)] at z3
        refine ifs (fun z4 => ?_) (fun z4 => ?_)
        · have z4 := (tle' (by omega) (by omega) (by omega) (by omega)).mp z4
          exact hno (by rw [hbe, if_neg (fun z => by omega)])
        · have z5 : x < n := by
            apply Classical.byContradiction
            intro z
            exact z4 (tle (by omega) (by omega) (by omega))
          obtain ⟨j, rfl⟩ : ∃ j : Nat, x = (j : Int) := ⟨x.toNat, by omega⟩
          rw [iZ_s]
          refine ifs (fun z6 => ?_) (fun z6 => ?_)
          · rw [iZ_lt (by omega) (by omega) (by omega) (by omega)] at z6
            have hvj : vp_in (iZ (j : Int)) 7 := vp_iZ (by omega) (by omega) (by omega)
            refine ⟨vp_iZ (by omega) (by omega) (by omega), hvj, ?_⟩
            rw [iZ_ck (by omega), iZ_ck (by omega), c3 (2 * k + 1) (by omega)]
            obtain ⟨w1, w2⟩ := q4 hs1 (2 * k + 1) (by omega)
            rw [Int.toNat_natCast] at hbe
            generalize hY : (sC q (2 * k + 1)).toInt32 = Y at hbe w1 w2 ⊢
            obtain ⟨y, rfl, y1, y2⟩ := iZ_ex Y
            rw [iZ_toInt y1 y2] at hbe w1 w2
            obtain ⟨d1, d2⟩ := hd j (by omega)
            have h22 : iZ ((2 * k : Nat) : Int) + 2 = iZ ((2 * (k + 1) : Nat) : Int) := by
              rw [show (2 : Int32) = iZ 2 from rfl, iZ_add]
              congr 1
            have hgo : bdF n q (m + 1) k due = bdF n q m (k + 1) (duU due j y) → WP D 39 6 [vr 5 0, vr 6 s, vi (iZ ((2 * k : Nat) : Int) + 2), vn, vn] [] (101, updI I 36 0 j (iZ y), J, R0 b) (RIf b (fun x I' J' => J' = J ∧ (∀ s j k, s ≠ 36 → I' s j k = I0 s j k) ∧ x = bI (bdF n q (m + 1) k due).isSome ∧ ∀ d, bdF n q (m + 1) k due = some d → DuC I' d)) := by
              intro h
              rw [h22, h]
              refine ih (k + 1) (duU due j y) _ (by omega) (fun s2 j2 k2 z => by rw [updI_if, if_neg (by omega)]; exact hI s2 j2 k2 z) (fun j2 hj2 => ?_)
              unfold duU
              by_cases hjj : j2 = j
              · subst hjj
                rw [uI_eq, if_pos rfl]
                exact ⟨rfl, fun x z => by cases z; exact ⟨w1, w2⟩⟩
              · rw [updI_if, if_neg (by omega), if_neg hjj]
                exact hd j2 hj2
            rw [d1]
            cases hdj : due j with
            | none =>
              exact ifp rfl ⟨hvj, hgo (by rw [hbe, if_pos ⟨by omega, by omega, by omega, Or.inl hdj⟩])⟩
            | some x =>
              obtain ⟨r1, r2⟩ := d2 x hdj
              refine ifn (by show ¬ iZ x = iZ (-100000); exact nne (by omega) (by omega) (by omega) (by omega) (by omega)) ⟨hvj, ?_⟩
              show (if iZ x = iZ y then _ else _)
              refine ifs (fun z7 => ?_) (fun z7 => ?_)
              · rw [iZ_eq (by omega) (by omega) (by omega) (by omega)] at z7
                subst z7
                exact ⟨hvj, hgo (by rw [hbe, if_pos ⟨by omega, by omega, by omega, Or.inr hdj⟩])⟩
              · rw [iZ_eq (by omega) (by omega) (by omega) (by omega)] at z7
                refine hno ?_
                rw [hbe, if_neg]
                rintro ⟨_, _, _, u | u⟩
                · rw [hdj] at u; cases u
                · rw [hdj] at u
                  cases u
                  exact z7 rfl
          · rw [iZ_lt (by omega) (by omega) (by omega) (by omega)] at z6
            exact hno (by rw [hbe, if_neg (fun z => by omega)])
end OPM
