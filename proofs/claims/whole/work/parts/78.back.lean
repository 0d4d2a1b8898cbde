/-! CHANGES: back -/
section BACK
variable {D : Nat} {g : Sg} {c : Nat} {I0 : IM} {J : JM} {b : Bool} {Q : Option AV → AH → Prop}
theorem w_bk36 (K : ∀ I', (∀ s j k, ¬ s = 71 → I' s j k = I0 s j k) → (∀ k, k < 7 → I' 71 0 k = I0 76 0 k) → WP D 218 62 [vr 10 0, vi 0] [] (101, I', J, R0 b) Q) : ∀ (m l : Nat) (I : IM), m + l = 7 → (∀ s j k, ¬ s = 71 → I s j k = I0 s j k) → (∀ k, k < l → I 71 0 k = I0 76 0 k) → WP D 218 36 [vr 10 0, vi (iZ (l : Int))] [] (101, I, J, R0 b) Q := by
  intro m
  induction m with
  | zero =>
    intro l I hl hf hk
    have : l = 7 := by omega
    subst this
    exact t_X10_back_36 _ I J b (ifp (by decide) (K I hf hk))
  | succ m ih =>
    intro l I hl hf hk
    have hv : vp_in (iZ (l : Int)) 7 := vp_iZ (by omega) (by omega) (by omega)
    refine t_X10_back_36 _ I J b (ifn (by rw [show (7 : Int32) = iZ 7 from rfl]; exact nle (by omega) (by omega) (by omega)) ⟨hv, hv, ?_⟩)
    rw [iZ_s, iZ_ck (by omega)]
    refine ih (l + 1) _ (by omega) (fun s j k z => by rw [updI_if, if_neg (by omega)]; exact hf s j k z) (fun k hk2 => ?_)
    rw [updI_if]
    by_cases h : k = l
    · subst h
      rw [if_pos ⟨rfl, rfl, rfl⟩]
      exact hf _ _ _ (by omega)
    · rw [if_neg (by omega)]
      exact hk k (by omega)
theorem w_bk62 {N : Nat} (hN : N ≤ 42) (h63 : I0 10 0 63 = iZ (N : Int)) (K : ∀ I', (∀ s j k, ¬ (72 ≤ s ∧ s ≤ 74) → I' s j k = I0 s j k) → (∀ k, k < N → I' 72 0 k = I0 77 0 (3 * k) ∧ I' 73 0 k = I0 77 0 (3 * k + 1) ∧ I' 74 0 k = I0 77 0 (3 * k + 2)) → WP D 218 124 [vr 10 0, vi 0] [] (101, I', J, R0 b) Q) : ∀ (m l : Nat) (I : IM), m + l = N → (∀ s j k, ¬ (72 ≤ s ∧ s ≤ 74) → I s j k = I0 s j k) → (∀ k, k < l → I 72 0 k = I0 77 0 (3 * k) ∧ I 73 0 k = I0 77 0 (3 * k + 1) ∧ I 74 0 k = I0 77 0 (3 * k + 2)) → WP D 218 62 [vr 10 0, vi (iZ (l : Int))] [] (101, I, J, R0 b) Q := by
  intro m
  induction m with
  | zero =>
    intro l I hl hf hk
    have : l = N := by omega
    subst this
    refine t_X10_back_62 _ I J b ?_
    rw [hf 10 0 63 (by omega), h63]
    exact ifp (tle (by omega) (by omega) (by omega)) (K I hf hk)
  | succ m ih =>
    intro l I hl hf hk
    have hv : vp_in (iZ (l : Int)) 42 := vp_iZ (by omega) (by omega) (by omega)
    have e0 : (3 : Int32) * iZ (l : Int) = iZ ((3 * l : Nat) : Int) := by
      rw [i_3, iZ_mul]
      rfl
    have e1 : iZ ((3 * l : Nat) : Int) + (1 : Int32) = iZ ((3 * l + 1 : Nat) : Int) := iZ_s _
    have e2 : iZ ((3 * l : Nat) : Int) + (2 : Int32) = iZ ((3 * l + 2 : Nat) : Int) := by
      rw [i_2, iZ_add]
      rfl
    refine t_X10_back_62 _ I J b ?_
    rw [hf 10 0 63 (by omega), h63, e0, e1, e2, iZ_s, iZ_ck (k := 3 * l) (by omega), iZ_ck (k := 3 * l + 1) (by omega), iZ_ck (k := 3 * l + 2) (by omega), iZ_ck (k := l) (by omega)]
    refine ifn (nle (by omega) (by omega) (by omega)) ⟨vp_iZ (by omega) (by omega) (by omega), hv, vp_iZ (by omega) (by omega) (by omega), hv, vp_iZ (by omega) (by omega) (by omega), hv, ?_⟩
    rw [hf 77 0 (3 * l) (by omega), hf 77 0 (3 * l + 1) (by omega), hf 77 0 (3 * l + 2) (by omega)]
    refine ih (l + 1) _ (by omega) (fun s j k z => by rw [updI_if, if_neg (by omega), updI_if, if_neg (by omega), updI_if, if_neg (by omega)]; exact hf s j k z) (fun k hk2 => ?_)
    by_cases h : k = l
    · subst h
      refine ⟨?_, ?_, ?_⟩
      · rw [updI_if, if_neg (by omega), updI_if, if_neg (by omega), uI_eq]
      · rw [updI_if, if_neg (by omega), uI_eq]
      · rw [uI_eq]
    · obtain ⟨a1, a2, a3⟩ := hk k (by omega)
      refine ⟨?_, ?_, ?_⟩ <;> rw [updI_if, if_neg (by omega), updI_if, if_neg (by omega), updI_if, if_neg (by omega)] <;> assumption
theorem w_bk124 : ∀ (m l : Nat) (I : IM), m + l = 4 → (∀ s j k, ¬ s = 75 → I s j k = I0 s j k) → (∀ k, k < l → I 75 0 k = I0 78 0 k) → WP D 218 124 [vr 10 0, vi (iZ (l : Int))] [] (101, I, J, R0 b) (RIf b fun x I' J' => x = I0 10 0 57 ∧ J' = J ∧ (∀ s j k, ¬ s = 75 → I' s j k = I0 s j k) ∧ (∀ k, k < 4 → I' 75 0 k = I0 78 0 k)) := by
  intro m
  induction m with
  | zero =>
    intro l I hl hf hk
    have : l = 4 := by omega
    subst this
    exact t_X10_back_124 _ I J b (ifp (by decide) (RIf.mk ⟨hf _ _ _ (by omega), rfl, hf, hk⟩))
  | succ m ih =>
    intro l I hl hf hk
    have hv : vp_in (iZ (l : Int)) 4 := vp_iZ (by omega) (by omega) (by omega)
    refine t_X10_back_124 _ I J b (ifn (by rw [show (4 : Int32) = iZ 4 from rfl]; exact nle (by omega) (by omega) (by omega)) ⟨hv, hv, ?_⟩)
    rw [iZ_s, iZ_ck (by omega)]
    refine ih (l + 1) _ (by omega) (fun s j k z => by rw [updI_if, if_neg (by omega)]; exact hf s j k z) (fun k hk2 => ?_)
    rw [updI_if]
    by_cases h : k = l
    · subst h
      rw [if_pos ⟨rfl, rfl, rfl⟩]
      exact hf _ _ _ (by omega)
    · rw [if_neg (by omega)]
      exact hk k (by omega)
theorem op_back : Op 110 218 [] := by
  intro g c I J b hc hX hM hO
  have n7 := hO.1.1
  obtain ⟨x1, x2, x3, x4⟩ : I 9 0 12 = bI (gK g).isSome ∧ WkR 0 35 I ∧ WkR 2 7 I ∧ ∀ d, gK g = some d → DeC 2 1 I d := hX.2.2.2.2.2.2.2.2
  obtain ⟨⟨y1, y2⟩, _⟩ : (I 10 0 65 = bI (gK g).isSome ∧ ∀ d, gK g = some d → KeM I d) ∧ I 10 0 44 = 0 ∧ I 10 0 45 = 0 := hM.2.2.2.2.2.2.2.2
  have hW1 : WkR 1 7 I := hX.2.2.2.2.2.2.2.1.1.1
  cases hgk : gK g with
  | none =>
    rw [hgk] at x1 y1
    refine t_X9_back (D := 899) I J b ?_
    rw [x1]
    refine ifn (fun z => z rfl) (op_same hc hX hM hO (t_X10_back (D := 899) I J b ?_))
    rw [y1]
    exact ifn (fun z => z rfl) ⟨rfl, rfl⟩
  | some d =>
    rw [hgk] at x1 y1
    have hD : DeC 2 1 I d := x4 d hgk
    have hOd : DeOK c (gN g) d := hO.2.2.2.2.2.2.2.1 d hgk
    refine t_X9_back (D := 899) I J b ?_
    rw [x1]
    refine ifp (show ¬ bI true = 0 by decide) ?_
    refine (e_copyD (D := 897) (o := 0) (o1 := 1) hD hW1 (by decide)).mono ?_
    rintro r h ⟨I1, J1, rfl, rfl, rfl, hK, hf⟩
    refine RVf.mk ?_
    rw [hK.1.2.2.2.2.1]
    have hXn : XR (gDe g d) I1 J1 b := hX.de hK (fun s j k z => hf _ _ _ (by omega))
    have hMn : MR g I1 J1 := hM.eq (fun s k z => by
      unfold mCe at z
      exact hf _ _ _ (by omega)) (fun _ => rfl)
    obtain ⟨⟨y1, y2⟩, _⟩ : (I1 10 0 65 = bI (gK g).isSome ∧ ∀ d, gK g = some d → KeM I1 d) ∧ I1 10 0 44 = 0 ∧ I1 10 0 45 = 0 := hMn.2.2.2.2.2.2.2.2
    rw [hgk] at y1
    obtain ⟨m1, m2, m3, m4, m5, m6, m7, m8, m9⟩ : KeM I1 d := y2 d hgk
    have hlen : (hl d.1).length ≤ 42 := by
      have h1 := hl_len d.1
      have h2 := hD.1.2.2.2.2.2.2.1
      omega
    refine RIf.mk (t_X10_back (D := 899) I1 J1 b ?_)
    rw [y1, m1, m2, m3]
    refine ifp (show ¬ bI true = 0 by decide) ?_
    have hu : ∀ s j k, ¬ (s = 10 ∧ (k = 57 ∨ k = 58 ∨ k = 63)) → updI (updI (updI I1 10 0 57 (iZ (d.2.1 : Int))) 10 0 58 (iZ (bs d.1 : Int))) 10 0 63 (iZ ((hl d.1).length : Int)) s j k = I1 s j k := fun s j k z => by
      rw [updI_if, if_neg (by omega), updI_if, if_neg (by omega), updI_if, if_neg (by omega)]
    have a57 : updI (updI (updI I1 10 0 57 (iZ (d.2.1 : Int))) 10 0 58 (iZ (bs d.1 : Int))) 10 0 63 (iZ ((hl d.1).length : Int)) 10 0 57 = iZ (d.2.1 : Int) := by
      rw [updI_if, if_neg (by omega), updI_if, if_neg (by omega), uI_eq]
    have a58 : updI (updI (updI I1 10 0 57 (iZ (d.2.1 : Int))) 10 0 58 (iZ (bs d.1 : Int))) 10 0 63 (iZ ((hl d.1).length : Int)) 10 0 58 = iZ (bs d.1 : Int) := by
      rw [updI_if, if_neg (by omega), uI_eq]
    have a63 : updI (updI (updI I1 10 0 57 (iZ (d.2.1 : Int))) 10 0 58 (iZ (bs d.1 : Int))) 10 0 63 (iZ ((hl d.1).length : Int)) 10 0 63 = iZ ((hl d.1).length : Int) := uI_eq
    generalize updI (updI (updI I1 10 0 57 (iZ (d.2.1 : Int))) 10 0 58 (iZ (bs d.1 : Int))) 10 0 63 (iZ ((hl d.1).length : Int)) = I3 at hu a57 a58 a63 ⊢
    refine w_bk36 (I0 := I3) (fun I4 f4 k4 => ?_) 7 0 I3 (by omega) (fun _ _ _ _ => rfl) (fun k z => by omega)
    refine w_bk62 (I0 := I4) hlen (by rw [f4 _ _ _ (by omega)]; exact a63) (fun I5 f5 k5 => ?_) (hl d.1).length 0 I4 (by omega) (fun _ _ _ _ => rfl) (fun k z => by omega)
    refine (w_bk124 (I0 := I5) 4 0 I5 (by omega) (fun _ _ _ _ => rfl) (fun k z => by omega)).mono ?_
    rintro r h ⟨x, I6, J6, rfl, rfl, rfl, rfl, f6, k6⟩
    have hs : ∀ s j k, ¬ (s = 10 ∧ (k = 57 ∨ k = 58 ∨ k = 63)) → ¬ (71 ≤ s ∧ s ≤ 75) → I6 s j k = I1 s j k := fun s j k z1 z2 => by
      rw [f6 _ _ _ (by omega), f5 _ _ _ (by omega), f4 _ _ _ (by omega), hu _ _ _ z1]
    have h0 : ∀ k, I6 10 0 k = I3 10 0 k := fun k => by rw [f6 _ _ _ (by omega), f5 _ _ _ (by omega), f4 _ _ _ (by omega)]
    refine RIf.mk ⟨?_, gDe g d, hXn.frM (fun s j k z => ?_) (fun _ _ _ => rfl), hMn.de ?_ (fun s k z _ => hs _ _ _ (by omega) (by omega)), (hO.up hc).de ((hO.up hc).2.2.2.2.2.2.2.1 d hgk)⟩
    · rw [f5 _ _ _ (by omega), f4 _ _ _ (by omega)]
      exact a57
    · have z : ¬ (s = 10 ∨ 43 ≤ s) := fun y => by
        rw [← pMa_iff (j := j) (k := k), z] at y
        cases y
      exact hs _ _ _ (by omega) (by omega)
    · refine ⟨(h0 _).trans a57, (h0 _).trans a58, (h0 _).trans a63, fun k e hk => ?_, fun e he => ?_, ?_, ?_, ?_, ?_⟩
      · have hk2 : k < (hl d.1).length := by
          rw [List.getElem?_eq_some_iff] at hk
          exact hk.1
        obtain ⟨z1, z2, z3⟩ := k5 k hk2
        obtain ⟨x1, x2, x3⟩ := m4 k e hk
        rw [f6 _ _ _ (by omega), f6 _ _ _ (by omega), f6 _ _ _ (by omega), z1, z2, z3, f4 _ _ _ (by omega), f4 _ _ _ (by omega), f4 _ _ _ (by omega), hu _ _ _ (by omega), hu _ _ _ (by omega), hu _ _ _ (by omega)]
        exact ⟨x1, x2, x3⟩
      · have hx := hOd.2.2.1 e he
        rw [f6 _ _ _ (by omega), f5 _ _ _ (by omega), k4 _ (by omega), hu _ _ _ (by omega)]
        exact m5 e he
      · rw [k6 _ (by omega), f5 _ _ _ (by omega), f4 _ _ _ (by omega), hu _ _ _ (by omega)]
        exact m6
      · rw [k6 _ (by omega), f5 _ _ _ (by omega), f4 _ _ _ (by omega), hu _ _ _ (by omega)]
        exact m7
      · rw [k6 _ (by omega), f5 _ _ _ (by omega), f4 _ _ _ (by omega), hu _ _ _ (by omega)]
        exact m8
      · rw [k6 _ (by omega), f5 _ _ _ (by omega), f4 _ _ _ (by omega), hu _ _ _ (by omega)]
        exact m9
end BACK
