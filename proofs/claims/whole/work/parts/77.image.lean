/-! CHANGES: image -/
section IMAGE
variable {D : Nat} {g : Sg} {c : Nat} {I0 : IM} {J : JM} {b : Bool} {Q : Option AV → AH → Prop}
theorem w_im31 (K : ∀ I', (∀ s j k, ¬ s = 76 → I' s j k = I0 s j k) → (∀ k, k < 7 → I' 76 0 k = I0 71 0 k) → WP D 217 57 [vr 10 0, vi 0] [] (101, I', J, R0 b) Q) : ∀ (m l : Nat) (I : IM), m + l = 7 → (∀ s j k, ¬ s = 76 → I s j k = I0 s j k) → (∀ k, k < l → I 76 0 k = I0 71 0 k) → WP D 217 31 [vr 10 0, vi (iZ (l : Int))] [] (101, I, J, R0 b) Q := by
  intro m
  induction m with
  | zero =>
    intro l I hl hf hk
    have : l = 7 := by omega
    subst this
    exact t_X10_image_31 _ I J b (ifp (by decide) (K I hf hk))
  | succ m ih =>
    intro l I hl hf hk
    have hv : vp_in (iZ (l : Int)) 7 := vp_iZ (by omega) (by omega) (by omega)
    refine t_X10_image_31 _ I J b (ifn (by rw [show (7 : Int32) = iZ 7 from rfl]; exact nle (by omega) (by omega) (by omega)) ⟨hv, hv, ?_⟩)
    rw [iZ_s, iZ_ck (by omega)]
    refine ih (l + 1) _ (by omega) (fun s j k z => by rw [updI_if, if_neg (by omega)]; exact hf s j k z) (fun k hk2 => ?_)
    rw [updI_if]
    by_cases h : k = l
    · subst h
      rw [if_pos ⟨rfl, rfl, rfl⟩]
      exact hf _ _ _ (by omega)
    · rw [if_neg (by omega)]
      exact hk k (by omega)
theorem w_im57 {N : Nat} (hN : N ≤ 42) (h63 : I0 10 0 63 = iZ (N : Int)) (K : ∀ I', (∀ s j k, ¬ s = 77 → I' s j k = I0 s j k) → (∀ k, k < N → I' 77 0 (3 * k) = I0 72 0 k ∧ I' 77 0 (3 * k + 1) = I0 73 0 k ∧ I' 77 0 (3 * k + 2) = I0 74 0 k) → WP D 217 119 [vr 10 0, vi 0] [] (101, I', J, R0 b) Q) : ∀ (m l : Nat) (I : IM), m + l = N → (∀ s j k, ¬ s = 77 → I s j k = I0 s j k) → (∀ k, k < l → I 77 0 (3 * k) = I0 72 0 k ∧ I 77 0 (3 * k + 1) = I0 73 0 k ∧ I 77 0 (3 * k + 2) = I0 74 0 k) → WP D 217 57 [vr 10 0, vi (iZ (l : Int))] [] (101, I, J, R0 b) Q := by
  intro m
  induction m with
  | zero =>
    intro l I hl hf hk
    have : l = N := by omega
    subst this
    refine t_X10_image_57 _ I J b ?_
    rw [hf 10 0 63 (by omega), h63]
    exact ifp (tle (by omega) (by omega) (by omega)) (K I hf hk)
  | succ m ih =>
    intro l I hl hf hk
    have hv : vp_in (iZ (l : Int)) 42 := vp_iZ (by omega) (by omega) (by omega)
    have e0 : (3 : Int32) * iZ (l : Int) = iZ ((3 * l : Nat) : Int) := by
      rw [i_3, iZ_mul]
      rfl
    have e1 : iZ ((3 * l : Nat) : Int) + (1 : Int32) = iZ ((3 * l + 1 : Nat) : Int) := iZ_s _
    have e2 : iZ ((3 * l : Nat) : Int) + (2 : Int32) = iZ ((3 * l + 2 : Nat) : Int) := by
      rw [i_2, iZ_add]
      rfl
    refine t_X10_image_57 _ I J b ?_
    rw [hf 10 0 63 (by omega), h63, e0, e1, e2, iZ_s, iZ_ck (k := 3 * l) (by omega), iZ_ck (k := 3 * l + 1) (by omega), iZ_ck (k := 3 * l + 2) (by omega), iZ_ck (k := l) (by omega)]
    refine ifn (nle (by omega) (by omega) (by omega)) ⟨hv, vp_iZ (by omega) (by omega) (by omega), hv, vp_iZ (by omega) (by omega) (by omega), hv, vp_iZ (by omega) (by omega) (by omega), ?_⟩
    rw [hf 72 0 l (by omega), hf 73 0 l (by omega), hf 74 0 l (by omega)]
    refine ih (l + 1) _ (by omega) (fun s j k z => by rw [updI_if, if_neg (by omega), updI_if, if_neg (by omega), updI_if, if_neg (by omega)]; exact hf s j k z) (fun k hk2 => ?_)
    by_cases h : k = l
    · subst h
      refine ⟨?_, ?_, ?_⟩
      · rw [updI_if, if_neg (by omega), updI_if, if_neg (by omega), uI_eq]
      · rw [updI_if, if_neg (by omega), uI_eq]
      · rw [uI_eq]
    · obtain ⟨a1, a2, a3⟩ := hk k (by omega)
      refine ⟨?_, ?_, ?_⟩ <;> rw [updI_if, if_neg (by omega), updI_if, if_neg (by omega), updI_if, if_neg (by omega)] <;> assumption
theorem w_im119 : ∀ (m l : Nat) (I : IM), m + l = 4 → (∀ s j k, ¬ s = 78 → I s j k = I0 s j k) → (∀ k, k < l → I 78 0 k = I0 75 0 k) → WP D 217 119 [vr 10 0, vi (iZ (l : Int))] [] (101, I, J, R0 b) (RIf b fun x I' J' => x = I0 10 0 57 ∧ J' = J ∧ (∀ s j k, ¬ s = 78 → I' s j k = I0 s j k) ∧ (∀ k, k < 4 → I' 78 0 k = I0 75 0 k)) := by
  intro m
  induction m with
  | zero =>
    intro l I hl hf hk
    have : l = 4 := by omega
    subst this
    exact t_X10_image_119 _ I J b (ifp (by decide) (RIf.mk ⟨hf _ _ _ (by omega), rfl, hf, hk⟩))
  | succ m ih =>
    intro l I hl hf hk
    have hv : vp_in (iZ (l : Int)) 4 := vp_iZ (by omega) (by omega) (by omega)
    refine t_X10_image_119 _ I J b (ifn (by rw [show (4 : Int32) = iZ 4 from rfl]; exact nle (by omega) (by omega) (by omega)) ⟨hv, hv, ?_⟩)
    rw [iZ_s, iZ_ck (by omega)]
    refine ih (l + 1) _ (by omega) (fun s j k z => by rw [updI_if, if_neg (by omega)]; exact hf s j k z) (fun k hk2 => ?_)
    rw [updI_if]
    by_cases h : k = l
    · subst h
      rw [if_pos ⟨rfl, rfl, rfl⟩]
      exact hf _ _ _ (by omega)
    · rw [if_neg (by omega)]
      exact hk k (by omega)
theorem op_image : Op 109 217 [] := by
  intro g c I J b hc hX hM hO
  have hD : DeC 1 0 I (gD g) := hX.2.2.2.2.2.2.2.1
  have hOd : DeOK c (gN g) (gD g) := hO.2.2.2.2.2.2.1
  have n7 := hO.1.1
  refine t_X9_image (D := 899) I J b ?_
  refine (e_copyD (D := 897) (o := 1) (o1 := 0) hD hX.2.2.2.2.2.2.2.2.2.2.1 (by decide)).mono ?_
  rintro r h ⟨I1, J1, rfl, rfl, rfl, hK, hf⟩
  refine RVf.mk ?_
  rw [hf 8 1 12 (by omega), hD.1.2.2.2.2.1]
  have hXn : XR (gKe g (some (gD g))) (updI I1 9 0 12 1) J1 b := hX.ke uI_eq (fun d hd => by
    cases hd
    exact hK.eq (fun s k z => by rw [updI_if, if_neg (by omega)]) (fun k => by rw [updI_if, if_neg (by omega)])) (fun s j k z => by rw [updI_if, if_neg (by omega)]; exact hf _ _ _ (by omega))
  have hMn : MR g (updI I1 9 0 12 1) J1 := hM.eq (fun s k z => by
    unfold mCe at z
    rw [updI_if, if_neg (by omega)]
    exact hf _ _ _ (by omega)) (fun _ => rfl)
  generalize updI I1 9 0 12 1 = I2 at hXn hMn ⊢
  obtain ⟨m1, m2, m3, m4, m5, m6, m7, m8, m9⟩ : DeM I2 (gD g) := hMn.2.2.2.2.2.2.2.1
  have hlen : (hl (gD g).1).length ≤ 42 := by
    have h1 := hl_len (gD g).1
    have h2 := hD.1.2.2.2.2.2.2.1
    omega
  refine RIf.mk (t_X10_image (D := 899) I2 J1 b ?_)
  rw [m1, m2, m3]
  have hu : ∀ s j k, ¬ (s = 10 ∧ 65 ≤ k ∧ k ≤ 68) → updI (updI (updI (updI I2 10 0 65 1) 10 0 66 (iZ ((gD g).2.1 : Int))) 10 0 67 (iZ (bs (gD g).1 : Int))) 10 0 68 (iZ ((hl (gD g).1).length : Int)) s j k = I2 s j k := fun s j k z => by
    rw [updI_if, if_neg (by omega), updI_if, if_neg (by omega), updI_if, if_neg (by omega), updI_if, if_neg (by omega)]
  have a65 : updI (updI (updI (updI I2 10 0 65 1) 10 0 66 (iZ ((gD g).2.1 : Int))) 10 0 67 (iZ (bs (gD g).1 : Int))) 10 0 68 (iZ ((hl (gD g).1).length : Int)) 10 0 65 = 1 := by
    rw [updI_if, if_neg (by omega), updI_if, if_neg (by omega), updI_if, if_neg (by omega), uI_eq]
  have a66 : updI (updI (updI (updI I2 10 0 65 1) 10 0 66 (iZ ((gD g).2.1 : Int))) 10 0 67 (iZ (bs (gD g).1 : Int))) 10 0 68 (iZ ((hl (gD g).1).length : Int)) 10 0 66 = iZ ((gD g).2.1 : Int) := by
    rw [updI_if, if_neg (by omega), updI_if, if_neg (by omega), uI_eq]
  have a67 : updI (updI (updI (updI I2 10 0 65 1) 10 0 66 (iZ ((gD g).2.1 : Int))) 10 0 67 (iZ (bs (gD g).1 : Int))) 10 0 68 (iZ ((hl (gD g).1).length : Int)) 10 0 67 = iZ (bs (gD g).1 : Int) := by
    rw [updI_if, if_neg (by omega), uI_eq]
  have a68 : updI (updI (updI (updI I2 10 0 65 1) 10 0 66 (iZ ((gD g).2.1 : Int))) 10 0 67 (iZ (bs (gD g).1 : Int))) 10 0 68 (iZ ((hl (gD g).1).length : Int)) 10 0 68 = iZ ((hl (gD g).1).length : Int) := uI_eq
  generalize updI (updI (updI (updI I2 10 0 65 1) 10 0 66 (iZ ((gD g).2.1 : Int))) 10 0 67 (iZ (bs (gD g).1 : Int))) 10 0 68 (iZ ((hl (gD g).1).length : Int)) = I3 at hu a65 a66 a67 a68 ⊢
  refine w_im31 (I0 := I3) (fun I4 f4 k4 => ?_) 7 0 I3 (by omega) (fun _ _ _ _ => rfl) (fun k z => by omega)
  refine w_im57 (I0 := I4) hlen (by rw [f4 _ _ _ (by omega), hu _ _ _ (by omega)]; exact m3) (fun I5 f5 k5 => ?_) (hl (gD g).1).length 0 I4 (by omega) (fun _ _ _ _ => rfl) (fun k z => by omega)
  refine (w_im119 (I0 := I5) 4 0 I5 (by omega) (fun _ _ _ _ => rfl) (fun k z => by omega)).mono ?_
  rintro r h ⟨x, I6, J6, rfl, rfl, rfl, rfl, f6, k6⟩
  have hs : ∀ s j k, ¬ (s = 10 ∧ 65 ≤ k ∧ k ≤ 68) → ¬ (76 ≤ s ∧ s ≤ 78) → I6 s j k = I2 s j k := fun s j k z1 z2 => by
    rw [f6 _ _ _ (by omega), f5 _ _ _ (by omega), f4 _ _ _ (by omega), hu _ _ _ z1]
  have h0 : ∀ k, I6 10 0 k = I3 10 0 k := fun k => by rw [f6 _ _ _ (by omega), f5 _ _ _ (by omega), f4 _ _ _ (by omega)]
  refine RIf.mk ⟨?_, gKe g (some (gD g)), hXn.frM (fun s j k z => ?_) (fun _ _ _ => rfl), hMn.ke ?_ (fun d hd => ?_) (fun s k z _ => hs _ _ _ (by omega) (by omega)), (hO.up hc).ke (fun d hd => ?_)⟩
  · rw [f5 _ _ _ (by omega), f4 _ _ _ (by omega), hu _ _ _ (by omega)]
    exact m1
  · have z : ¬ (s = 10 ∨ 43 ≤ s) := fun y => by
      rw [← pMa_iff (j := j) (k := k), z] at y
      cases y
    exact hs _ _ _ (by omega) (by omega)
  · rw [h0, a65]
    rfl
  · cases hd
    refine ⟨(h0 _).trans a66, (h0 _).trans a67, (h0 _).trans a68, fun k e hk => ?_, fun e he => ?_, ?_, ?_, ?_, ?_⟩
    · have hk2 : k < (hl (gD g).1).length := by
        rw [List.getElem?_eq_some_iff] at hk
        exact hk.1
      obtain ⟨y1, y2, y3⟩ := k5 k hk2
      obtain ⟨x1, x2, x3⟩ := m4 k e hk
      rw [f6 _ _ _ (by omega), f6 _ _ _ (by omega), f6 _ _ _ (by omega), y1, y2, y3, f4 _ _ _ (by omega), f4 _ _ _ (by omega), f4 _ _ _ (by omega), hu _ _ _ (by omega), hu _ _ _ (by omega), hu _ _ _ (by omega)]
      exact ⟨x1, x2, x3⟩
    · have hx := hOd.2.2.1 e he
      rw [f6 _ _ _ (by omega), f5 _ _ _ (by omega), k4 _ (by omega), hu _ _ _ (by omega)]
      exact m5 e he
    · rw [k6 _ (by omega), f5 _ _ _ (by omega), f4 _ _ _ (by omega), hu _ _ _ (by omega)]
      exact m6
    · rw [k6 _ (by omega), f5 _ _ _ (by omega), f4 _ _ _ (by omega), hu _ _ _ (by omega)]
      exact m7
    · rw [k6 _ (by omega), f5 _ _ _ (by omega), f4 _ _ _ (by omega), hu _ _ _ (by omega)]
      exact m8
    · rw [k6 _ (by omega), f5 _ _ _ (by omega), f4 _ _ _ (by omega), hu _ _ _ (by omega)]
      exact m9
  · cases hd
    exact (hO.up hc).2.2.2.2.2.2.1
end IMAGE
