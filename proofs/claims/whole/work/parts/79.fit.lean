/-! CHANGES: fit, the model's loops -/
section FIT
variable {D : Nat} {g : Sg} {c : Nat} {I0 : IM} {J : JM} {b : Bool} {Q : Option AV → AH → Prop}
theorem w_ft35 {N : Nat} {x : Int32} (hN : N ≤ 42) (h63 : I0 10 0 63 = iZ (N : Int)) (K : ∀ I', (∀ s j k, ¬ (61 ≤ s ∧ s ≤ 63) → I' s j k = I0 s j k) → (∀ k, k < N → I' 61 0 k = I0 72 0 k ∧ I' 62 0 k = I0 73 0 k ∧ I' 63 0 k = I0 74 0 k) → WP D 212 87 [vr 10 0, vi x, vi 0] [] (101, I', J, R0 b) Q) : ∀ (m l : Nat) (I : IM), m + l = N → (∀ s j k, ¬ (61 ≤ s ∧ s ≤ 63) → I s j k = I0 s j k) → (∀ k, k < l → I 61 0 k = I0 72 0 k ∧ I 62 0 k = I0 73 0 k ∧ I 63 0 k = I0 74 0 k) → WP D 212 35 [vr 10 0, vi x, vi (iZ (l : Int))] [] (101, I, J, R0 b) Q := by
  intro m
  induction m with
  | zero =>
    intro l I hl hf hk
    have : l = N := by omega
    subst this
    refine t_X10_fit_35 _ _ I J b ?_
    rw [hf 10 0 63 (by omega), h63]
    exact ifp (tle (by omega) (by omega) (by omega)) (K I hf hk)
  | succ m ih =>
    intro l I hl hf hk
    have hv : vp_in (iZ (l : Int)) 42 := vp_iZ (by omega) (by omega) (by omega)
    refine t_X10_fit_35 _ _ I J b ?_
    rw [hf 10 0 63 (by omega), h63, iZ_s, iZ_ck (by omega)]
    refine ifn (nle (by omega) (by omega) (by omega)) ⟨hv, hv, hv, hv, hv, hv, ?_⟩
    rw [hf 72 0 l (by omega), hf 73 0 l (by omega), hf 74 0 l (by omega)]
    refine ih (l + 1) _ (by omega) (fun s j k z => by rw [updI_if, if_neg (by omega), updI_if, if_neg (by omega), updI_if, if_neg (by omega)]; exact hf s j k z) (fun k hk2 => ?_)
    by_cases h : k = l
    · subst h
      refine ⟨?_, ?_, ?_⟩
      · rw [updI_if, if_neg (by omega), updI_if, if_neg (by omega), uI_eq]
      · rw [updI_if, if_neg (by omega), uI_eq]
      · rw [uI_eq]
    · obtain ⟨a1, a2, a3⟩ := hk k (by omega)
      refine ⟨?_, ?_, ?_⟩ <;> rw [updI_if, if_neg (by omega), updI_if, if_neg (by omega), updI_if, if_neg (by omega)] <;> assumption
theorem w_ft160 {N : Nat} {x : Int32} (hN : N ≤ 42) (h36 : I0 10 0 36 = iZ (N : Int)) (K : ∀ I, (∀ s j k, ¬ (72 ≤ s ∧ s ≤ 74) → I s j k = I0 s j k) → (∀ k, k < N → I 72 0 k = I0 61 0 k ∧ I 73 0 k = I0 62 0 k ∧ I 74 0 k = I0 63 0 k) → (vp_in x 7 ∧ (vp_in x 7 ∧ Q (some (vi (I 10 0 37))) (101, (updI (updI (updI (updI I 71 0 x.toNatClampNeg (I 66 0 x.toNatClampNeg)) 10 0 58 (I 10 0 38)) 10 0 57 (I 10 0 37)) 75 0 0 ((I 75 0 0) + (1 : Int32))), J, R0 b)))) : ∀ (m l : Nat) (I : IM), m + l = N → (∀ s j k, ¬ (72 ≤ s ∧ s ≤ 74) → I s j k = I0 s j k) → (∀ k, k < l → I 72 0 k = I0 61 0 k ∧ I 73 0 k = I0 62 0 k ∧ I 74 0 k = I0 63 0 k) → WP D 212 160 [vr 10 0, vi x, vi (iZ (l : Int))] [] (101, I, J, R0 b) Q := by
  intro m
  induction m with
  | zero =>
    intro l I hl hf hk
    have : l = N := by omega
    subst this
    refine t_X10_fit_160 _ _ I J b ?_
    rw [hf 10 0 36 (by omega), h36]
    exact ifp (tle (by omega) (by omega) (by omega)) (K I hf hk)
  | succ m ih =>
    intro l I hl hf hk
    have hv : vp_in (iZ (l : Int)) 42 := vp_iZ (by omega) (by omega) (by omega)
    refine t_X10_fit_160 _ _ I J b ?_
    rw [hf 10 0 36 (by omega), h36, iZ_s, iZ_ck (k := l) (by omega)]
    refine ifn (nle (by omega) (by omega) (by omega)) ⟨hv, hv, hv, hv, hv, hv, ?_⟩
    rw [hf 61 0 l (by omega), hf 62 0 l (by omega), hf 63 0 l (by omega)]
    refine ih (l + 1) _ (by omega) (fun s j k z => by rw [updI_if, if_neg (by omega), updI_if, if_neg (by omega), updI_if, if_neg (by omega)]; exact hf s j k z) (fun k hk2 => ?_)
    by_cases h : k = l
    · subst h
      refine ⟨?_, ?_, ?_⟩
      · rw [updI_if, if_neg (by omega), updI_if, if_neg (by omega), uI_eq]
      · rw [updI_if, if_neg (by omega), uI_eq]
      · rw [uI_eq]
    · obtain ⟨a1, a2, a3⟩ := hk k (by omega)
      refine ⟨?_, ?_, ?_⟩ <;> rw [updI_if, if_neg (by omega), updI_if, if_neg (by omega), updI_if, if_neg (by omega)] <;> assumption
theorem w_ft87 {N : Nat} {x : Int32} (hN : N ≤ 7) (h1 : I0 10 0 1 = iZ (N : Int)) (K : ∀ I, (∀ s j k, ¬ s = 66 → I s j k = I0 s j k) → (∀ k, k < N → I 66 0 k = I0 71 0 k) → (Call D 179 [vr 10 0, vi x] (101, (updI (updI I 10 0 38 (I 10 0 58)) 10 0 37 (I 10 0 57)), J, R0 b) (RIf b fun x4 I5 J6 => (if ¬ x4 = 0 then WP D 212 160 [vr 10 0, vi x, vi 0] [] (101, (updI I5 10 0 63 (I5 10 0 36)), J6, R0 b) Q else Q (some (vi (-2))) (101, (updI I5 75 0 1 ((I5 75 0 1) + (1 : Int32))), J6, R0 b))))) : ∀ (m l : Nat) (I : IM), m + l = N → (∀ s j k, ¬ s = 66 → I s j k = I0 s j k) → (∀ k, k < l → I 66 0 k = I0 71 0 k) → WP D 212 87 [vr 10 0, vi x, vi (iZ (l : Int))] [] (101, I, J, R0 b) Q := by
  intro m
  induction m with
  | zero =>
    intro l I hl hf hk
    have : l = N := by omega
    subst this
    refine t_X10_fit_87 _ _ I J b ?_
    rw [hf 10 0 1 (by omega), h1]
    exact ifp (tle (by omega) (by omega) (by omega)) (K I hf hk)
  | succ m ih =>
    intro l I hl hf hk
    have hv : vp_in (iZ (l : Int)) 7 := vp_iZ (by omega) (by omega) (by omega)
    refine t_X10_fit_87 _ _ I J b ?_
    rw [hf 10 0 1 (by omega), h1]
    refine ifn (nle (by omega) (by omega) (by omega)) ⟨hv, hv, ?_⟩
    rw [iZ_s, iZ_ck (by omega)]
    refine ih (l + 1) _ (by omega) (fun s j k z => by rw [updI_if, if_neg (by omega)]; exact hf s j k z) (fun k hk2 => ?_)
    rw [updI_if]
    by_cases h : k = l
    · subst h
      rw [if_pos ⟨rfl, rfl, rfl⟩]
      exact hf _ _ _ (by omega)
    · rw [if_neg (by omega)]
      exact hk k (by omega)
/-- the desk behind a try to fit -/
def deN (d : De) : De := (d.1, d.2.1, d.2.2.1, d.2.2.2.1 + 1, d.2.2.2.2.1, d.2.2.2.2.2)
def deE (d : De) (e : En) : De := (d.1 ++ [e], xf e, d.2.2.1 + 1, d.2.2.2.1, d.2.2.2.2.1, d.2.2.2.2.2)
theorem pTm_iff {s j k : Nat} : pTm s j k = true ↔ (59 ≤ s ∧ s ≤ 67) ∨ (s = 10 ∧ ((36 ≤ k ∧ k ≤ 38) ∨ k = 43 ∨ k = 46)) := by
  unfold pTm
  simp only [Bool.or_eq_true, Bool.and_eq_true, nb_iff, Nat.ble_eq]
theorem deed_ch {j : Nat} (hOd : DeOK c (gN g) (gD g)) (hj : j < gN g) (n7 : gN g ≤ 7) (ht : tb (bs (gD g).1) j = false) : ChOK (parS g) (gD g).1 0 [j] := by
  obtain ⟨o1, o2, o3, _⟩ := hOd
  have h7 : ∀ e ∈ (gD g).1, xj e < 7 := fun e he => by have := o3 e he; omega
  rw [tb_bit (bs_lt h7) (by omega), bs_bit, List.any_eq_false] at ht
  refine ⟨Nat.zero_le _, o3, fun i hi => ?_, ?_⟩
  · rw [List.mem_singleton] at hi
    rw [hi]
    exact hj
  · rw [List.drop_zero, List.nodup_append]
    refine ⟨o2, by simp, fun a ha i hi => ?_⟩
    rw [List.mem_singleton] at hi
    rw [List.mem_map] at ha
    obtain ⟨e, he, rfl⟩ := ha
    have := ht e he
    rw [hi]
    simpa using this
theorem m_fit {j : Nat} {I : IM} (hM : MR g I J) (hO : SOK g c) (hj : j < gN g) (ht : tb (bs (gD g).1) j = false) : Call 900 212 [vr 10 0, vi (iZ (j : Int))] (101, I, J, R0 b) (RIf b fun x I' J' => J' = J ∧ Fr pMa I I' ∧ match joi (parS g) (gD g).1 0 (gD g).2.1 j with
    | none => x = -2 ∧ MR (gDe g (deN (gD g))) I' J
    | some e => x = iZ (xf e : Int) ∧ MR (gDe g (deE (gD g) e)) I' J) := by
  have n7 := hO.1.1
  have hc9 : c ≤ 512 := hO.2.2.2.2.2.2.2.2
  have hOd : DeOK c (gN g) (gD g) := hO.2.2.2.2.2.2.1
  have hC := deed_ch hOd hj n7 ht
  obtain ⟨o1, o2, o3, o4, o5, o6, o7, o8⟩ := hOd
  have hG : Gd (parS g) (gD g).1 (gD g).2.1 := o1
  obtain ⟨m1, m2, m3, m4, m5, m6, m7, m8, m9⟩ : DeM I (gD g) := hM.2.2.2.2.2.2.2.1
  have hlen : (gD g).1.length + 1 ≤ gN g := by
    have := hC.len (parS_ok hO)
    simp at this
    exact this
  have hhl := hl_len (gD g).1
  refine t_X10_fit (D := 899) _ I J b ((p_M_isJoint (D := 897) hM.bn.1 n7).use ?_)
  rw [iZ_toInt (by omega) (by omega), decide_eq_true (by omega), m2, m3]
  refine ifp (by decide) (ifp (of_decide_eq_false ht) ?_)
  have u1 : ∀ s i k, ¬ (s = 10 ∧ k = 36) → updI I 10 0 36 (iZ ((hl (gD g).1).length : Int)) s i k = I s i k := fun s i k z => by rw [updI_if, if_neg (by omega)]
  have a36 : updI I 10 0 36 (iZ ((hl (gD g).1).length : Int)) 10 0 36 = iZ ((hl (gD g).1).length : Int) := uI_eq
  generalize updI I 10 0 36 (iZ ((hl (gD g).1).length : Int)) = I1 at u1 a36 ⊢
  refine w_ft35 (I0 := I1) (N := (hl (gD g).1).length) (by omega) (by rw [u1 _ _ _ (by omega)]; exact m3) (fun I2 f2 k2 => ?_) (hl (gD g).1).length 0 I1 (by omega) (fun _ _ _ _ => rfl) (fun k z => by omega)
  refine w_ft87 (I0 := I2) (N := gN g) n7 (by rw [f2 _ _ _ (by omega), u1 _ _ _ (by omega)]; exact hM.bn.1) (fun I3 f3 k3 => ?_) (gN g) 0 I2 (by omega) (fun _ _ _ _ => rfl) (fun k z => by omega)
  have g3 : ∀ s i k, ¬ (s = 10 ∧ k = 36) → ¬ (61 ≤ s ∧ s ≤ 63) → ¬ s = 66 → I3 s i k = I s i k := fun s i k z1 z2 z3 => by
    rw [f3 _ _ _ z3, f2 _ _ _ z2, u1 _ _ _ z1]
  rw [g3 10 0 58 (by omega) (by omega) (by omega), g3 10 0 57 (by omega) (by omega) (by omega), m1, m2]
  have b36 : I3 10 0 36 = iZ ((hl (gD g).1).length : Int) := by rw [f3 _ _ _ (by omega), f2 _ _ _ (by omega)]; exact a36
  have u4 : ∀ s i k, ¬ (s = 10 ∧ (k = 37 ∨ k = 38)) → updI (updI I3 10 0 38 (iZ (bs (gD g).1 : Int))) 10 0 37 (iZ ((gD g).2.1 : Int)) s i k = I3 s i k := fun s i k z => by rw [updI_if, if_neg (by omega), updI_if, if_neg (by omega)]
  have a37 : updI (updI I3 10 0 38 (iZ (bs (gD g).1 : Int))) 10 0 37 (iZ ((gD g).2.1 : Int)) 10 0 37 = iZ ((gD g).2.1 : Int) := uI_eq
  have a38 : updI (updI I3 10 0 38 (iZ (bs (gD g).1 : Int))) 10 0 37 (iZ ((gD g).2.1 : Int)) 10 0 38 = iZ (bs (gD g).1 : Int) := by rw [updI_if, if_neg (by omega), uI_eq]
  generalize updI (updI I3 10 0 38 (iZ (bs (gD g).1 : Int))) 10 0 37 (iZ ((gD g).2.1 : Int)) = I4 at u4 a37 a38 ⊢
  have g4 : ∀ s i k, ¬ (s = 10 ∧ 36 ≤ k ∧ k ≤ 38) → ¬ (61 ≤ s ∧ s ≤ 63) → ¬ s = 66 → I4 s i k = I s i k := fun s i k z1 z2 z3 => by
    rw [u4 _ _ _ (by omega), g3 _ _ _ (by omega) z2 z3]
  have hF4 : Fr pTh I I4 := fun s i k z => by
    have z : ¬ ((59 ≤ s ∧ s ≤ 70) ∨ (s = 10 ∧ ((36 ≤ k ∧ k ≤ 38) ∨ k = 43 ∨ k = 46 ∨ (48 ≤ k ∧ k ≤ 56)))) := fun y => by
      rw [← pTh_iff (j := i), z] at y
      cases y
    exact g4 _ _ _ (by omega) (by omega) (by omega)
  have hM4 := hM.fr hF4
  have hHo : HoAt I4 (gD g).1 0 (gD g).2.1 := by
    refine ⟨⟨(u4 _ _ _ (by omega)).trans b36, fun k e hk => ?_⟩, a37, by rw [List.drop_zero]; exact a38, fun e he => ?_⟩
    · have hk2 : k < (hl (gD g).1).length := by
        rw [List.getElem?_eq_some_iff] at hk
        exact hk.1
      obtain ⟨y1, y2, y3⟩ := k2 k hk2
      obtain ⟨x1, x2, x3⟩ := m4 k e hk
      rw [u4 _ _ _ (by omega), u4 _ _ _ (by omega), u4 _ _ _ (by omega), f3 _ _ _ (by omega), f3 _ _ _ (by omega), f3 _ _ _ (by omega), y1, y2, y3, u1 _ _ _ (by omega), u1 _ _ _ (by omega), u1 _ _ _ (by omega), x1, x2, x3]
      exact ⟨⟨xs e, rfl, Or.inl rfl⟩, rfl, rfl⟩
    · rw [List.drop_zero] at he
      have hx := o3 e he
      rw [u4 _ _ _ (by omega), k3 _ hx, f2 _ _ _ (by omega), u1 _ _ _ (by omega), m5 e he]
      exact ⟨xs e, rfl, Or.inl rfl⟩
  refine (e_goesIn (D := 894) (dr := false) (hM4.mb hO) (parS_ok hO) (hM4.st hO) hj (by show (gD g).1.length - 0 < gN g; omega) (hC.pc (parS_ok hO)) hC.2.1 hG (by omega) (by omega) (Nat.zero_le _) hHo hC.new hM4.drawn).useI ?_
  rintro x I5 J5 ⟨rfl, hF5, _, h⟩
  have g5 : ∀ s i k, ¬ (59 ≤ s ∧ s ≤ 67) → ¬ (s = 10 ∧ ((36 ≤ k ∧ k ≤ 38) ∨ k = 43 ∨ k = 46)) → I5 s i k = I s i k := fun s i k z1 z2 => by
    rw [hF5 s i k (bf_of pTm_iff (by omega)), g4 _ _ _ (by omega) (by omega) (by omega)]
  have hFa : ∀ I9, (∀ s i k, ¬ (59 ≤ s ∧ s ≤ 67) → ¬ (s = 10) → ¬ (71 ≤ s ∧ s ≤ 75) → I9 s i k = I s i k) → Fr pMa I I9 := fun I9 h9 s i k z => by
    have z : ¬ (s = 10 ∨ 43 ≤ s) := fun y => by
      rw [← pMa_iff (j := i) (k := k), z] at y
      cases y
    exact h9 _ _ _ (by omega) (by omega) (by omega)
  have hjf : joD (parS g) (gD g).1 0 (gD g).2.1 j (zQ false (I4 10 0 46) (I4 10 0 12)) = joi (parS g) (gD g).1 0 (gD g).2.1 j := rfl
  rw [hjf] at h
  cases hjo : joi (parS g) (gD g).1 0 (gD g).2.1 j with
  | none =>
    rw [hjo] at h
    obtain ⟨rfl, _⟩ := h
    refine ifn (fun z => z rfl) (RIf.mk ⟨rfl, hFa _ (fun s i k z1 z2 z3 => by rw [updI_if, if_neg (by omega)]; exact g5 _ _ _ z1 (by omega)), rfl, hM.de ?_ (fun s k z y => by unfold mCe at y; rw [updI_if, if_neg (by omega)]; exact g5 _ _ _ (by omega) (by omega))⟩)
    have v : ∀ s i k, ¬ (s = 75 ∧ k = 1) → updI I5 75 0 1 (I5 75 0 1 + (1 : Int32)) s i k = I5 s i k := fun s i k z => by rw [updI_if, if_neg (by omega)]
    refine ⟨?_, ?_, ?_, fun k e hk => ?_, fun e he => ?_, ?_, ?_, ?_, ?_⟩
    · rw [v _ _ _ (by omega), g5 _ _ _ (by omega) (by omega)]; exact m1
    · rw [v _ _ _ (by omega), g5 _ _ _ (by omega) (by omega)]; exact m2
    · rw [v _ _ _ (by omega), g5 _ _ _ (by omega) (by omega)]; exact m3
    · rw [v _ _ _ (by omega), v _ _ _ (by omega), v _ _ _ (by omega), g5 _ _ _ (by omega) (by omega), g5 _ _ _ (by omega) (by omega), g5 _ _ _ (by omega) (by omega)]
      exact m4 k e hk
    · rw [v _ _ _ (by omega), g5 _ _ _ (by omega) (by omega)]; exact m5 e he
    · rw [v _ _ _ (by omega), g5 _ _ _ (by omega) (by omega)]; exact m6
    · rw [uI_eq, g5 _ _ _ (by omega) (by omega), m7, iZ_s]
      rfl
    · rw [v _ _ _ (by omega), g5 _ _ _ (by omega) (by omega)]; exact m8
    · rw [v _ _ _ (by omega), g5 _ _ _ (by omega) (by omega)]; exact m9
  | some e =>
    rw [hjo] at h
    obtain ⟨rfl, hH5, _⟩ := h
    obtain ⟨a1, a2, a3, a4⟩ := joi_some (parS_ok hO) hG hj (by show (gD g).1.length - 0 < gN g; omega) (by omega) hjo
    obtain ⟨⟨p36, p3⟩, p37, p38, p66⟩ := hH5
    rw [List.drop_zero] at p38 p66
    have hh2 := hl_len ((gD g).1 ++ [e])
    simp only [List.length_append, List.length_singleton] at hh2
    have hbd : ∀ y ∈ (gD g).1 ++ [e], ∀ t : Int32, tOK t y → t = iZ (xs y : Int) := fun y hy t hty => hty.ex (P := parS g) rfl (a4.1 y hy) a4.2
    refine ifp (by decide) ?_
    rw [p36]
    have v5 : ∀ s i k, ¬ (s = 10 ∧ k = 63) → updI I5 10 0 63 (iZ ((hl ((gD g).1 ++ [e])).length : Int)) s i k = I5 s i k := fun s i k z => by rw [updI_if, if_neg (by omega)]
    have v63 : updI I5 10 0 63 (iZ ((hl ((gD g).1 ++ [e])).length : Int)) 10 0 63 = iZ ((hl ((gD g).1 ++ [e])).length : Int) := uI_eq
    generalize updI I5 10 0 63 (iZ ((hl ((gD g).1 ++ [e])).length : Int)) = I6 at v5 v63 ⊢
    refine w_ft160 (I0 := I6) (N := (hl ((gD g).1 ++ [e])).length) (by omega) (by rw [v5 _ _ _ (by omega)]; exact p36) (fun I7 f7 k7 => ?_) (hl ((gD g).1 ++ [e])).length 0 I6 (by omega) (fun _ _ _ _ => rfl) (fun k z => by omega)
    have hv : vp_in (iZ (j : Int)) 7 := vp_iZ (by omega) (by omega) (by omega)
    refine ⟨hv, hv, ?_⟩
    have g7 : ∀ s i k, ¬ (72 ≤ s ∧ s ≤ 74) → ¬ (s = 10 ∧ k = 63) → I7 s i k = I5 s i k := fun s i k z1 z2 => by rw [f7 _ _ _ z1, v5 _ _ _ z2]
    rw [iZ_ck (by omega), g7 10 0 37 (by omega) (by omega), g7 10 0 38 (by omega) (by omega), g7 66 0 j (by omega) (by omega), g7 75 0 0 (by omega) (by omega), p37, p38, g5 75 0 0 (by omega) (by omega), m6, iZ_s]
    have h66 : I5 66 0 j = iZ (xs e : Int) := by
      have := p66 e (by simp)
      rw [a1] at this
      exact hbd e (by simp) _ this
    rw [h66]
    have v8 : ∀ s i k, ¬ (s = 71 ∧ i = 0 ∧ k = j) → ¬ (s = 10 ∧ (k = 57 ∨ k = 58)) → ¬ (s = 75 ∧ k = 0) → updI (updI (updI (updI I7 71 0 j (iZ (xs e : Int))) 10 0 58 (iZ (bs ((gD g).1 ++ [e]) : Int))) 10 0 57 (iZ (xf e : Int))) 75 0 0 (iZ (((gD g).2.2.1 + 1 : Nat) : Int)) s i k = I7 s i k := fun s i k z1 z2 z3 => by
      rw [updI_if, if_neg (by omega), updI_if, if_neg (by omega), updI_if, if_neg (by omega), updI_if, if_neg (by omega)]
    refine RIf.mk ⟨rfl, hFa _ (fun s i k z1 z2 z3 => by rw [v8 _ _ _ (by omega) (by omega) (by omega), g7 _ _ _ (by omega) (by omega)]; exact g5 _ _ _ z1 (by omega)), rfl, hM.de ?_ (fun s k z y => by unfold mCe at y; rw [v8 _ _ _ (by omega) (by omega) (by omega), g7 _ _ _ (by omega) (by omega)]; exact g5 _ _ _ (by omega) (by omega))⟩
    refine ⟨?_, ?_, ?_, fun k y hk => ?_, fun y hy => ?_, ?_, ?_, ?_, ?_⟩
    · rw [updI_if, if_neg (by omega), uI_eq]
      rfl
    · rw [updI_if, if_neg (by omega), updI_if, if_neg (by omega), uI_eq]
      rfl
    · rw [v8 _ _ _ (by omega) (by omega) (by omega), f7 _ _ _ (by omega)]
      exact v63
    · have hk2 : k < (hl ((gD g).1 ++ [e])).length := by
        have hk : (hl ((gD g).1 ++ [e]))[k]? = some y := hk
        rw [List.getElem?_eq_some_iff] at hk
        exact hk.1
      obtain ⟨z1, z2, z3⟩ := k7 k hk2
      obtain ⟨y1, y2, y3⟩ := p3 k y hk
      rw [v8 _ _ _ (by omega) (by omega) (by omega), v8 _ _ _ (by omega) (by omega) (by omega), v8 _ _ _ (by omega) (by omega) (by omega), z1, z2, z3, v5 _ _ _ (by omega), v5 _ _ _ (by omega), v5 _ _ _ (by omega)]
      exact ⟨hbd y (hl_mem (List.mem_of_getElem? hk)) _ y1, y2, y3⟩
    · have hy : y ∈ (gD g).1 ++ [e] := hy
      rw [List.mem_append, List.mem_singleton] at hy
      rcases hy with hy | rfl
      · have hne : xj y ≠ j := hC.new y (by rw [List.drop_zero]; exact hy)
        rw [v8 _ _ _ (by omega) (by omega) (by omega), g7 _ _ _ (by omega) (by omega), g5 _ _ _ (by omega) (by omega)]
        exact m5 y hy
      · rw [a1, updI_if, if_neg (by omega), updI_if, if_neg (by omega), updI_if, if_neg (by omega), uI_eq]
    · rw [uI_eq]
      rfl
    · rw [v8 _ _ _ (by omega) (by omega) (by omega), g7 _ _ _ (by omega) (by omega), g5 _ _ _ (by omega) (by omega)]; exact m7
    · rw [v8 _ _ _ (by omega) (by omega) (by omega), g7 _ _ _ (by omega) (by omega), g5 _ _ _ (by omega) (by omega)]; exact m8
    · rw [v8 _ _ _ (by omega) (by omega) (by omega), g7 _ _ _ (by omega) (by omega), g5 _ _ _ (by omega) (by omega)]; exact m9
end FIT
