/-! THE LAW'S FRAME: a run of its body is a walk of the real one -/
def amSt (f : Nat → List AV → AH → Option (Option AV × AH)) (y : Nat) : Nat → Nat → Nat → Nat → List AV → List AV → AH → Option (Nat × Nat × Nat × List AV × List AV × AH)
  | 0, c, s, pc, L, st, h => some (c, s, pc, L, st, h)
  | n + 1, c, s, pc, L, st, h => match tbl y pc with
    | none => none
    | some e => match amI f y e c s pc (mkL (eM e) L) st h with
      | some (.inr q) => amSt f y n q.1 q.2.1 q.2.2.1 q.2.2.2.1 q.2.2.2.2.1 q.2.2.2.2.2
      | _ => none
section LAW
variable {p : Program} {l : Launch} {e : Env} {R : Room} {s : State} {m : MethodId} {args : Array Value} {below : List Frame} {meth : Method} {c : Code} {y D : Nat} {A : Nat → Prop} {Dg : va_G} {cA : Nat → ClassId} {sp : Nat → Nat} {n0 : Nat} {ad0 : Nat → Nat} {Lx : Nat} {xs : Nat → Int32} {Q : State → Prop}
variable {cc ss pc : Nat} {Lo st r : List AV} {h : AH} {ad : Nat → Nat} {H : Heap} {locs : List Loc} {ls : Array Slot}
theorem st_ok (C : Cx p R s m args meth c y D A Dg cA sp Lx xs) {f : Nat → List AV → AH → Option (Option AV × AH)} (hf : ∀ y' as h rv h', y' ≤ 259 → f y' as h = some (rv, h') → Ctr l D y' as h rv h') (hN : ∀ y' as h v h', f y' as h = some (some v, h') → (∃ x, v = vi x) ∨ ∃ x, v = vl x) (hT : ∀ pc e0, tbl y pc = some e0 → okE y pc e0 = true) : ∀ (n cc ss pc : Nat) (Lo st : List AV) (h : AH) (q : Nat × Nat × Nat × List AV × List AV × AH), amSt f y n cc ss pc Lo st h = some q → Wq p l e R s m args below meth c y A Dg cA sp n0 ad0 Lx xs Q q.1 q.2.1 q.2.2.1 q.2.2.2.1 q.2.2.2.2.1 q.2.2.2.2.2 → Wq p l e R s m args below meth c y A Dg cA sp n0 ad0 Lx xs Q cc ss pc Lo st h
  | 0, cc, ss, pc, Lo, st, h, q, hs, K => by
    cases hs
    exact K
  | n + 1, cc, ss, pc, Lo, st, h, q, hs, K => by
    unfold amSt at hs
    split at hs
    · cases hs
    · next e0 he =>
      refine s_mask (eM e0) ?_
      split at hs
      · next q1 hq => exact step_ok C hf hN okM_of (hT _ _ he) hq (st_ok C hf hN hT n _ _ _ _ _ _ q hs K)
      · cases hs
theorem loopQ_ok (C : Cx p R s m args meth c y D A Dg cA sp Lx xs) {f : Nat → List AV → AH → Option (Option AV × AH)} (hf : ∀ y' as h rv h', y' ≤ 259 → f y' as h = some (rv, h') → Ctr l D y' as h rv h') (hN : ∀ y' as h v h', f y' as h = some (some v, h') → (∃ x, v = vi x) ∨ ∃ x, v = vl x) (hT : ∀ pc e0, tbl y pc = some e0 → okE y pc e0 = true) {rv : Option AV} {h' : AH} (hQ : ∀ (cc ss pc : Nat) (Lo st : List AV) (h : AH) (e0 : AE), tbl y pc = some e0 → amI f y e0 cc ss pc Lo st h = some (.inl (rv, h')) → Wq p l e R s m args below meth c y A Dg cA sp n0 ad0 Lx xs Q cc ss pc Lo st h) : ∀ (n cc ss pc : Nat) (Lo st : List AV) (h : AH), amLoop f y n cc ss pc Lo st h = some (rv, h') → Wq p l e R s m args below meth c y A Dg cA sp n0 ad0 Lx xs Q cc ss pc Lo st h
  | 0, _, _, _, _, _, _, hs => by cases hs
  | n + 1, cc, ss, pc, Lo, st, h, hs => by
    unfold amLoop at hs
    split at hs
    · cases hs
    · next e0 he =>
      refine s_mask (eM e0) ?_
      split at hs
      · cases hs
      · next q hq =>
        cases hs
        exact hQ _ _ _ _ _ _ _ he hq
      · next q hq => exact step_ok C hf hN okM_of (hT _ _ he) hq (loopQ_ok C hf hN hT hQ n _ _ _ _ _ _ hs)
/-- the references may be told otherwise where nobody looks -/
def agR (R1 R2 : RM) (n : Nat) : Prop := ∀ q ∈ TAB.take n, ∀ k, (q.1 ≤ 10 ∧ k < nfl q.1 ∧ isRefS q.1 k = true ∨ 10 < q.1 ∧ kd q.1 = 24 ∧ k < LENf q.1 q.2) → R1 q.1 q.2 k = R2 q.1 q.2 k
theorem arrV_cong {c1 : ClassId} {n : Nat} {f g : Nat → Value} (h : ∀ j, j < n → f j = g j) : arrV c1 n f = arrV c1 n g := by
  unfold arrV
  congr 2
  funext j
  exact h j.val j.isLt
theorem wsh_ag {I : IM} {J : JM} {R1 R2 : RM} {n : Nat} (hag : agR R1 R2 n) (hP : va_P Dg vwCl (wsh ad sp cA (n, I, J, R1)) H) : va_P Dg vwCl (wsh ad sp cA (n, I, J, R2)) H := by
  intro k q hq
  have hk : k < (TAB.take n).length := by
    have := (List.getElem?_eq_some_iff.mp hq).1
    simpa [wsh] using this
  unfold wsh at hq
  rw [List.getElem?_map] at hq
  cases hx : (TAB.take n)[k]? with
  | none => rw [hx] at hq; cases hq
  | some q0 =>
    rw [hx] at hq
    have hm : q0 ∈ TAB.take n := List.mem_of_getElem? hx
    have h1 := hP k (rho ad sp q0, ent ad sp cA (n, I, J, R1) q0) (by unfold wsh; rw [List.getElem?_map, hx]; rfl)
    cases hq
    obtain ⟨s1, j1⟩ := q0
    show va_at Dg vwCl (rho ad sp (s1, j1), ent ad sp cA (n, I, J, R2) (s1, j1)) H
    by_cases h10 : s1 ≤ 10
    · rw [ent_obj h10] at h1 ⊢
      have e1 : entO ad sp (n, I, J, R2) s1 j1 = entO ad sp (n, I, J, R1) s1 j1 := by
        unfold entO
        apply List.map_congr_left
        intro i hi
        have hi := List.mem_range.mp hi
        cases hf : isRefS s1 i with
        | false => rfl
        | true =>
          simp only [if_true]
          rw [hag (s1, j1) hm i (Or.inl ⟨h10, hi, hf⟩)]
      rw [e1]
      exact h1
    · have h20 : 20 ≤ kd s1 := by
        have := TAB_kd (s1, j1) (List.mem_of_mem_take hm) (by show 10 < s1; omega)
        dsimp only at this
        omega
      rw [ent_arr h20] at h1 ⊢
      by_cases h24 : kd s1 = 24
      · simp only [entA, h24] at h1 ⊢
        rw [if_neg (by decide), if_pos trivial] at h1 ⊢
        show H[_]? = some (vp_cell _ _)
        have h1 : H[_]? = some (vp_cell _ _) := h1
        rw [vp_cell_q] at h1 ⊢
        rw [h1]
        congr 1
        exact arrV_cong (fun i hi => by rw [hag (s1, j1) hm i (Or.inr ⟨by show 10 < s1; omega, h24, hi⟩)])
      · simp only [entA] at h1 ⊢
        by_cases h21 : kd s1 = 21
        · rw [if_pos h21] at h1 ⊢
          exact h1
        · rw [if_neg h21, if_neg h24] at h1 ⊢
          exact h1
theorem Wq_ag {I : IM} {J : JM} {R1 R2 : RM} {n : Nat} (hag : agR R1 R2 n) (hag2 : okR (n, I, J, R2)) (hn : n = TAB.length) (K : Wq p l e R s m args below meth c y A Dg cA sp n0 ad0 Lx xs Q cc ss pc Lo st (n, I, J, R2)) : Wq p l e R s m args below meth c y A Dg cA sp n0 ad0 Lx xs Q cc ss pc Lo st (n, I, J, R1) := by
  intro ad H locs ls hR
  have hH := hR.hH
  refine K ad H locs ls ⟨hR.1, hR.2.1, hR.2.2.1, hR.2.2.2.1, wsh_ag hag hR.hP, ?_, ⟨hag2, fun z => absurd z (by show ¬ n < TAB.length; omega), hH.2.2⟩, hR.2.2.2.2.2.2.2⟩
  have hD := hR.hD
  have key : ∀ (k : Nat) (q : Nat × va_E), (wsh ad sp cA (n, I, J, R2))[k]? = some q → ∃ q', (wsh ad sp cA (n, I, J, R1))[k]? = some q' ∧ q'.1 = q.1 := by
    intro k q hq
    unfold wsh at hq ⊢
    rw [List.getElem?_map] at hq ⊢
    cases hx : (TAB.take n)[k]? with
    | none => rw [hx] at hq; cases hq
    | some q0 =>
      rw [hx] at hq
      cases hq
      exact ⟨_, rfl, rfl⟩
  refine ⟨fun i j p q hi hj e => ?_, fun k q hk => ?_⟩
  · obtain ⟨p', h1, h2⟩ := key i p hi
    obtain ⟨q', h3, h4⟩ := key j q hj
    exact hD.1 i j p' q' h1 h3 (h2.trans (e.trans h4.symm))
  · obtain ⟨q', h1, h2⟩ := key k q hk
    rw [← h2]
    exact hD.2 k q' h1
end LAW
