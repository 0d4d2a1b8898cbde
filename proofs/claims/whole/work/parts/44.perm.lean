/-! ALL ORDERS: in the order of their numbers; what holds of each -/
def pms (n : Nat) : Nat → List Nat → List (List Nat)
  | 0, pre => [pre]
  | m + 1, pre => (List.range n).flatMap fun j => if pre.contains j then [] else pms n m (pre ++ [j])
/-- the part of it from a joint on -/
def pmR (n m : Nat) (pre : List Nat) (j r : Nat) : List (List Nat) := (List.range' j r).flatMap fun j => if pre.contains j then [] else pms n m (pre ++ [j])
theorem pms_R (n m : Nat) (pre : List Nat) : pms n (m + 1) pre = pmR n m pre 0 n := by
  unfold pmR
  rw [← List.range_eq_range']
  rfl
theorem pmR_0 (n m : Nat) (pre : List Nat) (j : Nat) : pmR n m pre j 0 = [] := rfl
theorem pmR_s (n m : Nat) (pre : List Nat) (j r : Nat) : pmR n m pre j (r + 1) = (if pre.contains j then [] else pms n m (pre ++ [j])) ++ pmR n m pre (j + 1) r := by
  unfold pmR
  rw [List.range'_succ, List.flatMap_cons]
theorem pms_ok {n : Nat} : ∀ (m : Nat) (pre : List Nat), pre.Nodup → (∀ j ∈ pre, j < n) → ∀ L ∈ pms n m pre, L.Nodup ∧ (∀ j ∈ L, j < n) ∧ L.length = pre.length + m ∧ ∃ t, L = pre ++ t
  | 0, pre, h1, h2, L, hL => by
    have : L = pre := by simpa [pms] using hL
    subst this
    exact ⟨h1, h2, rfl, [], by simp⟩
  | m + 1, pre, h1, h2, L, hL => by
    unfold pms at hL
    rw [List.mem_flatMap] at hL
    obtain ⟨j, hj, hL⟩ := hL
    have hj := List.mem_range.mp hj
    cases hc : pre.contains j
    · rw [hc, if_neg (by decide)] at hL
      obtain ⟨a1, a2, a3, t, a4⟩ := pms_ok m (pre ++ [j]) (by
        rw [List.nodup_append]
        refine ⟨h1, by simp, fun a ha b hb => ?_⟩
        have hb : b = j := by simpa using hb
        subst hb
        rintro rfl
        simp only [List.contains_eq_mem, decide_eq_false_iff_not] at hc
        exact hc ha) (by
        intro y hy
        rcases List.mem_append.mp hy with hy | hy
        · exact h2 y hy
        · have : y = j := by simpa using hy
          omega) L hL
      refine ⟨a1, a2, ?_, j :: t, by rw [a4]; simp⟩
      rw [a3]
      simp
      omega
    · rw [hc, if_pos rfl] at hL
      cases hL
theorem pms_len {n : Nat} : ∀ (m : Nat) (pre : List Nat), (pms n m pre).length ≤ n ^ m
  | 0, pre => by simp [pms]
  | m + 1, pre => by
    unfold pms
    have : ∀ (l : List Nat), (l.flatMap fun j => if pre.contains j then [] else pms n m (pre ++ [j])).length ≤ l.length * n ^ m := by
      intro l
      induction l with
      | nil => simp
      | cons x l ih =>
        rw [List.flatMap_cons, List.length_append, List.length_cons, Nat.succ_mul]
        have h1 : (if pre.contains x then [] else pms n m (pre ++ [x])).length ≤ n ^ m := by
          split
          · simp
          · exact pms_len m _
        omega
    have := this (List.range n)
    rw [List.length_range] at this
    rw [Nat.pow_succ, Nat.mul_comm]
    exact this
theorem pow7 {n : Nat} (h : n ≤ 7) : n ^ n ≤ 823543 := by
  have : ∀ k : Fin 8, k.val ^ k.val ≤ 823543 := by decide +kernel
  exact this ⟨n, by omega⟩
/-- the fitting of what is not there yet -/
def sfR (V : Nat → Nat) (pre : List Nat) : Nat → Nat
  | 0 => 0
  | k + 1 => sfR V pre k + (if pre.contains k then 0 else V k)
def sfL (V : Nat → Nat) (l : List Nat) : Nat := l.foldr (fun j a => V j + a) 0
theorem sfR_same {V : Nat → Nat} {pre : List Nat} {j : Nat} : ∀ (k : Nat), k ≤ j → sfR V (pre ++ [j]) k = sfR V pre k
  | 0, _ => rfl
  | k + 1, h => by
    unfold sfR
    rw [sfR_same k (by omega)]
    have : (pre ++ [j]).contains k = pre.contains k := by
      rw [Bool.eq_iff_iff]
      simp only [List.contains_eq_mem, decide_eq_true_eq, List.mem_append, List.mem_singleton]
      constructor
      · rintro (z | z)
        · exact z
        · omega
      · exact Or.inl
    rw [this]
theorem sfR_step {V : Nat → Nat} {pre : List Nat} {j : Nat} (hc : pre.contains j = false) : ∀ (k : Nat), j < k → sfR V pre k = V j + sfR V (pre ++ [j]) k
  | 0, h => by omega
  | k + 1, h => by
    unfold sfR
    by_cases hk : k = j
    · subst hk
      rw [sfR_same k (Nat.le_refl _), hc]
      have : (pre ++ [k]).contains k = true := by simp
      rw [this]
      simp
      omega
    · have : (pre ++ [j]).contains k = pre.contains k := by
        rw [Bool.eq_iff_iff]
        simp only [List.contains_eq_mem, decide_eq_true_eq, List.mem_append, List.mem_singleton]
        constructor
        · rintro (z | z)
          · exact z
          · omega
        · exact Or.inl
      rw [sfR_step hc k (by omega), this]
      omega
theorem pc_full : ∀ n : Fin 8, ∀ B : Fin 128, B.val < 2 ^ n.val → pcN B.val = n.val → ∀ j : Fin 7, j.val < n.val → B.val.testBit j.val = true := by decide +kernel
theorem full_in {L : List Nat} {n : Nat} (hn : n ≤ 7) (h1 : L.Nodup) (h2 : ∀ j ∈ L, j < n) (h3 : L.length = n) {j : Nat} (hj : j < n) : L.contains j = true := by
  have hlt : bl L < 2 ^ n := bl_lt h2
  have h7 : ∀ j ∈ L, j < 7 := fun j hj => Nat.lt_of_lt_of_le (h2 j hj) hn
  have h128 : bl L < 128 := bl_lt (n := 7) h7
  have := pc_full ⟨n, by omega⟩ ⟨bl L, h128⟩ hlt (by dsimp only; rw [nd_pc L h1 h7, h3]) ⟨j, by omega⟩ hj
  dsimp only at this
  rwa [bl_bit] at this
theorem sfR_full {V : Nat → Nat} {L : List Nat} {n : Nat} (h : ∀ j, j < n → L.contains j = true) : ∀ k, k ≤ n → sfR V L k = 0
  | 0, _ => rfl
  | k + 1, hk => by
    unfold sfR
    rw [sfR_full h k (by omega), h k (by omega)]
    simp
theorem sfR_list {V : Nat → Nat} {n : Nat} : ∀ (t pre : List Nat), (pre ++ t).Nodup → (∀ j ∈ t, j < n) → sfR V pre n = sfL V t + sfR V (pre ++ t) n
  | [], pre, _, _ => by simp [sfL]
  | j :: t, pre, h1, h2 => by
    have hc : pre.contains j = false := by
      rw [List.nodup_append] at h1
      cases hc : pre.contains j
      · rfl
      · exact absurd rfl (h1.2.2 j (by simpa using hc) j (by simp))
    have e : pre ++ j :: t = (pre ++ [j]) ++ t := by simp
    rw [e] at h1 ⊢
    rw [sfR_step hc n (h2 j (by simp)), sfR_list t (pre ++ [j]) h1 (fun x hx => h2 x (by simp [hx]))]
    show _ = V j + sfL V t + _
    omega
/-- what goes in whole takes its fitting at least -/
theorem go_fit {P : Pa} {f : Nat} : ∀ (T : List Nat) (E : List En) (nw : Nat), Gd P E nw → PaOK P → ChOK P E f T → nw + 108 * T.length ≤ 899000 → (go P f T E nw).1.length = E.length + T.length → nw + sfL (fun j => pT P j 0) T ≤ (go P f T E nw).2
  | [], E, nw, _, _, _, _, _ => by simp [go, sfL]
  | j :: T, E, nw, hG, hP, hC, hb, hw => by
    have hl := hC.len hP
    simp only [List.length_cons] at hl hb hw
    rw [go_cons] at hw ⊢
    cases hj : joi P E f nw j with
    | none =>
      rw [hj] at hw
      dsimp only at hw
      omega
    | some e =>
      rw [hj] at hw
      dsimp only at hw ⊢
      obtain ⟨a1, a2, a3, a4⟩ := joi_some hP hG (hC.2.2.1 j (by simp)) (by omega) (by omega) hj
      have hfit : nw + pT P j 0 ≤ xf e := by
        unfold joi at hj
        split at hj
        · cases hj
        · next m hm =>
          have hm1 := (beg_some hG hm).1
          have := (fas_some hP (hC.2.2.1 j (by simp)) (by omega) hj).2.2.1
          omega
      have := go_fit T (E ++ [e]) (xf e) a4 hP (hC.snoc a1) (by omega) (by simp; omega)
      show nw + (pT P j 0 + sfL (fun j => pT P j 0) T) ≤ _
      omega
/-- the last one sets no earlier than it is fitted and sets -/
theorem go_last {P : Pa} {f : Nat} (hN : pN P = false) : ∀ (T : List Nat) (E : List En) (nw : Nat), T ≠ [] → (go P f T E nw).1.length = E.length + T.length → ∃ e j, (go P f T E nw).1.getLast? = some e ∧ T.getLast? = some j ∧ xf e = (go P f T E nw).2 ∧ xs e = xf e + pM P j (E.length + T.length - 1 - f)
  | [], E, nw, h, _ => absurd rfl h
  | [j], E, nw, _, hw => by
    rw [go_cons] at hw ⊢
    cases hj : joi P E f nw j with
    | none =>
      rw [hj] at hw
      simp at hw
    | some e =>
      dsimp only [go]
      refine ⟨e, j, by simp, by simp, rfl, ?_⟩
      unfold joi at hj
      split at hj
      · cases hj
      · unfold fas at hj
        split at hj
        · cases hj
        · cases hj
          show tilF P E f j _ = _
          unfold tilF
          rw [hN]
          simp [xf]
  | j :: j2 :: T, E, nw, _, hw => by
    rw [go_cons] at hw ⊢
    cases hj : joi P E f nw j with
    | none =>
      rw [hj] at hw
      simp at hw
    | some e =>
      rw [hj] at hw
      dsimp only at hw ⊢
      obtain ⟨e2, k, b1, b2, b3, b4⟩ := go_last hN (j2 :: T) (E ++ [e]) (xf e) (by simp) (by rw [hw]; simp; omega)
      refine ⟨e2, k, b1, by rw [List.getLast?_cons_cons]; exact b2, b3, ?_⟩
      rw [b4]
      congr 2
      simp
      omega
