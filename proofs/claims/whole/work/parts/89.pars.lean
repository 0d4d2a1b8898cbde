/-! THE PARSER, in numbers -/
def chT (tp : List Nat) (p : Nat) : Nat := (tp[p]?).getD 256
abbrev Rs : Type := Sum Nat (Nat × List Nat)
def isDg (c : Nat) : Bool := decide (48 ≤ c ∧ c ≤ 57)
def lvO (c : Nat) : Nat := if c = 124 then 0 else if c = 38 then 1 else if c = 60 ∨ c = 61 ∨ c = 62 then 2 else if c = 43 ∨ c = 45 then 3 else if c = 42 ∨ c = 47 ∨ c = 37 then 4 else 9
def nmO (c : Nat) : Nat := if c = 103 then 0 else if c = 119 then 1 else if c = 102 then 2 else if c = 104 then 3 else if c = 110 then 4 else if c = 107 then 5 else 9
def nuE (tp : List Nat) : Nat → Nat → Nat → Nat × Nat
  | 0, p, v => (p, v)
  | m + 1, p, v => if isDg (chT tp p) then nuE tp m (p + 1) (10 * v + (chT tp p - 48)) else (p, v)
def lpE (tp : List Nat) (lv : Nat) (nx : Nat → Rs) : Nat → Nat → List Nat → Rs
  | 0, p, T => .inr (p, T)
  | m + 1, p, T => if lvO (chT tp p) = lv then (match nx (p + 1) with
    | .inl f => .inl f
    | .inr (q, U) => lpE tp lv nx m q (T ++ (U ++ [chT tp p]))) else .inr (p, T)
def opE (tp : List Nat) (un pa : Nat → Rs) (o p : Nat) : Rs :=
  if isDg (chT tp p) then (if isDg (chT tp (nuE tp 4 p 0).1) then .inl (nuE tp 4 p 0).1 else .inr ((nuE tp 4 p 0).1, [1000 + (nuE tp 4 p 0).2]))
  else if nmO (chT tp p) < 6 then .inr (p + 1, [200 + nmO (chT tp p)])
  else if chT tp p = 33 ∨ chT tp p = 45 then (if o < 6 then (match un (p + 1) with
    | .inl f => .inl f
    | .inr (q, U) => .inr (q, U ++ [if chT tp p = 33 then 33 else 78])) else .inl p)
  else if chT tp p = 40 then (if o < 6 then (match pa (p + 1) with
    | .inl f => .inl f
    | .inr (q, U) => if chT tp q = 41 then .inr (q + 1, U) else .inl q) else .inl p)
  else .inl p
def pE (tp : List Nat) : Nat → Nat → Nat → Nat → Rs
  | 0, _, _, p => .inl p
  | n + 1, lv, o, p => if lv < 5 then (match pE tp n (lv + 1) o p with
    | .inl f => .inl f
    | .inr (q, T) => lpE tp lv (pE tp n (lv + 1) o) (if lv = 2 then 1 else 120) q T)
    else opE tp (pE tp n 5 (o + 1)) (pE tp n 0 (o + 1)) o p
theorem chT_lt {tp : List Nat} {p : Nat} (h : chT tp p ≠ 256) : p < tp.length := by
  unfold chT at h
  by_cases hp : p < tp.length
  · exact hp
  · rw [List.getElem?_eq_none (by omega)] at h
    exact absurd rfl h
theorem chT_at {tp : List Nat} {p : Nat} (h : p < tp.length) : tp[p]? = some (chT tp p) := by
  unfold chT
  rw [List.getElem?_eq_getElem h]
  rfl
theorem chT_le {tp : List Nat} {p : Nat} (h255 : ∀ x ∈ tp, x ≤ 255) (h : p < tp.length) : chT tp p ≤ 255 := h255 _ (List.mem_of_getElem? (chT_at h))
theorem chT_end {tp : List Nat} {p : Nat} (h : tp.length ≤ p) : chT tp p = 256 := by
  unfold chT
  rw [List.getElem?_eq_none h]
  rfl
def wfx (T : List Nat) : Prop := (∀ w ∈ T, tkOK w) ∧ ∀ fc, ∃ v, ∀ s, evT fc T s = some (v :: s)
theorem evT_app {fc : Nat → Int32} : ∀ (T U : List Nat) (s s1 : List Int32), evT fc T s = some s1 → evT fc (T ++ U) s = evT fc U s1
  | [], U, s, s1, h => by
    cases h
    rfl
  | w :: T, U, s, s1, h => by
    have h : (match tkS fc w s with
      | none => none
      | some s2 => evT fc T s2) = some s1 := h
    show (match tkS fc w s with
      | none => none
      | some s2 => evT fc (T ++ U) s2) = _
    cases hk : tkS fc w s with
    | none => rw [hk] at h; cases h
    | some s2 =>
      rw [hk] at h
      exact evT_app T U s2 s1 h
theorem wfx_wfT {T : List Nat} (h : wfx T) (hl : T.length ≤ 121) : wfT T := by
  refine ⟨h.1, hl, fun fc s => ?_⟩
  obtain ⟨v, hv⟩ := h.2 fc
  rw [hv s]
  unfold evV
  rw [hv []]
theorem wfx_ne {T : List Nat} (h : wfx T) : 1 ≤ T.length := by
  cases T with
  | nil =>
    obtain ⟨v, hv⟩ := h.2 (fun _ => 0)
    have := hv []
    cases this
  | cons w T => simp
theorem wfx_lit {v : Nat} (h : v ≤ 9999) : wfx [1000 + v] := by
  refine ⟨fun w hw => ?_, fun fc => ⟨iZ (((1000 + v : Nat) : Int) - 1000), fun s => ?_⟩⟩
  · rw [List.mem_singleton] at hw
    unfold tkOK
    omega
  · unfold evT tkS
    rw [if_pos (by omega)]
    rfl
theorem wfx_nam {k : Nat} (h : k < 6) : wfx [200 + k] := by
  refine ⟨fun w hw => ?_, fun fc => ⟨fc (200 + k - 200), fun s => ?_⟩⟩
  · rw [List.mem_singleton] at hw
    unfold tkOK
    omega
  · unfold evT tkS
    rw [if_neg (by omega), if_pos (by omega)]
    rfl
theorem wfx_un {T : List Nat} {w : Nat} (h : wfx T) (hw : w = 33 ∨ w = 78) : wfx (T ++ [w]) := by
  refine ⟨fun x hx => ?_, fun fc => ?_⟩
  · rw [List.mem_append, List.mem_singleton] at hx
    rcases hx with hx | hx
    · exact h.1 x hx
    · unfold tkOK
      omega
  · obtain ⟨v, hv⟩ := h.2 fc
    rcases hw with rfl | rfl
    · refine ⟨if v = 0 then 1 else 0, fun s => ?_⟩
      rw [evT_app _ _ _ _ (hv s)]
      rfl
    · refine ⟨-v, fun s => ?_⟩
      rw [evT_app _ _ _ _ (hv s)]
      rfl
theorem wfx_bin {T U : List Nat} {w : Nat} (h : wfx T) (h2 : wfx U) (hw : isOp w) : wfx (T ++ (U ++ [w])) := by
  refine ⟨fun x hx => ?_, fun fc => ?_⟩
  · rw [List.mem_append, List.mem_append, List.mem_singleton] at hx
    rcases hx with hx | hx | hx
    · exact h.1 x hx
    · exact h2.1 x hx
    · subst hx
      exact Or.inr (Or.inr (Or.inr (Or.inr hw)))
  · obtain ⟨v, hv⟩ := h.2 fc
    obtain ⟨u, hu⟩ := h2.2 fc
    refine ⟨bop w v u, fun s => ?_⟩
    rw [evT_app _ _ _ _ (hv s), evT_app _ _ _ _ (hu _)]
    unfold evT tkS
    unfold isOp at hw
    rw [if_neg (by omega), if_neg (by omega), if_neg (by omega), if_neg (by omega)]
    rfl
theorem lvO_op {c lv : Nat} (h : lvO c = lv) (hl : lv < 5) : isOp c ∧ c ≤ 124 := by
  unfold lvO at h
  unfold isOp
  split at h
  · omega
  · split at h
    · omega
    · split at h
      · omega
      · split at h
        · omega
        · split at h <;> omega
/-- what a reading from p gives: a fault, or how far and the words -/
def good (tp : List Nat) (p : Nat) (r : Rs) : Prop := match r with
  | .inl f => p ≤ f ∧ f ≤ tp.length
  | .inr (q, T) => p < q ∧ q ≤ tp.length ∧ T.length ≤ q - p ∧ wfx T
theorem lpE_good {tp : List Nat} {lv p0 : Nat} {nx : Nat → Rs} (hl : lv < 5) (hn : ∀ p, p ≤ tp.length → good tp p (nx p)) : ∀ (m p : Nat) (T : List Nat), p0 < p → p ≤ tp.length → T.length ≤ p - p0 → wfx T → good tp p0 (lpE tp lv nx m p T)
  | 0, p, T, h1, h2, h3, h4 => ⟨h1, h2, h3, h4⟩
  | m + 1, p, T, h1, h2, h3, h4 => by
    unfold lpE
    split
    · next hc =>
      obtain ⟨c1, c2⟩ := lvO_op hc hl
      have hp := chT_lt (tp := tp) (p := p) (by omega)
      have hg := hn (p + 1) (by omega)
      cases hx : nx (p + 1) with
      | inl f =>
        rw [hx] at hg
        exact ⟨by have := hg.1; omega, hg.2⟩
      | inr r =>
        obtain ⟨q, U⟩ := r
        rw [hx] at hg
        obtain ⟨g1, g2, g3, g4⟩ := hg
        exact lpE_good hl hn m q _ (by omega) g2 (by rw [List.length_append, List.length_append, List.length_singleton]; omega) (wfx_bin h4 g4 c1)
    · exact ⟨h1, h2, h3, h4⟩
theorem nuE_good {tp : List Nat} : ∀ (m p v : Nat), p ≤ tp.length → p ≤ (nuE tp m p v).1 ∧ (nuE tp m p v).1 ≤ tp.length ∧ (nuE tp m p v).2 < 10 ^ m * (v + 1)
  | 0, p, v, h => ⟨Nat.le_refl _, h, by unfold nuE; omega⟩
  | m + 1, p, v, h => by
    unfold nuE
    have hp : 1 ≤ 10 ^ m := Nat.one_le_pow _ _ (by omega)
    split
    · next hc =>
      have hc : 48 ≤ chT tp p ∧ chT tp p ≤ 57 := of_decide_eq_true hc
      have hlt := chT_lt (tp := tp) (p := p) (by omega)
      obtain ⟨a1, a2, a3⟩ := nuE_good (tp := tp) m (p + 1) (10 * v + (chT tp p - 48)) (by omega)
      refine ⟨by omega, a2, Nat.lt_of_lt_of_le a3 ?_⟩
      rw [Nat.pow_succ, Nat.mul_assoc]
      exact Nat.mul_le_mul_left _ (by omega)
    · refine ⟨Nat.le_refl _, h, ?_⟩
      show v < 10 ^ (m + 1) * (v + 1)
      have h1 : 1 ≤ 10 ^ (m + 1) := Nat.one_le_pow _ _ (by omega)
      have := Nat.mul_le_mul_right (v + 1) h1
      omega
theorem nuE_lt {tp : List Nat} {p : Nat} (hp : p ≤ tp.length) (h : isDg (chT tp p) = true) : p < (nuE tp 4 p 0).1 ∧ (nuE tp 4 p 0).1 ≤ tp.length ∧ (nuE tp 4 p 0).2 ≤ 9999 := by
  have hc : 48 ≤ chT tp p ∧ chT tp p ≤ 57 := of_decide_eq_true h
  have hlt := chT_lt (tp := tp) (p := p) (by omega)
  obtain ⟨_, a2, a3⟩ := nuE_good (tp := tp) 4 p 0 hp
  have e : nuE tp 4 p 0 = nuE tp 3 (p + 1) (10 * 0 + (chT tp p - 48)) := by
    conv => lhs; unfold nuE
    rw [if_pos h]
  have := (nuE_good (tp := tp) 3 (p + 1) (10 * 0 + (chT tp p - 48)) (by omega)).1
  rw [← e] at this
  exact ⟨by omega, a2, by omega⟩
theorem opE_good {tp : List Nat} {un pa : Nat → Rs} {o p : Nat} (hp : p ≤ tp.length) (h1 : ∀ p, p ≤ tp.length → good tp p (un p)) (h2 : ∀ p, p ≤ tp.length → good tp p (pa p)) : good tp p (opE tp un pa o p) := by
  unfold opE
  split
  · next hd =>
    obtain ⟨a1, a2, a3⟩ := nuE_lt hp hd
    split
    · exact ⟨by omega, a2⟩
    · exact ⟨a1, a2, by rw [List.length_singleton]; omega, wfx_lit a3⟩
  · split
    · next hn =>
      have hlt := chT_lt (tp := tp) (p := p) (fun z => by rw [z] at hn; revert hn; decide)
      exact ⟨by omega, by omega, by rw [List.length_singleton]; omega, wfx_nam hn⟩
    · split
      · next hc =>
        have hlt := chT_lt (tp := tp) (p := p) (by omega)
        split
        · have hg := h1 (p + 1) (by omega)
          cases hx : un (p + 1) with
          | inl f =>
            rw [hx] at hg
            exact ⟨by have := hg.1; omega, hg.2⟩
          | inr r =>
            obtain ⟨q, U⟩ := r
            rw [hx] at hg
            obtain ⟨g1, g2, g3, g4⟩ := hg
            exact ⟨by omega, g2, by rw [List.length_append, List.length_singleton]; omega, wfx_un g4 (by split <;> omega)⟩
        · exact ⟨Nat.le_refl _, hp⟩
      · split
        · next hc =>
          have hlt := chT_lt (tp := tp) (p := p) (by omega)
          split
          · have hg := h2 (p + 1) (by omega)
            cases hx : pa (p + 1) with
            | inl f =>
              rw [hx] at hg
              exact ⟨by have := hg.1; omega, hg.2⟩
            | inr r =>
              obtain ⟨q, U⟩ := r
              rw [hx] at hg
              obtain ⟨g1, g2, g3, g4⟩ := hg
              dsimp only
              split
              · next h41 =>
                have := chT_lt (tp := tp) (p := q) (by omega)
                exact ⟨by omega, by omega, by omega, g4⟩
              · exact ⟨by omega, g2⟩
          · exact ⟨Nat.le_refl _, hp⟩
        · exact ⟨Nat.le_refl _, hp⟩
theorem pE_good {tp : List Nat} : ∀ (n lv o p : Nat), p ≤ tp.length → good tp p (pE tp n lv o p)
  | 0, _, _, p, h => ⟨Nat.le_refl _, h⟩
  | n + 1, lv, o, p, h => by
    unfold pE
    split
    · next hl =>
      have hg := pE_good n (lv + 1) o p h
      cases hx : pE tp n (lv + 1) o p with
      | inl f =>
        rw [hx] at hg
        exact hg
      | inr r =>
        obtain ⟨q, T⟩ := r
        rw [hx] at hg
        obtain ⟨g1, g2, g3, g4⟩ := hg
        exact lpE_good hl (fun p hp => pE_good n (lv + 1) o p hp) _ q T g1 g2 g3 g4
    · exact opE_good h (fun p hp => pE_good n 5 (o + 1) p hp) (fun p hp => pE_good n 0 (o + 1) p hp)
