/-! THE TWO SEARCHES SIDE BY SIDE -/
def noD : Nat → Option Int := fun _ => none
theorem ful_n {P : Pa} {n : Nat} {L : List Nat} : ful P n noD L = isW P n L := by
  unfold ful isW
  have : (goL P L).all (dOK noD) = true := by
    rw [List.all_eq_true]
    intro e _
    rfl
  rw [this, Bool.and_true]
theorem all_lt {P : Pa} {n : Nat} (hP : PaOK P) (hn : pn P = n) (hN : pN P = false) : ∀ L ∈ pms n n [], ltE (goL P L) < 1000000 := by
  intro L hL
  obtain ⟨h1, h2, _⟩ := pms_ok n [] (by simp) (by simp) L hL
  have := (ltE_b (L := L) hP h1 (fun x hx => by rw [hn]; exact h2 x hx)).2 hN
  omega
/-- counting -/
theorem cp_1 {P : Pa} {n : Nat} : ∀ (l : List (List Nat)) (st : Ss), (∀ L ∈ l, ltE (goL P L) < 1000000) → st.2.2.2.1 = 1000000 → st.2.2.2.2 = false → (l.foldl (cst P n noD 1) st).1 = l.foldl (fOr P n) st.1
  | [], _, _, _, _ => rfl
  | L :: l, st, h, h1, h2 => by
    rw [List.foldl_cons, List.foldl_cons]
    have hl := h L (by simp)
    have h' : ∀ L ∈ l, ltE (goL P L) < 1000000 := fun x hx => h x (by simp [hx])
    cases hw : isW P n L
    · have e : cst P n noD 1 st L = st := by
        unfold cst
        rw [if_neg (by rw [ful_n, hw]; rintro ⟨_, z, _⟩; cases z)]
      have e2 : fOr P n st.1 L = st.1 := by
        unfold fOr
        rw [hw]
        rfl
      rw [e, e2]
      exact cp_1 l st h' h1 h2
    · have e : cst P n noD 1 st L = comS P 1 st L := by
        unfold cst
        rw [if_pos ⟨h2, by rw [ful_n]; exact hw, by omega⟩]
      have e2 : fOr P n st.1 L = st.1 + 1 := by
        unfold fOr
        rw [hw]
        rfl
      rw [e, e2]
      have := cp_1 (n := n) l (comS P 1 st L) h' (by unfold comS; exact h1) rfl
      rw [this]
      rfl
/-- the first -/
theorem cp_0 {P : Pa} {n : Nat} {due : Nat → Option Int} {st : Ss} (h2 : st.2.2.2.2 = false) : ∀ (l : List (List Nat)), l.foldl (cst P n due 0) st = match l.find? (fun L => ful P n due L && decide (ltE (goL P L) < st.2.2.2.1)) with
    | none => st
    | some L => comS P 0 st L
  | [] => rfl
  | L :: l => by
    rw [List.foldl_cons, List.find?_cons]
    cases hw : (ful P n due L && decide (ltE (goL P L) < st.2.2.2.1))
    · have e : cst P n due 0 st L = st := by
        unfold cst
        rw [if_neg]
        rintro ⟨_, z1, z2⟩
        rw [z1, decide_eq_true z2] at hw
        cases hw
      rw [e]
      exact cp_0 h2 l
    · rw [Bool.and_eq_true, decide_eq_true_eq] at hw
      have e : cst P n due 0 st L = comS P 0 st L := by
        unfold cst
        rw [if_pos ⟨h2, hw.1, hw.2⟩]
      rw [e]
      exact cst_en rfl l
/-- the best -/
def BeS (st : Ss) (o : Option (Nat × List Nat)) : Prop := st.2.2.2.2 = false ∧ match o with
  | none => st.1 = 0 ∧ st.2.2.2.1 = 1000000
  | some (a, L) => 0 < st.1 ∧ st.2.1 = L ∧ st.2.2.1 = a ∧ st.2.2.2.1 = a
theorem cp_2 {P : Pa} {n : Nat} : ∀ (l : List (List Nat)) (st : Ss) (o : Option (Nat × List Nat)), (∀ L ∈ l, ltE (goL P L) < 1000000) → BeS st o → BeS (l.foldl (cst P n noD 2) st) (l.foldl (fBe P n) o)
  | [], _, _, _, h => h
  | L :: l, st, o, h, hB => by
    rw [List.foldl_cons, List.foldl_cons]
    have hl := h L (by simp)
    refine cp_2 l _ _ (fun x hx => h x (by simp [hx])) ?_
    obtain ⟨b1, b2⟩ := hB
    cases hw : isW P n L
    · have e : cst P n noD 2 st L = st := by
        unfold cst
        rw [if_neg (by rw [ful_n, hw]; rintro ⟨_, z, _⟩; cases z)]
      have e2 : fBe P n o L = o := by
        unfold fBe
        rw [hw]
        rfl
      rw [e, e2]
      exact ⟨b1, b2⟩
    · have e2 : fBe P n o L = btr P o L := by
        unfold fBe
        rw [hw]
        rfl
      rw [e2]
      have hcom : ltE (goL P L) < st.2.2.2.1 → cst P n noD 2 st L = comS P 2 st L := fun z => by
        unfold cst
        rw [if_pos ⟨b1, by rw [ful_n]; exact hw, z⟩]
      have hgood : BeS (comS P 2 st L) (some (ltE (goL P L), L)) := by
        unfold comS
        refine ⟨rfl, by show 0 < st.1 + 1; omega, ?_, ?_, ?_⟩ <;> simp
      cases o with
      | none =>
        rw [hcom (by have := b2.2; omega)]
        exact hgood
      | some x =>
        obtain ⟨a, L0⟩ := x
        unfold btr
        dsimp only
        split
        · next z =>
          rw [hcom (by have := b2.2.2.2; omega)]
          exact hgood
        · next z =>
          have e : cst P n noD 2 st L = st := by
            unfold cst
            rw [if_neg (by rintro ⟨_, _, y⟩; have := b2.2.2.2; omega)]
          rw [e]
          exact ⟨b1, b2⟩
/-- what the best is -/
theorem be_spec {P : Pa} {n : Nat} : ∀ (l : List (List Nat)) (o : Option (Nat × List Nat)), match l.foldl (fBe P n) o with
    | none => o = none ∧ ∀ L ∈ l, isW P n L = false
    | some (a, L0) => (o = some (a, L0) ∨ (L0 ∈ l ∧ isW P n L0 = true ∧ a = ltE (goL P L0))) ∧ (∀ L ∈ l, isW P n L = true → a ≤ ltE (goL P L)) ∧ ∀ a2 L2, o = some (a2, L2) → a ≤ a2
  | [], o => by
    show match o with
      | none => _
      | some (a, L0) => _
    cases o with
    | none => exact ⟨rfl, fun L hL => by cases hL⟩
    | some x => exact ⟨Or.inl rfl, fun L hL => (by cases hL), fun a2 L2 h => by cases h; omega⟩
  | L :: l, o => by
    have ih := be_spec (P := P) (n := n) l (fBe P n o L)
    rw [List.foldl_cons]
    cases hw : isW P n L
    · have e2 : fBe P n o L = o := by
        unfold fBe
        rw [hw]
        rfl
      rw [e2] at ih ⊢
      cases hf : l.foldl (fBe P n) o with
      | none =>
        rw [hf] at ih
        exact ⟨ih.1, fun x hx => by
          rcases List.mem_cons.mp hx with rfl | hx
          · exact hw
          · exact ih.2 x hx⟩
      | some x =>
        obtain ⟨a, L0⟩ := x
        rw [hf] at ih
        refine ⟨?_, fun x hx hx2 => ?_, ih.2.2⟩
        · rcases ih.1 with h | h
          · exact Or.inl h
          · exact Or.inr ⟨by simp [h.1], h.2⟩
        · rcases List.mem_cons.mp hx with rfl | hx
          · rw [hw] at hx2; cases hx2
          · exact ih.2.1 x hx hx2
    · have e2 : fBe P n o L = btr P o L := by
        unfold fBe
        rw [hw]
        rfl
      rw [e2] at ih ⊢
      have hbt : ∃ a1 L1, btr P o L = some (a1, L1) ∧ a1 ≤ ltE (goL P L) ∧ (o = some (a1, L1) ∨ (L1 = L ∧ a1 = ltE (goL P L))) ∧ ∀ a2 L2, o = some (a2, L2) → a1 ≤ a2 := by
        cases o with
        | none => exact ⟨_, _, rfl, Nat.le_refl _, Or.inr ⟨rfl, rfl⟩, fun a2 L2 h => by cases h⟩
        | some x =>
          obtain ⟨a0, L0⟩ := x
          unfold btr
          dsimp only
          split
          · exact ⟨_, _, rfl, Nat.le_refl _, Or.inr ⟨rfl, rfl⟩, fun a2 L2 h => by cases h; omega⟩
          · exact ⟨_, _, rfl, by omega, Or.inl rfl, fun a2 L2 h => by cases h; omega⟩
      obtain ⟨a1, L1, h1, h2, h3, h4⟩ := hbt
      rw [h1] at ih ⊢
      cases hf : l.foldl (fBe P n) (some (a1, L1)) with
      | none =>
        rw [hf] at ih
        cases ih.1
      | some x =>
        obtain ⟨a, L0⟩ := x
        rw [hf] at ih
        have ha := ih.2.2 a1 L1 rfl
        refine ⟨?_, fun x hx hx2 => ?_, fun a2 L2 h => ?_⟩
        · rcases ih.1 with h | h
          · cases h
            rcases h3 with h3 | ⟨rfl, rfl⟩
            · exact Or.inl h3
            · exact Or.inr ⟨by simp, hw, rfl⟩
          · exact Or.inr ⟨by simp [h.1], h.2⟩
        · rcases List.mem_cons.mp hx with rfl | hx
          · omega
          · exact ih.2.1 x hx hx2
        · have := h4 a2 L2 h
          omega
theorem or_le {P : Pa} {n : Nat} : ∀ (l : List (List Nat)) (a : Nat), a ≤ l.foldl (fOr P n) a ∧ l.foldl (fOr P n) a ≤ a + l.length
  | [], a => ⟨Nat.le_refl _, Nat.le_refl _⟩
  | L :: l, a => by
    rw [List.foldl_cons]
    have := or_le (P := P) (n := n) l (fOr P n a L)
    have h2 : a ≤ fOr P n a L ∧ fOr P n a L ≤ a + 1 := by
      unfold fOr
      split <;> omega
    simp only [List.length_cons]
    omega
/-- counting none is finding none -/
theorem or_0 {P : Pa} {n : Nat} : ∀ (l : List (List Nat)), l.foldl (fOr P n) 0 = 0 ↔ ∀ L ∈ l, isW P n L = false
  | [] => by simp
  | L :: l => by
    rw [List.foldl_cons]
    cases hw : isW P n L
    · have e : fOr P n 0 L = 0 := by
        unfold fOr
        rw [hw]
        rfl
      rw [e, or_0 l]
      simp [hw]
    · have e : fOr P n 0 L = 1 := by
        unfold fOr
        rw [hw]
        rfl
      rw [e]
      have := (or_le (P := P) (n := n) l 1).1
      constructor
      · intro z
        omega
      · intro z
        have := z L (by simp)
        rw [hw] at this
        cases this
theorem fl_find {P : Pa} {n : Nat} {sh : Option (Nat × Sh)} : ∀ (l : List (List Nat)), l.foldl (fFl P n sh) none = l.find? (fun L => isW P n L && lkS P sh L) := by
  have hs : ∀ (l : List (List Nat)) (x : List Nat), l.foldl (fFl P n sh) (some x) = some x := by
    intro l x
    induction l with
    | nil => rfl
    | cons L l ih =>
      rw [List.foldl_cons]
      have : fFl P n sh (some x) L = some x := by
        unfold fFl
        split <;> rfl
      rw [this]
      exact ih
  intro l
  induction l with
  | nil => rfl
  | cons L l ih =>
    rw [List.foldl_cons, List.find?_cons]
    cases hw : (isW P n L && lkS P sh L)
    · have : fFl P n sh none L = none := by
        unfold fFl
        rw [hw]
        rfl
      rw [this]
      exact ih
    · have : fFl P n sh none L = some L := by
        unfold fFl
        rw [hw]
        rfl
      rw [this]
      exact hs l L
