/-! THE PURE MACHINE AND THE REAL ONE: what a pure heap, a pure frame say of the real ones -/
def rho (ad sp : Nat → Nat) (q : Nat × Nat) : Nat := if 900 ≤ q.1 then sp q.1 else ad (TAB.idxOf q)
def emV (ad sp : Nat → Nat) : AV → Value
  | .inl x => .int x
  | .inr (.inl x) => .long x
  | .inr (.inr (some q)) => .ref (rho ad sp q)
  | .inr (.inr none) => .null
def isSet : AV → Bool
  | .inr (.inr none) => false
  | _ => true
def entO (ad sp : Nat → Nat) (h : AH) (s j : Nat) : List Value := (List.range (nfl s)).map fun k => if isRefS s k = true then va_rf ((h.2.2.2 s j k).map (rho ad sp)) else .int (h.2.1 s j k)
def entA (ad sp : Nat → Nat) (cA : Nat → ClassId) (h : AH) (s j : Nat) : ClassId × vp_A :=
  (cA (kd s), LENf s j, if kd s = 21 then .inr (.inl (h.2.2.1 s j)) else if kd s = 24 then .inr (.inr (.inr (.inr (fun k => (h.2.2.2 s j k).map (rho ad sp))))) else .inl (h.2.1 s j))
def ent (ad sp : Nat → Nat) (cA : Nat → ClassId) (h : AH) (q : Nat × Nat) : va_E := if q.1 ≤ 10 then .inr (q.1, entO ad sp h q.1 q.2) else .inl (entA ad sp cA h q.1 q.2)
def wsh (ad sp : Nat → Nat) (cA : Nat → ClassId) (h : AH) : va_W := (TAB.take h.1).map fun q => (rho ad sp q, ent ad sp cA h q)
abbrev ATY : List FieldType := [.int, .long, .byte, .short, .object "HeldTillSet$Shelf"]
def tysh (cA : Nat → ClassId) : List (ClassId × FieldType) := [(cA 20, .int), (cA 21, .long), (cA 22, .byte), (cA 23, .short), (cA 24, .object "HeldTillSet$Shelf")]
def liveQ (h : AH) (q : Nat × Nat) : Prop := q ∈ TAB.take h.1
def okV (h : AH) (v : AV) : Prop := ∀ q : Nat × Nat, v = .inr (.inr (some q)) → 900 ≤ q.1 ∨ liveQ h q
def okR (h : AH) : Prop := ∀ q, liveQ h q → ∀ (k : Nat) (q' : Nat × Nat), (q.1 ≤ 10 ∧ k < nfl q.1 ∧ isRefS q.1 k = true ∨ 10 < q.1 ∧ kd q.1 = 24 ∧ k < LENf q.1 q.2) → h.2.2.2 q.1 q.2 k = some q' → liveQ h q'
def okA (h : AH) : Prop := h.1 < TAB.length → ∀ q, liveQ h q → kd q.1 = 24 → ∀ (k : Nat) (q' : Nat × Nat), h.2.2.2 q.1 q.2 k = some q' → liveQ h q'
theorem TAB_nodup : TAB.Nodup := by decide +kernel
theorem TAB_low : ∀ q ∈ TAB, q.1 < 85 := by decide +kernel
theorem TAB_hi : ∀ q ∈ TAB, 10 < q.1 → 20 ≤ q.1 := by decide +kernel
theorem TAB_kd : ∀ q ∈ TAB, 10 < q.1 → kd q.1 = 20 ∨ kd q.1 = 21 ∨ kd q.1 = 22 ∨ kd q.1 = 23 ∨ kd q.1 = 24 := by decide +kernel
theorem TAB_len : TAB.length = 101 := by decide +kernel
theorem live_tab {h : AH} {q : Nat × Nat} (hq : liveQ h q) : q ∈ TAB := List.mem_of_mem_take hq
theorem live_low {h : AH} {q : Nat × Nat} (hq : liveQ h q) : q.1 < 85 := TAB_low q (live_tab hq)
theorem live_idx {h : AH} {q : Nat × Nat} (hq : liveQ h q) : TAB.idxOf q < h.1 ∧ TAB[TAB.idxOf q]? = some q := by
  have hm := live_tab hq
  have h2 : TAB[TAB.idxOf q]? = some q := by
    rw [List.getElem?_eq_getElem (List.idxOf_lt_length_of_mem hm), List.getElem_idxOf]
  refine ⟨?_, h2⟩
  obtain ⟨i, hi⟩ := List.getElem?_of_mem (show q ∈ TAB.take h.1 from hq)
  rw [List.getElem?_take] at hi
  split at hi
  · next hlt =>
    have hi1 : i < TAB.length := (List.getElem?_eq_some_iff.mp hi).1
    have e : TAB.idxOf q = i := by
      have hg : TAB[i] = q := by
        have := List.getElem?_eq_getElem hi1
        rw [hi] at this
        exact (Option.some.inj this).symm
      rw [← hg]
      exact List.Nodup.idxOf_getElem TAB_nodup i hi1
    omega
  · cases hi
theorem wsh_at {ad sp : Nat → Nat} {cA : Nat → ClassId} {h : AH} {q : Nat × Nat} (hq : liveQ h q) : (wsh ad sp cA h)[TAB.idxOf q]? = some (rho ad sp q, ent ad sp cA h q) := by
  obtain ⟨h1, h2⟩ := live_idx hq
  unfold wsh
  rw [List.getElem?_map, List.getElem?_take, if_pos h1, h2]
  rfl
/-- one cell's contents change -/
theorem wsh_set {ad sp : Nat → Nat} {cA : Nat → ClassId} {h h' : AH} {q : Nat × Nat} (hn : h'.1 = h.1) (hq : liveQ h q) {e' : va_E} (he : ent ad sp cA h' q = e') (ho : ∀ q', liveQ h q' → q' ≠ q → ent ad sp cA h' q' = ent ad sp cA h q') :
    (wsh ad sp cA h).set (TAB.idxOf q) (rho ad sp q, e') = wsh ad sp cA h' := by
  obtain ⟨h1, h2⟩ := live_idx hq
  apply List.ext_getElem?
  intro i
  by_cases hi : i = TAB.idxOf q
  · subst hi
    have hl : TAB.idxOf q < (wsh ad sp cA h).length := (List.getElem?_eq_some_iff.mp (wsh_at (ad := ad) (sp := sp) (cA := cA) hq)).1
    rw [List.getElem?_set_self hl, wsh_at (h := h') (by unfold liveQ; rw [hn]; exact hq), he]
  · rw [List.getElem?_set_ne (Ne.symm hi)]
    unfold wsh
    rw [hn, List.getElem?_map, List.getElem?_map]
    cases hx : (TAB.take h.1)[i]? with
    | none => rfl
    | some q' =>
      have hl' : liveQ h q' := List.mem_of_getElem? hx
      have hne : q' ≠ q := by
        intro e
        subst e
        apply hi
        rw [List.getElem?_take] at hx
        split at hx
        · have hi1 : i < TAB.length := (List.getElem?_eq_some_iff.mp hx).1
          have hg : TAB[i] = q' := by
            have := List.getElem?_eq_getElem hi1
            rw [hx] at this
            exact (Option.some.inj this).symm
          rw [← hg]
          exact (List.Nodup.idxOf_getElem TAB_nodup i hi1).symm
        · cases hx
      simp only [Option.map_some, ho q' hl' hne]
theorem rho_ad {ad ad' sp : Nat → Nat} {h : AH} {q : Nat × Nat} (ha : ∀ i, i < h.1 → ad' i = ad i) (hq : 900 ≤ q.1 ∨ liveQ h q) : rho ad' sp q = rho ad sp q := by
  unfold rho
  split
  · rfl
  · next hn =>
    rcases hq with hq | hq
    · exact absurd hq hn
    · exact ha _ (live_idx hq).1
theorem emV_ad {ad ad' sp : Nat → Nat} {h : AH} {v : AV} (ha : ∀ i, i < h.1 → ad' i = ad i) (hv : okV h v) : emV ad' sp v = emV ad sp v := by
  rcases v with x | x | q
  · rfl
  · rfl
  · cases q with
    | none => rfl
    | some q => exact congrArg Value.ref (rho_ad ha (hv q rfl))
theorem emS_ad {ad ad' sp : Nat → Nat} {h : AH} {st : List AV} (ha : ∀ i, i < h.1 → ad' i = ad i) (hv : ∀ v ∈ st, okV h v) : st.map (emV ad' sp) = st.map (emV ad sp) :=
  List.map_congr_left fun v hm => emV_ad ha (hv v hm)
/-- the locals that are known -/
def lvL (ad sp : Nat → Nat) (L : List AV) : List (Nat × Value) := (List.range L.length).filterMap fun i => match lgt L i with
  | some a => if isSet a = true then some (i, emV ad sp a) else none
  | none => none
theorem lvL_mem {ad sp : Nat → Nat} {L : List AV} {i : Nat} {v : Value} : (i, v) ∈ lvL ad sp L ↔ ∃ a, i < L.length ∧ lgt L i = some a ∧ isSet a = true ∧ v = emV ad sp a := by
  unfold lvL
  rw [List.mem_filterMap]
  constructor
  · rintro ⟨j, hj, hm⟩
    have hj := List.mem_range.mp hj
    cases hg : lgt L j with
    | none => rw [hg] at hm; cases hm
    | some a =>
      rw [hg] at hm
      dsimp only at hm
      split at hm
      · next hs =>
        cases hm
        exact ⟨a, hj, hg, hs, rfl⟩
      · cases hm
  · rintro ⟨a, h1, h2, h3, rfl⟩
    refine ⟨i, List.mem_range.mpr h1, ?_⟩
    rw [h2]
    simp only [h3, if_true]
theorem lgt_lt : ∀ {L : List AV} {i : Nat} {a : AV}, lgt L i = some a → i < L.length
  | [], _, _, h => by cases h
  | _ :: _, 0, _, _ => Nat.succ_pos _
  | _ :: l, i + 1, _, h => Nat.succ_lt_succ (lgt_lt (L := l) h)
theorem lgt_mem : ∀ {L : List AV} {i : Nat} {a : AV}, lgt L i = some a → a ∈ L
  | [], _, _, h => by cases h
  | _ :: _, 0, _, h => by cases h; exact List.mem_cons_self
  | _ :: l, i + 1, _, h => List.mem_cons_of_mem _ (lgt_mem (L := l) h)
theorem lst_len : ∀ (L : List AV) (i : Nat) (v : AV), (lst L i v).length = L.length
  | [], _, _ => rfl
  | _ :: _, 0, _ => rfl
  | _ :: l, i + 1, v => congrArg (· + 1) (lst_len l i v)
theorem lgt_lst : ∀ (L : List AV) (i : Nat) (v : AV) (j : Nat), lgt (lst L i v) j = if j = i ∧ i < L.length then some v else lgt L j
  | [], i, v, j => by simp [lst, lgt]
  | a :: l, 0, v, 0 => by simp [lst, lgt]
  | a :: l, 0, v, j + 1 => by simp [lst, lgt]
  | a :: l, i + 1, v, 0 => by simp [lst, lgt]
  | a :: l, i + 1, v, j + 1 => by simp [lst, lgt, lgt_lst l i v j]
theorem lst_mem {L : List AV} {i : Nat} {v x : AV} (h : x ∈ lst L i v) : x = v ∨ x ∈ L := by
  induction L generalizing i with
  | nil => cases h
  | cons a l ih =>
    cases i with
    | zero =>
      rcases List.mem_cons.mp h with h | h
      · exact Or.inl h
      · exact Or.inr (List.mem_cons_of_mem _ h)
    | succ i =>
      rcases List.mem_cons.mp h with h | h
      · exact Or.inr (by rw [h]; exact List.mem_cons_self)
      · rcases ih h with h | h
        · exact Or.inl h
        · exact Or.inr (List.mem_cons_of_mem _ h)
theorem maskL_len : ∀ (m : Nat) (L : List AV), (maskL m L).length = L.length
  | _, [] => rfl
  | m, _ :: l => congrArg (· + 1) (maskL_len (m / 2) l)
theorem maskL_get : ∀ (m : Nat) (L : List AV) (i : Nat) (a : AV), lgt (maskL m L) i = some a → isSet a = true → lgt L i = some a
  | _, [], _, _, h, _ => by cases h
  | m, b :: l, 0, a, h, hs => by
    simp only [maskL, lgt] at h ⊢
    cases hc : Nat.beq (m % 2) 1 with
    | true => rw [hc] at h; exact h
    | false =>
      rw [hc] at h
      cases h
      cases hs
  | m, b :: l, i + 1, a, h, hs => maskL_get (m / 2) l i a h hs
theorem mkL_len (m : Nat) (L : List AV) : (mkL m L).length = L.length := by
  unfold mkL
  cases Nat.beq m 0
  · exact maskL_len m L
  · rfl
theorem mkL_get (m : Nat) (L : List AV) (i : Nat) (a : AV) (h : lgt (mkL m L) i = some a) (hs : isSet a = true) : lgt L i = some a := by
  unfold mkL at h
  cases hc : Nat.beq m 0 with
  | true => rw [hc] at h; exact h
  | false => rw [hc] at h; exact maskL_get m L i a h hs
theorem maskL_mem : ∀ (m : Nat) (L : List AV) (a : AV), a ∈ maskL m L → a = vn ∨ a ∈ L
  | _, [], _, h => by cases h
  | m, b :: l, a, h => by
    rcases List.mem_cons.mp h with h | h
    · cases hc : Nat.beq (m % 2) 1 with
      | true => rw [hc] at h; exact Or.inr (by rw [h]; exact List.mem_cons_self)
      | false => rw [hc] at h; exact Or.inl h
    · rcases maskL_mem (m / 2) l a h with h | h
      · exact Or.inl h
      · exact Or.inr (List.mem_cons_of_mem _ h)
theorem mkL_mem (m : Nat) (L : List AV) (a : AV) (h : a ∈ mkL m L) : a = vn ∨ a ∈ L := by
  unfold mkL at h
  cases hc : Nat.beq m 0 with
  | true => rw [hc] at h; exact Or.inr h
  | false => rw [hc] at h; exact maskL_mem m L a h
theorem okV_vn (h : AH) : okV h vn := fun q e => by cases e
theorem okV_vi (h : AH) (x : Int32) : okV h (vi x) := fun q e => by cases e
theorem okV_vl (h : AH) (x : Int64) : okV h (vl x) := fun q e => by cases e
theorem lv_set_has {ad sp : Nat → Nat} {ls : Array Slot} {n i : Nat} {L : List AV} {v : AV} {w : Value} (hL : L.length = n) (hw : w = emV ad sp v) (hs : isSet v = true)
    (h : lv_has ls n ((i, w) :: (lvL ad sp L).filter (fun q => !(q.1 == i) && !(q.1 + 1 == i && q.2.category == 2)))) (hi : i < n) (hno : isL (lgt L (i - 1)) = false) : lv_has ls n (lvL ad sp (lst L i v)) := by
  refine ⟨h.1, h.2.1, fun q hq => ?_⟩
  obtain ⟨j, u⟩ := q
  obtain ⟨a, h1, h2, h3, h4⟩ := lvL_mem.mp hq
  rw [lgt_lst] at h2
  rw [lst_len] at h1
  by_cases hj : j = i
  · subst hj
    rw [if_pos ⟨rfl, h1⟩] at h2
    cases h2
    rw [h4, ← hw]
    exact h.2.2 (j, w) List.mem_cons_self
  · rw [if_neg (fun z => hj z.1)] at h2
    refine h.2.2 (j, u) (List.mem_cons_of_mem _ (List.mem_filter.mpr ⟨lvL_mem.mpr ⟨a, h1, h2, h3, h4⟩, ?_⟩))
    simp only [Bool.and_eq_true, Bool.not_eq_true', beq_eq_false_iff_ne, ne_eq]
    refine ⟨hj, ?_⟩
    cases hb : (j + 1 == i) with
    | false => rfl
    | true =>
      have hb' : j + 1 = i := by simpa using hb
      have e : i - 1 = j := by omega
      rw [e, h2] at hno
      rw [h4]
      rcases a with x | x | q
      · rfl
      · cases hno
      · cases q <;> rfl
theorem lv_set_hasL {ad sp : Nat → Nat} {ls : Array Slot} {n i : Nat} {L : List AV} {x : Int64} (hL : L.length = n)
    (h : lv_has ls n ((i, .long x) :: (lvL ad sp L).filter (fun q => !(q.1 == i) && (!(q.1 == i + 1) && !(q.1 + 1 == i && q.2.category == 2))))) (hi : i + 1 < n) (hno : isL (lgt L (i - 1)) = false) : lv_has ls n (lvL ad sp (lst (lst L i (vl x)) (i + 1) vn)) := by
  refine ⟨h.1, h.2.1, fun q hq => ?_⟩
  obtain ⟨j, u⟩ := q
  obtain ⟨a, h1, h2, h3, h4⟩ := lvL_mem.mp hq
  rw [lgt_lst, lgt_lst, lst_len] at h2
  rw [lst_len, lst_len] at h1
  by_cases hj : j = i
  · subst hj
    rw [if_neg (by omega), if_pos ⟨rfl, h1⟩] at h2
    cases h2
    rw [h4]
    exact h.2.2 (j, .long x) List.mem_cons_self
  · by_cases hj1 : j = i + 1
    · subst hj1
      rw [if_pos ⟨rfl, by omega⟩] at h2
      cases h2
      cases h3
    · rw [if_neg (fun z => hj1 z.1), if_neg (fun z => hj z.1)] at h2
      refine h.2.2 (j, u) (List.mem_cons_of_mem _ (List.mem_filter.mpr ⟨lvL_mem.mpr ⟨a, h1, h2, h3, h4⟩, ?_⟩))
      simp only [Bool.and_eq_true, Bool.not_eq_true', beq_eq_false_iff_ne, ne_eq]
      refine ⟨hj, hj1, ?_⟩
      cases hb : (j + 1 == i) with
      | false => rfl
      | true =>
        have hb' : j + 1 = i := by simpa using hb
        have e : i - 1 = j := by omega
        rw [e, h2] at hno
        rw [h4]
        rcases a with x | x | q
        · rfl
        · cases hno
        · cases q <;> rfl
