/-! AN ORDER, in numbers: joints as they were fitted; what is free, when the next is begun, whether it goes in -/
abbrev En : Type := Nat × Nat × Nat × Nat × Nat × Nat
def xj (e : En) : Nat := e.1
def xg (e : En) : Nat := e.2.1
def xf (e : En) : Nat := e.2.2.1
def xs (e : En) : Nat := e.2.2.2.1
def xh (e : En) : Nat := e.2.2.2.2.1
def xc (e : En) : Nat := e.2.2.2.2.2
def hAt : List En → Nat → Nat
  | [], _ => 0
  | e :: E, m => (if m < xs e then xh e else 0) + hAt E m
def cAt : List En → Nat → Nat
  | [], _ => 0
  | e :: E, m => (if m < xs e then xc e else 0) + cAt E m
def nxF : List En → Nat → Nat → Nat
  | [], _, a => a
  | e :: E, m, a => nxF E m (if 0 < xh e ∧ m < xs e then min a (xs e) else a)
def bs (E : List En) : Nat := E.foldl (fun a e => a ||| 2 ^ xj e) 0
def ltE (E : List En) : Nat := E.foldl (fun a e => max a (xs e)) 0
/-- hands, clamps, whether nothing ever sets, how many joints; each joint's numbers; minutes to set -/
abbrev Pa : Type := (Nat × Nat × Bool × Nat) × (Nat → Nat → Nat) × (Nat → Nat → Nat)
def pH (P : Pa) : Nat := P.1.1
def pC (P : Pa) : Nat := P.1.2.1
def pN (P : Pa) : Bool := P.1.2.2.1
def pn (P : Pa) : Nat := P.1.2.2.2
def pT (P : Pa) (j w : Nat) : Nat := P.2.1 j w
def pM (P : Pa) (j n : Nat) : Nat := P.2.2 j n
def PaOK (P : Pa) : Prop := pn P ≤ 7 ∧ pH P ≤ 20 ∧ pC P ≤ 10 ∧ ∀ j, j < pn P → pT P j 0 ≤ 9 ∧ pT P j 1 ≤ 3 ∧ pT P j 2 ≤ 2 ∧ pT P j 3 ≤ 1 ∧ pT P j 4 < 128 ∧ pT P j 5 < 128 ∧ ∀ n, n < pn P → pM P j n ≤ 99
def spr (P : Pa) (E : List En) (f j m : Nat) : Bool := (E.drop f).any fun e => tb (pT P j 5) (xj e) && decide (xs e ≤ m)
def wtS (H wd : Nat) (E : List En) : Nat → Nat → Option Nat
  | 0, m => some m
  | n + 1, m => if hAt E m + wd ≤ H then some m else if nxF E m 1000000 < 1000000 then wtS H wd E n (nxF E m 1000000) else none
/-- needs are met -/
def nmet (P : Pa) (E : List En) (f j : Nat) : Bool := decide (iZ (pT P j 4 : Int) &&& (iZ (bs (E.drop f) : Int) ^^^ (-1 : Int32)) = 0)
def beg (P : Pa) (E : List En) (f nw j : Nat) : Option Nat :=
  if nmet P E f j = true ∧ pT P j 1 ≤ pH P then
    match wtS (pH P) (pT P j 1) E (E.length + 1) nw with
    | none => none
    | some m => if spr P E f j m then none else some m
  else none
def tilF (P : Pa) (E : List En) (f j rd : Nat) : Nat := if pN P then 1000000 else rd + pM P j (E.length - f)
def hldF (P : Pa) (E : List En) (f j rd : Nat) : Nat := if rd < tilF P E f j rd then pT P j 2 else 0
def clmF (P : Pa) (E : List En) (f j rd : Nat) : Bool := decide (0 < hldF P E f j rd) && (decide (pT P j 3 = 1) && decide (cAt E rd < pC P))
def fas (P : Pa) (E : List En) (f j st mi : Nat) : Option En :=
  if clmF P E f j (st + mi) = false ∧ 0 < hldF P E f j (st + mi) ∧ pH P < hAt E (st + mi) + hldF P E f j (st + mi) then none
  else some (j, st, st + mi, tilF P E f j (st + mi), if clmF P E f j (st + mi) then 0 else hldF P E f j (st + mi), if clmF P E f j (st + mi) then 1 else 0)
def joi (P : Pa) (E : List En) (f nw j : Nat) : Option En := match beg P E f nw j with
  | none => none
  | some m => fas P E f j m (pT P j 0)
def go (P : Pa) (f : Nat) : List Nat → List En → Nat → List En × Nat
  | [], E, nw => (E, nw)
  | j :: L, E, nw => match joi P E f nw j with
    | none => (E, nw)
    | some e => go P f L (E ++ [e]) (xf e)
theorem hAt_app (E F : List En) (m : Nat) : hAt (E ++ F) m = hAt E m + hAt F m := by
  induction E with
  | nil => simp [hAt]
  | cons e E ih => simp only [List.cons_append, hAt, ih]; omega
theorem cAt_app (E F : List En) (m : Nat) : cAt (E ++ F) m = cAt E m + cAt F m := by
  induction E with
  | nil => simp [cAt]
  | cons e E ih => simp only [List.cons_append, cAt, ih]; omega
theorem hAt_le {E : List En} {c : Nat} (h : ∀ e ∈ E, xh e ≤ c) (m : Nat) : hAt E m ≤ c * E.length := by
  induction E with
  | nil => simp [hAt]
  | cons e E ih =>
    have h1 := h e (by simp)
    have h2 := ih (fun x hx => h x (by simp [hx]))
    simp only [hAt, List.length_cons, Nat.mul_add]
    split <;> omega
theorem cAt_le {E : List En} {c : Nat} (h : ∀ e ∈ E, xc e ≤ c) (m : Nat) : cAt E m ≤ c * E.length := by
  induction E with
  | nil => simp [cAt]
  | cons e E ih =>
    have h1 := h e (by simp)
    have h2 := ih (fun x hx => h x (by simp [hx]))
    simp only [cAt, List.length_cons, Nat.mul_add]
    split <;> omega
theorem bs_app (E : List En) (e : En) : bs (E ++ [e]) = bs E ||| 2 ^ xj e := by
  simp [bs, List.foldl_append]
theorem bs_lt {E : List En} (h : ∀ e ∈ E, xj e < 7) : bs E < 128 := by
  have : ∀ (E : List En) (a : Nat), (∀ e ∈ E, xj e < 7) → a < 128 → E.foldl (fun a e => a ||| 2 ^ xj e) a < 128 := by
    intro E
    induction E with
    | nil => intro a _ ha; exact ha
    | cons e E ih =>
      intro a h ha
      exact ih _ (fun x hx => h x (by simp [hx])) (ob_lt ha (h e (by simp)))
  exact this E 0 h (by decide)
theorem bs_bit (E : List En) (o : Nat) : (bs E).testBit o = E.any fun e => xj e == o := by
  have : ∀ (E : List En) (a : Nat), (E.foldl (fun a e => a ||| 2 ^ xj e) a).testBit o = (a.testBit o || E.any fun e => xj e == o) := by
    intro E
    induction E with
    | nil => intro a; simp
    | cons e E ih =>
      intro a
      simp only [List.foldl_cons, List.any_cons, ih, Nat.testBit_or, Nat.testBit_two_pow]
      by_cases h : xj e = o
      · simp [h, Bool.or_assoc]
      · have h2 : (xj e == o) = false := by simpa using h
        simp [h, h2]
  rw [bs, this]
  simp
theorem nxF_le (E : List En) (m a : Nat) : nxF E m a ≤ a := by
  induction E generalizing a with
  | nil => exact Nat.le_refl _
  | cons e E ih =>
    simp only [nxF]
    split
    · exact Nat.le_trans (ih _) (Nat.min_le_left _ _)
    · exact ih _
theorem nxF_mem (E : List En) (m a : Nat) : nxF E m a = a ∨ ∃ e ∈ E, 0 < xh e ∧ m < xs e ∧ nxF E m a = xs e := by
  induction E generalizing a with
  | nil => exact Or.inl rfl
  | cons e E ih =>
    simp only [nxF]
    split
    · next h =>
      rcases ih (min a (xs e)) with h1 | ⟨x, hx, h2⟩
      · rw [h1]
        rcases Nat.le_total a (xs e) with z | z
        · exact Or.inl (Nat.min_eq_left z)
        · exact Or.inr ⟨e, by simp, h.1, h.2, Nat.min_eq_right z⟩
      · exact Or.inr ⟨x, by simp [hx], h2⟩
    · rcases ih a with h1 | ⟨x, hx, h2⟩
      · exact Or.inl h1
      · exact Or.inr ⟨x, by simp [hx], h2⟩
theorem nxF_min (E : List En) (m a : Nat) : ∀ e ∈ E, 0 < xh e → m < xs e → nxF E m a ≤ xs e := by
  induction E generalizing a with
  | nil => intro e he; cases he
  | cons x E ih =>
    intro e he h1 h2
    simp only [nxF]
    rcases List.mem_cons.mp he with rfl | he
    · rw [if_pos ⟨h1, h2⟩]
      exact Nat.le_trans (nxF_le _ _ _) (Nat.min_le_right _ _)
    · exact ih _ e he h1 h2
/-- between a minute and the next in which hands come free nothing changes -/
theorem hAt_same {E : List En} {m t : Nat} (h1 : m ≤ t) (h2 : ∀ e ∈ E, 0 < xh e → m < xs e → t < xs e) : hAt E t = hAt E m := by
  induction E with
  | nil => rfl
  | cons e E ih =>
    simp only [hAt]
    rw [ih (fun x hx => h2 x (by simp [hx]))]
    have h3 := h2 e (by simp)
    by_cases hz : 0 < xh e
    · by_cases hm : m < xs e
      · rw [if_pos hm, if_pos (h3 hz hm)]
      · rw [if_neg hm, if_neg (by omega)]
    · have : xh e = 0 := by omega
      simp [this]
def cnF : List En → Nat → Nat
  | [], _ => 0
  | e :: E, m => (if 0 < xh e ∧ m < xs e then 1 else 0) + cnF E m
theorem cnF_0 {E : List En} {m : Nat} (h : cnF E m = 0) : hAt E m = 0 := by
  induction E with
  | nil => rfl
  | cons e E ih =>
    simp only [cnF, hAt] at h ⊢
    rw [ih (by omega)]
    split
    · next hm =>
      rcases Nat.eq_zero_or_pos (xh e) with z | z
      · rw [z]
      · rw [if_pos ⟨z, hm⟩] at h; omega
    · rfl
theorem cnF_le (E : List En) (m : Nat) : cnF E m ≤ E.length := by
  induction E with
  | nil => exact Nat.le_refl _
  | cons e E ih => simp only [cnF, List.length_cons]; split <;> omega
theorem cnF_mono {E : List En} {m t : Nat} (h : m ≤ t) : cnF E t ≤ cnF E m := by
  induction E with
  | nil => exact Nat.le_refl _
  | cons e E ih =>
    simp only [cnF]
    split
    · next z => rw [if_pos ⟨z.1, by omega⟩]; omega
    · omega
theorem cnF_lt {E : List En} {m t : Nat} (h : m < t) (hx : ∃ e ∈ E, 0 < xh e ∧ m < xs e ∧ t = xs e) : cnF E t < cnF E m := by
  induction E with
  | nil => obtain ⟨e, he, _⟩ := hx; cases he
  | cons x E ih =>
    obtain ⟨e, he, h1, h2, h3⟩ := hx
    simp only [cnF]
    rcases List.mem_cons.mp he with rfl | he
    · rw [if_neg (by omega), if_pos ⟨h1, h2⟩]
      have := cnF_mono (E := E) (Nat.le_of_lt h)
      omega
    · have := ih ⟨e, he, h1, h2, h3⟩
      split
      · next z => rw [if_pos ⟨z.1, by omega⟩]; omega
      · split <;> omega
theorem wtS_some {H wd : Nat} {E : List En} (hw : wd ≤ H) : ∀ (n m0 m : Nat), cnF E m0 < n → wtS H wd E n m0 = some m → m0 ≤ m ∧ hAt E m + wd ≤ H ∧ (∀ t, m0 ≤ t → t < m → H < hAt E t + wd) ∧ (m = m0 ∨ ∃ e ∈ E, m = xs e)
  | 0, _, _, hc, _ => by omega
  | n + 1, m0, m, hc, hs => by
    unfold wtS at hs
    split at hs
    · next h =>
      cases hs
      exact ⟨Nat.le_refl _, h, fun t h1 h2 => by omega, Or.inl rfl⟩
    · next h =>
      split at hs
      · next h2 =>
        rcases nxF_mem E m0 1000000 with h3 | ⟨e, he, h4, h5, h6⟩
        · omega
        · have h7 := cnF_lt (E := E) (m := m0) (t := nxF E m0 1000000) (by omega) ⟨e, he, h4, h5, h6⟩
          obtain ⟨a1, a2, a3, a4⟩ := wtS_some hw n _ _ (by omega) hs
          refine ⟨by omega, a2, fun t t1 t2 => ?_, ?_⟩
          · by_cases ht : t < nxF E m0 1000000
            · rw [hAt_same (m := m0) t1 (fun x hx y1 y2 => Nat.lt_of_lt_of_le ht (nxF_min E m0 _ x hx y1 y2))]
              omega
            · exact a3 t (by omega) t2
          · rcases a4 with a4 | a4
            · exact Or.inr ⟨e, he, by omega⟩
            · exact Or.inr a4
      · cases hs
theorem wtS_none {H wd : Nat} {E : List En} (hw : wd ≤ H) : ∀ (n m0 : Nat), wtS H wd E n m0 = none → H < hAt E m0 + wd ∧ ∃ e ∈ E, 1000000 ≤ xs e
  | 0, _, hs => by cases hs
  | n + 1, m0, hs => by
    unfold wtS at hs
    split at hs
    · cases hs
    · next h =>
      refine ⟨by omega, ?_⟩
      split at hs
      · exact (wtS_none hw n _ hs).2
      · next h2 =>
        have h3 : cnF E m0 ≠ 0 := fun z => by have := cnF_0 z; omega
        have : ∀ (E : List En), cnF E m0 ≠ 0 → ∃ e ∈ E, 0 < xh e ∧ m0 < xs e := by
          intro E
          induction E with
          | nil => intro z; exact absurd rfl z
          | cons e E ih =>
            intro z
            simp only [cnF] at z
            by_cases hz : 0 < xh e ∧ m0 < xs e
            · exact ⟨e, by simp, hz⟩
            · rw [if_neg hz] at z
              obtain ⟨x, hx, h⟩ := ih (by omega)
              exact ⟨x, by simp [hx], h⟩
        obtain ⟨e, he, h4, h5⟩ := this E h3
        have := nxF_min E m0 1000000 e he h4 h5
        exact ⟨e, he, by omega⟩
/-- an order's numbers are small -/
def Bd (P : Pa) (nw : Nat) (e : En) : Prop := xj e < 7 ∧ xg e ≤ nw ∧ xf e ≤ nw ∧ (if pN P then xs e = 1000000 else xs e ≤ nw + 99) ∧ xh e ≤ 2 ∧ xc e ≤ 1
def Gd (P : Pa) (E : List En) (nw : Nat) : Prop := (∀ e ∈ E, Bd P nw e) ∧ nw ≤ 900000
theorem Gd.xle {P : Pa} {E : List En} {nw : Nat} (h : Gd P E nw) {e : En} (he : e ∈ E) : xs e ≤ 1000000 := by
  obtain ⟨h1, h2⟩ := h
  obtain ⟨_, _, _, h3, _⟩ := h1 e he
  split at h3 <;> omega
theorem beg_some {P : Pa} {E : List En} {f nw j m : Nat} (hG : Gd P E nw) (h : beg P E f nw j = some m) : nw ≤ m ∧ m ≤ nw + 99 ∧ nmet P E f j = true ∧ pT P j 1 ≤ pH P ∧ hAt E m + pT P j 1 ≤ pH P ∧ (∀ t, nw ≤ t → t < m → pH P < hAt E t + pT P j 1) ∧ spr P E f j m = false := by
  unfold beg at h
  split at h
  · next hc =>
    split at h
    · cases h
    · next m1 hm =>
      split at h
      · cases h
      · next hs =>
        cases h
        obtain ⟨a1, a2, a3, a4⟩ := wtS_some hc.2 _ _ _ (Nat.lt_succ_of_le (cnF_le E nw)) hm
        refine ⟨a1, ?_, hc.1, hc.2, a2, a3, by simpa using hs⟩
        rcases a4 with a4 | ⟨e, he, a4⟩
        · omega
        · obtain ⟨_, _, _, h3, _⟩ := hG.1 e he
          split at h3
          · by_cases hz : nw = m
            · omega
            · have h4 := a3 nw (Nat.le_refl _) (by omega)
              unfold wtS at hm
              rw [if_neg (by omega)] at hm
              split at hm
              · next h5 =>
                rcases nxF_mem E nw 1000000 with h6 | ⟨x, hx, _, _, h6⟩
                · omega
                · obtain ⟨_, _, _, h7, _⟩ := hG.1 x hx
                  rw [if_pos (by assumption)] at h7
                  omega
              · cases hm
          · omega
  · cases h
theorem fas_some {P : Pa} {E : List En} {f j st mi : Nat} {e : En} (hP : PaOK P) (hj : j < pn P) (hn : E.length - f < pn P) (h : fas P E f j st mi = some e) : xj e = j ∧ xg e = st ∧ xf e = st + mi ∧ xs e = tilF P E f j (st + mi) ∧ (if pN P then xs e = 1000000 else xs e ≤ st + mi + 99) ∧ xh e ≤ 2 ∧ xc e ≤ 1 := by
  obtain ⟨_, _, _, hP⟩ := hP
  obtain ⟨_, _, h2, _, _, _, h6⟩ := hP j hj
  have h6 := h6 _ hn
  unfold fas at h
  split at h
  · cases h
  · cases h
    refine ⟨rfl, rfl, rfl, rfl, ?_, ?_, ?_⟩
    · show if pN P = true then tilF P E f j (st + mi) = 1000000 else tilF P E f j (st + mi) ≤ st + mi + 99
      unfold tilF
      split
      · rfl
      · omega
    · show (if clmF P E f j (st + mi) = true then 0 else hldF P E f j (st + mi)) ≤ 2
      unfold hldF
      split
      · omega
      · split <;> omega
    · show (if clmF P E f j (st + mi) = true then 1 else 0) ≤ 1
      split <;> omega
theorem Gd.snoc {P : Pa} {E : List En} {nw : Nat} (hG : Gd P E nw) {e : En} (hj : xj e < 7) (h1 : nw ≤ xf e) (h2 : xg e ≤ xf e) (h3 : if pN P then xs e = 1000000 else xs e ≤ xf e + 99) (h4 : xh e ≤ 2) (h5 : xc e ≤ 1) (h6 : xf e ≤ 900000) : Gd P (E ++ [e]) (xf e) := by
  refine ⟨fun x hx => ?_, h6⟩
  rcases List.mem_append.mp hx with hx | hx
  · obtain ⟨a1, a2, a3, a4, a5, a6⟩ := hG.1 x hx
    refine ⟨a1, by omega, by omega, ?_, a5, a6⟩
    split
    · next hN => rw [if_pos hN] at a4; exact a4
    · next hN => rw [if_neg hN] at a4; omega
  · have : x = e := by simpa using hx
    subst this
    exact ⟨hj, h2, Nat.le_refl _, h3, h4, h5⟩
theorem joi_some {P : Pa} {E : List En} {f nw j : Nat} {e : En} (hP : PaOK P) (hG : Gd P E nw) (hj : j < pn P) (hn : E.length - f < pn P) (hb : nw ≤ 899000) (h : joi P E f nw j = some e) : xj e = j ∧ nw ≤ xf e ∧ xf e ≤ nw + 108 ∧ Gd P (E ++ [e]) (xf e) := by
  unfold joi at h
  split at h
  · cases h
  · next m hm =>
    obtain ⟨a1, a2, _⟩ := beg_some hG hm
    obtain ⟨b1, b2, b3, b4, b5, b6, b7⟩ := fas_some hP hj hn h
    have h0 := (hP.2.2.2 j hj).1
    have h7 := hP.1
    refine ⟨b1, by omega, by omega, hG.snoc (by omega) (by omega) (by omega) ?_ b6 b7 (by omega)⟩
    rw [b3]
    exact b5
