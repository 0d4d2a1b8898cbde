/-! WHAT IS READ OFF: the latest, drips, hands, clamps -/
theorem iZ_div {a b : Int} (a1 : 0 ≤ a) (a2 : a < 2147483648) (b1 : 0 < b) (b2 : b < 2147483648) : iZ a / iZ b = iZ (a / b) := by
  apply Int32.toInt_inj.1
  have hb : iZ b ≠ -1 := by
    intro h
    have := congrArg Int32.toInt h
    rw [iZ_toInt (by omega) b2] at this
    have e : (-1 : Int32).toInt = -1 := rfl
    omega
  have hd1 : 0 ≤ a / b := Int.ediv_nonneg a1 (by omega)
  have hd2 : a / b ≤ a := Int.ediv_le_self b a1
  rw [Int32.toInt_div_of_ne_right _ _ hb, iZ_toInt (by omega) a2, iZ_toInt (by omega) b2, iZ_toInt (by omega) (by omega), Int.tdiv_eq_ediv_of_nonneg a1]
theorem ltE_app (E : List En) (e : En) : ltE (E ++ [e]) = max (ltE E) (xs e) := by simp [ltE, List.foldl_append]
theorem foldmax_ge : ∀ (E : List En) (a : Nat), a ≤ E.foldl (fun a e => max a (xs e)) a ∧ (∀ e ∈ E, xs e ≤ E.foldl (fun a e => max a (xs e)) a) ∧ (E.foldl (fun a e => max a (xs e)) a = a ∨ ∃ e ∈ E, E.foldl (fun a e => max a (xs e)) a = xs e)
  | [], a => ⟨Nat.le_refl _, by simp, Or.inl rfl⟩
  | e :: E, a => by
    obtain ⟨h1, h2, h3⟩ := foldmax_ge E (max a (xs e))
    simp only [List.foldl_cons]
    refine ⟨by omega, fun x hx => ?_, ?_⟩
    · rcases List.mem_cons.mp hx with rfl | hx
      · omega
      · exact h2 x hx
    · rcases h3 with h3 | ⟨x, hx, h3⟩
      · rcases Nat.le_total a (xs e) with z | z
        · exact Or.inr ⟨e, by simp, by omega⟩
        · exact Or.inl (by omega)
      · exact Or.inr ⟨x, by simp [hx], h3⟩
theorem ltE_ge {E : List En} {e : En} (h : e ∈ E) : xs e ≤ ltE E := (foldmax_ge E 0).2.1 e h
theorem ltE_uniq {E : List En} {a : Nat} (h1 : ∀ e ∈ E, xs e ≤ a) (h2 : a = 0 ∨ ∃ e ∈ E, a = xs e) : a = ltE E := by
  obtain ⟨g1, g2, g3⟩ := foldmax_ge E 0
  have g2 : ∀ e ∈ E, xs e ≤ ltE E := g2
  have g3 : ltE E = 0 ∨ ∃ e ∈ E, ltE E = xs e := g3
  apply Nat.le_antisymm
  · rcases h2 with h2 | ⟨e, he, h2⟩
    · omega
    · rw [h2]; exact g2 e he
  · rcases g3 with g3 | ⟨e, he, g3⟩
    · omega
    · rw [g3]; exact h1 e he
theorem ltE_le {E : List En} {c : Nat} (h : ∀ e ∈ E, xs e ≤ c) : ltE E ≤ c := by
  rcases (foldmax_ge E 0).2.2 with g | ⟨e, he, g⟩
  · unfold ltE
    omega
  · unfold ltE
    rw [g]
    exact h e he
section READ
variable {D w r f nw : Nat} {I : IM} {J : JM} {b : Bool} {E : List En} {P : Pa}
theorem w_latest (hW : WkAt w r I E f nw) (hx : ∀ e ∈ E, xs e ≤ 1000000) : ∀ (T : List En) (k a : Nat) (v : Int32), k ≤ E.length → E.drop k = T → a ≤ 1000000 → v = iZ (T.foldl (fun a e => max a (xs e)) a : Nat) → WP D 73 4 [vr 8 w, vi (iZ (a : Int)), vi (iZ (k : Int))] [] (101, I, J, R0 b) (fun r h => r = some (vi v) ∧ h = (101, I, J, R0 b)) := by
  obtain ⟨⟨g30, g31, g32, g33, g34, g35, gr, gr2⟩, hl, hf, hbs, hn, hE, hr, hfl⟩ := hW
  intro T
  induction T with
  | nil =>
    intro k a v hk0 hT ha hv
    have := dr_nil hT
    refine t_X8_latest_4 w _ _ I J b ?_
    rw [hl]
    exact ifp (tle (by omega) (by omega) (by omega)) ⟨by rw [hv]; rfl, rfl⟩
  | cons e T ih =>
    intro k a v hk0 hT ha hv
    obtain ⟨h1, h2, h3⟩ := dr_cons hT
    obtain ⟨_, _, _, e4, _, _⟩ := hE k e h1
    have hs := hx e (List.mem_of_getElem? h1)
    refine t_X8_latest_4 w _ _ I J b ?_
    rw [hl, iZ_ck (by omega), e4, iZ_s, g33]
    refine ifn (nle (by omega) (by omega) (by omega)) ⟨vp_iZ (by omega) (by omega) (by omega), ?_⟩
    have e7 : (if iZ (a : Int) < iZ (xs e : Int) then iZ (xs e : Int) else iZ (a : Int)) = iZ ((max a (xs e) : Nat) : Int) := by
      by_cases hlt : a < xs e
      · rw [if_pos (tlt (by omega) (by omega) (by omega)), Nat.max_eq_right (by omega)]
      · rw [if_neg (nlt (by omega) (by omega) (by omega)), Nat.max_eq_left (by omega)]
    rw [e7]
    exact ih (k + 1) _ v (by omega) h2 (by omega) hv
theorem p_latest (hW : WkAt w r I E f nw) (hx : ∀ e ∈ E, xs e ≤ 1000000) : Pu (D + 1) 73 [vr 8 w] I J b (iZ (ltE E : Int)) := by
  refine t_X8_latest w I J b ?_
  exact w_latest hW hx E 0 0 _ (by omega) rfl (by omega) rfl
/-- the latest of the chair, joint by joint -/
def dnF (g : Nat → Nat) (B : Nat) : Nat → Nat → Nat → Nat
  | 0, _, a => a
  | n + 1, k, a => dnF g B n (k + 1) (if tb B k = true ∧ a < g k then g k else a)
theorem dnF_spec (g : Nat → Nat) (B : Nat) : ∀ (n k a : Nat), a ≤ dnF g B n k a ∧ (∀ o, k ≤ o → o < k + n → tb B o = true → g o ≤ dnF g B n k a) ∧ (dnF g B n k a = a ∨ ∃ o, k ≤ o ∧ o < k + n ∧ tb B o = true ∧ dnF g B n k a = g o)
  | 0, k, a => ⟨Nat.le_refl _, fun o h1 h2 => by omega, Or.inl rfl⟩
  | n + 1, k, a => by
    obtain ⟨h1, h2, h3⟩ := dnF_spec g B n (k + 1) (if tb B k = true ∧ a < g k then g k else a)
    unfold dnF
    have hy : a ≤ (if tb B k = true ∧ a < g k then g k else a) ∧ (tb B k = true → g k ≤ (if tb B k = true ∧ a < g k then g k else a)) ∧ ((if tb B k = true ∧ a < g k then g k else a) = a ∨ (tb B k = true ∧ (if tb B k = true ∧ a < g k then g k else a) = g k)) := by
      split
      · next hc => exact ⟨by omega, fun _ => Nat.le_refl _, Or.inr ⟨hc.1, rfl⟩⟩
      · next hc => exact ⟨Nat.le_refl _, fun z => by
          have : ¬ a < g k := fun y => hc ⟨z, y⟩
          omega, Or.inl rfl⟩
    generalize (if tb B k = true ∧ a < g k then g k else a) = y at h1 h2 h3 hy ⊢
    obtain ⟨y1, y2, y3⟩ := hy
    refine ⟨by omega, fun o o1 o2 o3 => ?_, ?_⟩
    · by_cases ho : o = k
      · subst ho
        have := y2 o3
        omega
      · exact h2 o (by omega) (by omega) o3
    · rcases h3 with h3 | ⟨o, o1, o2, o3, o4⟩
      · rcases y3 with y3 | ⟨y3, y4⟩
        · exact Or.inl (by omega)
        · exact Or.inr ⟨k, by omega, by omega, y3, by omega⟩
      · exact Or.inr ⟨o, by omega, by omega, o3, o4⟩
theorem w_doneNow {g : Nat → Nat} {B : Nat} (h1 : I 10 0 1 = iZ (pn P : Int)) (h38 : I 10 0 38 = iZ (B : Int)) (p7 : pn P ≤ 7) (hg : ∀ o, o < pn P → tb B o = true → I 66 0 o = iZ (g o : Int) ∧ g o ≤ 2000000) : ∀ (n k a : Nat) (v : Int32), n + k = pn P → a ≤ 2000000 → v = iZ (dnF g B n k a : Int) → WP D 186 4 [vr 10 0, vi (iZ (a : Int)), vi (iZ (k : Int))] [] (101, I, J, R0 b) (fun r h => r = some (vi v) ∧ h = (101, I, J, R0 b)) := by
  intro n
  induction n with
  | zero =>
    intro k a v hk ha hv
    refine t_X10_doneNow_4 _ _ I J b ?_
    rw [h1]
    exact ifp (tle (by omega) (by omega) (by omega)) ⟨by rw [hv]; rfl, rfl⟩
  | succ n ih =>
    intro k a v hk ha hv
    unfold dnF at hv
    refine t_X10_doneNow_4 _ _ I J b ?_
    rw [h1, h38, iZ_ck (by omega), iZ_s]
    refine ifn (nle (by omega) (by omega) (by omega)) (ifs (fun c => ?_) (fun c => ?_))
    · have c1 : tb B k = false := decide_eq_false c
      rw [if_neg (by rw [c1]; simp)] at hv
      exact ih (k + 1) a v (by omega) ha hv
    · have c1 : tb B k = true := decide_eq_true (Classical.not_not.mp c)
      obtain ⟨g1, g2⟩ := hg k (by omega) c1
      rw [g1]
      have hvv : vp_in (iZ (k : Int)) 7 := vp_iZ (by omega) (by omega) (by omega)
      refine ⟨hvv, ifs (fun c2 => ?_) (fun c2 => ⟨hvv, ?_⟩)⟩
      · rw [iZ_le (by omega) (by omega) (by omega) (by omega)] at c2
        rw [if_neg (by omega)] at hv
        exact ih (k + 1) a v (by omega) ha hv
      · rw [iZ_le (by omega) (by omega) (by omega) (by omega)] at c2
        rw [if_pos ⟨c1, by omega⟩] at hv
        exact ih (k + 1) _ v (by omega) g2 hv
theorem p_doneNow (hH : HoAt I E f nw) (hM : MbAt I P) (hP : PaOK P) (hG : Gd P E nw) (h7 : ∀ e ∈ E, xj e < pn P) : ∃ a, a ≤ 2000000 ∧ (pN P = false → a = ltE (E.drop f)) ∧ Pu (D + 1) 186 [vr 10 0] I J b (iZ (a : Int)) := by
  have p7 := hP.1
  obtain ⟨_, _, h38, h66⟩ := hH
  have hB : bs (E.drop f) < 128 := bs_lt (fun x hx => Nat.lt_of_lt_of_le (h7 x (List.mem_of_mem_drop hx)) p7)
  have hbit : ∀ o, o < pn P → tb (bs (E.drop f)) o = true → ∃ e ∈ E.drop f, xj e = o := by
    intro o ho h
    rw [tb_bit hB (by omega), bs_bit, List.any_eq_true] at h
    obtain ⟨e, he, h⟩ := h
    exact ⟨e, he, by simpa using h⟩
  have hval : ∀ e ∈ E.drop f, ∃ t : Nat, I 66 0 (xj e) = iZ (t : Int) ∧ t ≤ 2000000 ∧ (pN P = false → t = xs e) := by
    intro e he
    obtain ⟨t, h1, h2⟩ := h66 e he
    have h3 := hG.xle (List.mem_of_mem_drop he)
    refine ⟨t, h1, by omega, fun hN => ?_⟩
    have h4 := (hG.1 e (List.mem_of_mem_drop he)).2.2.2.1
    rw [if_neg (by rw [hN]; decide)] at h4
    have := hG.2
    omega
  have hg : ∀ o, o < pn P → tb (bs (E.drop f)) o = true → I 66 0 o = iZ (((I 66 0 o).toInt.toNat : Nat) : Int) ∧ (I 66 0 o).toInt.toNat ≤ 2000000 := by
    intro o ho h
    obtain ⟨e, he, rfl⟩ := hbit o ho h
    obtain ⟨t, h1, h2, _⟩ := hval e he
    rw [h1, iZ_toInt (by omega) (by omega)]
    exact ⟨by congr 1, by omega⟩
  refine ⟨dnF (fun o => (I 66 0 o).toInt.toNat) (bs (E.drop f)) (pn P) 0 0, ?_, ?_, ?_⟩
  · rcases (dnF_spec (fun o => (I 66 0 o).toInt.toNat) (bs (E.drop f)) (pn P) 0 0).2.2 with h | ⟨o, o1, o2, o3, o4⟩
    · omega
    · rw [o4]
      exact (hg o (by omega) o3).2
  · intro hN
    obtain ⟨_, d2, d3⟩ := dnF_spec (fun o => (I 66 0 o).toInt.toNat) (bs (E.drop f)) (pn P) 0 0
    have hx : ∀ e ∈ E.drop f, (I 66 0 (xj e)).toInt.toNat = xs e := by
      intro e he
      obtain ⟨t, h1, h2, h3⟩ := hval e he
      rw [h1, iZ_toInt (by omega) (by omega), h3 hN]
      omega
    refine ltE_uniq (fun e he => ?_) ?_
    · rw [← hx e he]
      refine d2 (xj e) (by omega) ?_ ?_
      · have := h7 e (List.mem_of_mem_drop he)
        omega
      · have h8 := h7 e (List.mem_of_mem_drop he)
        rw [tb_bit hB (by omega), bs_bit, List.any_eq_true]
        exact ⟨e, he, by simp⟩
    · rcases d3 with d3 | ⟨o, o1, o2, o3, o4⟩
      · exact Or.inl d3
      · obtain ⟨e, he, rfl⟩ := hbit o (by omega) o3
        exact Or.inr ⟨e, he, by rw [o4]; exact hx e he⟩
  · refine t_X10_doneNow I J b ?_
    exact w_doneNow hM.1 h38 p7 hg (pn P) 0 0 _ (by omega) (by omega) rfl
/-- when a joint of the chair sets -/
def stO (ch : List En) (x : Int32) : Option Nat := (ch.find? fun e => decide (iZ (xj e : Int) = x)).map xs
theorem w_setOf {x : Int32} (hW : WkAt w r I E f nw) : ∀ (T : List En) (k : Nat) (v : Int32), k ≤ E.length → E.drop k = T → v = oI (stO T x) → WP D 74 5 [vr 8 w, vi x, vi (iZ (k : Int))] [] (101, I, J, R0 b) (fun r h => r = some (vi v) ∧ h = (101, I, J, R0 b)) := by
  obtain ⟨⟨g30, g31, g32, g33, g34, g35, gr, gr2⟩, hl, hf, hbs, hn, hE, hr, hfl⟩ := hW
  intro T
  induction T with
  | nil =>
    intro k v hk0 hT hv
    have := dr_nil hT
    refine t_X8_setOf_5 w _ _ I J b ?_
    rw [hl]
    exact ifp (tle (by omega) (by omega) (by omega)) ⟨by rw [hv]; rfl, rfl⟩
  | cons e T ih =>
    intro k v hk0 hT hv
    obtain ⟨h1, h2, h3⟩ := dr_cons hT
    obtain ⟨e1, _, _, e4, _, _⟩ := hE k e h1
    refine t_X8_setOf_5 w _ _ I J b ?_
    rw [hl, iZ_ck (by omega), e1, e4, iZ_s, g30, g33]
    refine ifn (nle (by omega) (by omega) (by omega)) ⟨vp_iZ (by omega) (by omega) (by omega), ?_⟩
    unfold stO at hv
    rw [List.find?_cons] at hv
    refine ifs (fun c => ?_) (fun c => ⟨vp_iZ (by omega) (by omega) (by omega), ?_⟩)
    · rw [decide_eq_false c] at hv
      exact ih (k + 1) v (by omega) h2 hv
    · rw [decide_eq_true (Classical.not_not.mp c)] at hv
      exact ⟨by rw [hv]; rfl, rfl⟩
theorem p_setOf {x : Int32} (hW : WkAt w r I E f nw) : Pu (D + 1) 74 [vr 8 w, vi x] I J b (oI (stO (E.drop f) x)) := by
  refine t_X8_setOf w _ I J b ?_
  rw [hW.2.2.1]
  exact w_setOf hW _ f _ hW.2.2.2.2.2.2.2 rfl rfl
/-- a shelf: nothing, a body, a row (its sort, length, cells) -/
abbrev Sh : Type := Nat × Nat × Nat × (Nat → Int64)
def sK (q : Sh) : Nat := q.1
def sA (q : Sh) : Nat := q.2.1
def sL (q : Sh) : Nat := q.2.2.1
def sC (q : Sh) : Nat → Int64 := q.2.2.2
def ShC (I : IM) (J : JM) (s : Nat) (q : Sh) : Prop := I 6 s 0 = iZ (sK q : Int) ∧ (sK q = 1 → I 6 s 1 = iZ (sA q : Int)) ∧ (sK q = 2 → I 6 s 2 = iZ (sA q : Int) ∧ I 6 s 3 = iZ (sL q : Int) ∧ ∀ k, k < 60 → J 41 s k = sC q k)
def shH (q : Sh) : Int := if sK q = 0 then -1 else if sK q = 1 then (sA q : Int) else -2 - (sA q : Int)
def ShM (I : IM) (J : JM) (s : Nat) (q : Sh) : Prop := I 81 0 s = iZ (shH q) ∧ (sK q = 2 → I 82 0 s = iZ (sL q : Int) ∧ ∀ k, k < 60 → J 83 0 (60 * s + k) = sC q k)
def ShOK (q : Sh) : Prop := sK q ≤ 2 ∧ (sK q = 1 → sA q < 50) ∧ (sK q = 2 → sA q ≤ 4 ∧ sL q ≤ 60 ∧ (sA q ≤ 1 → ∀ k, k < 60 → sC q k = (sC q k).toInt32.toInt64) ∧ (sA q = 1 → ∀ k, k < 60 → -32768 ≤ (sC q k).toInt32.toInt ∧ (sC q k).toInt32.toInt < 32768))
/-- the first of the drips that is not so -/
def nso (ch : List En) (q : Sh) : Nat → Nat → Int32
  | 0, _ => -2
  | n + 1, k => if sL q ≤ 2 * k then -2 else match stO ch (sC q (2 * k)).toInt32 with
    | none => iZ (k : Int)
    | some s => if sL q ≤ 2 * k + 1 then iZ (k : Int) else if (sC q (2 * k + 1)).toInt32 = iZ (s : Int) then nso ch q n (k + 1) else iZ (k : Int)
theorem lg_cmp_0 {x y : Int64} : lg_cmp x y = 0 ↔ x = y := by
  unfold lg_cmp
  constructor
  · intro h
    split at h
    · exact absurd h (by decide)
    · split at h
      · assumption
      · exact absurd h (by decide)
  · rintro rfl
    rw [if_neg (by exact Int64.lt_irrefl), if_pos rfl]
theorem w_fns {w1 : Nat} {q : Sh} (hW : WkAt w r I E f nw) (hx : ∀ e ∈ E, xs e ≤ 1000000) (hq : ShC I J w1 q) (hk : sK q = 2) (hok : ShOK q) (hs1 : sA q ≤ 1) : ∀ (n k : Nat) (v : Int32), n + k = 31 → v = nso (E.drop f) q n k → WP (D + 1) 75 2 [vr 8 w, vr 6 w1, vi (iZ ((2 * k : Nat) : Int)), vn] [] (101, I, J, R0 b) (fun r h => r = some (vi v) ∧ h = (101, I, J, R0 b)) := by
  obtain ⟨q1, q2, q3, _⟩ := hok.2.2 hk
  have q3 := q3 hs1
  obtain ⟨_, hln, hc⟩ := hq.2.2 hk
  intro n
  induction n with
  | zero =>
    intro k v hn hv
    refine t_X8_firstNotSo_2 w w1 _ I J b ?_
    rw [hln]
    exact ifp (tle (by omega) (by omega) (by omega)) ⟨by rw [hv]; rfl, rfl⟩
  | succ n ih =>
    intro k v hn hv
    unfold nso at hv
    have e2 : iZ ((2 * k : Nat) : Int) / (2 : Int32) = iZ (k : Int) := by
      rw [i_2, iZ_div (by omega) (by omega) (by omega) (by omega)]
      congr 1
      omega
    have e3 : iZ ((2 * k : Nat) : Int) + (1 : Int32) = iZ ((2 * k + 1 : Nat) : Int) := iZ_s _
    have e4 : iZ ((2 * k : Nat) : Int) + 2 = iZ ((2 * (k + 1) : Nat) : Int) := by
      rw [i_2, iZ_add]
      congr 1
    refine t_X8_firstNotSo_2 w w1 _ I J b ?_
    rw [hln, e2, e3, e4]
    by_cases hlen : sL q ≤ 2 * k
    · rw [if_pos hlen] at hv
      exact ifp (tle (by omega) (by omega) (by omega)) ⟨by rw [hv], rfl⟩
    · rw [if_neg hlen] at hv
      refine ifn (nle (by omega) (by omega) (by omega)) ⟨vp_iZ (by omega) (by omega) (by omega), ?_⟩
      rw [iZ_ck (by omega), hc _ (by omega)]
      refine (p_setOf hW).use ?_
      cases hst : stO (E.drop f) (sC q (2 * k)).toInt32 with
      | none =>
        rw [hst] at hv
        exact ifp (by decide) ⟨by rw [hv], rfl⟩
      | some s =>
        rw [hst] at hv
        have hs : s ≤ 1000000 := by
          unfold stO at hst
          rw [Option.map_eq_some_iff] at hst
          obtain ⟨e, he, rfl⟩ := hst
          exact hx e (List.mem_of_mem_drop (List.mem_of_find?_eq_some he))
        rw [show oI (some s) = iZ (s : Int) from rfl]
        dsimp only at hv
        refine ifn (by rw [i_0]; exact nlt (by omega) (by omega) (by omega)) ?_
        rw [hln]
        by_cases hl2 : sL q ≤ 2 * k + 1
        · rw [if_pos hl2] at hv
          exact ifp (tle (by omega) (by omega) (by omega)) ⟨by rw [hv], rfl⟩
        · rw [if_neg hl2] at hv
          refine ifn (nle (by omega) (by omega) (by omega)) ⟨vp_iZ (by omega) (by omega) (by omega), ?_⟩
          rw [iZ_ck (by omega), hc _ (by omega)]
          have hiff : lg_cmp (sC q (2 * k + 1)) (iZ (s : Int)).toInt64 = 0 ↔ (sC q (2 * k + 1)).toInt32 = iZ (s : Int) := by
            rw [lg_cmp_0]
            constructor
            · intro h
              rw [h]
              simp
            · intro h
              rw [q3 _ (by omega), h]
          refine ifs (fun c => ?_) (fun c => ?_)
          · rw [if_pos (hiff.mp c)] at hv
            exact ih (k + 1) v (by omega) hv
          · rw [if_neg (fun z => c (hiff.mpr z))] at hv
            exact ⟨by rw [hv], rfl⟩
theorem p_fns {w1 : Nat} {q : Sh} (hW : WkAt w r I E f nw) (hx : ∀ e ∈ E, xs e ≤ 1000000) (hq : ShC I J w1 q) (hk : sK q = 2) (hok : ShOK q) (hs1 : sA q ≤ 1) : Pu (D + 2) 75 [vr 8 w, vr 6 w1] I J b (nso (E.drop f) q 31 0) := by
  refine t_X8_firstNotSo w w1 I J b ?_
  exact w_fns hW hx hq hk hok hs1 31 0 _ (by omega) rfl
theorem p_M_isJoint {x : Int32} {n : Nat} (h1 : I 10 0 1 = iZ (n : Int)) (hn : n ≤ 7) : Pu (D + 2) 137 [vr 10 0, vi x] I J b (bI (decide (0 ≤ x.toInt ∧ x.toInt < n))) := by
  refine t_X10_isJoint _ I J b ?_
  refine (p_M_in x 0 _).use ⟨bI_and _, ?_, rfl⟩
  rw [inB_eq, h1, i_1, iZ_sub, iZ_toInt (by omega) (by omega)]
  have e0 : (0 : Int32).toInt = 0 := rfl
  rw [e0]
  congr 3
  rw [Bool.eq_iff_iff]
  simp only [Bool.and_eq_true, decide_eq_true_eq]
  omega
theorem p_at {s k : Nat} (hs : s < 6) (hk : k < 60) : Pu (D + 1) 182 [vr 10 0, vi (iZ (s : Int)), vi (iZ (k : Int))] I J b (J 83 0 (60 * s + k)).toInt32 := by
  refine t_X10_at _ _ I J b ?_
  have e : (60 : Int32) * iZ (s : Int) + iZ (k : Int) = iZ ((60 * s + k : Nat) : Int) := by
    rw [show (60 : Int32) = iZ 60 from rfl, iZ_mul, iZ_add]
    congr 1
  rw [e, iZ_ck (by omega)]
  exact ⟨vp_iZ (by omega) (by omega) (by omega), rfl, rfl⟩
theorem stO_of {ch : List En} (hn : (ch.map xj).Nodup) (h7 : ∀ e ∈ ch, xj e < 7) {e : En} (he : e ∈ ch) : stO ch (iZ (xj e : Int)) = some (xs e) := by
  unfold stO
  induction ch with
  | nil => cases he
  | cons x ch ih =>
    rw [List.find?_cons]
    rcases List.mem_cons.mp he with rfl | he2
    · rw [decide_eq_true rfl]
      rfl
    · simp only [List.map_cons, List.nodup_cons] at hn
      have hne : xj x ≠ xj e := fun z => hn.1 (List.mem_map.mpr ⟨e, he2, z.symm⟩)
      have h1 := h7 x (by simp)
      have h2 := h7 e (by simp [he2])
      rw [decide_eq_false (nne (by omega) (by omega) (by omega) (by omega) (by omega))]
      exact ih hn.2 (fun y hy => h7 y (by simp [hy])) he2
theorem w_wrongDrip {s : Nat} {q : Sh} (hs : s < 6) (hH : HoAt I E f nw) (hM : MbAt I P) (hP : PaOK P) (hN : pN P = false) (hG : Gd P E nw) (h7 : ∀ e ∈ E, xj e < pn P) (hnd : ((E.drop f).map xj).Nodup) (hq : ShM I J s q) (hk : sK q = 2) (hok : ShOK q) (hs1 : sA q ≤ 1) : ∀ (n k : Nat) (v : Int32), n + k = 31 → v = nso (E.drop f) q n k → WP (D + 2) 204 2 [vr 10 0, vi (iZ (s : Int)), vi (iZ (k : Int)), vn] [] (101, I, J, R0 b) (fun r h => r = some (vi v) ∧ h = (101, I, J, R0 b)) := by
  have p7 := hP.1
  obtain ⟨q1, q2, q3, _⟩ := hok.2.2 hk
  obtain ⟨hln, hc⟩ := hq.2 hk
  obtain ⟨_, _, h38, h66⟩ := hH
  have hB : bs (E.drop f) < 128 := bs_lt (fun x hx => Nat.lt_of_lt_of_le (h7 x (List.mem_of_mem_drop hx)) p7)
  have hvs : vp_in (iZ (s : Int)) 6 := vp_iZ (by omega) (by omega) (by omega)
  intro n
  induction n with
  | zero =>
    intro k v hn hv
    refine t_X10_wrongDrip_2 _ _ I J b ⟨hvs, ?_⟩
    rw [iZ_ck (by omega), hln, i_2, iZ_mul]
    exact ifp (tle (by omega) (by omega) (by omega)) ⟨by rw [hv]; rfl, rfl⟩
  | succ n ih =>
    intro k v hn hv
    unfold nso at hv
    have e2 : (2 : Int32) * iZ (k : Int) = iZ ((2 * k : Nat) : Int) := by
      rw [i_2, iZ_mul]
      congr 1
    have e3 : iZ ((2 * k : Nat) : Int) + (1 : Int32) = iZ ((2 * k + 1 : Nat) : Int) := iZ_s _
    refine t_X10_wrongDrip_2 _ _ I J b ⟨hvs, ?_⟩
    rw [e2, e3, iZ_ck (by omega), hln]
    by_cases hlen : sL q ≤ 2 * k
    · rw [if_pos hlen] at hv
      exact ifp (tle (by omega) (by omega) (by omega)) ⟨by rw [hv], rfl⟩
    · rw [if_neg hlen] at hv
      refine ifn (nle (by omega) (by omega) (by omega)) ⟨hvs, ?_⟩
      have hnone : ∀ x : Int32, (∀ e ∈ E.drop f, x ≠ iZ (xj e : Int)) → stO (E.drop f) x = none := by
        intro x hx
        unfold stO
        rw [List.find?_eq_none.mpr]
        · rfl
        · intro e he
          simp only [decide_eq_true_eq]
          exact fun z => hx e he z.symm
      by_cases hl2 : sL q ≤ 2 * k + 1
      · refine ifn (nlt (by omega) (by omega) (by omega)) ⟨?_, rfl⟩
        cases hst : stO (E.drop f) (sC q (2 * k)).toInt32 with
        | none => rw [hst] at hv; rw [hv]
        | some t =>
          rw [hst] at hv
          dsimp only at hv
          rw [if_pos hl2] at hv
          rw [hv]
      · refine ifp (tlt (by omega) (by omega) (by omega)) ?_
        refine (p_at hs (by omega)).use ?_
        rw [hc _ (by omega)]
        refine (p_M_isJoint hM.1 p7).use ?_
        by_cases hj : 0 ≤ (sC q (2 * k)).toInt32.toInt ∧ (sC q (2 * k)).toInt32.toInt < pn P
        · rw [decide_eq_true hj]
          refine ifn (by decide) ?_
          obtain ⟨j, hjj⟩ : ∃ j : Nat, (sC q (2 * k)).toInt32.toInt = j := ⟨(sC q (2 * k)).toInt32.toInt.toNat, by omega⟩
          have hx : (sC q (2 * k)).toInt32 = iZ (j : Int) := by rw [← hjj, iZ_self]
          rw [hx] at hv ⊢
          rw [h38, iZ_ck (by omega)]
          refine ifs (fun c => ?_) (fun c => ⟨vp_iZ (by omega) (by omega) (by omega), ?_⟩)
          · rw [hnone] at hv
            · exact ⟨by rw [hv], rfl⟩
            · intro e he hxx
              rw [iZ_eq (by omega) (by omega) (by have := h7 e (List.mem_of_mem_drop he); omega) (by have := h7 e (List.mem_of_mem_drop he); omega)] at hxx
              have c1 : tb (bs (E.drop f)) j = true := by
                rw [tb_bit hB (by omega), bs_bit, List.any_eq_true]
                exact ⟨e, he, by simp; omega⟩
              have c2 := of_decide_eq_true c1
              rw [c] at c2
              exact absurd c2 (by decide)
          · have c1 : tb (bs (E.drop f)) j = true := by
              have : ∀ B : Fin 128, ∀ j : Fin 7, ¬ (((iZ (B.val : Int)) >>> (iZ (j.val : Int) &&& 31)) &&& (1 : Int32)) = 0 → tb B.val j.val = true := by decide +kernel
              exact this ⟨bs (E.drop f), hB⟩ ⟨j, by omega⟩ c
            rw [tb_bit hB (by omega), bs_bit, List.any_eq_true] at c1
            obtain ⟨e, he, hej⟩ := c1
            have hej : xj e = j := by simpa using hej
            have hst : stO (E.drop f) (iZ (j : Int)) = some (xs e) := by
              rw [← hej]
              exact stO_of hnd (fun x hx => Nat.lt_of_lt_of_le (h7 x (List.mem_of_mem_drop hx)) p7) he
            rw [hst] at hv
            dsimp only at hv
            rw [if_neg hl2] at hv
            have h66e : I 66 0 j = iZ (xs e : Int) := by
              obtain ⟨t, t1, t2⟩ := h66 e he
              rw [hej] at t1
              rw [t1]
              have h4 := (hG.1 e (List.mem_of_mem_drop he)).2.2.2.1
              rw [if_neg (by rw [hN]; decide)] at h4
              have := hG.2
              have : t = xs e := by omega
              rw [this]
            refine (p_at hs (by omega)).use ?_
            rw [hc _ (by omega), h66e]
            refine ifs (fun c => ?_) (fun c => ?_)
            · rw [if_pos c.symm] at hv
              rw [iZ_s]
              exact ih (k + 1) v (by omega) hv
            · rw [if_neg (fun z => c z.symm)] at hv
              exact ⟨by rw [hv], rfl⟩
        · rw [decide_eq_false hj]
          rw [hnone] at hv
          · exact ifp rfl ⟨by rw [hv], rfl⟩
          · intro e he hxx
            have := h7 e (List.mem_of_mem_drop he)
            rw [hxx, iZ_toInt (by omega) (by omega)] at hj
            omega
theorem p_wrongDrip {s : Nat} {q : Sh} (hs : s < 6) (hH : HoAt I E f nw) (hM : MbAt I P) (hP : PaOK P) (hN : pN P = false) (hG : Gd P E nw) (h7 : ∀ e ∈ E, xj e < pn P) (hnd : ((E.drop f).map xj).Nodup) (hq : ShM I J s q) (hk : sK q = 2) (hok : ShOK q) (hs1 : sA q ≤ 1) : Pu (D + 3) 204 [vr 10 0, vi (iZ (s : Int))] I J b (nso (E.drop f) q 31 0) := by
  refine t_X10_wrongDrip _ I J b ?_
  exact w_wrongDrip hs hH hM hP hN hG h7 hnd hq hk hok hs1 31 0 _ (by omega) rfl
end READ
