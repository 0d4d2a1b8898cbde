/-! RUNS OF ORDERS: split, cut, what they depend on -/
theorem go_cons {P : Pa} {f j : Nat} {T : List Nat} {E : List En} {nw : Nat} : go P f (j :: T) E nw = match joi P E f nw j with
    | none => (E, nw)
    | some e => go P f T (E ++ [e]) (xf e) := rfl
theorem go_split {P : Pa} {f : Nat} : ∀ (T1 T2 : List Nat) (E : List En) (nw : Nat), go P f (T1 ++ T2) E nw = if (go P f T1 E nw).1.length = E.length + T1.length then go P f T2 (go P f T1 E nw).1 (go P f T1 E nw).2 else go P f T1 E nw
  | [], T2, E, nw => by simp [go]
  | j :: T1, T2, E, nw => by
    rw [List.cons_append, go_cons, go_cons]
    cases hj : joi P E f nw j with
    | none =>
      dsimp only
      rw [if_neg (by simp)]
    | some e =>
      dsimp only
      rw [go_split T1 T2]
      have e1 : (E ++ [e]).length + T1.length = E.length + (j :: T1).length := by simp; omega
      rw [e1]
def lF (E : List En) (d : Nat) : Nat := match E.getLast? with
  | none => d
  | some e => xf e
theorem go_len {P : Pa} {f : Nat} : ∀ (T : List Nat) (E : List En) (nw : Nat), E.length ≤ (go P f T E nw).1.length ∧ (go P f T E nw).1.length ≤ E.length + T.length
  | [], E, nw => by simp [go]
  | j :: T, E, nw => by
    unfold go
    cases joi P E f nw j with
    | none => simp
    | some e =>
      have := go_len (P := P) (f := f) T (E ++ [e]) (xf e)
      dsimp only
      simp only [List.length_append, List.length_cons, List.length_nil] at this ⊢
      omega
theorem go_now {P : Pa} {f : Nat} : ∀ (T : List Nat) (E : List En) (nw : Nat), (go P f T E nw).2 = if (go P f T E nw).1.length = E.length then nw else lF (go P f T E nw).1 0
  | [], E, nw => by simp [go]
  | j :: T, E, nw => by
    have hl := go_len (P := P) (f := f) (j :: T) E nw
    unfold go at hl ⊢
    cases joi P E f nw j with
    | none => simp
    | some e =>
      dsimp only at hl ⊢
      have h2 := go_len (P := P) (f := f) T (E ++ [e]) (xf e)
      simp only [List.length_append, List.length_cons, List.length_nil] at h2
      rw [if_neg (by omega), go_now T (E ++ [e]) (xf e)]
      split
      · next hz =>
        obtain ⟨F, hF⟩ := go_app (P := P) (f := f) T (E ++ [e]) (xf e)
        have hFn : F = [] := by
          have := congrArg List.length hF
          rw [hz] at this
          simp at this
          exact this
        rw [hF, hFn]
        simp [lF]
      · rfl
/-- a beginning that goes in goes in alike -/
theorem goL_take {P : Pa} {L : List Nat} {k : Nat} (hk : k ≤ (goL P L).length) (hkL : k ≤ L.length) : goL P (L.take k) = (goL P L).take k ∧ goN P (L.take k) = lF ((goL P L).take k) 0 := by
  have hs := go_split (P := P) (f := 0) (L.take k) (L.drop k) [] 0
  rw [List.take_append_drop] at hs
  have hlen := go_len (P := P) (f := 0) (L.take k) [] 0
  have hwhole : (go P 0 (L.take k) [] 0).1.length = k := by
    by_cases h : (go P 0 (L.take k) [] 0).1.length = ([] : List En).length + (L.take k).length
    · rw [h]; simp; omega
    · rw [if_neg h] at hs
      unfold goL at hk
      rw [hs] at hk
      simp at hlen h
      omega
  have hEq : goL P (L.take k) = (goL P L).take k := by
    rw [if_pos (by rw [hwhole]; simp; omega)] at hs
    obtain ⟨F, hF⟩ := go_app (P := P) (f := 0) (L.drop k) (go P 0 (L.take k) [] 0).1 (go P 0 (L.take k) [] 0).2
    have ht : ((go P 0 (L.take k) [] 0).1 ++ F).take k = (go P 0 (L.take k) [] 0).1 := by
      rw [List.take_append_of_le_length (by omega)]
      exact List.take_of_length_le (by omega)
    unfold goL
    rw [hs, hF]
    exact ht.symm
  refine ⟨hEq, ?_⟩
  rw [← hEq]
  unfold goN goL
  rw [go_now]
  split
  · next h =>
    have : (go P 0 (L.take k) [] 0).1 = [] := List.eq_nil_of_length_eq_zero (by simpa using h)
    rw [this]
    rfl
  · rfl
/-- only the minutes at a joint's own place count -/
theorem go_cong {P P' : Pa} {f : Nat} (h1 : P.1 = P'.1) (h2 : P.2.1 = P'.2.1) : ∀ (T : List Nat) (E : List En) (nw : Nat), (∀ (k j : Nat), T[k]? = some j → pM P j (E.length - f + k) = pM P' j (E.length - f + k)) → f ≤ E.length → go P f T E nw = go P' f T E nw
  | [], E, nw, _, _ => rfl
  | j :: T, E, nw, h, hf => by
    obtain ⟨a, t, m⟩ := P
    obtain ⟨a', t', m'⟩ := P'
    dsimp only at h1 h2
    subst h1 h2
    have h0 : m j (E.length - f) = m' j (E.length - f) := h 0 j rfl
    have hb : beg (a, t, m) E f nw j = beg (a, t, m') E f nw j := rfl
    have ht : ∀ rd, tilF (a, t, m) E f j rd = tilF (a, t, m') E f j rd := by
      intro rd
      show (if a.2.2.1 then 1000000 else rd + m j (E.length - f)) = (if a.2.2.1 then 1000000 else rd + m' j (E.length - f))
      rw [h0]
    have hh : ∀ rd, hldF (a, t, m) E f j rd = hldF (a, t, m') E f j rd := by
      intro rd
      unfold hldF
      rw [ht]
      rfl
    have hc : ∀ rd, clmF (a, t, m) E f j rd = clmF (a, t, m') E f j rd := by
      intro rd
      unfold clmF
      rw [hh]
      rfl
    have hfa : ∀ st mi, fas (a, t, m) E f j st mi = fas (a, t, m') E f j st mi := by
      intro st mi
      unfold fas
      rw [ht, hh, hc]
      rfl
    have hj : joi (a, t, m) E f nw j = joi (a, t, m') E f nw j := by
      unfold joi
      rw [hb]
      split
      · rfl
      · exact hfa _ _
    unfold go
    rw [hj]
    split
    · rfl
    · next e _ =>
      refine go_cong (P := (a, t, m)) (P' := (a, t, m')) rfl rfl T (E ++ [e]) (xf e) (fun k x hk => ?_) (by simp; omega)
      have := h (k + 1) x hk
      rw [show (E ++ [e]).length - f + k = E.length - f + (k + 1) by simp; omega]
      exact this
theorem goL_cong {P P' : Pa} {L : List Nat} (h1 : P.1 = P'.1) (h2 : P.2.1 = P'.2.1) (h : ∀ (k j : Nat), L[k]? = some j → pM P j k = pM P' j k) : goL P L = goL P' L := by
  have := go_cong (f := 0) h1 h2 L [] 0 (fun k j hk => by simpa using h k j hk) (Nat.le_refl _)
  unfold goL
  rw [this]
theorem db_all : ∀ B : Fin 128, ∀ j : Fin 7, B.val.testBit j.val = false → iZ ((B.val ||| 2 ^ j.val : Nat) : Int) &&& (((1 : Int32) <<< (iZ (j.val : Int) &&& 31)) ^^^ (-1 : Int32)) = iZ (B.val : Int) := by decide +kernel
section CUT
variable {D w r nw : Nat} {I : IM} {J : JM} {b : Bool} {E : List En} {P : Pa}
theorem e_drop {e : En} (hW : WkAt w r I (E ++ [e]) 0 nw) (h7 : ∀ x ∈ E ++ [e], xj x < 7) (hnd : ((E ++ [e]).map xj).Nodup) : Call (D + 1) 67 [vr 8 w] (101, I, J, R0 b) (RVf b fun I' J' => J' = J ∧ Fr (pW w) I I' ∧ WkAt w r I' E 0 (lF E 0)) := by
  obtain ⟨⟨g30, g31, g32, g33, g34, g35, gr, gr2⟩, hl, hf, hbs, hn, hE, hr, hfl⟩ := hW
  have hlen : (E ++ [e]).length = E.length + 1 := by simp
  rw [hlen] at hl hr
  obtain ⟨e1, _⟩ := hE E.length e (by simp)
  have hj := h7 e (by simp)
  have hB : bs E < 128 := bs_lt (fun x hx => h7 x (by simp [hx]))
  have hbit : (bs E).testBit (xj e) = false := by
    rw [bs_bit, List.any_eq_false]
    intro x hx
    rw [List.map_append, List.nodup_append] at hnd
    have := hnd.2.2 (xj x) (List.mem_map.mpr ⟨x, hx, rfl⟩) (xj e) (by simp)
    simpa using this
  have hdb := db_all ⟨bs E, hB⟩ ⟨xj e, hj⟩ hbit
  dsimp only at hdb
  rw [List.drop_zero, bs_app] at hbs
  have es : I 8 w 10 - (1 : Int32) = iZ (E.length : Int) := by
    rw [hl]
    exact z_1 _
  refine t_X8_drop w I J b ?_
  rw [es, hl, g30, g32]
  refine ifn (by rw [i_0]; exact nle (by omega) (by omega) (by omega)) ?_
  have e10 : updI I 8 w 10 (iZ (E.length : Int)) 8 w 10 = iZ (E.length : Int) := uI_eq
  rw [e10, iZ_ck (by omega), e1, hbs]
  rw [hdb]
  have e10b : updI (updI I 8 w 10 (iZ (E.length : Int))) 8 w 11 (iZ (bs E : Int)) 8 w 10 = iZ (E.length : Int) := by
    rw [updI_if, if_neg (by omega)]
    exact e10
  rw [e10b]
  have hmk : ∀ v, v = iZ (lF E 0 : Int) → WkAt w r (updI (updI (updI I 8 w 10 (iZ (E.length : Int))) 8 w 11 (iZ (bs E : Int))) 8 w 12 v) E 0 (lF E 0) := by
    intro v hv
    refine ⟨⟨g30, g31, g32, g33, g34, g35, ?_, gr2⟩, ?_, ?_, ?_, ?_, ?_, by omega, by omega⟩
    · simpa [updI_if] using gr
    · simp [updI_if]
    · simpa [updI_if] using hf
    · simp [updI_if]
    · simp [updI_if, hv]
    · intro k x hk
      have hkl := (List.getElem?_eq_some_iff.mp hk).1
      have := hE k x (by rw [List.getElem?_append_left hkl]; exact hk)
      simpa [updI_if] using this
  have hfr : ∀ v, Fr (pW w) I (updI (updI (updI I 8 w 10 (iZ (E.length : Int))) 8 w 11 (iZ (bs E : Int))) 8 w 12 v) := by
    intro v
    refine Fr.upd (Fr.upd (Fr.upd Fr.id ?_) ?_) ?_ <;> simp [pW]
  refine ⟨vp_iZ (by omega) (by omega) (by omega), ?_⟩
  by_cases h0 : E.length = 0
  · have hE0 : E = [] := List.eq_nil_of_length_eq_zero h0
    refine ifp (by rw [i_0]; exact tle (by omega) (by omega) (by omega)) (RVf.mk ⟨rfl, hfr _, hmk _ ?_⟩)
    rw [hE0]
    rfl
  · refine ifn (by rw [i_0]; exact nle (by omega) (by omega) (by omega)) ?_
    obtain ⟨m, hm⟩ : ∃ m, E.length = m + 1 := ⟨E.length - 1, by omega⟩
    have em : iZ (E.length : Int) - (1 : Int32) = iZ (m : Int) := by rw [hm]; exact z_1 m
    rw [em, iZ_ck (by omega)]
    refine ⟨vp_iZ (by omega) (by omega) (by omega), RVf.mk ⟨rfl, hfr _, hmk _ ?_⟩⟩
    have hgm : E[m]? = some E[m] := List.getElem?_eq_getElem (by omega)
    have := hE m E[m] (by rw [List.getElem?_append_left (by omega)]; exact hgm)
    rw [this.2.2.1]
    unfold lF
    rw [List.getLast?_eq_getElem?, show E.length - 1 = m by omega, hgm]
theorem w_cutTo (h7 : ∀ x ∈ E, xj x < 7) (hnd : (E.map xj).Nodup) {k : Nat} {I0 : IM} : ∀ (n i : Nat) (nw : Nat) (I : IM), n + k = i → i ≤ E.length → i ≤ 35 → WkAt w r I (E.take i) 0 nw → (n = 0 → nw = lF (E.take k) 0) → Fr (pW w) I0 I → WP (D + 1) 68 5 [vr 8 w, vi (iZ (k : Int)), vi (iZ (i : Int))] [] (101, I, J, R0 b) (RVf b fun I' J' => J' = J ∧ Fr (pW w) I0 I' ∧ WkAt w r I' (E.take k) 0 (lF (E.take k) 0)) := by
  intro n
  induction n with
  | zero =>
    intro i nw I hi hil h35 hW hnw hf
    have : i = k := by omega
    subst this
    refine t_X8_cutTo_5 w _ _ I J b (ifp (tle (by omega) (by omega) (by omega)) (RVf.mk ⟨rfl, hf, ?_⟩))
    rw [← hnw rfl]
    exact hW
  | succ n ih =>
    intro i nw I hi hil h35 hW hnw hf
    obtain ⟨m, rfl⟩ : ∃ m, i = m + 1 := ⟨i - 1, by omega⟩
    have hg : E[m]? = some E[m] := List.getElem?_eq_getElem (by omega)
    have ht : E.take (m + 1) = E.take m ++ [E[m]] := by rw [List.take_add_one, hg]; rfl
    rw [ht] at hW
    refine t_X8_cutTo_5 w _ _ I J b (ifn (nle (by omega) (by omega) (by omega)) ?_)
    refine (e_drop hW (fun x hx => h7 x (by rw [← ht] at hx; exact List.mem_of_mem_take hx)) ?_).useV ?_
    · rw [← ht]
      exact List.Nodup.sublist ((List.take_sublist _ _).map xj) hnd
    · rintro I1 J1 ⟨rfl, hf1, hW1⟩
      rw [z_m1]
      exact ih m _ I1 (by omega) (by omega) (by omega) hW1 (fun h => by
        have : m = k := by omega
        rw [this]) (hf.tr hf1)
theorem e_cutTo {k : Nat} (hW : WkAt w r I E 0 nw) (h7 : ∀ x ∈ E, xj x < 7) (hnd : (E.map xj).Nodup) (hk : k < E.length) : Call (D + 2) 68 [vr 8 w, vi (iZ (k : Int))] (101, I, J, R0 b) (RVf b fun I' J' => J' = J ∧ Fr (pW w) I I' ∧ WkAt w r I' (E.take k) 0 (lF (E.take k) 0)) := by
  have hr : E.length ≤ 35 := Nat.le_trans hW.2.2.2.2.2.2.1 hW.1.2.2.2.2.2.2.2
  refine t_X8_cutTo w _ I J b ?_
  rw [hW.2.1]
  exact w_cutTo h7 hnd (E.length - k) E.length nw I (by omega) (by omega) hr (by rw [List.take_length]; exact hW) (fun h => by omega) Fr.id
end CUT
