/-! THE CLASS SEEKS: every order, first by numbers first, given up early -/
def dV (o : Option Int) : Int32 := match o with
  | none => -100000
  | some x => iZ x
def DuC (I : IM) (due : Nat → Option Int) : Prop := ∀ j, j < 7 → I 36 0 j = dV (due j) ∧ ∀ x, due j = some x → -32768 ≤ x ∧ x < 32768
def dOK (due : Nat → Option Int) (e : En) : Bool := match due (xj e) with
  | none => true
  | some x => decide (x = (xs e : Int))
def ful (P : Pa) (n : Nat) (due : Nat → Option Int) (L : List Nat) : Bool := decide ((goL P L).length = n) && (goL P L).all (dOK due)
/-- how many came; the one found, when it is done; the limit; whether it has ended -/
abbrev Ss : Type := Nat × List Nat × Nat × Nat × Bool
def comS (P : Pa) (aim : Nat) (st : Ss) (L : List Nat) : Ss := (st.1 + 1, if st.1 = 0 ∨ aim = 2 then L else st.2.1, if st.1 = 0 ∨ aim = 2 then ltE (goL P L) else st.2.2.1, if aim = 2 then ltE (goL P L) else st.2.2.2.1, decide (aim = 0 ∨ aim = 3))
def cst (P : Pa) (n : Nat) (due : Nat → Option Int) (aim : Nat) (st : Ss) (L : List Nat) : Ss := if st.2.2.2.2 = false ∧ ful P n due L = true ∧ ltE (goL P L) < st.2.2.2.1 then comS P aim st L else st
def dps (P : Pa) (d : Nat) (L : List Nat) : Nat := max d (goL P L).length
def SrC (I : IM) (aim n : Nat) (st : Ss) (dp : Nat) : Prop := I 5 0 4 = iZ (aim : Int) ∧ I 5 0 5 = iZ (st.2.2.2.1 : Int) ∧ I 5 0 6 = bI st.2.2.2.2 ∧ I 5 0 7 = iZ (st.1 : Int) ∧ (0 < st.1 → I 5 0 8 = iZ (st.2.2.1 : Int) ∧ st.2.1.length = n ∧ ∀ (k j : Nat), st.2.1[k]? = some j → I 37 0 k = iZ (j : Int)) ∧ (aim = 3 → I 5 0 9 = iZ (dp : Int) ∧ dp ≤ n ∧ (st.2.2.2.2 = true → dp = n))
def pSe (s j k : Nat) : Bool := pW 0 s j k || (Nat.beq s 37 || (Nat.beq s 5 && Nat.ble 4 k))
theorem pSe_iff {s j k : Nat} : pSe s j k = true ↔ (j = 0 ∧ ((s = 8 ∧ 9 ≤ k) ∨ (30 ≤ s ∧ s ≤ 35))) ∨ s = 37 ∨ (s = 5 ∧ 4 ≤ k) := by
  unfold pSe pW
  simp only [Bool.or_eq_true, Bool.and_eq_true, nb_iff, Nat.ble_eq]
theorem pSe_ct {I I' : IM} (h : Fr pSe I I') : Fr pCt I I' := h.subT (fun s j k z => by
  rw [pSe_iff] at z
  rw [pCt_iff]
  omega)
theorem pW_se {I I' : IM} (h : Fr (pW 0) I I') : Fr pSe I I' := h.subT (fun s j k z => by
  unfold pSe
  rw [z]
  rfl)
theorem cst_en {P : Pa} {n aim : Nat} {due : Nat → Option Int} {st : Ss} (h : st.2.2.2.2 = true) : ∀ l : List (List Nat), l.foldl (cst P n due aim) st = st
  | [] => rfl
  | L :: l => by
    rw [List.foldl_cons]
    have : cst P n due aim st L = st := by
      unfold cst
      rw [if_neg (by rw [h]; simp)]
    rw [this]
    exact cst_en h l
theorem cst_skip {P : Pa} {n aim : Nat} {due : Nat → Option Int} {st : Ss} : ∀ l : List (List Nat), (∀ L ∈ l, ¬ (ful P n due L = true ∧ ltE (goL P L) < st.2.2.2.1)) → l.foldl (cst P n due aim) st = st
  | [], _ => rfl
  | L :: l, h => by
    rw [List.foldl_cons]
    have : cst P n due aim st L = st := by
      unfold cst
      rw [if_neg (fun z => h L (by simp) z.2)]
    rw [this]
    exact cst_skip l (fun x hx => h x (by simp [hx]))
theorem dps_same {P : Pa} {d : Nat} : ∀ l : List (List Nat), (∀ L ∈ l, (goL P L).length ≤ d) → l.foldl (dps P) d = d
  | [], _ => rfl
  | L :: l, h => by
    rw [List.foldl_cons]
    have : dps P d L = d := by
      unfold dps
      have := h L (by simp)
      omega
    rw [this]
    exact dps_same l (fun x hx => h x (by simp [hx]))
theorem goL_sn {P : Pa} {pre : List Nat} {j : Nat} (hw : (goL P pre).length = pre.length) : (go P 0 (pre ++ [j]) [] 0) = match joi P (goL P pre) 0 (goN P pre) j with
    | none => (goL P pre, goN P pre)
    | some e => (goL P pre ++ [e], xf e) := by
  rw [go_split, if_pos (by simpa [goL] using hw), go_cons]
  rfl
/-- an order goes on as its beginning went -/
theorem goL_pre {P : Pa} {pre t : List Nat} : (∃ F, goL P (pre ++ t) = goL P pre ++ F) ∧ ((goL P pre).length ≠ pre.length → goL P (pre ++ t) = goL P pre) := by
  unfold goL
  rw [go_split]
  constructor
  · split
    · exact go_app t _ _
    · exact ⟨[], by simp⟩
  · intro h
    rw [if_neg (by simpa using h)]
theorem goL_le (P : Pa) (L : List Nat) : (goL P L).length ≤ L.length := by
  have := (go_len (P := P) (f := 0) L [] 0).2
  simpa [goL] using this
theorem ltE_pre {E F : List En} : ltE E ≤ ltE (E ++ F) := by
  rw [ltE_apps]
  omega
/-- what is left takes that long at least -/
theorem goL_bound {P : Pa} {n : Nat} {pre t : List Nat} {ms : Nat} (hP : PaOK P) (hN : pN P = false) (hn : pn P = n) (h1 : (pre ++ t).Nodup) (h2 : ∀ j ∈ pre ++ t, j < n) (h3 : (pre ++ t).length = n) (hw : (goL P (pre ++ t)).length = n) (hpos : 0 < n) (hms : ∀ j, j < n → ms ≤ pM P j (n - 1)) (hpw : (goL P pre).length = pre.length) : goN P pre + sfR (fun j => pT P j 0) pre n + ms ≤ ltE (goL P (pre ++ t)) := by
  have h7 := hP.1
  have hne : pre ++ t ≠ [] := by
    intro z
    rw [z] at h3
    simp at h3
    omega
  obtain ⟨e, j, b1, b2, b3, b4⟩ := go_last (P := P) (f := 0) hN (pre ++ t) [] 0 hne (by
    have := hw
    unfold goL at this
    rw [this, ← h3]
    simp)
  have hjm : j ∈ pre ++ t := List.mem_of_getLast? b2
  have hme := hms j (h2 j hjm)
  have hb5 : xs e = xf e + pM P j (n - 1) := by
    rw [b4]
    congr 2
    simp only [List.length_nil, Nat.zero_add, Nat.sub_zero]
    rw [h3]
  have hem : e ∈ goL P (pre ++ t) := List.mem_of_getLast? b1
  have hle := ltE_ge hem
  -- the fitting of what comes behind
  have hpre1 := List.nodup_append.mp h1
  obtain ⟨m, g1, g2, g3, g4, g5, g6, g7⟩ := go_spec hP pre [] 0 (ChOK.nil hpre1.1 (fun x hx => by rw [hn]; exact h2 x (by simp [hx]))) (Gd.nil (by omega)) (by
    have : pre.length ≤ n := by
      rw [← h3]
      simp
    omega)
  have hlenm : m = pre.length := by
    have := hpw
    unfold goL at this
    rw [g3] at this
    simpa using this
  have hsp := go_split (P := P) (f := 0) pre t [] 0
  rw [if_pos (by rw [g3, hlenm])] at hsp
  have hpl : pre.length + t.length = n := by rw [← h3]; simp
  have hC : ChOK P (go P 0 pre [] 0).1 0 t := by
    refine ⟨by omega, g4.2.1, fun x hx => by rw [hn]; exact h2 x (by simp [hx]), ?_⟩
    rw [List.drop_zero, g2, hlenm]
    simpa using h1
  have hft := go_fit (P := P) (f := 0) t (go P 0 pre [] 0).1 (go P 0 pre [] 0).2 g5 hP hC (by omega) (by
    have hw2 := hw
    unfold goL at hw2
    rw [hsp] at hw2
    rw [hw2, g3, hlenm]
    simp
    omega)
  rw [← hsp] at hft
  have hsf := sfR_list (V := fun j => pT P j 0) t pre h1 (fun x hx => h2 x (by simp [hx]))
  rw [sfR_full (fun k hk => full_in (by omega) h1 h2 h3 hk) n (Nat.le_refl _)] at hsf
  unfold goN
  rw [hsf]
  omega
section SEEK
variable {n aim ms : Nat} {P : Pa} {due : Nat → Option Int} {J : JM} {b : Bool}
theorem p_hasFitted {D w r f nw j : Nat} {I : IM} {E : List En} (hW : WkAt w r I E f nw) (h7 : ∀ e ∈ E, xj e < 7) (hj : j < 7) : Pu (D + 1) 63 [vr 8 w, vi (iZ (j : Int))] I J b (bI ((E.drop f).any fun e => xj e == j)) := by
  have hB : bs (E.drop f) < 128 := bs_lt (fun x hx => h7 x (List.mem_of_mem_drop hx))
  have ht : tb (bs (E.drop f)) j = (E.drop f).any fun e => xj e == j := by rw [tb_bit hB hj, bs_bit]
  refine t_X8_hasFitted w _ I J b ?_
  rw [hW.2.2.2.1]
  refine ifs (fun c => ⟨?_, rfl⟩) (fun c => ⟨?_, rfl⟩)
  · rw [← ht, show tb (bs (E.drop f)) j = false from decide_eq_false c]
    rfl
  · rw [← ht, show tb (bs (E.drop f)) j = true from decide_eq_true (Classical.not_not.mp c)]
    rfl
theorem p_isSo {D nw : Nat} {I : IM} {E : List En} {e : En} (hW : WkAt 0 35 I (E ++ [e]) 0 nw) (hd : DuC I due) (h7 : ∀ x ∈ E ++ [e], xj x < 7) (hnd : ((E ++ [e]).map xj).Nodup) (hx : xs e ≤ 1000000) : Pu (D + 2) 43 [vr 5 0, vi (iZ (xj e : Int))] I J b (bI (dOK due e)) := by
  have hj : xj e < 7 := h7 e (by simp)
  have hE : (E.find? fun z => decide (iZ (xj z : Int) = iZ (xj e : Int))) = none := by
    rw [List.find?_eq_none]
    intro y hy hz
    have hz := of_decide_eq_true hz
    have hy7 := h7 y (by simp [hy])
    rw [iZ_eq (by omega) (by omega) (by omega) (by omega)] at hz
    rw [List.map_append, List.nodup_append] at hnd
    exact hnd.2.2 (xj y) (List.mem_map.mpr ⟨y, hy, rfl⟩) (xj e) (by simp) (by omega)
  have hst : stO ((E ++ [e]).drop 0) (iZ (xj e : Int)) = some (xs e) := by
    unfold stO
    rw [List.drop_zero, List.find?_append, hE]
    simp
  have hvv : vp_in (iZ (xj e : Int)) 7 := vp_iZ (by omega) (by omega) (by omega)
  obtain ⟨d1, d2⟩ := hd (xj e) hj
  refine t_X5_isSo _ I J b ⟨hvv, ?_⟩
  rw [iZ_ck (by omega), d1]
  unfold dOK
  cases hdu : due (xj e) with
  | none => exact ifp rfl ⟨rfl, rfl⟩
  | some x =>
    obtain ⟨x1, x2⟩ := d2 x hdu
    refine ifn (by show ¬ iZ x = iZ (-100000); exact nne (by omega) (by omega) (by omega) (by omega) (by omega)) ⟨hvv, ?_⟩
    refine (p_setOf (D := D) hW).use ?_
    rw [hst]
    show (if ¬ iZ x = iZ (xs e : Int) then _ else _)
    dsimp only
    by_cases hxx : x = (xs e : Int)
    · rw [decide_eq_true hxx]
      exact ifn (fun z => z (by rw [hxx])) ⟨rfl, rfl⟩
    · rw [decide_eq_false hxx]
      exact ifp (nne (by omega) (by omega) (by omega) (by omega) hxx) ⟨rfl, rfl⟩
theorem cpyI_if {I : IM} {s j s2 j2 sp dp m a c k : Nat} : cpyI I s j s2 j2 sp dp m a c k = if a = s2 ∧ c = j2 then va_cpy (I s j) (I s2 j2) sp dp m k else I a c k := by
  unfold cpyI
  by_cases h1 : a = s2
  · by_cases h2 : c = j2
    · simp [h1, h2]
    · rw [if_neg (by simp [h2]), nbf h2]; simp
  · rw [if_neg (by simp [h1]), nbf h1]; simp
theorem e_come {D nw dp : Nat} {I : IM} {L : List Nat} {st : Ss} (hW : WkAt 0 35 I (goL P L) 0 nw) (hx : ∀ e ∈ goL P L, xs e ≤ 1000000) (hLl : L.length = n) (hLe : (goL P L).map xj = L) (hn7 : n ≤ 7) (h1 : I 1 0 1 = iZ (n : Int)) (ha : aim ≤ 3) (hS : SrC I aim n st dp) (hor : st.1 ≤ 900000) (hdp : aim = 3 → dp = n) : Call (D + 2) 44 [vr 5 0] (101, I, J, R0 b) (RVf b fun I' J' => J' = J ∧ Fr pSe I I' ∧ WkAt 0 35 I' (goL P L) 0 nw ∧ SrC I' aim n (comS P aim st L) dp) := by
  obtain ⟨s4, s5, s6, s7, s8, s9⟩ := hS
  have hlt : ltE (goL P L) ≤ 1000000 := ltE_le hx
  -- with a copy of the order, its end
  have hcopy : ∀ (I2 : IM) (lim : Int32) (en : Int32), (∀ s j k, ¬ (s = 5 ∧ j = 0 ∧ k = 7) → I2 s j k = I s j k) → I2 5 0 7 = iZ ((st.1 + 1 : Nat) : Int) → (st.1 = 0 ∨ aim = 2) → en = bI (decide (aim = 0 ∨ aim = 3)) → ∀ I3, ((aim = 2 ∧ I3 = updI (updI (cpyI (updI I2 5 0 8 (iZ (ltE (goL P L) : Int))) 30 0 37 0 0 0 n) 5 0 5 (iZ (ltE (goL P L) : Int))) 5 0 6 en) ∨ (aim ≠ 2 ∧ I3 = updI (cpyI (updI I2 5 0 8 (iZ (ltE (goL P L) : Int))) 30 0 37 0 0 0 n) 5 0 6 en)) → Fr pSe I I3 ∧ WkAt 0 35 I3 (goL P L) 0 nw ∧ SrC I3 aim n (comS P aim st L) dp := by
    intro I2 lim en h2 h27 hup hen I3 hI3
    have hfr : ∀ s j k, ¬ (s = 5 ∧ j = 0 ∧ 5 ≤ k ∧ k ≤ 8) → ¬ (s = 37 ∧ j = 0) → I3 s j k = I s j k := by
      intro s j k z1 z2
      rcases hI3 with ⟨_, rfl⟩ | ⟨_, rfl⟩
      · rw [updI_if, if_neg (by omega), updI_if, if_neg (by omega), cpyI_if, if_neg (by omega), updI_if, if_neg (by omega)]
        exact h2 s j k (by omega)
      · rw [updI_if, if_neg (by omega), cpyI_if, if_neg (by omega), updI_if, if_neg (by omega)]
        exact h2 s j k (by omega)
    refine ⟨fun s j k z => hfr s j k ?_ ?_, hW.frame (fun s k z => hfr _ _ _ (by omega) (by omega)), (hfr _ _ _ (by omega) (by omega)).trans s4, ?_, ?_, ?_, fun _ => ⟨?_, ?_, fun k j hk => ?_⟩, fun h3 => ?_⟩
    · rintro ⟨rfl, rfl, z1, z2⟩
      have : pSe 5 0 k = true := pSe_iff.mpr (by omega)
      rw [this] at z
      cases z
    · rintro ⟨rfl, rfl⟩
      have : pSe 37 0 k = true := pSe_iff.mpr (by omega)
      rw [this] at z
      cases z
    · unfold comS
      dsimp only
      rcases hI3 with ⟨h3, rfl⟩ | ⟨h3, rfl⟩
      · rw [if_pos h3, updI_if, if_neg (by omega), uI_eq]
      · rw [if_neg h3, updI_if, if_neg (by omega), cpyI_if, if_neg (by omega), updI_if, if_neg (by omega), h2 _ _ _ (by omega)]
        exact s5
    · rcases hI3 with ⟨h3, rfl⟩ | ⟨h3, rfl⟩
      · rw [uI_eq, hen]
        rfl
      · rw [uI_eq, hen]
        rfl
    · rcases hI3 with ⟨h3, rfl⟩ | ⟨h3, rfl⟩
      · rw [updI_if, if_neg (by omega), updI_if, if_neg (by omega), cpyI_if, if_neg (by omega), updI_if, if_neg (by omega)]
        exact h27
      · rw [updI_if, if_neg (by omega), cpyI_if, if_neg (by omega), updI_if, if_neg (by omega)]
        exact h27
    · unfold comS
      dsimp only
      rw [if_pos hup]
      rcases hI3 with ⟨h3, rfl⟩ | ⟨h3, rfl⟩
      · rw [updI_if, if_neg (by omega), updI_if, if_neg (by omega), cpyI_if, if_neg (by omega), uI_eq]
      · rw [updI_if, if_neg (by omega), cpyI_if, if_neg (by omega), uI_eq]
    · unfold comS
      dsimp only
      rw [if_pos hup]
      exact hLl
    · unfold comS at hk
      dsimp only at hk
      rw [if_pos hup] at hk
      have hkl := (List.getElem?_eq_some_iff.mp hk).1
      have hj30 : I 30 0 k = iZ (j : Int) := by
        have : ((goL P L).map xj)[k]? = some j := by rw [hLe]; exact hk
        rw [List.getElem?_map] at this
        cases he : (goL P L)[k]? with
        | none => rw [he] at this; cases this
        | some e =>
          rw [he] at this
          cases this
          exact (hW.2.2.2.2.2.1 k e he).1
      have hc37 : ∀ I2' : IM, I2' 30 0 k = I 30 0 k → va_cpy (I2' 30 0) (I2' 37 0) 0 0 n k = iZ (j : Int) := by
        intro I2' z
        unfold va_cpy
        rw [if_pos (by omega)]
        simpa using z.trans hj30
      have e30 : updI I2 5 0 8 (iZ (ltE (goL P L) : Int)) 30 0 k = I 30 0 k := by
        rw [updI_if, if_neg (by omega)]
        exact h2 _ _ _ (by omega)
      rcases hI3 with ⟨h3, rfl⟩ | ⟨h3, rfl⟩
      · rw [updI_if, if_neg (by omega), updI_if, if_neg (by omega), cpyI_if, if_pos ⟨rfl, rfl⟩]
        exact hc37 _ e30
      · rw [updI_if, if_neg (by omega), cpyI_if, if_pos ⟨rfl, rfl⟩]
        exact hc37 _ e30
    · exact ⟨(hfr _ _ _ (by omega) (by omega)).trans (s9 h3).1, (s9 h3).2.1, fun _ => hdp h3⟩
  -- without: more than one, and not the best
  have hplain : ∀ (en : Int32), st.1 ≠ 0 → aim ≠ 2 → en = bI (decide (aim = 0 ∨ aim = 3)) → Fr pSe I (updI (updI I 5 0 7 (iZ ((st.1 + 1 : Nat) : Int))) 5 0 6 en) ∧ WkAt 0 35 (updI (updI I 5 0 7 (iZ ((st.1 + 1 : Nat) : Int))) 5 0 6 en) (goL P L) 0 nw ∧ SrC (updI (updI I 5 0 7 (iZ ((st.1 + 1 : Nat) : Int))) 5 0 6 en) aim n (comS P aim st L) dp := by
    intro en h0 h2 hen
    have hfr : ∀ s j k, ¬ (s = 5 ∧ j = 0 ∧ (k = 6 ∨ k = 7)) → updI (updI I 5 0 7 (iZ ((st.1 + 1 : Nat) : Int))) 5 0 6 en s j k = I s j k := by
      intro s j k z
      rw [updI_if, if_neg (by omega), updI_if, if_neg (by omega)]
    refine ⟨(Fr.id.upd rfl).upd rfl, hW.frame (fun s k z => hfr _ _ _ (by omega)), (hfr _ _ _ (by omega)).trans s4, ?_, ?_, ?_, fun _ => ?_, fun h3 => ⟨(hfr _ _ _ (by omega)).trans (s9 h3).1, (s9 h3).2.1, fun _ => hdp h3⟩⟩
    · unfold comS
      dsimp only
      rw [if_neg h2]
      exact (hfr _ _ _ (by omega)).trans s5
    · rw [uI_eq, hen]
      rfl
    · rw [updI_if, if_neg (by omega), uI_eq]
      rfl
    · unfold comS
      dsimp only
      rw [if_neg (by omega), if_neg (by omega)]
      obtain ⟨y1, y2, y3⟩ := s8 (by omega)
      exact ⟨(hfr _ _ _ (by omega)).trans y1, y2, fun k j hk => (hfr _ _ _ (by omega)).trans (y3 k j hk)⟩
  have h7b : ∀ s j k, ¬ (s = 5 ∧ j = 0 ∧ k = 7) → updI I 5 0 7 (iZ ((st.1 + 1 : Nat) : Int)) s j k = I s j k := fun s j k z => by
    rw [updI_if, if_neg (by omega)]
  have hW7 : WkAt 0 35 (updI I 5 0 7 (iZ ((st.1 + 1 : Nat) : Int))) (goL P L) 0 nw := hW.frame (fun s k z => h7b _ _ _ (by omega))
  have hg : (¬ (0 : Int32) < 0 ∧ ¬ (0 : Int32) < 0 ∧ ¬ iZ (n : Int) < 0 ∧ 0 + n ≤ 35 ∧ 0 + n ≤ 7) := ⟨by decide, by decide, by rw [i_0]; exact nlt (by omega) (by omega) (by omega), by omega, by omega⟩
  refine t_X5_come I J b ?_
  rw [s7, iZ_s, s4]
  refine ifs (fun c1 => ?_) (fun c1 => ?_)
  · rw [i_1, iZ_eq (by omega) (by omega) (by omega) (by omega)] at c1
    refine (p_latest hW7 hx).use ?_
    rw [h7b 1 0 1 (by omega), h7b 5 0 4 (by omega), h1, s4, iZ_ck (by omega)]
    refine ⟨hg, ?_⟩
    rcases (show aim = 0 ∨ aim = 1 ∨ aim = 2 ∨ aim = 3 by omega) with rfl | rfl | rfl | rfl
    · exact ifp (by decide) (ifp rfl (RVf.mk ⟨rfl, hcopy _ 0 1 h7b uI_eq (by omega) rfl _ (Or.inr ⟨by omega, rfl⟩)⟩))
    · exact ifp (by decide) (ifn (by decide) (ifp (by decide) (RVf.mk ⟨rfl, hcopy _ 0 0 h7b uI_eq (by omega) rfl _ (Or.inr ⟨by omega, rfl⟩)⟩)))
    · exact ifn (fun z => z rfl) (ifn (by decide) (ifp (by decide) (RVf.mk ⟨rfl, hcopy _ 0 0 h7b uI_eq (by omega) rfl _ (Or.inl ⟨rfl, rfl⟩)⟩)))
    · exact ifp (by decide) (ifn (by decide) (ifn (fun z => z rfl) (RVf.mk ⟨rfl, hcopy _ 0 1 h7b uI_eq (by omega) rfl _ (Or.inr ⟨by omega, rfl⟩)⟩)))
  · rw [i_1, iZ_eq (by omega) (by omega) (by omega) (by omega)] at c1
    rcases (show aim = 0 ∨ aim = 1 ∨ aim = 2 ∨ aim = 3 by omega) with rfl | rfl | rfl | rfl
    · exact ifp (by decide) (ifp (by decide) (ifp rfl (RVf.mk ⟨rfl, hplain 1 (by omega) (by omega) rfl⟩)))
    · exact ifp (by decide) (ifp (by decide) (ifn (by decide) (ifp (by decide) (RVf.mk ⟨rfl, hplain 0 (by omega) (by omega) rfl⟩))))
    · refine ifn (fun z => z rfl) ?_
      refine (p_latest hW7 hx).use ?_
      rw [h7b 1 0 1 (by omega), h7b 5 0 4 (by omega), h1, s4, iZ_ck (by omega)]
      exact ⟨hg, ifn (fun z => z rfl) (ifn (by decide) (ifp (by decide) (RVf.mk ⟨rfl, hcopy _ 0 0 h7b uI_eq (by omega) rfl _ (Or.inl ⟨rfl, rfl⟩)⟩)))⟩
    · exact ifp (by decide) (ifp (by decide) (ifn (by decide) (ifn (fun z => z rfl) (RVf.mk ⟨rfl, hplain 1 (by omega) (by omega) rfl⟩))))
end SEEK
