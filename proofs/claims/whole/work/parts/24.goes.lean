/-! THE MODEL'S HOLDS: the next joint is fitted -/
def pTh (s _j k : Nat) : Bool := (Nat.ble 59 s && Nat.ble s 70) || (Nat.beq s 10 && ((Nat.ble 36 k && Nat.ble k 38) || (Nat.beq k 43 || (Nat.beq k 46 || (Nat.ble 48 k && Nat.ble k 56)))))
def pTm (s _j k : Nat) : Bool := (Nat.ble 59 s && Nat.ble s 67) || (Nat.beq s 10 && ((Nat.ble 36 k && Nat.ble k 38) || (Nat.beq k 43 || Nat.beq k 46)))
def pLs (s _j _k : Nat) : Bool := Nat.beq s 59 || Nat.beq s 60
def pLz (s _j k : Nat) : Bool := (Nat.beq s 59 || Nat.beq s 60) || (Nat.beq s 10 && Nat.beq k 46)
/-- the model works out how long a joint takes to set -/
def StOK (P : Pa) (I : IM) : Prop := ∀ (D : Nat) (I1 : IM) (J : JM) (b : Bool) (j n : Nat), Fr pTh I I1 → j < pn P → n < pn P → Call (D + 4) 169 [vr 10 0, vi (iZ (j : Int)), vi (iZ (n : Int))] (101, I1, J, R0 b) (RIf b fun x I2 J2 => x = iZ (pM P j n : Int) ∧ J2 = J ∧ Fr pLs I1 I2)
theorem StOK.fr {P : Pa} {I I' : IM} (h : StOK P I) (hf : Fr pTh I I') : StOK P I' := fun D I1 J b j n h1 => h D I1 J b j n (hf.tr h1)
theorem nb_t {a b : Nat} (h : a = b) : Nat.beq a b = true := nb_iff.mpr h
theorem pTh_f {s j k : Nat} (h : (s = 10 ∧ (k < 36 ∨ k = 44 ∨ k = 45 ∨ k = 47 ∨ 56 < k)) ∨ (s ≠ 10 ∧ (s < 59 ∨ 70 < s))) : pTh s j k = false := by
  cases hb : pTh s j k
  · rfl
  · exfalso
    unfold pTh at hb
    simp only [Bool.or_eq_true, Bool.and_eq_true, nb_iff, Nat.ble_eq] at hb
    omega
theorem Fr.subT {p q : Nat → Nat → Nat → Bool} {I I' : IM} (h : Fr p I I') (hq : ∀ s j k, p s j k = true → q s j k = true) : Fr q I I' := fun s j k z => h s j k (by
  cases hb : p s j k
  · rfl
  · rw [hq s j k hb] at z
    exact z)
theorem pTm_sub {I I' : IM} (h : Fr pTm I I') : Fr pTh I I' := h.subT (by
  intro s j k h
  unfold pTm at h
  unfold pTh
  simp only [Bool.or_eq_true, Bool.and_eq_true, nb_iff, Nat.ble_eq] at h ⊢
  omega)
theorem pLs_sub {I I' : IM} (h : Fr pLs I I') : Fr pTm I I' := h.subT (by
  intro s j k h
  unfold pLs at h
  unfold pTm
  simp only [Bool.or_eq_true, Bool.and_eq_true, nb_iff, Nat.ble_eq] at h ⊢
  omega)
theorem pLz_sub {I I' : IM} (h : Fr pLz I I') : Fr pTm I I' := h.subT (by
  intro s j k h
  unfold pLz at h
  unfold pTm
  simp only [Bool.or_eq_true, Bool.and_eq_true, nb_iff, Nat.ble_eq] at h ⊢
  omega)
theorem pLs_z {I I' : IM} (h : Fr pLs I I') : Fr pLz I I' := h.sub (by
  intro s j k h
  unfold pLz at h
  unfold pLs
  simp only [Bool.or_eq_false_iff] at h ⊢
  exact h.1)
theorem HdAt.eq {I I' : IM} {E : List En} (h : HdAt I E) (h1 : ∀ s k, (s = 10 ∧ k = 36) ∨ (61 ≤ s ∧ s ≤ 63) → I' s 0 k = I s 0 k) : HdAt I' E := by
  obtain ⟨a1, a2⟩ := h
  refine ⟨(h1 _ _ (Or.inl (by omega))).trans a1, fun k e hk => ?_⟩
  obtain ⟨b1, b2, b3⟩ := a2 k e hk
  exact ⟨by rw [h1 _ _ (Or.inr (by omega))]; exact b1, (h1 _ _ (Or.inr (by omega))).trans b2, (h1 _ _ (Or.inr (by omega))).trans b3⟩
theorem HoAt.eq {I I' : IM} {E : List En} {f nw : Nat} (h : HoAt I E f nw) (h1 : ∀ s k, (s = 10 ∧ 36 ≤ k ∧ k ≤ 38) ∨ (61 ≤ s ∧ s ≤ 66) → I' s 0 k = I s 0 k) : HoAt I' E f nw := by
  obtain ⟨a1, a2, a3, a4⟩ := h
  refine ⟨a1.eq (fun s k hs => h1 s k (by omega)), (h1 _ _ (Or.inl (by omega))).trans a2, (h1 _ _ (Or.inl (by omega))).trans a3, fun e he => ?_⟩
  rw [h1 _ _ (Or.inr (by omega))]
  exact a4 e he
theorem MbAt.eq {I I' : IM} {P : Pa} (h : MbAt I P) (h1 : ∀ s k, (s = 10 ∧ (k = 1 ∨ k = 8 ∨ k = 9 ∨ k = 44)) ∨ (43 ≤ s ∧ s ≤ 48) → I' s 0 k = I s 0 k) : MbAt I' P := by
  obtain ⟨a1, a2, a3, a4, a5⟩ := h
  refine ⟨(h1 _ _ (Or.inl (by omega))).trans a1, fun j hj => ?_, by rw [h1 _ _ (Or.inl (by omega))]; exact a3, (h1 _ _ (Or.inl (by omega))).trans a4, (h1 _ _ (Or.inl (by omega))).trans a5⟩
  obtain ⟨b1, b2, b3, b4, b5, b6⟩ := a2 j hj
  exact ⟨(h1 _ _ (Or.inr (by omega))).trans b1, (h1 _ _ (Or.inr (by omega))).trans b2, (h1 _ _ (Or.inr (by omega))).trans b3, (h1 _ _ (Or.inr (by omega))).trans b4, (h1 _ _ (Or.inr (by omega))).trans b5, (h1 _ _ (Or.inr (by omega))).trans b6⟩
theorem pTm_f {s k : Nat} (h : (s = 10 ∧ (k < 36 ∨ k = 44 ∨ k = 45 ∨ 46 < k)) ∨ (s ≠ 10 ∧ (s < 59 ∨ 67 < s))) : pTm s 0 k = false := by
  cases hb : pTm s 0 k
  · rfl
  · exfalso
    unfold pTm at hb
    simp only [Bool.or_eq_true, Bool.and_eq_true, nb_iff, Nat.ble_eq] at hb
    omega
theorem MbAt.fr {I I' : IM} {P : Pa} (h : MbAt I P) (hf : Fr pTm I I') : MbAt I' P := h.eq (fun s k hs => hf s 0 k (pTm_f (by omega)))
theorem pLz_f {s k : Nat} (h : (s = 10 ∧ k ≠ 46) ∨ (s ≠ 10 ∧ s ≠ 59 ∧ s ≠ 60)) : pLz s 0 k = false := by
  cases hb : pLz s 0 k
  · rfl
  · exfalso
    unfold pLz at hb
    simp only [Bool.or_eq_true, Bool.and_eq_true, nb_iff] at hb
    omega
theorem HoAt.fr {I I' : IM} {E : List En} {f nw : Nat} (h : HoAt I E f nw) (hf : Fr pLz I I') : HoAt I' E f nw := h.eq (fun s k hs => hf s 0 k (pLz_f (by omega)))
/-- most clamps at once -/
def mC (E : List En) : Nat := (List.range E.length).foldl (fun a i => max a (cAt (E.take (i + 1)) (xf (E.getD i (0, 0, 0, 0, 0, 0))))) 0
theorem foldl_cg {α β : Type} {g h : β → α → β} : ∀ (l : List α) (a : β), (∀ x ∈ l, ∀ a, g a x = h a x) → l.foldl g a = l.foldl h a
  | [], _, _ => rfl
  | x :: l, a, hg => by
    simp only [List.foldl_cons]
    rw [hg x (by simp)]
    exact foldl_cg l _ (fun y hy => hg y (by simp [hy]))
theorem mC_app (E : List En) (e : En) : mC (E ++ [e]) = max (mC E) (cAt (E ++ [e]) (xf e)) := by
  unfold mC
  rw [List.length_append, List.length_singleton, List.range_succ, List.foldl_append]
  simp only [List.foldl_cons, List.foldl_nil]
  rw [foldl_cg (h := fun a i => max a (cAt (E.take (i + 1)) (xf (E.getD i (0, 0, 0, 0, 0, 0)))))]
  · congr 2
    · rw [List.take_of_length_le (by simp)]
    · simp
  · intro i hi a
    have hi := List.mem_range.mp hi
    rw [List.take_append_of_le_length (by omega)]
    congr 2
    simp [List.getD, List.getElem?_append_left hi]
theorem mC_le {E : List En} (h : ∀ e ∈ E, xc e ≤ 1) : mC E ≤ E.length := by
  have : ∀ (l : List Nat) (a : Nat), a ≤ E.length → l.foldl (fun a i => max a (cAt (E.take (i + 1)) (xf (E.getD i (0, 0, 0, 0, 0, 0))))) a ≤ E.length := by
    intro l
    induction l with
    | nil => intro a ha; exact ha
    | cons i l ih =>
      intro a ha
      refine ih _ (Nat.max_le.mpr ⟨ha, ?_⟩)
      have h1 := cAt_le (E := E.take (i + 1)) (c := 1) (fun e he => h e (List.mem_of_mem_take he)) (xf (E.getD i (0, 0, 0, 0, 0, 0)))
      have h2 : (E.take (i + 1)).length ≤ E.length := by simp; omega
      omega
  exact this _ 0 (Nat.zero_le _)
def XtAt (I : IM) (E : List En) (f : Nat) : Prop := (∀ e ∈ E.drop f, I 64 0 (xj e) = iZ (xg e : Int) ∧ I 65 0 (xj e) = iZ (xf e : Int) ∧ I 67 0 (xj e) = bI (decide (0 < xh e))) ∧ I 10 0 43 = iZ (mC E : Int)
theorem XtAt.fr {I I' : IM} {E : List En} {f : Nat} (h : XtAt I E f) (hf : Fr pLz I I') : XtAt I' E f := by
  obtain ⟨h1, h2⟩ := h
  refine ⟨fun e he => ?_, (hf _ 0 _ (pLz_f (by omega))).trans h2⟩
  obtain ⟨a1, a2, a3⟩ := h1 e he
  exact ⟨(hf _ 0 _ (pLz_f (by omega))).trans a1, (hf _ 0 _ (pLz_f (by omega))).trans a2, (hf _ 0 _ (pLz_f (by omega))).trans a3⟩
def joD (P : Pa) (E : List En) (f nw j : Nat) (q : Bool) : Option En := match beg P E f nw j with
  | none => none
  | some m => fas P E f j m (if q then 2 * pT P j 0 else pT P j 0)
theorem joD_f (P : Pa) (E : List En) (f nw j : Nat) : joD P E f nw j false = joi P E f nw j := rfl
def zN (z : Int32) : Int32 := z * (1103515245 : Int32) + (12345 : Int32)
def zR (z : Int32) : Int32 := (Int32.toUInt32 z >>> (Int32.toUInt32 (8 : Int32) &&& Int32.toUInt32 31)).toInt32
def zD (z : Int32) : Int32 := zR z - zR z / (12 : Int32) * (12 : Int32)
def zA (dr : Bool) (z : Int32) (o : Option Nat) : Int32 := match o with
  | none => z
  | some _ => if dr then zN z else z
def zQ (dr : Bool) (z sl : Int32) : Bool := dr && decide (¬ sl ≤ zD (zN z))
/-- what goesIn does -/
def GoT (P : Pa) (I : IM) (J : JM) (E : List En) (f nw : Nat) (z : Int32) (o : Option En) (x : Int32) (I' : IM) (J' : JM) : Prop := J' = J ∧ Fr pTm I I' ∧ I' 10 0 46 = z ∧ match o with
  | none => x = 0 ∧ HoAt I' E f nw ∧ (XtAt I E f → XtAt I' E f)
  | some e => x = 1 ∧ HoAt I' (E ++ [e]) f (xf e) ∧ (XtAt I E f → XtAt I' (E ++ [e]) f)
section GOES
variable {D f nw m : Nat} {I : IM} {J : JM} {b : Bool} {E : List En} {P : Pa}
theorem e_slips {dr : Bool} (hd : I 10 0 45 = bI dr) : Call (D + 1) 178 [vr 10 0] (101, I, J, R0 b) (RIf b fun x I' J' => J' = J ∧ x = bI (zQ dr (I 10 0 46) (I 10 0 12)) ∧ Fr pLz I I' ∧ I' 10 0 46 = if dr then zN (I 10 0 46) else I 10 0 46) := by
  refine t_X10_slipsNow I J b ?_
  rw [hd]
  cases dr
  · exact ifn (by decide) (RIf.mk ⟨rfl, rfl, Fr.id, rfl⟩)
  · refine ifp (by decide) (ifs (fun c => ?_) (fun c => ?_))
    · refine RIf.mk ⟨rfl, ?_, Fr.upd Fr.id rfl, uI_eq⟩
      have : zQ true (I 10 0 46) (I 10 0 12) = false := by
        unfold zQ
        rw [Bool.true_and]
        exact decide_eq_false (fun z => z c)
      rw [this]
      rfl
    · refine RIf.mk ⟨rfl, ?_, Fr.upd Fr.id rfl, uI_eq⟩
      have : zQ true (I 10 0 46) (I 10 0 12) = true := by
        unfold zQ
        rw [Bool.true_and]
        exact decide_eq_true c
      rw [this]
      rfl
theorem hl_snoc (E : List En) (e : En) : hl (E ++ [e]) = if isHd e then hl E ++ [e] else hl E := by
  unfold hl
  rw [List.filter_append]
  cases h : isHd e <;> simp [h]
theorem HdAt.snoc {e : En} {t : Int32} (h : HdAt I E) (hh : isHd e = true) (ht : tOK t e) : HdAt (updI (updI (updI (updI I 61 0 (hl E).length t) 62 0 (hl E).length (iZ (xh e : Int))) 63 0 (hl E).length (iZ (xc e : Int))) 10 0 36 (iZ ((hl E).length : Int) + 1)) (E ++ [e]) := by
  obtain ⟨a1, a2⟩ := h
  unfold HdAt
  rw [hl_snoc, if_pos hh]
  refine ⟨?_, fun k x hk => ?_⟩
  · rw [uI_eq, iZ_s]
    simp
  · rcases snoc_at hk with ⟨h1, h2⟩ | ⟨h1, h2⟩
    · have h3 : k ≠ (hl E).length := by omega
      simp only [updI_if]
      simpa [h3] using a2 k x h1
    · subst h1 h2
      simp only [updI_if]
      simpa using ht
/-- behind the hold's own rows: the last cells -/
theorem g_260 {e : En} {tk z : Int32} {I0 : IM} (hf : f ≤ E.length) (hH : HdAt I (E ++ [e])) (h38 : I 10 0 38 = iZ (bs (E.drop f) : Int)) (h66 : ∀ x ∈ E.drop f, tOK (I 66 0 (xj x)) x) (h7 : ∀ x ∈ E, xj x < 7) (hj : xj e < 7) (hnew : ∀ x ∈ E.drop f, xj x ≠ xj e) (ht : tOK (iZ (xf e : Int) + tk) e) (hF : Fr pTm I0 I) (hz : I 10 0 46 = z) (hX : XtAt I0 E f → (∀ x ∈ E.drop f, I 64 0 (xj x) = iZ (xg x : Int) ∧ I 65 0 (xj x) = iZ (xf x : Int) ∧ I 67 0 (xj x) = bI (decide (0 < xh x))) ∧ I 67 0 (xj e) = bI (decide (0 < xh e)) ∧ I 10 0 43 = iZ (mC (E ++ [e]) : Int)) : WP D 179 260 [vr 10 0, vi (iZ (xj e : Int)), vi (iZ (xg e : Int)), vi (iZ (xf e : Int)), vi tk, vn, vn] [] (101, I, J, R0 b) (RIf b (GoT P I0 J E f nw z (some e))) := by
  have hv : vp_in (iZ (xj e : Int)) 7 := vp_iZ (by omega) (by omega) (by omega)
  have hd : (E ++ [e]).drop f = E.drop f ++ [e] := by rw [List.drop_append_of_le_length hf]
  refine t_X10_goesIn_260 _ _ _ _ I J b ⟨hv, hv, hv, ?_⟩
  rw [iZ_ck (by omega)]
  refine RIf.mk ⟨rfl, ?_, ?_, rfl, ?_, ?_⟩
  · exact Fr.upd (Fr.upd (Fr.upd (Fr.upd (Fr.upd hF rfl) rfl) rfl) rfl) rfl
  · simpa [updI_if] using hz
  · refine ⟨hH.eq ?_, uI_eq, ?_, ?_⟩
    · intro s k hs
      rw [updI_if, if_neg (by omega), updI_if, if_neg (by omega), updI_if, if_neg (by omega), updI_if, if_neg (by omega), updI_if, if_neg (by omega)]
    · simp only [updI_if]
      simp only [hd, bs_app, h38]
      exact ob_bit (bs_lt (fun x hx => h7 x (List.mem_of_mem_drop hx))) hj
    · intro x hx
      rw [hd] at hx
      simp only [updI_if]
      rcases List.mem_append.mp hx with hx | hx
      · have := hnew x hx
        simpa [this] using h66 x hx
      · have : x = e := by simpa using hx
        subst this
        simpa using ht
  · intro hXX
    obtain ⟨x1, x2, x3⟩ := hX hXX
    refine ⟨fun x hx => ?_, by simpa [updI_if] using x3⟩
    rw [hd] at hx
    simp only [updI_if]
    rcases List.mem_append.mp hx with hx | hx
    · have := hnew x hx
      simpa [this] using x1 x hx
    · have : x = e := by simpa using hx
      subst this
      simpa using x2
theorem g_239 {e : En} {tk z : Int32} {I0 : IM} (hG : Gd P E nw) (hc : xc e ≤ 1) (hxs : xs e ≤ 1000000) (hrd : xf e < 1000000) (hlen : E.length < 42) (hf : f ≤ E.length) (hH : HdAt I (E ++ [e])) (h38 : I 10 0 38 = iZ (bs (E.drop f) : Int)) (h66 : ∀ x ∈ E.drop f, tOK (I 66 0 (xj x)) x) (hj : xj e < 7) (hnew : ∀ x ∈ E.drop f, xj x ≠ xj e) (ht : tOK (iZ (xf e : Int) + tk) e) (hF : Fr pTm I0 I) (hz : I 10 0 46 = z) (hX : XtAt I0 E f → (∀ x ∈ E.drop f, I 64 0 (xj x) = iZ (xg x : Int) ∧ I 65 0 (xj x) = iZ (xf x : Int) ∧ I 67 0 (xj x) = bI (decide (0 < xh x))) ∧ I 67 0 (xj e) = bI (decide (0 < xh e)) ∧ I 10 0 43 = iZ (mC E : Int)) : WP (D + 1) 179 239 [vr 10 0, vi (iZ (xj e : Int)), vi (iZ (xg e : Int)), vi (iZ (xf e : Int)), vi tk, vn, vn] [] (101, I, J, R0 b) (RIf b (GoT P I0 J E f nw z (some e))) := by
  have h7 : ∀ x ∈ E, xj x < 7 := fun x hx => (hG.1 x hx).1
  have hx2 : ∀ x ∈ E ++ [e], xs x ≤ 1000000 := by
    intro x hx
    rcases List.mem_append.mp hx with hx | hx
    · exact hG.xle hx
    · have : x = e := by simpa using hx
      subst this
      exact hxs
  have hl2 : (E ++ [e]).length ≤ 42 := by simp; omega
  have hca := cAt_le (E := E ++ [e]) (c := 1) (by
    intro x hx
    rcases List.mem_append.mp hx with hx | hx
    · exact (hG.1 x hx).2.2.2.2.2
    · have : x = e := by simpa using hx
      subst this
      exact hc) (xf e)
  have hmc := mC_le (E := E) (fun x hx => (hG.1 x hx).2.2.2.2.2)
  refine t_X10_goesIn_239 _ _ _ _ I J b ?_
  refine (p_usedClamps hH hx2 hl2 hrd).use (ifs (fun c => ?_) (fun c => ?_))
  · refine g_260 hf hH h38 h66 h7 hj hnew ht hF hz (fun h => ?_)
    obtain ⟨x1, x2, x3⟩ := hX h
    refine ⟨x1, x2, ?_⟩
    rw [x3, iZ_le (by omega) (by omega) (by omega) (by omega)] at c
    rw [x3, mC_app, Nat.max_eq_left (by omega)]
  · refine (p_usedClamps hH hx2 hl2 hrd).use ?_
    refine g_260 hf (hH.eq ?_) ?_ ?_ h7 hj hnew ht (hF.upd rfl) ?_ (fun h => ?_)
    · intro s k hs
      rw [updI_if, if_neg (by omega)]
    · simpa [updI_if] using h38
    · intro x hx
      simpa [updI_if] using h66 x hx
    · simpa [updI_if] using hz
    · obtain ⟨x1, x2, x3⟩ := hX h
      refine ⟨fun x hx => by simpa [updI_if] using x1 x hx, by simpa [updI_if] using x2, ?_⟩
      rw [x3, iZ_le (by omega) (by omega) (by omega) (by omega)] at c
      rw [uI_eq, mC_app, Nat.max_eq_right (by omega)]
/-- the hold's own rows: it isn't held, by hands, by a clamp -/
theorem g_147 {e : En} {tk z : Int32} {I0 : IM} {q1 q2 : Bool} {x1 x2 : Int32} (hM : MbAt I P) (hjn : xj e < pn P) (hG : Gd P E nw) (hxs : xs e ≤ 1000000) (hrd : xf e < 1000000) (hlen : E.length < 42) (hf : f ≤ E.length) (hHo : HoAt I E f nw) (hj : xj e < 7) (hnew : ∀ x ∈ E.drop f, xj x ≠ xj e) (ht : tOK (iZ (xf e : Int) + tk) e) (hF : Fr pLz I0 I) (hz : I 10 0 46 = z) (e1 : x1 = bI q1) (e2 : x2 = bI q2) (hq : (q1 = false ∧ q2 = false ∧ xh e = 0 ∧ xc e = 0) ∨ (q1 = true ∧ q2 = false ∧ xh e = pT P (xj e) 2 ∧ xc e = 0 ∧ 0 < xh e) ∨ (q1 = true ∧ q2 = true ∧ xh e = 0 ∧ xc e = 1)) : WP (D + 1) 179 147 [vr 10 0, vi (iZ (xj e : Int)), vi (iZ (xg e : Int)), vi (iZ (xf e : Int)), vi tk, vi x1, vi x2] [] (101, I, J, R0 b) (RIf b (GoT P I0 J E f nw z (some e))) := by
  have hv : vp_in (iZ (xj e : Int)) 7 := vp_iZ (by omega) (by omega) (by omega)
  have hle := hl_len E
  obtain ⟨hHd, h37, h38, h66⟩ := hHo
  have h36 := hHd.1
  have hv2 : vp_in (I 10 0 36) 42 := by rw [h36]; exact vp_iZ (by omega) (by omega) (by omega)
  have h45 := (hM.2.1 (xj e) hjn).2.2.1
  have hc1 : xc e ≤ 1 := by omega
  subst e1 e2
  refine t_X10_goesIn_147 _ _ _ _ _ _ I J b ?_
  rw [iZ_ck (by omega : xj e < 2147483648), h45]
  rcases hq with ⟨rfl, rfl, q3, q4⟩ | ⟨rfl, rfl, q3, q4, q5⟩ | ⟨rfl, rfl, q3, q4⟩
  · refine ifp rfl ⟨hv, ifp rfl ?_⟩
    have hi : isHd e = false := by simp [isHd, q3, q4]
    refine g_239 hG hc1 hxs hrd hlen hf ?_ ?_ ?_ hj hnew ht ((pLz_sub hF).upd rfl) ?_ (fun h => ?_)
    · have : HdAt (updI I 67 0 (xj e) 0) E := hHd.eq (fun s k hs => by rw [updI_if, if_neg (by omega)])
      unfold HdAt at this ⊢
      rw [hl_snoc, hi]
      exact this
    · simpa [updI_if] using h38
    · intro x hx
      simpa [updI_if] using h66 x hx
    · simpa [updI_if] using hz
    · obtain ⟨x1, x2⟩ := h.fr hF
      refine ⟨fun x hx => ?_, ?_, by simpa [updI_if] using x2⟩
      · have := hnew x hx
        simpa [updI_if, this] using x1 x hx
      · rw [uI_eq, q3]
        rfl
  · refine ifn (by decide) (ifn (by simp [bI]) ⟨hv, ifn (by decide) ⟨hv2, ifp rfl ⟨hv, hv2, ifp rfl ⟨hv2, ?_⟩⟩⟩⟩)
    have hi : isHd e = true := by simp [isHd, q5]
    rw [h36, iZ_ck (by omega)]
    refine g_239 hG hc1 hxs hrd hlen hf ?_ ?_ ?_ hj hnew ht (Fr.upd (Fr.upd (Fr.upd (Fr.upd (Fr.upd (pLz_sub hF) rfl) rfl) rfl) rfl) rfl) ?_ (fun h => ?_)
    · have h1 : HdAt (updI I 67 0 (xj e) 1) E := hHd.eq (fun s k hs => by rw [updI_if, if_neg (by omega)])
      have h2 := h1.snoc hi ht
      rw [q3, q4] at h2
      exact h2
    · simpa [updI_if] using h38
    · intro x hx
      simpa [updI_if] using h66 x hx
    · simpa [updI_if] using hz
    · obtain ⟨x1, x2⟩ := h.fr hF
      refine ⟨fun x hx => ?_, ?_, by simpa [updI_if] using x2⟩
      · have := hnew x hx
        simpa [updI_if, this] using x1 x hx
      · simp only [updI_if]
        simp [q5, bI]
  · refine ifn (by decide) (ifp (by decide) ⟨hv, ifn (by decide) ⟨hv2, ifn (by decide) ⟨hv2, ifn (by decide) ⟨hv2, ?_⟩⟩⟩⟩)
    have hi : isHd e = true := by simp [isHd, q4]
    rw [h36, iZ_ck (by omega)]
    refine g_239 hG hc1 hxs hrd hlen hf ?_ ?_ ?_ hj hnew ht (Fr.upd (Fr.upd (Fr.upd (Fr.upd (Fr.upd (pLz_sub hF) rfl) rfl) rfl) rfl) rfl) ?_ (fun h => ?_)
    · have h1 : HdAt (updI I 67 0 (xj e) 0) E := hHd.eq (fun s k hs => by rw [updI_if, if_neg (by omega)])
      have h2 := h1.snoc hi ht
      rw [q3, q4] at h2
      exact h2
    · simpa [updI_if] using h38
    · intro x hx
      simpa [updI_if] using h66 x hx
    · simpa [updI_if] using hz
    · obtain ⟨x1, x2⟩ := h.fr hF
      refine ⟨fun x hx => ?_, ?_, by simpa [updI_if] using x2⟩
      · have := hnew x hx
        simpa [updI_if, this] using x1 x hx
      · simp only [updI_if]
        simp [q3, bI]
/-- behind the minutes to set -/
theorem g_tail {j st mi : Nat} {tk z : Int32} {I0 : IM} (hM : MbAt I P) (hP : PaOK P) (hj : j < pn P) (hn : E.length - f < pn P) (hG : Gd P E nw) (hrd : st + mi ≤ 900000) (hlen : E.length < 42) (hf : f ≤ E.length) (hHo : HoAt I E f nw) (hnew : ∀ x ∈ E.drop f, xj x ≠ j) (htk : (pN P = true ∧ tk = iZ 1000000) ∨ (pN P = false ∧ tk = iZ (pM P j (E.length - f) : Int))) (hF : Fr pLz I0 I) (hz : I 10 0 46 = z) :
    (st + mi < tilF P E f j (st + mi) → (vp_in (iZ (j : Int)) 7 ∧ 
         (if (I 45 0 j) ≤ 0 then WP (D + 2) 179 84 [vr 10 0, vi (iZ (j : Int)), vi (iZ (st : Int)), vi (iZ ((st + mi : Nat) : Int)), vi tk, vn, vn] [] (101, I, J, R0 b) (RIf b (GoT P I0 J E f nw z (fas P E f j st mi)))
         else (vp_in (iZ (j : Int)) 7 ∧ 
          (if ¬ (I 46 0 j) = (1 : Int32) then WP (D + 2) 179 118 [vr 10 0, vi (iZ (j : Int)), vi (iZ (st : Int)), vi (iZ ((st + mi : Nat) : Int)), vi tk, vi 1, vn] [] (101, I, J, R0 b) (RIf b (GoT P I0 J E f nw z (fas P E f j st mi)))
          else 
           (Call (D + 2) 175 [vr 10 0, vi (iZ ((st + mi : Nat) : Int))] (101, I, J, R0 b) (RIf b fun x13 I14 J15 => 
            (if (I14 10 0 9) ≤ x13 then WP (D + 2) 179 118 [vr 10 0, vi (iZ (j : Int)), vi (iZ (st : Int)), vi (iZ ((st + mi : Nat) : Int)), vi tk, vi 1, vn] [] (101, I14, J15, R0 b) (RIf b (GoT P I0 J E f nw z (fas P E f j st mi)))
            else WP (D + 2) 179 147 [vr 10 0, vi (iZ (j : Int)), vi (iZ (st : Int)), vi (iZ ((st + mi : Nat) : Int)), vi tk, vi 1, vi 1] [] (101, I14, J15, R0 b) (RIf b (GoT P I0 J E f nw z (fas P E f j st mi)))))))))))
    ∧ (tilF P E f j (st + mi) ≤ st + mi → WP (D + 2) 179 84 [vr 10 0, vi (iZ (j : Int)), vi (iZ (st : Int)), vi (iZ ((st + mi : Nat) : Int)), vi tk, vn, vn] [] (101, I, J, R0 b) (RIf b (GoT P I0 J E f nw z (fas P E f j st mi)))) := by
  have hx : ∀ e ∈ E, xs e ≤ 1000000 := fun e he => hG.xle he
  have hh : ∀ e ∈ E, xh e ≤ 2 := fun e he => (hG.1 e he).2.2.2.2.1
  have hcc : ∀ e ∈ E, xc e ≤ 1 := fun e he => (hG.1 e he).2.2.2.2.2
  have hha := hAt_le (c := 2) hh (st + mi)
  have hca := cAt_le (c := 1) hcc (st + mi)
  obtain ⟨p1, p2, p3, p4⟩ := hP
  obtain ⟨q0, q1, q2, q3, q4, q5, q6⟩ := p4 j hj
  have q6 := q6 _ hn
  have htil : tilF P E f j (st + mi) ≤ 1000000 := by unfold tilF; split <;> omega
  have hhld : hldF P E f j (st + mi) ≤ 2 := by unfold hldF; split <;> omega
  obtain ⟨m1, m2, m3, m4, m5⟩ := hM
  obtain ⟨n1, n2, n3, n4, n5, n6⟩ := m2 j hj
  have hv : vp_in (iZ (j : Int)) 7 := vp_iZ (by omega) (by omega) (by omega)
  have ht : ∀ e : En, xf e = st + mi → xs e = tilF P E f j (st + mi) → tOK (iZ (xf e : Int) + tk) e := by
    intro e h1 h2
    rcases htk with ⟨a1, a2⟩ | ⟨a1, a2⟩
    · refine ⟨st + mi + 1000000, ?_, Or.inr ⟨?_, by omega, by omega⟩⟩
      · rw [h1, a2, iZ_add]
        rfl
      · rw [h2]
        unfold tilF
        rw [if_pos a1]
        omega
    · refine ⟨xs e, ?_, Or.inl rfl⟩
      rw [h1, h2, a2, iZ_add]
      unfold tilF
      rw [a1]
      rfl
  have h147 : ∀ (q1 q2 : Bool) (x1 x2 : Int32) (e : En), fas P E f j st mi = some e → x1 = bI q1 → x2 = bI q2 → ((q1 = false ∧ q2 = false ∧ xh e = 0 ∧ xc e = 0) ∨ (q1 = true ∧ q2 = false ∧ xh e = pT P (xj e) 2 ∧ xc e = 0 ∧ 0 < xh e) ∨ (q1 = true ∧ q2 = true ∧ xh e = 0 ∧ xc e = 1)) → WP (D + 2) 179 147 [vr 10 0, vi (iZ (j : Int)), vi (iZ (st : Int)), vi (iZ ((st + mi : Nat) : Int)), vi tk, vi x1, vi x2] [] (101, I, J, R0 b) (RIf b (GoT P I0 J E f nw z (fas P E f j st mi))) := by
    intro q1 q2 x1 x2 e he e1 e2 hq
    obtain ⟨b1, b2, b3, b4, b5, b6, b7⟩ := fas_some ⟨p1, p2, p3, p4⟩ hj hn he
    rw [he, ← b3, ← b1, ← b2]
    exact g_147 (P := P) (nw := nw) (q1 := q1) (q2 := q2) ⟨m1, m2, m3, m4, m5⟩ (by omega) hG (by omega) (by omega) hlen hf hHo (by omega) (by rw [b1]; exact hnew) (ht e b3 b4) hF hz e1 e2 hq
  have h118 : clmF P E f j (st + mi) = false → 0 < hldF P E f j (st + mi) → hldF P E f j (st + mi) = pT P j 2 → WP (D + 2) 179 118 [vr 10 0, vi (iZ (j : Int)), vi (iZ (st : Int)), vi (iZ ((st + mi : Nat) : Int)), vi tk, vi 1, vn] [] (101, I, J, R0 b) (RIf b (GoT P I0 J E f nw z (fas P E f j st mi))) := by
    intro c1 c2 c3
    refine t_X10_goesIn_118 _ _ _ _ _ I J b (ifn (by decide) ?_)
    refine (p_freeHands hHo.1 ⟨m1, m2, m3, m4, m5⟩ hx (by omega) (by omega)).use ⟨hv, ?_⟩
    rw [iZ_ck (by omega), n3]
    refine ifs (fun c => ?_) (fun c => ?_)
    · rw [iZ_le (by omega) (by omega) (by omega) (by omega)] at c
      have he : fas P E f j st mi = some (j, st, st + mi, tilF P E f j (st + mi), hldF P E f j (st + mi), 0) := by
        unfold fas
        rw [if_neg (by omega), c1]
        rfl
      exact h147 true false 1 0 _ he rfl rfl (Or.inr (Or.inl ⟨rfl, rfl, c3, rfl, c2⟩))
    · rw [iZ_le (by omega) (by omega) (by omega) (by omega)] at c
      have he : fas P E f j st mi = none := by
        unfold fas
        rw [if_pos ⟨c1, c2, by omega⟩]
      rw [he]
      exact RIf.mk ⟨rfl, pLz_sub hF, hz, rfl, hHo, fun h => h.fr hF⟩
  have h84 : hldF P E f j (st + mi) = 0 → WP (D + 2) 179 84 [vr 10 0, vi (iZ (j : Int)), vi (iZ (st : Int)), vi (iZ ((st + mi : Nat) : Int)), vi tk, vn, vn] [] (101, I, J, R0 b) (RIf b (GoT P I0 J E f nw z (fas P E f j st mi))) := by
    intro c
    refine t_X10_goesIn_84 _ _ _ _ I J b ?_
    refine t_X10_goesIn_118 _ _ _ _ _ I J b (ifp rfl ?_)
    have c1 : clmF P E f j (st + mi) = false := by
      unfold clmF
      rw [c]
      rfl
    have he : fas P E f j st mi = some (j, st, st + mi, tilF P E f j (st + mi), 0, 0) := by
      unfold fas
      rw [if_neg (by omega), c1, c]
      rfl
    exact h147 false false 0 0 _ he rfl rfl (Or.inl ⟨rfl, rfl, rfl, rfl⟩)
  refine ⟨fun hlt => ⟨hv, ?_⟩, fun hge => h84 ?_⟩
  · have hhh : hldF P E f j (st + mi) = pT P j 2 := by
      unfold hldF
      rw [if_pos hlt]
    rw [n3, n4]
    refine ifs (fun c => ?_) (fun c => ⟨hv, ifs (fun c2 => ?_) (fun c2 => ?_)⟩)
    · rw [i_0, iZ_le (by omega) (by omega) (by omega) (by omega)] at c
      exact h84 (by omega)
    · rw [i_0, iZ_le (by omega) (by omega) (by omega) (by omega)] at c
      rw [i_1, iZ_eq (by omega) (by omega) (by omega) (by omega)] at c2
      refine h118 ?_ (by omega) hhh
      unfold clmF
      rw [decide_eq_false (p := pT P j 3 = 1) (by omega), Bool.false_and, Bool.and_false]
    · rw [i_0, iZ_le (by omega) (by omega) (by omega) (by omega)] at c
      have c2 := Classical.not_not.mp c2
      rw [i_1, iZ_eq (by omega) (by omega) (by omega) (by omega)] at c2
      refine (p_usedClamps hHo.1 hx (by omega) (by omega)).use ?_
      rw [m4]
      refine ifs (fun c3 => ?_) (fun c3 => ?_)
      · rw [iZ_le (by omega) (by omega) (by omega) (by omega)] at c3
        refine h118 ?_ (by omega) hhh
        unfold clmF
        rw [decide_eq_false (p := cAt E (st + mi) < pC P) (by omega), Bool.and_false, Bool.and_false]
      · rw [iZ_le (by omega) (by omega) (by omega) (by omega)] at c3
        have c1 : clmF P E f j (st + mi) = true := by
          unfold clmF
          rw [decide_eq_true (p := cAt E (st + mi) < pC P) (by omega), decide_eq_true (p := pT P j 3 = 1) (by omega), decide_eq_true (by omega)]
          rfl
        have he : fas P E f j st mi = some (j, st, st + mi, tilF P E f j (st + mi), 0, 1) := by
          unfold fas
          rw [if_neg (by rw [c1]; simp), c1]
          rfl
        exact h147 true true 1 1 _ he rfl rfl (Or.inr (Or.inr ⟨rfl, rfl, rfl, rfl⟩))
  · unfold hldF
    rw [if_neg (by omega)]
theorem e_goesIn {j : Nat} {dr : Bool} (hM : MbAt I P) (hP : PaOK P) (hS : StOK P I) (hj : j < pn P) (hn : E.length - f < pn P) (hpc : pcN (bs (E.drop f)) = E.length - f) (h7 : ∀ e ∈ E, xj e < pn P) (hG : Gd P E nw) (hnw : nw ≤ 890000) (hlen : E.length < 42) (hf : f ≤ E.length) (hHo : HoAt I E f nw) (hnew : ∀ x ∈ E.drop f, xj x ≠ j) (hd : I 10 0 45 = bI dr) : Call (D + 5) 179 [vr 10 0, vi (iZ (j : Int))] (101, I, J, R0 b) (RIf b (GoT P I J E f nw (zA dr (I 10 0 46) (beg P E f nw j)) (joD P E f nw j (zQ dr (I 10 0 46) (I 10 0 12))))) := by
  have p7 := hP.1
  have hv : vp_in (iZ (j : Int)) 7 := vp_iZ (by omega) (by omega) (by omega)
  have hB : bs (E.drop f) < 128 := bs_lt (fun x hx => Nat.lt_of_lt_of_le (h7 x (List.mem_of_mem_drop hx)) p7)
  refine t_X10_goesIn _ I J b ?_
  refine (p_beginOf hHo hM hP hG hj h7 (by omega)).use ?_
  unfold joD
  cases hb : beg P E f nw j with
  | none => exact ifn (by decide) (RIf.mk ⟨rfl, Fr.id, rfl, rfl, hHo, id⟩)
  | some m =>
    obtain ⟨a1, a2, _⟩ := beg_some hG hb
    have h3 := (hP.2.2.2 j hj).1
    dsimp only
    rw [show oM (some m) = iZ (m : Int) from rfl]
    refine ifp (by rw [i_0]; exact tle (by omega) (by omega) (by omega)) ?_
    refine (e_slips hd).useI ?_
    rintro x I5 J6 ⟨rfl, hx, hF5, hz5⟩
    have hM5 := hM.fr (pLz_sub hF5)
    have hHo5 := hHo.fr hF5
    have hf43 := (hM5.2.1 j hj).1
    rw [hM5.2.2.2.2, hHo5.2.2.1, iZ_ck (by omega : j < 2147483648), hf43]
    have hfin : ∀ (mi : Nat) (y : Int32), mi ≤ 18 → y = iZ (m : Int) + iZ (mi : Int) → (vp_in (iZ (j : Int)) 7 ∧ 
     (if bI (pN P) = 0 then 
      (Call (D + 4) 136 [vi (iZ (bs (E.drop f) : Int))] (101, I5, J6, R0 b) (RIf b fun x7 I8 J9 => 
       (Call (D + 4) 169 [vr 10 0, vi (iZ (j : Int)), vi x7] (101, I8, J9, R0 b) (RIf b fun x10 I11 J12 => 
        (if x10 ≤ 0 then WP (D + 4) 179 84 [vr 10 0, vi (iZ (j : Int)), vi (iZ (m : Int)), vi y, vi x10, vn, vn] [] (101, I11, J12, R0 b) (RIf b (GoT P I J6 E f nw (zA dr (I 10 0 46) (some m)) (fas P E f j m mi)))
        else (vp_in (iZ (j : Int)) 7 ∧ 
         (if (I11 45 0 j) ≤ 0 then WP (D + 4) 179 84 [vr 10 0, vi (iZ (j : Int)), vi (iZ (m : Int)), vi y, vi x10, vn, vn] [] (101, I11, J12, R0 b) (RIf b (GoT P I J6 E f nw (zA dr (I 10 0 46) (some m)) (fas P E f j m mi)))
         else (vp_in (iZ (j : Int)) 7 ∧ 
          (if ¬ (I11 46 0 j) = (1 : Int32) then WP (D + 4) 179 118 [vr 10 0, vi (iZ (j : Int)), vi (iZ (m : Int)), vi y, vi x10, vi 1, vn] [] (101, I11, J12, R0 b) (RIf b (GoT P I J6 E f nw (zA dr (I 10 0 46) (some m)) (fas P E f j m mi)))
          else 
           (Call (D + 4) 175 [vr 10 0, vi y] (101, I11, J12, R0 b) (RIf b fun x13 I14 J15 => 
            (if (I14 10 0 9) ≤ x13 then WP (D + 4) 179 118 [vr 10 0, vi (iZ (j : Int)), vi (iZ (m : Int)), vi y, vi x10, vi 1, vn] [] (101, I14, J15, R0 b) (RIf b (GoT P I J6 E f nw (zA dr (I 10 0 46) (some m)) (fas P E f j m mi)))
            else WP (D + 4) 179 147 [vr 10 0, vi (iZ (j : Int)), vi (iZ (m : Int)), vi y, vi x10, vi 1, vi 1] [] (101, I14, J15, R0 b) (RIf b (GoT P I J6 E f nw (zA dr (I 10 0 46) (some m)) (fas P E f j m mi)))))))))))))))
     else (vp_in (iZ (j : Int)) 7 ∧ 
      (if (I5 45 0 j) ≤ 0 then WP (D + 4) 179 84 [vr 10 0, vi (iZ (j : Int)), vi (iZ (m : Int)), vi y, vi 1000000, vn, vn] [] (101, I5, J6, R0 b) (RIf b (GoT P I J6 E f nw (zA dr (I 10 0 46) (some m)) (fas P E f j m mi)))
      else (vp_in (iZ (j : Int)) 7 ∧ 
       (if ¬ (I5 46 0 j) = (1 : Int32) then WP (D + 4) 179 118 [vr 10 0, vi (iZ (j : Int)), vi (iZ (m : Int)), vi y, vi 1000000, vi 1, vn] [] (101, I5, J6, R0 b) (RIf b (GoT P I J6 E f nw (zA dr (I 10 0 46) (some m)) (fas P E f j m mi)))
       else 
        (Call (D + 4) 175 [vr 10 0, vi y] (101, I5, J6, R0 b) (RIf b fun x16 I17 J18 => 
         (if (I17 10 0 9) ≤ x16 then WP (D + 4) 179 118 [vr 10 0, vi (iZ (j : Int)), vi (iZ (m : Int)), vi y, vi 1000000, vi 1, vn] [] (101, I17, J18, R0 b) (RIf b (GoT P I J6 E f nw (zA dr (I 10 0 46) (some m)) (fas P E f j m mi)))
         else WP (D + 4) 179 147 [vr 10 0, vi (iZ (j : Int)), vi (iZ (m : Int)), vi y, vi 1000000, vi 1, vi 1] [] (101, I17, J18, R0 b) (RIf b (GoT P I J6 E f nw (zA dr (I 10 0 46) (some m)) (fas P E f j m mi)))))))))))) := by
      intro mi y hmi hy
      have hy : y = iZ ((m + mi : Nat) : Int) := by rw [hy, iZ_add]; rfl
      subst hy
      refine ⟨hv, ?_⟩
      have hz6 : ∀ I11, Fr pLs I5 I11 → I11 10 0 46 = zA dr (I 10 0 46) (some m) := fun I11 hfr => (hfr 10 0 46 rfl).trans hz5
      cases hN : pN P
      · refine ifp rfl ?_
        refine (p_bitsOf hB).use ?_
        rw [hpc]
        refine (hS D I5 J6 b j _ (pTm_sub (pLz_sub hF5)) hj hn).useI ?_
        rintro x I11 J12 ⟨rfl, rfl, hF11⟩
        have hF := hF5.tr (pLs_z hF11)
        have ht := g_tail (D := D + 2) (b := b) (J := J12) (st := m) (mi := mi) (hM.fr (pLz_sub hF)) hP hj hn hG (by omega) hlen hf (hHo.fr hF) hnew (Or.inr ⟨hN, rfl⟩) hF (hz6 I11 hF11)
        have h99 := (hP.2.2.2 j hj).2.2.2.2.2.2 _ hn
        have htl : tilF P E f j (m + mi) = m + mi + pM P j (E.length - f) := by
          unfold tilF
          rw [hN]
          rfl
        refine ifs (fun c => ?_) (fun c => ?_)
        · rw [i_0, iZ_le (by omega) (by omega) (by omega) (by omega)] at c
          exact ht.2 (by omega)
        · rw [i_0, iZ_le (by omega) (by omega) (by omega) (by omega)] at c
          exact ht.1 (by omega)
      · refine ifn (by decide) ?_
        have ht := g_tail (D := D + 2) (b := b) (J := J6) (st := m) (mi := mi) hM5 hP hj hn hG (by omega) hlen hf hHo5 hnew (Or.inl ⟨hN, rfl⟩) hF5 (hz6 I5 Fr.id)
        have htl : tilF P E f j (m + mi) = 1000000 := by
          unfold tilF
          rw [hN]
          rfl
        exact ht.1 (by omega)
    cases hq : zQ dr (I 10 0 46) (I 10 0 12) <;> rw [hq] at hx <;> subst hx
    · rw [show (if false = true then 2 * pT P j 0 else pT P j 0) = pT P j 0 from rfl]
      exact ifp rfl (hfin (pT P j 0) _ (by omega) rfl)
    · rw [show (if true = true then 2 * pT P j 0 else pT P j 0) = 2 * pT P j 0 from rfl]
      refine ifn (by decide) (hfin (2 * pT P j 0) _ (by omega) ?_)
      rw [i_2, iZ_mul]
      rfl
end GOES
