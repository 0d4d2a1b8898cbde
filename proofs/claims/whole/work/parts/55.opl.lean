/-! OPS IN THOUGHT: which -/
def duU (due : Nat → Option Int) (j : Nat) (v : Int) : Nat → Option Int := fun k => if k = j then some v else due k
def bdF (n : Nat) (q : Sh) : Nat → Nat → (Nat → Option Int) → Option (Nat → Option Int)
  | 0, _, due => some due
  | m + 1, k, due => if sL q ≤ 2 * k then some due else
    if 0 ≤ (sC q (2 * k)).toInt32.toInt ∧ (sC q (2 * k)).toInt32.toInt < n ∧ 2 * k + 1 < sL q ∧ (due (sC q (2 * k)).toInt32.toInt.toNat = none ∨ due (sC q (2 * k)).toInt32.toInt.toNat = some (sC q (2 * k + 1)).toInt32.toInt) then bdF n q m (k + 1) (duU due (sC q (2 * k)).toInt32.toInt.toNat (sC q (2 * k + 1)).toInt32.toInt) else none
def agr (due : Nat → Option Int) (ch : List En) : Prop := ∀ e ∈ ch, dOK due e = true
theorem dOK_some {due : Nat → Option Int} {e : En} {x : Int} (h : due (xj e) = some x) : dOK due e = true ↔ x = (xs e : Int) := by
  unfold dOK
  rw [h]
  simp
theorem dOK_none {due : Nat → Option Int} {e : En} (h : due (xj e) = none) : dOK due e = true := by
  unfold dOK
  rw [h]
theorem dOK_U {due : Nat → Option Int} {e : En} {j : Nat} {v : Int} (h : ¬ xj e = j) : dOK (duU due j v) e = dOK due e := by
  unfold dOK duU
  rw [if_neg h]
theorem nd_inj : ∀ {ch : List En}, (ch.map xj).Nodup → ∀ {y e : En}, y ∈ ch → e ∈ ch → xj y = xj e → y = e
  | [], _, y, e, hy, _, _ => by cases hy
  | x :: ch, h, y, e, hy, he, hye => by
    rw [List.map_cons, List.nodup_cons] at h
    rcases List.mem_cons.mp hy with rfl | hy2
    · rcases List.mem_cons.mp he with rfl | he2
      · rfl
      · exact absurd (by rw [hye]; exact List.mem_map_of_mem he2) h.1
    · rcases List.mem_cons.mp he with rfl | he2
      · exact absurd (by rw [← hye]; exact List.mem_map_of_mem hy2) h.1
      · exact nd_inj h.2 hy2 he2 hye
theorem agr_U {due : Nat → Option Int} {ch : List En} {e : En} {v : Int} (he : e ∈ ch) (hnd : (ch.map xj).Nodup) (hd : due (xj e) = none ∨ due (xj e) = some v) : agr (duU due (xj e) v) ch ↔ agr due ch ∧ v = (xs e : Int) := by
  have hsame : ∀ y ∈ ch, xj y = xj e → y = e := fun y hy hye => nd_inj hnd hy he hye
  constructor
  · intro h
    have hv : v = (xs e : Int) := (dOK_some (by unfold duU; rw [if_pos rfl])).mp (h e he)
    refine ⟨fun y hy => ?_, hv⟩
    by_cases hye : xj y = xj e
    · have hy2 := hsame y hy hye
      subst hy2
      rcases hd with hd | hd
      · exact dOK_none hd
      · exact (dOK_some hd).mpr hv
    · have := h y hy
      rw [dOK_U hye] at this
      exact this
  · rintro ⟨h, hv⟩ y hy
    by_cases hye : xj y = xj e
    · have hy2 := hsame y hy hye
      subst hy2
      exact (dOK_some (by unfold duU; rw [if_pos rfl])).mpr hv
    · rw [dOK_U hye]
      exact h y hy
/-- an order likes the drips when it agrees with what they bind -/
theorem bd_nso {n : Nat} {q : Sh} {ch : List En} (hn : n ≤ 7) (hnd : (ch.map xj).Nodup) (hlt : ∀ e ∈ ch, xj e < n) (hall : ∀ j, j < n → ∃ e ∈ ch, xj e = j) (hx : ∀ e ∈ ch, xs e ≤ 1000000) : ∀ (m k : Nat) (due : Nat → Option Int), k + m ≤ 100 → match bdF n q m k due with
    | none => ¬ (agr due ch ∧ nso ch q m k = -2)
    | some d => (agr due ch ∧ nso ch q m k = -2) ↔ agr d ch
  | 0, k, due, _ => by
    show _ ↔ _
    simp [nso]
  | m + 1, k, due, hk => by
    have hne : ¬ iZ (k : Int) = (-2 : Int32) := by
      show ¬ iZ (k : Int) = iZ (-2)
      exact nne (by omega) (by omega) (by omega) (by omega) (by omega)
    unfold bdF nso
    by_cases h1 : sL q ≤ 2 * k
    · rw [if_pos h1, if_pos h1]
      simp
    · rw [if_neg h1, if_neg h1]
      generalize hX : (sC q (2 * k)).toInt32 = X
      by_cases hj : 0 ≤ X.toInt ∧ X.toInt < n
      · obtain ⟨e, he, hej⟩ := hall X.toInt.toNat (by omega)
        have hXe : X = iZ (xj e : Int) := by
          obtain ⟨v, rfl, v1, v2⟩ := iZ_ex X
          rw [iZ_toInt v1 v2] at hj hej
          congr 1
          omega
        have hst : stO ch X = some (xs e) := by
          unfold stO
          have : ch.find? (fun y => decide (iZ (xj y : Int) = X)) = some e := by
            cases hf : ch.find? (fun y => decide (iZ (xj y : Int) = X)) with
            | none =>
              have := List.find?_eq_none.mp hf e he
              exact absurd (decide_eq_true hXe.symm) this
            | some y =>
              have hy := List.mem_of_find?_eq_some hf
              have h2 := List.find?_some hf
              have h2 := of_decide_eq_true h2
              have hl1 := hlt y hy
              have hl2 := hlt e he
              rw [hXe, iZ_eq (by omega) (by omega) (by omega) (by omega)] at h2
              rw [nd_inj hnd hy he (by omega)]
          rw [this]
          rfl
        rw [hst]
        dsimp only
        by_cases h2 : sL q ≤ 2 * k + 1
        · rw [if_pos h2, if_neg (by omega)]
          exact fun z => hne z.2
        · rw [if_neg h2]
          have hjn : X.toInt.toNat = xj e := hej.symm
          rw [hjn]
          have hxe := hx e he
          have hveq : (sC q (2 * k + 1)).toInt32 = iZ (xs e : Int) ↔ (sC q (2 * k + 1)).toInt32.toInt = (xs e : Int) := by
            rw [eq_i, iZ_toInt (by omega) (by omega)]
          by_cases hd : due (xj e) = none ∨ due (xj e) = some (sC q (2 * k + 1)).toInt32.toInt
          · rw [if_pos ⟨hj.1, hj.2, by omega, hd⟩]
            have ih := bd_nso (q := q) hn hnd hlt hall hx m (k + 1) (duU due (xj e) (sC q (2 * k + 1)).toInt32.toInt) (by omega)
            rw [agr_U he hnd hd] at ih
            by_cases hv : (sC q (2 * k + 1)).toInt32.toInt = (xs e : Int)
            · rw [if_pos (hveq.mpr hv)]
              cases hb : bdF n q m (k + 1) (duU due (xj e) (sC q (2 * k + 1)).toInt32.toInt) with
              | none =>
                rw [hb] at ih
                exact fun z => ih ⟨⟨z.1, hv⟩, z.2⟩
              | some d =>
                rw [hb] at ih
                exact ⟨fun z => ih.mp ⟨⟨z.1, hv⟩, z.2⟩, fun z => ⟨(ih.mpr z).1.1, (ih.mpr z).2⟩⟩
            · rw [if_neg (fun z => hv (hveq.mp z))]
              cases hb : bdF n q m (k + 1) (duU due (xj e) (sC q (2 * k + 1)).toInt32.toInt) with
              | none => exact fun z => hne z.2
              | some d =>
                rw [hb] at ih
                exact ⟨fun z => absurd z.2 hne, fun z => absurd (ih.mpr z).1.2 hv⟩
          · rw [if_neg (fun z => hd z.2.2.2)]
            rintro ⟨z1, z2⟩
            cases hde : due (xj e) with
            | none => exact hd (Or.inl hde)
            | some x =>
              have hxv := (dOK_some hde).mp (z1 e he)
              by_cases hv : (sC q (2 * k + 1)).toInt32.toInt = (xs e : Int)
              · exact hd (Or.inr (by rw [hde, hxv, hv]))
              · rw [if_neg (fun z => hv (hveq.mp z))] at z2
                exact hne z2
      · rw [if_neg (fun z => hj ⟨z.1, z.2.1⟩)]
        have hst : stO ch X = none := by
          unfold stO
          have : ch.find? (fun y => decide (iZ (xj y : Int) = X)) = none := by
            rw [List.find?_eq_none]
            intro y hy z
            have z := of_decide_eq_true z
            have := hlt y hy
            refine hj ?_
            rw [← z, iZ_toInt (by omega) (by omega)]
            omega
          rw [this]
          rfl
        rw [hst]
        exact fun z => hne z.2
/-- on whole orders it is the same to agree with the drips and to like them -/
theorem ful_lk {P : Pa} {n s : Nat} {q : Sh} {L : List Nat} (hP : PaOK P) (hn : pn P = n) (hL : L ∈ pms n n []) : match bdF n q 31 0 noD with
    | none => (isW P n L && lkS P (some (s, q)) L) = false
    | some d => ful P n d L = (isW P n L && lkS P (some (s, q)) L) := by
  have n7 : n ≤ 7 := by have := hP.1; omega
  obtain ⟨z1, z2, z3, _⟩ := pms_ok n [] (by simp) (by simp) L hL
  have z3 : L.length = n := by simpa using z3
  obtain ⟨hG, g1, g2, g3, g4, g5, g6⟩ := goL_ok hP z1 (fun x hx => by rw [hn]; exact z2 x hx)
  cases hw : isW P n L
  · cases bdF n q 31 0 noD with
    | none => rfl
    | some d =>
      show ful P n d L = false
      unfold ful
      rw [show decide ((goL P L).length = n) = isW P n L from rfl, hw]
      rfl
  · have hlen : (goL P L).length = n := of_decide_eq_true hw
    have hmap : (goL P L).map xj = L := by rw [g2, hlen, ← z3, List.take_length]
    have h := bd_nso (q := q) n7 g4 (fun e he => by rw [← hn]; exact g3 e he) (fun j hj => by
      have := full_in n7 z1 z2 z3 hj
      rw [List.contains_eq_mem, decide_eq_true_eq, ← hmap, List.mem_map] at this
      exact this) (fun e he => hG.xle he) 31 0 noD (by omega)
    have hno : agr noD (goL P L) := fun e _ => rfl
    cases hb : bdF n q 31 0 noD with
    | none =>
      rw [hb] at h
      exact decide_eq_false (fun z => h ⟨hno, z⟩)
    | some d =>
      rw [hb] at h
      show ful P n d L = (true && decide (nso (goL P L) q 31 0 = -2))
      unfold ful
      rw [hlen, decide_eq_true rfl, Bool.true_and, Bool.true_and, Bool.eq_iff_iff, List.all_eq_true, decide_eq_true_eq]
      exact ⟨fun z => (h.mpr z).2, fun z => h.mp ⟨hno, z⟩⟩
theorem find_same {p r : List Nat → Bool} : ∀ (l : List (List Nat)), (∀ L ∈ l, p L = r L) → l.find? p = l.find? r
  | [], _ => rfl
  | L :: l, h => by
    rw [List.find?_cons, List.find?_cons, h L (by simp), find_same l (fun x hx => h x (by simp [hx]))]
/-- counting those liked -/
theorem cp_1d {P : Pa} {n : Nat} {sh : Option (Nat × Sh)} {d : Nat → Option Int} : ∀ (l : List (List Nat)) (st : Ss), (∀ L ∈ l, ltE (goL P L) < 1000000) → (∀ L ∈ l, ful P n d L = (isW P n L && lkS P sh L)) → st.2.2.2.1 = 1000000 → st.2.2.2.2 = false → (l.foldl (cst P n d 1) st).1 = l.foldl (fLk P n sh) st.1
  | [], _, _, _, _, _ => rfl
  | L :: l, st, h, hf, h1, h2 => by
    rw [List.foldl_cons, List.foldl_cons]
    have hl := h L (by simp)
    have hfl := hf L (by simp)
    have h' : ∀ L ∈ l, ltE (goL P L) < 1000000 := fun x hx => h x (by simp [hx])
    have hf' : ∀ L ∈ l, ful P n d L = (isW P n L && lkS P sh L) := fun x hx => hf x (by simp [hx])
    cases hw : (isW P n L && lkS P sh L)
    · have e : cst P n d 1 st L = st := by
        unfold cst
        rw [if_neg (by rw [hfl, hw]; rintro ⟨_, z, _⟩; cases z)]
      have e2 : fLk P n sh st.1 L = st.1 := by
        unfold fLk
        rw [hw]
        rfl
      rw [e, e2]
      exact cp_1d l st h' hf' h1 h2
    · have e : cst P n d 1 st L = comS P 1 st L := by
        unfold cst
        rw [if_pos ⟨h2, by rw [hfl]; exact hw, by omega⟩]
      have e2 : fLk P n sh st.1 L = st.1 + 1 := by
        unfold fLk
        rw [hw]
        rfl
      rw [e, e2]
      have := cp_1d (n := n) (sh := sh) (d := d) l (comS P 1 st L) h' hf' (by unfold comS; exact h1) rfl
      rw [this]
      rfl
theorem fLk_0 {P : Pa} {n : Nat} {sh : Option (Nat × Sh)} : ∀ (l : List (List Nat)), (∀ L ∈ l, (isW P n L && lkS P sh L) = false) → l.foldl (fLk P n sh) 0 = 0
  | [], _ => rfl
  | L :: l, h => by
    rw [List.foldl_cons]
    have e : fLk P n sh 0 L = 0 := by
      unfold fLk
      rw [h L (by simp)]
      rfl
    rw [e]
    exact fLk_0 l (fun x hx => h x (by simp [hx]))
