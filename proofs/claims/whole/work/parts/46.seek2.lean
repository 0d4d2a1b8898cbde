/-! THE CLASS SEEKS: the search itself -/
/-- what a search keeps to -/
def SkH (P : Pa) (n aim ms : Nat) (due : Nat → Option Int) : Prop := PaOK P ∧ pn P = n ∧ aim ≤ 3 ∧ (∀ j, j < n → ms ≤ pM P j (n - 1)) ∧ (0 < n → ms ≤ 99) ∧ ms ≤ 1000000 ∧ (aim = 3 → ∀ j, due j = none) ∧ (pN P = true → aim = 3)
theorem pms_ne {n m : Nat} {pre : List Nat} (h1 : pre.Nodup) (h2 : ∀ j ∈ pre, j < n) {L : List Nat} (hL : L ∈ pms n m pre) (P : Pa) : (goL P pre).length ≠ pre.length → (goL P L).length = (goL P pre).length := by
  obtain ⟨_, _, _, t, rfl⟩ := pms_ok m pre h1 h2 L hL
  intro h
  rw [goL_pre.2 h]
theorem tle' {a c : Int} (a1 : -2147483648 ≤ a) (a2 : a < 2147483648) (b1 : -2147483648 ≤ c) (b2 : c < 2147483648) : iZ a ≤ iZ c ↔ a ≤ c := by
  constructor
  · intro h
    apply Classical.byContradiction
    intro z
    exact nle b1 a2 (by omega) h
  · intro h
    exact tle a1 b2 h
section SEEK2
variable {n aim ms : Nat} {P : Pa} {due : Nat → Option Int} {J : JM} {b : Bool}
theorem SrC.eq {I I' : IM} {st : Ss} {dp : Nat} (h : SrC I aim n st dp) (e : ∀ s k, (s = 5 ∧ 4 ≤ k) ∨ s = 37 → I' s 0 k = I s 0 k) : SrC I' aim n st dp := by
  obtain ⟨s4, s5, s6, s7, s8, s9⟩ := h
  exact ⟨(e _ _ (by omega)).trans s4, (e _ _ (by omega)).trans s5, (e _ _ (by omega)).trans s6, (e _ _ (by omega)).trans s7, fun h => ⟨(e _ _ (by omega)).trans (s8 h).1, (s8 h).2.1, fun k j hk => (e _ _ (by omega)).trans ((s8 h).2.2 k j hk)⟩, fun h => ⟨(e _ _ (by omega)).trans (s9 h).1, (s9 h).2⟩⟩
theorem SrC.fw {I I' : IM} {st : Ss} {dp : Nat} (h : SrC I aim n st dp) (hf : Fr (pW 0) I I') : SrC I' aim n st dp := h.eq (fun s k z => hf _ _ _ (pW_f (by omega)))
theorem DuC.fr {I I' : IM} (h : DuC I due) (hf : Fr pSe I I') : DuC I' due := fun j hj => ⟨(hf _ _ _ (bf_of pSe_iff (by omega))).trans (h j hj).1, (h j hj).2⟩
theorem BeAt.fs {I I' : IM} (h : BeAt I P) (hf : Fr pSe I I') : BeAt I' P := ⟨(hf _ _ _ (bf_of pSe_iff (by omega))).trans h.1, fun j q hj hq => (hf _ _ _ (bf_of pSe_iff (by omega))).trans (h.2 j q hj hq)⟩
theorem ShAt.fs {I I' : IM} (h : ShAt I P) (hf : Fr pSe I I') : ShAt I' P := ⟨(hf _ _ _ (bf_of pSe_iff (by omega))).trans h.1, (hf _ _ _ (bf_of pSe_iff (by omega))).trans h.2.1, (hf _ _ _ (bf_of pSe_iff (by omega))).trans h.2.2.1, fun j m hj hm => (hf _ _ _ (bf_of pSe_iff (by omega))).trans (h.2.2.2 j m hj hm)⟩
/-- what seeking from a beginning does -/
def SkT (P : Pa) (n aim : Nat) (due : Nat → Option Int) (pre : List Nat) (st : Ss) (dp : Nat) (l : List (List Nat)) (I : IM) (J : JM) (I' : IM) (J' : JM) : Prop := J' = J ∧ Fr pSe I I' ∧ WkAt 0 35 I' (goL P pre) 0 (goN P pre) ∧ SrC I' aim n (l.foldl (cst P n due aim) st) (l.foldl (dps P) dp)
/-- what holds ahead of it -/
def SkP (P : Pa) (n aim : Nat) (due : Nat → Option Int) (pre : List Nat) (st : Ss) (dp : Nat) (I : IM) : Prop := (goL P pre).length = pre.length ∧ (goL P pre).all (dOK due) = true ∧ WkAt 0 35 I (goL P pre) 0 (goN P pre) ∧ SrC I aim n st dp ∧ DuC I due ∧ BeAt I P ∧ ShAt I P ∧ (aim = 3 → st.2.2.2.1 = 1000001) ∧ st.2.2.2.1 ≤ 2000000
theorem cst_lim {st : Ss} {L : List Nat} (h : aim ≠ 2) : (cst P n due aim st L).2.2.2.1 = st.2.2.2.1 := by
  unfold cst
  split
  · unfold comS
    dsimp only
    rw [if_neg h]
  · rfl
theorem fold_lim (h : aim ≠ 2) : ∀ (l : List (List Nat)) (st : Ss), (l.foldl (cst P n due aim) st).2.2.2.1 = st.2.2.2.1
  | [], _ => rfl
  | L :: l, st => by rw [List.foldl_cons, fold_lim h l, cst_lim h]
theorem cst_lle {st : Ss} {L : List Nat} : (cst P n due aim st L).2.2.2.1 ≤ st.2.2.2.1 := by
  unfold cst
  split
  · next h =>
    unfold comS
    dsimp only
    split
    · omega
    · exact Nat.le_refl _
  · exact Nat.le_refl _
theorem fold_lle : ∀ (l : List (List Nat)) (st : Ss), (l.foldl (cst P n due aim) st).2.2.2.1 ≤ st.2.2.2.1
  | [], _ => Nat.le_refl _
  | L :: l, st => by
    rw [List.foldl_cons]
    exact Nat.le_trans (fold_lle l _) cst_lle
theorem fold_or : ∀ (l : List (List Nat)) (st : Ss), (l.foldl (cst P n due aim) st).1 ≤ st.1 + l.length
  | [], _ => Nat.le_refl _
  | L :: l, st => by
    rw [List.foldl_cons]
    have h1 := fold_or l (cst P n due aim st L)
    have h2 : (cst P n due aim st L).1 ≤ st.1 + 1 := by
      unfold cst
      split
      · exact Nat.le_refl _
      · omega
    simp only [List.length_cons]
    omega
theorem fold_dp : ∀ (l : List (List Nat)) (d : Nat), d ≤ l.foldl (dps P) d
  | [], _ => Nat.le_refl _
  | L :: l, d => by
    rw [List.foldl_cons]
    have := fold_dp l (dps P d L)
    unfold dps at this ⊢
    omega
theorem w_seek {D m A : Nat} {pre : List Nat} {I0 : IM} (hH : SkH P n aim ms due) (hnd : pre.Nodup) (hlt : ∀ j ∈ pre, j < n) (hlen : pre.length + (m + 1) = n) (hA : A = sfR (fun j => pT P j 0) pre n + ms)
    (ih : ∀ (pre2 : List Nat) (st : Ss) (dp : Nat) (I : IM) (A2 : Nat), pre2.length + m = n → pre2.Nodup → (∀ j ∈ pre2, j < n) → A2 = sfR (fun j => pT P j 0) pre2 n + ms → SkP P n aim due pre2 st dp I → ltE (goL P pre2) < st.2.2.2.1 → st.2.2.2.2 = false → st.1 + (pms n m pre2).length ≤ 900000 → Call (D + 7) 42 [vr 5 0, vi (iZ (pre2.length : Int)), vi (iZ (A2 : Int))] (101, I, J, R0 b) (RVf b (SkT P n aim due pre2 st dp (pms n m pre2) I J))) :
    ∀ (r j : Nat) (st : Ss) (dp : Nat) (I : IM), r + j = n → SkP P n aim due pre st dp I → (aim = 3 → pre.length ≤ dp) → st.1 + (pmR n m pre j r).length ≤ 900000 → Fr pSe I0 I → WP (D + 7) 42 30 [vr 5 0, vi (iZ (pre.length : Int)), vi (iZ (A : Int)), vi (iZ (j : Int)), vn] [] (101, I, J, R0 b) (RVf b (fun I' J' => J' = J ∧ Fr pSe I0 I' ∧ WkAt 0 35 I' (goL P pre) 0 (goN P pre) ∧ SrC I' aim n ((pmR n m pre j r).foldl (cst P n due aim) st) ((pmR n m pre j r).foldl (dps P) dp))) := by
  obtain ⟨hP, hn, ha3, hms, hms99, hms6, hdue, hpN⟩ := hH
  have n7 : n ≤ 7 := by have := hP.1; omega
  have hlt2 : ∀ x ∈ pre, x < pn P := fun x hx => by rw [hn]; exact hlt x hx
  obtain ⟨hG, g1, g2, g3, g4, g5, g6⟩ := goL_ok hP hnd hlt2
  have hsfb : ∀ pr : List Nat, sfR (fun j => pT P j 0) pr n ≤ 9 * n := by
    intro pr
    have : ∀ k, k ≤ n → sfR (fun j => pT P j 0) pr k ≤ 9 * k := by
      intro k
      induction k with
      | zero => intro _; exact Nat.le_refl _
      | succ k ihk =>
        intro hk
        have h1 := ihk (by omega)
        have h2 := (hP.2.2.2 k (by omega)).1
        unfold sfR
        split <;> omega
    exact this n (Nat.le_refl _)
  have hms99 := hms99 (by omega)
  intro r
  induction r with
  | zero =>
    intro j st dp I hr hS hdp hor hf
    obtain ⟨p1, p2, p3, p4, p5, p6, p7, p8⟩ := hS
    refine t_X5_seek_30 _ _ _ I J b ?_
    rw [p6.1, hn]
    exact ifp (tle (by omega) (by omega) (by omega)) (RVf.mk ⟨rfl, hf, p3, p4⟩)
  | succ r ihr =>
    intro j st dp I hr hS hdp hor hf
    have hS0 := hS
    obtain ⟨p1, p2, p3, p4, p5, p6, p7, p8⟩ := hS
    have hjn : j < n := by omega
    have hlist := pmR_s n m pre j r
    -- the list from j on: a skipped joint
    have hnext : ∀ (st2 : Ss) (dp2 : Nat) (I2 : IM), SkP P n aim due pre st2 dp2 I2 → (aim = 3 → pre.length ≤ dp2) → Fr pSe I0 I2 → (if pre.contains j then [] else pms n m (pre ++ [j])).foldl (cst P n due aim) st = st2 → (aim = 3 → (if pre.contains j then [] else pms n m (pre ++ [j])).foldl (dps P) dp = dp2) → WP (D + 7) 42 30 [vr 5 0, vi (iZ (pre.length : Int)), vi (iZ (A : Int)), vi (iZ (j : Int) + 1), vn] [] (101, I2, J, R0 b) (RVf b (fun I' J' => J' = J ∧ Fr pSe I0 I' ∧ WkAt 0 35 I' (goL P pre) 0 (goN P pre) ∧ SrC I' aim n ((pmR n m pre j (r + 1)).foldl (cst P n due aim) st) ((pmR n m pre j (r + 1)).foldl (dps P) dp))) := by
      intro st2 dp2 I2 h1 h2 h3 h4 h5
      rw [iZ_s]
      have hor2 : st2.1 ≤ st.1 + (if pre.contains j then [] else pms n m (pre ++ [j])).length := by
        rw [← h4]
        exact fold_or _ _
      rw [hlist, List.length_append] at hor
      refine (ihr (j + 1) st2 dp2 I2 (by omega) h1 h2 (by omega) h3).mono ?_
      rintro q h ⟨I', J', rfl, rfl, rfl, k1, k2, k3⟩
      refine RVf.mk ⟨rfl, k1, k2, ?_⟩
      rw [hlist, List.foldl_append, List.foldl_append, h4]
      obtain ⟨y1, y2, y3, y4, y5, y6⟩ := k3
      refine ⟨y1, y2, y3, y4, y5, fun h3 => ?_⟩
      rw [h5 h3]
      exact y6 h3
    refine t_X5_seek_30 _ _ _ I J b ?_
    rw [p6.1, hn, p4.2.2.1]
    refine ifn (nle (by omega) (by omega) (by omega)) ?_
    cases hen : st.2.2.2.2
    case true =>
      -- it has ended
      refine ifp (by decide) (RVf.mk ⟨rfl, hf, p3, ?_⟩)
      rw [cst_en hen]
      obtain ⟨y1, y2, y3, y4, y5, y6⟩ := p4
      refine ⟨y1, y2, y3, y4, y5, fun h3 => ?_⟩
      have hdn := (y6 h3).2.2 hen
      rw [dps_same]
      · exact y6 h3
      · intro L hL
        rw [hdn]
        unfold pmR at hL
        rw [List.mem_flatMap] at hL
        obtain ⟨x, hx, hL⟩ := hL
        have hx := List.mem_range'_1.mp hx
        have h8 := goL_le P L
        cases hc : pre.contains x
        · rw [hc, if_neg (by decide)] at hL
          obtain ⟨_, _, a3, _⟩ := pms_ok m (pre ++ [x]) (by
            rw [List.nodup_append]
            refine ⟨hnd, by simp, fun a ha b hb => ?_⟩
            have hb : b = x := by simpa using hb
            subst hb
            rintro rfl
            simp only [List.contains_eq_mem, decide_eq_false_iff_not] at hc
            exact hc ha) (by
            intro y hy
            rcases List.mem_append.mp hy with hy | hy
            · exact hlt y hy
            · have : y = x := by simpa using hy
              omega) L hL
          simp at a3
          omega
        · rw [hc, if_pos rfl] at hL
          cases hL
    case false =>
    refine ifn (fun z => z rfl) ?_
    refine (p_hasFitted (D := D + 6) p3 (fun e he => (hG.1 e he).1) (by omega)).use ?_
    have hany : ((goL P pre).drop 0).any (fun e => xj e == j) = pre.contains j := by
      have hm : (goL P pre).map xj = pre := by rw [g2, p1, List.take_length]
      rw [List.drop_zero, Bool.eq_iff_iff, List.any_eq_true, List.contains_eq_mem, decide_eq_true_eq]
      constructor
      · rintro ⟨e, he, hx⟩
        rw [← hm, List.mem_map]
        exact ⟨e, he, by simpa using hx⟩
      · intro hx
        rw [← hm, List.mem_map] at hx
        obtain ⟨e, he, hx⟩ := hx
        exact ⟨e, he, by simpa using hx⟩
    rw [hany]
    cases hc : pre.contains j
    case true =>
      refine ifp (by decide) (hnext st dp I hS0 hdp hf ?_ ?_)
      · rw [hc]; rfl
      · intro _; rw [hc]; rfl
    case false =>
    refine ifn (fun z => z rfl) ?_
    have hnd2 : (pre ++ [j]).Nodup := by
      rw [List.nodup_append]
      refine ⟨hnd, by simp, fun a ha b hb => ?_⟩
      have hb : b = j := by simpa using hb
      subst hb
      rintro rfl
      simp only [List.contains_eq_mem, decide_eq_false_iff_not] at hc
      exact hc ha
    have hlt3 : ∀ x ∈ pre ++ [j], x < n := by
      intro y hy
      rcases List.mem_append.mp hy with hy | hy
      · exact hlt y hy
      · have : y = j := by simpa using hy
        omega
    have hpl : (pre ++ [j]).length = pre.length + 1 := by simp
    have hr35 : (goL P pre).length < 35 := by omega
    have hiff : (if pre.contains j then [] else pms n m (pre ++ [j])) = pms n m (pre ++ [j]) := by rw [hc]; rfl
    rw [hiff] at hnext
    refine (e_join (D := D + 3) p3 p6 p7 hP hG (by rw [hn]; exact hjn) hr35 (by rw [hn]; omega)).useI ?_
    intro x7 I1 J1 ⟨hJ, hjo⟩
    obtain rfl := hJ.symm
    have hsn := goL_sn (P := P) (j := j) p1
    cases hjj : joi P (goL P pre) 0 (goN P pre) j with
    | none =>
      rw [hjj] at hjo hsn
      obtain ⟨rfl, rfl⟩ := hjo
      have hgl : goL P (pre ++ [j]) = goL P pre := by unfold goL; rw [hsn]; rfl
      have hall : ∀ L ∈ pms n m (pre ++ [j]), (goL P L).length = pre.length := by
        intro L hL
        rw [pms_ne hnd2 hlt3 hL P (by rw [hgl, hpl]; omega), hgl, p1]
      refine ifn (fun z => z rfl) (hnext st dp I1 hS0 hdp hf ?_ ?_)
      · refine cst_skip _ (fun L hL z => ?_)
        have h1 := hall L hL
        have h2 := z.1
        unfold ful at h2
        rw [Bool.and_eq_true, decide_eq_true_eq] at h2
        omega
      · intro h3
        exact dps_same _ (fun L hL => by rw [hall L hL]; exact hdp h3)
    | some e =>
      rw [hjj] at hjo hsn
      obtain ⟨rfl, hW1, hF1⟩ := hjo
      have hgl : goL P (pre ++ [j]) = goL P pre ++ [e] := by unfold goL; rw [hsn]; rfl
      have hgn : goN P (pre ++ [j]) = xf e := by unfold goN; rw [hsn]
      obtain ⟨a1, a2, a3, a4⟩ := joi_some hP hG (by rw [hn]; exact hjn) (by rw [hn]; omega) (by omega) hjj
      have hxe : xs e ≤ 1000000 := a4.xle (by simp)
      have hj7 : xj e < 7 := by rw [a1]; omega
      have hFse := pW_se hF1
      have hB1 := p6.fr hF1
      have hS1 := p7.fr hF1
      have hD1 := p5.fr hFse
      have hsr1 := p4.fw hF1
      have hlr : (goL P (pre ++ [j])).length = (pre ++ [j]).length := by rw [hgl]; simp; omega
      -- back: drop, and go on
      have hdropf : ∀ (st2 : Ss) (dp2 : Nat) (I2 : IM), Fr pSe I1 I2 → WkAt 0 35 I2 (goL P pre ++ [e]) 0 (xf e) → SrC I2 aim n st2 dp2 → (aim = 3 → pre.length ≤ dp2) → (aim = 3 → st2.2.2.2.1 = 1000001) ∧ st2.2.2.2.1 ≤ 2000000 → (pms n m (pre ++ [j])).foldl (cst P n due aim) st = st2 → (aim = 3 → (pms n m (pre ++ [j])).foldl (dps P) dp = dp2) → Call (D + 7) 67 [vr 8 0] (101, I2, J, R0 b) (RVf b fun I17 J18 => WP (D + 7) 42 30 [vr 5 0, vi (iZ (pre.length : Int)), vi (iZ (A : Int)), vi (iZ (j : Int) + 1), vn] [] (101, I17, J18, R0 b) (RVf b (fun I' J' => J' = J ∧ Fr pSe I0 I' ∧ WkAt 0 35 I' (goL P pre) 0 (goN P pre) ∧ SrC I' aim n ((pmR n m pre j (r + 1)).foldl (cst P n due aim) st) ((pmR n m pre j (r + 1)).foldl (dps P) dp)))) := by
        intro st2 dp2 I2 h1 h2 h3 h4 h5 h6 h7
        refine (e_drop (D := D + 6) h2 (fun x hx => ?_) ?_).useV ?_
        · rcases List.mem_append.mp hx with hx | hx
          · exact (hG.1 x hx).1
          · have : x = e := by simpa using hx
            subst this
            exact hj7
        · rw [List.map_append, g2, p1, List.take_length]
          simpa [a1] using hnd2
        · rintro I3 J3 ⟨rfl, hf3, hW3⟩
          have hlF : lF (goL P pre) 0 = goN P pre := by
            unfold goN
            rw [go_now]
            split
            · next hz =>
              have : goL P pre = [] := List.eq_nil_of_length_eq_zero (by simpa [goL] using hz)
              rw [this]
              rfl
            · rfl
          rw [hlF] at hW3
          have hff : Fr pSe I I3 := (hFse.tr h1).tr (pW_se hf3)
          exact hnext st2 dp2 I3 ⟨p1, p2, hW3, h3.fw hf3, p5.fr hff, p6.fs hff, p7.fs hff, h5⟩ h4 (hf.tr hff) h6 h7
      -- given up
      have hgive : (∀ L ∈ pms n m (pre ++ [j]), ¬ (ful P n due L = true ∧ ltE (goL P L) < st.2.2.2.1)) → aim ≠ 3 → Call (D + 7) 67 [vr 8 0] (101, I1, J, R0 b) (RVf b fun I17 J18 => WP (D + 7) 42 30 [vr 5 0, vi (iZ (pre.length : Int)), vi (iZ (A : Int)), vi (iZ (j : Int) + 1), vn] [] (101, I17, J18, R0 b) (RVf b (fun I' J' => J' = J ∧ Fr pSe I0 I' ∧ WkAt 0 35 I' (goL P pre) 0 (goN P pre) ∧ SrC I' aim n ((pmR n m pre j (r + 1)).foldl (cst P n due aim) st) ((pmR n m pre j (r + 1)).foldl (dps P) dp)))) := by
        intro h1 h3
        exact hdropf st dp I1 Fr.id hW1 hsr1 hdp p8 (cst_skip _ h1) (fun z => absurd z h3)
      refine ifp (by decide) ?_
      refine (p_num (D := D + 6) hB1 hP (x := 0) (q := 0) rfl (by rw [hn]; exact hjn) (by omega)).use ?_
      have hall7 : ∀ x ∈ goL P pre ++ [e], xj x < 7 := fun x hx => by
        rcases List.mem_append.mp hx with hx | hx
        · exact (hG.1 x hx).1
        · have : x = e := by simpa using hx
          subst this
          exact hj7
      have hndE : ((goL P pre ++ [e]).map xj).Nodup := by
        rw [List.map_append, g2, p1, List.take_length]
        simpa [a1] using hnd2
      have hiso := p_isSo (D := D + 5) (J := J) (b := b) hW1 hD1 hall7 hndE hxe
      rw [a1] at hiso
      refine hiso.use ?_
      have hfit := (hP.2.2.2 j (by rw [hn]; exact hjn)).1
      have hsf := sfR_step (V := fun j => pT P j 0) hc n hjn
      have hA2 : A - pT P j 0 = sfR (fun j => pT P j 0) (pre ++ [j]) n + ms := by omega
      have hsb := hsfb (pre ++ [j])
      have hsb0 := hsfb pre
      cases hso : dOK due e
      case false =>
        refine ifp rfl (hgive ?_ ?_)
        · intro L hL z
          obtain ⟨_, _, _, t, rfl⟩ := pms_ok m (pre ++ [j]) hnd2 hlt3 L hL
          have h2 := z.1
          unfold ful at h2
          rw [Bool.and_eq_true, List.all_eq_true] at h2
          obtain ⟨F, hF⟩ := (goL_pre (P := P) (pre := pre ++ [j]) (t := t)).1
          have := h2.2 e (by rw [hF, hgl]; simp)
          rw [hso] at this
          cases this
        · intro h3
          have := hdue h3 (xj e)
          unfold dOK at hso
          rw [this] at hso
          cases hso
      case true =>
      refine ifn (by decide) ?_
      refine (p_latest (D := D + 6) hW1 (fun x hx => a4.xle hx)).use ?_
      have hlt6 : ltE (goL P pre ++ [e]) ≤ 1000000 := ltE_le (fun x hx => a4.xle hx)
      have hpre : ∀ L ∈ pms n m (pre ++ [j]), ltE (goL P pre ++ [e]) ≤ ltE (goL P L) := by
        intro L hL
        obtain ⟨_, _, _, t, rfl⟩ := pms_ok m (pre ++ [j]) hnd2 hlt3 L hL
        obtain ⟨F, hF⟩ := (goL_pre (P := P) (pre := pre ++ [j]) (t := t)).1
        rw [hF, hgl]
        exact ltE_pre
      rw [hsr1.2.1, hW1.2.2.2.2.1]
      have el2 : iZ (A : Int) - iZ (pT P j 0 : Int) = iZ ((A - pT P j 0 : Nat) : Int) := by
        rw [iZ_sub]
        congr 1
        omega
      rw [el2, iZ_add]
      have p8' := p8.2
      have hxf : xf e ≤ 900000 := a4.2
      refine ifs (fun c => ?_) (fun c => ?_)
      · have c := (tle' (by omega) (by omega) (by omega) (by omega)).mp c
        refine hgive (fun L hL z => ?_) (fun h3 => ?_)
        · have := hpre L hL
          have := z.2
          omega
        · have := p8.1 h3
          omega
      · have c : ltE (goL P pre ++ [e]) < st.2.2.2.1 := by
          apply Classical.byContradiction
          intro z
          exact c ((tle' (by omega) (by omega) (by omega) (by omega)).mpr (by omega))
        refine ifs (fun c2 => ?_) (fun c2 => ?_)
        · have c2 := (tle' (by omega) (by omega) (by omega) (by omega)).mp c2
          have hn3 : aim ≠ 3 := fun h3 => by
            have := p8.1 h3
            omega
          have hpN' : pN P = false := by
            cases hz : pN P
            · rfl
            · exact absurd (hpN hz) hn3
          refine hgive (fun L hL z => ?_) hn3
          obtain ⟨b1, b2, b3, t, rfl⟩ := pms_ok m (pre ++ [j]) hnd2 hlt3 L hL
          have h2 := z.1
          unfold ful at h2
          rw [Bool.and_eq_true, decide_eq_true_eq] at h2
          have := goL_bound hP hpN' hn b1 b2 (by rw [b3, hpl]; omega) h2.1 (by omega) hms (by rw [hgl]; simp; omega)
          rw [hgn] at this
          have := z.2
          omega
        · have hsk : SkP P n aim due (pre ++ [j]) st dp I1 := by
            refine ⟨hlr, ?_, by rw [hgl, hgn]; exact hW1, hsr1, hD1, hB1, hS1, p8⟩
            rw [hgl, List.all_append, p2]
            simpa using hso
          have horj : st.1 + (pms n m (pre ++ [j])).length ≤ 900000 := by
            rw [hlist, hiff, List.length_append] at hor
            omega
          have hcall := ih (pre ++ [j]) st dp I1 (A - pT P j 0) (by rw [hpl]; omega) hnd2 hlt3 hA2 hsk (by rw [hgl]; exact c) hen horj
          rw [hpl] at hcall
          rw [show iZ (pre.length : Int) + 1 = iZ ((pre.length + 1 : Nat) : Int) from iZ_s _]
          refine hcall.useV ?_
          rintro I2 J2 ⟨rfl, k1, k2, k3⟩
          rw [hgl, hgn] at k2
          refine hdropf _ _ I2 k1 k2 k3 (fun h3 => Nat.le_trans (hdp h3) (fold_dp _ _)) ⟨fun h3 => ?_, Nat.le_trans (fold_lle _ _) p8.2⟩ rfl (fun _ => rfl)
          rw [fold_lim (by omega)]
          exact p8.1 h3
end SEEK2
theorem ex_free {n : Nat} {pre : List Nat} (h1 : pre.Nodup) (h2 : ∀ j ∈ pre, j < n) (h3 : pre.length < n) : ∃ j, j < n ∧ pre.contains j = false := by
  apply Classical.byContradiction
  intro z
  have hall : ∀ j, j < n → pre.contains j = true := by
    intro j hj
    cases hc : pre.contains j
    · exact absurd ⟨j, hj, hc⟩ z
    · rfl
  have := sfR_list (V := fun _ => 1) (n := n) pre [] (by simpa using h1) h2
  rw [List.nil_append, sfR_full hall n (Nat.le_refl _)] at this
  have hl : ∀ l : List Nat, sfL (fun _ => 1) l = l.length := by
    intro l
    induction l with
    | nil => rfl
    | cons x l ih =>
      show 1 + sfL (fun _ => 1) l = _
      rw [ih, List.length_cons]
      omega
  have h0 : ∀ k, sfR (fun _ => 1) [] k = k := by
    intro k
    induction k with
    | zero => rfl
    | succ k ih =>
      unfold sfR
      rw [ih]
      simp
  rw [hl, h0] at this
  omega
theorem nd_snoc {n j : Nat} {pre : List Nat} (h1 : pre.Nodup) (hc : pre.contains j = false) : (pre ++ [j]).Nodup := by
  rw [List.nodup_append]
  refine ⟨h1, by simp, fun a ha b hb => ?_⟩
  have hb : b = j := by simpa using hb
  subst hb
  rintro rfl
  simp only [List.contains_eq_mem, decide_eq_false_iff_not] at hc
  exact hc ha
theorem lt_snoc {n j : Nat} {pre : List Nat} (h2 : ∀ x ∈ pre, x < n) (hj : j < n) : ∀ x ∈ pre ++ [j], x < n := by
  intro y hy
  rcases List.mem_append.mp hy with hy | hy
  · exact h2 y hy
  · have : y = j := by simpa using hy
    omega
theorem pms_some {n : Nat} : ∀ (m : Nat) (pre : List Nat), pre.Nodup → (∀ j ∈ pre, j < n) → pre.length + m = n → pms n m pre ≠ []
  | 0, pre, _, _, _ => by simp [pms]
  | m + 1, pre, h1, h2, h3 => by
    obtain ⟨j, hj, hc⟩ := ex_free h1 h2 (by omega)
    have h4 := pms_some m (pre ++ [j]) (nd_snoc (n := n) h1 hc) (lt_snoc h2 hj) (by simp; omega)
    obtain ⟨L, hL⟩ := List.exists_mem_of_ne_nil _ h4
    refine List.ne_nil_of_mem (a := L) ?_
    unfold pms
    rw [List.mem_flatMap]
    exact ⟨j, List.mem_range.mpr hj, by rw [hc, if_neg (by decide)]; exact hL⟩
theorem dps_from {P : Pa} {d k : Nat} : ∀ (l : List (List Nat)), l ≠ [] → (∀ L ∈ l, k ≤ (goL P L).length) → l.foldl (dps P) (max d k) = l.foldl (dps P) d
  | [], h, _ => absurd rfl h
  | L :: l, _, h => by
    rw [List.foldl_cons, List.foldl_cons]
    have : dps P (max d k) L = dps P d L := by
      unfold dps
      have := h L (by simp)
      omega
    rw [this]
theorem e_seek {P : Pa} {n aim ms : Nat} {due : Nat → Option Int} {J : JM} {b : Bool} {D : Nat} (hH : SkH P n aim ms due) : ∀ (m : Nat) (pre : List Nat) (st : Ss) (dp : Nat) (I : IM) (A : Nat), pre.length + m = n → pre.Nodup → (∀ j ∈ pre, j < n) → A = sfR (fun j => pT P j 0) pre n + ms → SkP P n aim due pre st dp I → ltE (goL P pre) < st.2.2.2.1 → st.2.2.2.2 = false → st.1 + (pms n m pre).length ≤ 900000 → Call (D + m + 7) 42 [vr 5 0, vi (iZ (pre.length : Int)), vi (iZ (A : Int))] (101, I, J, R0 b) (RVf b (SkT P n aim due pre st dp (pms n m pre) I J)) := by
  intro m
  have hP := hH.1
  have hn := hH.2.1
  have n7 : n ≤ 7 := by have := hP.1; omega
  have hcell : ∀ (pre : List Nat) (st : Ss) (dp : Nat) (I : IM), pre.length ≤ n → SkP P n aim due pre st dp I → st.2.2.2.2 = false → SkP P n aim due pre st (max dp pre.length) (updI I 5 0 9 (if I 5 0 9 < iZ (pre.length : Int) then iZ (pre.length : Int) else I 5 0 9)) := by
    intro pre st dp I h1 hS hen
    obtain ⟨p1, p2, p3, p4, p5, p6, p7, p8⟩ := hS
    have hfr : Fr pSe I (updI I 5 0 9 (if I 5 0 9 < iZ (pre.length : Int) then iZ (pre.length : Int) else I 5 0 9)) := Fr.id.upd rfl
    refine ⟨p1, p2, p3.frame (fun s k z => by rw [updI_if, if_neg (by omega)]), ?_, p5.fr hfr, p6.fs hfr, p7.fs hfr, p8⟩
    obtain ⟨s4, s5, s6, s7, s8, s9⟩ := p4
    refine ⟨(by rw [updI_if, if_neg (by omega)]; exact s4), (by rw [updI_if, if_neg (by omega)]; exact s5), (by rw [updI_if, if_neg (by omega)]; exact s6), (by rw [updI_if, if_neg (by omega)]; exact s7), fun h => ⟨(by rw [updI_if, if_neg (by omega)]; exact (s8 h).1), (s8 h).2.1, fun k j hk => by rw [updI_if, if_neg (by omega)]; exact (s8 h).2.2 k j hk⟩, fun h => ?_⟩
    obtain ⟨y1, y2, y3⟩ := s9 h
    refine ⟨?_, by omega, fun z => by rw [hen] at z; cases z⟩
    rw [uI_eq, y1]
    split
    · next c =>
      congr 2
      have : dp ≤ pre.length := by
        apply Classical.byContradiction
        intro z
        exact nlt (by omega) (by omega) (by omega) c
      omega
    · next c =>
      congr 2
      have : pre.length ≤ dp := by
        apply Classical.byContradiction
        intro z
        exact c (tlt (by omega) (by omega) (by omega))
      omega
  induction m with
  | zero =>
    intro pre st dp I A hl hnd hlt hA hS hlim hen hor
    have hS1 := hcell pre st dp I (by omega) hS hen
    obtain ⟨p1, p2, p3, p4, p5, p6, p7, p8⟩ := hS
    obtain ⟨q1, q2, q3, q4, q5, q6, q7, q8⟩ := hS1
    obtain ⟨hG, g1, g2, g3, g4, g5, g6⟩ := goL_ok hP hnd (fun x hx => by rw [hn]; exact hlt x hx)
    refine t_X5_seek _ _ I J b ?_
    rw [p6.1, hn]
    refine ifn (nlt (by omega) (by omega) (by omega)) ?_
    refine (e_come (D := D + 4) q3 (fun e he => hG.xle he) (by omega) (by rw [g2, p1, List.take_length]) (by omega) (by rw [q6.1, hn]) hH.2.2.1 q4 (by omega) (fun _ => by have := q4.2.2.2.2.2; omega)).useV ?_
    rintro I2 J2 ⟨rfl, k1, k2, k3⟩
    refine RVf.mk ⟨rfl, Fr.tr (Fr.id.upd rfl) k1, k2, ?_⟩
    have e1 : (pms n 0 pre).foldl (cst P n due aim) st = comS P aim st pre := by
      show cst P n due aim st pre = _
      unfold cst
      rw [if_pos]
      refine ⟨hen, ?_, hlim⟩
      unfold ful
      rw [p2, p1, Bool.and_true, decide_eq_true_eq]
      omega
    have e2 : (pms n 0 pre).foldl (dps P) dp = max dp pre.length := by
      show dps P dp pre = _
      unfold dps
      rw [p1]
    rw [e1, e2]
    exact k3
  | succ m ihm =>
    intro pre st dp I A hl hnd hlt hA hS hlim hen hor
    have hS1 := hcell pre st dp I (by omega) hS hen
    have hfr : Fr pSe I (updI I 5 0 9 (if I 5 0 9 < iZ (pre.length : Int) then iZ (pre.length : Int) else I 5 0 9)) := Fr.id.upd rfl
    obtain ⟨p1, p2, p3, p4, p5, p6, p7, p8⟩ := hS
    refine t_X5_seek _ _ I J b ?_
    rw [p6.1, hn]
    refine ifp (tlt (by omega) (by omega) (by omega)) ?_
    have hw := w_seek (D := D + m) (b := b) (J := J) (A := A) (I0 := I) hH hnd hlt hl hA (fun pre2 st2 dp2 I2 A2 z1 z2 z3 z4 z5 z6 z7 z8 => ihm pre2 st2 dp2 I2 A2 z1 z2 z3 z4 z5 z6 z7 z8) n 0 st (max dp pre.length) _ (by omega) hS1 (fun _ => by omega) (by rw [← pms_R]; exact hor) hfr
    refine hw.mono ?_
    rintro q h ⟨I', J', rfl, rfl, rfl, k1, k2, k3⟩
    refine RVf.mk ⟨rfl, k1, k2, ?_⟩
    rw [← pms_R] at k3
    rw [dps_from _ (pms_some _ _ hnd hlt hl)] at k3
    · exact k3
    · intro L hL
      obtain ⟨_, _, _, t, rfl⟩ := pms_ok (m + 1) pre hnd hlt L hL
      obtain ⟨F, hF⟩ := (goL_pre (P := P) (pre := pre) (t := t)).1
      rw [hF, List.length_append]
      omega
