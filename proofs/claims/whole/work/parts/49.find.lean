/-! THE MODEL FINDS: all orders -/
section FIND
variable {D n : Nat} {P : Pa} {sh : Option (Nat × Sh)} {I0 : IM} {J : JM} {b : Bool}
def OrT (P : Pa) (n : Nat) (sh : Option (Nat × Sh)) (pre : List Nat) (m : Mg) (l : List (List Nat)) (I : IM) (J : JM) (I' : IM) (J' : JM) : Prop := J' = J ∧ Fr pTh I I' ∧ I' 10 0 56 = I 10 0 56 ∧ PlM I' pre ∧ MrS P n (l.foldl (mst P n sh) m) I'
theorem w_orders {r : Nat} {pre : List Nat} (hP : PaOK P) (hn : pn P = n) (hnd : pre.Nodup) (hlt : ∀ j ∈ pre, j < n) (hlen : pre.length + (r + 1) = n)
    (ih : ∀ (pre2 : List Nat) (m : Mg) (I : IM), pre2.length + r = n → pre2.Nodup → (∀ j ∈ pre2, j < n) → McX P sh I J → I 10 0 56 = shI sh → PlM I pre2 → MrS P n m I → m.2.2.1 + (pms n r pre2).length ≤ 900000 → Call (D + 9) 191 [vr 10 0, vi (iZ (bl pre2 : Int))] (101, I, J, R0 b) (RVf b (OrT P n sh pre2 m (pms n r pre2) I J))) :
    ∀ (q j : Nat) (m : Mg) (I : IM), q + j = n → McX P sh I J → I 10 0 56 = shI sh → PlM I pre → MrS P n m I → m.2.2.1 + (pmR n r pre j q).length ≤ 900000 → Fr pTh I0 I → WP (D + 9) 191 18 [vr 10 0, vi (iZ (bl pre : Int)), vi (iZ (j : Int))] [] (101, I, J, R0 b) (RVf b fun I' J' => J' = J ∧ Fr pTh I0 I' ∧ I' 10 0 56 = shI sh ∧ PlM I' pre ∧ MrS P n ((pmR n r pre j q).foldl (mst P n sh) m) I') := by
  have n7 : n ≤ 7 := by have := hP.1; omega
  have h128 : bl pre < 128 := by
    have := bl_lt (n := 7) (l := pre) (fun x hx => by have := hlt x hx; omega)
    omega
  intro q
  induction q with
  | zero =>
    intro j m I hj hX h56 hPl hM hlk hf
    refine t_X10_goOrders_18 _ _ I J b ?_
    rw [hX.1.1, hn]
    exact ifp (tle (by omega) (by omega) (by omega)) (RVf.mk ⟨rfl, hf, h56, hPl, hM⟩)
  | succ q ihq =>
    intro j m I hj hX h56 hPl hM hlk hf
    rw [pmR_s, List.length_append] at hlk
    have htb : tb (bl pre) j = pre.contains j := by rw [tb_bit h128 (by omega), bl_bit]
    refine t_X10_goOrders_18 _ _ I J b ?_
    rw [hX.1.1, hn]
    refine ifn (nle (by omega) (by omega) (by omega)) ?_
    cases hc : pre.contains j
    · rw [hc] at htb hlk
      have hlk' : m.2.2.1 + ((pms n r (pre ++ [j])).length + (pmR n r pre (j + 1) q).length) ≤ 900000 := hlk
      refine ifp (of_decide_eq_false htb) ?_
      rw [hPl.1]
      refine ⟨vp_iZ (by omega) (by omega) (by omega), ?_⟩
      rw [iZ_ck (by omega)]
      have hob : iZ (bl pre : Int) ||| ((1 : Int32) <<< (iZ (j : Int) &&& 31)) = iZ (bl (pre ++ [j]) : Int) := by
        rw [bl_app]
        exact ob_bit h128 (by omega)
      rw [hob]
      have hfi : Fr pTh I (updI (updI I 68 0 pre.length (iZ (j : Int))) 10 0 48 (iZ (pre.length : Int) + (1 : Int32))) := (Fr.id.upd rfl).upd rfl
      have ho : ∀ s k, ¬ s = 68 → ¬ (s = 10 ∧ k = 48) → updI (updI I 68 0 pre.length (iZ (j : Int))) 10 0 48 (iZ (pre.length : Int) + (1 : Int32)) s 0 k = I s 0 k := fun s k z1 z2 => by
        rw [updI_if, if_neg (by omega), updI_if, if_neg (by omega)]
      have hM1 : MrS P n m (updI (updI I 68 0 pre.length (iZ (j : Int))) 10 0 48 (iZ (pre.length : Int) + (1 : Int32))) := by
        obtain ⟨m1, m2, m3, m4, m5, m6⟩ := hM
        refine ⟨(ho _ _ (by omega) (by omega)).trans m1, fun hp => ?_, (ho _ _ (by omega) (by omega)).trans m3, m4, ?_, (ho _ _ (by omega) (by omega)).trans m6.1, m6.2⟩
        · have := m2 hp
          unfold MbB at this ⊢
          split at this
          · rw [ho _ _ (by omega) (by omega)]; exact this
          · exact ⟨(ho _ _ (by omega) (by omega)).trans this.1, this.2.1, this.2.2.1, fun k j hk => (ho _ _ (by omega) (by omega)).trans (this.2.2.2 k j hk)⟩
        · unfold MbL at m5 ⊢
          split at m5
          · exact m5
          · exact ⟨m5.1, m5.2.1, fun k j hk => (ho _ _ (by omega) (by omega)).trans (m5.2.2 k j hk)⟩
      refine (ih (pre ++ [j]) m _ (by simp; omega) (nd_snoc (n := n) hnd hc) (lt_snoc hlt (by omega)) (hX.fr hfi) ((ho _ _ (by omega) (by omega)).trans h56) hPl.snoc hM1 (by omega)).useV ?_
      rintro I2 J2 ⟨rfl, k1, k2, k3, k4⟩
      have hff := hfi.tr k1
      have hlen2 : (pre ++ [j]).length = pre.length + 1 := by simp
      have h48 : I2 10 0 48 - (1 : Int32) = iZ (pre.length : Int) := by
        rw [k3.1, hlen2, i_1, iZ_sub]
        congr 1
        omega
      rw [h48, iZ_s]
      have hfu : Fr pTh I2 (updI I2 10 0 48 (iZ (pre.length : Int))) := Fr.id.upd rfl
      have ho2 : ∀ s k, ¬ (s = 10 ∧ k = 48) → updI I2 10 0 48 (iZ (pre.length : Int)) s 0 k = I2 s 0 k := fun s k z => by
        rw [updI_if, if_neg (by omega)]
      have hM2 : MrS P n ((pms n r (pre ++ [j])).foldl (mst P n sh) m) (updI I2 10 0 48 (iZ (pre.length : Int))) := by
        obtain ⟨m1, m2, m3, m4, m5, m6⟩ := k4
        refine ⟨(ho2 _ _ (by omega)).trans m1, fun hp => ?_, (ho2 _ _ (by omega)).trans m3, m4, ?_, (ho2 _ _ (by omega)).trans m6.1, m6.2⟩
        · have := m2 hp
          unfold MbB at this ⊢
          split at this
          · rw [ho2 _ _ (by omega)]; exact this
          · exact ⟨(ho2 _ _ (by omega)).trans this.1, this.2.1, this.2.2.1, fun k j hk => (ho2 _ _ (by omega)).trans (this.2.2.2 k j hk)⟩
        · unfold MbL at m5 ⊢
          split at m5
          · exact m5
          · exact ⟨m5.1, m5.2.1, fun k j hk => (ho2 _ _ (by omega)).trans (m5.2.2 k j hk)⟩
      have hlk2 : ((pms n r (pre ++ [j])).foldl (mst P n sh) m).2.2.1 ≤ m.2.2.1 + (pms n r (pre ++ [j])).length := by
        rw [mst_f]
        exact fLk_b _ _
      have hPl2 : PlM (updI I2 10 0 48 (iZ (pre.length : Int))) pre := by
        refine ⟨uI_eq, fun k x hk => ?_⟩
        rw [ho2 _ _ (by omega)]
        exact k3.2 k x (by rw [List.getElem?_append_left (List.getElem?_eq_some_iff.mp hk).1]; exact hk)
      refine (ihq (j + 1) _ _ (by omega) ((hX.fr hff).fr hfu) (by rw [ho2 _ _ (by omega), k2, ho _ _ (by omega) (by omega)]; exact h56) hPl2 hM2 (by omega) ((hf.tr hff).tr hfu)).mono ?_
      rintro x h ⟨I', J', rfl, rfl, rfl, y1, y2, y3, y4⟩
      refine RVf.mk ⟨rfl, y1, y2, y3, ?_⟩
      rw [pmR_s, hc, List.foldl_append]
      exact y4
    · rw [hc] at htb hlk
      refine ifn (fun z => z (of_decide_eq_true htb)) ?_
      rw [iZ_s]
      refine (ihq (j + 1) m I (by omega) hX h56 hPl hM (by simpa using hlk) hf).mono ?_
      rintro x h ⟨I', J', rfl, rfl, rfl, y1, y2, y3, y4⟩
      refine RVf.mk ⟨rfl, y1, y2, y3, ?_⟩
      rw [pmR_s, hc]
      exact y4
theorem e_orders (hP : PaOK P) (hn : pn P = n) : ∀ (r : Nat) (pre : List Nat) (m : Mg) (I : IM), pre.length + r = n → pre.Nodup → (∀ j ∈ pre, j < n) → McX P sh I J → I 10 0 56 = shI sh → PlM I pre → MrS P n m I → m.2.2.1 + (pms n r pre).length ≤ 900000 → Call (D + r + 9) 191 [vr 10 0, vi (iZ (bl pre : Int))] (101, I, J, R0 b) (RVf b (OrT P n sh pre m (pms n r pre) I J)) := by
  have n7 : n ≤ 7 := by have := hP.1; omega
  intro r
  induction r with
  | zero =>
    intro pre m I hl hnd hlt hX h56 hPl hM hlk
    refine t_X10_goOrders _ I J b ?_
    rw [hX.1.1, hn, hPl.1]
    refine ifn (fun z => z (by rw [show pre.length = n by omega])) ?_
    refine (e_met (D := D) hX hP hn hnd hlt (by omega) (by
      have : (pms n 0 pre).length = 1 := rfl
      omega) h56 hPl hM).useV ?_
    rintro I2 J2 ⟨rfl, k1, k2, k3, k4, k5⟩
    exact RVf.mk ⟨rfl, k1, k3, hPl.eq k2 k4, k5⟩
  | succ r ih =>
    intro pre m I hl hnd hlt hX h56 hPl hM hlk
    refine t_X10_goOrders _ I J b ?_
    rw [hX.1.1, hn, hPl.1]
    refine ifp (by rw [iZ_eq (by omega) (by omega) (by omega) (by omega)]; omega) ?_
    rw [pms_R] at hlk
    have hw := w_orders (D := D + r) (I0 := I) (b := b) (J := J) (sh := sh) hP hn hnd hlt hl ih n 0 m I (by omega) hX h56 hPl hM hlk Fr.id
    refine hw.mono ?_
    rintro x h ⟨I', J', rfl, rfl, rfl, y1, y2, y3, y4⟩
    refine RVf.mk ⟨rfl, y1, by rw [y2, h56], y3, ?_⟩
    rw [pms_R]
    exact y4
/-- all of them -/
def mg0 : Mg := (0, none, 0, none, 0)
def mgF (P : Pa) (n : Nat) (sh : Option (Nat × Sh)) : Mg := (pms n n []).foldl (mst P n sh) mg0
theorem e_find {I : IM} {x : Int32} (hP : PaOK P) (hn : pn P = n) (hX : McX P sh I J) (hx : x = shI sh) : Call (D + 17) 192 [vr 10 0, vi x] (101, I, J, R0 b) (RVf b fun I' J' => J' = J ∧ Fr pTh I I' ∧ MrS P n (mgF P n sh) I') := by
  subst hx
  have n7 : n ≤ 7 := by have := hP.1; omega
  have hfi : Fr pTh I (updI (updI (updI (updI (updI (updI I 10 0 50 0) 10 0 51 (-1)) 10 0 53 0) 10 0 55 0) 10 0 56 (shI sh)) 10 0 48 0) := (((((Fr.id.upd rfl).upd rfl).upd rfl).upd rfl).upd rfl).upd rfl
  refine t_X10_findOrders _ I J b ?_
  have h := e_orders (D := D + (7 - n)) (b := b) (sh := sh) (J := J) hP hn n [] mg0 _ (by simp) (by simp) (by simp) (hX.fr hfi) (by simp [updI_if]) ⟨by simp [updI_if]; rfl, fun k j hk => by simp at hk⟩ ⟨by simp [updI_if]; rfl, fun _ => by show _ = _; simp [updI_if], by simp [updI_if]; rfl, by show 0 ≤ _; omega, rfl, by simp [updI_if]; rfl, by show 0 ≤ _; omega⟩ (by
    have h1 := pms_len (n := n) n []
    have h2 := pow7 n7
    show 0 + _ ≤ _
    omega)
  rw [show D + (7 - n) + n + 9 = D + 16 by omega] at h
  refine h.useV ?_
  rintro I2 J2 ⟨rfl, k1, k2, k3, k4⟩
  exact RVf.mk ⟨rfl, hfi.tr k1, k4⟩
end FIND
