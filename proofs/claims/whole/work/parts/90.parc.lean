/-! THE PARSER, the class: its pieces -/
def cvI (c : Nat) : Int := if c ≤ 255 then (c : Int) else -1
def cV (c : Nat) : Int32 := iZ (cvI c)
theorem cvI_b (c : Nat) : (c ≤ 255 ∧ cvI c = c) ∨ (255 < c ∧ cvI c = -1) := by
  unfold cvI
  split
  · exact Or.inl ⟨by omega, rfl⟩
  · exact Or.inr ⟨by omega, rfl⟩
theorem cV_toInt (c : Nat) : (cV c).toInt = cvI c := by
  have := cvI_b c
  exact iZ_toInt (by omega) (by omega)
theorem cV_is {c k : Nat} {z : Int32} (hk : k ≤ 255) (hz : z.toInt = k) : cV c = z ↔ c = k := by
  have := cvI_b c
  rw [eq_i, cV_toInt, hz]
  omega
theorem cV_isn {c k : Nat} {z : Int32} (hk : k ≤ 255) (hz : z.toInt = k) : ¬ cV c = z ↔ ¬ c = k := not_congr (cV_is hk hz)
def pDr (b : Bool) (s _j k : Nat) : Bool := Nat.beq s (cs (!b)) || (Nat.beq s 3 && (Nat.ble 7 k && Nat.ble k 9))
theorem pDr_iff {b : Bool} {s j k : Nat} : pDr b s j k = true ↔ s = cs (!b) ∨ (s = 3 ∧ 7 ≤ k ∧ k ≤ 9) := by
  unfold pDr
  simp only [Bool.or_eq_true, Bool.and_eq_true, nb_iff, Nat.ble_eq]
def CS (b : Bool) (I : IM) (tp : List Nat) (p : Nat) (W : List Nat) : Prop := I 3 0 8 = iZ (p : Int) ∧ I 3 0 9 = -1 ∧ I 3 0 7 = iZ (W.length : Int) ∧ (∀ (k w : Nat), W[k]? = some w → I (cs (!b)) 0 k = iZ (w : Int)) ∧ TpC I tp ∧ p ≤ tp.length
def CF (I : IM) (tp : List Nat) (f : Nat) : Prop := f ≤ tp.length ∧ TpC I tp ∧ (∃ d : Nat, d ≤ 256 ∧ I 3 0 7 = iZ (d : Int)) ∧ (I 3 0 9 = iZ (f : Int) ∨ (I 3 0 9 = -1 ∧ I 3 0 8 = iZ (f : Int) ∧ isDg (chT tp f) = true))
def CR (b : Bool) (I : IM) (tp W : List Nat) (r : Rs) : Prop := match r with
  | .inl f => CF I tp f
  | .inr (q, T) => CS b I tp q (W ++ T)
theorem csn {b : Bool} : cs (!b) = 27 ∨ cs (!b) = 28 := @cs_ne (!b)
theorem i_m1t : (-1 : Int32).toInt = -1 := rfl
def tpOK (tp : List Nat) : Prop := tp.length ≤ 120 ∧ ∀ x ∈ tp, x ≤ 255
theorem cV_at {tp : List Nat} {p : Nat} (h : tpOK tp) (hp : p < tp.length) : cV (chT tp p) = iZ (chT tp p : Int) := by
  have := chT_le h.2 hp
  unfold cV cvI
  rw [if_pos this]
theorem bI_nr {b : Bool} {s : Nat} (h : s ≠ 27 ∧ s ≠ 28) : ¬ s = cs (!b) := by
  have := @csn b
  omega
theorem CS.fr {b : Bool} {I I' : IM} {tp W : List Nat} {p : Nat} (h : CS b I tp p W) (e : ∀ s k, (s = 3 ∧ 7 ≤ k ∧ k ≤ 10) ∨ s = 24 ∨ s = cs (!b) → I' s 0 k = I s 0 k) : CS b I' tp p W := by
  obtain ⟨h8, h9, h7, hW, ⟨h10, h24⟩, hp⟩ := h
  exact ⟨(e _ _ (by omega)).trans h8, (e _ _ (by omega)).trans h9, (e _ _ (by omega)).trans h7, fun k w hk => (e _ _ (by omega)).trans (hW k w hk), ⟨(e _ _ (by omega)).trans h10, fun k x hk => (e _ _ (by omega)).trans (h24 k x hk)⟩, hp⟩
section PARC
variable {D : Nat} {I : IM} {J : JM} {b : Bool} {tp W : List Nat} {p f : Nat}
theorem CS.go (h : CS b I tp p W) (hp : p < tp.length) : CS b (updI I 3 0 8 (I 3 0 8 + (1 : Int32))) tp (p + 1) W := by
  obtain ⟨h8, h9, h7, hW, ⟨h10, h24⟩, _⟩ := h
  have hc := @csn b
  have e : ∀ s k, ¬ (s = 3 ∧ k = 8) → updI I 3 0 8 (I 3 0 8 + (1 : Int32)) s 0 k = I s 0 k := fun s k z => by rw [updI_if, if_neg (by omega)]
  exact ⟨by rw [uI_eq, h8, iZ_s], (e _ _ (by omega)).trans h9, (e _ _ (by omega)).trans h7, fun k w hk => (e _ _ (by omega)).trans (hW k w hk), ⟨(e _ _ (by omega)).trans h10, fun k x hk => (e _ _ (by omega)).trans (h24 k x hk)⟩, by omega⟩
theorem pDr_go : Fr (pDr b) I (updI I 3 0 8 (I 3 0 8 + (1 : Int32))) := Fr.id.upd (pDr_iff.mpr (Or.inr ⟨rfl, by omega, by omega⟩))
theorem p_next_s (hN : tpOK tp) (h : CS b I tp p W) : Pu (D + 1) 21 [vr 3 0] I J b (cV (chT tp p)) := by
  obtain ⟨h8, h9, _, _, ⟨h10, h24⟩, hp⟩ := h
  have hN1 := hN.1
  refine t_X3_next I J b ?_
  rw [h8, h9, h10]
  refine ifn (by decide) (ifs (fun c1 => ?_) (fun c1 => ?_))
  · rw [iZ_le (by omega) (by omega) (by omega) (by omega)] at c1
    rw [chT_end (by omega)]
    exact ⟨rfl, rfl⟩
  · rw [iZ_le (by omega) (by omega) (by omega) (by omega)] at c1
    have hlt : p < tp.length := by omega
    rw [iZ_ck (by omega), h24 p _ (chT_at hlt), cV_at hN hlt]
    exact ⟨vp_iZ (by omega) (by omega) (by omega), rfl, rfl⟩
theorem p_next_f (hN : tpOK tp) (h : CF I tp f) : ∃ v : Int, (v = -1 ∨ (48 ≤ v ∧ v ≤ 57)) ∧ Pu (D + 1) 21 [vr 3 0] I J b (iZ v) := by
  obtain ⟨hf, ⟨h10, h24⟩, _, h9 | ⟨h9, h8, hd⟩⟩ := h
  · have hN1 := hN.1
    refine ⟨-1, Or.inl rfl, t_X3_next I J b ?_⟩
    rw [h9]
    exact ifp (by rw [i_0]; exact tle (by omega) (by omega) (by omega)) ⟨rfl, rfl⟩
  · have hN1 := hN.1
    have hd := of_decide_eq_true hd
    have hlt := chT_lt (tp := tp) (p := f) (by omega)
    refine ⟨(chT tp f : Int), Or.inr (by omega), t_X3_next I J b ?_⟩
    rw [h9, h8, h10]
    refine ifn (by decide) (ifn (nle (by omega) (by omega) (by omega)) ?_)
    rw [iZ_ck (by omega), h24 f _ (chT_at hlt)]
    exact ⟨vp_iZ (by omega) (by omega) (by omega), rfl, rfl⟩
theorem e_fail_s (hN : tpOK tp) (h : CS b I tp p W) (hW : W.length ≤ 256) : Call (D + 1) 22 [vr 3 0] (101, I, J, R0 b) (RVf b fun I' J' => J' = J ∧ Fr (pDr b) I I' ∧ CF I' tp p ∧ I' 3 0 9 = iZ (p : Int)) := by
  obtain ⟨h8, h9, h7, hW2, ⟨h10, h24⟩, hp⟩ := h
  refine t_X3_fail I J b ?_
  rw [h9, h8]
  refine ifn (by decide) (RVf.mk ⟨rfl, Fr.id.upd (pDr_iff.mpr (Or.inr ⟨rfl, by omega, by omega⟩)), ⟨hp, ⟨?_, fun k x hk => ?_⟩, ⟨W.length, hW, ?_⟩, Or.inl uI_eq⟩, uI_eq⟩)
  · rw [updI_if, if_neg (by omega)]; exact h10
  · rw [updI_if, if_neg (by omega)]; exact h24 k x hk
  · rw [updI_if, if_neg (by omega)]; exact h7
theorem e_fail_f (hN : tpOK tp) (h : CF I tp f) : Call (D + 1) 22 [vr 3 0] (101, I, J, R0 b) (RVf b fun I' J' => J' = J ∧ Fr (pDr b) I I' ∧ CF I' tp f ∧ I' 3 0 9 = iZ (f : Int)) := by
  have hN1 := hN.1
  have hh := h
  obtain ⟨hf, ⟨h10, h24⟩, ⟨d, d1, d2⟩, h9 | ⟨h9, h8, hd⟩⟩ := h
  · refine t_X3_fail I J b ?_
    rw [h9]
    exact ifp (by rw [i_0]; exact tle (by omega) (by omega) (by omega)) (RVf.mk ⟨rfl, Fr.id, hh, h9⟩)
  · refine t_X3_fail I J b ?_
    rw [h9, h8]
    refine ifn (by decide) (RVf.mk ⟨rfl, Fr.id.upd (pDr_iff.mpr (Or.inr ⟨rfl, by omega, by omega⟩)), ⟨hf, ⟨?_, fun k x hk => ?_⟩, ⟨d, d1, ?_⟩, Or.inl uI_eq⟩, uI_eq⟩)
    · rw [updI_if, if_neg (by omega)]; exact h10
    · rw [updI_if, if_neg (by omega)]; exact h24 k x hk
    · rw [updI_if, if_neg (by omega)]; exact d2
theorem t_em (l1 : Int32) {Q : Option AV → AH → Prop} (h : if (256 : Int32) ≤ (I 3 0 7) then Q none (101, I, J, R0 b) else (vp_in (I 3 0 7) 256 ∧ Q none (101, (updI (updI I (cs (!b)) 0 (I 3 0 7).toNatClampNeg l1) 3 0 7 ((I 3 0 7) + (1 : Int32))), J, R0 b))) : Call (D + 1) 23 [vr 3 0, vi l1] (101, I, J, R0 b) Q := by
  cases b
  · exact t_X3_emit_f l1 I J h
  · exact t_X3_emit_t l1 I J h
theorem e_emit_s {w : Nat} {z : Int32} (h : CS b I tp p W) (hW : W.length < 256) (hz : z = iZ (w : Int)) : Call (D + 1) 23 [vr 3 0, vi z] (101, I, J, R0 b) (RVf b fun I' J' => J' = J ∧ Fr (pDr b) I I' ∧ CS b I' tp p (W ++ [w])) := by
  obtain ⟨h8, h9, h7, hW2, ⟨h10, h24⟩, hp⟩ := h
  have hc := @csn b
  refine t_em z ?_
  rw [h7, iZ_ck (by omega), iZ_s]
  have e : ∀ s k, ¬ (s = 3 ∧ k = 7) → ¬ (s = cs (!b) ∧ k = W.length) → updI (updI I (cs (!b)) 0 W.length z) 3 0 7 (iZ ((W.length + 1 : Nat) : Int)) s 0 k = I s 0 k := fun s k z1 z2 => by rw [updI_if, if_neg (by omega), updI_if, if_neg (by omega)]
  refine ifn (by rw [show (256 : Int32) = iZ 256 from rfl]; exact nle (by omega) (by omega) (by omega)) ⟨vp_iZ (by omega) (by omega) (by omega), RVf.mk ⟨rfl, (Fr.id.upd (pDr_iff.mpr (Or.inl rfl))).upd (pDr_iff.mpr (Or.inr ⟨rfl, by omega, by omega⟩)), (e _ _ (by omega) (by omega)).trans h8, (e _ _ (by omega) (by omega)).trans h9, ?_, fun k x hk => ?_, ⟨(e _ _ (by omega) (by omega)).trans h10, fun k x hk => (e _ _ (by omega) (by omega)).trans (h24 k x hk)⟩, hp⟩⟩
  · rw [uI_eq, List.length_append]
    rfl
  · rw [List.getElem?_append] at hk
    split at hk
    · next hlt => exact (e _ _ (by omega) (by omega)).trans (hW2 k x hk)
    · next hge =>
      have hlt : k - W.length < 1 := by
        rw [List.getElem?_eq_some_iff] at hk
        exact hk.1
      have hk0 : k - W.length = 0 := by omega
      rw [hk0] at hk
      cases hk
      rw [updI_if, if_neg (by omega), updI_if, if_pos (by omega)]
      exact hz
theorem e_emit_f {z : Int32} (h : CF I tp f) : Call (D + 1) 23 [vr 3 0, vi z] (101, I, J, R0 b) (RVf b fun I' J' => J' = J ∧ Fr (pDr b) I I' ∧ CF I' tp f) := by
  have hh := h
  obtain ⟨hf, ⟨h10, h24⟩, ⟨d, d1, d2⟩, h9⟩ := h
  have hc := @csn b
  refine t_em z ?_
  rw [d2]
  refine ifs (fun c1 => RVf.mk ⟨rfl, Fr.id, hh⟩) (fun c1 => ?_)
  rw [show (256 : Int32) = iZ 256 from rfl, iZ_le (by omega) (by omega) (by omega) (by omega)] at c1
  rw [iZ_ck (by omega), iZ_s]
  have e : ∀ s k, ¬ (s = 3 ∧ k = 7) → ¬ (s = cs (!b) ∧ k = d) → updI (updI I (cs (!b)) 0 d z) 3 0 7 (iZ ((d + 1 : Nat) : Int)) s 0 k = I s 0 k := fun s k z1 z2 => by rw [updI_if, if_neg (by omega), updI_if, if_neg (by omega)]
  refine ⟨vp_iZ (by omega) (by omega) (by omega), RVf.mk ⟨rfl, (Fr.id.upd (pDr_iff.mpr (Or.inl rfl))).upd (pDr_iff.mpr (Or.inr ⟨rfl, by omega, by omega⟩)), hf, ⟨(e _ _ (by omega) (by omega)).trans h10, fun k x hk => (e _ _ (by omega) (by omega)).trans (h24 k x hk)⟩, ⟨d + 1, by omega, uI_eq⟩, ?_⟩⟩
  rcases h9 with h9 | ⟨h9, h8, hd⟩
  · exact Or.inl ((e _ _ (by omega) (by omega)).trans h9)
  · exact Or.inr ⟨(e _ _ (by omega) (by omega)).trans h9, (e _ _ (by omega) (by omega)).trans h8, hd⟩
def lvR (c : Nat) : Int32 := if lvO c = 9 then -1 else iZ (lvO c : Int)
theorem p_lv_c {c : Nat} : Pu (D + 1) 26 [vi (cV c)] I J b (lvR c) := by
  refine t_X3_levelOf _ I J b ?_
  refine ift (cV_is (k := 37) (by omega) rfl) (fun h => ⟨by rw [h]; rfl, rfl⟩) (fun h1 => ift (cV_is (k := 38) (by omega) rfl) (fun h => ⟨by rw [h]; rfl, rfl⟩) (fun h2 => ift (cV_is (k := 42) (by omega) rfl) (fun h => ⟨by rw [h]; rfl, rfl⟩) (fun h3 => ift (cV_is (k := 43) (by omega) rfl) (fun h => ⟨by rw [h]; rfl, rfl⟩) (fun h4 => ift (cV_is (k := 45) (by omega) rfl) (fun h => ⟨by rw [h]; rfl, rfl⟩) (fun h5 => ift (cV_is (k := 47) (by omega) rfl) (fun h => ⟨by rw [h]; rfl, rfl⟩) (fun h6 => ift (cV_is (k := 60) (by omega) rfl) (fun h => ⟨by rw [h]; rfl, rfl⟩) (fun h7 => ift (cV_is (k := 61) (by omega) rfl) (fun h => ⟨by rw [h]; rfl, rfl⟩) (fun h8 => ift (cV_is (k := 62) (by omega) rfl) (fun h => ⟨by rw [h]; rfl, rfl⟩) (fun h9 => ift (cV_is (k := 124) (by omega) rfl) (fun h => ⟨by rw [h]; rfl, rfl⟩) (fun h10 => ⟨?_, rfl⟩))))))))))
  have e : lvO c = 9 := by
    unfold lvO
    rw [if_neg h10, if_neg h2, if_neg (by omega), if_neg (by omega), if_neg (by omega)]
  unfold lvR
  rw [if_pos e]
theorem p_lv_d {v : Int} (hv : v = -1 ∨ (48 ≤ v ∧ v ≤ 57)) : Pu (D + 1) 26 [vi (iZ v)] I J b (-1) := by
  have e : (iZ v).toInt = v := iZ_toInt (by omega) (by omega)
  refine t_X3_levelOf _ I J b ?_
  refine ift (c_eq (m := 37) rfl) (fun h => absurd h (by omega)) (fun h1 => ift (c_eq (m := 38) rfl) (fun h => absurd h (by omega)) (fun h2 => ift (c_eq (m := 42) rfl) (fun h => absurd h (by omega)) (fun h3 => ift (c_eq (m := 43) rfl) (fun h => absurd h (by omega)) (fun h4 => ift (c_eq (m := 45) rfl) (fun h => absurd h (by omega)) (fun h5 => ift (c_eq (m := 47) rfl) (fun h => absurd h (by omega)) (fun h6 => ift (c_eq (m := 60) rfl) (fun h => absurd h (by omega)) (fun h7 => ift (c_eq (m := 61) rfl) (fun h => absurd h (by omega)) (fun h8 => ift (c_eq (m := 62) rfl) (fun h => absurd h (by omega)) (fun h9 => ift (c_eq (m := 124) rfl) (fun h => absurd h (by omega)) (fun h10 => ⟨rfl, rfl⟩))))))))))
/-- a number -/
theorem w_num (hN : tpOK tp) : ∀ (m l v p : Nat) (I I0 : IM), m + l = 4 → v < 10 ^ l → CS b I tp p W → W.length < 256 → Fr (pDr b) I0 I → WP (D + 1) 28 4 [vr 3 0, vi (iZ (v : Int)), vi (iZ (l : Int))] [] (101, I, J, R0 b) (RVf b fun I' J' => J' = J ∧ Fr (pDr b) I0 I' ∧ CS b I' tp (nuE tp m p v).1 (W ++ [1000 + (nuE tp m p v).2])) := by
  intro m
  induction m with
  | zero =>
    intro l v p I I0 hl hv hS hW hF
    have hN1 := hN.1
    have : l = 4 := by omega
    subst this
    have hv : v < 10000 := hv
    refine t_X3_readNumber_4 _ _ I J b (ifp (by decide) ?_)
    refine (e_emit_s (D := D) (w := 1000 + v) hS hW (by rw [show (1000 : Int32) = iZ 1000 from rfl, iZ_add]; congr 1)).mono ?_
    rintro r h ⟨I1, J1, rfl, rfl, rfl, hf, hS1⟩
    exact RVf.mk (RVf.mk ⟨rfl, hF.tr hf, hS1⟩)
  | succ m ih =>
    intro l v p I I0 hl hv hS hW hF
    have hl3 : l ≤ 3 := by omega
    have hv9 : v < 1000 := Nat.lt_of_lt_of_le hv (Nat.pow_le_pow_right (by omega) hl3)
    have hcb := cvI_b (chT tp p)
    have hend : isDg (chT tp p) = false → Call (D + 1) 23 [vr 3 0, vi ((1000 : Int32) + iZ (v : Int))] (101, I, J, R0 b) (RVf b fun I2 J3 => (RVf b fun I' J' => J' = J ∧ Fr (pDr b) I0 I' ∧ CS b I' tp (nuE tp (m + 1) p v).1 (W ++ [1000 + (nuE tp (m + 1) p v).2])) none (101, I2, J3, R0 b)) := fun hd => by
      have e : nuE tp (m + 1) p v = (p, v) := by
        unfold nuE
        rw [if_neg (by rw [hd]; decide)]
      rw [e]
      refine (e_emit_s (D := D) (w := 1000 + v) hS hW (by rw [show (1000 : Int32) = iZ 1000 from rfl, iZ_add]; congr 1)).mono ?_
      rintro r h ⟨I1, J1, rfl, rfl, rfl, hf, hS1⟩
      exact RVf.mk (RVf.mk ⟨rfl, hF.tr hf, hS1⟩)
    refine t_X3_readNumber_4 _ _ I J b (ifn (by rw [show (4 : Int32) = iZ 4 from rfl]; exact nle (by omega) (by omega) (by omega)) ?_)
    have hcv := cV_toInt (chT tp p)
    refine (p_next_s (D := D) hN hS).use (ift (c_lt (m := 48) rfl) (fun c1 => hend ?_) (fun c1 => ?_))
    · unfold isDg
      exact decide_eq_false (by omega)
    refine (p_next_s (D := D) hN hS).use (ift (c_gt (m := 57) rfl) (fun c2 => hend ?_) (fun c2 => ?_))
    · unfold isDg
      exact decide_eq_false (by omega)
    refine (p_next_s (D := D) hN hS).use ?_
    have hdg : isDg (chT tp p) = true := decide_eq_true (by omega)
    have hlt := chT_lt (tp := tp) (p := p) (by omega)
    have e : nuE tp (m + 1) p v = nuE tp m (p + 1) (10 * v + (chT tp p - 48)) := by
      conv => lhs; unfold nuE
      rw [if_pos hdg]
    have ev : iZ (v : Int) * (10 : Int32) + cV (chT tp p) - (48 : Int32) = iZ ((10 * v + (chT tp p - 48) : Nat) : Int) := by
      rw [i_10, cV_at hN hlt, show (48 : Int32) = iZ 48 from rfl, iZ_mul, iZ_add, iZ_sub]
      congr 1
      omega
    rw [e, ev, iZ_s]
    refine ih (l + 1) _ (p + 1) _ I0 (by omega) ?_ (hS.go hlt) hW (hF.tr pDr_go)
    rw [Nat.pow_succ]
    omega
theorem e_num (hN : tpOK tp) (hS : CS b I tp p W) (hW : W.length < 256) : Call (D + 2) 28 [vr 3 0] (101, I, J, R0 b) (RVf b fun I' J' => J' = J ∧ Fr (pDr b) I I' ∧ CS b I' tp (nuE tp 4 p 0).1 (W ++ [1000 + (nuE tp 4 p 0).2])) := t_X3_readNumber I J b (w_num hN 4 0 0 p I I (by omega) (by omega) hS hW Fr.id)
/-- where a name stands -/
def ixF (z : Int32) : Nat → Nat → Int32
  | 0, _ => -1
  | m + 1, l => if (STl 991).getD l 0 = z then iZ (l : Int) else ixF z m (l + 1)
theorem ix_all : ∀ c : Fin 256, ixF ((iZ (c.val : Int)).toInt8.toInt32) 6 0 = (if nmO c.val < 6 then iZ (nmO c.val : Int) else -1) ∧ ((iZ (c.val : Int)).toUInt32 % 65536).toInt32 = iZ (c.val : Int) := by decide +kernel
theorem w_ix {z : Int32} : ∀ (m l : Nat), m + l = 6 → WP D 251 7 [vr 991 0, vn, vn, vi 6, vi z, vi (iZ (l : Int))] [] (101, I, J, R0 b) (fun r h => r = some (vi (ixF z m l)) ∧ h = (101, I, J, R0 b)) := by
  intro m
  induction m with
  | zero =>
    intro l hl
    have : l = 6 := by omega
    subst this
    exact t_J1_indexOfChar_4cfef_7 _ _ _ I J b (ifp (by decide) ⟨rfl, rfl⟩)
  | succ m ih =>
    intro l hl
    refine t_J1_indexOfChar_4cfef_7 _ _ _ I J b (ifn (by rw [i_6]; exact nle (by omega) (by omega) (by omega)) ⟨vp_iZ (by omega) (by omega) (by omega), ?_⟩)
    rw [iZ_ck (by omega), iZ_s]
    unfold ixF
    refine ifs (fun c1 => ?_) (fun c1 => ⟨?_, rfl⟩)
    · rw [if_neg c1]
      exact ih (l + 1) (by omega)
    · rw [if_pos (Classical.not_not.mp c1)]
theorem p_ix {c : Nat} (hc : c ≤ 255) : Pu (D + 4) 246 [vr 990 0, vi ((iZ (c : Int)).toUInt32 % 65536).toInt32] I J b (if nmO c < 6 then iZ (nmO c : Int) else -1) := by
  obtain ⟨e1, e2⟩ := ix_all ⟨c, by omega⟩
  dsimp only at e1 e2
  rw [e2]
  refine t_J0_indexOf_0f7a4 _ I J b (t_J0_indexOf_7cf53 _ _ I J b (t_J0_isLatin1_aae02 I J b (RIf.mk (ifn (by decide) ?_))))
  refine t_J0_length_8abf5 I J b (t_J0_coder_7d493 I J b (RIf.mk (RIf.mk ?_)))
  refine t_J1_indexOf_4cfef _ _ _ I J b (t_J1_canEncode_9a6ad _ I J b ?_)
  refine ifn (by rw [i_0]; exact nlt (by omega) (by omega) (by omega)) (ifn (by rw [show (255 : Int32) = iZ 255 from rfl]; exact nlt (by omega) (by omega) (by omega)) (RIf.mk (ifp (by decide) (ifp (by decide) ?_))))
  refine t_J1_indexOfChar_4cfef _ _ _ I J b ?_
  have := w_ix (D := D) (I := I) (J := J) (b := b) (z := (iZ (c : Int)).toInt8.toInt32) 6 0 (by omega)
  rw [e1] at this
  refine WP.mono (show WP D 251 7 [vr 991 0, vn, vn, vi (if (6 : Int32) < (6 : Int32) >>> ((0 : Int32) &&& 31) then 6 else (6 : Int32) >>> ((0 : Int32) &&& 31)), vi (iZ (c : Int)).toInt8.toInt32, vi (if (0 : Int32) < 0 then 0 else 0)] [] (101, I, J, R0 b) _ from this) ?_
  rintro r h ⟨rfl, rfl⟩
  exact RIf.mk (RIf.mk (RIf.mk ⟨rfl, rfl⟩))
end PARC
