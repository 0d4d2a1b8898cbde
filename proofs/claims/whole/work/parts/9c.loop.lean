/-! THE LAW'S RUN: the two are made, then six numbers a round -/
theorem ofNat_iZ (n : Nat) : Int32.ofNat n = iZ (n : Int) := (Int32.ofInt_eq_ofNat (n := n)).symm
section LAWRUN
variable {Lx : Nat} {xs : Nat → Int32} {P : WT} {I : IM} {J : JM} {h : AH}
theorem law_head (hP : LwR Lx xs P) (hL : Lx ≤ 3072) (hE : ∀ (Lo : List AV) (h : AH), P 101 4471 1487 Lo [vi 1] h) {t : Nat} (ht : t ≤ 3072) (hgo : t + 6 ≤ Lx → P 101 4471 27 (LsT t) [] h) : P 101 4471 18 (LsT t) [] h := by
  refine hP.know fun hO => ?_
  have hlen : len h 950 0 = Lx := hO.2.2.2.2.1
  refine hP.one (c' := 101) (s' := 4471) (pc' := 19) (L' := LsT t) (st' := [vi (iZ (t : Int))]) (h' := h) rfl rfl ?_
  refine hP.one (c' := 101) (s' := 4471) (pc' := 20) (L' := LsT t) (st' := [vr 950 0, vi (iZ (t : Int))]) (h' := h) rfl rfl ?_
  refine hP.one (c' := 101) (s' := 4471) (pc' := 21) (L' := LsT t) (st' := [vi (Int32.ofNat (len h 950 0)), vi (iZ (t : Int))]) (h' := h) rfl rfl ?_
  rw [hlen, ofNat_iZ]
  refine hP.one (c' := 101) (s' := 4471) (pc' := 23) (L' := LsT t) (st' := [vi 6, vi (iZ (Lx : Int)), vi (iZ (t : Int))]) (h' := h) rfl rfl ?_
  refine hP.one (c' := 101) (s' := 4471) (pc' := 24) (L' := LsT t) (st' := [vi (iZ (Lx : Int) - 6), vi (iZ (t : Int))]) (h' := h) rfl rfl ?_
  rw [i_6, iZ_sub]
  by_cases hc : t + 6 ≤ Lx
  · have hn : ¬ iZ ((Lx : Int) - 6) < iZ (t : Int) := nlt (by omega) (by omega) (by omega)
    refine hP.one (c' := 101) (s' := 4471) (pc' := 27) (L' := LsT t) (st' := []) (h' := h) rfl ?_ (hgo hc)
    show nx 101 4471 (bif decide (iZ ((Lx : Int) - 6) < iZ (t : Int)) then 1486 else 24 + 3) (LsT t) [] h = _
    rw [decide_eq_false hn]
    rfl
  · have hn : iZ ((Lx : Int) - 6) < iZ (t : Int) := tlt (by omega) (by omega) (by omega)
    refine hP.one (c' := 101) (s' := 4471) (pc' := 1486) (L' := LsT t) (st' := []) (h' := h) rfl ?_ ?_
    · show nx 101 4471 (bif decide (iZ ((Lx : Int) - 6) < iZ (t : Int)) then 1486 else 24 + 3) (LsT t) [] h = _
      rw [decide_eq_true hn]
      rfl
    · exact hP.one (c' := 101) (s' := 4471) (pc' := 1487) (L' := LsT t) (st' := [vi 1]) (h' := h) rfl rfl (hE _ _)
theorem law_body (hP : LwR Lx xs P) (hL : Lx ≤ 3072) {t k : Nat} {g : Sg} {b : Bool} (ht : t + 6 ≤ Lx) (hc : k < 512) (hX : XR g I J b) (hM : MR g I J) (hO : SOK g k) (hK : GoOn P t (k + 1)) : P 101 4471 27 (LsT t) [] (101, I, J, R0 b) := by
  refine hP.know fun hH => ?_
  refine hP.one (c' := 101) (s' := 4471) (pc' := 28) (L' := LsT t) (st' := [vr 950 0]) (h' := (101, I, J, R0 b)) rfl rfl ?_
  refine hP.one (c' := 101) (s' := 4471) (pc' := 29) (L' := LsT t) (st' := [vi (iZ (t : Int)), vr 950 0]) (h' := (101, I, J, R0 b)) rfl rfl ?_
  refine hP.one (c' := 101) (s' := 4471) (pc' := 30) (L' := LsT t) (st' := [vi (xs t)]) (h' := (101, I, J, R0 b)) (e := E0 .iaload 0) rfl ?_ ?_
  · have := ialoadc_ok (f := f00) (y := 260) (e := E0 .iaload 0) (c := 101) (s := 4471) (pc := 29) (L := mkL 0 (LsT t)) (r := []) (s1 := 950) (j1 := 0) (h := (101, I, J, R0 b)) rfl rfl (show len (101, I, J, R0 b) 950 0 = Lx from hH.2.2.2.2.1) (inA_iZ (k := t) (by omega) hL)
    rw [iZ_ck (by omega), show rdI ((101, I, J, R0 b) : AH).2.1 950 0 t = ((101, I, J, R0 b) : AH).2.1 950 0 t from rfl, hH.2.2.2.1] at this
    exact this
  refine hP.one (c' := 101) (s' := 4471) (pc' := 32) (L' := LsT t) (st' := [vi 63, vi (xs t)]) (h' := (101, I, J, R0 b)) rfl rfl ?_
  refine hP.one (c' := 101) (s' := 4471) (pc' := 33) (L' := LsT t) (st' := [vi (xs t &&& 63)]) (h' := (101, I, J, R0 b)) rfl rfl ?_
  exact hP.one (c' := 101) (s' := 4471) (L' := LsT t) (st' := []) (h' := (101, I, J, R0 b)) rfl rfl (lwc_sw hP hL ht hc hX hM hO hK (xs t &&& 63))
theorem law_loop (hP : LwR Lx xs P) (hL : Lx ≤ 3072) (hE : ∀ (Lo : List AV) (h : AH), P 101 4471 1487 Lo [vi 1] h) : ∀ (n k : Nat) (g : Sg) (I : IM) (J : JM) (b : Bool), n + k = 512 → XR g I J b → MR g I J → SOK g k → P 101 4471 18 (LsT (6 * k)) [] (101, I, J, R0 b) := by
  intro n
  induction n with
  | zero =>
    intro k g I J b hk hX hM hO
    exact law_head hP hL hE (by omega) (fun h => absurd h (by omega))
  | succ n ih =>
    intro k g I J b hk hX hM hO
    refine law_head hP hL hE (by omega) (fun h => law_body hP hL h (by omega) hX hM hO ?_)
    intro g' I' J' b' hX' hM' hO'
    refine hP.one (c' := 101) (s' := 4471) (pc' := 1483) (L' := [vr 950 0, vr 9 0, vr 10 0, vi (iZ ((6 * k : Nat) : Int) + 6)]) (st' := []) (h' := (101, I', J', R0 b')) rfl rfl ?_
    have e1 : iZ ((6 * k : Nat) : Int) + 6 = iZ ((6 * (k + 1) : Nat) : Int) := by
      rw [i_6, iZ_add]
      congr 1
    rw [e1]
    exact hP.one (c' := 101) (s' := 4471) (pc' := 18) (L' := LsT (6 * (k + 1))) (st' := []) (h' := (101, I', J', R0 b')) rfl rfl (ih (k + 1) g' I' J' b' (by omega) hX' hM' hO')
theorem law_run (hP : LwR Lx xs P) (hL : Lx ≤ 3072) (hE : ∀ (Lo : List AV) (h : AH), P 101 4471 1487 Lo [vi 1] h) : P 0 0 0 [vr 950 0, vn, vn, vn] [] (0, I0w Lx xs, Jno, Rno) := by
  refine hP.one (c' := 1) (s' := 13) (pc' := 3) (L' := [vr 950 0, vn, vn, vn]) (st' := [vr 9 0]) (h' := (1, zerI (I0w Lx xs) 9 0, zerJ Jno 9 0, zerR Rno 9 0)) rfl rfl ?_
  refine hP.one (c' := 1) (s' := 13) (pc' := 4) (L' := [vr 950 0, vn, vn, vn]) (st' := [vr 9 0, vr 9 0]) (h' := (1, zerI (I0w Lx xs) 9 0, zerJ Jno 9 0, zerR Rno 9 0)) rfl rfl ?_
  refine hP.2.1 1 13 4 [vr 950 0, vn, vn, vn] [vr 9 0, vr 9 0] (1, zerI (I0w Lx xs) 9 0, zerJ Jno 9 0, zerR Rno 9 0) (EP (.invokespecial 9) 0 78 0 2 110) 78 58 2212 [vr 9 0] [vr 950 0, vn, vn, vn] [vr 9 0] _ rfl (fun f r h' hf => callN_ok hf rfl rfl rfl rfl rfl) (c_X9_init_1 (D := 897) (zerI (I0w Lx xs) 9 0) (zerJ Jno 9 0) (zerR Rno 9 0)) ?_
  rintro _ _ ⟨rfl, rfl⟩
  refine hP.one (c' := 58) (s' := 2212) (pc' := 8) (L' := [vr 950 0, vr 9 0, vn, vn]) (st' := []) rfl rfl ?_
  refine hP.one (c' := 59) (s' := 2292) (pc' := 11) (L' := [vr 950 0, vr 9 0, vn, vn]) (st' := [vr 10 0]) (h' := (59, zerI (c_X9_init_1_I (zerI (I0w Lx xs) 9 0)) 10 0, zerJ (c_X9_init_1_J (zerJ Jno 9 0)) 10 0, zerR (c_X9_init_1_R (zerR Rno 9 0)) 10 0)) rfl rfl ?_
  refine hP.one (c' := 59) (s' := 2292) (pc' := 12) (L' := [vr 950 0, vr 9 0, vn, vn]) (st' := [vr 10 0, vr 10 0]) (h' := (59, zerI (c_X9_init_1_I (zerI (I0w Lx xs) 9 0)) 10 0, zerJ (c_X9_init_1_J (zerJ Jno 9 0)) 10 0, zerR (c_X9_init_1_R (zerR Rno 9 0)) 10 0)) rfl rfl ?_
  refine hP.2.1 59 2292 12 [vr 950 0, vr 9 0, vn, vn] [vr 10 0, vr 10 0] _ (EP (.invokespecial 12) 0 134 0 2 1114) 134 101 4471 [vr 10 0] [vr 950 0, vr 9 0, vn, vn] [vr 10 0] _ rfl (fun f r h' hf => callN_ok hf rfl rfl rfl rfl rfl) (c_X10_init_59 (D := 899) (zerI (c_X9_init_1_I (zerI (I0w Lx xs) 9 0)) 10 0) (zerJ (c_X9_init_1_J (zerJ Jno 9 0)) 10 0) (zerR (c_X9_init_1_R (zerR Rno 9 0)) 10 0)) ?_
  rintro _ _ ⟨rfl, rfl⟩
  refine hP.one (c' := 101) (s' := 4471) (pc' := 16) (L' := [vr 950 0, vr 9 0, vr 10 0, vn]) (st' := []) (h' := (101, iI Lx xs, iJ, iR)) rfl rfl ?_
  refine hP.one (c' := 101) (s' := 4471) (pc' := 17) (L' := [vr 950 0, vr 9 0, vr 10 0, vn]) (st' := [vi 0]) (h' := (101, iI Lx xs, iJ, iR)) rfl rfl ?_
  refine hP.one (c' := 101) (s' := 4471) (pc' := 18) (L' := [vr 950 0, vr 9 0, vr 10 0, vi 0]) (st' := []) (h' := (101, iI Lx xs, iJ, iR)) rfl rfl ?_
  refine hP.2.2.2 _ _ _ _ _ _ _ _ _ agR_i (okR_R0 _ _ _) ?_
  exact law_loop hP hL hE 512 0 g0 (iI Lx xs) iJ false rfl (x_fresh Lx xs) (m_fresh Lx xs) g0_ok
end LAWRUN
