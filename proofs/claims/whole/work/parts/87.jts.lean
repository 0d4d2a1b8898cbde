/-! CHANGES: joints from a row -/
def jZ (n : Int) : Int64 := Int64.ofInt n
theorem jZ_toInt {n : Int} (h1 : -1099511627776 ≤ n) (h2 : n < 1099511627776) : (jZ n).toInt = n := Int64.toInt_ofInt_of_le (by
  have : (2 : Int) ^ 63 = 9223372036854775808 := by decide
  omega) (by
  have : (2 : Int) ^ 63 = 9223372036854775808 := by decide
  omega)
theorem jZ_32 (n : Int) : (jZ n).toInt32 = iZ n := Int64.toInt32_ofInt
theorem iZ_64 {n : Int} (h1 : -2147483648 ≤ n) (h2 : n < 2147483648) : (iZ n).toInt64 = jZ n := Int32.toInt64_ofInt (by
  have : Int32.minValue.toInt = -2147483648 := by decide
  omega) (by
  have : Int32.maxValue.toInt = 2147483647 := by decide
  omega)
theorem jZ_add (a b : Int) : jZ a + jZ b = jZ (a + b) := (Int64.ofInt_add a b).symm
theorem lgc (a b : Int64) : (lg_cmp a b ≤ 0 ↔ a.toInt ≤ b.toInt) ∧ (lg_cmp a b < 0 ↔ a.toInt < b.toInt) ∧ (0 ≤ lg_cmp a b ↔ b.toInt ≤ a.toInt) := by
  unfold lg_cmp
  split
  · next h =>
    have h : b.toInt < a.toInt := Int64.lt_iff_toInt_lt.mp h
    exact ⟨⟨fun z => absurd z (by decide), fun z => by omega⟩, ⟨fun z => absurd z (by decide), fun z => by omega⟩, ⟨fun _ => by omega, fun _ => by decide⟩⟩
  · next h =>
    have h : ¬ b.toInt < a.toInt := fun z => h (Int64.lt_iff_toInt_lt.mpr z)
    split
    · next h2 =>
      subst h2
      exact ⟨⟨fun _ => by omega, fun _ => by decide⟩, ⟨fun z => absurd z (by decide), fun z => by omega⟩, ⟨fun _ => by omega, fun _ => by decide⟩⟩
    · next h2 =>
      have h3 : ¬ a.toInt = b.toInt := fun z => h2 (Int64.toInt_inj.mp z)
      exact ⟨⟨fun _ => by omega, fun _ => by decide⟩, ⟨fun _ => by omega, fun _ => by decide⟩, ⟨fun z => absurd z (by decide), fun z => by omega⟩⟩
def cN (q : Sh) (p : Nat) : Int32 := (sC q p).toInt32
def vN (q : Sh) (p : Nat) : Nat := (cN q p).toInt.toNat
def okJ (q : Sh) (p : Nat) : Bool := decide (p + 3 ≤ sL q) && (inB (cN q p) 1 9 && (inB (cN q (p + 1)) 0 3 && inB (cN q (p + 2)) 0 2))
theorem okJ_ex {q : Sh} {p : Nat} (h : okJ q p = true) : p + 3 ≤ sL q ∧ inB (cN q p) 1 9 = true ∧ inB (cN q (p + 1)) 0 3 = true ∧ inB (cN q (p + 2)) 0 2 = true ∧ vN q p ≤ 9 ∧ vN q (p + 1) ≤ 3 ∧ vN q (p + 2) ≤ 2 ∧ cN q p = iZ (vN q p : Int) ∧ cN q (p + 1) = iZ (vN q (p + 1) : Int) ∧ cN q (p + 2) = iZ (vN q (p + 2) : Int) := by
  unfold okJ at h
  rw [Bool.and_eq_true, Bool.and_eq_true, Bool.and_eq_true, decide_eq_true_eq] at h
  obtain ⟨h1, h2, h3, h4⟩ := h
  obtain ⟨a, a1, a2, a3⟩ := inB_ex (l := 1) (h := 9) rfl rfl (by omega) (by omega) h2
  obtain ⟨b, b1, b2, b3⟩ := inB_ex (l := 0) (h := 3) rfl rfl (by omega) (by omega) h3
  obtain ⟨c, c1, c2, c3⟩ := inB_ex (l := 0) (h := 2) rfl rfl (by omega) (by omega) h4
  have ea : vN q p = a := by unfold vN; rw [a3, iZ_toInt (by omega) (by omega)]; omega
  have eb : vN q (p + 1) = b := by unfold vN; rw [b3, iZ_toInt (by omega) (by omega)]; omega
  have ec : vN q (p + 2) = c := by unfold vN; rw [c3, iZ_toInt (by omega) (by omega)]; omega
  exact ⟨h1, h2, h3, h4, by omega, by omega, by omega, by rw [ea, a3], by rw [eb, b3], by rw [ec, c3]⟩
/-- how many came, how many there are, their numbers -/
def jsF (q : Sh) (i n : Nat) : Nat → Nat → Nat → (Nat → Nat → Nat) → Nat × Nat × (Nat → Nat → Nat)
  | 0, c, N, V => (c, N, V)
  | m + 1, c, N, V => if n ≤ c ∨ 7 ≤ N ∨ okJ q (i + 3 * c) = false then (c, N, V) else jsF q i n m (c + 1) (N + 1) (vAdd V N (vN q (i + 3 * c)) (vN q (i + 3 * c + 1)) (vN q (i + 3 * c + 2)))
theorem jsF_ok {q : Sh} {i n : Nat} : ∀ (m c N : Nat) (V : Nat → Nat → Nat), BnOK N V → BnOK (jsF q i n m c N V).2.1 (jsF q i n m c N V).2.2 ∧ N ≤ (jsF q i n m c N V).2.1
  | 0, c, N, V, h => ⟨h, Nat.le_refl _⟩
  | m + 1, c, N, V, h => by
    unfold jsF
    split
    · exact ⟨h, Nat.le_refl _⟩
    · next hc =>
      have hk : okJ q (i + 3 * c) = true := by
        cases hk : okJ q (i + 3 * c)
        · exact absurd (Or.inr (Or.inr hk)) hc
        · rfl
      obtain ⟨_, _, _, _, a1, a2, a3, _⟩ := okJ_ex hk
      have := jsF_ok (q := q) (i := i) (n := n) m (c + 1) (N + 1) _ (vAdd_ok h (by omega) a1 a2 a3)
      exact ⟨this.1, by omega⟩
theorem jsF_y {q : Sh} {i n m c N : Nat} {V : Nat → Nat → Nat} (h1 : ¬ n ≤ c) (h2 : ¬ 7 ≤ N) (h3 : okJ q (i + 3 * c) = true) : jsF q i n (m + 1) c N V = jsF q i n m (c + 1) (N + 1) (vAdd V N (vN q (i + 3 * c)) (vN q (i + 3 * c + 1)) (vN q (i + 3 * c + 2))) := by
  conv => lhs; unfold jsF
  rw [if_neg]
  rintro (z | z | z)
  · exact h1 z
  · exact h2 z
  · rw [h3] at z
    cases z
theorem jsF_n {q : Sh} {i n m c N : Nat} {V : Nat → Nat → Nat} (h : n ≤ c ∨ 7 ≤ N ∨ okJ q (i + 3 * c) = false) : jsF q i n (m + 1) c N V = (c, N, V) := by
  conv => lhs; unfold jsF
  rw [if_pos h]
theorem pl_eq {i c : Nat} (hi : i < 2147483648) (hc : c ≤ 8) : (iZ (i : Int)).toInt64 + ((3 : Int32) * iZ (c : Int)).toInt64 = jZ ((i + 3 * c : Nat) : Int) := by
  rw [i_3, iZ_mul, iZ_64 (by omega) (by omega), iZ_64 (by omega) (by omega), jZ_add]
  congr 1
section JTS
variable {D : Nat} {g : Sg} {J : JM} {b : Bool}
theorem e_jfr {s p N : Nat} {q : Sh} {V : Nat → Nat → Nat} {I : IM} (hq : ShC I J s q) (h2 : sK q = 2) (hL : sL q ≤ 60) (hB : BnC I N V) (hO : BnOK N V) (hp : p < 3000000000) : Call (D + 2) 81 [vr 9 0, vr 6 s, vl (jZ (p : Int))] (101, I, J, R0 b) (RIf b fun x I' J' => J' = J ∧ (okJ q p = true → N < 7 → x = 1 ∧ BnC I' (N + 1) (vAdd V N (vN q p) (vN q (p + 1)) (vN q (p + 2))) ∧ ∀ s j k, ¬ (s = 1 ∨ s = 20) → I' s j k = I s j k) ∧ (okJ q p = false ∨ 7 ≤ N → x = 0 ∧ I' = I)) := by
  have n7 := hO.1
  obtain ⟨q1, q2, q3⟩ := hq
  obtain ⟨r1, r2, r3⟩ := q3 h2
  have hcmp := (lgc (jZ ((p : Int) + 3)) (jZ (sL q : Int))).1
  rw [jZ_toInt (by omega) (by omega), jZ_toInt (by omega) (by omega)] at hcmp
  have hno : okJ q p = false → RIf b (fun x I' J' => J' = J ∧ (okJ q p = true → N < 7 → x = 1 ∧ BnC I' (N + 1) (vAdd V N (vN q p) (vN q (p + 1)) (vN q (p + 2))) ∧ ∀ s j k, ¬ (s = 1 ∨ s = 20) → I' s j k = I s j k) ∧ (okJ q p = false ∨ 7 ≤ N → x = 0 ∧ I' = I)) (some (vi 0)) (101, I, J, R0 b) := fun h => RIf.mk ⟨rfl, fun z => (by rw [h] at z; cases z), fun _ => ⟨rfl, rfl⟩⟩
  refine t_X9_jointFromRow s _ I J b ?_
  rw [r2, iZ_64 (n := (sL q : Int)) (by omega) (by omega), show (3 : Int64) = jZ 3 from rfl, jZ_add, jZ_32]
  refine ift hcmp (fun c1 => ?_) (fun c1 => hno ?_)
  · have e1 : iZ (p : Int) + (1 : Int32) = iZ ((p + 1 : Nat) : Int) := iZ_s _
    have e2 : iZ (p : Int) + (2 : Int32) = iZ ((p + 2 : Nat) : Int) := by
      rw [i_2, iZ_add]
      rfl
    rw [e1, e2, iZ_ck (k := p) (by omega), iZ_ck (k := p + 1) (by omega), iZ_ck (k := p + 2) (by omega), r3 p (by omega), r3 (p + 1) (by omega), r3 (p + 2) (by omega)]
    refine ⟨vp_iZ (by omega) (by omega) (by omega), vp_iZ (by omega) (by omega) (by omega), vp_iZ (by omega) (by omega) (by omega), ?_⟩
    refine (p_may0 (D := D) _).mono ?_
    rintro r h ⟨rfl, rfl⟩
    refine RIf.mk ?_
    cases h0 : inB (sC q p).toInt32 1 9
    · refine ifp rfl (hno ?_)
      unfold okJ cN
      rw [h0, Bool.false_and, Bool.and_false]
    refine ifn (by decide) ((p_may1 (D := D) _).mono ?_)
    rintro r h ⟨rfl, rfl⟩
    refine RIf.mk ?_
    cases h1 : inB (sC q (p + 1)).toInt32 0 3
    · refine ifp rfl (hno ?_)
      unfold okJ cN
      rw [h1, Bool.false_and, Bool.and_false, Bool.and_false]
    have h3 : Pu (D + 1) 10 [vr 1 0, vi 0, vi 2, vi (sC q (p + 2)).toInt32] I J b (bI (mayF 2 0 (sC q (p + 2)).toInt32)) := p_mayX (q := 2) (j := 0) (by omega)
    have em : mayF 2 0 (sC q (p + 2)).toInt32 = inB (sC q (p + 2)).toInt32 0 2 := by
      unfold mayF
      rw [if_neg (by omega), Bool.and_true]
      rfl
    rw [em] at h3
    refine ifn (by decide) (h3.mono ?_)
    rintro r h ⟨rfl, rfl⟩
    refine RIf.mk ?_
    cases h4 : inB (sC q (p + 2)).toInt32 0 2
    · refine ifn (fun z => z rfl) (hno ?_)
      unfold okJ cN
      rw [h4, Bool.and_false, Bool.and_false, Bool.and_false]
    have hok : okJ q p = true := by
      unfold okJ cN
      rw [h0, h1, h4, decide_eq_true (by omega)]
      rfl
    obtain ⟨_, _, _, _, a1, a2, a3, b1, b2, b3⟩ := okJ_ex hok
    by_cases hN : N < 7
    case neg =>
      refine ifp (by decide) ((p_addF (D := D) hB n7 hN).mono ?_)
      rintro r h ⟨rfl, rfl⟩
      exact RIf.mk (ifp (by decide) (RIf.mk ⟨rfl, fun _ z => absurd z hN, fun _ => ⟨rfl, rfl⟩⟩))
    refine ifp (by decide) ((e_add (D := D) (a := vN q p) (p := vN q (p + 1)) (h := vN q (p + 2)) hB hO hN b1 b2 b3).mono ?_)
    rintro r h ⟨x, I1, J1, rfl, rfl, rfl, rfl, k1, k2⟩
    exact RIf.mk (ifn (by rw [i_0]; exact nlt (by omega) (by omega) (by omega)) (RIf.mk ⟨rfl, fun _ _ => ⟨rfl, k1, k2⟩, fun z => (z.elim (fun z => by rw [hok] at z; cases z) (fun z => absurd hN (by omega)))⟩))
  · unfold okJ
    rw [decide_eq_false (by omega), Bool.false_and]
theorem w_jtX {s i n : Nat} {q : Sh} {I0 : IM} (hs : s < 6) (hi : i < 2147483648) (hn : n ≤ 7) (h2 : sK q = 2) (hL : sL q ≤ 60) (hq : ShC I0 J s q) : ∀ (m c N : Nat) (V : Nat → Nat → Nat) (I : IM), n < m + c → c ≤ n → BnC I N V → BnOK N V → (∀ s j k, ¬ (s = 1 ∨ s = 20) → I s j k = I0 s j k) → WP (D + 2) 80 56 [vr 9 0, vi (iZ (s : Int)), vi (iZ (i : Int)), vi (iZ (n : Int)), vn, vi (iZ (c : Int))] [] (101, I, J, R0 b) (RIf b fun x I' J' => x = iZ ((jsF q i n m c N V).1 : Int) ∧ J' = J ∧ BnC I' (jsF q i n m c N V).2.1 (jsF q i n m c N V).2.2 ∧ ∀ s j k, ¬ (s = 1 ∨ s = 20) → I' s j k = I0 s j k) := by
  intro m
  induction m with
  | zero =>
    intro c N V I h1 h2
    omega
  | succ m ih =>
    intro c N V I h1 h3 hB hO hf
    have n7 := hO.1
    have hend : (n ≤ c ∨ 7 ≤ N ∨ okJ q (i + 3 * c) = false) → RIf b (fun x I' J' => x = iZ ((jsF q i n (m + 1) c N V).1 : Int) ∧ J' = J ∧ BnC I' (jsF q i n (m + 1) c N V).2.1 (jsF q i n (m + 1) c N V).2.2 ∧ ∀ s j k, ¬ (s = 1 ∨ s = 20) → I' s j k = I0 s j k) (some (vi (iZ (c : Int)))) (101, I, J, R0 b) := fun h => by
      rw [jsF_n h]
      exact RIf.mk ⟨rfl, rfl, hB, hf⟩
    refine t_X9_joints_56 _ _ _ _ I J b ?_
    rw [pl_eq hi (by omega), iZ_ck (by omega), iZ_s]
    refine ifs (fun c1 => hend (Or.inl ?_)) (fun c1 => ⟨vp_iZ (by omega) (by omega) (by omega), ?_⟩)
    · rw [iZ_le (by omega) (by omega) (by omega) (by omega)] at c1
      omega
    · rw [iZ_le (by omega) (by omega) (by omega) (by omega)] at c1
      have hqI : ShC I J s q := hq.eq (fun k => hf _ _ _ (by omega)) (fun _ => rfl)
      refine (e_jfr (D := D) hqI h2 hL hB hO (by omega)).mono ?_
      rintro r h ⟨x, I1, J1, rfl, rfl, rfl, y1, y2⟩
      refine RIf.mk ?_
      by_cases hN : 7 ≤ N
      · obtain ⟨rfl, rfl⟩ := y2 (Or.inr hN)
        exact ifp rfl (hend (Or.inr (Or.inl hN)))
      cases hk : okJ q (i + 3 * c)
      · obtain ⟨rfl, rfl⟩ := y2 (Or.inl hk)
        exact ifp rfl (hend (Or.inr (Or.inr hk)))
      · obtain ⟨rfl, k1, k2⟩ := y1 hk (by omega)
        obtain ⟨_, _, _, _, a1, a2, a3, _⟩ := okJ_ex hk
        rw [jsF_y (by omega) (by omega) hk]
        exact ifn (by decide) (ih (c + 1) (N + 1) _ I1 (by omega) (by omega) k1 (vAdd_ok hO (by omega) a1 a2 a3) (fun s j k z => (k2 s j k z).trans (hf s j k z)))
end JTS
