/-! EVERY STEP OF THE PURE MACHINE IS A STEP OF THE REAL ONE -/
theorem pI_some {st : List AV} {k : Int32 → List AV → Option RS} {z : RS} (h : pI st k = some z) : ∃ x r, st = vi x :: r ∧ k x r = some z := by
  unfold pI at h
  split at h
  · exact ⟨_, _, rfl, h⟩
  · cases h
theorem pJ_some {st : List AV} {k : Int64 → List AV → Option RS} {z : RS} (h : pJ st k = some z) : ∃ x r, st = vl x :: r ∧ k x r = some z := by
  unfold pJ at h
  split at h
  · exact ⟨_, _, rfl, h⟩
  · cases h
theorem pR_some {st : List AV} {k : Nat → Nat → List AV → Option RS} {z : RS} (h : pR st k = some z) : ∃ a b r, st = vr a b :: r ∧ k a b r = some z := by
  unfold pR at h
  split at h
  · exact ⟨_, _, _, rfl, h⟩
  · cases h
theorem gI_some {v : Option AV} {k : Int32 → Option RS} {z : RS} (h : gI v k = some z) : ∃ x, v = some (vi x) ∧ k x = some z := by
  unfold gI at h
  split at h
  · exact ⟨_, rfl, h⟩
  · cases h
theorem gJ_some {v : Option AV} {k : Int64 → Option RS} {z : RS} (h : gJ v k = some z) : ∃ x, v = some (vl x) ∧ k x = some z := by
  unfold gJ at h
  split at h
  · exact ⟨_, rfl, h⟩
  · cases h
theorem gR_some {v : Option AV} {k : Nat → Nat → Option RS} {z : RS} (h : gR v k = some z) : ∃ a b, v = some (vr a b) ∧ k a b = some z := by
  unfold gR at h
  split at h
  · exact ⟨_, _, rfl, h⟩
  · cases h
theorem gd_some {b : Bool} {k : Option RS} {z : RS} (h : gd b k = some z) : b = true ∧ k = some z := by
  cases b with
  | false => cases h
  | true => exact ⟨rfl, h⟩
theorem dec_of {y pc : Nat} {e : AE} (h : okE y pc e = true) (hn : ilen (eI e) ≠ 0) : decode (yCd y) pc = .ok (eI e, ilen (eI e)) := by
  simp only [okE, Bool.and_eq_true] at h
  have h1 := h.1
  unfold decE at h1
  split at h1
  · next i n hd =>
    simp only [Bool.and_eq_true, decide_eq_true_eq, Bool.or_eq_true, nb_iff] at h1
    obtain ⟨rfl, h2⟩ := h1
    rw [hd]
    rcases h2 with z | z
    · exact absurd z hn
    · rw [z]
  · cases h1
theorem dec_sw {y pc : Nat} {e : AE} (h : okE y pc e = true) : ∃ n, decode (yCd y) pc = .ok (eI e, n) := by
  simp only [okE, Bool.and_eq_true] at h
  have h1 := h.1
  unfold decE at h1
  split at h1
  · next i n hd =>
    simp only [Bool.and_eq_true, decide_eq_true_eq] at h1
    exact ⟨n, by rw [hd, h1.1]⟩
  · cases h1
theorem side_of {y pc : Nat} {e : AE} (h : okE y pc e = true) : sideE y pc e = true := by
  simp only [okE, Bool.and_eq_true] at h
  exact h.2
theorem bnot_dec {b : Int32} (h : (!(decide (b = 0))) = true) : ¬ b = 0 := by simpa using h
theorem not_true {b : Bool} (h : (!b) = true) : b = false := by simpa using h
def tyK (ci k : Nat) : Bool := (match tyf ci k with
  | .int => true
  | .boolean => true
  | .object _ => true
  | .array _ => true
  | _ => false)
theorem tyK_ok : (List.range 11).all (fun ci => (List.range (nfl ci)).all (fun k => tyK ci k)) = true := by decide +kernel
theorem tyK_at {ci k : Nat} (hc : ci ≤ 10) (hk : k < nfl ci) : tyK ci k = true := List.all_eq_true.mp (List.all_eq_true.mp tyK_ok ci (List.mem_range.mpr (by omega))) k (List.mem_range.mpr hk)
theorem fit_int {ci k : Nat} {x : Int32} (h : tyf ci k = .int) : narrow (tyf ci k) (.int x) = .int x ∧ fits (tyf ci k) (.int x) = true := by
  rw [h]; exact ⟨rfl, rfl⟩
theorem bool01 {x : Int32} (hx : x &&& 1 = x) : (x == 0 || x == 1) = true := by
  obtain ⟨j, h1, h2⟩ := pk_andE x (m := 1) 1 rfl
  rw [hx] at h2
  have : j = 0 ∨ j = 1 := by omega
  rcases this with rfl | rfl <;> rw [h2] <;> rfl
theorem fit_bool {ci k : Nat} {x : Int32} (hc : ci ≤ 10) (hk : k < nfl ci) (hr : isRefS ci k = false) (hx : x &&& 1 = x) : narrow (tyf ci k) (.int x) = .int x ∧ fits (tyf ci k) (.int x) = true := by
  have h := tyK_at hc hk
  unfold isRefS at hr
  unfold tyK at h
  have ht : tyf ci k = .int ∨ tyf ci k = .boolean := by
    cases ht : tyf ci k <;> rw [ht] at h hr <;> first | exact Or.inl rfl | exact Or.inr rfl | (cases h; done) | (cases hr; done)
  rcases ht with ht | ht <;> rw [ht]
  · exact ⟨rfl, rfl⟩
  · exact ⟨congrArg Value.int hx, bool01 hx⟩
theorem fit_ref {ci k : Nat} (hc : ci ≤ 10) (hk : k < nfl ci) (hr : isRefS ci k = true) : (∀ q, narrow (tyf ci k) (.ref q) = .ref q) ∧ ∀ q, fits (tyf ci k) (.ref q) = true := by
  have h := tyK_at hc hk
  unfold isRefS at hr
  unfold tyK at h
  cases ht : tyf ci k <;> rw [ht] at h hr <;> first | (cases h; done) | (cases hr; done) | exact ⟨fun _ => rfl, fun _ => rfl⟩
section SND
variable {p : Program} {l : Launch} {e : Env} {R : Room} {s : State} {m : MethodId} {args : Array Value} {below : List Frame} {meth : Method} {c : Code} {y D : Nat} {A : Nat → Prop} {Dg : va_G} {cA : Nat → ClassId} {sp : Nat → Nat} {n0 : Nat} {ad0 : Nat → Nat} {Lx : Nat} {xs : Nat → Int32} {Q : State → Prop}
variable {cc ss pc : Nat} {Lo st r : List AV} {h : AH} {ad : Nat → Nat} {H : Heap} {locs : List Loc} {ls : Array Slot}
set_option maxHeartbeats 4000000 in
set_option maxRecDepth 100000 in
theorem step_ok (C : Cx p R s m args meth c y D A Dg cA sp Lx xs) {f : Nat → List AV → AH → Option (Option AV × AH)} (hf : ∀ y' as h rv h', y' ≤ 259 → f y' as h = some (rv, h') → Ctr l D y' as h rv h') (hN : ∀ y' as h v h', f y' as h = some (some v, h') → (∃ x, v = vi x) ∨ ∃ x, v = vl x) (hM : ∀ y', y' ≤ 259 → okM y' = true) {e0 : AE} (hE : okE y pc e0 = true) {q : Nat × Nat × Nat × List AV × List AV × AH} (hs : amI f y e0 cc ss pc Lo st h = some (.inr q)) (K : Wq p l e R s m args below meth c y A Dg cA sp n0 ad0 Lx xs Q q.1 q.2.1 q.2.2.1 q.2.2.2.1 q.2.2.2.2.1 q.2.2.2.2.2) : Wq p l e R s m args below meth c y A Dg cA sp n0 ad0 Lx xs Q cc ss pc Lo st h := by
  have hd := dec_of hE
  have hsd := side_of hE
  unfold amI at hs
  unfold sideE at hsd
  cases hi : eI e0 <;> rw [hi] at hs hsd <;> dsimp only at hs hsd <;> (try (cases hs; done)) <;> rw [hi] at hd <;> (try unfold nx at hs)
  case iadd =>
    obtain ⟨b, r, rfl, hs1⟩ := pI_some hs; replace hs := hs1; clear hs1
    obtain ⟨a, r, rfl, hs1⟩ := pI_some hs; replace hs := hs1; clear hs1
    cases hs
    exact s_iadd C (hd (Nat.succ_ne_zero _)) K
  case isub =>
    obtain ⟨b, r, rfl, hs1⟩ := pI_some hs; replace hs := hs1; clear hs1
    obtain ⟨a, r, rfl, hs1⟩ := pI_some hs; replace hs := hs1; clear hs1
    cases hs
    exact s_isub C (hd (Nat.succ_ne_zero _)) K
  case imul =>
    obtain ⟨b, r, rfl, hs1⟩ := pI_some hs; replace hs := hs1; clear hs1
    obtain ⟨a, r, rfl, hs1⟩ := pI_some hs; replace hs := hs1; clear hs1
    cases hs
    exact s_imul C (hd (Nat.succ_ne_zero _)) K
  case iand =>
    obtain ⟨b, r, rfl, hs1⟩ := pI_some hs; replace hs := hs1; clear hs1
    obtain ⟨a, r, rfl, hs1⟩ := pI_some hs; replace hs := hs1; clear hs1
    cases hs
    exact s_iand C (hd (Nat.succ_ne_zero _)) K
  case ior =>
    obtain ⟨b, r, rfl, hs1⟩ := pI_some hs; replace hs := hs1; clear hs1
    obtain ⟨a, r, rfl, hs1⟩ := pI_some hs; replace hs := hs1; clear hs1
    cases hs
    exact s_ior C (hd (Nat.succ_ne_zero _)) K
  case ixor =>
    obtain ⟨b, r, rfl, hs1⟩ := pI_some hs; replace hs := hs1; clear hs1
    obtain ⟨a, r, rfl, hs1⟩ := pI_some hs; replace hs := hs1; clear hs1
    cases hs
    exact s_ixor C (hd (Nat.succ_ne_zero _)) K
  case ishl =>
    obtain ⟨b, r, rfl, hs1⟩ := pI_some hs; replace hs := hs1; clear hs1
    obtain ⟨a, r, rfl, hs1⟩ := pI_some hs; replace hs := hs1; clear hs1
    cases hs
    exact s_ishl C (hd (Nat.succ_ne_zero _)) K
  case ishr =>
    obtain ⟨b, r, rfl, hs1⟩ := pI_some hs; replace hs := hs1; clear hs1
    obtain ⟨a, r, rfl, hs1⟩ := pI_some hs; replace hs := hs1; clear hs1
    cases hs
    exact s_ishr C (hd (Nat.succ_ne_zero _)) K
  case iushr =>
    obtain ⟨b, r, rfl, hs1⟩ := pI_some hs; replace hs := hs1; clear hs1
    obtain ⟨a, r, rfl, hs1⟩ := pI_some hs; replace hs := hs1; clear hs1
    cases hs
    exact s_iushr C (hd (Nat.succ_ne_zero _)) K
  case ladd =>
    obtain ⟨b, r, rfl, hs1⟩ := pJ_some hs; replace hs := hs1; clear hs1
    obtain ⟨a, r, rfl, hs1⟩ := pJ_some hs; replace hs := hs1; clear hs1
    cases hs
    exact s_ladd C (hd (Nat.succ_ne_zero _)) K
  case land =>
    obtain ⟨b, r, rfl, hs1⟩ := pJ_some hs; replace hs := hs1; clear hs1
    obtain ⟨a, r, rfl, hs1⟩ := pJ_some hs; replace hs := hs1; clear hs1
    cases hs
    exact s_land C (hd (Nat.succ_ne_zero _)) K
  case lor =>
    obtain ⟨b, r, rfl, hs1⟩ := pJ_some hs; replace hs := hs1; clear hs1
    obtain ⟨a, r, rfl, hs1⟩ := pJ_some hs; replace hs := hs1; clear hs1
    cases hs
    exact s_lor C (hd (Nat.succ_ne_zero _)) K
  case lshl =>
    obtain ⟨b, r, rfl, hs1⟩ := pI_some hs; replace hs := hs1; clear hs1
    obtain ⟨a, r, rfl, hs1⟩ := pJ_some hs; replace hs := hs1; clear hs1
    cases hs
    exact s_lshl C (hd (Nat.succ_ne_zero _)) K
  case lcmp =>
    obtain ⟨b, r, rfl, hs1⟩ := pJ_some hs; replace hs := hs1; clear hs1
    obtain ⟨a, r, rfl, hs1⟩ := pJ_some hs; replace hs := hs1; clear hs1
    cases hs
    exact s_lcmp C (hd (Nat.succ_ne_zero _)) K
  case idiv =>
    obtain ⟨b, r, rfl, hs1⟩ := pI_some hs; replace hs := hs1; clear hs1
    obtain ⟨a, r, rfl, hs1⟩ := pI_some hs; replace hs := hs1; clear hs1
    obtain ⟨hb, hs1⟩ := gd_some hs; replace hs := hs1; clear hs1
    cases hs
    exact s_idiv C (bnot_dec hb) (hd (Nat.succ_ne_zero _)) K
  case irem =>
    obtain ⟨b, r, rfl, hs1⟩ := pI_some hs; replace hs := hs1; clear hs1
    obtain ⟨a, r, rfl, hs1⟩ := pI_some hs; replace hs := hs1; clear hs1
    obtain ⟨hb, hs1⟩ := gd_some hs; replace hs := hs1; clear hs1
    cases hs
    exact s_irem C (bnot_dec hb) (hd (Nat.succ_ne_zero _)) K
  case ineg =>
    obtain ⟨a, r, rfl, hs1⟩ := pI_some hs; replace hs := hs1; clear hs1
    cases hs
    exact s_ineg C (hd (Nat.succ_ne_zero _)) K
  case i2l =>
    obtain ⟨a, r, rfl, hs1⟩ := pI_some hs; replace hs := hs1; clear hs1
    cases hs
    exact s_i2l C (hd (Nat.succ_ne_zero _)) K
  case l2i =>
    obtain ⟨a, r, rfl, hs1⟩ := pJ_some hs; replace hs := hs1; clear hs1
    cases hs
    exact s_l2i C (hd (Nat.succ_ne_zero _)) K
  case i2b =>
    obtain ⟨a, r, rfl, hs1⟩ := pI_some hs; replace hs := hs1; clear hs1
    cases hs
    exact s_i2b C (hd (Nat.succ_ne_zero _)) K
  case i2s =>
    obtain ⟨a, r, rfl, hs1⟩ := pI_some hs; replace hs := hs1; clear hs1
    cases hs
    exact s_i2s C (hd (Nat.succ_ne_zero _)) K
  case i2c =>
    obtain ⟨a, r, rfl, hs1⟩ := pI_some hs; replace hs := hs1; clear hs1
    cases hs
    exact s_i2c C (hd (Nat.succ_ne_zero _)) K
  case iconst n =>
    cases hs
    exact s_iconst C (of_decide_eq_true hsd) (hd (Nat.succ_ne_zero _)) K
  case bipush n =>
    cases hs
    exact s_bipush C (of_decide_eq_true hsd) (hd (Nat.succ_ne_zero _)) K
  case sipush n =>
    cases hs
    exact s_sipush C (of_decide_eq_true hsd) (hd (Nat.succ_ne_zero _)) K
  case lconst n =>
    cases hs
    exact s_lconst C (of_decide_eq_true hsd) (hd (Nat.succ_ne_zero _)) K
  case ldc i =>
    cases hc : Nat.beq (eC e0) 1 <;> rw [hc] at hs hsd
    · cases hs
      exact s_ldc C (wOK_in hsd) (hd (Nat.succ_ne_zero _)) K
    · cases hs
      obtain ⟨h1, h2, h3⟩ := of_decide_eq_true hsd
      subst h2
      have K := K
      rw [h3] at K
      exact s_ldcS C h1 (hd (Nat.succ_ne_zero _)) K
  case ldc_w i =>
    cases hs
    exact s_ldc_w C (wOK_in hsd) (hd (Nat.succ_ne_zero _)) K
  case ldc2_w i =>
    cases hs
    exact s_ldc2_w C (wOK_in hsd) (hd (Nat.succ_ne_zero _)) K
  case iload_n k =>
    obtain ⟨x, hl, hs⟩ := gI_some hs
    cases hs
    exact s_iload_n C (of_decide_eq_true hsd) hl (hd (Nat.succ_ne_zero _)) K
  case iload k =>
    obtain ⟨x, hl, hs⟩ := gI_some hs
    cases hs
    exact s_iload C (of_decide_eq_true hsd) hl (hd (Nat.succ_ne_zero _)) K
  case lload_n k =>
    obtain ⟨x, hl, hs⟩ := gJ_some hs
    cases hs
    exact s_lload_n C (of_decide_eq_true hsd) hl (hd (Nat.succ_ne_zero _)) K
  case lload k =>
    obtain ⟨x, hl, hs⟩ := gJ_some hs
    cases hs
    exact s_lload C (of_decide_eq_true hsd) hl (hd (Nat.succ_ne_zero _)) K
  case aload_n k =>
    obtain ⟨a, b, hl, hs1⟩ := gR_some hs; replace hs := hs1; clear hs1
    cases hs
    exact s_aload_n C (of_decide_eq_true hsd) hl (hd (Nat.succ_ne_zero _)) K
  case aload k =>
    obtain ⟨a, b, hl, hs1⟩ := gR_some hs; replace hs := hs1; clear hs1
    cases hs
    exact s_aload C (of_decide_eq_true hsd) hl (hd (Nat.succ_ne_zero _)) K
  case istore_n k =>
    simp only [Bool.and_eq_true, decide_eq_true_eq] at hsd
    obtain ⟨a, r, rfl, hs1⟩ := pI_some hs; replace hs := hs1; clear hs1
    obtain ⟨hb, hs1⟩ := gd_some hs; replace hs := hs1; clear hs1
    cases hs
    exact s_istore_n C hsd.1 (Nat.le_of_ble_eq_true hsd.2) (not_true hb) (hd (Nat.succ_ne_zero _)) K
  case istore k =>
    simp only [Bool.and_eq_true, decide_eq_true_eq] at hsd
    obtain ⟨a, r, rfl, hs1⟩ := pI_some hs; replace hs := hs1; clear hs1
    obtain ⟨hb, hs1⟩ := gd_some hs; replace hs := hs1; clear hs1
    cases hs
    exact s_istore C hsd.1 (Nat.le_of_ble_eq_true hsd.2) (not_true hb) (hd (Nat.succ_ne_zero _)) K
  case astore_n k =>
    simp only [Bool.and_eq_true, decide_eq_true_eq] at hsd
    obtain ⟨a, a2, r, rfl, hs1⟩ := pR_some hs; replace hs := hs1; clear hs1
    obtain ⟨hb, hs1⟩ := gd_some hs; replace hs := hs1; clear hs1
    cases hs
    exact s_astore_n C hsd.1 (Nat.le_of_ble_eq_true hsd.2) (not_true hb) (hd (Nat.succ_ne_zero _)) K
  case astore k =>
    simp only [Bool.and_eq_true, decide_eq_true_eq] at hsd
    obtain ⟨a, a2, r, rfl, hs1⟩ := pR_some hs; replace hs := hs1; clear hs1
    obtain ⟨hb, hs1⟩ := gd_some hs; replace hs := hs1; clear hs1
    cases hs
    exact s_astore C hsd.1 (Nat.le_of_ble_eq_true hsd.2) (not_true hb) (hd (Nat.succ_ne_zero _)) K
  case lstore_n k =>
    simp only [Bool.and_eq_true, decide_eq_true_eq] at hsd
    obtain ⟨a, r, rfl, hs1⟩ := pJ_some hs; replace hs := hs1; clear hs1
    obtain ⟨hb, hs1⟩ := gd_some hs; replace hs := hs1; clear hs1
    cases hs
    exact s_lstore_n C hsd.1 (Nat.le_of_ble_eq_true hsd.2) (not_true hb) (hd (Nat.succ_ne_zero _)) K
  case lstore k =>
    simp only [Bool.and_eq_true, decide_eq_true_eq] at hsd
    obtain ⟨a, r, rfl, hs1⟩ := pJ_some hs; replace hs := hs1; clear hs1
    obtain ⟨hb, hs1⟩ := gd_some hs; replace hs := hs1; clear hs1
    cases hs
    exact s_lstore C hsd.1 (Nat.le_of_ble_eq_true hsd.2) (not_true hb) (hd (Nat.succ_ne_zero _)) K
  case iinc k n =>
    simp only [Bool.and_eq_true, decide_eq_true_eq] at hsd
    obtain ⟨x, hl, hs1⟩ := gI_some hs; replace hs := hs1; clear hs1
    obtain ⟨hb, hs1⟩ := gd_some hs; replace hs := hs1; clear hs1
    cases hs
    exact s_iinc C hsd.1.1 hsd.1.2 hl (Nat.le_of_ble_eq_true hsd.2) (not_true hb) (hd (Nat.succ_ne_zero _)) K
  case dup =>
    split at hs
    · obtain ⟨hb, hs1⟩ := gd_some hs; replace hs := hs1; clear hs1
      cases hs
      exact s_dup C (nb_iff.mp hb) (hd (Nat.succ_ne_zero _)) K
    · cases hs
  case pop =>
    split at hs
    · obtain ⟨hb, hs1⟩ := gd_some hs; replace hs := hs1; clear hs1
      cases hs
      exact s_pop C (nb_iff.mp hb) (hd (Nat.succ_ne_zero _)) K
    · cases hs
  case dup2 =>
    split at hs
    · obtain ⟨hb, hs1⟩ := gd_some hs; replace hs := hs1; clear hs1
      cases hs
      simp only [Bool.and_eq_true, nb_iff] at hb
      exact s_dup2 C hb.1 hb.2 (hd (Nat.succ_ne_zero _)) K
    · cases hs
  case ifCond op o =>
    obtain ⟨a, r, rfl, hs1⟩ := pI_some hs; replace hs := hs1; clear hs1
    cases hs
    exact s_ifCond C (of_decide_eq_true hsd) (hd (Nat.succ_ne_zero _)) K
  case if_icmp op o =>
    obtain ⟨b, r, rfl, hs1⟩ := pI_some hs; replace hs := hs1; clear hs1
    obtain ⟨a, r, rfl, hs1⟩ := pI_some hs; replace hs := hs1; clear hs1
    cases hs
    exact s_icmp C (of_decide_eq_true hsd) (hd (Nat.succ_ne_zero _)) K
  case goto o =>
    cases hs
    exact s_goto C (of_decide_eq_true hsd) (hd (Nat.succ_ne_zero _)) K
  case tableswitch d lo hi2 offs =>
    simp only [Bool.and_eq_true, decide_eq_true_eq] at hsd
    obtain ⟨a, r, rfl, hs1⟩ := pI_some hs; replace hs := hs1; clear hs1
    cases hs
    obtain ⟨n, hdn⟩ := dec_sw hE
    rw [hi] at hdn
    exact s_table C hsd.1 hsd.2.1 hsd.2.2 hdn K
  case lookupswitch d ps =>
    simp only [Bool.and_eq_true, decide_eq_true_eq] at hsd
    obtain ⟨a, r, rfl, hs1⟩ := pI_some hs; replace hs := hs1; clear hs1
    cases hs
    obtain ⟨n, hdn⟩ := dec_sw hE
    rw [hi] at hdn
    exact s_lookup C hsd.1 hsd.2.1 hsd.2.2 hdn K
  case getfield i =>
    unfold amGetF at hs
    obtain ⟨a, a2, r, rfl, hs1⟩ := pR_some hs; replace hs := hs1; clear hs1
    cases h90 : Nat.beq (eA e0) 90 <;> rw [h90] at hs hsd
    · obtain ⟨ha, hs1⟩ := gd_some hs; replace hs := hs1; clear hs1
      have ha := nb_iff.mp ha
      subst ha
      simp only [cond_false, Bool.and_eq_true] at hsd
      obtain ⟨q1, q2, q3, q4⟩ := hsd
      have q1 := Nat.le_of_ble_eq_true q1
      have q2 := Nat.le_of_ble_eq_true q2
      cases h0 : Nat.beq (eC e0) 0 <;> rw [h0] at hs q3
      · simp only [Bool.not_false, beq_iff_eq] at q3
        simp only [cond_false] at hs
        split at hs
        · next a b hr =>
          cases hs
          cases h2 : Nat.beq (eC e0) 2 <;> rw [h2] at q4
          · exact s_getR C q1 q2 q3 hr (wOK_in q4) (hd (Nat.succ_ne_zero _)) K
          · obtain ⟨w1, w2⟩ := of_decide_eq_true q4
            obtain ⟨-, -, -, -, -, -, -, -, -, -, -, -, -, -, -, n1, n2, -⟩ := C.hS
            rcases w2 with ⟨rfl, w2⟩ | ⟨rfl, w2⟩
            · exact s_getN C q1 q2 q3 hr w2 (by rw [w1]; exact n1) (hd (Nat.succ_ne_zero _)) K
            · exact s_getN C q1 q2 q3 hr w2 (by rw [w1]; exact n2) (hd (Nat.succ_ne_zero _)) K
        · cases hs
      · simp only [Bool.not_true, beq_iff_eq] at q3
        cases hs
        have h2 : Nat.beq (eC e0) 2 = false := by
          have := nb_iff.mp h0
          rw [this]; rfl
        rw [h2] at q4
        exact s_getI C q1 q2 q3 (wOK_in q4) (hd (Nat.succ_ne_zero _)) K
    · obtain ⟨ha, hs1⟩ := gd_some hs; replace hs := hs1; clear hs1
      have ha := nb_iff.mp ha
      subst ha
      cases hb : Nat.beq (eB e0) 0 <;> rw [hb] at hs hsd
      · cases hs
        exact s_strC C (wOK_in hsd) (hd (Nat.succ_ne_zero _)) K
      · cases hs
        exact s_strV C (wOK_in hsd) (hd (Nat.succ_ne_zero _)) K
  case putfield i =>
    unfold amPutF at hs
    simp only [Bool.and_eq_true] at hsd
    obtain ⟨q1, q2, q3, q5, q4, q6⟩ := hsd
    have q1 := Nat.le_of_ble_eq_true q1
    have q2 := Nat.le_of_ble_eq_true q2
    have q5 := of_decide_eq_true q5
    cases h1 : Nat.beq (eC e0) 1 <;> rw [h1] at hs q3
    · simp only [beq_iff_eq] at q3
      obtain ⟨x, r, rfl, hs1⟩ := pI_some hs; replace hs := hs1; clear hs1
      obtain ⟨s1, j1, r, rfl, hs1⟩ := pR_some hs; replace hs := hs1; clear hs1
      obtain ⟨ha, hs1⟩ := gd_some hs; replace hs := hs1; clear hs1
      obtain ⟨hx, hs1⟩ := gd_some hs; replace hs := hs1; clear hs1
      have ha := nb_iff.mp ha
      subst ha
      cases hs
      have hnf : narrow (tyf (eA e0) (eB e0)) (.int x) = .int x ∧ fits (tyf (eA e0) (eB e0)) (.int x) = true := by
        simp only [Bool.or_eq_true, nb_iff, decide_eq_true_eq] at hx
        rcases hx with hx | hx
        · exact fit_int (q5.mpr hx)
        · exact fit_bool q1 q2 q3 hx
      cases hf : (TXf (eA e0) (eB e0)).2.2.2
      · exact s_putI C q1 q2 q3 (wOK_in q4) hf hnf.1 hnf.2 (hd (Nat.succ_ne_zero _)) K
      · rw [hf] at q6
        obtain ⟨w1, w2⟩ := of_decide_eq_true (show decide ((yNm y).name = "<init>" ∧ (TXf (eA e0) (eB e0)).1 = own y) = true by simpa using q6)
        exact s_putIF C q1 q2 q3 (wOK_in q4) hf w1 w2 hnf.1 hnf.2 (hd (Nat.succ_ne_zero _)) K
    · simp only [beq_iff_eq] at q3
      obtain ⟨a, b, r, rfl, hs1⟩ := pR_some hs; replace hs := hs1; clear hs1
      obtain ⟨s1, j1, r, rfl, hs1⟩ := pR_some hs; replace hs := hs1; clear hs1
      obtain ⟨ha, hs1⟩ := gd_some hs; replace hs := hs1; clear hs1
      obtain ⟨hab, hs1⟩ := gd_some hs; replace hs := hs1; clear hs1
      have hab : a < 900 := Nat.le_of_ble_eq_true hab
      have ha := nb_iff.mp ha
      subst ha
      cases hs
      have hnf := fit_ref q1 q2 q3
      cases hf : (TXf (eA e0) (eB e0)).2.2.2
      · exact s_putR C hab q1 q2 q3 (wOK_in q4) hf hnf.1 hnf.2 (hd (Nat.succ_ne_zero _)) K
      · rw [hf] at q6
        obtain ⟨w1, w2⟩ := of_decide_eq_true (show decide ((yNm y).name = "<init>" ∧ (TXf (eA e0) (eB e0)).1 = own y) = true by simpa using q6)
        exact s_putRF C hab q1 q2 q3 (wOK_in q4) hf w1 w2 hnf.1 hnf.2 (hd (Nat.succ_ne_zero _)) K
  case getstatic i =>
    simp only [Bool.and_eq_true, Bool.or_eq_true] at hsd
    obtain ⟨q1, q2⟩ := hsd
    cases h98 : Nat.beq (eA e0) 980 <;> rw [h98] at hs
    · cases hs
      have ha : eA e0 = 900 ∨ eA e0 = 901 ∨ eA e0 = 902 ∨ eA e0 = 903 := by
        rcases q1 with q1 | q1
        · have w1 := Nat.le_of_ble_eq_true q1.1
          have w2 := Nat.le_of_ble_eq_true q1.2
          omega
        · rw [q1] at h98; cases h98
      exact s_gets C ha (wOK_in q2) (hd (Nat.succ_ne_zero _)) K
    · cases hs
      have ha := nb_iff.mp h98
      rw [ha] at q2
      exact s_getc C (wOK_in q2) (hd (Nat.succ_ne_zero _)) K
  case iaload =>
    obtain ⟨a, r, rfl, hs1⟩ := pI_some hs; replace hs := hs1; clear hs1
    obtain ⟨b, b2, r, rfl, hs1⟩ := pR_some hs; replace hs := hs1; clear hs1
    obtain ⟨hk, hs1⟩ := gd_some hs; replace hs := hs1; clear hs1
    obtain ⟨hin, hs1⟩ := gd_some hs; replace hs := hs1; clear hs1
    cases hs
    exact s_iaload C (nb_iff.mp hk) hin (hd (Nat.succ_ne_zero _)) K
  case baload =>
    obtain ⟨a, r, rfl, hs1⟩ := pI_some hs; replace hs := hs1; clear hs1
    obtain ⟨b, b2, r, rfl, hs1⟩ := pR_some hs; replace hs := hs1; clear hs1
    obtain ⟨hk, hs1⟩ := gd_some hs; replace hs := hs1; clear hs1
    obtain ⟨hin, hs1⟩ := gd_some hs; replace hs := hs1; clear hs1
    cases hs
    exact s_baload C (nb_iff.mp hk) hin (hd (Nat.succ_ne_zero _)) K
  case saload =>
    obtain ⟨a, r, rfl, hs1⟩ := pI_some hs; replace hs := hs1; clear hs1
    obtain ⟨b, b2, r, rfl, hs1⟩ := pR_some hs; replace hs := hs1; clear hs1
    obtain ⟨hk, hs1⟩ := gd_some hs; replace hs := hs1; clear hs1
    obtain ⟨hin, hs1⟩ := gd_some hs; replace hs := hs1; clear hs1
    cases hs
    exact s_saload C (nb_iff.mp hk) hin (hd (Nat.succ_ne_zero _)) K
  case laload =>
    obtain ⟨a, r, rfl, hs1⟩ := pI_some hs; replace hs := hs1; clear hs1
    obtain ⟨b, b2, r, rfl, hs1⟩ := pR_some hs; replace hs := hs1; clear hs1
    obtain ⟨hk, hs1⟩ := gd_some hs; replace hs := hs1; clear hs1
    obtain ⟨hin, hs1⟩ := gd_some hs; replace hs := hs1; clear hs1
    cases hs
    exact s_laload C (nb_iff.mp hk) hin (hd (Nat.succ_ne_zero _)) K
  case aaload =>
    obtain ⟨a, r, rfl, hs1⟩ := pI_some hs; replace hs := hs1; clear hs1
    obtain ⟨b, b2, r, rfl, hs1⟩ := pR_some hs; replace hs := hs1; clear hs1
    obtain ⟨hk, hs1⟩ := gd_some hs; replace hs := hs1; clear hs1
    obtain ⟨hin, hs1⟩ := gd_some hs; replace hs := hs1; clear hs1
    split at hs
    · next a1 b1 hr =>
      cases hs
      exact s_aaload C (nb_iff.mp hk) hin hr (hd (Nat.succ_ne_zero _)) K
    · cases hs
  case iastore =>
    obtain ⟨v, r, rfl, hs1⟩ := pI_some hs; replace hs := hs1; clear hs1
    obtain ⟨a, r, rfl, hs1⟩ := pI_some hs; replace hs := hs1; clear hs1
    obtain ⟨b, b2, r, rfl, hs1⟩ := pR_some hs; replace hs := hs1; clear hs1
    obtain ⟨hk, hs1⟩ := gd_some hs; replace hs := hs1; clear hs1
    obtain ⟨hin, hs1⟩ := gd_some hs; replace hs := hs1; clear hs1
    simp only [Bool.and_eq_true, nb_iff] at hk
    cases hs
    exact s_iastore C (Nat.le_of_ble_eq_true hk.1) hk.2 hin (hd (Nat.succ_ne_zero _)) K
  case bastore =>
    obtain ⟨v, r, rfl, hs1⟩ := pI_some hs; replace hs := hs1; clear hs1
    obtain ⟨a, r, rfl, hs1⟩ := pI_some hs; replace hs := hs1; clear hs1
    obtain ⟨b, b2, r, rfl, hs1⟩ := pR_some hs; replace hs := hs1; clear hs1
    obtain ⟨hk, hs1⟩ := gd_some hs; replace hs := hs1; clear hs1
    obtain ⟨hin, hs1⟩ := gd_some hs; replace hs := hs1; clear hs1
    simp only [Bool.and_eq_true, nb_iff] at hk
    cases hs
    exact s_bastore C (Nat.le_of_ble_eq_true hk.1) hk.2 hin (hd (Nat.succ_ne_zero _)) K
  case sastore =>
    obtain ⟨v, r, rfl, hs1⟩ := pI_some hs; replace hs := hs1; clear hs1
    obtain ⟨a, r, rfl, hs1⟩ := pI_some hs; replace hs := hs1; clear hs1
    obtain ⟨b, b2, r, rfl, hs1⟩ := pR_some hs; replace hs := hs1; clear hs1
    obtain ⟨hk, hs1⟩ := gd_some hs; replace hs := hs1; clear hs1
    obtain ⟨hin, hs1⟩ := gd_some hs; replace hs := hs1; clear hs1
    simp only [Bool.and_eq_true, nb_iff] at hk
    cases hs
    exact s_sastore C (Nat.le_of_ble_eq_true hk.1) hk.2 hin (hd (Nat.succ_ne_zero _)) K
  case lastore =>
    obtain ⟨v, r, rfl, hs1⟩ := pJ_some hs; replace hs := hs1; clear hs1
    obtain ⟨a, r, rfl, hs1⟩ := pI_some hs; replace hs := hs1; clear hs1
    obtain ⟨b, b2, r, rfl, hs1⟩ := pR_some hs; replace hs := hs1; clear hs1
    obtain ⟨hk, hs1⟩ := gd_some hs; replace hs := hs1; clear hs1
    obtain ⟨hin, hs1⟩ := gd_some hs; replace hs := hs1; clear hs1
    simp only [Bool.and_eq_true, nb_iff] at hk
    cases hs
    exact s_lastore C (Nat.le_of_ble_eq_true hk.1) hk.2 hin (hd (Nat.succ_ne_zero _)) K
  case aastore =>
    obtain ⟨v, v2, r, rfl, hs1⟩ := pR_some hs; replace hs := hs1; clear hs1
    obtain ⟨a, r, rfl, hs1⟩ := pI_some hs; replace hs := hs1; clear hs1
    obtain ⟨b, b2, r, rfl, hs1⟩ := pR_some hs; replace hs := hs1; clear hs1
    obtain ⟨hk, hs1⟩ := gd_some hs; replace hs := hs1; clear hs1
    obtain ⟨hin, hs1⟩ := gd_some hs; replace hs := hs1; clear hs1
    simp only [Bool.and_eq_true, nb_iff] at hk
    obtain ⟨k1, k2, k3⟩ := hk
    subst k3
    cases hs
    exact s_aastore C (Nat.le_of_ble_eq_true k1) k2 hin (hd (Nat.succ_ne_zero _)) K
  case arraylength =>
    obtain ⟨b, b2, r, rfl, hs1⟩ := pR_some hs; replace hs := hs1; clear hs1
    obtain ⟨hk, hs1⟩ := gd_some hs; replace hs := hs1; clear hs1
    simp only [Bool.and_eq_true] at hk
    cases hs
    exact s_alen C (Nat.le_of_ble_eq_true hk.1) (Nat.le_of_ble_eq_true hk.2) (hd (Nat.succ_ne_zero _)) K
  case new i =>
    obtain ⟨-, hs1⟩ := gd_some hs; replace hs := hs1; clear hs1
    unfold amNew at hs
    simp only [Bool.and_eq_true, decide_eq_true_eq] at hsd
    obtain ⟨q1, q2, q3⟩ := hsd
    have q1 := Nat.le_of_ble_eq_true q1
    split at hs
    · next s1 j1 ht =>
      obtain ⟨hb, hs1⟩ := gd_some hs; replace hs := hs1; clear hs1
      simp only [Bool.and_eq_true, nb_iff] at hb
      obtain ⟨b1, b2, b3⟩ := hb
      have b2 := Nat.le_of_ble_eq_true b2
      have b3 := Nat.le_of_ble_eq_true b3
      subst b1
      cases hs
      rw [q2] at b3 K
      exact s_new C ht q1 (Nat.le_trans b2 C.2.2.2.2.2.2.2.2.2.2.1) (Nat.le_trans b3 C.2.2.2.2.2.2.2.2.2.2.2.1) (wOK_in q3) (hd (Nat.succ_ne_zero _)) K
    · cases hs
  case newarray t =>
    obtain ⟨n, r, rfl, hs1⟩ := pI_some hs; replace hs := hs1; clear hs1
    unfold amNewA at hs
    simp only [Bool.and_eq_true, decide_eq_true_eq, nb_iff] at hsd
    obtain ⟨q1, q2, q3, q4, q5, q6⟩ := hsd
    have q1 := Nat.le_of_ble_eq_true q1
    split at hs
    · next s1 j1 ht =>
      obtain ⟨hn, hs1⟩ := gd_some hs; replace hs := hs1; clear hs1
      simp only [Bool.and_eq_true, nb_iff] at hn
      unfold amNew at hs
      rw [ht] at hs
      obtain ⟨hb, hs1⟩ := gd_some hs; replace hs := hs1; clear hs1
      simp only [Bool.and_eq_true, nb_iff] at hb
      obtain ⟨b1, b2, b3⟩ := hb
      have b2 := Nat.le_of_ble_eq_true b2
      have b3 := Nat.le_of_ble_eq_true b3
      subst b1
      cases hs
      have hkd : 10 < eA e0 := by omega
      have hk := TAB_kd (eA e0, j1) (List.mem_of_getElem? ht) hkd
      have q5 : ¬ kd (eA e0) = 24 := by
        rw [q3]
        intro z
        rw [z] at q5
        cases q5
      dsimp only at hk
      exact s_newa C ht (by omega) (by omega) (by rw [q3]; exact q4) (by simpa using hn.1) hn.2 (Nat.le_trans b2 C.2.2.2.2.2.2.2.2.2.2.1) (Nat.le_trans b3 C.2.2.2.2.2.2.2.2.2.2.2.1) (by rw [q3]; exact wOK_in q6) (hd (Nat.succ_ne_zero _)) K
    · cases hs
  case anewarray i =>
    obtain ⟨n, r, rfl, hs1⟩ := pI_some hs; replace hs := hs1; clear hs1
    unfold amNewA at hs
    simp only [Bool.and_eq_true, nb_iff] at hsd
    obtain ⟨q1, q2⟩ := hsd
    rw [q1] at hs
    split at hs
    · next s1 j1 ht =>
      obtain ⟨hn, hs1⟩ := gd_some hs; replace hs := hs1; clear hs1
      simp only [Bool.and_eq_true, nb_iff] at hn
      unfold amNew at hs
      rw [ht] at hs
      obtain ⟨hb, hs1⟩ := gd_some hs; replace hs := hs1; clear hs1
      simp only [Bool.and_eq_true, nb_iff] at hb
      obtain ⟨b1, b2, b3⟩ := hb
      have b2 := Nat.le_of_ble_eq_true b2
      have b3 := Nat.le_of_ble_eq_true b3
      subst b1
      cases hs
      exact s_newq C ht (by simpa using hn.1) hn.2 (Nat.le_trans b2 C.2.2.2.2.2.2.2.2.2.2.1) (Nat.le_trans b3 C.2.2.2.2.2.2.2.2.2.2.2.1) (wOK_in q2) (hd (Nat.succ_ne_zero _)) K
    · cases hs
  case invokevirtual i =>
    obtain ⟨-, hs1⟩ := gd_some hs; replace hs := hs1; clear hs1
    simp only [Bool.and_eq_true, decide_eq_true_eq] at hsd
    obtain ⟨q1, ⟨q2, q3⟩, q4⟩ := hsd
    have q2 := not_true q2
    unfold amCallV at hs
    split at hs
    · next as s1 j1 rest hp =>
      obtain ⟨hk, hs1⟩ := gd_some hs; replace hs := hs1; clear hs1
      obtain ⟨ys, rfl, has, hlen⟩ := popN_spec _ _ _ _ _ hp
      rw [List.append_nil] at has
      have hys : ys = as.reverse := by rw [has, List.reverse_reverse]
      have hal : as.length = eB e0 := by rw [has, List.length_reverse, hlen]
      subst hys
      unfold amCallI at hs
      obtain ⟨hb, hs1⟩ := gd_some hs; replace hs := hs1; clear hs1
      simp only [Bool.and_eq_true] at hb
      obtain ⟨b0, b1, b2, b3⟩ := hb
      have b0 := Nat.le_of_ble_eq_true b0
      have b1 := Nat.le_of_ble_eq_true b1
      have b2 := Nat.le_of_ble_eq_true b2
      have b3 := Nat.le_of_ble_eq_true b3
      split at hs
      · next v h' hf1 =>
        cases hs
        exact s_callV C (hM _ b0) q2 q4 (nb_iff.mp hk) (hf _ _ _ _ _ b0 hf1) (fun v' z => by cases z; exact hN _ _ _ _ _ hf1) b1 (Nat.le_trans b2 C.2.2.2.2.2.2.2.2.2.2.1) (Nat.le_trans b3 C.2.2.2.2.2.2.2.2.2.2.2.1) (by rw [hal]; exact q3) (wOK_in q1) (hd (Nat.succ_ne_zero _)) K
      · next h' hf1 =>
        cases hs
        exact s_callV C (hM _ b0) q2 q4 (nb_iff.mp hk) (hf _ _ _ _ _ b0 hf1) (fun v' z => by cases z) b1 (Nat.le_trans b2 C.2.2.2.2.2.2.2.2.2.2.1) (Nat.le_trans b3 C.2.2.2.2.2.2.2.2.2.2.2.1) (by rw [hal]; exact q3) (wOK_in q1) (hd (Nat.succ_ne_zero _)) K
      · cases hs
    · cases hs
  case invokespecial i =>
    cases h3 : Nat.beq (eC e0) 3 <;> rw [h3] at hs hsd
    · obtain ⟨-, hs1⟩ := gd_some hs; replace hs := hs1; clear hs1
      simp only [cond_false, Bool.and_eq_true, decide_eq_true_eq] at hsd
      obtain ⟨q1, q2, q3, q4⟩ := hsd
      have q2 := not_true q2
      unfold amCallV at hs
      split at hs
      · next as s1 j1 rest hp =>
        obtain ⟨hk, hs1⟩ := gd_some hs; replace hs := hs1; clear hs1
        obtain ⟨ys, rfl, has, hlen⟩ := popN_spec _ _ _ _ _ hp
        rw [List.append_nil] at has
        have hys : ys = as.reverse := by rw [has, List.reverse_reverse]
        have hal : as.length = eB e0 := by rw [has, List.length_reverse, hlen]
        subst hys
        unfold amCallI at hs
        obtain ⟨hb, hs1⟩ := gd_some hs; replace hs := hs1; clear hs1
        simp only [Bool.and_eq_true] at hb
        obtain ⟨b0, b1, b2, b3⟩ := hb
        have b0 := Nat.le_of_ble_eq_true b0
        have b1 := Nat.le_of_ble_eq_true b1
        have b2 := Nat.le_of_ble_eq_true b2
        have b3 := Nat.le_of_ble_eq_true b3
        split at hs
        · next v h' hf1 =>
          cases hs
          exact s_callI C (hM _ b0) q2 q4.1 q4.2 (nb_iff.mp hk) (hf _ _ _ _ _ b0 hf1) (fun v' z => by cases z; exact hN _ _ _ _ _ hf1) b1 (Nat.le_trans b2 C.2.2.2.2.2.2.2.2.2.2.1) (Nat.le_trans b3 C.2.2.2.2.2.2.2.2.2.2.2.1) (by rw [hal]; exact q3) (wOK_in q1) (hd (Nat.succ_ne_zero _)) K
        · next h' hf1 =>
          cases hs
          exact s_callI C (hM _ b0) q2 q4.1 q4.2 (nb_iff.mp hk) (hf _ _ _ _ _ b0 hf1) (fun v' z => by cases z) b1 (Nat.le_trans b2 C.2.2.2.2.2.2.2.2.2.2.1) (Nat.le_trans b3 C.2.2.2.2.2.2.2.2.2.2.2.1) (by rw [hal]; exact q3) (wOK_in q1) (hd (Nat.succ_ne_zero _)) K
        · cases hs
      · cases hs
    · obtain ⟨a, b, r, rfl, hs1⟩ := pR_some hs; replace hs := hs1; clear hs1
      obtain ⟨hc, hs1⟩ := gd_some hs; replace hs := hs1; clear hs1
      cases hs
      exact s_objI C (Nat.le_of_ble_eq_true hc) (wOK_in hsd) (hd (Nat.succ_ne_zero _)) K
  case invokestatic i =>
    cases h0 : Nat.beq (eC e0) 0 <;> rw [h0] at hs hsd
    · simp only [cond_false] at hs hsd
      cases h4 : Nat.beq (eC e0) 4 <;> rw [h4] at hs hsd
      · simp only [cond_false] at hs hsd
        cases h5 : Nat.beq (eC e0) 5 <;> rw [h5] at hs hsd
        · obtain ⟨-, hs1⟩ := gd_some hs; replace hs := hs1; clear hs1
          unfold amCopy at hs
          obtain ⟨n, r, rfl, hs1⟩ := pI_some hs; replace hs := hs1; clear hs1
          obtain ⟨dp, r, rfl, hs1⟩ := pI_some hs; replace hs := hs1; clear hs1
          obtain ⟨s2, j2, r, rfl, hs1⟩ := pR_some hs; replace hs := hs1; clear hs1
          obtain ⟨sp1, r, rfl, hs1⟩ := pI_some hs; replace hs := hs1; clear hs1
          obtain ⟨s1, j1, r, rfl, hs1⟩ := pR_some hs; replace hs := hs1; clear hs1
          obtain ⟨hb, hs1⟩ := gd_some hs; replace hs := hs1; clear hs1
          obtain ⟨hb2, hs1⟩ := gd_some hs; replace hs := hs1; clear hs1
          simp only [Bool.and_eq_true, nb_iff, Bool.not_eq_true', Bool.or_eq_false_iff, decide_eq_false_iff_not] at hb hb2
          obtain ⟨b1, b2, b3, b4, b5, b6, b7⟩ := hb
          cases hk : Nat.beq (kd s1) 20 <;> rw [hk] at hs
          · obtain ⟨hk1, hs1⟩ := gd_some hs; replace hs := hs1; clear hs1
            have hk1 := nb_iff.mp hk1
            cases hs
            exact s_copyJ C (Nat.le_of_ble_eq_true b1) (Nat.le_of_ble_eq_true b2) (Nat.le_of_ble_eq_true b3) hk1 (b4 ▸ hk1) b5 b6 b7 (Nat.le_of_ble_eq_true hb2.1) (Nat.le_of_ble_eq_true hb2.2) (wOK_in hsd) (hd (Nat.succ_ne_zero _)) K
          · have hk1 := nb_iff.mp hk
            cases hs
            exact s_copyI C (Nat.le_of_ble_eq_true b1) (Nat.le_of_ble_eq_true b2) (Nat.le_of_ble_eq_true b3) hk1 (b4 ▸ hk1) b5 b6 b7 (Nat.le_of_ble_eq_true hb2.1) (Nat.le_of_ble_eq_true hb2.2) (wOK_in hsd) (hd (Nat.succ_ne_zero _)) K
        · obtain ⟨b, r, rfl, hs1⟩ := pI_some hs; replace hs := hs1; clear hs1
          obtain ⟨a, r, rfl, hs1⟩ := pI_some hs; replace hs := hs1; clear hs1
          obtain ⟨hb, hs1⟩ := gd_some hs; replace hs := hs1; clear hs1
          simp only [Bool.and_eq_true] at hb
          cases hs
          exact s_mmin C (Nat.le_of_ble_eq_true hb.1) (wOK_in hsd) (Nat.le_trans (Nat.le_of_ble_eq_true hb.2.1) C.2.2.2.2.2.2.2.2.2.2.1) (Nat.le_trans (Nat.le_of_ble_eq_true hb.2.2) C.2.2.2.2.2.2.2.2.2.2.2.1) (hd (Nat.succ_ne_zero _)) K
      · obtain ⟨b, r, rfl, hs1⟩ := pI_some hs; replace hs := hs1; clear hs1
        obtain ⟨a, r, rfl, hs1⟩ := pI_some hs; replace hs := hs1; clear hs1
        obtain ⟨hb, hs1⟩ := gd_some hs; replace hs := hs1; clear hs1
        simp only [Bool.and_eq_true] at hb
        cases hs
        exact s_mmax C (Nat.le_of_ble_eq_true hb.1) (wOK_in hsd) (Nat.le_trans (Nat.le_of_ble_eq_true hb.2.1) C.2.2.2.2.2.2.2.2.2.2.1) (Nat.le_trans (Nat.le_of_ble_eq_true hb.2.2) C.2.2.2.2.2.2.2.2.2.2.2.1) (hd (Nat.succ_ne_zero _)) K
    · simp only [cond_true, Bool.and_eq_true, decide_eq_true_eq] at hs hsd
      obtain ⟨q1, q2, q3⟩ := hsd
      unfold amCallS at hs
      split at hs
      · next as rest hp =>
        obtain ⟨ys, rfl, has, hlen⟩ := popN_spec _ _ _ _ _ hp
        rw [List.append_nil] at has
        have hys : ys = as.reverse := by rw [has, List.reverse_reverse]
        have hal : as.length = eB e0 := by rw [has, List.length_reverse, hlen]
        subst hys
        unfold amCallI at hs
        obtain ⟨hb, hs1⟩ := gd_some hs; replace hs := hs1; clear hs1
        simp only [Bool.and_eq_true] at hb
        obtain ⟨b0, b1, b2, b3⟩ := hb
        have b0 := Nat.le_of_ble_eq_true b0
        have b1 := Nat.le_of_ble_eq_true b1
        have b2 := Nat.le_of_ble_eq_true b2
        have b3 := Nat.le_of_ble_eq_true b3
        split at hs
        · next v h' hf1 =>
          cases hs
          exact s_callS C (hM _ b0) q2 (hf _ _ _ _ _ b0 hf1) (fun v' z => by cases z; exact hN _ _ _ _ _ hf1) b1 (Nat.le_trans b2 C.2.2.2.2.2.2.2.2.2.2.1) (Nat.le_trans b3 C.2.2.2.2.2.2.2.2.2.2.2.1) (by rw [hal]; exact q3) (wOK_in q1) (hd (Nat.succ_ne_zero _)) K
        · next h' hf1 =>
          cases hs
          exact s_callS C (hM _ b0) q2 (hf _ _ _ _ _ b0 hf1) (fun v' z => by cases z) b1 (Nat.le_trans b2 C.2.2.2.2.2.2.2.2.2.2.1) (Nat.le_trans b3 C.2.2.2.2.2.2.2.2.2.2.2.1) (by rw [hal]; exact q3) (wOK_in q1) (hd (Nat.succ_ne_zero _)) K
        · cases hs
      · cases hs
  case ireturn =>
    split at hs
    · obtain ⟨-, hs1⟩ := gd_some hs; replace hs := hs1; clear hs1
      cases hs
    · cases hs
  case lreturn =>
    split at hs
    · obtain ⟨-, hs1⟩ := gd_some hs; replace hs := hs1; clear hs1
      cases hs
    · cases hs
  case return_ =>
    split at hs
    · obtain ⟨-, hs1⟩ := gd_some hs; replace hs := hs1; clear hs1
      cases hs
    · cases hs
end SND
