/-! THE START: the classes, the arrays, the statics, the script -/
theorem flL : ∀ j, j < 11 → Cond.eq (.elem (.static "HeldTillSet$Bench" "LEAST" "[I") (.int (Int32.ofNat j))) (.int ((STl 900).getD j 0)) ∈ flatC (Jvm.Cond.and given_1 narrow_1) := by decide +kernel
theorem flG : ∀ j, j < 11 → Cond.eq (.elem (.static "HeldTillSet$Bench" "GREATEST" "[I") (.int (Int32.ofNat j))) (.int ((STl 901).getD j 0)) ∈ flatC (Jvm.Cond.and given_1 narrow_1) := by decide +kernel
theorem flA : ∀ j, j < 8 → Cond.eq (.elem (.static "HeldTillSet$Acts" "ABOVE" "[I") (.int (Int32.ofNat j))) (.int ((STl 902).getD j 0)) ∈ flatC (Jvm.Cond.and given_1 narrow_1) := by decide +kernel
theorem flB : ∀ j, j < 32 → Cond.eq (.elem (.static "HeldTillSet$Acts" "BODIES" "[I") (.int (Int32.ofNat j))) (.int ((STl 903).getD j 0)) ∈ flatC (Jvm.Cond.and given_1 narrow_1) := by decide +kernel
theorem flS : ∀ j, j < 6 → Cond.eq (.elem (.field (.string "HeldTillSet$Law" 73) "java/lang/String" "value" "[B") (.int (Int32.ofNat j))) (.int ((STl 991).getD j 0)) ∈ flatC (Jvm.Cond.and given_1 narrow_1) := by decide +kernel
theorem ht_at {s : State} {args : Array Value} (hts : ∀ w ∈ lw_tbl, w.before args s = true) (n : Nat) {w : Cond} (h : lw_tbl[n]? = some w) : w.before args s = true := hts _ (List.mem_of_getElem? h)
def spF (a0 a1 a2 a3 k a5 b : Nat) : Nat → Nat := fun n => if n = 900 then a0 else if n = 901 then a1 else if n = 902 then a2 else if n = 903 then a3 else if n = 990 then k else if n = 991 then a5 else b
theorem st_start {s : State} {b L : Nat} {xs : Nat → Int32} {A : Nat → Prop} (hts : ∀ w ∈ lw_tbl, w.before #[Value.ref b] s = true) (hX : va_X b L xs s s.heap) (hgv : (Jvm.Cond.and given_1 narrow_1).before #[Value.ref b] s = true) (hA : ∀ a : Nat, a < s.heap.size → ¬ A a) : ∃ sp : Nat → Nat, sp 950 = b ∧ Stat sp A L xs s s.heap := by
  have hs := flat_of_before _ hgv
  obtain ⟨a0, e0, h0⟩ := va_Tof (args := #[Value.ref b]) (s := s) (tm := .static "HeldTillSet$Bench" "LEAST" "[I") (ty := .int) (N := 11) (f := fun j => .int ((STl 900).getD j 0)) (A := A) (by decide) (hs _ (by decide +kernel)) (va_eqt (hs (Cond.eq (.length (.static "HeldTillSet$Bench" "LEAST" "[I")) (.int (Int32.ofNat 11))) (by decide +kernel))) (fun j hj => va_eqt (hs _ (flL j hj))) hA
  obtain ⟨a1, e1, h1⟩ := va_Tof (args := #[Value.ref b]) (s := s) (tm := .static "HeldTillSet$Bench" "GREATEST" "[I") (ty := .int) (N := 11) (f := fun j => .int ((STl 901).getD j 0)) (A := A) (by decide) (hs _ (by decide +kernel)) (va_eqt (hs (Cond.eq (.length (.static "HeldTillSet$Bench" "GREATEST" "[I")) (.int (Int32.ofNat 11))) (by decide +kernel))) (fun j hj => va_eqt (hs _ (flG j hj))) hA
  obtain ⟨a2, e2, h2⟩ := va_Tof (args := #[Value.ref b]) (s := s) (tm := .static "HeldTillSet$Acts" "ABOVE" "[I") (ty := .int) (N := 8) (f := fun j => .int ((STl 902).getD j 0)) (A := A) (by decide) (hs _ (by decide +kernel)) (va_eqt (hs (Cond.eq (.length (.static "HeldTillSet$Acts" "ABOVE" "[I")) (.int (Int32.ofNat 8))) (by decide +kernel))) (fun j hj => va_eqt (hs _ (flA j hj))) hA
  obtain ⟨a3, e3, h3⟩ := va_Tof (args := #[Value.ref b]) (s := s) (tm := .static "HeldTillSet$Acts" "BODIES" "[I") (ty := .int) (N := 32) (f := fun j => .int ((STl 903).getD j 0)) (A := A) (by decide) (hs _ (by decide +kernel)) (va_eqt (hs (Cond.eq (.length (.static "HeldTillSet$Acts" "BODIES" "[I")) (.int (Int32.ofNat 32))) (by decide +kernel))) (fun j hj => va_eqt (hs _ (flB j hj))) hA
  obtain ⟨a5, e5, h5⟩ := va_Tof (args := #[Value.ref b]) (s := s) (tm := .field (.string "HeldTillSet$Law" 73) "java/lang/String" "value" "[B") (ty := .byte) (N := 6) (f := fun j => .int ((STl 991).getD j 0)) (A := A) (by decide) (hs _ (by decide +kernel)) (va_eqt (hs (Cond.eq (.length (.field (.string "HeldTillSet$Law" 73) "java/lang/String" "value" "[B")) (.int (Int32.ofNat 6))) (by decide +kernel))) (fun j hj => va_eqt (hs _ (flS j hj))) hA
  have hex : (Cond.exactly (.string "HeldTillSet$Law" 73) "java/lang/String").before #[Value.ref b] s = true := hs _ (by decide +kernel)
  have hco : (Cond.eq (.field (.string "HeldTillSet$Law" 73) "java/lang/String" "coder" "B") (.int 0)).before #[Value.ref b] s = true := hs _ (by decide +kernel)
  have hcs : (Cond.eq (.static "java/lang/String" "COMPACT_STRINGS" "Z") (.int 1)).before #[Value.ref b] s = true := hs _ (by decide +kernel)
  obtain ⟨k, c, cA, kA, q1, -⟩ := Cond.exactly_spec (args := #[Value.ref b]) (first := s) (o := none) (s := s) (idx := []) (t := .string "HeldTillSet$Law" 73) (cls := "java/lang/String") hex
  have iB : (Cond.initialized "HeldTillSet$Bench").before #[Value.ref b] s = true := ht_at hts 89 (by decide +kernel)
  have iA : (Cond.initialized "HeldTillSet$Acts").before #[Value.ref b] s = true := ht_at hts 97 (by decide +kernel)
  obtain ⟨scr, x1, x2, x3, x4, x5⟩ := hX
  refine ⟨spF a0 a1 a2 a3 k a5 b, rfl, ?_, h0, ?_, h1, ?_, h2, ?_, h3, ?_, ?_, ?_, ?_, ?_, h5, ?_, ?_, ?_, ?_⟩
  · exact va_Zref (ht_at hts 467 (by decide +kernel)) iB e0 hA
  · exact va_Zref (ht_at hts 469 (by decide +kernel)) iB e1 hA
  · exact va_Zref (ht_at hts 1041 (by decide +kernel)) iA e2 hA
  · exact va_Zref (ht_at hts 1039 (by decide +kernel)) iA e3 hA
  · exact va_Zof (ht_at hts 571 (by decide +kernel)) (ht_at hts 101 (by decide +kernel)) (va_eqi hcs) hA
  · exact vk_R.of (A := #[Value.ref b]) (ht_at hts 557 (by decide +kernel)) q1
  · exact va_Oof hex q1 hA
  · exact vk_OFof q1 (va_eqt hco) hA
  · exact vk_OFof q1 e5 hA
  · exact va_AO.of (A := #[Value.ref b]) (ht_at hts 386 (by decide +kernel))
  · exact va_Nw.of rfl (ht_at hts 238 (by decide +kernel))
  · exact va_Nw.of rfl (ht_at hts 240 (by decide +kernel))
  · exact ⟨scr, x1, x2, x3, Nat.le_of_eq x4.symm, by rw [x4], x5, hA b (Array.getElem?_eq_some_iff.mp x1).1⟩
theorem inst_at {s : State} {args : Array Value} (hts : ∀ w ∈ lw_tbl, w.before args s = true) {ci : Nat} (h : ci ≤ 10) : (Cond.instantiable (RXf ci) (nfl ci)).before args s = true :=
  le10 (P := fun ci => (Cond.instantiable (RXf ci) (nfl ci)).before args s = true) (ht_at hts 358 (by decide +kernel)) (ht_at hts 117 (by decide +kernel)) (ht_at hts 329 (by decide +kernel)) (ht_at hts 158 (by decide +kernel)) (ht_at hts 134 (by decide +kernel)) (ht_at hts 288 (by decide +kernel)) (ht_at hts 387 (by decide +kernel)) (ht_at hts 199 (by decide +kernel)) (ht_at hts 229 (by decide +kernel)) (ht_at hts 109 (by decide +kernel)) (ht_at hts 1113 (by decide +kernel)) h
def cAF (c20 c21 c22 c23 c24 : ClassId) : Nat → ClassId := fun n => if n = 20 then c20 else if n = 21 then c21 else if n = 22 then c22 else if n = 23 then c23 else c24
theorem k_start {s : State} {args : Array Value} (hts : ∀ w ∈ lw_tbl, w.before args s = true) : ∃ (Dg : va_G) (cA : Nat → ClassId), va_K Dg vwCl (tysh cA) s := by
  have hk : ∀ ci, ∃ q : ClassId × (Nat → Nat), ci ≤ 10 → u_Kn s (RXf ci) (TXf ci) (nfl ci) q.1 q.2 := by
    intro ci
    by_cases h : ci ≤ 10
    · obtain ⟨c, i, h1⟩ := u_known (C := RXf ci) (T := TXf ci) (N := nfl ci) (n := nfl ci) hts (fun w hw => (List.mem_filter.mp (flds_in h w hw)).1) (inst_at hts h)
      exact ⟨(c, i), fun _ => h1⟩
    · exact ⟨(0, fun _ => 0), fun z => absurd z h⟩
  obtain ⟨F, hF⟩ := Classical.axiomOfChoice hk
  have ok : ∀ {n : Nat} {ty : FieldType}, lw_tbl[n]? = some (Cond.arrayClass ty) → ∃ (c : ClassId) (k : Class) (comp : ClassId), s.vm.findClass ("[" ++ ty.toString) = some c ∧ s.vm.classes[c]? = some k ∧ k.kind = .array comp ty := fun {n ty} h => Cond.arrayClass_spec (args := args) (first := s) (o := none) (s := s) (idx := []) (ht_at hts n h)
  obtain ⟨c20, k20, p20, a20, b20, d20⟩ := ok (n := 132) (ty := .int) (by decide +kernel)
  obtain ⟨c21, k21, p21, a21, b21, d21⟩ := ok (n := 417) (ty := .long) (by decide +kernel)
  obtain ⟨c22, k22, p22, a22, b22, d22⟩ := ok (n := 649) (ty := .byte) (by decide +kernel)
  obtain ⟨c23, k23, p23, a23, b23, d23⟩ := ok (n := 1358) (ty := .short) (by decide +kernel)
  have hov : (Cond.arrayOver (.object "HeldTillSet$Shelf")).before args s = true := ht_at hts 386 (by decide +kernel)
  obtain ⟨p24, c24, k24, f24, -, b24, d24, a24⟩ := Cond.arrayOver_spec (args := args) (first := s) (o := none) (s := s) (idx := []) hov
  refine ⟨(fun ci => (F ci).1, fun ci => (F ci).2), cAF c20 c21 c22 c23 c24, ?_, ?_⟩
  · intro ci q hq
    by_cases h : ci ≤ 10
    · rw [cl_at h] at hq
      cases hq
      exact hF ci h
    · have hlt : ci < 11 := (List.getElem?_eq_some_iff.mp hq).1
      omega
  · intro k q hq
    match k, hq with
    | 0, hq => cases hq; exact ⟨fun n z => ⟨fun k h => (by cases h), k20, b20, p20, d20⟩, a20⟩
    | 1, hq => cases hq; exact ⟨fun n z => ⟨fun k h => (by cases h), k21, b21, p21, d21⟩, a21⟩
    | 2, hq => cases hq; exact ⟨fun n z => ⟨fun k h => (by cases h), k22, b22, p22, d22⟩, a22⟩
    | 3, hq => cases hq; exact ⟨fun n z => ⟨fun k h => (by cases h), k23, b23, p23, d23⟩, a23⟩
    | 4, hq => cases hq; exact ⟨fun n z => ⟨fun k h => (by cases h), k24, b24, p24, d24⟩, k24, p24, b24, d24, f24, a24⟩
    | k + 5, hq => exact absurd (List.getElem?_eq_some_iff.mp hq).1 (by show ¬ k + 5 < 5; omega)
