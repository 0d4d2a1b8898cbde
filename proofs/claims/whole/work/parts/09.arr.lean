theorem w_oi1 : (.instanceMethod Lib.objectInit : Jvm.Cond) ∈ wsAll := wOK_in (P := 114) (by decide +kernel)
theorem w_oi2 : (.code Lib.objectInit ⟨#[0xb1]⟩ 1 none : Jvm.Cond) ∈ wsAll := wOK_in (P := 115) (by decide +kernel)
theorem w_mx1 : (.static Lib.Math.max.name : Jvm.Cond) ∈ wsAll := wOK_in (P := 235) (by decide +kernel)
theorem w_mx2 : (.code Lib.Math.max.name Lib.Math.max.code 2 (some .int) : Jvm.Cond) ∈ wsAll := wOK_in (P := 236) (by decide +kernel)
theorem w_mn1 : (.static Lib.Math.min.name : Jvm.Cond) ∈ wsAll := wOK_in (P := 588) (by decide +kernel)
theorem w_mn2 : (.code Lib.Math.min.name Lib.Math.min.code 2 (some .int) : Jvm.Cond) ∈ wsAll := wOK_in (P := 589) (by decide +kernel)
theorem w_im : (.initialized "java/lang/Math" : Jvm.Cond) ∈ wsAll := wOK_in (P := 94) (by decide +kernel)
theorem w_is : (.initialized "java/lang/System" : Jvm.Cond) ∈ wsAll := wOK_in (P := 100) (by decide +kernel)
theorem w_ac1 : (.native arraycopyName : Jvm.Cond) ∈ wsAll := wOK_in (P := 512) (by decide +kernel)
theorem w_ac2 : (.static arraycopyName : Jvm.Cond) ∈ wsAll := wOK_in (P := 511) (by decide +kernel)
theorem w_ins0 : (.instantiable (RXf 0) (nfl 0) : Jvm.Cond) ∈ wsAll := wOK_in (P := 358) (by decide +kernel)
theorem w_ini0 : (.initialized (RXf 0) : Jvm.Cond) ∈ wsAll := wOK_in (P := 97) (by decide +kernel)
theorem w_ins1 : (.instantiable (RXf 1) (nfl 1) : Jvm.Cond) ∈ wsAll := wOK_in (P := 117) (by decide +kernel)
theorem w_ini1 : (.initialized (RXf 1) : Jvm.Cond) ∈ wsAll := wOK_in (P := 89) (by decide +kernel)
theorem w_ins2 : (.instantiable (RXf 2) (nfl 2) : Jvm.Cond) ∈ wsAll := wOK_in (P := 329) (by decide +kernel)
theorem w_ini2 : (.initialized (RXf 2) : Jvm.Cond) ∈ wsAll := wOK_in (P := 96) (by decide +kernel)
theorem w_ins3 : (.instantiable (RXf 3) (nfl 3) : Jvm.Cond) ∈ wsAll := wOK_in (P := 158) (by decide +kernel)
theorem w_ini3 : (.initialized (RXf 3) : Jvm.Cond) ∈ wsAll := wOK_in (P := 91) (by decide +kernel)
theorem w_ins4 : (.instantiable (RXf 4) (nfl 4) : Jvm.Cond) ∈ wsAll := wOK_in (P := 134) (by decide +kernel)
theorem w_ini4 : (.initialized (RXf 4) : Jvm.Cond) ∈ wsAll := wOK_in (P := 90) (by decide +kernel)
theorem w_ins5 : (.instantiable (RXf 5) (nfl 5) : Jvm.Cond) ∈ wsAll := wOK_in (P := 288) (by decide +kernel)
theorem w_ini5 : (.initialized (RXf 5) : Jvm.Cond) ∈ wsAll := wOK_in (P := 95) (by decide +kernel)
theorem w_ins6 : (.instantiable (RXf 6) (nfl 6) : Jvm.Cond) ∈ wsAll := wOK_in (P := 387) (by decide +kernel)
theorem w_ini6 : (.initialized (RXf 6) : Jvm.Cond) ∈ wsAll := wOK_in (P := 98) (by decide +kernel)
theorem w_ins7 : (.instantiable (RXf 7) (nfl 7) : Jvm.Cond) ∈ wsAll := wOK_in (P := 199) (by decide +kernel)
theorem w_ini7 : (.initialized (RXf 7) : Jvm.Cond) ∈ wsAll := wOK_in (P := 92) (by decide +kernel)
theorem w_ins8 : (.instantiable (RXf 8) (nfl 8) : Jvm.Cond) ∈ wsAll := wOK_in (P := 229) (by decide +kernel)
theorem w_ini8 : (.initialized (RXf 8) : Jvm.Cond) ∈ wsAll := wOK_in (P := 93) (by decide +kernel)
theorem w_ins9 : (.instantiable (RXf 9) (nfl 9) : Jvm.Cond) ∈ wsAll := wOK_in (P := 109) (by decide +kernel)
theorem w_ini9 : (.initialized (RXf 9) : Jvm.Cond) ∈ wsAll := wOK_in (P := 88) (by decide +kernel)
theorem w_ins10 : (.instantiable (RXf 10) (nfl 10) : Jvm.Cond) ∈ wsAll := wOK_in (P := 1113) (by decide +kernel)
theorem w_ini10 : (.initialized (RXf 10) : Jvm.Cond) ∈ wsAll := wOK_in (P := 99) (by decide +kernel)
theorem ins_at {ci : Nat} (h : ci ≤ 10) : (.instantiable (RXf ci) (nfl ci) : Jvm.Cond) ∈ wsAll := le10 (P := fun ci => (.instantiable (RXf ci) (nfl ci) : Jvm.Cond) ∈ wsAll) w_ins0 w_ins1 w_ins2 w_ins3 w_ins4 w_ins5 w_ins6 w_ins7 w_ins8 w_ins9 w_ins10 h
theorem ini_at {ci : Nat} (h : ci ≤ 10) : (.initialized (RXf ci) : Jvm.Cond) ∈ wsAll := le10 (P := fun ci => (.initialized (RXf ci) : Jvm.Cond) ∈ wsAll) w_ini0 w_ini1 w_ini2 w_ini3 w_ini4 w_ini5 w_ini6 w_ini7 w_ini8 w_ini9 w_ini10 h
theorem kdx_lo {s1 : Nat} (h : s1 < 900) : kdx s1 = kd s1 := by
  simp only [kdx]
  rw [show Nat.ble 900 s1 = false by rw [← Bool.not_eq_true]; intro z; have := Nat.le_of_ble_eq_true z; omega]
  rfl
theorem kdx_sp {s1 : Nat} (h9 : 900 ≤ s1) (h : kdx s1 = 20) : s1 = 900 ∨ s1 = 901 ∨ s1 = 902 ∨ s1 = 903 ∨ s1 = 950 := by
  unfold kdx at h
  rw [Nat.ble_eq_true_of_le h9] at h
  by_cases h1 : s1 = 991
  · subst h1; exact absurd h (by decide)
  · by_cases h2 : s1 = 990
    · subst h2; exact absurd h (by decide)
    · by_cases h3 : s1 ≤ 903
      · omega
      · by_cases h4 : s1 = 950
        · omega
        · rw [show Nat.beq s1 991 = false by rw [← Bool.not_eq_true, nb_iff]; exact h1, show Nat.beq s1 990 = false by rw [← Bool.not_eq_true, nb_iff]; exact h2, show Nat.beq s1 950 = false by rw [← Bool.not_eq_true, nb_iff]; exact h4, show Nat.ble s1 903 = false by rw [← Bool.not_eq_true]; intro z; exact h3 (Nat.le_of_ble_eq_true z)] at h
          simp at h
theorem kdx_b {s1 : Nat} (h9 : 900 ≤ s1) (h : kdx s1 = 22) : s1 = 991 := by
  unfold kdx at h
  rw [Nat.ble_eq_true_of_le h9] at h
  by_cases h1 : s1 = 991
  · exact h1
  · rw [show Nat.beq s1 991 = false by rw [← Bool.not_eq_true, nb_iff]; exact h1] at h
    simp only [cond_true, cond_false] at h
    cases hb : Nat.beq s1 990 <;> rw [hb] at h <;> simp at h
    cases hc : (Nat.ble s1 903 || Nat.beq s1 950) <;> rw [hc] at h <;> simp at h
theorem kdx_o {s1 k : Nat} (h : kdx s1 = k) (hk : k = 21 ∨ k = 23 ∨ k = 24) : s1 < 900 := by
  rcases Nat.lt_or_ge s1 900 with h9 | h9
  · exact h9
  · exfalso
    unfold kdx at h
    rw [Nat.ble_eq_true_of_le h9] at h
    simp only [cond_true] at h
    cases ha : Nat.beq s1 991 <;> rw [ha] at h <;> simp at h
    · cases hb : Nat.beq s1 990 <;> rw [hb] at h <;> simp at h
      · cases hc : (Nat.ble s1 903 || Nat.beq s1 950) <;> rw [hc] at h <;> simp at h <;> omega
      · omega
    · omega
theorem len_lo {h : AH} {s1 j1 : Nat} (hs : s1 < 900) : len h s1 j1 = LENf s1 j1 := by
  simp only [len]
  rw [show Nat.beq s1 950 = false by rw [← Bool.not_eq_true, nb_iff]; omega]
  rfl
theorem rdI_lo {I : IM} {s1 j1 k : Nat} (hs : s1 < 900) : rdI I s1 j1 k = I s1 j1 k := by
  simp only [rdI]
  rw [show Nat.ble 900 s1 = false by rw [← Bool.not_eq_true]; intro z; have := Nat.le_of_ble_eq_true z; omega]
  rfl
theorem catS_em {ad sp : Nat → Nat} : ∀ (r : List AV), ((r.map (emV ad sp)).map fun v => v.category).sum = catS r
  | [] => rfl
  | a :: r => by
    simp only [List.map_cons, List.sum_cons, catS, em_cat, catS_em r]
theorem rho_sp {ad sp : Nat → Nat} {s1 j1 : Nat} (h : 900 ≤ s1) : rho ad sp (s1, j1) = sp s1 := if_pos h
section SNA
variable {p : Program} {l : Launch} {e : Env} {R : Room} {s : State} {m : MethodId} {args : Array Value} {below : List Frame} {meth : Method} {c : Code} {y D : Nat} {A : Nat → Prop} {Dg : va_G} {cA : Nat → ClassId} {sp : Nat → Nat} {n0 : Nat} {ad0 : Nat → Nat} {Lx : Nat} {xs : Nat → Int32} {Q : State → Prop}
variable {cc ss pc : Nat} {Lo st r : List AV} {h : AH} {ad : Nat → Nat} {H : Heap} {locs : List Loc} {ls : Array Slot}
theorem stat_arr (S : Stat sp A Lx xs s s.heap) (hH : HO h n0 Lx xs) {s1 j1 : Nat} (h9 : 900 ≤ s1) (hk : kdx s1 = 20) : va_T .int (sp s1) (len h s1 j1) (fun k => .int (rdI h.2.1 s1 j1 k)) A s s.heap := by
  obtain ⟨-, t0, -, t1, -, t2, -, t3, -, -, -, -, -, -, -, -, -, t4⟩ := S
  rcases kdx_sp h9 hk with rfl | rfl | rfl | rfl | rfl
  · exact t0
  · exact t1
  · exact t2
  · exact t3
  · have e1 : len h 950 j1 = Lx := hH.2.2.2.2.1
    have e2 : (fun k => Value.int (rdI h.2.1 950 j1 k)) = fun k => Value.int (xs k) := by
      funext k
      exact congrArg Value.int (hH.2.2.2.1 k)
    rw [e1, e2]
    exact t4
theorem Rl.live1 {v : AV} {s1 j1 : Nat} (hR : Rl s y A Dg cA sp n0 ad0 Lx xs ad H locs ls Lo (v :: vr s1 j1 :: r) h) (hci : s1 < 900) : liveQ h (s1, j1) := (hR.okst (vr s1 j1) (List.mem_cons_of_mem _ List.mem_cons_self) (s1, j1) rfl).resolve_left (by show ¬ 900 ≤ s1; omega)
theorem Rl.live2 {v w : AV} {s1 j1 : Nat} (hR : Rl s y A Dg cA sp n0 ad0 Lx xs ad H locs ls Lo (v :: w :: vr s1 j1 :: r) h) (hci : s1 < 900) : liveQ h (s1, j1) := (hR.okst (vr s1 j1) (List.mem_cons_of_mem _ (List.mem_cons_of_mem _ List.mem_cons_self)) (s1, j1) rfl).resolve_left (by show ¬ 900 ≤ s1; omega)
theorem s_iaload (C : Cx p R s m args meth c y D A Dg cA sp Lx xs) {s1 j1 : Nat} {i : Int32} (hk : kdx s1 = 20) (hin : inA i (len h s1 j1) = true) (hd : decode (yCd y) pc = .ok (.iaload, 1)) (K : Wq p l e R s m args below meth c y A Dg cA sp n0 ad0 Lx xs Q cc ss (pc + 1) Lo (vi (rdI h.2.1 s1 j1 i.toNatClampNeg) :: r) h) : Wq p l e R s m args below meth c y A Dg cA sp n0 ad0 Lx xs Q cc ss pc Lo (vi i :: vr s1 j1 :: r) h := by
  intro ad H locs ls hR
  have K := K ad H locs ls (hR.stk (okS_i (okS_tl (okS_tl hR.okst))))
  rcases Nat.lt_or_ge s1 900 with h9 | h9
  · rw [kdx_lo h9] at hk
    rw [len_lo h9] at hin
    rw [rdI_lo h9] at K
    have he := wsh_at (ad := ad) (sp := sp) (cA := cA) (hR.live1 h9)
    rw [ent_arr (by rw [hk]; decide)] at he
    simp only [entA, hk] at he
    exact va_iald C.1 C.2.1 C.hK hR.hP _ 0 he rfl (inA_in hin) hd K
  · have hT := stat_arr (j1 := j1) C.hS hR.hH h9 hk
    have K' := K
    show W p l e R s m args below meth c H locs cc ss Q (F0 m pc ls (.int i :: .ref (rho ad sp (_, j1)) :: r.map (emV ad sp)))
    rw [rho_sp h9]
    exact va_ti C.1 C.2.1 hT hR.hS (inA_in hin) rfl hd K
theorem s_baload (C : Cx p R s m args meth c y D A Dg cA sp Lx xs) {s1 j1 : Nat} {i : Int32} (hk : kdx s1 = 22) (hin : inA i (len h s1 j1) = true) (hd : decode (yCd y) pc = .ok (.baload, 1)) (K : Wq p l e R s m args below meth c y A Dg cA sp n0 ad0 Lx xs Q cc ss (pc + 1) Lo (vi (rdI h.2.1 s1 j1 i.toNatClampNeg) :: r) h) : Wq p l e R s m args below meth c y A Dg cA sp n0 ad0 Lx xs Q cc ss pc Lo (vi i :: vr s1 j1 :: r) h := by
  intro ad H locs ls hR
  have K := K ad H locs ls (hR.stk (okS_i (okS_tl (okS_tl hR.okst))))
  rcases Nat.lt_or_ge s1 900 with h9 | h9
  · rw [kdx_lo h9] at hk
    rw [len_lo h9] at hin
    rw [rdI_lo h9] at K
    have he := wsh_at (ad := ad) (sp := sp) (cA := cA) (hR.live1 h9)
    rw [ent_arr (by rw [hk]; decide)] at he
    simp only [entA, hk] at he
    exact va_bald C.1 C.2.1 C.hK hR.hP _ 2 he rfl (inA_in hin) hd K
  · have e9 := kdx_b h9 hk
    subst e9
    obtain ⟨-, -, -, -, -, -, -, -, -, -, -, -, -, hT, -⟩ := C.hS
    have K' := K
    show W p l e R s m args below meth c H locs cc ss Q (F0 m pc ls (.int i :: .ref (rho ad sp (_, j1)) :: r.map (emV ad sp)))
    rw [rho_sp h9]
    exact va_tb C.1 C.2.1 hT hR.hS (inA_in hin) rfl hd K
theorem s_saload (C : Cx p R s m args meth c y D A Dg cA sp Lx xs) {s1 j1 : Nat} {i : Int32} (hk : kdx s1 = 23) (hin : inA i (len h s1 j1) = true) (hd : decode (yCd y) pc = .ok (.saload, 1)) (K : Wq p l e R s m args below meth c y A Dg cA sp n0 ad0 Lx xs Q cc ss (pc + 1) Lo (vi (h.2.1 s1 j1 i.toNatClampNeg) :: r) h) : Wq p l e R s m args below meth c y A Dg cA sp n0 ad0 Lx xs Q cc ss pc Lo (vi i :: vr s1 j1 :: r) h := by
  intro ad H locs ls hR
  have K := K ad H locs ls (hR.stk (okS_i (okS_tl (okS_tl hR.okst))))
  have h9 := kdx_o hk (by decide)
  rw [kdx_lo h9] at hk
  rw [len_lo h9] at hin
  have he := wsh_at (ad := ad) (sp := sp) (cA := cA) (hR.live1 h9)
  rw [ent_arr (by rw [hk]; decide)] at he
  simp only [entA, hk] at he
  exact va_sald C.1 C.2.1 C.hK hR.hP _ 3 he rfl (inA_in hin) hd K
theorem s_laload (C : Cx p R s m args meth c y D A Dg cA sp Lx xs) {s1 j1 : Nat} {i : Int32} (hk : kdx s1 = 21) (hin : inA i (len h s1 j1) = true) (hd : decode (yCd y) pc = .ok (.laload, 1)) (K : Wq p l e R s m args below meth c y A Dg cA sp n0 ad0 Lx xs Q cc ss (pc + 1) Lo (vl (h.2.2.1 s1 j1 i.toNatClampNeg) :: r) h) : Wq p l e R s m args below meth c y A Dg cA sp n0 ad0 Lx xs Q cc ss pc Lo (vi i :: vr s1 j1 :: r) h := by
  intro ad H locs ls hR
  have K := K ad H locs ls (hR.stk (okS_l (okS_tl (okS_tl hR.okst))))
  have h9 := kdx_o hk (by decide)
  rw [kdx_lo h9] at hk
  rw [len_lo h9] at hin
  have he := wsh_at (ad := ad) (sp := sp) (cA := cA) (hR.live1 h9)
  rw [ent_arr (by rw [hk]; decide)] at he
  simp only [entA, hk] at he
  exact va_lald C.1 C.2.1 C.hK hR.hP _ 1 he rfl (inA_in hin) hd K
theorem in_lt {i : Int32} {n : Nat} (h : inA i n = true) : i.toNatClampNeg < n := Nat.not_le.mp fun q => inA_in h (Or.inr q)
theorem s_aaload (C : Cx p R s m args meth c y D A Dg cA sp Lx xs) {s1 j1 a b : Nat} {i : Int32} (hk : kdx s1 = 24) (hin : inA i (len h s1 j1) = true) (hr : h.2.2.2 s1 j1 i.toNatClampNeg = some (a, b)) (hd : decode (yCd y) pc = .ok (.aaload, 1)) (K : Wq p l e R s m args below meth c y A Dg cA sp n0 ad0 Lx xs Q cc ss (pc + 1) Lo (vr a b :: r) h) : Wq p l e R s m args below meth c y A Dg cA sp n0 ad0 Lx xs Q cc ss pc Lo (vi i :: vr s1 j1 :: r) h := by
  intro ad H locs ls hR
  have h9 := kdx_o hk (by decide)
  rw [kdx_lo h9] at hk
  rw [len_lo h9] at hin
  have hq := hR.live1 h9
  have h10 : 10 < s1 := by
    rcases Nat.lt_or_ge 10 s1 with z | z
    · exact z
    · rw [kd_lo z] at hk; omega
  have K := K ad H locs ls (hR.stk (okS_cons (live_val hR.hH.1 hq (Or.inr ⟨h10, hk, in_lt hin⟩) hr) (okS_tl (okS_tl hR.okst))))
  have he := wsh_at (ad := ad) (sp := sp) (cA := cA) hq
  rw [ent_arr (by rw [hk]; decide)] at he
  simp only [entA, hk] at he
  refine va_aldq (C := "HeldTillSet$Shelf") C.1 C.2.1 C.hK hR.hP _ 4 he rfl (inA_in hin) hd ?_
  show W p l e R s m args below meth c H locs cc ss Q (F0 m (pc + 1) ls (va_rf ((h.2.2.2 s1 j1 i.toNatClampNeg).map (rho ad sp)) :: r.map (emV ad sp)))
  rw [hr]
  exact K
theorem updI_upd {I : IM} {s j k : Nat} {v : Int32} : updI I s j k v s j = upd (I s j) k v := by
  rw [updI_eq]; rfl
theorem s_iastore (C : Cx p R s m args meth c y D A Dg cA sp Lx xs) {s1 j1 : Nat} {i x : Int32} (hs : s1 ≤ 84) (hk : kd s1 = 20) (hin : inA i (LENf s1 j1) = true) (hd : decode (yCd y) pc = .ok (.iastore, 1)) (K : Wq p l e R s m args below meth c y A Dg cA sp n0 ad0 Lx xs Q cc ss (pc + 1) Lo r (h.1, updI h.2.1 s1 j1 i.toNatClampNeg (x), h.2.2)) : Wq p l e R s m args below meth c y A Dg cA sp n0 ad0 Lx xs Q cc ss pc Lo (vi x :: vi i :: vr s1 j1 :: r) h := by
  intro ad H locs ls hR
  have hq := hR.live2 (show s1 < 900 by omega)
  have he := wsh_at (ad := ad) (sp := sp) (cA := cA) hq
  rw [ent_arr (by rw [hk]; decide)] at he
  simp only [entA, hk] at he
  have hset := wsh_set (h := h) (h' := (h.1, updI h.2.1 s1 j1 i.toNatClampNeg (x), h.2.2)) (ad := ad) (sp := sp) (cA := cA) (e' := .inl (cA 20, LENf s1 j1, .inl (upd (h.2.1 s1 j1) i.toNatClampNeg (x)))) rfl hq (by rw [ent_arr (by rw [hk]; decide)]; simp only [entA, hk, updI_upd]; rfl) (fun q' _ hne => ent_same (h := h) (updI_ne hne) rfl rfl)
  refine va_iast C.1 C.2.1 C.hK hR.hP hR.hD hR.hS _ 0 he rfl (inA_in hin) hd (fun H1 locs1 hP hD hS => ?_)
  · rw [hset] at hP hD
    exact K ad H1 locs1 ls (hR.wrote rfl (okS_tl (okS_tl (okS_tl hR.okst))) hP hD (HO_I (by omega) hR.hH) hS)
theorem s_bastore (C : Cx p R s m args meth c y D A Dg cA sp Lx xs) {s1 j1 : Nat} {i x : Int32} (hs : s1 ≤ 84) (hk : kd s1 = 22) (hin : inA i (LENf s1 j1) = true) (hd : decode (yCd y) pc = .ok (.bastore, 1)) (K : Wq p l e R s m args below meth c y A Dg cA sp n0 ad0 Lx xs Q cc ss (pc + 1) Lo r (h.1, updI h.2.1 s1 j1 i.toNatClampNeg (x.toInt8.toInt32), h.2.2)) : Wq p l e R s m args below meth c y A Dg cA sp n0 ad0 Lx xs Q cc ss pc Lo (vi x :: vi i :: vr s1 j1 :: r) h := by
  intro ad H locs ls hR
  have hq := hR.live2 (show s1 < 900 by omega)
  have he := wsh_at (ad := ad) (sp := sp) (cA := cA) hq
  rw [ent_arr (by rw [hk]; decide)] at he
  simp only [entA, hk] at he
  have hset := wsh_set (h := h) (h' := (h.1, updI h.2.1 s1 j1 i.toNatClampNeg (x.toInt8.toInt32), h.2.2)) (ad := ad) (sp := sp) (cA := cA) (e' := .inl (cA 22, LENf s1 j1, .inl (upd (h.2.1 s1 j1) i.toNatClampNeg (x.toInt8.toInt32)))) rfl hq (by rw [ent_arr (by rw [hk]; decide)]; simp only [entA, hk, updI_upd]; rfl) (fun q' _ hne => ent_same (h := h) (updI_ne hne) rfl rfl)
  refine va_bast C.1 C.2.1 C.hK hR.hP hR.hD hR.hS _ 2 he rfl (inA_in hin) hd (fun H1 locs1 hP hD hS => ?_)
  rw [vp_nar_byte] at hP hD
  · rw [hset] at hP hD
    exact K ad H1 locs1 ls (hR.wrote rfl (okS_tl (okS_tl (okS_tl hR.okst))) hP hD (HO_I (by omega) hR.hH) hS)
theorem s_sastore (C : Cx p R s m args meth c y D A Dg cA sp Lx xs) {s1 j1 : Nat} {i x : Int32} (hs : s1 ≤ 84) (hk : kd s1 = 23) (hin : inA i (LENf s1 j1) = true) (hd : decode (yCd y) pc = .ok (.sastore, 1)) (K : Wq p l e R s m args below meth c y A Dg cA sp n0 ad0 Lx xs Q cc ss (pc + 1) Lo r (h.1, updI h.2.1 s1 j1 i.toNatClampNeg (x.toInt16.toInt32), h.2.2)) : Wq p l e R s m args below meth c y A Dg cA sp n0 ad0 Lx xs Q cc ss pc Lo (vi x :: vi i :: vr s1 j1 :: r) h := by
  intro ad H locs ls hR
  have hq := hR.live2 (show s1 < 900 by omega)
  have he := wsh_at (ad := ad) (sp := sp) (cA := cA) hq
  rw [ent_arr (by rw [hk]; decide)] at he
  simp only [entA, hk] at he
  have hset := wsh_set (h := h) (h' := (h.1, updI h.2.1 s1 j1 i.toNatClampNeg (x.toInt16.toInt32), h.2.2)) (ad := ad) (sp := sp) (cA := cA) (e' := .inl (cA 23, LENf s1 j1, .inl (upd (h.2.1 s1 j1) i.toNatClampNeg (x.toInt16.toInt32)))) rfl hq (by rw [ent_arr (by rw [hk]; decide)]; simp only [entA, hk, updI_upd]; rfl) (fun q' _ hne => ent_same (h := h) (updI_ne hne) rfl rfl)
  refine va_sast C.1 C.2.1 C.hK hR.hP hR.hD hR.hS _ 3 he rfl (inA_in hin) hd (fun H1 locs1 hP hD hS => ?_)
  rw [vp_nar_short] at hP hD
  · rw [hset] at hP hD
    exact K ad H1 locs1 ls (hR.wrote rfl (okS_tl (okS_tl (okS_tl hR.okst))) hP hD (HO_I (by omega) hR.hH) hS)
theorem updJ_upd {I : JM} {s j k : Nat} {v : Int64} : updJ I s j k v s j = vp_updL (I s j) k v := by
  rw [updJ_eq]; rfl
theorem HO_J {h : AH} {n0 Lx : Nat} {xs : Nat → Int32} {J : JM} (hH : HO h n0 Lx xs) : HO (h.1, h.2.1, J, h.2.2.2) n0 Lx xs := hH
theorem s_lastore (C : Cx p R s m args meth c y D A Dg cA sp Lx xs) {s1 j1 : Nat} {i : Int32} {x : Int64} (hs : s1 ≤ 84) (hk : kd s1 = 21) (hin : inA i (LENf s1 j1) = true) (hd : decode (yCd y) pc = .ok (.lastore, 1)) (K : Wq p l e R s m args below meth c y A Dg cA sp n0 ad0 Lx xs Q cc ss (pc + 1) Lo r (h.1, h.2.1, updJ h.2.2.1 s1 j1 i.toNatClampNeg x, h.2.2.2)) : Wq p l e R s m args below meth c y A Dg cA sp n0 ad0 Lx xs Q cc ss pc Lo (vl x :: vi i :: vr s1 j1 :: r) h := by
  intro ad H locs ls hR
  have hq := hR.live2 (show s1 < 900 by omega)
  have he := wsh_at (ad := ad) (sp := sp) (cA := cA) hq
  rw [ent_arr (by rw [hk]; decide)] at he
  simp only [entA, hk] at he
  have hset := wsh_set (h := h) (h' := (h.1, h.2.1, updJ h.2.2.1 s1 j1 i.toNatClampNeg x, h.2.2.2)) (ad := ad) (sp := sp) (cA := cA) (e' := .inl (cA 21, LENf s1 j1, .inr (.inl (vp_updL (h.2.2.1 s1 j1) i.toNatClampNeg x)))) rfl hq (by rw [ent_arr (by rw [hk]; decide)]; simp only [entA, hk, updJ_upd]; rfl) (fun q' _ hne => ent_same (h := h) rfl (updJ_ne hne) rfl)
  refine va_last C.1 C.2.1 C.hK hR.hP hR.hD hR.hS _ 1 he rfl (inA_in hin) hd (fun H1 locs1 hP hD hS => ?_)
  rw [hset] at hP hD
  exact K ad H1 locs1 ls (hR.wrote rfl (okS_tl (okS_tl (okS_tl hR.okst))) hP hD (HO_J hR.hH) hS)
theorem s_aastore (C : Cx p R s m args meth c y D A Dg cA sp Lx xs) {s1 j1 b : Nat} {i : Int32} (hs : s1 ≤ 84) (hk : kd s1 = 24) (hin : inA i (LENf s1 j1) = true) (hd : decode (yCd y) pc = .ok (.aastore, 1)) (K : Wq p l e R s m args below meth c y A Dg cA sp n0 ad0 Lx xs Q cc ss (pc + 1) Lo r (h.1, h.2.1, h.2.2.1, updR h.2.2.2 s1 j1 i.toNatClampNeg (some (6, b)))) : Wq p l e R s m args below meth c y A Dg cA sp n0 ad0 Lx xs Q cc ss pc Lo (vr 6 b :: vi i :: vr s1 j1 :: r) h := by
  intro ad H locs ls hR
  have hq := hR.live2 (show s1 < 900 by omega)
  have hqv : liveQ h (6, b) := hR.live (by decide)
  have he := wsh_at (ad := ad) (sp := sp) (cA := cA) hq
  have hv := wsh_at (ad := ad) (sp := sp) (cA := cA) hqv
  rw [ent_obj (by decide)] at hv
  rw [ent_arr (by rw [hk]; decide)] at he
  simp only [entA, hk] at he
  have hset := wsh_set (h := h) (h' := (h.1, h.2.1, h.2.2.1, updR h.2.2.2 s1 j1 i.toNatClampNeg (some (6, b)))) (ad := ad) (sp := sp) (cA := cA) (e' := .inl (cA 24, LENf s1 j1, .inr (.inr (.inr (.inr (va_up (fun k => (h.2.2.2 s1 j1 k).map (rho ad sp)) i.toNatClampNeg (some (rho ad sp (6, b))))))))) rfl hq (by
    rw [ent_arr (by rw [hk]; decide)]
    have e : (fun k => Option.map (rho ad sp) (updR h.2.2.2 s1 j1 i.toNatClampNeg (some (6, b)) s1 j1 k)) = va_up (fun k => (h.2.2.2 s1 j1 k).map (rho ad sp)) i.toNatClampNeg (some (rho ad sp (6, b))) := by
      rw [updR_eq]
      funext k
      simp only [va_up]
      split <;> rfl
    simp only [entA, hk]
    rw [if_neg (by decide), if_pos trivial, e]) (fun q' _ hne => ent_same (h := h) rfl rfl (updR_ne hne))
  refine va_astq (r := (RXf 6, TXf 6, nfl 6)) C.1 C.2.1 C.hK hR.hP hR.hD hR.hS _ 4 _ 6 he rfl hv (cl_at (by decide)) (inA_in hin) hd (fun H1 locs1 hP hD hS => ?_)
  rw [hset] at hP hD
  exact K ad H1 locs1 ls (hR.wrote rfl (okS_tl (okS_tl (okS_tl hR.okst))) hP hD (HO_R hqv hR.hH) hS)
theorem s_alen (C : Cx p R s m args meth c y D A Dg cA sp Lx xs) {s1 j1 : Nat} (hk : 20 ≤ kdx s1) (hk2 : kdx s1 ≤ 24) (hd : decode (yCd y) pc = .ok (.arraylength, 1)) (K : Wq p l e R s m args below meth c y A Dg cA sp n0 ad0 Lx xs Q cc ss (pc + 1) Lo (vi (Int32.ofNat (len h s1 j1)) :: r) h) : Wq p l e R s m args below meth c y A Dg cA sp n0 ad0 Lx xs Q cc ss pc Lo (vr s1 j1 :: r) h := by
  intro ad H locs ls hR
  have K := K ad H locs ls (hR.stk (okS_i (okS_tl hR.okst)))
  have hc : kdx s1 = 20 ∨ kdx s1 = 21 ∨ kdx s1 = 22 ∨ kdx s1 = 23 ∨ kdx s1 = 24 := by omega
  rcases Nat.lt_or_ge s1 900 with h9 | h9
  · rw [kdx_lo h9] at hc
    rw [len_lo h9] at K
    have he := wsh_at (ad := ad) (sp := sp) (cA := cA) (hR.live h9)
    rw [ent_arr (by rw [kdx_lo h9] at hk; exact hk)] at he
    rcases hc with hc | hc | hc | hc | hc <;> simp only [entA, hc] at he
    · exact va_alen C.1 C.2.1 C.hK hR.hP _ 0 he rfl rfl hd K
    · exact va_alen C.1 C.2.1 C.hK hR.hP _ 1 he rfl rfl hd K
    · exact va_alen C.1 C.2.1 C.hK hR.hP _ 2 he rfl rfl hd K
    · exact va_alen C.1 C.2.1 C.hK hR.hP _ 3 he rfl rfl hd K
    · exact va_alen C.1 C.2.1 C.hK hR.hP _ 4 he rfl rfl hd K
  · have K' := K
    show W p l e R s m args below meth c H locs cc ss Q (F0 m pc ls (.ref (rho ad sp (s1, j1)) :: r.map (emV ad sp)))
    rw [rho_sp h9]
    rcases hc with hc | hc | hc | hc | hc
    · exact va_tlen C.1 C.2.1 (stat_arr (j1 := j1) C.hS hR.hH h9 hc) hR.hS rfl hd K
    · exact absurd (kdx_o hc (by decide)) (by omega)
    · have e9 := kdx_b h9 hc
      subst e9
      obtain ⟨-, -, -, -, -, -, -, -, -, -, -, -, -, hT, -⟩ := C.hS
      exact va_tlen C.1 C.2.1 hT hR.hS rfl hd K
    · exact absurd (kdx_o hc (by decide)) (by omega)
    · exact absurd (kdx_o hc (by decide)) (by omega)
theorem okV_sp {h : AH} {a : Nat} (ha : 900 ≤ a) : okV h (vr a 0) := fun q z => by cases z; exact Or.inl ha
theorem s_gets (C : Cx p R s m args meth c y D A Dg cA sp Lx xs) {i a : Nat} (ha : a = 900 ∨ a = 901 ∨ a = 902 ∨ a = 903) (hw : (.fieldLink (own y) i (statN a).1 (statN a).2.1 (statN a).2.2 : Jvm.Cond) ∈ wsAll) (hd : decode (yCd y) pc = .ok (.getstatic i, 3)) (K : Wq p l e R s m args below meth c y A Dg cA sp n0 ad0 Lx xs Q cc ss (pc + 3) Lo (vr a 0 :: st) h) : Wq p l e R s m args below meth c y A Dg cA sp n0 ad0 Lx xs Q cc ss pc Lo st h := by
  intro ad H locs ls hR
  have K := K ad H locs ls (hR.stk (okS_cons (okV_sp (by omega)) hR.okst))
  obtain ⟨z0, -, z1, -, z2, -, z3, -⟩ := C.hS
  rcases ha with rfl | rfl | rfl | rfl
  · exact va_gets C.1 C.2.1 z0 hR.hS C.2.2.2.1 (C.hts _ hw) (fun x hx => hx) hd K
  · exact va_gets C.1 C.2.1 z1 hR.hS C.2.2.2.1 (C.hts _ hw) (fun x hx => hx) hd K
  · exact va_gets C.1 C.2.1 z2 hR.hS C.2.2.2.1 (C.hts _ hw) (fun x hx => hx) hd K
  · exact va_gets C.1 C.2.1 z3 hR.hS C.2.2.2.1 (C.hts _ hw) (fun x hx => hx) hd K
theorem s_getc (C : Cx p R s m args meth c y D A Dg cA sp Lx xs) {i : Nat} (hw : (.fieldLink (own y) i (statN 980).1 (statN 980).2.1 (statN 980).2.2 : Jvm.Cond) ∈ wsAll) (hd : decode (yCd y) pc = .ok (.getstatic i, 3)) (K : Wq p l e R s m args below meth c y A Dg cA sp n0 ad0 Lx xs Q cc ss (pc + 3) Lo (vi 1 :: st) h) : Wq p l e R s m args below meth c y A Dg cA sp n0 ad0 Lx xs Q cc ss pc Lo st h := by
  intro ad H locs ls hR
  have K := K ad H locs ls (hR.stk (okS_i hR.okst))
  obtain ⟨-, -, -, -, -, -, -, -, z, -⟩ := C.hS
  exact va_gets C.1 C.2.1 z hR.hS C.2.2.2.1 (C.hts _ hw) (fun x hx => hx) hd K
theorem s_ldcS (C : Cx p R s m args meth c y D A Dg cA sp Lx xs) (ho : own y = "HeldTillSet$Law") (hd : decode (yCd y) pc = .ok (.ldc 73, 2)) (K : Wq p l e R s m args below meth c y A Dg cA sp n0 ad0 Lx xs Q cc ss (pc + 2) Lo (vr 990 0 :: st) h) : Wq p l e R s m args below meth c y A Dg cA sp n0 ad0 Lx xs Q cc ss pc Lo st h := by
  intro ad H locs ls hR
  have K := K ad H locs ls (hR.stk (okS_cons (okV_sp (by decide)) hR.okst))
  obtain ⟨-, -, -, -, -, -, -, -, -, z, -⟩ := C.hS
  exact va_ldcS C.1 C.2.1 (by rw [← ho]; exact C.2.2.2.1) z hd K
theorem s_strV (C : Cx p R s m args meth c y D A Dg cA sp Lx xs) {i j : Nat} (hw : (.fieldLink (own y) i "java/lang/String" "value" "[B" : Jvm.Cond) ∈ wsAll) (hd : decode (yCd y) pc = .ok (.getfield i, 3)) (K : Wq p l e R s m args below meth c y A Dg cA sp n0 ad0 Lx xs Q cc ss (pc + 3) Lo (vr 991 0 :: r) h) : Wq p l e R s m args below meth c y A Dg cA sp n0 ad0 Lx xs Q cc ss pc Lo (vr 990 j :: r) h := by
  intro ad H locs ls hR
  have K := K ad H locs ls (hR.stk (okS_cons (okV_sp (by decide)) (okS_tl hR.okst)))
  obtain ⟨-, -, -, -, -, -, -, -, -, -, -, -, z, -⟩ := C.hS
  exact vk_getf C.1 C.2.1 z hR.hS C.2.2.2.1 (C.hts _ hw) (fun x hx => hx) hd K
theorem s_strC (C : Cx p R s m args meth c y D A Dg cA sp Lx xs) {i j : Nat} (hw : (.fieldLink (own y) i "java/lang/String" "coder" "B" : Jvm.Cond) ∈ wsAll) (hd : decode (yCd y) pc = .ok (.getfield i, 3)) (K : Wq p l e R s m args below meth c y A Dg cA sp n0 ad0 Lx xs Q cc ss (pc + 3) Lo (vi 0 :: r) h) : Wq p l e R s m args below meth c y A Dg cA sp n0 ad0 Lx xs Q cc ss pc Lo (vr 990 j :: r) h := by
  intro ad H locs ls hR
  have K := K ad H locs ls (hR.stk (okS_i (okS_tl hR.okst)))
  obtain ⟨-, -, -, -, -, -, -, -, -, -, -, z, -⟩ := C.hS
  exact vk_getf C.1 C.2.1 z hR.hS C.2.2.2.1 (C.hts _ hw) (fun x hx => hx) hd K
theorem s_objI (C : Cx p R s m args meth c y D A Dg cA sp Lx xs) {i a b : Nat} (hc : catS r ≤ 8) (hw : (.methodLink (own y) i Lib.objectInit : Jvm.Cond) ∈ wsAll) (hd : decode (yCd y) pc = .ok (.invokespecial i, 3)) (K : Wq p l e R s m args below meth c y A Dg cA sp n0 ad0 Lx xs Q cc ss (pc + 3) Lo r h) : Wq p l e R s m args below meth c y A Dg cA sp n0 ad0 Lx xs Q cc ss pc Lo (vr a b :: r) h := by
  intro ad H locs ls hR
  have K := K ad H locs ls (hR.stk (okS_tl hR.okst))
  refine W.objInit C.1 C.2.1 C.2.2.2.1 (C.hts _ hw) (C.hts _ w_oi1) (C.hts _ w_oi2) rfl (hR.1.1.trans C.2.2.1.symm) rfl hd ?_ ?_ K
  · have := C.2.2.2.2.2.2.2.2.1; omega
  · have h1 := C.2.2.2.2.2.2.2.2.2.1
    have h2 := catS_em (ad := ad) (sp := sp) r
    show 2 * 0 + ((r.map (emV ad sp)).map fun v => v.category).sum + 12 ≤ R.locals
    omega
theorem s_mmax (C : Cx p R s m args meth c y D A Dg cA sp Lx xs) {i : Nat} {a b : Int32} (hc : catS r ≤ 8) (hw : (.methodLink (own y) i Lib.Math.max.name : Jvm.Cond) ∈ wsAll) (h1 : cc ≤ R.cells) (h2 : ss ≤ R.slots) (hd : decode (yCd y) pc = .ok (.invokestatic i, 3)) (K : Wq p l e R s m args below meth c y A Dg cA sp n0 ad0 Lx xs Q cc ss (pc + 3) Lo (vi (if a < b then b else a) :: r) h) : Wq p l e R s m args below meth c y A Dg cA sp n0 ad0 Lx xs Q cc ss pc Lo (vi b :: vi a :: r) h := by
  intro ad H locs ls hR
  have K := K ad H locs ls (hR.stk (okS_i (okS_tl (okS_tl hR.okst))))
  refine va_mmax C.1 C.2.1 (C.2.2.1.trans hR.1.1.symm) C.2.2.2.1 (C.hts _ hw) (C.hts _ w_mx1) (C.hts _ w_im) (C.hts _ w_mx2) ?_ ?_ h1 h2 hd K
  · have := C.2.2.2.2.2.2.2.2.1; omega
  · have h3 := C.2.2.2.2.2.2.2.2.2.1
    have h4 := catS_em (ad := ad) (sp := sp) r
    omega
theorem s_mmin (C : Cx p R s m args meth c y D A Dg cA sp Lx xs) {i : Nat} {a b : Int32} (hc : catS r ≤ 8) (hw : (.methodLink (own y) i Lib.Math.min.name : Jvm.Cond) ∈ wsAll) (h1 : cc ≤ R.cells) (h2 : ss ≤ R.slots) (hd : decode (yCd y) pc = .ok (.invokestatic i, 3)) (K : Wq p l e R s m args below meth c y A Dg cA sp n0 ad0 Lx xs Q cc ss (pc + 3) Lo (vi (if b < a then b else a) :: r) h) : Wq p l e R s m args below meth c y A Dg cA sp n0 ad0 Lx xs Q cc ss pc Lo (vi b :: vi a :: r) h := by
  intro ad H locs ls hR
  have K := K ad H locs ls (hR.stk (okS_i (okS_tl (okS_tl hR.okst))))
  refine va_mmin C.1 C.2.1 (C.2.2.1.trans hR.1.1.symm) C.2.2.2.1 (C.hts _ hw) (C.hts _ w_mn1) (C.hts _ w_im) (C.hts _ w_mn2) ?_ ?_ h1 h2 hd K
  · have := C.2.2.2.2.2.2.2.2.1; omega
  · have h3 := C.2.2.2.2.2.2.2.2.2.1
    have h4 := catS_em (ad := ad) (sp := sp) r
    omega
end SNA
