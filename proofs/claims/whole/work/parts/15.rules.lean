/-! RULES THAT THE TREES USE -/
/-- what comes back from a call: an int, nothing, a long; the references stand -/
def RIf (b : Bool) (T : Int32 → IM → JM → Prop) : Option AV → AH → Prop := fun r h => ∃ (x : Int32) (I : IM) (J : JM), r = some (vi x) ∧ h = (101, I, J, R0 b) ∧ T x I J
def RVf (b : Bool) (T : IM → JM → Prop) : Option AV → AH → Prop := fun r h => ∃ (I : IM) (J : JM), r = none ∧ h = (101, I, J, R0 b) ∧ T I J
def RLf (b : Bool) (T : Int64 → IM → JM → Prop) : Option AV → AH → Prop := fun r h => ∃ (x : Int64) (I : IM) (J : JM), r = some (vl x) ∧ h = (101, I, J, R0 b) ∧ T x I J
def RIB (T : Int32 → IM → JM → Bool → Prop) : Option AV → AH → Prop := fun r h => ∃ (x : Int32) (I : IM) (J : JM) (b : Bool), r = some (vi x) ∧ h = (101, I, J, R0 b) ∧ T x I J b
def RVB (T : IM → JM → Bool → Prop) : Option AV → AH → Prop := fun r h => ∃ (I : IM) (J : JM) (b : Bool), r = none ∧ h = (101, I, J, R0 b) ∧ T I J b
theorem not_dec {x : Int32} (h : ¬ x = 0) : (!(decide (x = 0))) = true := by simp [h]
theorem WP.g2 {D y pc pc' : Nat} {L st L' st' : List AV} {h h' : AH} {K : Option AV → AH → Prop} {e : AE} {b : Bool} (he : tbl y pc = some e) (hb : b = true) (hs : amI f00 y e 0 0 pc (mkL (eM e) L) st h = gd b (some (.inr (0, 0, pc', L', st', h')))) (w : WP D y pc' L' st' h' K) : WP D y pc L st h K :=
  WP.step he (hs.trans (gd_t hb)) w
theorem iaload_ok {f : Nat → List AV → AH → Option (Option AV × AH)} {y : Nat} {e : AE} {pc n : Nat} {L r : List AV} {s1 j1 : Nat} {i : Int32} {h : AH} (hi : eI e = .iaload) (hk : Nat.beq (kdx s1) 20 = true) (hl : len h s1 j1 = n) (hin : inA i n = true) : amI f y e 0 0 pc L (vi i :: vr s1 j1 :: r) h = some (.inr (0, 0, pc + 1, L, vi (rdI h.2.1 s1 j1 i.toNatClampNeg) :: r, h)) := by
  unfold amI
  rw [hi]
  simp only [pI, pR]
  rw [hl, gd_t hk, gd_t hin]
  rfl
theorem baload_ok {f : Nat → List AV → AH → Option (Option AV × AH)} {y : Nat} {e : AE} {pc n : Nat} {L r : List AV} {s1 j1 : Nat} {i : Int32} {h : AH} (hi : eI e = .baload) (hk : Nat.beq (kdx s1) 22 = true) (hl : len h s1 j1 = n) (hin : inA i n = true) : amI f y e 0 0 pc L (vi i :: vr s1 j1 :: r) h = some (.inr (0, 0, pc + 1, L, vi (rdI h.2.1 s1 j1 i.toNatClampNeg) :: r, h)) := by
  unfold amI
  rw [hi]
  simp only [pI, pR]
  rw [hl, gd_t hk, gd_t hin]
  rfl
theorem saload_ok {f : Nat → List AV → AH → Option (Option AV × AH)} {y : Nat} {e : AE} {pc n : Nat} {L r : List AV} {s1 j1 : Nat} {i : Int32} {h : AH} (hi : eI e = .saload) (hk : Nat.beq (kdx s1) 23 = true) (hl : len h s1 j1 = n) (hin : inA i n = true) : amI f y e 0 0 pc L (vi i :: vr s1 j1 :: r) h = some (.inr (0, 0, pc + 1, L, vi (h.2.1 s1 j1 i.toNatClampNeg) :: r, h)) := by
  unfold amI
  rw [hi]
  simp only [pI, pR]
  rw [hl, gd_t hk, gd_t hin]
  rfl
theorem laload_ok {f : Nat → List AV → AH → Option (Option AV × AH)} {y : Nat} {e : AE} {pc n : Nat} {L r : List AV} {s1 j1 : Nat} {i : Int32} {h : AH} (hi : eI e = .laload) (hk : Nat.beq (kdx s1) 21 = true) (hl : len h s1 j1 = n) (hin : inA i n = true) : amI f y e 0 0 pc L (vi i :: vr s1 j1 :: r) h = some (.inr (0, 0, pc + 1, L, vl (h.2.2.1 s1 j1 i.toNatClampNeg) :: r, h)) := by
  unfold amI
  rw [hi]
  simp only [pI, pR]
  rw [hl, gd_t hk, gd_t hin]
  rfl
theorem aaload_ok {f : Nat → List AV → AH → Option (Option AV × AH)} {y : Nat} {e : AE} {pc n : Nat} {L r : List AV} {s1 j1 : Nat} {i : Int32} {h : AH} {a b : Nat} (hi : eI e = .aaload) (hk : Nat.beq (kdx s1) 24 = true) (hl : len h s1 j1 = n) (hr : h.2.2.2 s1 j1 i.toNatClampNeg = some (a, b)) (hin : inA i n = true) : amI f y e 0 0 pc L (vi i :: vr s1 j1 :: r) h = some (.inr (0, 0, pc + 1, L, vr a b :: r, h)) := by
  unfold amI
  rw [hi]
  simp only [pI, pR]
  rw [hl, gd_t hk, gd_t hin, hr]
  rfl
theorem iastore_ok {f : Nat → List AV → AH → Option (Option AV × AH)} {y : Nat} {e : AE} {pc n : Nat} {L r : List AV} {s1 j1 : Nat} {i : Int32} {x : Int32} {h : AH} (hi : eI e = .iastore) (hk : (Nat.ble s1 84 && Nat.beq (kd s1) 20) = true) (hl : LENf s1 j1 = n) (hin : inA i n = true) : amI f y e 0 0 pc L (vi x :: vi i :: vr s1 j1 :: r) h = some (.inr (0, 0, pc + 1, L, r, (h.1, updI h.2.1 s1 j1 i.toNatClampNeg x, h.2.2))) := by
  unfold amI
  rw [hi]
  simp only [pI, pR, pJ]
  rw [hl, gd_t hk, gd_t hin]
  rfl
theorem bastore_ok {f : Nat → List AV → AH → Option (Option AV × AH)} {y : Nat} {e : AE} {pc n : Nat} {L r : List AV} {s1 j1 : Nat} {i : Int32} {x : Int32} {h : AH} (hi : eI e = .bastore) (hk : (Nat.ble s1 84 && Nat.beq (kd s1) 22) = true) (hl : LENf s1 j1 = n) (hin : inA i n = true) : amI f y e 0 0 pc L (vi x :: vi i :: vr s1 j1 :: r) h = some (.inr (0, 0, pc + 1, L, r, (h.1, updI h.2.1 s1 j1 i.toNatClampNeg x.toInt8.toInt32, h.2.2))) := by
  unfold amI
  rw [hi]
  simp only [pI, pR, pJ]
  rw [hl, gd_t hk, gd_t hin]
  rfl
theorem sastore_ok {f : Nat → List AV → AH → Option (Option AV × AH)} {y : Nat} {e : AE} {pc n : Nat} {L r : List AV} {s1 j1 : Nat} {i : Int32} {x : Int32} {h : AH} (hi : eI e = .sastore) (hk : (Nat.ble s1 84 && Nat.beq (kd s1) 23) = true) (hl : LENf s1 j1 = n) (hin : inA i n = true) : amI f y e 0 0 pc L (vi x :: vi i :: vr s1 j1 :: r) h = some (.inr (0, 0, pc + 1, L, r, (h.1, updI h.2.1 s1 j1 i.toNatClampNeg x.toInt16.toInt32, h.2.2))) := by
  unfold amI
  rw [hi]
  simp only [pI, pR, pJ]
  rw [hl, gd_t hk, gd_t hin]
  rfl
theorem lastore_ok {f : Nat → List AV → AH → Option (Option AV × AH)} {y : Nat} {e : AE} {pc n : Nat} {L r : List AV} {s1 j1 : Nat} {i : Int32} {x : Int64} {h : AH} (hi : eI e = .lastore) (hk : (Nat.ble s1 84 && Nat.beq (kd s1) 21) = true) (hl : LENf s1 j1 = n) (hin : inA i n = true) : amI f y e 0 0 pc L (vl x :: vi i :: vr s1 j1 :: r) h = some (.inr (0, 0, pc + 1, L, r, (h.1, h.2.1, updJ h.2.2.1 s1 j1 i.toNatClampNeg x, h.2.2.2))) := by
  unfold amI
  rw [hi]
  simp only [pI, pR, pJ]
  rw [hl, gd_t hk, gd_t hin]
  rfl
theorem WP.retg {D y pc : Nat} {L st : List AV} {h h' : AH} {K : Option AV → AH → Prop} {e : AE} {rv : Option AV} {b : Bool} (he : tbl y pc = some e) (hb : b = true) (hs : amI f00 y e 0 0 pc (mkL (eM e) L) st h = gd b (some (.inl (rv, h')))) (k : K rv h') : WP D y pc L st h K :=
  WP.ret he (hs.trans (gd_t hb)) k
theorem callI_ok {f : Nat → List AV → AH → Option (Option AV × AH)} {y : Nat} {e : AE} {pc : Nat} {L as rest : List AV} {h h' : AH} {r : Option AV} (hf : f (eA e) as h = some (r, h')) (b3 : Nat.ble (eA e) 259 = true) (b4 : Nat.ble (catS rest) 8 = true) (b5 : MCf (eA e) = 0) (b6 : MSf (eA e) = 0) : amCallI f y e 0 0 pc L as rest h = some (.inr (0, 0, pc + 3, L, r.toList ++ rest, h')) := by
  unfold amCallI
  rw [gd_t (by rw [b3, b4, b5, b6]; rfl), hf]
  cases r with
  | none => dsimp only; rw [b5, b6]; rfl
  | some v => dsimp only; rw [b5, b6]; rfl
theorem callV_ok {f : Nat → List AV → AH → Option (Option AV × AH)} {y : Nat} {e : AE} {pc i : Nat} {L st as rest : List AV} {s1 j1 : Nat} {h h' : AH} {r : Option AV} (hf : f (eA e) (vr s1 j1 :: as) h = some (r, h')) (hi : eI e = .invokevirtual i) (hp : popN (eB e) st [] = some (as, vr s1 j1 :: rest)) (hb : (Nat.beq (eC e) 1 && (Nat.beq (kdr s1) (rcv (eA e)) && (Nat.ble (eA e) 259 && (Nat.ble (catS rest) 8 && (Nat.beq (MCf (eA e)) 0 && Nat.beq (MSf (eA e)) 0))))) = true) : amI f y e 0 0 pc L st h = some (.inr (0, 0, pc + 3, L, r.toList ++ rest, h')) := by
  simp only [Bool.and_eq_true, nb_iff] at hb
  obtain ⟨b1, b2, b3, b4, b5, b6⟩ := hb
  unfold amI
  rw [hi]
  dsimp only
  rw [gd_t (nb_iff.mpr b1)]
  unfold amCallV
  rw [hp]
  dsimp only
  rw [gd_t (nb_iff.mpr b2)]
  exact callI_ok hf b3 b4 b5 b6
theorem callS_ok {f : Nat → List AV → AH → Option (Option AV × AH)} {y : Nat} {e : AE} {pc i : Nat} {L st as rest : List AV} {h h' : AH} {r : Option AV} (hf : f (eA e) as h = some (r, h')) (hi : eI e = .invokestatic i) (hp : popN (eB e) st [] = some (as, rest)) (hb : (Nat.beq (eC e) 0 && (Nat.ble (eA e) 259 && (Nat.ble (catS rest) 8 && (Nat.beq (MCf (eA e)) 0 && Nat.beq (MSf (eA e)) 0)))) = true) : amI f y e 0 0 pc L st h = some (.inr (0, 0, pc + 3, L, r.toList ++ rest, h')) := by
  simp only [Bool.and_eq_true, nb_iff] at hb
  obtain ⟨b1, b3, b4, b5, b6⟩ := hb
  unfold amI
  rw [hi]
  dsimp only
  rw [nb_iff.mpr b1]
  show amCallS f y e 0 0 pc L st h = _
  unfold amCallS
  rw [hp]
  exact callI_ok hf b3 b4 b5 b6
theorem nbf {a b : Nat} (h : a ≠ b) : Nat.beq a b = false := by rw [← Bool.not_eq_true, nb_iff]; exact h
theorem copyI_ok {f : Nat → List AV → AH → Option (Option AV × AH)} {y : Nat} {e : AE} {pc i : Nat} {L r : List AV} {s1 j1 s2 j2 : Nat} {sp dp n : Int32} {h : AH} (hi : eI e = .invokestatic i) (hc : eC e = 6) (hr : Nat.ble (catS r) 8 = true) (h1 : Nat.ble s1 84 = true) (h2 : (Nat.ble s2 84 && Nat.beq (kd s1) 20) = true) (h3 : Nat.beq (kd s2) 20 = true) (hh : ¬ sp < 0 ∧ ¬ dp < 0 ∧ ¬ n < 0 ∧ sp.toNatClampNeg + n.toNatClampNeg ≤ LENf s1 j1 ∧ dp.toNatClampNeg + n.toNatClampNeg ≤ LENf s2 j2) : amI f y e 0 0 pc L (vi n :: vi dp :: vr s2 j2 :: vi sp :: vr s1 j1 :: r) h = some (.inr (0, 0, pc + 3, L, r, (h.1, cpyI h.2.1 s1 j1 s2 j2 sp.toNatClampNeg dp.toNatClampNeg n.toNatClampNeg, h.2.2))) := by
  obtain ⟨a1, a2, a3, a4, a5⟩ := hh
  simp only [Bool.and_eq_true, nb_iff] at h2 h3
  unfold amI
  rw [hi]
  dsimp only
  rw [hc]
  simp only [show Nat.beq 6 0 = false from rfl, show Nat.beq 6 4 = false from rfl, show Nat.beq 6 5 = false from rfl, cond_false]
  rw [gd_t (b := Nat.beq 6 6) rfl]
  unfold amCopy
  simp only [pI, pR]
  rw [gd_t (by rw [hr, h1, h2.1, h2.2, h3]; simp [a1, a2, a3]), gd_t (by rw [Nat.ble_eq_true_of_le a4, Nat.ble_eq_true_of_le a5]; rfl), h2.2]
  rfl
theorem copyJ_ok {f : Nat → List AV → AH → Option (Option AV × AH)} {y : Nat} {e : AE} {pc i : Nat} {L r : List AV} {s1 j1 s2 j2 : Nat} {sp dp n : Int32} {h : AH} (hi : eI e = .invokestatic i) (hc : eC e = 6) (hr : Nat.ble (catS r) 8 = true) (h1 : Nat.ble s1 84 = true) (h2 : (Nat.ble s2 84 && Nat.beq (kd s1) 21) = true) (h3 : Nat.beq (kd s2) 21 = true) (hh : ¬ sp < 0 ∧ ¬ dp < 0 ∧ ¬ n < 0 ∧ sp.toNatClampNeg + n.toNatClampNeg ≤ LENf s1 j1 ∧ dp.toNatClampNeg + n.toNatClampNeg ≤ LENf s2 j2) : amI f y e 0 0 pc L (vi n :: vi dp :: vr s2 j2 :: vi sp :: vr s1 j1 :: r) h = some (.inr (0, 0, pc + 3, L, r, (h.1, h.2.1, cpyJ h.2.2.1 s1 j1 s2 j2 sp.toNatClampNeg dp.toNatClampNeg n.toNatClampNeg, h.2.2.2))) := by
  obtain ⟨a1, a2, a3, a4, a5⟩ := hh
  simp only [Bool.and_eq_true, nb_iff] at h2 h3
  unfold amI
  rw [hi]
  dsimp only
  rw [hc]
  simp only [show Nat.beq 6 0 = false from rfl, show Nat.beq 6 4 = false from rfl, show Nat.beq 6 5 = false from rfl, cond_false]
  rw [gd_t (b := Nat.beq 6 6) rfl]
  unfold amCopy
  simp only [pI, pR]
  rw [gd_t (by rw [hr, h1, h2.1, h2.2, h3]; simp [a1, a2, a3]), gd_t (by rw [Nat.ble_eq_true_of_le a4, Nat.ble_eq_true_of_le a5]; rfl), h2.2]
  rfl
theorem WP.icmp_eq {D y pc t : Nat} {L r L' : List AV} {h : AH} {K : Option AV → AH → Prop} {e : AE} {o : Int} {a b : Int32} {A B : Prop} (he : tbl y pc = some e) (hi : eI e = .if_icmp .eq o) (hA : eA e = t) (hL : mkL (eM e) L = L') (tr : if a = b then A else B) (h1 : A → WP D y t L' r h K) (h2 : B → WP D y (pc + 3) L' r h K) : WP D y pc L (vi b :: vi a :: r) h K := by
  refine WP.br (c := a = b) (t := t) (L' := L') (st' := r) he ?_ hA tr h1 h2
  rw [hL]
  unfold amI
  rw [hi]
  rfl
theorem WP.if_eq {D y pc t : Nat} {L r L' : List AV} {h : AH} {K : Option AV → AH → Prop} {e : AE} {o : Int} {a : Int32} {A B : Prop} (he : tbl y pc = some e) (hi : eI e = .ifCond .eq o) (hA : eA e = t) (hL : mkL (eM e) L = L') (tr : if a = 0 then A else B) (h1 : A → WP D y t L' r h K) (h2 : B → WP D y (pc + 3) L' r h K) : WP D y pc L (vi a :: r) h K := by
  refine WP.br (c := a = 0) (t := t) (L' := L') (st' := r) he ?_ hA tr h1 h2
  rw [hL]
  unfold amI
  rw [hi]
  rfl
theorem WP.icmp_ne {D y pc t : Nat} {L r L' : List AV} {h : AH} {K : Option AV → AH → Prop} {e : AE} {o : Int} {a b : Int32} {A B : Prop} (he : tbl y pc = some e) (hi : eI e = .if_icmp .ne o) (hA : eA e = t) (hL : mkL (eM e) L = L') (tr : if ¬ a = b then A else B) (h1 : A → WP D y t L' r h K) (h2 : B → WP D y (pc + 3) L' r h K) : WP D y pc L (vi b :: vi a :: r) h K := by
  refine WP.br (c := ¬ a = b) (t := t) (L' := L') (st' := r) he ?_ hA tr h1 h2
  rw [hL]
  unfold amI
  rw [hi]
  rfl
theorem WP.if_ne {D y pc t : Nat} {L r L' : List AV} {h : AH} {K : Option AV → AH → Prop} {e : AE} {o : Int} {a : Int32} {A B : Prop} (he : tbl y pc = some e) (hi : eI e = .ifCond .ne o) (hA : eA e = t) (hL : mkL (eM e) L = L') (tr : if ¬ a = 0 then A else B) (h1 : A → WP D y t L' r h K) (h2 : B → WP D y (pc + 3) L' r h K) : WP D y pc L (vi a :: r) h K := by
  refine WP.br (c := ¬ a = 0) (t := t) (L' := L') (st' := r) he ?_ hA tr h1 h2
  rw [hL]
  unfold amI
  rw [hi]
  rfl
theorem WP.icmp_lt {D y pc t : Nat} {L r L' : List AV} {h : AH} {K : Option AV → AH → Prop} {e : AE} {o : Int} {a b : Int32} {A B : Prop} (he : tbl y pc = some e) (hi : eI e = .if_icmp .lt o) (hA : eA e = t) (hL : mkL (eM e) L = L') (tr : if a < b then A else B) (h1 : A → WP D y t L' r h K) (h2 : B → WP D y (pc + 3) L' r h K) : WP D y pc L (vi b :: vi a :: r) h K := by
  refine WP.br (c := a < b) (t := t) (L' := L') (st' := r) he ?_ hA tr h1 h2
  rw [hL]
  unfold amI
  rw [hi]
  rfl
theorem WP.if_lt {D y pc t : Nat} {L r L' : List AV} {h : AH} {K : Option AV → AH → Prop} {e : AE} {o : Int} {a : Int32} {A B : Prop} (he : tbl y pc = some e) (hi : eI e = .ifCond .lt o) (hA : eA e = t) (hL : mkL (eM e) L = L') (tr : if a < 0 then A else B) (h1 : A → WP D y t L' r h K) (h2 : B → WP D y (pc + 3) L' r h K) : WP D y pc L (vi a :: r) h K := by
  refine WP.br (c := a < 0) (t := t) (L' := L') (st' := r) he ?_ hA tr h1 h2
  rw [hL]
  unfold amI
  rw [hi]
  rfl
theorem WP.icmp_ge {D y pc t : Nat} {L r L' : List AV} {h : AH} {K : Option AV → AH → Prop} {e : AE} {o : Int} {a b : Int32} {A B : Prop} (he : tbl y pc = some e) (hi : eI e = .if_icmp .ge o) (hA : eA e = t) (hL : mkL (eM e) L = L') (tr : if b ≤ a then A else B) (h1 : A → WP D y t L' r h K) (h2 : B → WP D y (pc + 3) L' r h K) : WP D y pc L (vi b :: vi a :: r) h K := by
  refine WP.br (c := b ≤ a) (t := t) (L' := L') (st' := r) he ?_ hA tr h1 h2
  rw [hL]
  unfold amI
  rw [hi]
  rfl
theorem WP.if_ge {D y pc t : Nat} {L r L' : List AV} {h : AH} {K : Option AV → AH → Prop} {e : AE} {o : Int} {a : Int32} {A B : Prop} (he : tbl y pc = some e) (hi : eI e = .ifCond .ge o) (hA : eA e = t) (hL : mkL (eM e) L = L') (tr : if 0 ≤ a then A else B) (h1 : A → WP D y t L' r h K) (h2 : B → WP D y (pc + 3) L' r h K) : WP D y pc L (vi a :: r) h K := by
  refine WP.br (c := 0 ≤ a) (t := t) (L' := L') (st' := r) he ?_ hA tr h1 h2
  rw [hL]
  unfold amI
  rw [hi]
  rfl
theorem WP.icmp_gt {D y pc t : Nat} {L r L' : List AV} {h : AH} {K : Option AV → AH → Prop} {e : AE} {o : Int} {a b : Int32} {A B : Prop} (he : tbl y pc = some e) (hi : eI e = .if_icmp .gt o) (hA : eA e = t) (hL : mkL (eM e) L = L') (tr : if b < a then A else B) (h1 : A → WP D y t L' r h K) (h2 : B → WP D y (pc + 3) L' r h K) : WP D y pc L (vi b :: vi a :: r) h K := by
  refine WP.br (c := b < a) (t := t) (L' := L') (st' := r) he ?_ hA tr h1 h2
  rw [hL]
  unfold amI
  rw [hi]
  rfl
theorem WP.if_gt {D y pc t : Nat} {L r L' : List AV} {h : AH} {K : Option AV → AH → Prop} {e : AE} {o : Int} {a : Int32} {A B : Prop} (he : tbl y pc = some e) (hi : eI e = .ifCond .gt o) (hA : eA e = t) (hL : mkL (eM e) L = L') (tr : if 0 < a then A else B) (h1 : A → WP D y t L' r h K) (h2 : B → WP D y (pc + 3) L' r h K) : WP D y pc L (vi a :: r) h K := by
  refine WP.br (c := 0 < a) (t := t) (L' := L') (st' := r) he ?_ hA tr h1 h2
  rw [hL]
  unfold amI
  rw [hi]
  rfl
theorem WP.icmp_le {D y pc t : Nat} {L r L' : List AV} {h : AH} {K : Option AV → AH → Prop} {e : AE} {o : Int} {a b : Int32} {A B : Prop} (he : tbl y pc = some e) (hi : eI e = .if_icmp .le o) (hA : eA e = t) (hL : mkL (eM e) L = L') (tr : if a ≤ b then A else B) (h1 : A → WP D y t L' r h K) (h2 : B → WP D y (pc + 3) L' r h K) : WP D y pc L (vi b :: vi a :: r) h K := by
  refine WP.br (c := a ≤ b) (t := t) (L' := L') (st' := r) he ?_ hA tr h1 h2
  rw [hL]
  unfold amI
  rw [hi]
  rfl
theorem WP.if_le {D y pc t : Nat} {L r L' : List AV} {h : AH} {K : Option AV → AH → Prop} {e : AE} {o : Int} {a : Int32} {A B : Prop} (he : tbl y pc = some e) (hi : eI e = .ifCond .le o) (hA : eA e = t) (hL : mkL (eM e) L = L') (tr : if a ≤ 0 then A else B) (h1 : A → WP D y t L' r h K) (h2 : B → WP D y (pc + 3) L' r h K) : WP D y pc L (vi a :: r) h K := by
  refine WP.br (c := a ≤ 0) (t := t) (L' := L') (st' := r) he ?_ hA tr h1 h2
  rw [hL]
  unfold amI
  rw [hi]
  rfl
