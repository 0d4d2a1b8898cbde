/-! INTS: Int32 as a picture of Int; splitting trees -/
def iZ (n : Int) : Int32 := Int32.ofInt n
theorem iZ_add (a b : Int) : iZ a + iZ b = iZ (a + b) := (Int32.ofInt_add a b).symm
theorem iZ_sub (a b : Int) : iZ a - iZ b = iZ (a - b) := (Int32.ofInt_sub a b).symm
theorem iZ_mul (a b : Int) : iZ a * iZ b = iZ (a * b) := (Int32.ofInt_mul a b).symm
theorem iZ_neg (a : Int) : -iZ a = iZ (-a) := (Int32.ofInt_neg a).symm
theorem iZ_toInt {n : Int} (h1 : -2147483648 ≤ n) (h2 : n < 2147483648) : (iZ n).toInt = n := Int32.toInt_ofInt_of_le h1 h2
theorem iZ_self (x : Int32) : iZ x.toInt = x := Int32.ofInt_toInt x
theorem iZ_ex (x : Int32) : ∃ n : Int, x = iZ n ∧ -2147483648 ≤ n ∧ n < 2147483648 := ⟨x.toInt, (iZ_self x).symm, x.le_toInt, x.toInt_lt⟩
theorem iZ_lt {a b : Int} (a1 : -2147483648 ≤ a) (a2 : a < 2147483648) (b1 : -2147483648 ≤ b) (b2 : b < 2147483648) : (iZ a < iZ b) = (a < b) := by
  rw [Int32.lt_iff_toInt_lt, iZ_toInt a1 a2, iZ_toInt b1 b2]
theorem iZ_le {a b : Int} (a1 : -2147483648 ≤ a) (a2 : a < 2147483648) (b1 : -2147483648 ≤ b) (b2 : b < 2147483648) : (iZ a ≤ iZ b) = (a ≤ b) := by
  rw [Int32.le_iff_toInt_le, iZ_toInt a1 a2, iZ_toInt b1 b2]
theorem iZ_eq {a b : Int} (a1 : -2147483648 ≤ a) (a2 : a < 2147483648) (b1 : -2147483648 ≤ b) (b2 : b < 2147483648) : (iZ a = iZ b) = (a = b) := by
  rw [← Int32.toInt_inj, iZ_toInt a1 a2, iZ_toInt b1 b2]
theorem iZ_cn {n : Int} (h1 : 0 ≤ n) (h2 : n < 2147483648) : (iZ n).toNatClampNeg = n.toNat := by
  show (iZ n).toInt.toNat = _
  rw [iZ_toInt (by omega) h2]
theorem iZ_ck {k : Nat} (h : k < 2147483648) : (iZ (k : Int)).toNatClampNeg = k := by
  rw [iZ_cn (by omega) (by omega)]
  omega
theorem i_lit {n : Nat} : (no_index (OfNat.ofNat n) : Int32) = iZ (n : Int) := Int32.ofInt_eq_ofNat.symm
theorem i_0 : (0 : Int32) = iZ 0 := rfl
theorem i_1 : (1 : Int32) = iZ 1 := rfl
theorem i_2 : (2 : Int32) = iZ 2 := rfl
theorem i_3 : (3 : Int32) = iZ 3 := rfl
theorem i_5 : (5 : Int32) = iZ 5 := rfl
theorem i_6 : (6 : Int32) = iZ 6 := rfl
theorem i_7 : (7 : Int32) = iZ 7 := rfl
theorem i_8 : (8 : Int32) = iZ 8 := rfl
theorem i_10 : (10 : Int32) = iZ 10 := rfl
theorem i_42 : (42 : Int32) = iZ 42 := rfl
theorem i_999 : (999 : Int32) = iZ 999 := rfl
theorem i_nv : (1000000 : Int32) = iZ 1000000 := rfl
theorem i_m1 : (-1 : Int32) = iZ (-1) := rfl
theorem i_m2 : (-2 : Int32) = iZ (-2) := rfl
theorem iZ_s (k : Nat) : iZ (k : Int) + 1 = iZ ((k + 1 : Nat) : Int) := by
  rw [i_1, iZ_add]
  rfl
theorem vp_iZ {n : Int} {m : Nat} (h1 : 0 ≤ n) (h2 : n < m) (h3 : m < 2147483648) : vp_in (iZ n) m := by
  unfold vp_in
  rw [i_0, iZ_lt (by omega) (by omega) (by omega) (by omega), iZ_cn h1 (by omega)]
  omega
theorem ifp {c A B : Prop} {i : Decidable c} (h : c) (a : A) : if c then A else B := by rw [if_pos h]; exact a
theorem ifn {c A B : Prop} {i : Decidable c} (h : ¬ c) (a : B) : if c then A else B := by rw [if_neg h]; exact a
theorem ifs {c A B : Prop} {i : Decidable c} (a : c → A) (b : ¬ c → B) : if c then A else B := by
  split
  · next h => exact a h
  · next h => exact b h
/-- one comparison, decided by numbers -/
theorem tle {a b : Int} (a1 : -2147483648 ≤ a) (b2 : b < 2147483648) (h : a ≤ b) : iZ a ≤ iZ b := by
  rw [iZ_le a1 (by omega) (by omega) b2]; exact h
theorem tlt {a b : Int} (a1 : -2147483648 ≤ a) (b2 : b < 2147483648) (h : a < b) : iZ a < iZ b := by
  rw [iZ_lt a1 (by omega) (by omega) b2]; exact h
theorem nle {a b : Int} (b1 : -2147483648 ≤ b) (a2 : a < 2147483648) (h : b < a) : ¬ iZ a ≤ iZ b := by
  rw [iZ_le (by omega) a2 b1 (by omega)]; omega
theorem nlt {a b : Int} (b1 : -2147483648 ≤ b) (a2 : a < 2147483648) (h : b ≤ a) : ¬ iZ a < iZ b := by
  rw [iZ_lt (by omega) a2 b1 (by omega)]; omega
theorem nne {a b : Int} (a1 : -2147483648 ≤ a) (a2 : a < 2147483648) (b1 : -2147483648 ≤ b) (b2 : b < 2147483648) (h : a ≠ b) : ¬ iZ a = iZ b := by
  rw [iZ_eq a1 a2 b1 b2]; exact h
/-- reading behind a write -/
theorem uI_ne {I : IM} {s j k a b c : Nat} {v : Int32} (h : (Nat.beq a s && (Nat.beq c k && Nat.beq b j)) = false) : updI I s j k v a b c = I a b c := by
  unfold updI
  rw [h]
  rfl
theorem uI_eq {I : IM} {s j k : Nat} {v : Int32} : updI I s j k v s j k = v := by
  unfold updI
  simp only [Nat.beq_refl, Bool.and_self]
  rfl
theorem updI_if {I : IM} {s j k a b c : Nat} {v : Int32} : updI I s j k v a b c = if a = s ∧ b = j ∧ c = k then v else I a b c := by
  unfold updI
  by_cases h1 : a = s
  · by_cases h2 : c = k
    · by_cases h3 : b = j
      · simp [h1, h2, h3]
      · rw [if_neg (by simp [h3]), show Nat.beq b j = false from nbf h3]; simp
    · rw [if_neg (by simp [h2]), show Nat.beq c k = false from nbf h2]; simp
  · rw [if_neg (by simp [h1]), show Nat.beq a s = false from nbf h1]; simp
theorem updJ_if {I : JM} {s j k a b c : Nat} {v : Int64} : updJ I s j k v a b c = if a = s ∧ b = j ∧ c = k then v else I a b c := by
  unfold updJ
  by_cases h1 : a = s
  · by_cases h2 : c = k
    · by_cases h3 : b = j
      · simp [h1, h2, h3]
      · rw [if_neg (by simp [h3]), show Nat.beq b j = false from nbf h3]; simp
    · rw [if_neg (by simp [h2]), show Nat.beq c k = false from nbf h2]; simp
  · rw [if_neg (by simp [h1]), show Nat.beq a s = false from nbf h1]; simp
/-- what stands: only cells of p are written -/
def Fr (p : Nat → Nat → Nat → Bool) (I I' : IM) : Prop := ∀ s j k, p s j k = false → I' s j k = I s j k
theorem Fr.id {p : Nat → Nat → Nat → Bool} {I : IM} : Fr p I I := fun _ _ _ _ => Eq.refl _
theorem Fr.tr {p : Nat → Nat → Nat → Bool} {I I1 I2 : IM} (h1 : Fr p I I1) (h2 : Fr p I1 I2) : Fr p I I2 := fun s j k h => (h2 s j k h).trans (h1 s j k h)
theorem Fr.sub {p q : Nat → Nat → Nat → Bool} {I I' : IM} (h : Fr p I I') (hq : ∀ s j k, q s j k = false → p s j k = false) : Fr q I I' := fun s j k z => h s j k (hq s j k z)
theorem Fr.upd {p : Nat → Nat → Nat → Bool} {I I' : IM} {s j k : Nat} {v : Int32} (h : Fr p I I') (hp : p s j k = true) : Fr p I (updI I' s j k v) := fun a b c z => by
  rw [updI_if]
  by_cases e : a = s ∧ b = j ∧ c = k
  · obtain ⟨rfl, rfl, rfl⟩ := e
    rw [hp] at z
    cases z
  · rw [if_neg e]; exact h a b c z
/-- what is left of a list -/
theorem dr_nil {α : Type} {E : List α} {k : Nat} (h : E.drop k = []) : E.length ≤ k := by
  have := congrArg List.length h
  simp at this
  omega
theorem dr_cons {α : Type} {E T : List α} {e : α} {k : Nat} (h : E.drop k = e :: T) : E[k]? = some e ∧ E.drop (k + 1) = T ∧ k < E.length := by
  have h1 : k < E.length := by
    have := congrArg List.length h
    simp at this
    omega
  rw [List.drop_eq_getElem_cons h1] at h
  injection h with h2 h3
  exact ⟨by rw [List.getElem?_eq_getElem h1, h2], h3, h1⟩
/-- bits -/
def tb (B j : Nat) : Bool := decide (((iZ (B : Int)) >>> (iZ (j : Int) &&& 31)) &&& (1 : Int32) = (1 : Int32))
theorem tb_all : ∀ B : Fin 128, ∀ j : Fin 7, tb B.val j.val = B.val.testBit j.val := by decide +kernel
theorem tb_bit {B j : Nat} (hB : B < 128) (hj : j < 7) : tb B j = B.testBit j := tb_all ⟨B, hB⟩ ⟨j, hj⟩
def ob (B j : Nat) : Int32 := (iZ (B : Int)) ||| ((1 : Int32) <<< (iZ (j : Int) &&& 31))
theorem ob_all : ∀ B : Fin 128, ∀ j : Fin 7, ob B.val j.val = iZ ((B.val ||| 2 ^ j.val : Nat) : Int) ∧ (B.val ||| 2 ^ j.val) < 128 := by decide +kernel
theorem ob_bit {B j : Nat} (hB : B < 128) (hj : j < 7) : ob B j = iZ ((B ||| 2 ^ j : Nat) : Int) := (ob_all ⟨B, hB⟩ ⟨j, hj⟩).1
theorem ob_lt {B j : Nat} (hB : B < 128) (hj : j < 7) : (B ||| 2 ^ j) < 128 := (ob_all ⟨B, hB⟩ ⟨j, hj⟩).2
