/-! the checks of all tables, together -/
theorem ble_t {k n : Nat} (h : k ≤ n) : Nat.ble k n = true := Nat.ble_eq_true_of_le h
theorem beq_f {n k : Nat} (h : k < n) : Nat.beq n k = false := by
  cases hb : Nat.beq n k with
  | false => rfl
  | true => have := Nat.eq_of_beq_eq_true hb; omega
theorem tn0 (pc : Nat) (h : 21 ≤ pc) : T0 pc = none := by
  unfold T0
  simp only [ble_t (show 9 ≤ pc by omega), ble_t (show 15 ≤ pc by omega), ble_t (show 17 ≤ pc by omega), ble_t (show 20 ≤ pc by omega), beq_f (show 20 < pc by omega), cond_true, cond_false]
theorem tn1 (pc : Nat) (h : 16 ≤ pc) : T1 pc = none := by
  unfold T1
  simp only [ble_t (show 7 ≤ pc by omega), ble_t (show 11 ≤ pc by omega), ble_t (show 14 ≤ pc by omega), ble_t (show 15 ≤ pc by omega), beq_f (show 15 < pc by omega), cond_true, cond_false]
theorem tn2 (pc : Nat) (h : 38 ≤ pc) : T2 pc = none := by
  unfold T2
  simp only [ble_t (show 18 ≤ pc by omega), ble_t (show 28 ≤ pc by omega), ble_t (show 33 ≤ pc by omega), ble_t (show 36 ≤ pc by omega), ble_t (show 37 ≤ pc by omega), beq_f (show 37 < pc by omega), cond_true, cond_false]
theorem tn3 (pc : Nat) (h : 33 ≤ pc) : T3 pc = none := by
  unfold T3
  simp only [ble_t (show 19 ≤ pc by omega), ble_t (show 26 ≤ pc by omega), ble_t (show 28 ≤ pc by omega), ble_t (show 31 ≤ pc by omega), ble_t (show 32 ≤ pc by omega), beq_f (show 32 < pc by omega), cond_true, cond_false]
theorem tn4 (pc : Nat) (h : 10 ≤ pc) : T4 pc = none := by
  unfold T4
  simp only [ble_t (show 4 ≤ pc by omega), ble_t (show 6 ≤ pc by omega), ble_t (show 9 ≤ pc by omega), beq_f (show 9 < pc by omega), cond_true, cond_false]
theorem tn5 (pc : Nat) (h : 51 ≤ pc) : T5 pc = none := by
  unfold T5
  simp only [ble_t (show 27 ≤ pc by omega), ble_t (show 39 ≤ pc by omega), ble_t (show 45 ≤ pc by omega), ble_t (show 47 ≤ pc by omega), ble_t (show 50 ≤ pc by omega), beq_f (show 50 < pc by omega), cond_true, cond_false]
theorem tn6 (pc : Nat) (h : 45 ≤ pc) : T6 pc = none := by
  unfold T6
  simp only [ble_t (show 23 ≤ pc by omega), ble_t (show 34 ≤ pc by omega), ble_t (show 37 ≤ pc by omega), ble_t (show 43 ≤ pc by omega), ble_t (show 44 ≤ pc by omega), beq_f (show 44 < pc by omega), cond_true, cond_false]
theorem tn7 (pc : Nat) (h : 408 ≤ pc) : T7 pc = none := by
  unfold T7
  simp only [ble_t (show 271 ≤ pc by omega), ble_t (show 341 ≤ pc by omega), ble_t (show 373 ≤ pc by omega), ble_t (show 392 ≤ pc by omega), ble_t (show 400 ≤ pc by omega), ble_t (show 405 ≤ pc by omega), ble_t (show 406 ≤ pc by omega), ble_t (show 407 ≤ pc by omega), beq_f (show 407 < pc by omega), cond_true, cond_false]
theorem tn8 (pc : Nat) (h : 31 ≤ pc) : T8 pc = none := by
  unfold T8
  simp only [ble_t (show 16 ≤ pc by omega), ble_t (show 22 ≤ pc by omega), ble_t (show 27 ≤ pc by omega), ble_t (show 29 ≤ pc by omega), ble_t (show 30 ≤ pc by omega), beq_f (show 30 < pc by omega), cond_true, cond_false]
theorem tn9 (pc : Nat) (h : 60 ≤ pc) : T9 pc = none := by
  unfold T9
  simp only [ble_t (show 30 ≤ pc by omega), ble_t (show 45 ≤ pc by omega), ble_t (show 52 ≤ pc by omega), ble_t (show 55 ≤ pc by omega), ble_t (show 58 ≤ pc by omega), ble_t (show 59 ≤ pc by omega), beq_f (show 59 < pc by omega), cond_true, cond_false]
theorem tn10 (pc : Nat) (h : 54 ≤ pc) : T10 pc = none := by
  unfold T10
  simp only [ble_t (show 29 ≤ pc by omega), ble_t (show 41 ≤ pc by omega), ble_t (show 45 ≤ pc by omega), ble_t (show 49 ≤ pc by omega), ble_t (show 52 ≤ pc by omega), ble_t (show 53 ≤ pc by omega), beq_f (show 53 < pc by omega), cond_true, cond_false]
theorem tn11 (pc : Nat) (h : 28 ≤ pc) : T11 pc = none := by
  unfold T11
  simp only [ble_t (show 12 ≤ pc by omega), ble_t (show 21 ≤ pc by omega), ble_t (show 23 ≤ pc by omega), ble_t (show 26 ≤ pc by omega), ble_t (show 27 ≤ pc by omega), beq_f (show 27 < pc by omega), cond_true, cond_false]
theorem tn12 (pc : Nat) (h : 29 ≤ pc) : T12 pc = none := by
  unfold T12
  simp only [ble_t (show 16 ≤ pc by omega), ble_t (show 22 ≤ pc by omega), ble_t (show 24 ≤ pc by omega), ble_t (show 27 ≤ pc by omega), ble_t (show 28 ≤ pc by omega), beq_f (show 28 < pc by omega), cond_true, cond_false]
theorem tn13 (pc : Nat) (h : 78 ≤ pc) : T13 pc = none := by
  unfold T13
  simp only [ble_t (show 41 ≤ pc by omega), ble_t (show 59 ≤ pc by omega), ble_t (show 67 ≤ pc by omega), ble_t (show 72 ≤ pc by omega), ble_t (show 76 ≤ pc by omega), ble_t (show 77 ≤ pc by omega), beq_f (show 77 < pc by omega), cond_true, cond_false]
theorem tn14 (pc : Nat) (h : 6 ≤ pc) : T14 pc = none := by
  unfold T14
  simp only [ble_t (show 3 ≤ pc by omega), ble_t (show 4 ≤ pc by omega), ble_t (show 5 ≤ pc by omega), beq_f (show 5 < pc by omega), cond_true, cond_false]
theorem tn15 (pc : Nat) (h : 68 ≤ pc) : T15 pc = none := by
  unfold T15
  simp only [ble_t (show 32 ≤ pc by omega), ble_t (show 46 ≤ pc by omega), ble_t (show 56 ≤ pc by omega), ble_t (show 63 ≤ pc by omega), ble_t (show 66 ≤ pc by omega), ble_t (show 67 ≤ pc by omega), beq_f (show 67 < pc by omega), cond_true, cond_false]
theorem tn16 (pc : Nat) (h : 19 ≤ pc) : T16 pc = none := by
  unfold T16
  simp only [ble_t (show 9 ≤ pc by omega), ble_t (show 12 ≤ pc by omega), ble_t (show 15 ≤ pc by omega), ble_t (show 18 ≤ pc by omega), beq_f (show 18 < pc by omega), cond_true, cond_false]
theorem tn17 (pc : Nat) (h : 44 ≤ pc) : T17 pc = none := by
  unfold T17
  simp only [ble_t (show 21 ≤ pc by omega), ble_t (show 32 ≤ pc by omega), ble_t (show 37 ≤ pc by omega), ble_t (show 40 ≤ pc by omega), ble_t (show 43 ≤ pc by omega), beq_f (show 43 < pc by omega), cond_true, cond_false]
theorem tn18 (pc : Nat) (h : 53 ≤ pc) : T18 pc = none := by
  unfold T18
  simp only [ble_t (show 26 ≤ pc by omega), ble_t (show 39 ≤ pc by omega), ble_t (show 47 ≤ pc by omega), ble_t (show 49 ≤ pc by omega), ble_t (show 52 ≤ pc by omega), beq_f (show 52 < pc by omega), cond_true, cond_false]
theorem tn19 (pc : Nat) (h : 33 ≤ pc) : T19 pc = none := by
  unfold T19
  simp only [ble_t (show 19 ≤ pc by omega), ble_t (show 26 ≤ pc by omega), ble_t (show 28 ≤ pc by omega), ble_t (show 31 ≤ pc by omega), ble_t (show 32 ≤ pc by omega), beq_f (show 32 < pc by omega), cond_true, cond_false]
theorem tn20 (pc : Nat) (h : 114 ≤ pc) : T20 pc = none := by
  unfold T20
  simp only [ble_t (show 56 ≤ pc by omega), ble_t (show 87 ≤ pc by omega), ble_t (show 98 ≤ pc by omega), ble_t (show 106 ≤ pc by omega), ble_t (show 110 ≤ pc by omega), ble_t (show 113 ≤ pc by omega), beq_f (show 113 < pc by omega), cond_true, cond_false]
theorem tn21 (pc : Nat) (h : 32 ≤ pc) : T21 pc = none := by
  unfold T21
  simp only [ble_t (show 18 ≤ pc by omega), ble_t (show 26 ≤ pc by omega), ble_t (show 30 ≤ pc by omega), ble_t (show 31 ≤ pc by omega), beq_f (show 31 < pc by omega), cond_true, cond_false]
theorem tn22 (pc : Nat) (h : 16 ≤ pc) : T22 pc = none := by
  unfold T22
  simp only [ble_t (show 8 ≤ pc by omega), ble_t (show 12 ≤ pc by omega), ble_t (show 15 ≤ pc by omega), beq_f (show 15 < pc by omega), cond_true, cond_false]
theorem tn23 (pc : Nat) (h : 31 ≤ pc) : T23 pc = none := by
  unfold T23
  simp only [ble_t (show 18 ≤ pc by omega), ble_t (show 22 ≤ pc by omega), ble_t (show 26 ≤ pc by omega), ble_t (show 27 ≤ pc by omega), ble_t (show 30 ≤ pc by omega), beq_f (show 30 < pc by omega), cond_true, cond_false]
theorem tn24 (pc : Nat) (h : 78 ≤ pc) : T24 pc = none := by
  unfold T24
  simp only [ble_t (show 39 ≤ pc by omega), ble_t (show 57 ≤ pc by omega), ble_t (show 68 ≤ pc by omega), ble_t (show 73 ≤ pc by omega), ble_t (show 76 ≤ pc by omega), ble_t (show 77 ≤ pc by omega), beq_f (show 77 < pc by omega), cond_true, cond_false]
theorem tn25 (pc : Nat) (h : 88 ≤ pc) : T25 pc = none := by
  unfold T25
  simp only [ble_t (show 40 ≤ pc by omega), ble_t (show 64 ≤ pc by omega), ble_t (show 72 ≤ pc by omega), ble_t (show 78 ≤ pc by omega), ble_t (show 84 ≤ pc by omega), ble_t (show 87 ≤ pc by omega), beq_f (show 87 < pc by omega), cond_true, cond_false]
theorem tn26 (pc : Nat) (h : 104 ≤ pc) : T26 pc = none := by
  unfold T26
  simp only [ble_t (show 97 ≤ pc by omega), ble_t (show 100 ≤ pc by omega), ble_t (show 102 ≤ pc by omega), ble_t (show 103 ≤ pc by omega), beq_f (show 103 < pc by omega), cond_true, cond_false]
theorem tn27 (pc : Nat) (h : 185 ≤ pc) : T27 pc = none := by
  unfold T27
  simp only [ble_t (show 94 ≤ pc by omega), ble_t (show 139 ≤ pc by omega), ble_t (show 160 ≤ pc by omega), ble_t (show 170 ≤ pc by omega), ble_t (show 177 ≤ pc by omega), ble_t (show 181 ≤ pc by omega), ble_t (show 184 ≤ pc by omega), beq_f (show 184 < pc by omega), cond_true, cond_false]
theorem tn28 (pc : Nat) (h : 66 ≤ pc) : T28 pc = none := by
  unfold T28
  simp only [ble_t (show 32 ≤ pc by omega), ble_t (show 46 ≤ pc by omega), ble_t (show 57 ≤ pc by omega), ble_t (show 61 ≤ pc by omega), ble_t (show 62 ≤ pc by omega), ble_t (show 65 ≤ pc by omega), beq_f (show 65 < pc by omega), cond_true, cond_false]
theorem tn29 (pc : Nat) (h : 105 ≤ pc) : T29 pc = none := by
  unfold T29
  simp only [ble_t (show 52 ≤ pc by omega), ble_t (show 78 ≤ pc by omega), ble_t (show 90 ≤ pc by omega), ble_t (show 95 ≤ pc by omega), ble_t (show 101 ≤ pc by omega), ble_t (show 104 ≤ pc by omega), beq_f (show 104 < pc by omega), cond_true, cond_false]
theorem tn30 (pc : Nat) (h : 239 ≤ pc) : T30 pc = none := by
  unfold T30
  simp only [ble_t (show 119 ≤ pc by omega), ble_t (show 178 ≤ pc by omega), ble_t (show 211 ≤ pc by omega), ble_t (show 222 ≤ pc by omega), ble_t (show 230 ≤ pc by omega), ble_t (show 234 ≤ pc by omega), ble_t (show 237 ≤ pc by omega), ble_t (show 238 ≤ pc by omega), beq_f (show 238 < pc by omega), cond_true, cond_false]
theorem tn31 (pc : Nat) (h : 10 ≤ pc) : T31 pc = none := by
  unfold T31
  simp only [ble_t (show 5 ≤ pc by omega), ble_t (show 8 ≤ pc by omega), ble_t (show 9 ≤ pc by omega), beq_f (show 9 < pc by omega), cond_true, cond_false]
theorem tn32 (pc : Nat) (h : 196 ≤ pc) : T32 pc = none := by
  unfold T32
  simp only [ble_t (show 146 ≤ pc by omega), ble_t (show 170 ≤ pc by omega), ble_t (show 183 ≤ pc by omega), ble_t (show 189 ≤ pc by omega), ble_t (show 193 ≤ pc by omega), ble_t (show 194 ≤ pc by omega), ble_t (show 195 ≤ pc by omega), beq_f (show 195 < pc by omega), cond_true, cond_false]
theorem tn33 (pc : Nat) (h : 29 ≤ pc) : T33 pc = none := by
  unfold T33
  simp only [ble_t (show 13 ≤ pc by omega), ble_t (show 21 ≤ pc by omega), ble_t (show 25 ≤ pc by omega), ble_t (show 28 ≤ pc by omega), beq_f (show 28 < pc by omega), cond_true, cond_false]
theorem tn34 (pc : Nat) (h : 106 ≤ pc) : T34 pc = none := by
  unfold T34
  simp only [ble_t (show 55 ≤ pc by omega), ble_t (show 81 ≤ pc by omega), ble_t (show 92 ≤ pc by omega), ble_t (show 100 ≤ pc by omega), ble_t (show 102 ≤ pc by omega), ble_t (show 105 ≤ pc by omega), beq_f (show 105 < pc by omega), cond_true, cond_false]
theorem tn35 (pc : Nat) (h : 53 ≤ pc) : T35 pc = none := by
  unfold T35
  simp only [ble_t (show 25 ≤ pc by omega), ble_t (show 39 ≤ pc by omega), ble_t (show 47 ≤ pc by omega), ble_t (show 51 ≤ pc by omega), ble_t (show 52 ≤ pc by omega), beq_f (show 52 < pc by omega), cond_true, cond_false]
theorem tn36 (pc : Nat) (h : 62 ≤ pc) : T36 pc = none := by
  unfold T36
  simp only [ble_t (show 32 ≤ pc by omega), ble_t (show 47 ≤ pc by omega), ble_t (show 55 ≤ pc by omega), ble_t (show 57 ≤ pc by omega), ble_t (show 60 ≤ pc by omega), ble_t (show 61 ≤ pc by omega), beq_f (show 61 < pc by omega), cond_true, cond_false]
theorem tn37 (pc : Nat) (h : 34 ≤ pc) : T37 pc = none := by
  unfold T37
  simp only [ble_t (show 17 ≤ pc by omega), ble_t (show 25 ≤ pc by omega), ble_t (show 27 ≤ pc by omega), ble_t (show 30 ≤ pc by omega), ble_t (show 33 ≤ pc by omega), beq_f (show 33 < pc by omega), cond_true, cond_false]
theorem tn38 (pc : Nat) (h : 15 ≤ pc) : T38 pc = none := by
  unfold T38
  simp only [ble_t (show 6 ≤ pc by omega), ble_t (show 11 ≤ pc by omega), ble_t (show 14 ≤ pc by omega), beq_f (show 14 < pc by omega), cond_true, cond_false]
theorem tn39 (pc : Nat) (h : 100 ≤ pc) : T39 pc = none := by
  unfold T39
  simp only [ble_t (show 50 ≤ pc by omega), ble_t (show 75 ≤ pc by omega), ble_t (show 85 ≤ pc by omega), ble_t (show 92 ≤ pc by omega), ble_t (show 98 ≤ pc by omega), ble_t (show 99 ≤ pc by omega), beq_f (show 99 < pc by omega), cond_true, cond_false]
theorem tn40 (pc : Nat) (h : 43 ≤ pc) : T40 pc = none := by
  unfold T40
  simp only [ble_t (show 20 ≤ pc by omega), ble_t (show 30 ≤ pc by omega), ble_t (show 35 ≤ pc by omega), ble_t (show 39 ≤ pc by omega), ble_t (show 42 ≤ pc by omega), beq_f (show 42 < pc by omega), cond_true, cond_false]
theorem tn41 (pc : Nat) (h : 65 ≤ pc) : T41 pc = none := by
  unfold T41
  simp only [ble_t (show 30 ≤ pc by omega), ble_t (show 47 ≤ pc by omega), ble_t (show 58 ≤ pc by omega), ble_t (show 62 ≤ pc by omega), ble_t (show 63 ≤ pc by omega), ble_t (show 64 ≤ pc by omega), beq_f (show 64 < pc by omega), cond_true, cond_false]
theorem tn42 (pc : Nat) (h : 148 ≤ pc) : T42 pc = none := by
  unfold T42
  simp only [ble_t (show 74 ≤ pc by omega), ble_t (show 109 ≤ pc by omega), ble_t (show 127 ≤ pc by omega), ble_t (show 135 ≤ pc by omega), ble_t (show 141 ≤ pc by omega), ble_t (show 144 ≤ pc by omega), ble_t (show 147 ≤ pc by omega), beq_f (show 147 < pc by omega), cond_true, cond_false]
theorem tn43 (pc : Nat) (h : 34 ≤ pc) : T43 pc = none := by
  unfold T43
  simp only [ble_t (show 16 ≤ pc by omega), ble_t (show 25 ≤ pc by omega), ble_t (show 29 ≤ pc by omega), ble_t (show 32 ≤ pc by omega), ble_t (show 33 ≤ pc by omega), beq_f (show 33 < pc by omega), cond_true, cond_false]
theorem tn44 (pc : Nat) (h : 101 ≤ pc) : T44 pc = none := by
  unfold T44
  simp only [ble_t (show 49 ≤ pc by omega), ble_t (show 76 ≤ pc by omega), ble_t (show 88 ≤ pc by omega), ble_t (show 93 ≤ pc by omega), ble_t (show 97 ≤ pc by omega), ble_t (show 100 ≤ pc by omega), beq_f (show 100 < pc by omega), cond_true, cond_false]
theorem tn45 (pc : Nat) (h : 35 ≤ pc) : T45 pc = none := by
  unfold T45
  simp only [ble_t (show 18 ≤ pc by omega), ble_t (show 25 ≤ pc by omega), ble_t (show 30 ≤ pc by omega), ble_t (show 33 ≤ pc by omega), ble_t (show 34 ≤ pc by omega), beq_f (show 34 < pc by omega), cond_true, cond_false]
theorem tn46 (pc : Nat) (h : 18 ≤ pc) : T46 pc = none := by
  unfold T46
  simp only [ble_t (show 9 ≤ pc by omega), ble_t (show 12 ≤ pc by omega), ble_t (show 14 ≤ pc by omega), ble_t (show 17 ≤ pc by omega), beq_f (show 17 < pc by omega), cond_true, cond_false]
theorem tn47 (pc : Nat) (h : 6 ≤ pc) : T47 pc = none := by
  unfold T47
  simp only [ble_t (show 2 ≤ pc by omega), ble_t (show 5 ≤ pc by omega), beq_f (show 5 < pc by omega), cond_true, cond_false]
theorem tn48 (pc : Nat) (h : 11 ≤ pc) : T48 pc = none := by
  unfold T48
  simp only [ble_t (show 5 ≤ pc by omega), ble_t (show 7 ≤ pc by omega), ble_t (show 10 ≤ pc by omega), beq_f (show 10 < pc by omega), cond_true, cond_false]
theorem tn49 (pc : Nat) (h : 24 ≤ pc) : T49 pc = none := by
  unfold T49
  simp only [ble_t (show 11 ≤ pc by omega), ble_t (show 16 ≤ pc by omega), ble_t (show 20 ≤ pc by omega), ble_t (show 23 ≤ pc by omega), beq_f (show 23 < pc by omega), cond_true, cond_false]
theorem tn50 (pc : Nat) (h : 33 ≤ pc) : T50 pc = none := by
  unfold T50
  simp only [ble_t (show 15 ≤ pc by omega), ble_t (show 23 ≤ pc by omega), ble_t (show 27 ≤ pc by omega), ble_t (show 30 ≤ pc by omega), ble_t (show 32 ≤ pc by omega), beq_f (show 32 < pc by omega), cond_true, cond_false]
theorem tn51 (pc : Nat) (h : 32 ≤ pc) : T51 pc = none := by
  unfold T51
  simp only [ble_t (show 17 ≤ pc by omega), ble_t (show 23 ≤ pc by omega), ble_t (show 27 ≤ pc by omega), ble_t (show 30 ≤ pc by omega), ble_t (show 31 ≤ pc by omega), beq_f (show 31 < pc by omega), cond_true, cond_false]
theorem tn52 (pc : Nat) (h : 102 ≤ pc) : T52 pc = none := by
  unfold T52
  simp only [ble_t (show 66 ≤ pc by omega), ble_t (show 84 ≤ pc by omega), ble_t (show 92 ≤ pc by omega), ble_t (show 99 ≤ pc by omega), ble_t (show 100 ≤ pc by omega), ble_t (show 101 ≤ pc by omega), beq_f (show 101 < pc by omega), cond_true, cond_false]
theorem tn53 (pc : Nat) (h : 23 ≤ pc) : T53 pc = none := by
  unfold T53
  simp only [ble_t (show 12 ≤ pc by omega), ble_t (show 17 ≤ pc by omega), ble_t (show 19 ≤ pc by omega), ble_t (show 22 ≤ pc by omega), beq_f (show 22 < pc by omega), cond_true, cond_false]
theorem tn54 (pc : Nat) (h : 83 ≤ pc) : T54 pc = none := by
  unfold T54
  simp only [ble_t (show 38 ≤ pc by omega), ble_t (show 60 ≤ pc by omega), ble_t (show 70 ≤ pc by omega), ble_t (show 76 ≤ pc by omega), ble_t (show 79 ≤ pc by omega), ble_t (show 82 ≤ pc by omega), beq_f (show 82 < pc by omega), cond_true, cond_false]
theorem tn55 (pc : Nat) (h : 14 ≤ pc) : T55 pc = none := by
  unfold T55
  simp only [ble_t (show 8 ≤ pc by omega), ble_t (show 10 ≤ pc by omega), ble_t (show 13 ≤ pc by omega), beq_f (show 13 < pc by omega), cond_true, cond_false]
theorem tn56 (pc : Nat) (h : 30 ≤ pc) : T56 pc = none := by
  unfold T56
  simp only [ble_t (show 16 ≤ pc by omega), ble_t (show 23 ≤ pc by omega), ble_t (show 25 ≤ pc by omega), ble_t (show 28 ≤ pc by omega), ble_t (show 29 ≤ pc by omega), beq_f (show 29 < pc by omega), cond_true, cond_false]
theorem tn57 (pc : Nat) (h : 24 ≤ pc) : T57 pc = none := by
  unfold T57
  simp only [ble_t (show 13 ≤ pc by omega), ble_t (show 18 ≤ pc by omega), ble_t (show 22 ≤ pc by omega), ble_t (show 23 ≤ pc by omega), beq_f (show 23 < pc by omega), cond_true, cond_false]
theorem tn58 (pc : Nat) (h : 26 ≤ pc) : T58 pc = none := by
  unfold T58
  simp only [ble_t (show 14 ≤ pc by omega), ble_t (show 20 ≤ pc by omega), ble_t (show 24 ≤ pc by omega), ble_t (show 25 ≤ pc by omega), beq_f (show 25 < pc by omega), cond_true, cond_false]
theorem tn59 (pc : Nat) (h : 87 ≤ pc) : T59 pc = none := by
  unfold T59
  simp only [ble_t (show 41 ≤ pc by omega), ble_t (show 63 ≤ pc by omega), ble_t (show 76 ≤ pc by omega), ble_t (show 81 ≤ pc by omega), ble_t (show 83 ≤ pc by omega), ble_t (show 86 ≤ pc by omega), beq_f (show 86 < pc by omega), cond_true, cond_false]
theorem tn60 (pc : Nat) (h : 21 ≤ pc) : T60 pc = none := by
  unfold T60
  simp only [ble_t (show 10 ≤ pc by omega), ble_t (show 15 ≤ pc by omega), ble_t (show 17 ≤ pc by omega), ble_t (show 20 ≤ pc by omega), beq_f (show 20 < pc by omega), cond_true, cond_false]
theorem tn61 (pc : Nat) (h : 14 ≤ pc) : T61 pc = none := by
  unfold T61
  simp only [ble_t (show 8 ≤ pc by omega), ble_t (show 10 ≤ pc by omega), ble_t (show 13 ≤ pc by omega), beq_f (show 13 < pc by omega), cond_true, cond_false]
theorem tn62 (pc : Nat) (h : 126 ≤ pc) : T62 pc = none := by
  unfold T62
  simp only [ble_t (show 63 ≤ pc by omega), ble_t (show 92 ≤ pc by omega), ble_t (show 109 ≤ pc by omega), ble_t (show 117 ≤ pc by omega), ble_t (show 119 ≤ pc by omega), ble_t (show 122 ≤ pc by omega), ble_t (show 125 ≤ pc by omega), beq_f (show 125 < pc by omega), cond_true, cond_false]
theorem tn63 (pc : Nat) (h : 18 ≤ pc) : T63 pc = none := by
  unfold T63
  simp only [ble_t (show 8 ≤ pc by omega), ble_t (show 13 ≤ pc by omega), ble_t (show 16 ≤ pc by omega), ble_t (show 17 ≤ pc by omega), beq_f (show 17 < pc by omega), cond_true, cond_false]
theorem tn64 (pc : Nat) (h : 34 ≤ pc) : T64 pc = none := by
  unfold T64
  simp only [ble_t (show 14 ≤ pc by omega), ble_t (show 25 ≤ pc by omega), ble_t (show 29 ≤ pc by omega), ble_t (show 32 ≤ pc by omega), ble_t (show 33 ≤ pc by omega), beq_f (show 33 < pc by omega), cond_true, cond_false]
theorem tn65 (pc : Nat) (h : 106 ≤ pc) : T65 pc = none := by
  unfold T65
  simp only [ble_t (show 51 ≤ pc by omega), ble_t (show 76 ≤ pc by omega), ble_t (show 91 ≤ pc by omega), ble_t (show 99 ≤ pc by omega), ble_t (show 104 ≤ pc by omega), ble_t (show 105 ≤ pc by omega), beq_f (show 105 < pc by omega), cond_true, cond_false]
theorem tn66 (pc : Nat) (h : 250 ≤ pc) : T66 pc = none := by
  unfold T66
  simp only [ble_t (show 134 ≤ pc by omega), ble_t (show 194 ≤ pc by omega), ble_t (show 222 ≤ pc by omega), ble_t (show 236 ≤ pc by omega), ble_t (show 242 ≤ pc by omega), ble_t (show 245 ≤ pc by omega), ble_t (show 248 ≤ pc by omega), ble_t (show 249 ≤ pc by omega), beq_f (show 249 < pc by omega), cond_true, cond_false]
theorem tn67 (pc : Nat) (h : 66 ≤ pc) : T67 pc = none := by
  unfold T67
  simp only [ble_t (show 33 ≤ pc by omega), ble_t (show 48 ≤ pc by omega), ble_t (show 57 ≤ pc by omega), ble_t (show 61 ≤ pc by omega), ble_t (show 62 ≤ pc by omega), ble_t (show 65 ≤ pc by omega), beq_f (show 65 < pc by omega), cond_true, cond_false]
theorem tn68 (pc : Nat) (h : 21 ≤ pc) : T68 pc = none := by
  unfold T68
  simp only [ble_t (show 7 ≤ pc by omega), ble_t (show 14 ≤ pc by omega), ble_t (show 17 ≤ pc by omega), ble_t (show 20 ≤ pc by omega), beq_f (show 20 < pc by omega), cond_true, cond_false]
theorem tn69 (pc : Nat) (h : 45 ≤ pc) : T69 pc = none := by
  unfold T69
  simp only [ble_t (show 23 ≤ pc by omega), ble_t (show 34 ≤ pc by omega), ble_t (show 37 ≤ pc by omega), ble_t (show 43 ≤ pc by omega), ble_t (show 44 ≤ pc by omega), beq_f (show 44 < pc by omega), cond_true, cond_false]
theorem tn70 (pc : Nat) (h : 39 ≤ pc) : T70 pc = none := by
  unfold T70
  simp only [ble_t (show 18 ≤ pc by omega), ble_t (show 28 ≤ pc by omega), ble_t (show 31 ≤ pc by omega), ble_t (show 37 ≤ pc by omega), ble_t (show 38 ≤ pc by omega), beq_f (show 38 < pc by omega), cond_true, cond_false]
theorem tn71 (pc : Nat) (h : 51 ≤ pc) : T71 pc = none := by
  unfold T71
  simp only [ble_t (show 26 ≤ pc by omega), ble_t (show 37 ≤ pc by omega), ble_t (show 43 ≤ pc by omega), ble_t (show 49 ≤ pc by omega), ble_t (show 50 ≤ pc by omega), beq_f (show 50 < pc by omega), cond_true, cond_false]
theorem tn72 (pc : Nat) (h : 72 ≤ pc) : T72 pc = none := by
  unfold T72
  simp only [ble_t (show 37 ≤ pc by omega), ble_t (show 52 ≤ pc by omega), ble_t (show 62 ≤ pc by omega), ble_t (show 67 ≤ pc by omega), ble_t (show 70 ≤ pc by omega), ble_t (show 71 ≤ pc by omega), beq_f (show 71 < pc by omega), cond_true, cond_false]
theorem tn73 (pc : Nat) (h : 31 ≤ pc) : T73 pc = none := by
  unfold T73
  simp only [ble_t (show 13 ≤ pc by omega), ble_t (show 22 ≤ pc by omega), ble_t (show 26 ≤ pc by omega), ble_t (show 29 ≤ pc by omega), ble_t (show 30 ≤ pc by omega), beq_f (show 30 < pc by omega), cond_true, cond_false]
theorem tn74 (pc : Nat) (h : 39 ≤ pc) : T74 pc = none := by
  unfold T74
  simp only [ble_t (show 19 ≤ pc by omega), ble_t (show 28 ≤ pc by omega), ble_t (show 33 ≤ pc by omega), ble_t (show 36 ≤ pc by omega), ble_t (show 38 ≤ pc by omega), beq_f (show 38 < pc by omega), cond_true, cond_false]
theorem tn75 (pc : Nat) (h : 63 ≤ pc) : T75 pc = none := by
  unfold T75
  simp only [ble_t (show 30 ≤ pc by omega), ble_t (show 46 ≤ pc by omega), ble_t (show 53 ≤ pc by omega), ble_t (show 57 ≤ pc by omega), ble_t (show 60 ≤ pc by omega), ble_t (show 62 ≤ pc by omega), beq_f (show 62 < pc by omega), cond_true, cond_false]
theorem tn76 (pc : Nat) (h : 43 ≤ pc) : T76 pc = none := by
  unfold T76
  simp only [ble_t (show 21 ≤ pc by omega), ble_t (show 32 ≤ pc by omega), ble_t (show 35 ≤ pc by omega), ble_t (show 41 ≤ pc by omega), ble_t (show 42 ≤ pc by omega), beq_f (show 42 < pc by omega), cond_true, cond_false]
theorem tn77 (pc : Nat) (h : 73 ≤ pc) : T77 pc = none := by
  unfold T77
  simp only [ble_t (show 32 ≤ pc by omega), ble_t (show 52 ≤ pc by omega), ble_t (show 61 ≤ pc by omega), ble_t (show 68 ≤ pc by omega), ble_t (show 71 ≤ pc by omega), ble_t (show 72 ≤ pc by omega), beq_f (show 72 < pc by omega), cond_true, cond_false]
theorem tn78 (pc : Nat) (h : 178 ≤ pc) : T78 pc = none := by
  unfold T78
  simp only [ble_t (show 89 ≤ pc by omega), ble_t (show 134 ≤ pc by omega), ble_t (show 155 ≤ pc by omega), ble_t (show 166 ≤ pc by omega), ble_t (show 172 ≤ pc by omega), ble_t (show 174 ≤ pc by omega), ble_t (show 177 ≤ pc by omega), beq_f (show 177 < pc by omega), cond_true, cond_false]
theorem tn79 (pc : Nat) (h : 39 ≤ pc) : T79 pc = none := by
  unfold T79
  simp only [ble_t (show 19 ≤ pc by omega), ble_t (show 29 ≤ pc by omega), ble_t (show 34 ≤ pc by omega), ble_t (show 35 ≤ pc by omega), ble_t (show 38 ≤ pc by omega), beq_f (show 38 < pc by omega), cond_true, cond_false]
theorem tn80 (pc : Nat) (h : 92 ≤ pc) : T80 pc = none := by
  unfold T80
  simp only [ble_t (show 48 ≤ pc by omega), ble_t (show 69 ≤ pc by omega), ble_t (show 76 ≤ pc by omega), ble_t (show 83 ≤ pc by omega), ble_t (show 89 ≤ pc by omega), ble_t (show 91 ≤ pc by omega), beq_f (show 91 < pc by omega), cond_true, cond_false]
theorem tn81 (pc : Nat) (h : 120 ≤ pc) : T81 pc = none := by
  unfold T81
  simp only [ble_t (show 52 ≤ pc by omega), ble_t (show 86 ≤ pc by omega), ble_t (show 102 ≤ pc by omega), ble_t (show 111 ≤ pc by omega), ble_t (show 115 ≤ pc by omega), ble_t (show 118 ≤ pc by omega), ble_t (show 119 ≤ pc by omega), beq_f (show 119 < pc by omega), cond_true, cond_false]
theorem tn82 (pc : Nat) (h : 73 ≤ pc) : T82 pc = none := by
  unfold T82
  simp only [ble_t (show 35 ≤ pc by omega), ble_t (show 54 ≤ pc by omega), ble_t (show 64 ≤ pc by omega), ble_t (show 67 ≤ pc by omega), ble_t (show 70 ≤ pc by omega), ble_t (show 72 ≤ pc by omega), beq_f (show 72 < pc by omega), cond_true, cond_false]
theorem tn83 (pc : Nat) (h : 69 ≤ pc) : T83 pc = none := by
  unfold T83
  simp only [ble_t (show 35 ≤ pc by omega), ble_t (show 52 ≤ pc by omega), ble_t (show 60 ≤ pc by omega), ble_t (show 64 ≤ pc by omega), ble_t (show 65 ≤ pc by omega), ble_t (show 68 ≤ pc by omega), beq_f (show 68 < pc by omega), cond_true, cond_false]
theorem tn84 (pc : Nat) (h : 37 ≤ pc) : T84 pc = none := by
  unfold T84
  simp only [ble_t (show 17 ≤ pc by omega), ble_t (show 25 ≤ pc by omega), ble_t (show 31 ≤ pc by omega), ble_t (show 34 ≤ pc by omega), ble_t (show 36 ≤ pc by omega), beq_f (show 36 < pc by omega), cond_true, cond_false]
theorem tn85 (pc : Nat) (h : 21 ≤ pc) : T85 pc = none := by
  unfold T85
  simp only [ble_t (show 12 ≤ pc by omega), ble_t (show 18 ≤ pc by omega), ble_t (show 19 ≤ pc by omega), ble_t (show 20 ≤ pc by omega), beq_f (show 20 < pc by omega), cond_true, cond_false]
theorem tn86 (pc : Nat) (h : 54 ≤ pc) : T86 pc = none := by
  unfold T86
  simp only [ble_t (show 28 ≤ pc by omega), ble_t (show 38 ≤ pc by omega), ble_t (show 45 ≤ pc by omega), ble_t (show 50 ≤ pc by omega), ble_t (show 53 ≤ pc by omega), beq_f (show 53 < pc by omega), cond_true, cond_false]
theorem tn87 (pc : Nat) (h : 91 ≤ pc) : T87 pc = none := by
  unfold T87
  simp only [ble_t (show 45 ≤ pc by omega), ble_t (show 66 ≤ pc by omega), ble_t (show 78 ≤ pc by omega), ble_t (show 85 ≤ pc by omega), ble_t (show 89 ≤ pc by omega), ble_t (show 90 ≤ pc by omega), beq_f (show 90 < pc by omega), cond_true, cond_false]
theorem tn88 (pc : Nat) (h : 51 ≤ pc) : T88 pc = none := by
  unfold T88
  simp only [ble_t (show 21 ≤ pc by omega), ble_t (show 35 ≤ pc by omega), ble_t (show 43 ≤ pc by omega), ble_t (show 47 ≤ pc by omega), ble_t (show 50 ≤ pc by omega), beq_f (show 50 < pc by omega), cond_true, cond_false]
theorem tn89 (pc : Nat) (h : 49 ≤ pc) : T89 pc = none := by
  unfold T89
  simp only [ble_t (show 24 ≤ pc by omega), ble_t (show 36 ≤ pc by omega), ble_t (show 42 ≤ pc by omega), ble_t (show 45 ≤ pc by omega), ble_t (show 48 ≤ pc by omega), beq_f (show 48 < pc by omega), cond_true, cond_false]
theorem tn90 (pc : Nat) (h : 57 ≤ pc) : T90 pc = none := by
  unfold T90
  simp only [ble_t (show 26 ≤ pc by omega), ble_t (show 43 ≤ pc by omega), ble_t (show 51 ≤ pc by omega), ble_t (show 55 ≤ pc by omega), ble_t (show 56 ≤ pc by omega), beq_f (show 56 < pc by omega), cond_true, cond_false]
theorem tn91 (pc : Nat) (h : 139 ≤ pc) : T91 pc = none := by
  unfold T91
  simp only [ble_t (show 70 ≤ pc by omega), ble_t (show 106 ≤ pc by omega), ble_t (show 118 ≤ pc by omega), ble_t (show 129 ≤ pc by omega), ble_t (show 133 ≤ pc by omega), ble_t (show 136 ≤ pc by omega), ble_t (show 138 ≤ pc by omega), beq_f (show 138 < pc by omega), cond_true, cond_false]
theorem tn92 (pc : Nat) (h : 113 ≤ pc) : T92 pc = none := by
  unfold T92
  simp only [ble_t (show 52 ≤ pc by omega), ble_t (show 79 ≤ pc by omega), ble_t (show 95 ≤ pc by omega), ble_t (show 104 ≤ pc by omega), ble_t (show 110 ≤ pc by omega), ble_t (show 112 ≤ pc by omega), beq_f (show 112 < pc by omega), cond_true, cond_false]
theorem tn93 (pc : Nat) (h : 82 ≤ pc) : T93 pc = none := by
  unfold T93
  simp only [ble_t (show 44 ≤ pc by omega), ble_t (show 62 ≤ pc by omega), ble_t (show 73 ≤ pc by omega), ble_t (show 79 ≤ pc by omega), ble_t (show 80 ≤ pc by omega), ble_t (show 81 ≤ pc by omega), beq_f (show 81 < pc by omega), cond_true, cond_false]
theorem tn94 (pc : Nat) (h : 72 ≤ pc) : T94 pc = none := by
  unfold T94
  simp only [ble_t (show 33 ≤ pc by omega), ble_t (show 53 ≤ pc by omega), ble_t (show 61 ≤ pc by omega), ble_t (show 66 ≤ pc by omega), ble_t (show 69 ≤ pc by omega), ble_t (show 71 ≤ pc by omega), beq_f (show 71 < pc by omega), cond_true, cond_false]
theorem tn95 (pc : Nat) (h : 40 ≤ pc) : T95 pc = none := by
  unfold T95
  simp only [ble_t (show 19 ≤ pc by omega), ble_t (show 29 ≤ pc by omega), ble_t (show 33 ≤ pc by omega), ble_t (show 36 ≤ pc by omega), ble_t (show 39 ≤ pc by omega), beq_f (show 39 < pc by omega), cond_true, cond_false]
theorem tn96 (pc : Nat) (h : 91 ≤ pc) : T96 pc = none := by
  unfold T96
  simp only [ble_t (show 43 ≤ pc by omega), ble_t (show 62 ≤ pc by omega), ble_t (show 77 ≤ pc by omega), ble_t (show 83 ≤ pc by omega), ble_t (show 89 ≤ pc by omega), ble_t (show 90 ≤ pc by omega), beq_f (show 90 < pc by omega), cond_true, cond_false]
theorem tn97 (pc : Nat) (h : 116 ≤ pc) : T97 pc = none := by
  unfold T97
  simp only [ble_t (show 57 ≤ pc by omega), ble_t (show 82 ≤ pc by omega), ble_t (show 97 ≤ pc by omega), ble_t (show 107 ≤ pc by omega), ble_t (show 113 ≤ pc by omega), ble_t (show 115 ≤ pc by omega), beq_f (show 115 < pc by omega), cond_true, cond_false]
theorem tn98 (pc : Nat) (h : 80 ≤ pc) : T98 pc = none := by
  unfold T98
  simp only [ble_t (show 35 ≤ pc by omega), ble_t (show 56 ≤ pc by omega), ble_t (show 66 ≤ pc by omega), ble_t (show 73 ≤ pc by omega), ble_t (show 76 ≤ pc by omega), ble_t (show 79 ≤ pc by omega), beq_f (show 79 < pc by omega), cond_true, cond_false]
theorem tn99 (pc : Nat) (h : 41 ≤ pc) : T99 pc = none := by
  unfold T99
  simp only [ble_t (show 20 ≤ pc by omega), ble_t (show 32 ≤ pc by omega), ble_t (show 36 ≤ pc by omega), ble_t (show 37 ≤ pc by omega), ble_t (show 40 ≤ pc by omega), beq_f (show 40 < pc by omega), cond_true, cond_false]
theorem tn100 (pc : Nat) (h : 109 ≤ pc) : T100 pc = none := by
  unfold T100
  simp only [ble_t (show 49 ≤ pc by omega), ble_t (show 78 ≤ pc by omega), ble_t (show 93 ≤ pc by omega), ble_t (show 100 ≤ pc by omega), ble_t (show 106 ≤ pc by omega), ble_t (show 108 ≤ pc by omega), beq_f (show 108 < pc by omega), cond_true, cond_false]
theorem tn101 (pc : Nat) (h : 86 ≤ pc) : T101 pc = none := by
  unfold T101
  simp only [ble_t (show 42 ≤ pc by omega), ble_t (show 62 ≤ pc by omega), ble_t (show 74 ≤ pc by omega), ble_t (show 80 ≤ pc by omega), ble_t (show 83 ≤ pc by omega), ble_t (show 85 ≤ pc by omega), beq_f (show 85 < pc by omega), cond_true, cond_false]
theorem tn102 (pc : Nat) (h : 55 ≤ pc) : T102 pc = none := by
  unfold T102
  simp only [ble_t (show 22 ≤ pc by omega), ble_t (show 37 ≤ pc by omega), ble_t (show 47 ≤ pc by omega), ble_t (show 51 ≤ pc by omega), ble_t (show 54 ≤ pc by omega), beq_f (show 54 < pc by omega), cond_true, cond_false]
theorem tn103 (pc : Nat) (h : 124 ≤ pc) : T103 pc = none := by
  unfold T103
  simp only [ble_t (show 57 ≤ pc by omega), ble_t (show 90 ≤ pc by omega), ble_t (show 105 ≤ pc by omega), ble_t (show 116 ≤ pc by omega), ble_t (show 121 ≤ pc by omega), ble_t (show 123 ≤ pc by omega), beq_f (show 123 < pc by omega), cond_true, cond_false]
theorem tn104 (pc : Nat) (h : 88 ≤ pc) : T104 pc = none := by
  unfold T104
  simp only [ble_t (show 45 ≤ pc by omega), ble_t (show 65 ≤ pc by omega), ble_t (show 74 ≤ pc by omega), ble_t (show 81 ≤ pc by omega), ble_t (show 84 ≤ pc by omega), ble_t (show 87 ≤ pc by omega), beq_f (show 87 < pc by omega), cond_true, cond_false]
theorem tn105 (pc : Nat) (h : 75 ≤ pc) : T105 pc = none := by
  unfold T105
  simp only [ble_t (show 36 ≤ pc by omega), ble_t (show 55 ≤ pc by omega), ble_t (show 64 ≤ pc by omega), ble_t (show 68 ≤ pc by omega), ble_t (show 71 ≤ pc by omega), ble_t (show 74 ≤ pc by omega), beq_f (show 74 < pc by omega), cond_true, cond_false]
theorem tn106 (pc : Nat) (h : 57 ≤ pc) : T106 pc = none := by
  unfold T106
  simp only [ble_t (show 27 ≤ pc by omega), ble_t (show 42 ≤ pc by omega), ble_t (show 51 ≤ pc by omega), ble_t (show 55 ≤ pc by omega), ble_t (show 56 ≤ pc by omega), beq_f (show 56 < pc by omega), cond_true, cond_false]
theorem tn107 (pc : Nat) (h : 46 ≤ pc) : T107 pc = none := by
  unfold T107
  simp only [ble_t (show 25 ≤ pc by omega), ble_t (show 36 ≤ pc by omega), ble_t (show 41 ≤ pc by omega), ble_t (show 44 ≤ pc by omega), ble_t (show 45 ≤ pc by omega), beq_f (show 45 < pc by omega), cond_true, cond_false]
theorem tn108 (pc : Nat) (h : 81 ≤ pc) : T108 pc = none := by
  unfold T108
  simp only [ble_t (show 56 ≤ pc by omega), ble_t (show 68 ≤ pc by omega), ble_t (show 75 ≤ pc by omega), ble_t (show 79 ≤ pc by omega), ble_t (show 80 ≤ pc by omega), beq_f (show 80 < pc by omega), cond_true, cond_false]
theorem tn109 (pc : Nat) (h : 27 ≤ pc) : T109 pc = none := by
  unfold T109
  simp only [ble_t (show 12 ≤ pc by omega), ble_t (show 17 ≤ pc by omega), ble_t (show 23 ≤ pc by omega), ble_t (show 26 ≤ pc by omega), beq_f (show 26 < pc by omega), cond_true, cond_false]
theorem tn110 (pc : Nat) (h : 32 ≤ pc) : T110 pc = none := by
  unfold T110
  simp only [ble_t (show 14 ≤ pc by omega), ble_t (show 22 ≤ pc by omega), ble_t (show 28 ≤ pc by omega), ble_t (show 31 ≤ pc by omega), beq_f (show 31 < pc by omega), cond_true, cond_false]
theorem tn111 (pc : Nat) (h : 27 ≤ pc) : T111 pc = none := by
  unfold T111
  simp only [ble_t (show 14 ≤ pc by omega), ble_t (show 21 ≤ pc by omega), ble_t (show 24 ≤ pc by omega), ble_t (show 26 ≤ pc by omega), beq_f (show 26 < pc by omega), cond_true, cond_false]
theorem tn112 (pc : Nat) (h : 27 ≤ pc) : T112 pc = none := by
  unfold T112
  simp only [ble_t (show 14 ≤ pc by omega), ble_t (show 21 ≤ pc by omega), ble_t (show 24 ≤ pc by omega), ble_t (show 26 ≤ pc by omega), beq_f (show 26 < pc by omega), cond_true, cond_false]
theorem tn113 (pc : Nat) (h : 35 ≤ pc) : T113 pc = none := by
  unfold T113
  simp only [ble_t (show 17 ≤ pc by omega), ble_t (show 27 ≤ pc by omega), ble_t (show 29 ≤ pc by omega), ble_t (show 32 ≤ pc by omega), ble_t (show 34 ≤ pc by omega), beq_f (show 34 < pc by omega), cond_true, cond_false]
theorem tn114 (pc : Nat) (h : 11 ≤ pc) : T114 pc = none := by
  unfold T114
  simp only [ble_t (show 5 ≤ pc by omega), ble_t (show 7 ≤ pc by omega), ble_t (show 10 ≤ pc by omega), beq_f (show 10 < pc by omega), cond_true, cond_false]
theorem tn115 (pc : Nat) (h : 29 ≤ pc) : T115 pc = none := by
  unfold T115
  simp only [ble_t (show 15 ≤ pc by omega), ble_t (show 23 ≤ pc by omega), ble_t (show 27 ≤ pc by omega), ble_t (show 28 ≤ pc by omega), beq_f (show 28 < pc by omega), cond_true, cond_false]
theorem tn116 (pc : Nat) (h : 53 ≤ pc) : T116 pc = none := by
  unfold T116
  simp only [ble_t (show 26 ≤ pc by omega), ble_t (show 41 ≤ pc by omega), ble_t (show 47 ≤ pc by omega), ble_t (show 51 ≤ pc by omega), ble_t (show 52 ≤ pc by omega), beq_f (show 52 < pc by omega), cond_true, cond_false]
theorem tn117 (pc : Nat) (h : 44 ≤ pc) : T117 pc = none := by
  unfold T117
  simp only [ble_t (show 24 ≤ pc by omega), ble_t (show 35 ≤ pc by omega), ble_t (show 38 ≤ pc by omega), ble_t (show 42 ≤ pc by omega), ble_t (show 43 ≤ pc by omega), beq_f (show 43 < pc by omega), cond_true, cond_false]
theorem tn118 (pc : Nat) (h : 29 ≤ pc) : T118 pc = none := by
  unfold T118
  simp only [ble_t (show 16 ≤ pc by omega), ble_t (show 22 ≤ pc by omega), ble_t (show 24 ≤ pc by omega), ble_t (show 27 ≤ pc by omega), ble_t (show 28 ≤ pc by omega), beq_f (show 28 < pc by omega), cond_true, cond_false]
theorem tn119 (pc : Nat) (h : 27 ≤ pc) : T119 pc = none := by
  unfold T119
  simp only [ble_t (show 15 ≤ pc by omega), ble_t (show 21 ≤ pc by omega), ble_t (show 25 ≤ pc by omega), ble_t (show 26 ≤ pc by omega), beq_f (show 26 < pc by omega), cond_true, cond_false]
theorem tn120 (pc : Nat) (h : 132 ≤ pc) : T120 pc = none := by
  unfold T120
  simp only [ble_t (show 62 ≤ pc by omega), ble_t (show 98 ≤ pc by omega), ble_t (show 116 ≤ pc by omega), ble_t (show 124 ≤ pc by omega), ble_t (show 129 ≤ pc by omega), ble_t (show 131 ≤ pc by omega), beq_f (show 131 < pc by omega), cond_true, cond_false]
theorem tn121 (pc : Nat) (h : 74 ≤ pc) : T121 pc = none := by
  unfold T121
  simp only [ble_t (show 34 ≤ pc by omega), ble_t (show 52 ≤ pc by omega), ble_t (show 63 ≤ pc by omega), ble_t (show 68 ≤ pc by omega), ble_t (show 71 ≤ pc by omega), ble_t (show 73 ≤ pc by omega), beq_f (show 73 < pc by omega), cond_true, cond_false]
theorem tn122 (pc : Nat) (h : 78 ≤ pc) : T122 pc = none := by
  unfold T122
  simp only [ble_t (show 56 ≤ pc by omega), ble_t (show 68 ≤ pc by omega), ble_t (show 75 ≤ pc by omega), ble_t (show 76 ≤ pc by omega), ble_t (show 77 ≤ pc by omega), beq_f (show 77 < pc by omega), cond_true, cond_false]
theorem tn123 (pc : Nat) (h : 16 ≤ pc) : T123 pc = none := by
  unfold T123
  simp only [ble_t (show 7 ≤ pc by omega), ble_t (show 11 ≤ pc by omega), ble_t (show 14 ≤ pc by omega), ble_t (show 15 ≤ pc by omega), beq_f (show 15 < pc by omega), cond_true, cond_false]
theorem tn124 (pc : Nat) (h : 15 ≤ pc) : T124 pc = none := by
  unfold T124
  simp only [ble_t (show 6 ≤ pc by omega), ble_t (show 10 ≤ pc by omega), ble_t (show 13 ≤ pc by omega), ble_t (show 14 ≤ pc by omega), beq_f (show 14 < pc by omega), cond_true, cond_false]
theorem tn125 (pc : Nat) (h : 21 ≤ pc) : T125 pc = none := by
  unfold T125
  simp only [ble_t (show 9 ≤ pc by omega), ble_t (show 16 ≤ pc by omega), ble_t (show 19 ≤ pc by omega), ble_t (show 20 ≤ pc by omega), beq_f (show 20 < pc by omega), cond_true, cond_false]
theorem tn126 (pc : Nat) (h : 56 ≤ pc) : T126 pc = none := by
  unfold T126
  simp only [ble_t (show 26 ≤ pc by omega), ble_t (show 41 ≤ pc by omega), ble_t (show 49 ≤ pc by omega), ble_t (show 54 ≤ pc by omega), ble_t (show 55 ≤ pc by omega), beq_f (show 55 < pc by omega), cond_true, cond_false]
theorem tn127 (pc : Nat) (h : 128 ≤ pc) : T127 pc = none := by
  unfold T127
  simp only [ble_t (show 63 ≤ pc by omega), ble_t (show 95 ≤ pc by omega), ble_t (show 110 ≤ pc by omega), ble_t (show 117 ≤ pc by omega), ble_t (show 123 ≤ pc by omega), ble_t (show 126 ≤ pc by omega), ble_t (show 127 ≤ pc by omega), beq_f (show 127 < pc by omega), cond_true, cond_false]
theorem tn128 (pc : Nat) (h : 89 ≤ pc) : T128 pc = none := by
  unfold T128
  simp only [ble_t (show 45 ≤ pc by omega), ble_t (show 68 ≤ pc by omega), ble_t (show 79 ≤ pc by omega), ble_t (show 82 ≤ pc by omega), ble_t (show 85 ≤ pc by omega), ble_t (show 88 ≤ pc by omega), beq_f (show 88 < pc by omega), cond_true, cond_false]
theorem tn129 (pc : Nat) (h : 22 ≤ pc) : T129 pc = none := by
  unfold T129
  simp only [ble_t (show 10 ≤ pc by omega), ble_t (show 15 ≤ pc by omega), ble_t (show 18 ≤ pc by omega), ble_t (show 21 ≤ pc by omega), beq_f (show 21 < pc by omega), cond_true, cond_false]
theorem tn130 (pc : Nat) (h : 36 ≤ pc) : T130 pc = none := by
  unfold T130
  simp only [ble_t (show 18 ≤ pc by omega), ble_t (show 27 ≤ pc by omega), ble_t (show 31 ≤ pc by omega), ble_t (show 34 ≤ pc by omega), ble_t (show 35 ≤ pc by omega), beq_f (show 35 < pc by omega), cond_true, cond_false]
theorem tn131 (pc : Nat) (h : 56 ≤ pc) : T131 pc = none := by
  unfold T131
  simp only [ble_t (show 24 ≤ pc by omega), ble_t (show 39 ≤ pc by omega), ble_t (show 48 ≤ pc by omega), ble_t (show 52 ≤ pc by omega), ble_t (show 55 ≤ pc by omega), beq_f (show 55 < pc by omega), cond_true, cond_false]
theorem tn132 (pc : Nat) (h : 40 ≤ pc) : T132 pc = none := by
  unfold T132
  simp only [ble_t (show 18 ≤ pc by omega), ble_t (show 28 ≤ pc by omega), ble_t (show 34 ≤ pc by omega), ble_t (show 37 ≤ pc by omega), ble_t (show 39 ≤ pc by omega), beq_f (show 39 < pc by omega), cond_true, cond_false]
theorem tn133 (pc : Nat) (h : 125 ≤ pc) : T133 pc = none := by
  unfold T133
  simp only [ble_t (show 61 ≤ pc by omega), ble_t (show 91 ≤ pc by omega), ble_t (show 104 ≤ pc by omega), ble_t (show 114 ≤ pc by omega), ble_t (show 120 ≤ pc by omega), ble_t (show 123 ≤ pc by omega), ble_t (show 124 ≤ pc by omega), beq_f (show 124 < pc by omega), cond_true, cond_false]
theorem tn134 (pc : Nat) (h : 378 ≤ pc) : T134 pc = none := by
  unfold T134
  simp only [ble_t (show 202 ≤ pc by omega), ble_t (show 299 ≤ pc by omega), ble_t (show 337 ≤ pc by omega), ble_t (show 352 ≤ pc by omega), ble_t (show 364 ≤ pc by omega), ble_t (show 370 ≤ pc by omega), ble_t (show 374 ≤ pc by omega), ble_t (show 377 ≤ pc by omega), beq_f (show 377 < pc by omega), cond_true, cond_false]
theorem tn135 (pc : Nat) (h : 16 ≤ pc) : T135 pc = none := by
  unfold T135
  simp only [ble_t (show 7 ≤ pc by omega), ble_t (show 11 ≤ pc by omega), ble_t (show 14 ≤ pc by omega), ble_t (show 15 ≤ pc by omega), beq_f (show 15 < pc by omega), cond_true, cond_false]
theorem tn136 (pc : Nat) (h : 22 ≤ pc) : T136 pc = none := by
  unfold T136
  simp only [ble_t (show 12 ≤ pc by omega), ble_t (show 16 ≤ pc by omega), ble_t (show 20 ≤ pc by omega), ble_t (show 21 ≤ pc by omega), beq_f (show 21 < pc by omega), cond_true, cond_false]
theorem tn137 (pc : Nat) (h : 12 ≤ pc) : T137 pc = none := by
  unfold T137
  simp only [ble_t (show 6 ≤ pc by omega), ble_t (show 8 ≤ pc by omega), ble_t (show 11 ≤ pc by omega), beq_f (show 11 < pc by omega), cond_true, cond_false]
theorem tn138 (pc : Nat) (h : 77 ≤ pc) : T138 pc = none := by
  unfold T138
  simp only [ble_t (show 39 ≤ pc by omega), ble_t (show 59 ≤ pc by omega), ble_t (show 67 ≤ pc by omega), ble_t (show 74 ≤ pc by omega), ble_t (show 75 ≤ pc by omega), ble_t (show 76 ≤ pc by omega), beq_f (show 76 < pc by omega), cond_true, cond_false]
theorem tn139 (pc : Nat) (h : 43 ≤ pc) : T139 pc = none := by
  unfold T139
  simp only [ble_t (show 21 ≤ pc by omega), ble_t (show 35 ≤ pc by omega), ble_t (show 38 ≤ pc by omega), ble_t (show 39 ≤ pc by omega), ble_t (show 42 ≤ pc by omega), beq_f (show 42 < pc by omega), cond_true, cond_false]
theorem tn140 (pc : Nat) (h : 217 ≤ pc) : T140 pc = none := by
  unfold T140
  simp only [ble_t (show 110 ≤ pc by omega), ble_t (show 164 ≤ pc by omega), ble_t (show 191 ≤ pc by omega), ble_t (show 202 ≤ pc by omega), ble_t (show 208 ≤ pc by omega), ble_t (show 212 ≤ pc by omega), ble_t (show 215 ≤ pc by omega), ble_t (show 216 ≤ pc by omega), beq_f (show 216 < pc by omega), cond_true, cond_false]
theorem tn141 (pc : Nat) (h : 123 ≤ pc) : T141 pc = none := by
  unfold T141
  simp only [ble_t (show 85 ≤ pc by omega), ble_t (show 103 ≤ pc by omega), ble_t (show 113 ≤ pc by omega), ble_t (show 118 ≤ pc by omega), ble_t (show 119 ≤ pc by omega), ble_t (show 122 ≤ pc by omega), beq_f (show 122 < pc by omega), cond_true, cond_false]
theorem tn142 (pc : Nat) (h : 154 ≤ pc) : T142 pc = none := by
  unfold T142
  simp only [ble_t (show 101 ≤ pc by omega), ble_t (show 125 ≤ pc by omega), ble_t (show 140 ≤ pc by omega), ble_t (show 148 ≤ pc by omega), ble_t (show 150 ≤ pc by omega), ble_t (show 153 ≤ pc by omega), beq_f (show 153 < pc by omega), cond_true, cond_false]
theorem tn143 (pc : Nat) (h : 182 ≤ pc) : T143 pc = none := by
  unfold T143
  simp only [ble_t (show 90 ≤ pc by omega), ble_t (show 139 ≤ pc by omega), ble_t (show 161 ≤ pc by omega), ble_t (show 172 ≤ pc by omega), ble_t (show 175 ≤ pc by omega), ble_t (show 179 ≤ pc by omega), ble_t (show 181 ≤ pc by omega), beq_f (show 181 < pc by omega), cond_true, cond_false]
theorem tn144 (pc : Nat) (h : 66 ≤ pc) : T144 pc = none := by
  unfold T144
  simp only [ble_t (show 31 ≤ pc by omega), ble_t (show 48 ≤ pc by omega), ble_t (show 57 ≤ pc by omega), ble_t (show 61 ≤ pc by omega), ble_t (show 62 ≤ pc by omega), ble_t (show 65 ≤ pc by omega), beq_f (show 65 < pc by omega), cond_true, cond_false]
theorem tn145 (pc : Nat) (h : 66 ≤ pc) : T145 pc = none := by
  unfold T145
  simp only [ble_t (show 33 ≤ pc by omega), ble_t (show 48 ≤ pc by omega), ble_t (show 57 ≤ pc by omega), ble_t (show 61 ≤ pc by omega), ble_t (show 62 ≤ pc by omega), ble_t (show 65 ≤ pc by omega), beq_f (show 65 < pc by omega), cond_true, cond_false]
theorem tn146 (pc : Nat) (h : 38 ≤ pc) : T146 pc = none := by
  unfold T146
  simp only [ble_t (show 18 ≤ pc by omega), ble_t (show 29 ≤ pc by omega), ble_t (show 33 ≤ pc by omega), ble_t (show 36 ≤ pc by omega), ble_t (show 37 ≤ pc by omega), beq_f (show 37 < pc by omega), cond_true, cond_false]
theorem tn147 (pc : Nat) (h : 172 ≤ pc) : T147 pc = none := by
  unfold T147
  simp only [ble_t (show 110 ≤ pc by omega), ble_t (show 140 ≤ pc by omega), ble_t (show 156 ≤ pc by omega), ble_t (show 164 ≤ pc by omega), ble_t (show 166 ≤ pc by omega), ble_t (show 168 ≤ pc by omega), ble_t (show 171 ≤ pc by omega), beq_f (show 171 < pc by omega), cond_true, cond_false]
theorem tn148 (pc : Nat) (h : 30 ≤ pc) : T148 pc = none := by
  unfold T148
  simp only [ble_t (show 15 ≤ pc by omega), ble_t (show 21 ≤ pc by omega), ble_t (show 25 ≤ pc by omega), ble_t (show 28 ≤ pc by omega), ble_t (show 29 ≤ pc by omega), beq_f (show 29 < pc by omega), cond_true, cond_false]
theorem tn149 (pc : Nat) (h : 58 ≤ pc) : T149 pc = none := by
  unfold T149
  simp only [ble_t (show 30 ≤ pc by omega), ble_t (show 44 ≤ pc by omega), ble_t (show 50 ≤ pc by omega), ble_t (show 56 ≤ pc by omega), ble_t (show 57 ≤ pc by omega), beq_f (show 57 < pc by omega), cond_true, cond_false]
theorem tn150 (pc : Nat) (h : 51 ≤ pc) : T150 pc = none := by
  unfold T150
  simp only [ble_t (show 26 ≤ pc by omega), ble_t (show 37 ≤ pc by omega), ble_t (show 43 ≤ pc by omega), ble_t (show 47 ≤ pc by omega), ble_t (show 50 ≤ pc by omega), beq_f (show 50 < pc by omega), cond_true, cond_false]
theorem tn151 (pc : Nat) (h : 25 ≤ pc) : T151 pc = none := by
  unfold T151
  simp only [ble_t (show 12 ≤ pc by omega), ble_t (show 19 ≤ pc by omega), ble_t (show 23 ≤ pc by omega), ble_t (show 24 ≤ pc by omega), beq_f (show 24 < pc by omega), cond_true, cond_false]
theorem tn152 (pc : Nat) (h : 16 ≤ pc) : T152 pc = none := by
  unfold T152
  simp only [ble_t (show 8 ≤ pc by omega), ble_t (show 12 ≤ pc by omega), ble_t (show 15 ≤ pc by omega), beq_f (show 15 < pc by omega), cond_true, cond_false]
theorem tn153 (pc : Nat) (h : 40 ≤ pc) : T153 pc = none := by
  unfold T153
  simp only [ble_t (show 22 ≤ pc by omega), ble_t (show 30 ≤ pc by omega), ble_t (show 35 ≤ pc by omega), ble_t (show 36 ≤ pc by omega), ble_t (show 39 ≤ pc by omega), beq_f (show 39 < pc by omega), cond_true, cond_false]
theorem tn154 (pc : Nat) (h : 102 ≤ pc) : T154 pc = none := by
  unfold T154
  simp only [ble_t (show 94 ≤ pc by omega), ble_t (show 98 ≤ pc by omega), ble_t (show 100 ≤ pc by omega), ble_t (show 101 ≤ pc by omega), beq_f (show 101 < pc by omega), cond_true, cond_false]
theorem tn155 (pc : Nat) (h : 37 ≤ pc) : T155 pc = none := by
  unfold T155
  simp only [ble_t (show 20 ≤ pc by omega), ble_t (show 27 ≤ pc by omega), ble_t (show 32 ≤ pc by omega), ble_t (show 35 ≤ pc by omega), ble_t (show 36 ≤ pc by omega), beq_f (show 36 < pc by omega), cond_true, cond_false]
theorem tn156 (pc : Nat) (h : 81 ≤ pc) : T156 pc = none := by
  unfold T156
  simp only [ble_t (show 36 ≤ pc by omega), ble_t (show 57 ≤ pc by omega), ble_t (show 71 ≤ pc by omega), ble_t (show 76 ≤ pc by omega), ble_t (show 77 ≤ pc by omega), ble_t (show 80 ≤ pc by omega), beq_f (show 80 < pc by omega), cond_true, cond_false]
theorem tn157 (pc : Nat) (h : 155 ≤ pc) : T157 pc = none := by
  unfold T157
  simp only [ble_t (show 76 ≤ pc by omega), ble_t (show 117 ≤ pc by omega), ble_t (show 134 ≤ pc by omega), ble_t (show 143 ≤ pc by omega), ble_t (show 150 ≤ pc by omega), ble_t (show 151 ≤ pc by omega), ble_t (show 154 ≤ pc by omega), beq_f (show 154 < pc by omega), cond_true, cond_false]
theorem tn158 (pc : Nat) (h : 67 ≤ pc) : T158 pc = none := by
  unfold T158
  simp only [ble_t (show 38 ≤ pc by omega), ble_t (show 50 ≤ pc by omega), ble_t (show 58 ≤ pc by omega), ble_t (show 60 ≤ pc by omega), ble_t (show 63 ≤ pc by omega), ble_t (show 66 ≤ pc by omega), beq_f (show 66 < pc by omega), cond_true, cond_false]
theorem tn159 (pc : Nat) (h : 58 ≤ pc) : T159 pc = none := by
  unfold T159
  simp only [ble_t (show 33 ≤ pc by omega), ble_t (show 44 ≤ pc by omega), ble_t (show 50 ≤ pc by omega), ble_t (show 54 ≤ pc by omega), ble_t (show 57 ≤ pc by omega), beq_f (show 57 < pc by omega), cond_true, cond_false]
theorem tn160 (pc : Nat) (h : 56 ≤ pc) : T160 pc = none := by
  unfold T160
  simp only [ble_t (show 29 ≤ pc by omega), ble_t (show 42 ≤ pc by omega), ble_t (show 50 ≤ pc by omega), ble_t (show 52 ≤ pc by omega), ble_t (show 55 ≤ pc by omega), beq_f (show 55 < pc by omega), cond_true, cond_false]
theorem tn161 (pc : Nat) (h : 45 ≤ pc) : T161 pc = none := by
  unfold T161
  simp only [ble_t (show 22 ≤ pc by omega), ble_t (show 34 ≤ pc by omega), ble_t (show 38 ≤ pc by omega), ble_t (show 41 ≤ pc by omega), ble_t (show 44 ≤ pc by omega), beq_f (show 44 < pc by omega), cond_true, cond_false]
theorem tn162 (pc : Nat) (h : 45 ≤ pc) : T162 pc = none := by
  unfold T162
  simp only [ble_t (show 22 ≤ pc by omega), ble_t (show 34 ≤ pc by omega), ble_t (show 38 ≤ pc by omega), ble_t (show 41 ≤ pc by omega), ble_t (show 44 ≤ pc by omega), beq_f (show 44 < pc by omega), cond_true, cond_false]
theorem tn163 (pc : Nat) (h : 88 ≤ pc) : T163 pc = none := by
  unfold T163
  simp only [ble_t (show 47 ≤ pc by omega), ble_t (show 70 ≤ pc by omega), ble_t (show 81 ≤ pc by omega), ble_t (show 84 ≤ pc by omega), ble_t (show 86 ≤ pc by omega), ble_t (show 87 ≤ pc by omega), beq_f (show 87 < pc by omega), cond_true, cond_false]
theorem tn164 (pc : Nat) (h : 235 ≤ pc) : T164 pc = none := by
  unfold T164
  simp only [ble_t (show 128 ≤ pc by omega), ble_t (show 182 ≤ pc by omega), ble_t (show 207 ≤ pc by omega), ble_t (show 221 ≤ pc by omega), ble_t (show 226 ≤ pc by omega), ble_t (show 230 ≤ pc by omega), ble_t (show 233 ≤ pc by omega), ble_t (show 234 ≤ pc by omega), beq_f (show 234 < pc by omega), cond_true, cond_false]
theorem tn165 (pc : Nat) (h : 232 ≤ pc) : T165 pc = none := by
  unfold T165
  simp only [ble_t (show 170 ≤ pc by omega), ble_t (show 199 ≤ pc by omega), ble_t (show 216 ≤ pc by omega), ble_t (show 223 ≤ pc by omega), ble_t (show 227 ≤ pc by omega), ble_t (show 230 ≤ pc by omega), ble_t (show 231 ≤ pc by omega), beq_f (show 231 < pc by omega), cond_true, cond_false]
theorem tn166 (pc : Nat) (h : 195 ≤ pc) : T166 pc = none := by
  unfold T166
  simp only [ble_t (show 100 ≤ pc by omega), ble_t (show 145 ≤ pc by omega), ble_t (show 170 ≤ pc by omega), ble_t (show 182 ≤ pc by omega), ble_t (show 189 ≤ pc by omega), ble_t (show 193 ≤ pc by omega), ble_t (show 194 ≤ pc by omega), beq_f (show 194 < pc by omega), cond_true, cond_false]
theorem tn167 (pc : Nat) (h : 80 ≤ pc) : T167 pc = none := by
  unfold T167
  simp only [ble_t (show 36 ≤ pc by omega), ble_t (show 59 ≤ pc by omega), ble_t (show 69 ≤ pc by omega), ble_t (show 72 ≤ pc by omega), ble_t (show 78 ≤ pc by omega), ble_t (show 79 ≤ pc by omega), beq_f (show 79 < pc by omega), cond_true, cond_false]
theorem tn168 (pc : Nat) (h : 22 ≤ pc) : T168 pc = none := by
  unfold T168
  simp only [ble_t (show 12 ≤ pc by omega), ble_t (show 16 ≤ pc by omega), ble_t (show 20 ≤ pc by omega), ble_t (show 21 ≤ pc by omega), beq_f (show 21 < pc by omega), cond_true, cond_false]
theorem tn169 (pc : Nat) (h : 118 ≤ pc) : T169 pc = none := by
  unfold T169
  simp only [ble_t (show 59 ≤ pc by omega), ble_t (show 85 ≤ pc by omega), ble_t (show 98 ≤ pc by omega), ble_t (show 108 ≤ pc by omega), ble_t (show 113 ≤ pc by omega), ble_t (show 116 ≤ pc by omega), ble_t (show 117 ≤ pc by omega), beq_f (show 117 < pc by omega), cond_true, cond_false]
theorem tn170 (pc : Nat) (h : 41 ≤ pc) : T170 pc = none := by
  unfold T170
  simp only [ble_t (show 21 ≤ pc by omega), ble_t (show 30 ≤ pc by omega), ble_t (show 36 ≤ pc by omega), ble_t (show 39 ≤ pc by omega), ble_t (show 40 ≤ pc by omega), beq_f (show 40 < pc by omega), cond_true, cond_false]
theorem tn171 (pc : Nat) (h : 20 ≤ pc) : T171 pc = none := by
  unfold T171
  simp only [ble_t (show 10 ≤ pc by omega), ble_t (show 15 ≤ pc by omega), ble_t (show 16 ≤ pc by omega), ble_t (show 19 ≤ pc by omega), beq_f (show 19 < pc by omega), cond_true, cond_false]
theorem tn172 (pc : Nat) (h : 6 ≤ pc) : T172 pc = none := by
  unfold T172
  simp only [ble_t (show 2 ≤ pc by omega), ble_t (show 5 ≤ pc by omega), beq_f (show 5 < pc by omega), cond_true, cond_false]
theorem tn173 (pc : Nat) (h : 9 ≤ pc) : T173 pc = none := by
  unfold T173
  simp only [ble_t (show 3 ≤ pc by omega), ble_t (show 7 ≤ pc by omega), ble_t (show 8 ≤ pc by omega), beq_f (show 8 < pc by omega), cond_true, cond_false]
theorem tn174 (pc : Nat) (h : 42 ≤ pc) : T174 pc = none := by
  unfold T174
  simp only [ble_t (show 21 ≤ pc by omega), ble_t (show 31 ≤ pc by omega), ble_t (show 34 ≤ pc by omega), ble_t (show 40 ≤ pc by omega), ble_t (show 41 ≤ pc by omega), beq_f (show 41 < pc by omega), cond_true, cond_false]
theorem tn175 (pc : Nat) (h : 39 ≤ pc) : T175 pc = none := by
  unfold T175
  simp only [ble_t (show 18 ≤ pc by omega), ble_t (show 28 ≤ pc by omega), ble_t (show 31 ≤ pc by omega), ble_t (show 37 ≤ pc by omega), ble_t (show 38 ≤ pc by omega), beq_f (show 38 < pc by omega), cond_true, cond_false]
theorem tn176 (pc : Nat) (h : 56 ≤ pc) : T176 pc = none := by
  unfold T176
  simp only [ble_t (show 28 ≤ pc by omega), ble_t (show 41 ≤ pc by omega), ble_t (show 47 ≤ pc by omega), ble_t (show 51 ≤ pc by omega), ble_t (show 54 ≤ pc by omega), ble_t (show 55 ≤ pc by omega), beq_f (show 55 < pc by omega), cond_true, cond_false]
theorem tn177 (pc : Nat) (h : 92 ≤ pc) : T177 pc = none := by
  unfold T177
  simp only [ble_t (show 42 ≤ pc by omega), ble_t (show 69 ≤ pc by omega), ble_t (show 79 ≤ pc by omega), ble_t (show 86 ≤ pc by omega), ble_t (show 90 ≤ pc by omega), ble_t (show 91 ≤ pc by omega), beq_f (show 91 < pc by omega), cond_true, cond_false]
theorem tn178 (pc : Nat) (h : 48 ≤ pc) : T178 pc = none := by
  unfold T178
  simp only [ble_t (show 25 ≤ pc by omega), ble_t (show 35 ≤ pc by omega), ble_t (show 42 ≤ pc by omega), ble_t (show 46 ≤ pc by omega), ble_t (show 47 ≤ pc by omega), beq_f (show 47 < pc by omega), cond_true, cond_false]
theorem tn179 (pc : Nat) (h : 303 ≤ pc) : T179 pc = none := by
  unfold T179
  simp only [ble_t (show 157 ≤ pc by omega), ble_t (show 235 ≤ pc by omega), ble_t (show 272 ≤ pc by omega), ble_t (show 286 ≤ pc by omega), ble_t (show 293 ≤ pc by omega), ble_t (show 298 ≤ pc by omega), ble_t (show 301 ≤ pc by omega), ble_t (show 302 ≤ pc by omega), beq_f (show 302 < pc by omega), cond_true, cond_false]
theorem tn180 (pc : Nat) (h : 30 ≤ pc) : T180 pc = none := by
  unfold T180
  simp only [ble_t (show 15 ≤ pc by omega), ble_t (show 21 ≤ pc by omega), ble_t (show 25 ≤ pc by omega), ble_t (show 28 ≤ pc by omega), ble_t (show 29 ≤ pc by omega), beq_f (show 29 < pc by omega), cond_true, cond_false]
theorem tn181 (pc : Nat) (h : 35 ≤ pc) : T181 pc = none := by
  unfold T181
  simp only [ble_t (show 19 ≤ pc by omega), ble_t (show 25 ≤ pc by omega), ble_t (show 29 ≤ pc by omega), ble_t (show 32 ≤ pc by omega), ble_t (show 34 ≤ pc by omega), beq_f (show 34 < pc by omega), cond_true, cond_false]
theorem tn182 (pc : Nat) (h : 13 ≤ pc) : T182 pc = none := by
  unfold T182
  simp only [ble_t (show 8 ≤ pc by omega), ble_t (show 10 ≤ pc by omega), ble_t (show 11 ≤ pc by omega), ble_t (show 12 ≤ pc by omega), beq_f (show 12 < pc by omega), cond_true, cond_false]
theorem tn183 (pc : Nat) (h : 68 ≤ pc) : T183 pc = none := by
  unfold T183
  simp only [ble_t (show 32 ≤ pc by omega), ble_t (show 50 ≤ pc by omega), ble_t (show 57 ≤ pc by omega), ble_t (show 61 ≤ pc by omega), ble_t (show 64 ≤ pc by omega), ble_t (show 67 ≤ pc by omega), beq_f (show 67 < pc by omega), cond_true, cond_false]
theorem tn184 (pc : Nat) (h : 46 ≤ pc) : T184 pc = none := by
  unfold T184
  simp only [ble_t (show 22 ≤ pc by omega), ble_t (show 34 ≤ pc by omega), ble_t (show 39 ≤ pc by omega), ble_t (show 42 ≤ pc by omega), ble_t (show 45 ≤ pc by omega), beq_f (show 45 < pc by omega), cond_true, cond_false]
theorem tn185 (pc : Nat) (h : 10 ≤ pc) : T185 pc = none := by
  unfold T185
  simp only [ble_t (show 5 ≤ pc by omega), ble_t (show 6 ≤ pc by omega), ble_t (show 9 ≤ pc by omega), beq_f (show 9 < pc by omega), cond_true, cond_false]
theorem tn186 (pc : Nat) (h : 49 ≤ pc) : T186 pc = none := by
  unfold T186
  simp only [ble_t (show 21 ≤ pc by omega), ble_t (show 35 ≤ pc by omega), ble_t (show 41 ≤ pc by omega), ble_t (show 47 ≤ pc by omega), ble_t (show 48 ≤ pc by omega), beq_f (show 48 < pc by omega), cond_true, cond_false]
theorem tn187 (pc : Nat) (h : 18 ≤ pc) : T187 pc = none := by
  unfold T187
  simp only [ble_t (show 8 ≤ pc by omega), ble_t (show 13 ≤ pc by omega), ble_t (show 16 ≤ pc by omega), ble_t (show 17 ≤ pc by omega), beq_f (show 17 < pc by omega), cond_true, cond_false]
theorem tn188 (pc : Nat) (h : 101 ≤ pc) : T188 pc = none := by
  unfold T188
  simp only [ble_t (show 52 ≤ pc by omega), ble_t (show 76 ≤ pc by omega), ble_t (show 89 ≤ pc by omega), ble_t (show 97 ≤ pc by omega), ble_t (show 99 ≤ pc by omega), ble_t (show 100 ≤ pc by omega), beq_f (show 100 < pc by omega), cond_true, cond_false]
theorem tn189 (pc : Nat) (h : 50 ≤ pc) : T189 pc = none := by
  unfold T189
  simp only [ble_t (show 24 ≤ pc by omega), ble_t (show 35 ≤ pc by omega), ble_t (show 42 ≤ pc by omega), ble_t (show 46 ≤ pc by omega), ble_t (show 49 ≤ pc by omega), beq_f (show 49 < pc by omega), cond_true, cond_false]
theorem tn190 (pc : Nat) (h : 164 ≤ pc) : T190 pc = none := by
  unfold T190
  simp only [ble_t (show 85 ≤ pc by omega), ble_t (show 126 ≤ pc by omega), ble_t (show 145 ≤ pc by omega), ble_t (show 154 ≤ pc by omega), ble_t (show 159 ≤ pc by omega), ble_t (show 160 ≤ pc by omega), ble_t (show 163 ≤ pc by omega), beq_f (show 163 < pc by omega), cond_true, cond_false]
theorem tn191 (pc : Nat) (h : 84 ≤ pc) : T191 pc = none := by
  unfold T191
  simp only [ble_t (show 43 ≤ pc by omega), ble_t (show 61 ≤ pc by omega), ble_t (show 69 ≤ pc by omega), ble_t (show 74 ≤ pc by omega), ble_t (show 80 ≤ pc by omega), ble_t (show 83 ≤ pc by omega), beq_f (show 83 < pc by omega), cond_true, cond_false]
theorem tn192 (pc : Nat) (h : 36 ≤ pc) : T192 pc = none := by
  unfold T192
  simp only [ble_t (show 17 ≤ pc by omega), ble_t (show 26 ≤ pc by omega), ble_t (show 31 ≤ pc by omega), ble_t (show 32 ≤ pc by omega), ble_t (show 35 ≤ pc by omega), beq_f (show 35 < pc by omega), cond_true, cond_false]
theorem tn193 (pc : Nat) (h : 41 ≤ pc) : T193 pc = none := by
  unfold T193
  simp only [ble_t (show 17 ≤ pc by omega), ble_t (show 29 ≤ pc by omega), ble_t (show 36 ≤ pc by omega), ble_t (show 39 ≤ pc by omega), ble_t (show 40 ≤ pc by omega), beq_f (show 40 < pc by omega), cond_true, cond_false]
theorem tn194 (pc : Nat) (h : 48 ≤ pc) : T194 pc = none := by
  unfold T194
  simp only [ble_t (show 21 ≤ pc by omega), ble_t (show 35 ≤ pc by omega), ble_t (show 42 ≤ pc by omega), ble_t (show 46 ≤ pc by omega), ble_t (show 47 ≤ pc by omega), beq_f (show 47 < pc by omega), cond_true, cond_false]
theorem tn195 (pc : Nat) (h : 133 ≤ pc) : T195 pc = none := by
  unfold T195
  simp only [ble_t (show 65 ≤ pc by omega), ble_t (show 99 ≤ pc by omega), ble_t (show 115 ≤ pc by omega), ble_t (show 125 ≤ pc by omega), ble_t (show 127 ≤ pc by omega), ble_t (show 130 ≤ pc by omega), ble_t (show 132 ≤ pc by omega), beq_f (show 132 < pc by omega), cond_true, cond_false]
theorem tn196 (pc : Nat) (h : 99 ≤ pc) : T196 pc = none := by
  unfold T196
  simp only [ble_t (show 43 ≤ pc by omega), ble_t (show 71 ≤ pc by omega), ble_t (show 84 ≤ pc by omega), ble_t (show 91 ≤ pc by omega), ble_t (show 96 ≤ pc by omega), ble_t (show 98 ≤ pc by omega), beq_f (show 98 < pc by omega), cond_true, cond_false]
theorem tn197 (pc : Nat) (h : 110 ≤ pc) : T197 pc = none := by
  unfold T197
  simp only [ble_t (show 54 ≤ pc by omega), ble_t (show 81 ≤ pc by omega), ble_t (show 94 ≤ pc by omega), ble_t (show 104 ≤ pc by omega), ble_t (show 108 ≤ pc by omega), ble_t (show 109 ≤ pc by omega), beq_f (show 109 < pc by omega), cond_true, cond_false]
theorem tn198 (pc : Nat) (h : 136 ≤ pc) : T198 pc = none := by
  unfold T198
  simp only [ble_t (show 66 ≤ pc by omega), ble_t (show 101 ≤ pc by omega), ble_t (show 118 ≤ pc by omega), ble_t (show 125 ≤ pc by omega), ble_t (show 130 ≤ pc by omega), ble_t (show 133 ≤ pc by omega), ble_t (show 135 ≤ pc by omega), beq_f (show 135 < pc by omega), cond_true, cond_false]
theorem tn199 (pc : Nat) (h : 20 ≤ pc) : T199 pc = none := by
  unfold T199
  simp only [ble_t (show 10 ≤ pc by omega), ble_t (show 15 ≤ pc by omega), ble_t (show 16 ≤ pc by omega), ble_t (show 19 ≤ pc by omega), beq_f (show 19 < pc by omega), cond_true, cond_false]
theorem tn200 (pc : Nat) (h : 63 ≤ pc) : T200 pc = none := by
  unfold T200
  simp only [ble_t (show 29 ≤ pc by omega), ble_t (show 43 ≤ pc by omega), ble_t (show 54 ≤ pc by omega), ble_t (show 58 ≤ pc by omega), ble_t (show 61 ≤ pc by omega), ble_t (show 62 ≤ pc by omega), beq_f (show 62 < pc by omega), cond_true, cond_false]
theorem tn201 (pc : Nat) (h : 79 ≤ pc) : T201 pc = none := by
  unfold T201
  simp only [ble_t (show 37 ≤ pc by omega), ble_t (show 55 ≤ pc by omega), ble_t (show 69 ≤ pc by omega), ble_t (show 74 ≤ pc by omega), ble_t (show 77 ≤ pc by omega), ble_t (show 78 ≤ pc by omega), beq_f (show 78 < pc by omega), cond_true, cond_false]
theorem tn202 (pc : Nat) (h : 143 ≤ pc) : T202 pc = none := by
  unfold T202
  simp only [ble_t (show 68 ≤ pc by omega), ble_t (show 100 ≤ pc by omega), ble_t (show 119 ≤ pc by omega), ble_t (show 130 ≤ pc by omega), ble_t (show 137 ≤ pc by omega), ble_t (show 140 ≤ pc by omega), ble_t (show 142 ≤ pc by omega), beq_f (show 142 < pc by omega), cond_true, cond_false]
theorem tn203 (pc : Nat) (h : 93 ≤ pc) : T203 pc = none := by
  unfold T203
  simp only [ble_t (show 42 ≤ pc by omega), ble_t (show 66 ≤ pc by omega), ble_t (show 78 ≤ pc by omega), ble_t (show 84 ≤ pc by omega), ble_t (show 90 ≤ pc by omega), ble_t (show 92 ≤ pc by omega), beq_f (show 92 < pc by omega), cond_true, cond_false]
theorem tn204 (pc : Nat) (h : 88 ≤ pc) : T204 pc = none := by
  unfold T204
  simp only [ble_t (show 39 ≤ pc by omega), ble_t (show 64 ≤ pc by omega), ble_t (show 71 ≤ pc by omega), ble_t (show 79 ≤ pc by omega), ble_t (show 85 ≤ pc by omega), ble_t (show 87 ≤ pc by omega), beq_f (show 87 < pc by omega), cond_true, cond_false]
theorem tn205 (pc : Nat) (h : 30 ≤ pc) : T205 pc = none := by
  unfold T205
  simp only [ble_t (show 15 ≤ pc by omega), ble_t (show 24 ≤ pc by omega), ble_t (show 28 ≤ pc by omega), ble_t (show 29 ≤ pc by omega), beq_f (show 29 < pc by omega), cond_true, cond_false]
theorem tn206 (pc : Nat) (h : 66 ≤ pc) : T206 pc = none := by
  unfold T206
  simp only [ble_t (show 31 ≤ pc by omega), ble_t (show 47 ≤ pc by omega), ble_t (show 57 ≤ pc by omega), ble_t (show 61 ≤ pc by omega), ble_t (show 64 ≤ pc by omega), ble_t (show 65 ≤ pc by omega), beq_f (show 65 < pc by omega), cond_true, cond_false]
theorem tn207 (pc : Nat) (h : 34 ≤ pc) : T207 pc = none := by
  unfold T207
  simp only [ble_t (show 16 ≤ pc by omega), ble_t (show 25 ≤ pc by omega), ble_t (show 29 ≤ pc by omega), ble_t (show 30 ≤ pc by omega), ble_t (show 33 ≤ pc by omega), beq_f (show 33 < pc by omega), cond_true, cond_false]
theorem tn208 (pc : Nat) (h : 95 ≤ pc) : T208 pc = none := by
  unfold T208
  simp only [ble_t (show 47 ≤ pc by omega), ble_t (show 67 ≤ pc by omega), ble_t (show 81 ≤ pc by omega), ble_t (show 88 ≤ pc by omega), ble_t (show 93 ≤ pc by omega), ble_t (show 94 ≤ pc by omega), beq_f (show 94 < pc by omega), cond_true, cond_false]
theorem tn209 (pc : Nat) (h : 83 ≤ pc) : T209 pc = none := by
  unfold T209
  simp only [ble_t (show 36 ≤ pc by omega), ble_t (show 58 ≤ pc by omega), ble_t (show 72 ≤ pc by omega), ble_t (show 77 ≤ pc by omega), ble_t (show 80 ≤ pc by omega), ble_t (show 82 ≤ pc by omega), beq_f (show 82 < pc by omega), cond_true, cond_false]
theorem tn210 (pc : Nat) (h : 98 ≤ pc) : T210 pc = none := by
  unfold T210
  simp only [ble_t (show 47 ≤ pc by omega), ble_t (show 72 ≤ pc by omega), ble_t (show 85 ≤ pc by omega), ble_t (show 89 ≤ pc by omega), ble_t (show 95 ≤ pc by omega), ble_t (show 97 ≤ pc by omega), beq_f (show 97 < pc by omega), cond_true, cond_false]
theorem tn211 (pc : Nat) (h : 120 ≤ pc) : T211 pc = none := by
  unfold T211
  simp only [ble_t (show 57 ≤ pc by omega), ble_t (show 83 ≤ pc by omega), ble_t (show 103 ≤ pc by omega), ble_t (show 112 ≤ pc by omega), ble_t (show 117 ≤ pc by omega), ble_t (show 119 ≤ pc by omega), beq_f (show 119 < pc by omega), cond_true, cond_false]
theorem tn212 (pc : Nat) (h : 253 ≤ pc) : T212 pc = none := by
  unfold T212
  simp only [ble_t (show 129 ≤ pc by omega), ble_t (show 190 ≤ pc by omega), ble_t (show 221 ≤ pc by omega), ble_t (show 239 ≤ pc by omega), ble_t (show 246 ≤ pc by omega), ble_t (show 248 ≤ pc by omega), ble_t (show 249 ≤ pc by omega), ble_t (show 252 ≤ pc by omega), beq_f (show 252 < pc by omega), cond_true, cond_false]
theorem tn213 (pc : Nat) (h : 53 ≤ pc) : T213 pc = none := by
  unfold T213
  simp only [ble_t (show 29 ≤ pc by omega), ble_t (show 43 ≤ pc by omega), ble_t (show 47 ≤ pc by omega), ble_t (show 49 ≤ pc by omega), ble_t (show 52 ≤ pc by omega), beq_f (show 52 < pc by omega), cond_true, cond_false]
theorem tn214 (pc : Nat) (h : 43 ≤ pc) : T214 pc = none := by
  unfold T214
  simp only [ble_t (show 21 ≤ pc by omega), ble_t (show 30 ≤ pc by omega), ble_t (show 37 ≤ pc by omega), ble_t (show 41 ≤ pc by omega), ble_t (show 42 ≤ pc by omega), beq_f (show 42 < pc by omega), cond_true, cond_false]
theorem tn215 (pc : Nat) (h : 30 ≤ pc) : T215 pc = none := by
  unfold T215
  simp only [ble_t (show 18 ≤ pc by omega), ble_t (show 25 ≤ pc by omega), ble_t (show 27 ≤ pc by omega), ble_t (show 28 ≤ pc by omega), ble_t (show 29 ≤ pc by omega), beq_f (show 29 < pc by omega), cond_true, cond_false]
theorem tn216 (pc : Nat) (h : 30 ≤ pc) : T216 pc = none := by
  unfold T216
  simp only [ble_t (show 13 ≤ pc by omega), ble_t (show 23 ≤ pc by omega), ble_t (show 25 ≤ pc by omega), ble_t (show 28 ≤ pc by omega), ble_t (show 29 ≤ pc by omega), beq_f (show 29 < pc by omega), cond_true, cond_false]
theorem tn217 (pc : Nat) (h : 147 ≤ pc) : T217 pc = none := by
  unfold T217
  simp only [ble_t (show 78 ≤ pc by omega), ble_t (show 108 ≤ pc by omega), ble_t (show 125 ≤ pc by omega), ble_t (show 135 ≤ pc by omega), ble_t (show 142 ≤ pc by omega), ble_t (show 143 ≤ pc by omega), ble_t (show 146 ≤ pc by omega), beq_f (show 146 < pc by omega), cond_true, cond_false]
theorem tn218 (pc : Nat) (h : 152 ≤ pc) : T218 pc = none := by
  unfold T218
  simp only [ble_t (show 82 ≤ pc by omega), ble_t (show 113 ≤ pc by omega), ble_t (show 130 ≤ pc by omega), ble_t (show 140 ≤ pc by omega), ble_t (show 147 ≤ pc by omega), ble_t (show 148 ≤ pc by omega), ble_t (show 151 ≤ pc by omega), beq_f (show 151 < pc by omega), cond_true, cond_false]
theorem tn219 (pc : Nat) (h : 12 ≤ pc) : T219 pc = none := by
  unfold T219
  simp only [ble_t (show 6 ≤ pc by omega), ble_t (show 8 ≤ pc by omega), ble_t (show 11 ≤ pc by omega), beq_f (show 11 < pc by omega), cond_true, cond_false]
theorem tn220 (pc : Nat) (h : 30 ≤ pc) : T220 pc = none := by
  unfold T220
  simp only [ble_t (show 17 ≤ pc by omega), ble_t (show 21 ≤ pc by omega), ble_t (show 25 ≤ pc by omega), ble_t (show 26 ≤ pc by omega), ble_t (show 29 ≤ pc by omega), beq_f (show 29 < pc by omega), cond_true, cond_false]
theorem tn221 (pc : Nat) (h : 29 ≤ pc) : T221 pc = none := by
  unfold T221
  simp only [ble_t (show 15 ≤ pc by omega), ble_t (show 23 ≤ pc by omega), ble_t (show 27 ≤ pc by omega), ble_t (show 28 ≤ pc by omega), beq_f (show 28 < pc by omega), cond_true, cond_false]
theorem tn222 (pc : Nat) (h : 51 ≤ pc) : T222 pc = none := by
  unfold T222
  simp only [ble_t (show 28 ≤ pc by omega), ble_t (show 39 ≤ pc by omega), ble_t (show 45 ≤ pc by omega), ble_t (show 49 ≤ pc by omega), ble_t (show 50 ≤ pc by omega), beq_f (show 50 < pc by omega), cond_true, cond_false]
theorem tn223 (pc : Nat) (h : 62 ≤ pc) : T223 pc = none := by
  unfold T223
  simp only [ble_t (show 30 ≤ pc by omega), ble_t (show 45 ≤ pc by omega), ble_t (show 53 ≤ pc by omega), ble_t (show 57 ≤ pc by omega), ble_t (show 60 ≤ pc by omega), ble_t (show 61 ≤ pc by omega), beq_f (show 61 < pc by omega), cond_true, cond_false]
theorem tn224 (pc : Nat) (h : 9 ≤ pc) : T224 pc = none := by
  unfold T224
  simp only [ble_t (show 5 ≤ pc by omega), ble_t (show 7 ≤ pc by omega), ble_t (show 8 ≤ pc by omega), beq_f (show 8 < pc by omega), cond_true, cond_false]
theorem tn225 (pc : Nat) (h : 15 ≤ pc) : T225 pc = none := by
  unfold T225
  simp only [ble_t (show 8 ≤ pc by omega), ble_t (show 12 ≤ pc by omega), ble_t (show 13 ≤ pc by omega), ble_t (show 14 ≤ pc by omega), beq_f (show 14 < pc by omega), cond_true, cond_false]
theorem tn226 (pc : Nat) (h : 81 ≤ pc) : T226 pc = none := by
  unfold T226
  simp only [ble_t (show 40 ≤ pc by omega), ble_t (show 59 ≤ pc by omega), ble_t (show 68 ≤ pc by omega), ble_t (show 75 ≤ pc by omega), ble_t (show 77 ≤ pc by omega), ble_t (show 80 ≤ pc by omega), beq_f (show 80 < pc by omega), cond_true, cond_false]
theorem tn227 (pc : Nat) (h : 15 ≤ pc) : T227 pc = none := by
  unfold T227
  simp only [ble_t (show 8 ≤ pc by omega), ble_t (show 12 ≤ pc by omega), ble_t (show 13 ≤ pc by omega), ble_t (show 14 ≤ pc by omega), beq_f (show 14 < pc by omega), cond_true, cond_false]
theorem tn228 (pc : Nat) (h : 14 ≤ pc) : T228 pc = none := by
  unfold T228
  simp only [ble_t (show 7 ≤ pc by omega), ble_t (show 9 ≤ pc by omega), ble_t (show 12 ≤ pc by omega), ble_t (show 13 ≤ pc by omega), beq_f (show 13 < pc by omega), cond_true, cond_false]
theorem tn229 (pc : Nat) (h : 87 ≤ pc) : T229 pc = none := by
  unfold T229
  simp only [ble_t (show 46 ≤ pc by omega), ble_t (show 65 ≤ pc by omega), ble_t (show 74 ≤ pc by omega), ble_t (show 81 ≤ pc by omega), ble_t (show 83 ≤ pc by omega), ble_t (show 86 ≤ pc by omega), beq_f (show 86 < pc by omega), cond_true, cond_false]
theorem tn230 (pc : Nat) (h : 10 ≤ pc) : T230 pc = none := by
  unfold T230
  simp only [ble_t (show 6 ≤ pc by omega), ble_t (show 8 ≤ pc by omega), ble_t (show 9 ≤ pc by omega), beq_f (show 9 < pc by omega), cond_true, cond_false]
theorem tn231 (pc : Nat) (h : 15 ≤ pc) : T231 pc = none := by
  unfold T231
  simp only [ble_t (show 8 ≤ pc by omega), ble_t (show 12 ≤ pc by omega), ble_t (show 13 ≤ pc by omega), ble_t (show 14 ≤ pc by omega), beq_f (show 14 < pc by omega), cond_true, cond_false]
theorem tn232 (pc : Nat) (h : 58 ≤ pc) : T232 pc = none := by
  unfold T232
  simp only [ble_t (show 27 ≤ pc by omega), ble_t (show 42 ≤ pc by omega), ble_t (show 51 ≤ pc by omega), ble_t (show 53 ≤ pc by omega), ble_t (show 54 ≤ pc by omega), ble_t (show 57 ≤ pc by omega), beq_f (show 57 < pc by omega), cond_true, cond_false]
theorem tn233 (pc : Nat) (h : 21 ≤ pc) : T233 pc = none := by
  unfold T233
  simp only [ble_t (show 11 ≤ pc by omega), ble_t (show 15 ≤ pc by omega), ble_t (show 19 ≤ pc by omega), ble_t (show 20 ≤ pc by omega), beq_f (show 20 < pc by omega), cond_true, cond_false]
theorem tn234 (pc : Nat) (h : 57 ≤ pc) : T234 pc = none := by
  unfold T234
  simp only [ble_t (show 29 ≤ pc by omega), ble_t (show 43 ≤ pc by omega), ble_t (show 50 ≤ pc by omega), ble_t (show 52 ≤ pc by omega), ble_t (show 53 ≤ pc by omega), ble_t (show 56 ≤ pc by omega), beq_f (show 56 < pc by omega), cond_true, cond_false]
theorem tn235 (pc : Nat) (h : 72 ≤ pc) : T235 pc = none := by
  unfold T235
  simp only [ble_t (show 37 ≤ pc by omega), ble_t (show 53 ≤ pc by omega), ble_t (show 62 ≤ pc by omega), ble_t (show 67 ≤ pc by omega), ble_t (show 68 ≤ pc by omega), ble_t (show 71 ≤ pc by omega), beq_f (show 71 < pc by omega), cond_true, cond_false]
theorem tn236 (pc : Nat) (h : 63 ≤ pc) : T236 pc = none := by
  unfold T236
  simp only [ble_t (show 47 ≤ pc by omega), ble_t (show 56 ≤ pc by omega), ble_t (show 60 ≤ pc by omega), ble_t (show 61 ≤ pc by omega), ble_t (show 62 ≤ pc by omega), beq_f (show 62 < pc by omega), cond_true, cond_false]
theorem tn237 (pc : Nat) (h : 7 ≤ pc) : T237 pc = none := by
  unfold T237
  simp only [ble_t (show 2 ≤ pc by omega), ble_t (show 3 ≤ pc by omega), ble_t (show 6 ≤ pc by omega), beq_f (show 6 < pc by omega), cond_true, cond_false]
theorem tn238 (pc : Nat) (h : 31 ≤ pc) : T238 pc = none := by
  unfold T238
  simp only [ble_t (show 17 ≤ pc by omega), ble_t (show 26 ≤ pc by omega), ble_t (show 28 ≤ pc by omega), ble_t (show 29 ≤ pc by omega), ble_t (show 30 ≤ pc by omega), beq_f (show 30 < pc by omega), cond_true, cond_false]
theorem tn239 (pc : Nat) (h : 82 ≤ pc) : T239 pc = none := by
  unfold T239
  simp only [ble_t (show 41 ≤ pc by omega), ble_t (show 59 ≤ pc by omega), ble_t (show 70 ≤ pc by omega), ble_t (show 74 ≤ pc by omega), ble_t (show 80 ≤ pc by omega), ble_t (show 81 ≤ pc by omega), beq_f (show 81 < pc by omega), cond_true, cond_false]
theorem tn240 (pc : Nat) (h : 57 ≤ pc) : T240 pc = none := by
  unfold T240
  simp only [ble_t (show 28 ≤ pc by omega), ble_t (show 41 ≤ pc by omega), ble_t (show 47 ≤ pc by omega), ble_t (show 51 ≤ pc by omega), ble_t (show 54 ≤ pc by omega), ble_t (show 56 ≤ pc by omega), beq_f (show 56 < pc by omega), cond_true, cond_false]
theorem tn241 (pc : Nat) (h : 98 ≤ pc) : T241 pc = none := by
  unfold T241
  simp only [ble_t (show 49 ≤ pc by omega), ble_t (show 74 ≤ pc by omega), ble_t (show 86 ≤ pc by omega), ble_t (show 94 ≤ pc by omega), ble_t (show 96 ≤ pc by omega), ble_t (show 97 ≤ pc by omega), beq_f (show 97 < pc by omega), cond_true, cond_false]
theorem tn242 (pc : Nat) (h : 27 ≤ pc) : T242 pc = none := by
  unfold T242
  simp only [ble_t (show 16 ≤ pc by omega), ble_t (show 23 ≤ pc by omega), ble_t (show 25 ≤ pc by omega), ble_t (show 26 ≤ pc by omega), beq_f (show 26 < pc by omega), cond_true, cond_false]
theorem tn243 (pc : Nat) (h : 188 ≤ pc) : T243 pc = none := by
  unfold T243
  simp only [ble_t (show 95 ≤ pc by omega), ble_t (show 139 ≤ pc by omega), ble_t (show 164 ≤ pc by omega), ble_t (show 175 ≤ pc by omega), ble_t (show 179 ≤ pc by omega), ble_t (show 185 ≤ pc by omega), ble_t (show 187 ≤ pc by omega), beq_f (show 187 < pc by omega), cond_true, cond_false]
theorem tn244 (pc : Nat) (h : 76 ≤ pc) : T244 pc = none := by
  unfold T244
  simp only [ble_t (show 37 ≤ pc by omega), ble_t (show 56 ≤ pc by omega), ble_t (show 67 ≤ pc by omega), ble_t (show 70 ≤ pc by omega), ble_t (show 73 ≤ pc by omega), ble_t (show 75 ≤ pc by omega), beq_f (show 75 < pc by omega), cond_true, cond_false]
theorem tn245 (pc : Nat) (h : 15 ≤ pc) : T245 pc = none := by
  unfold T245
  simp only [ble_t (show 7 ≤ pc by omega), ble_t (show 13 ≤ pc by omega), ble_t (show 14 ≤ pc by omega), beq_f (show 14 < pc by omega), cond_true, cond_false]
theorem tn246 (pc : Nat) (h : 7 ≤ pc) : T246 pc = none := by
  unfold T246
  simp only [ble_t (show 2 ≤ pc by omega), ble_t (show 3 ≤ pc by omega), ble_t (show 6 ≤ pc by omega), beq_f (show 6 < pc by omega), cond_true, cond_false]
theorem tn247 (pc : Nat) (h : 37 ≤ pc) : T247 pc = none := by
  unfold T247
  simp only [ble_t (show 17 ≤ pc by omega), ble_t (show 27 ≤ pc by omega), ble_t (show 29 ≤ pc by omega), ble_t (show 30 ≤ pc by omega), ble_t (show 36 ≤ pc by omega), beq_f (show 36 < pc by omega), cond_true, cond_false]
theorem tn248 (pc : Nat) (h : 19 ≤ pc) : T248 pc = none := by
  unfold T248
  simp only [ble_t (show 10 ≤ pc by omega), ble_t (show 14 ≤ pc by omega), ble_t (show 17 ≤ pc by omega), ble_t (show 18 ≤ pc by omega), beq_f (show 18 < pc by omega), cond_true, cond_false]
theorem tn249 (pc : Nat) (h : 11 ≤ pc) : T249 pc = none := by
  unfold T249
  simp only [ble_t (show 5 ≤ pc by omega), ble_t (show 9 ≤ pc by omega), ble_t (show 10 ≤ pc by omega), beq_f (show 10 < pc by omega), cond_true, cond_false]
theorem tn250 (pc : Nat) (h : 17 ≤ pc) : T250 pc = none := by
  unfold T250
  simp only [ble_t (show 8 ≤ pc by omega), ble_t (show 12 ≤ pc by omega), ble_t (show 15 ≤ pc by omega), ble_t (show 16 ≤ pc by omega), beq_f (show 16 < pc by omega), cond_true, cond_false]
theorem tn251 (pc : Nat) (h : 33 ≤ pc) : T251 pc = none := by
  unfold T251
  simp only [ble_t (show 14 ≤ pc by omega), ble_t (show 24 ≤ pc by omega), ble_t (show 28 ≤ pc by omega), ble_t (show 31 ≤ pc by omega), ble_t (show 32 ≤ pc by omega), beq_f (show 32 < pc by omega), cond_true, cond_false]
theorem tn252 (pc : Nat) (h : 37 ≤ pc) : T252 pc = none := by
  unfold T252
  simp only [ble_t (show 18 ≤ pc by omega), ble_t (show 28 ≤ pc by omega), ble_t (show 31 ≤ pc by omega), ble_t (show 33 ≤ pc by omega), ble_t (show 36 ≤ pc by omega), beq_f (show 36 < pc by omega), cond_true, cond_false]
theorem tn253 (pc : Nat) (h : 53 ≤ pc) : T253 pc = none := by
  unfold T253
  simp only [ble_t (show 27 ≤ pc by omega), ble_t (show 40 ≤ pc by omega), ble_t (show 46 ≤ pc by omega), ble_t (show 49 ≤ pc by omega), ble_t (show 51 ≤ pc by omega), ble_t (show 52 ≤ pc by omega), beq_f (show 52 < pc by omega), cond_true, cond_false]
theorem tn254 (pc : Nat) (h : 21 ≤ pc) : T254 pc = none := by
  unfold T254
  simp only [ble_t (show 7 ≤ pc by omega), ble_t (show 13 ≤ pc by omega), ble_t (show 17 ≤ pc by omega), ble_t (show 20 ≤ pc by omega), beq_f (show 20 < pc by omega), cond_true, cond_false]
theorem tn255 (pc : Nat) (h : 23 ≤ pc) : T255 pc = none := by
  unfold T255
  simp only [ble_t (show 9 ≤ pc by omega), ble_t (show 15 ≤ pc by omega), ble_t (show 19 ≤ pc by omega), ble_t (show 22 ≤ pc by omega), beq_f (show 22 < pc by omega), cond_true, cond_false]
theorem tn256 (pc : Nat) (h : 23 ≤ pc) : T256 pc = none := by
  unfold T256
  simp only [ble_t (show 12 ≤ pc by omega), ble_t (show 17 ≤ pc by omega), ble_t (show 21 ≤ pc by omega), ble_t (show 22 ≤ pc by omega), beq_f (show 22 < pc by omega), cond_true, cond_false]
theorem tn257 (pc : Nat) (h : 24 ≤ pc) : T257 pc = none := by
  unfold T257
  simp only [ble_t (show 13 ≤ pc by omega), ble_t (show 18 ≤ pc by omega), ble_t (show 22 ≤ pc by omega), ble_t (show 23 ≤ pc by omega), beq_f (show 23 < pc by omega), cond_true, cond_false]
theorem tn258 (pc : Nat) (h : 21 ≤ pc) : T258 pc = none := by
  unfold T258
  simp only [ble_t (show 10 ≤ pc by omega), ble_t (show 17 ≤ pc by omega), ble_t (show 19 ≤ pc by omega), ble_t (show 20 ≤ pc by omega), beq_f (show 20 < pc by omega), cond_true, cond_false]
theorem tn259 (pc : Nat) (h : 43 ≤ pc) : T259 pc = none := by
  unfold T259
  simp only [ble_t (show 20 ≤ pc by omega), ble_t (show 32 ≤ pc by omega), ble_t (show 37 ≤ pc by omega), ble_t (show 41 ≤ pc by omega), ble_t (show 42 ≤ pc by omega), beq_f (show 42 < pc by omega), cond_true, cond_false]
theorem tn260 (pc : Nat) (h : 1488 ≤ pc) : T260 pc = none := by
  unfold T260
  simp only [ble_t (show 837 ≤ pc by omega), ble_t (show 1180 ≤ pc by omega), ble_t (show 1332 ≤ pc by omega), ble_t (show 1404 ≤ pc by omega), ble_t (show 1442 ≤ pc by omega), ble_t (show 1462 ≤ pc by omega), ble_t (show 1472 ≤ pc by omega), ble_t (show 1480 ≤ pc by omega), ble_t (show 1486 ≤ pc by omega), ble_t (show 1487 ≤ pc by omega), beq_f (show 1487 < pc by omega), cond_true, cond_false]
set_option maxRecDepth 100000 in
theorem ck_lt : ∀ y, y < 261 → ckM y = true := lt_s (lt_s (lt_s (lt_s (lt_s (lt_s (lt_s (lt_s (lt_s (lt_s (lt_s (lt_s (lt_s (lt_s (lt_s (lt_s (lt_s (lt_s (lt_s (lt_s (lt_s (lt_s (lt_s (lt_s (lt_s (lt_s (lt_s (lt_s (lt_s (lt_s (lt_s (lt_s (lt_s (lt_s (lt_s (lt_s (lt_s (lt_s (lt_s (lt_s (lt_s (lt_s (lt_s (lt_s (lt_s (lt_s (lt_s (lt_s (lt_s (lt_s (lt_s (lt_s (lt_s (lt_s (lt_s (lt_s (lt_s (lt_s (lt_s (lt_s (lt_s (lt_s (lt_s (lt_s (lt_s (lt_s (lt_s (lt_s (lt_s (lt_s (lt_s (lt_s (lt_s (lt_s (lt_s (lt_s (lt_s (lt_s (lt_s (lt_s (lt_s (lt_s (lt_s (lt_s (lt_s (lt_s (lt_s (lt_s (lt_s (lt_s (lt_s (lt_s (lt_s (lt_s (lt_s (lt_s (lt_s (lt_s (lt_s (lt_s (lt_s (lt_s (lt_s (lt_s (lt_s (lt_s (lt_s (lt_s (lt_s (lt_s (lt_s (lt_s (lt_s (lt_s (lt_s (lt_s (lt_s (lt_s (lt_s (lt_s (lt_s (lt_s (lt_s (lt_s (lt_s (lt_s (lt_s (lt_s (lt_s (lt_s (lt_s (lt_s (lt_s (lt_s (lt_s (lt_s (lt_s (lt_s (lt_s (lt_s (lt_s (lt_s (lt_s (lt_s (lt_s (lt_s (lt_s (lt_s (lt_s (lt_s (lt_s (lt_s (lt_s (lt_s (lt_s (lt_s (lt_s (lt_s (lt_s (lt_s (lt_s (lt_s (lt_s (lt_s (lt_s (lt_s (lt_s (lt_s (lt_s (lt_s (lt_s (lt_s (lt_s (lt_s (lt_s (lt_s (lt_s (lt_s (lt_s (lt_s (lt_s (lt_s (lt_s (lt_s (lt_s (lt_s (lt_s (lt_s (lt_s (lt_s (lt_s (lt_s (lt_s (lt_s (lt_s (lt_s (lt_s (lt_s (lt_s (lt_s (lt_s (lt_s (lt_s (lt_s (lt_s (lt_s (lt_s (lt_s (lt_s (lt_s (lt_s (lt_s (lt_s (lt_s (lt_s (lt_s (lt_s (lt_s (lt_s (lt_s (lt_s (lt_s (lt_s (lt_s (lt_s (lt_s (lt_s (lt_s (lt_s (lt_s (lt_s (lt_s (lt_s (lt_s (lt_s (lt_s (lt_s (lt_s (lt_s (lt_s (lt_s (lt_s (lt_s (lt_s (lt_s (lt_s (lt_s (lt_s (lt_s (lt_s (lt_s (lt_s (lt_s (lt_s (lt_s (lt_s (lt_s (lt_s (lt_s (lt_s (lt_s (lt_0) (ck0)) (ck1)) (ck2)) (ck3)) (ck4)) (ck5)) (ck6)) (ck7)) (ck8)) (ck9)) (ck10)) (ck11)) (ck12)) (ck13)) (ck14)) (ck15)) (ck16)) (ck17)) (ck18)) (ck19)) (ck20)) (ck21)) (ck22)) (ck23)) (ck24)) (ck25)) (ck26)) (ck27)) (ck28)) (ck29)) (ck30)) (ck31)) (ck32)) (ck33)) (ck34)) (ck35)) (ck36)) (ck37)) (ck38)) (ck39)) (ck40)) (ck41)) (ck42)) (ck43)) (ck44)) (ck45)) (ck46)) (ck47)) (ck48)) (ck49)) (ck50)) (ck51)) (ck52)) (ck53)) (ck54)) (ck55)) (ck56)) (ck57)) (ck58)) (ck59)) (ck60)) (ck61)) (ck62)) (ck63)) (ck64)) (ck65)) (ck66)) (ck67)) (ck68)) (ck69)) (ck70)) (ck71)) (ck72)) (ck73)) (ck74)) (ck75)) (ck76)) (ck77)) (ck78)) (ck79)) (ck80)) (ck81)) (ck82)) (ck83)) (ck84)) (ck85)) (ck86)) (ck87)) (ck88)) (ck89)) (ck90)) (ck91)) (ck92)) (ck93)) (ck94)) (ck95)) (ck96)) (ck97)) (ck98)) (ck99)) (ck100)) (ck101)) (ck102)) (ck103)) (ck104)) (ck105)) (ck106)) (ck107)) (ck108)) (ck109)) (ck110)) (ck111)) (ck112)) (ck113)) (ck114)) (ck115)) (ck116)) (ck117)) (ck118)) (ck119)) (ck120)) (ck121)) (ck122)) (ck123)) (ck124)) (ck125)) (ck126)) (ck127)) (ck128)) (ck129)) (ck130)) (ck131)) (ck132)) (ck133)) (ck134)) (ck135)) (ck136)) (ck137)) (ck138)) (ck139)) (ck140)) (ck141)) (ck142)) (ck143)) (ck144)) (ck145)) (ck146)) (ck147)) (ck148)) (ck149)) (ck150)) (ck151)) (ck152)) (ck153)) (ck154)) (ck155)) (ck156)) (ck157)) (ck158)) (ck159)) (ck160)) (ck161)) (ck162)) (ck163)) (ck164)) (ck165)) (ck166)) (ck167)) (ck168)) (ck169)) (ck170)) (ck171)) (ck172)) (ck173)) (ck174)) (ck175)) (ck176)) (ck177)) (ck178)) (ck179)) (ck180)) (ck181)) (ck182)) (ck183)) (ck184)) (ck185)) (ck186)) (ck187)) (ck188)) (ck189)) (ck190)) (ck191)) (ck192)) (ck193)) (ck194)) (ck195)) (ck196)) (ck197)) (ck198)) (ck199)) (ck200)) (ck201)) (ck202)) (ck203)) (ck204)) (ck205)) (ck206)) (ck207)) (ck208)) (ck209)) (ck210)) (ck211)) (ck212)) (ck213)) (ck214)) (ck215)) (ck216)) (ck217)) (ck218)) (ck219)) (ck220)) (ck221)) (ck222)) (ck223)) (ck224)) (ck225)) (ck226)) (ck227)) (ck228)) (ck229)) (ck230)) (ck231)) (ck232)) (ck233)) (ck234)) (ck235)) (ck236)) (ck237)) (ck238)) (ck239)) (ck240)) (ck241)) (ck242)) (ck243)) (ck244)) (ck245)) (ck246)) (ck247)) (ck248)) (ck249)) (ck250)) (ck251)) (ck252)) (ck253)) (ck254)) (ck255)) (ck256)) (ck257)) (ck258)) (ck259)) (ck260)
set_option maxRecDepth 100000 in
theorem tn_lt : ∀ y, y < 261 → ∀ pc, nby y ≤ pc → tbl y pc = none := lt_s (lt_s (lt_s (lt_s (lt_s (lt_s (lt_s (lt_s (lt_s (lt_s (lt_s (lt_s (lt_s (lt_s (lt_s (lt_s (lt_s (lt_s (lt_s (lt_s (lt_s (lt_s (lt_s (lt_s (lt_s (lt_s (lt_s (lt_s (lt_s (lt_s (lt_s (lt_s (lt_s (lt_s (lt_s (lt_s (lt_s (lt_s (lt_s (lt_s (lt_s (lt_s (lt_s (lt_s (lt_s (lt_s (lt_s (lt_s (lt_s (lt_s (lt_s (lt_s (lt_s (lt_s (lt_s (lt_s (lt_s (lt_s (lt_s (lt_s (lt_s (lt_s (lt_s (lt_s (lt_s (lt_s (lt_s (lt_s (lt_s (lt_s (lt_s (lt_s (lt_s (lt_s (lt_s (lt_s (lt_s (lt_s (lt_s (lt_s (lt_s (lt_s (lt_s (lt_s (lt_s (lt_s (lt_s (lt_s (lt_s (lt_s (lt_s (lt_s (lt_s (lt_s (lt_s (lt_s (lt_s (lt_s (lt_s (lt_s (lt_s (lt_s (lt_s (lt_s (lt_s (lt_s (lt_s (lt_s (lt_s (lt_s (lt_s (lt_s (lt_s (lt_s (lt_s (lt_s (lt_s (lt_s (lt_s (lt_s (lt_s (lt_s (lt_s (lt_s (lt_s (lt_s (lt_s (lt_s (lt_s (lt_s (lt_s (lt_s (lt_s (lt_s (lt_s (lt_s (lt_s (lt_s (lt_s (lt_s (lt_s (lt_s (lt_s (lt_s (lt_s (lt_s (lt_s (lt_s (lt_s (lt_s (lt_s (lt_s (lt_s (lt_s (lt_s (lt_s (lt_s (lt_s (lt_s (lt_s (lt_s (lt_s (lt_s (lt_s (lt_s (lt_s (lt_s (lt_s (lt_s (lt_s (lt_s (lt_s (lt_s (lt_s (lt_s (lt_s (lt_s (lt_s (lt_s (lt_s (lt_s (lt_s (lt_s (lt_s (lt_s (lt_s (lt_s (lt_s (lt_s (lt_s (lt_s (lt_s (lt_s (lt_s (lt_s (lt_s (lt_s (lt_s (lt_s (lt_s (lt_s (lt_s (lt_s (lt_s (lt_s (lt_s (lt_s (lt_s (lt_s (lt_s (lt_s (lt_s (lt_s (lt_s (lt_s (lt_s (lt_s (lt_s (lt_s (lt_s (lt_s (lt_s (lt_s (lt_s (lt_s (lt_s (lt_s (lt_s (lt_s (lt_s (lt_s (lt_s (lt_s (lt_s (lt_s (lt_s (lt_s (lt_s (lt_s (lt_s (lt_s (lt_s (lt_s (lt_s (lt_s (lt_s (lt_s (lt_s (lt_s (lt_s (lt_s (lt_s (lt_s (lt_s (lt_s (lt_s (lt_s (lt_s (lt_s (lt_s (lt_s (lt_0) (fun pc h => tn0 pc h)) (fun pc h => tn1 pc h)) (fun pc h => tn2 pc h)) (fun pc h => tn3 pc h)) (fun pc h => tn4 pc h)) (fun pc h => tn5 pc h)) (fun pc h => tn6 pc h)) (fun pc h => tn7 pc h)) (fun pc h => tn8 pc h)) (fun pc h => tn9 pc h)) (fun pc h => tn10 pc h)) (fun pc h => tn11 pc h)) (fun pc h => tn12 pc h)) (fun pc h => tn13 pc h)) (fun pc h => tn14 pc h)) (fun pc h => tn15 pc h)) (fun pc h => tn16 pc h)) (fun pc h => tn17 pc h)) (fun pc h => tn18 pc h)) (fun pc h => tn19 pc h)) (fun pc h => tn20 pc h)) (fun pc h => tn21 pc h)) (fun pc h => tn22 pc h)) (fun pc h => tn23 pc h)) (fun pc h => tn24 pc h)) (fun pc h => tn25 pc h)) (fun pc h => tn26 pc h)) (fun pc h => tn27 pc h)) (fun pc h => tn28 pc h)) (fun pc h => tn29 pc h)) (fun pc h => tn30 pc h)) (fun pc h => tn31 pc h)) (fun pc h => tn32 pc h)) (fun pc h => tn33 pc h)) (fun pc h => tn34 pc h)) (fun pc h => tn35 pc h)) (fun pc h => tn36 pc h)) (fun pc h => tn37 pc h)) (fun pc h => tn38 pc h)) (fun pc h => tn39 pc h)) (fun pc h => tn40 pc h)) (fun pc h => tn41 pc h)) (fun pc h => tn42 pc h)) (fun pc h => tn43 pc h)) (fun pc h => tn44 pc h)) (fun pc h => tn45 pc h)) (fun pc h => tn46 pc h)) (fun pc h => tn47 pc h)) (fun pc h => tn48 pc h)) (fun pc h => tn49 pc h)) (fun pc h => tn50 pc h)) (fun pc h => tn51 pc h)) (fun pc h => tn52 pc h)) (fun pc h => tn53 pc h)) (fun pc h => tn54 pc h)) (fun pc h => tn55 pc h)) (fun pc h => tn56 pc h)) (fun pc h => tn57 pc h)) (fun pc h => tn58 pc h)) (fun pc h => tn59 pc h)) (fun pc h => tn60 pc h)) (fun pc h => tn61 pc h)) (fun pc h => tn62 pc h)) (fun pc h => tn63 pc h)) (fun pc h => tn64 pc h)) (fun pc h => tn65 pc h)) (fun pc h => tn66 pc h)) (fun pc h => tn67 pc h)) (fun pc h => tn68 pc h)) (fun pc h => tn69 pc h)) (fun pc h => tn70 pc h)) (fun pc h => tn71 pc h)) (fun pc h => tn72 pc h)) (fun pc h => tn73 pc h)) (fun pc h => tn74 pc h)) (fun pc h => tn75 pc h)) (fun pc h => tn76 pc h)) (fun pc h => tn77 pc h)) (fun pc h => tn78 pc h)) (fun pc h => tn79 pc h)) (fun pc h => tn80 pc h)) (fun pc h => tn81 pc h)) (fun pc h => tn82 pc h)) (fun pc h => tn83 pc h)) (fun pc h => tn84 pc h)) (fun pc h => tn85 pc h)) (fun pc h => tn86 pc h)) (fun pc h => tn87 pc h)) (fun pc h => tn88 pc h)) (fun pc h => tn89 pc h)) (fun pc h => tn90 pc h)) (fun pc h => tn91 pc h)) (fun pc h => tn92 pc h)) (fun pc h => tn93 pc h)) (fun pc h => tn94 pc h)) (fun pc h => tn95 pc h)) (fun pc h => tn96 pc h)) (fun pc h => tn97 pc h)) (fun pc h => tn98 pc h)) (fun pc h => tn99 pc h)) (fun pc h => tn100 pc h)) (fun pc h => tn101 pc h)) (fun pc h => tn102 pc h)) (fun pc h => tn103 pc h)) (fun pc h => tn104 pc h)) (fun pc h => tn105 pc h)) (fun pc h => tn106 pc h)) (fun pc h => tn107 pc h)) (fun pc h => tn108 pc h)) (fun pc h => tn109 pc h)) (fun pc h => tn110 pc h)) (fun pc h => tn111 pc h)) (fun pc h => tn112 pc h)) (fun pc h => tn113 pc h)) (fun pc h => tn114 pc h)) (fun pc h => tn115 pc h)) (fun pc h => tn116 pc h)) (fun pc h => tn117 pc h)) (fun pc h => tn118 pc h)) (fun pc h => tn119 pc h)) (fun pc h => tn120 pc h)) (fun pc h => tn121 pc h)) (fun pc h => tn122 pc h)) (fun pc h => tn123 pc h)) (fun pc h => tn124 pc h)) (fun pc h => tn125 pc h)) (fun pc h => tn126 pc h)) (fun pc h => tn127 pc h)) (fun pc h => tn128 pc h)) (fun pc h => tn129 pc h)) (fun pc h => tn130 pc h)) (fun pc h => tn131 pc h)) (fun pc h => tn132 pc h)) (fun pc h => tn133 pc h)) (fun pc h => tn134 pc h)) (fun pc h => tn135 pc h)) (fun pc h => tn136 pc h)) (fun pc h => tn137 pc h)) (fun pc h => tn138 pc h)) (fun pc h => tn139 pc h)) (fun pc h => tn140 pc h)) (fun pc h => tn141 pc h)) (fun pc h => tn142 pc h)) (fun pc h => tn143 pc h)) (fun pc h => tn144 pc h)) (fun pc h => tn145 pc h)) (fun pc h => tn146 pc h)) (fun pc h => tn147 pc h)) (fun pc h => tn148 pc h)) (fun pc h => tn149 pc h)) (fun pc h => tn150 pc h)) (fun pc h => tn151 pc h)) (fun pc h => tn152 pc h)) (fun pc h => tn153 pc h)) (fun pc h => tn154 pc h)) (fun pc h => tn155 pc h)) (fun pc h => tn156 pc h)) (fun pc h => tn157 pc h)) (fun pc h => tn158 pc h)) (fun pc h => tn159 pc h)) (fun pc h => tn160 pc h)) (fun pc h => tn161 pc h)) (fun pc h => tn162 pc h)) (fun pc h => tn163 pc h)) (fun pc h => tn164 pc h)) (fun pc h => tn165 pc h)) (fun pc h => tn166 pc h)) (fun pc h => tn167 pc h)) (fun pc h => tn168 pc h)) (fun pc h => tn169 pc h)) (fun pc h => tn170 pc h)) (fun pc h => tn171 pc h)) (fun pc h => tn172 pc h)) (fun pc h => tn173 pc h)) (fun pc h => tn174 pc h)) (fun pc h => tn175 pc h)) (fun pc h => tn176 pc h)) (fun pc h => tn177 pc h)) (fun pc h => tn178 pc h)) (fun pc h => tn179 pc h)) (fun pc h => tn180 pc h)) (fun pc h => tn181 pc h)) (fun pc h => tn182 pc h)) (fun pc h => tn183 pc h)) (fun pc h => tn184 pc h)) (fun pc h => tn185 pc h)) (fun pc h => tn186 pc h)) (fun pc h => tn187 pc h)) (fun pc h => tn188 pc h)) (fun pc h => tn189 pc h)) (fun pc h => tn190 pc h)) (fun pc h => tn191 pc h)) (fun pc h => tn192 pc h)) (fun pc h => tn193 pc h)) (fun pc h => tn194 pc h)) (fun pc h => tn195 pc h)) (fun pc h => tn196 pc h)) (fun pc h => tn197 pc h)) (fun pc h => tn198 pc h)) (fun pc h => tn199 pc h)) (fun pc h => tn200 pc h)) (fun pc h => tn201 pc h)) (fun pc h => tn202 pc h)) (fun pc h => tn203 pc h)) (fun pc h => tn204 pc h)) (fun pc h => tn205 pc h)) (fun pc h => tn206 pc h)) (fun pc h => tn207 pc h)) (fun pc h => tn208 pc h)) (fun pc h => tn209 pc h)) (fun pc h => tn210 pc h)) (fun pc h => tn211 pc h)) (fun pc h => tn212 pc h)) (fun pc h => tn213 pc h)) (fun pc h => tn214 pc h)) (fun pc h => tn215 pc h)) (fun pc h => tn216 pc h)) (fun pc h => tn217 pc h)) (fun pc h => tn218 pc h)) (fun pc h => tn219 pc h)) (fun pc h => tn220 pc h)) (fun pc h => tn221 pc h)) (fun pc h => tn222 pc h)) (fun pc h => tn223 pc h)) (fun pc h => tn224 pc h)) (fun pc h => tn225 pc h)) (fun pc h => tn226 pc h)) (fun pc h => tn227 pc h)) (fun pc h => tn228 pc h)) (fun pc h => tn229 pc h)) (fun pc h => tn230 pc h)) (fun pc h => tn231 pc h)) (fun pc h => tn232 pc h)) (fun pc h => tn233 pc h)) (fun pc h => tn234 pc h)) (fun pc h => tn235 pc h)) (fun pc h => tn236 pc h)) (fun pc h => tn237 pc h)) (fun pc h => tn238 pc h)) (fun pc h => tn239 pc h)) (fun pc h => tn240 pc h)) (fun pc h => tn241 pc h)) (fun pc h => tn242 pc h)) (fun pc h => tn243 pc h)) (fun pc h => tn244 pc h)) (fun pc h => tn245 pc h)) (fun pc h => tn246 pc h)) (fun pc h => tn247 pc h)) (fun pc h => tn248 pc h)) (fun pc h => tn249 pc h)) (fun pc h => tn250 pc h)) (fun pc h => tn251 pc h)) (fun pc h => tn252 pc h)) (fun pc h => tn253 pc h)) (fun pc h => tn254 pc h)) (fun pc h => tn255 pc h)) (fun pc h => tn256 pc h)) (fun pc h => tn257 pc h)) (fun pc h => tn258 pc h)) (fun pc h => tn259 pc h)) (fun pc h => tn260 pc h)
theorem okM_of (y : Nat) (h : y ≤ 259) : okM y = true := by
  have h1 := ck_lt y (by omega)
  simp only [ckM, Bool.and_eq_true] at h1
  have h2 := h1.1
  rw [show Nat.beq y 260 = false by
    cases hb : Nat.beq y 260 with
    | false => rfl
    | true => have := Nat.eq_of_beq_eq_true hb; omega] at h2
  exact h2
theorem okE_of (y pc : Nat) (e : AE) (h : y ≤ 260) (he : tbl y pc = some e) : okE y pc e = true := by
  have h1 := ck_lt y (by omega)
  simp only [ckM, Bool.and_eq_true] at h1
  rcases Nat.lt_or_ge pc (nby y) with hp | hp
  · have h2 := List.all_eq_true.mp h1.2 pc (List.mem_range.mpr hp)
    rw [he] at h2
    exact h2
  · rw [tn_lt y (by omega) pc hp] at he
    cases he
