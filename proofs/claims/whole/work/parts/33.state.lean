/-! THE STATE, in numbers; how the class and the model hold it -/
abbrev Ch : Type := Nat × Nat × Nat × Nat
/-- a deed: what is fitted, now, what is led -/
abbrev De : Type := List En × Nat × Nat × Nat × Nat × Nat
abbrev Sg : Type := Nat × (Nat → Nat → Nat) × (List Ch × Nat) × List Nat × Option (List Ln) × (Nat → Sh) × List Nat × (Nat × List Nat) × De × Option De
def gN (g : Sg) : Nat := g.1
def gV (g : Sg) : Nat → Nat → Nat := g.2.1
def gG (g : Sg) : List Ch := g.2.2.1.1
def gU (g : Sg) : Nat := g.2.2.1.2
def gT (g : Sg) : List Nat := g.2.2.2.1
def gL (g : Sg) : Option (List Ln) := g.2.2.2.2.1
def gS (g : Sg) : Nat → Sh := g.2.2.2.2.2.1
def gB (g : Sg) : List Nat := g.2.2.2.2.2.2.1
def gR2 (g : Sg) : Nat × List Nat := g.2.2.2.2.2.2.2.1
def gD (g : Sg) : De := g.2.2.2.2.2.2.2.2.1
def gK (g : Sg) : Option De := g.2.2.2.2.2.2.2.2.2
def chP (c : Ch) : Nat := if c.1 < 6 then 6 * c.2.1 + c.1 else 36 + c.1
def LgC (I : IM) (C : List Ch) (u : Nat) : Prop := I 4 0 3 = iZ (u : Int) ∧ I 4 0 4 = iZ ((C.length - u : Nat) : Int) ∧ ∀ (k : Nat) (c : Ch), C[k]? = some c → I 21 0 k = iZ (chP c : Int) ∧ I 22 0 k = iZ (c.2.2.1 : Int) ∧ I 23 0 k = iZ (c.2.2.2 : Int)
def LgM (I : IM) (C : List Ch) (u : Nat) : Prop := I 10 0 13 = iZ (u : Int) ∧ I 10 0 14 = iZ ((C.length - u : Nat) : Int) ∧ ∀ (k : Nat) (c : Ch), C[k]? = some c → I 49 0 k = iZ (c.1 : Int) ∧ I 50 0 k = iZ (c.2.1 : Int) ∧ I 51 0 k = iZ (c.2.2.1 : Int) ∧ I 52 0 k = iZ (c.2.2.2 : Int)
def TpC (I : IM) (tp : List Nat) : Prop := I 3 0 10 = iZ (tp.length : Int) ∧ ∀ (k x : Nat), tp[k]? = some x → I 24 0 k = iZ (x : Int)
def TpM (I : IM) (tp : List Nat) : Prop := I 10 0 20 = iZ (tp.length : Int) ∧ ∀ (k x : Nat), tp[k]? = some x → I 53 0 k = (iZ (x : Int)).toInt8.toInt32
def BoC (I : IM) (bo : List Nat) : Prop := I 0 0 4 = iZ (bo.length : Int) ∧ ∀ (k x : Nat), bo[k]? = some x → I 38 0 k = iZ (x : Int)
def BoM (I : IM) (bo : List Nat) : Prop := I 10 0 72 = iZ (bo.length : Int) ∧ ∀ (k x : Nat), bo[k]? = some x → I 79 0 k = iZ (x : Int)
def TrC (I : IM) (t : Nat × List Nat) : Prop := I 0 0 5 = iZ (t.1 : Int) ∧ ∀ (k x : Nat), t.2[k]? = some x → I 39 0 k = iZ (x : Int)
def TrM (I : IM) (t : Nat × List Nat) : Prop := I 10 0 74 = iZ (t.1 : Int) ∧ ∀ (k x : Nat), t.2[k]? = some x → I 80 0 k = iZ (x : Int)
def DeC (w o : Nat) (I : IM) (d : De) : Prop := WkAt w 7 I d.1 0 d.2.1 ∧ I 2 o 1 = iZ (d.2.2.1 : Int) ∧ I 2 o 2 = iZ (d.2.2.2.1 : Int) ∧ I 2 o 3 = iZ (d.2.2.2.2.1 : Int) ∧ I 2 o 4 = iZ (d.2.2.2.2.2 : Int)
def DeM (I : IM) (d : De) : Prop := I 10 0 57 = iZ (d.2.1 : Int) ∧ I 10 0 58 = iZ (bs d.1 : Int) ∧ I 10 0 63 = iZ ((hl d.1).length : Int) ∧ (∀ (k : Nat) (e : En), (hl d.1)[k]? = some e → I 72 0 k = iZ (xs e : Int) ∧ I 73 0 k = iZ (xh e : Int) ∧ I 74 0 k = iZ (xc e : Int)) ∧ (∀ e ∈ d.1, I 71 0 (xj e) = iZ (xs e : Int)) ∧ I 75 0 0 = iZ (d.2.2.1 : Int) ∧ I 75 0 1 = iZ (d.2.2.2.1 : Int) ∧ I 75 0 2 = iZ (d.2.2.2.2.1 : Int) ∧ I 75 0 3 = iZ (d.2.2.2.2.2 : Int)
def KeM (I : IM) (d : De) : Prop := I 10 0 66 = iZ (d.2.1 : Int) ∧ I 10 0 67 = iZ (bs d.1 : Int) ∧ I 10 0 68 = iZ ((hl d.1).length : Int) ∧ (∀ (k : Nat) (e : En), (hl d.1)[k]? = some e → I 77 0 (3 * k) = iZ (xs e : Int) ∧ I 77 0 (3 * k + 1) = iZ (xh e : Int) ∧ I 77 0 (3 * k + 2) = iZ (xc e : Int)) ∧ (∀ e ∈ d.1, I 76 0 (xj e) = iZ (xs e : Int)) ∧ I 78 0 0 = iZ (d.2.2.1 : Int) ∧ I 78 0 1 = iZ (d.2.2.2.1 : Int) ∧ I 78 0 2 = iZ (d.2.2.2.2.1 : Int) ∧ I 78 0 3 = iZ (d.2.2.2.2.2 : Int)
/-- what may be told of a number -/
def maybe (q j v : Nat) : Prop := (q = 0 ∧ v ≤ 9) ∨ (q = 1 ∧ v ≤ 3) ∨ (q = 2 ∧ v ≤ 2) ∨ (q = 3 ∧ v ≤ 1) ∨ (q = 4 ∧ v < 128) ∨ (q = 5 ∧ v < 128) ∨ (q = 6 ∧ v ≤ 3) ∨ (q = 7 ∧ v ≤ 6) ∨ (q = 8 ∧ v ≤ 99) ∨ (q = 9 ∧ v ≤ 30) ∨ (q = 10 ∧ v ≤ 12)
def chOK (n : Nat) (c : Ch) : Prop := ((c.1 < 6 ∧ c.2.1 < n) ∨ (6 ≤ c.1 ∧ c.1 ≤ 10 ∧ c.2.1 = 0)) ∧ maybe c.1 c.2.1 c.2.2.1 ∧ maybe c.1 c.2.1 c.2.2.2
def P0 : Pa := ((0, 0, false, 7), fun _ _ => 0, fun _ _ => 0)
def DeOK (c n : Nat) (d : De) : Prop := Gd P0 d.1 d.2.1 ∧ (d.1.map xj).Nodup ∧ (∀ e ∈ d.1, xj e < n) ∧ d.2.1 ≤ 9999 + 120 * c ∧ d.2.2.1 ≤ c ∧ d.2.2.2.1 ≤ c ∧ d.2.2.2.2.1 ≤ 999 * c ∧ d.2.2.2.2.2 ≤ c
def XR (g : Sg) (I : IM) (J : JM) (b : Bool) : Prop := BnC I (gN g) (gV g) ∧ LgC I (gG g) (gU g) ∧ TpC I (gT g) ∧ LwCx b I (gL g) ∧ (∀ s, s < 6 → ShC I J s (gS g s)) ∧ BoC I (gB g) ∧ TrC I (gR2 g) ∧ DeC 1 0 I (gD g) ∧ (I 9 0 12 = bI (gK g).isSome ∧ WkR 0 35 I ∧ WkR 2 7 I ∧ ∀ d, gK g = some d → DeC 2 1 I d)
def MR (g : Sg) (I : IM) (J : JM) : Prop := BnM I (gN g) (gV g) ∧ LgM I (gG g) (gU g) ∧ TpM I (gT g) ∧ LwMx I (gL g) ∧ (∀ s, s < 6 → ShM I J s (gS g s)) ∧ BoM I (gB g) ∧ TrM I (gR2 g) ∧ DeM I (gD g) ∧ (I 10 0 65 = bI (gK g).isSome ∧ ∀ d, gK g = some d → KeM I d) ∧ I 10 0 44 = 0 ∧ I 10 0 45 = 0
def SOK (g : Sg) (c : Nat) : Prop := BnOK (gN g) (gV g) ∧ ((gG g).length ≤ 40 ∧ gU g ≤ (gG g).length ∧ ∀ x ∈ gG g, chOK (gN g) x) ∧ ((gT g).length ≤ 120 ∧ ∀ x ∈ gT g, x ≤ 255) ∧ (∀ s, s < 6 → ShOK (gS g s) ∧ (sK (gS g s) = 1 → sA (gS g s) < (gB g).length)) ∧ ((gB g).length ≤ 50 ∧ ∀ x ∈ gB g, x < 8) ∧ ((gR2 g).2.length = min (gR2 g).1 24 ∧ (gR2 g).1 ≤ 1000) ∧ DeOK c (gN g) (gD g) ∧ (∀ d, gK g = some d → DeOK c (gN g) d) ∧ c ≤ 512
theorem BnC.eq {I I' : IM} {n : Nat} {V : Nat → Nat → Nat} (h : BnC I n V) (e : ∀ s k, (s = 1 ∧ k = 1) ∨ s = 20 → I' s 0 k = I s 0 k) : BnC I' n V := ⟨(e _ _ (by omega)).trans h.1, fun j q hj hq => (e _ _ (by omega)).trans (h.2.1 j q hj hq), fun q h1 h2 => (e _ _ (by omega)).trans (h.2.2 q h1 h2)⟩
theorem BnM.eq {I I' : IM} {n : Nat} {V : Nat → Nat → Nat} (h : BnM I n V) (e : ∀ s k, (s = 10 ∧ (k = 1 ∨ 8 ≤ k ∧ k ≤ 12)) ∨ (43 ≤ s ∧ s ≤ 48) → I' s 0 k = I s 0 k) : BnM I' n V := ⟨(e _ _ (by omega)).trans h.1, fun j q hj hq => (e _ _ (by omega)).trans (h.2.1 j q hj hq), fun q h1 h2 => (e _ _ (by omega)).trans (h.2.2 q h1 h2)⟩
theorem LgC.eq {I I' : IM} {C : List Ch} {u : Nat} (h : LgC I C u) (e : ∀ s k, (s = 4 ∧ 3 ≤ k) ∨ (21 ≤ s ∧ s ≤ 23) → I' s 0 k = I s 0 k) : LgC I' C u := ⟨(e _ _ (by omega)).trans h.1, (e _ _ (by omega)).trans h.2.1, fun k c hk => ⟨(e _ _ (by omega)).trans (h.2.2 k c hk).1, (e _ _ (by omega)).trans (h.2.2 k c hk).2.1, (e _ _ (by omega)).trans (h.2.2 k c hk).2.2⟩⟩
theorem LgM.eq {I I' : IM} {C : List Ch} {u : Nat} (h : LgM I C u) (e : ∀ s k, (s = 10 ∧ (k = 13 ∨ k = 14)) ∨ (49 ≤ s ∧ s ≤ 52) → I' s 0 k = I s 0 k) : LgM I' C u := ⟨(e _ _ (by omega)).trans h.1, (e _ _ (by omega)).trans h.2.1, fun k c hk => ⟨(e _ _ (by omega)).trans (h.2.2 k c hk).1, (e _ _ (by omega)).trans (h.2.2 k c hk).2.1, (e _ _ (by omega)).trans (h.2.2 k c hk).2.2.1, (e _ _ (by omega)).trans (h.2.2 k c hk).2.2.2⟩⟩
theorem TpC.eq {I I' : IM} {tp : List Nat} (h : TpC I tp) (e : ∀ s k, (s = 3 ∧ k = 10) ∨ s = 24 → I' s 0 k = I s 0 k) : TpC I' tp := ⟨(e _ _ (by omega)).trans h.1, fun k x hk => (e _ _ (by omega)).trans (h.2 k x hk)⟩
theorem TpM.eq {I I' : IM} {tp : List Nat} (h : TpM I tp) (e : ∀ s k, (s = 10 ∧ k = 20) ∨ s = 53 → I' s 0 k = I s 0 k) : TpM I' tp := ⟨(e _ _ (by omega)).trans h.1, fun k x hk => (e _ _ (by omega)).trans (h.2 k x hk)⟩
theorem BoC.eq {I I' : IM} {tp : List Nat} (h : BoC I tp) (e : ∀ s k, (s = 0 ∧ k = 4) ∨ s = 38 → I' s 0 k = I s 0 k) : BoC I' tp := ⟨(e _ _ (by omega)).trans h.1, fun k x hk => (e _ _ (by omega)).trans (h.2 k x hk)⟩
theorem BoM.eq {I I' : IM} {tp : List Nat} (h : BoM I tp) (e : ∀ s k, (s = 10 ∧ k = 72) ∨ s = 79 → I' s 0 k = I s 0 k) : BoM I' tp := ⟨(e _ _ (by omega)).trans h.1, fun k x hk => (e _ _ (by omega)).trans (h.2 k x hk)⟩
theorem TrC.eq {I I' : IM} {tp : Nat × List Nat} (h : TrC I tp) (e : ∀ s k, (s = 0 ∧ k = 5) ∨ s = 39 → I' s 0 k = I s 0 k) : TrC I' tp := ⟨(e _ _ (by omega)).trans h.1, fun k x hk => (e _ _ (by omega)).trans (h.2 k x hk)⟩
theorem TrM.eq {I I' : IM} {tp : Nat × List Nat} (h : TrM I tp) (e : ∀ s k, (s = 10 ∧ k = 74) ∨ s = 80 → I' s 0 k = I s 0 k) : TrM I' tp := ⟨(e _ _ (by omega)).trans h.1, fun k x hk => (e _ _ (by omega)).trans (h.2 k x hk)⟩
theorem LwCx.eq {I I' : IM} {b : Bool} {lw : Option (List Ln)} (h : LwCx b I lw) (e : ∀ s k, (s = 3 ∧ k = 6) ∨ s = cs b → I' s 0 k = I s 0 k) : LwCx b I' lw := by
  cases lw with
  | none => exact (e _ _ (by omega)).trans h
  | some L => exact ⟨⟨(e _ _ (by omega)).trans h.1.1, h.1.2.1, fun k w hk => (e _ _ (by omega)).trans (h.1.2.2 k w hk)⟩, h.2⟩
theorem LwM.eq {I I' : IM} {L : List Ln} (h : LwM I L) (e : ∀ s k, (54 ≤ s ∧ s ≤ 58) → I' s 0 k = I s 0 k) : LwM I' L := by
  obtain ⟨m1, m2, m3, m4⟩ := h
  exact ⟨⟨m1.1, fun k w hk => ⟨(e _ _ (by omega)).trans (m1.2 k w hk).1, (e _ _ (by omega)).trans (m1.2 k w hk).2⟩⟩, (e _ _ (by omega)).trans m2, m3, fun L1 l L2 hL => ⟨(e _ _ (by omega)).trans (m4 L1 l L2 hL).1, (e _ _ (by omega)).trans (m4 L1 l L2 hL).2⟩⟩
theorem LwMx.eq {I I' : IM} {lw : Option (List Ln)} (h : LwMx I lw) (e : ∀ s k, (s = 10 ∧ k = 32) ∨ (54 ≤ s ∧ s ≤ 58) → I' s 0 k = I s 0 k) : LwMx I' lw := by
  cases lw with
  | none => exact (e _ _ (by omega)).trans h
  | some L => exact ⟨(e _ _ (by omega)).trans h.1, h.2.1.eq (fun s k hs => e s k (by omega)), h.2.2⟩
theorem ShC.eq {I I' : IM} {J J' : JM} {s : Nat} {q : Sh} (h : ShC I J s q) (e : ∀ k, I' 6 s k = I 6 s k) (eJ : ∀ k, J' 41 s k = J 41 s k) : ShC I' J' s q := ⟨(e _).trans h.1, fun z => (e _).trans (h.2.1 z), fun z => ⟨(e _).trans (h.2.2 z).1, (e _).trans (h.2.2 z).2.1, fun k hk => (eJ _).trans ((h.2.2 z).2.2 k hk)⟩⟩
theorem ShM.eq {I I' : IM} {J J' : JM} {s : Nat} {q : Sh} (h : ShM I J s q) (e : ∀ t k, t = 81 ∨ t = 82 → I' t 0 k = I t 0 k) (eJ : ∀ k, J' 83 0 k = J 83 0 k) : ShM I' J' s q := ⟨(e _ _ (by omega)).trans h.1, fun z => ⟨(e _ _ (by omega)).trans (h.2 z).1, fun k hk => (eJ _).trans ((h.2 z).2 k hk)⟩⟩
theorem DeC.eq {w o : Nat} {I I' : IM} {d : De} (h : DeC w o I d) (e : ∀ s k, (s = 8 ∨ 30 ≤ s ∧ s ≤ 35) → I' s w k = I s w k) (e2 : ∀ k, I' 2 o k = I 2 o k) : DeC w o I' d := ⟨h.1.frame e, (e2 _).trans h.2.1, (e2 _).trans h.2.2.1, (e2 _).trans h.2.2.2.1, (e2 _).trans h.2.2.2.2⟩
theorem DeM.eq {I I' : IM} {d : De} (h : DeM I d) (e : ∀ s k, (s = 10 ∧ (k = 57 ∨ k = 58 ∨ k = 63)) ∨ (71 ≤ s ∧ s ≤ 75) → I' s 0 k = I s 0 k) : DeM I' d := by
  obtain ⟨h1, h2, h3, h4, h5, h6, h7, h8, h9⟩ := h
  exact ⟨(e _ _ (by omega)).trans h1, (e _ _ (by omega)).trans h2, (e _ _ (by omega)).trans h3, fun k x hk => ⟨(e _ _ (by omega)).trans (h4 k x hk).1, (e _ _ (by omega)).trans (h4 k x hk).2.1, (e _ _ (by omega)).trans (h4 k x hk).2.2⟩, fun x hx => (e _ _ (by omega)).trans (h5 x hx), (e _ _ (by omega)).trans h6, (e _ _ (by omega)).trans h7, (e _ _ (by omega)).trans h8, (e _ _ (by omega)).trans h9⟩
theorem KeM.eq {I I' : IM} {d : De} (h : KeM I d) (e : ∀ s k, (s = 10 ∧ (k = 66 ∨ k = 67 ∨ k = 68)) ∨ (76 ≤ s ∧ s ≤ 78) → I' s 0 k = I s 0 k) : KeM I' d := by
  obtain ⟨h1, h2, h3, h4, h5, h6, h7, h8, h9⟩ := h
  exact ⟨(e _ _ (by omega)).trans h1, (e _ _ (by omega)).trans h2, (e _ _ (by omega)).trans h3, fun k x hk => ⟨(e _ _ (by omega)).trans (h4 k x hk).1, (e _ _ (by omega)).trans (h4 k x hk).2.1, (e _ _ (by omega)).trans (h4 k x hk).2.2⟩, fun x hx => (e _ _ (by omega)).trans (h5 x hx), (e _ _ (by omega)).trans h6, (e _ _ (by omega)).trans h7, (e _ _ (by omega)).trans h8, (e _ _ (by omega)).trans h9⟩
/-- the class's cells that last -/
def xCe (b : Bool) (s j k : Nat) : Prop := (s = 1 ∧ k = 1) ∨ s = 20 ∨ (s = 4 ∧ 3 ≤ k) ∨ (21 ≤ s ∧ s ≤ 24) ∨ (s = 3 ∧ (k = 6 ∨ k = 10)) ∨ s = cs b ∨ s = 6 ∨ (s = 0 ∧ (k = 4 ∨ k = 5)) ∨ s = 38 ∨ s = 39 ∨ (s = 8 ∧ (j ≠ 0 ∨ k = 2)) ∨ (30 ≤ s ∧ s ≤ 35 ∧ j ≠ 0) ∨ s = 2 ∨ (s = 9 ∧ k = 12)
theorem XR.eq {g : Sg} {I I' : IM} {J J' : JM} {b : Bool} (h : XR g I J b) (e : ∀ s j k, xCe b s j k → I' s j k = I s j k) (eJ : ∀ s k, s < 6 → J' 41 s k = J 41 s k) : XR g I' J' b := by
  obtain ⟨h1, h2, h3, h4, h5, h6, h7, h8, h9, h10, h11, h12⟩ := h
  refine ⟨h1.eq (fun s k z => e _ _ _ (by
    rcases z with z | z
    · exact Or.inl (z)
    · exact Or.inr (Or.inl (z)))), h2.eq (fun s k z => e _ _ _ (by
    rcases z with z | z
    · exact Or.inr (Or.inr (Or.inl (z)))
    · exact Or.inr (Or.inr (Or.inr (Or.inl (⟨by omega, by omega⟩)))))), h3.eq (fun s k z => e _ _ _ (by
    rcases z with z | z
    · exact Or.inr (Or.inr (Or.inr (Or.inr (Or.inl (⟨z.1, Or.inr z.2⟩)))))
    · exact Or.inr (Or.inr (Or.inr (Or.inl (⟨by omega, by omega⟩)))))), h4.eq (fun s k z => e _ _ _ (by
    rcases z with z | z
    · exact Or.inr (Or.inr (Or.inr (Or.inr (Or.inl (⟨z.1, Or.inl z.2⟩)))))
    · exact Or.inr (Or.inr (Or.inr (Or.inr (Or.inr (Or.inl (z)))))))), fun s hs => (h5 s hs).eq (fun k => e _ _ _ (Or.inr (Or.inr (Or.inr (Or.inr (Or.inr (Or.inr (Or.inl (rfl))))))))) (fun k => eJ s k hs), h6.eq (fun s k z => e _ _ _ (by
    rcases z with z | z
    · exact Or.inr (Or.inr (Or.inr (Or.inr (Or.inr (Or.inr (Or.inr (Or.inl (⟨z.1, Or.inl z.2⟩))))))))
    · exact Or.inr (Or.inr (Or.inr (Or.inr (Or.inr (Or.inr (Or.inr (Or.inr (Or.inl (z))))))))))), h7.eq (fun s k z => e _ _ _ (by
    rcases z with z | z
    · exact Or.inr (Or.inr (Or.inr (Or.inr (Or.inr (Or.inr (Or.inr (Or.inl (⟨z.1, Or.inr z.2⟩))))))))
    · exact Or.inr (Or.inr (Or.inr (Or.inr (Or.inr (Or.inr (Or.inr (Or.inr (Or.inr (Or.inl (z)))))))))))), h8.eq (fun s k z => e _ _ _ (by
    rcases z with z | z
    · exact Or.inr (Or.inr (Or.inr (Or.inr (Or.inr (Or.inr (Or.inr (Or.inr (Or.inr (Or.inr (Or.inl (⟨z, Or.inl (by decide)⟩)))))))))))
    · exact Or.inr (Or.inr (Or.inr (Or.inr (Or.inr (Or.inr (Or.inr (Or.inr (Or.inr (Or.inr (Or.inr (Or.inl (⟨z.1, z.2, by decide⟩)))))))))))))) (fun k => e _ _ _ (Or.inr (Or.inr (Or.inr (Or.inr (Or.inr (Or.inr (Or.inr (Or.inr (Or.inr (Or.inr (Or.inr (Or.inr (Or.inl (rfl))))))))))))))), (e _ _ _ (Or.inr (Or.inr (Or.inr (Or.inr (Or.inr (Or.inr (Or.inr (Or.inr (Or.inr (Or.inr (Or.inr (Or.inr (Or.inr (⟨rfl, rfl⟩))))))))))))))).trans h9, h10.fr (e _ _ _ (Or.inr (Or.inr (Or.inr (Or.inr (Or.inr (Or.inr (Or.inr (Or.inr (Or.inr (Or.inr (Or.inl (⟨rfl, Or.inr rfl⟩))))))))))))), h11.fr (e _ _ _ (Or.inr (Or.inr (Or.inr (Or.inr (Or.inr (Or.inr (Or.inr (Or.inr (Or.inr (Or.inr (Or.inl (⟨rfl, Or.inr rfl⟩))))))))))))), fun d hd => (h12 d hd).eq (fun s k z => e _ _ _ (by
    rcases z with z | z
    · exact Or.inr (Or.inr (Or.inr (Or.inr (Or.inr (Or.inr (Or.inr (Or.inr (Or.inr (Or.inr (Or.inl (⟨z, Or.inl (by decide)⟩)))))))))))
    · exact Or.inr (Or.inr (Or.inr (Or.inr (Or.inr (Or.inr (Or.inr (Or.inr (Or.inr (Or.inr (Or.inr (Or.inl (⟨z.1, z.2, by decide⟩)))))))))))))) (fun k => e _ _ _ (Or.inr (Or.inr (Or.inr (Or.inr (Or.inr (Or.inr (Or.inr (Or.inr (Or.inr (Or.inr (Or.inr (Or.inr (Or.inl (rfl)))))))))))))))⟩
/-- the model's cells that last -/
def mCe (s k : Nat) : Prop := (s = 10 ∧ (k = 1 ∨ (8 ≤ k ∧ k ≤ 14) ∨ k = 20 ∨ k = 32 ∨ k = 44 ∨ k = 45 ∨ k = 57 ∨ k = 58 ∨ k = 63 ∨ (65 ≤ k ∧ k ≤ 68) ∨ k = 72 ∨ k = 74)) ∨ (43 ≤ s ∧ s ≤ 58) ∨ (71 ≤ s ∧ s ≤ 82)
theorem MR.eq {g : Sg} {I I' : IM} {J J' : JM} (h : MR g I J) (e : ∀ s k, mCe s k → I' s 0 k = I s 0 k) (eJ : ∀ k, J' 83 0 k = J 83 0 k) : MR g I' J' := by
  obtain ⟨h1, h2, h3, h4, h5, h6, h7, h8, ⟨h9, h10⟩, h11, h12⟩ := h
  exact ⟨h1.eq (fun s k z => e _ _ (by unfold mCe; omega)), h2.eq (fun s k z => e _ _ (by unfold mCe; omega)), h3.eq (fun s k z => e _ _ (by unfold mCe; omega)), h4.eq (fun s k z => e _ _ (by unfold mCe; omega)), fun s hs => (h5 s hs).eq (fun t k z => e _ _ (by unfold mCe; omega)) eJ, h6.eq (fun s k z => e _ _ (by unfold mCe; omega)), h7.eq (fun s k z => e _ _ (by unfold mCe; omega)), h8.eq (fun s k z => e _ _ (by unfold mCe; omega)), ⟨(e _ _ (by unfold mCe; omega)).trans h9, fun d hd => (h10 d hd).eq (fun s k z => e _ _ (by unfold mCe; omega))⟩, (e _ _ (by unfold mCe; omega)).trans h11, (e _ _ (by unfold mCe; omega)).trans h12⟩
/-- what the class may write in thought; what it may write at all; the model likewise -/
def pCt (s j k : Nat) : Bool := Nat.beq s 25 || (Nat.beq s 26 || (Nat.beq s 29 || ((Nat.beq s 7 && Nat.ble 3 k) || ((Nat.beq s 8 && (Nat.beq j 0 && Nat.ble 9 k)) || ((Nat.ble 30 s && (Nat.ble s 35 && Nat.beq j 0)) || ((Nat.beq s 5 && Nat.ble 4 k) || (Nat.beq s 36 || (Nat.beq s 37 || (Nat.beq s 42 || (Nat.beq s 9 && Nat.beq k 11))))))))))
def pCa (s _j _k : Nat) : Bool := !(Nat.beq s 10 || Nat.ble 43 s)
def pMa (s _j _k : Nat) : Bool := Nat.beq s 10 || Nat.ble 43 s
theorem pCt_iff {s j k : Nat} : pCt s j k = true ↔ s = 25 ∨ s = 26 ∨ s = 29 ∨ (s = 7 ∧ 3 ≤ k) ∨ (s = 8 ∧ j = 0 ∧ 9 ≤ k) ∨ (30 ≤ s ∧ s ≤ 35 ∧ j = 0) ∨ (s = 5 ∧ 4 ≤ k) ∨ s = 36 ∨ s = 37 ∨ s = 42 ∨ (s = 9 ∧ k = 11) := by
  unfold pCt
  simp only [Bool.or_eq_true, Bool.and_eq_true, nb_iff, Nat.ble_eq]
theorem bf_of {p : Bool} {q : Prop} (h : p = true ↔ q) (hn : ¬ q) : p = false := by
  cases p
  · rfl
  · exact absurd (h.mp rfl) hn
theorem XR.fr {g : Sg} {I I' : IM} {J : JM} {b : Bool} (h : XR g I J b) (hf : Fr pCt I I') : XR g I' J b := h.eq (fun s j k z => hf _ _ _ (bf_of pCt_iff (by
  have hcs := @cs_ne b
  unfold xCe at z
  omega))) (fun _ _ _ => rfl)
theorem pTh_iff {s j k : Nat} : pTh s j k = true ↔ (59 ≤ s ∧ s ≤ 70) ∨ (s = 10 ∧ ((36 ≤ k ∧ k ≤ 38) ∨ k = 43 ∨ k = 46 ∨ (48 ≤ k ∧ k ≤ 56))) := by
  unfold pTh
  simp only [Bool.or_eq_true, Bool.and_eq_true, nb_iff, Nat.ble_eq]
theorem MR.fr {g : Sg} {I I' : IM} {J : JM} (h : MR g I J) (hf : Fr pTh I I') : MR g I' J := h.eq (fun s k z => hf _ _ _ (bf_of pTh_iff (by
  unfold mCe at z
  omega))) (fun _ => rfl)
theorem pMa_iff {s j k : Nat} : pMa s j k = true ↔ (s = 10 ∨ 43 ≤ s) := by
  unfold pMa
  simp only [Bool.or_eq_true, nb_iff, Nat.ble_eq]
theorem pCa_iff {s j k : Nat} : pCa s j k = true ↔ ¬ (s = 10 ∨ 43 ≤ s) := by
  rw [← pMa_iff (j := j) (k := k)]
  show (!(pMa s j k)) = true ↔ _
  cases pMa s j k <;> simp
theorem MR.frC {g : Sg} {I I' : IM} {J J' : JM} (h : MR g I J) (hf : Fr pCa I I') (eJ : ∀ k, J' 83 0 k = J 83 0 k) : MR g I' J' := h.eq (fun s k z => hf _ _ _ (bf_of pCa_iff (by
  unfold mCe at z
  omega))) eJ
theorem XR.frM {g : Sg} {I I' : IM} {J J' : JM} {b : Bool} (h : XR g I J b) (hf : Fr pMa I I') (eJ : ∀ s k, s < 6 → J' 41 s k = J 41 s k) : XR g I' J' b := h.eq (fun s j k z => hf _ _ _ (bf_of pMa_iff (by
  have hcs := @cs_ne b
  unfold xCe at z
  omega))) eJ
theorem pCt_a {I I' : IM} (h : Fr pCt I I') : Fr pCa I I' := h.subT (fun s j k z => by
  rw [pCt_iff] at z
  rw [pCa_iff]
  omega)
theorem pTh_a {I I' : IM} (h : Fr pTh I I') : Fr pMa I I' := h.subT (fun s j k z => by
  rw [pTh_iff] at z
  rw [pMa_iff]
  omega)
