/-! bundles: what an object tree holds; getters, setters, cells -/
abbrev BX0 : Type := Int32 × Int32 × (Nat → Int32) × (Nat → Int32) × (Nat → Int32) × (Nat → Int32)
def p0_width (v : BX0) : Int32 := v.1
def p0_plates (v : BX0) : Int32 := v.2.1
def p0_strengths (v : BX0) : (Nat → Int32) := v.2.2.1
def p0_lengths (v : BX0) : (Nat → Int32) := v.2.2.2.1
def p0_loads (v : BX0) : (Nat → Int32) := v.2.2.2.2.1
def p0_stops (v : BX0) : (Nat → Int32) := v.2.2.2.2.2
def s0_width (v : BX0) (z : Int32) : BX0 := (z, v.2.1, v.2.2.1, v.2.2.2.1, v.2.2.2.2.1, v.2.2.2.2.2)
def s0_plates (v : BX0) (z : Int32) : BX0 := (v.1, z, v.2.2.1, v.2.2.2.1, v.2.2.2.2.1, v.2.2.2.2.2)
def s0_strengths (v : BX0) (z : (Nat → Int32)) : BX0 := (v.1, v.2.1, z, v.2.2.2.1, v.2.2.2.2.1, v.2.2.2.2.2)
def s0_lengths (v : BX0) (z : (Nat → Int32)) : BX0 := (v.1, v.2.1, v.2.2.1, z, v.2.2.2.2.1, v.2.2.2.2.2)
def s0_loads (v : BX0) (z : (Nat → Int32)) : BX0 := (v.1, v.2.1, v.2.2.1, v.2.2.2.1, z, v.2.2.2.2.2)
def s0_stops (v : BX0) (z : (Nat → Int32)) : BX0 := (v.1, v.2.1, v.2.2.1, v.2.2.2.1, v.2.2.2.2.1, z)
abbrev k0_0 (a : Nat → Nat) (v : BX0) : Nat × va_E := (a 0, .inr (0, [.int (p0_width v), .int (p0_plates v), .ref (a 1), .ref (a 2), .ref (a 3), .ref (a 4)]))
abbrev k0_1 (cc : ClassId) (a : Nat → Nat) (v : BX0) : Nat × va_E := (a 1, .inl (cc, 5, .inl (p0_strengths v)))
abbrev k0_2 (cc : ClassId) (a : Nat → Nat) (v : BX0) : Nat × va_E := (a 2, .inl (cc, 5, .inl (p0_lengths v)))
abbrev k0_3 (cc : ClassId) (a : Nat → Nat) (v : BX0) : Nat × va_E := (a 3, .inl (cc, 4, .inl (p0_loads v)))
abbrev k0_4 (cc : ClassId) (a : Nat → Nat) (v : BX0) : Nat × va_E := (a 4, .inl (cc, 8, .inl (p0_stops v)))
abbrev BX1 : Type := (Nat → Int64) × Int64 × (Nat → Int32) × (Nat → Int32) × (Nat → Int32) × (Nat → Int64) × (Nat → Int64) × (Nat → Int64) × (Nat → Int64) × (Nat → Int64)
def p1_spots (v : BX1) : (Nat → Int64) := v.1
def p1_lower (v : BX1) : Int64 := v.2.1
def p1_lowest (v : BX1) : (Nat → Int32) := v.2.2.1
def p1_highest (v : BX1) : (Nat → Int32) := v.2.2.2.1
def p1_holds (v : BX1) : (Nat → Int32) := v.2.2.2.2.1
def p1_constants (v : BX1) : (Nat → Int64) := v.2.2.2.2.2.1
def p1_slopes (v : BX1) : (Nat → Int64) := v.2.2.2.2.2.2.1
def p1_divisors (v : BX1) : (Nat → Int64) := v.2.2.2.2.2.2.2.1
def p1_uppers (v : BX1) : (Nat → Int64) := v.2.2.2.2.2.2.2.2.1
def p1_lowers (v : BX1) : (Nat → Int64) := v.2.2.2.2.2.2.2.2.2
def s1_spots (v : BX1) (z : (Nat → Int64)) : BX1 := (z, v.2.1, v.2.2.1, v.2.2.2.1, v.2.2.2.2.1, v.2.2.2.2.2.1, v.2.2.2.2.2.2.1, v.2.2.2.2.2.2.2.1, v.2.2.2.2.2.2.2.2.1, v.2.2.2.2.2.2.2.2.2)
def s1_lower (v : BX1) (z : Int64) : BX1 := (v.1, z, v.2.2.1, v.2.2.2.1, v.2.2.2.2.1, v.2.2.2.2.2.1, v.2.2.2.2.2.2.1, v.2.2.2.2.2.2.2.1, v.2.2.2.2.2.2.2.2.1, v.2.2.2.2.2.2.2.2.2)
def s1_lowest (v : BX1) (z : (Nat → Int32)) : BX1 := (v.1, v.2.1, z, v.2.2.2.1, v.2.2.2.2.1, v.2.2.2.2.2.1, v.2.2.2.2.2.2.1, v.2.2.2.2.2.2.2.1, v.2.2.2.2.2.2.2.2.1, v.2.2.2.2.2.2.2.2.2)
def s1_highest (v : BX1) (z : (Nat → Int32)) : BX1 := (v.1, v.2.1, v.2.2.1, z, v.2.2.2.2.1, v.2.2.2.2.2.1, v.2.2.2.2.2.2.1, v.2.2.2.2.2.2.2.1, v.2.2.2.2.2.2.2.2.1, v.2.2.2.2.2.2.2.2.2)
def s1_holds (v : BX1) (z : (Nat → Int32)) : BX1 := (v.1, v.2.1, v.2.2.1, v.2.2.2.1, z, v.2.2.2.2.2.1, v.2.2.2.2.2.2.1, v.2.2.2.2.2.2.2.1, v.2.2.2.2.2.2.2.2.1, v.2.2.2.2.2.2.2.2.2)
def s1_constants (v : BX1) (z : (Nat → Int64)) : BX1 := (v.1, v.2.1, v.2.2.1, v.2.2.2.1, v.2.2.2.2.1, z, v.2.2.2.2.2.2.1, v.2.2.2.2.2.2.2.1, v.2.2.2.2.2.2.2.2.1, v.2.2.2.2.2.2.2.2.2)
def s1_slopes (v : BX1) (z : (Nat → Int64)) : BX1 := (v.1, v.2.1, v.2.2.1, v.2.2.2.1, v.2.2.2.2.1, v.2.2.2.2.2.1, z, v.2.2.2.2.2.2.2.1, v.2.2.2.2.2.2.2.2.1, v.2.2.2.2.2.2.2.2.2)
def s1_divisors (v : BX1) (z : (Nat → Int64)) : BX1 := (v.1, v.2.1, v.2.2.1, v.2.2.2.1, v.2.2.2.2.1, v.2.2.2.2.2.1, v.2.2.2.2.2.2.1, z, v.2.2.2.2.2.2.2.2.1, v.2.2.2.2.2.2.2.2.2)
def s1_uppers (v : BX1) (z : (Nat → Int64)) : BX1 := (v.1, v.2.1, v.2.2.1, v.2.2.2.1, v.2.2.2.2.1, v.2.2.2.2.2.1, v.2.2.2.2.2.2.1, v.2.2.2.2.2.2.2.1, z, v.2.2.2.2.2.2.2.2.2)
def s1_lowers (v : BX1) (z : (Nat → Int64)) : BX1 := (v.1, v.2.1, v.2.2.1, v.2.2.2.1, v.2.2.2.2.1, v.2.2.2.2.2.1, v.2.2.2.2.2.2.1, v.2.2.2.2.2.2.2.1, v.2.2.2.2.2.2.2.2.1, z)
abbrev k1_0 (a : Nat → Nat) (v : BX1) : Nat × va_E := (a 0, .inr (1, [.ref (a 1), .long (p1_lower v), .ref (a 2), .ref (a 3), .ref (a 4), .ref (a 5), .ref (a 6), .ref (a 7), .ref (a 8), .ref (a 9)]))
abbrev k1_1 (cc : ClassId) (a : Nat → Nat) (v : BX1) : Nat × va_E := (a 1, .inl (cc, 6, .inr (.inl (p1_spots v))))
abbrev k1_2 (cc : ClassId) (a : Nat → Nat) (v : BX1) : Nat × va_E := (a 2, .inl (cc, 4, .inl (p1_lowest v)))
abbrev k1_3 (cc : ClassId) (a : Nat → Nat) (v : BX1) : Nat × va_E := (a 3, .inl (cc, 4, .inl (p1_highest v)))
abbrev k1_4 (cc : ClassId) (a : Nat → Nat) (v : BX1) : Nat × va_E := (a 4, .inl (cc, 4, .inl (p1_holds v)))
abbrev k1_5 (cc : ClassId) (a : Nat → Nat) (v : BX1) : Nat × va_E := (a 5, .inl (cc, 4, .inr (.inl (p1_constants v))))
abbrev k1_6 (cc : ClassId) (a : Nat → Nat) (v : BX1) : Nat × va_E := (a 6, .inl (cc, 4, .inr (.inl (p1_slopes v))))
abbrev k1_7 (cc : ClassId) (a : Nat → Nat) (v : BX1) : Nat × va_E := (a 7, .inl (cc, 4, .inr (.inl (p1_divisors v))))
abbrev k1_8 (cc : ClassId) (a : Nat → Nat) (v : BX1) : Nat × va_E := (a 8, .inl (cc, 4, .inr (.inl (p1_uppers v))))
abbrev k1_9 (cc : ClassId) (a : Nat → Nat) (v : BX1) : Nat × va_E := (a 9, .inl (cc, 4, .inr (.inl (p1_lowers v))))
abbrev BX2 : Type := (Nat → Int32) × Int32 × Int32 × Int32 × Int32 × Int32 × Int32 × (Nat → Int32) × Int32
def p2_characters (v : BX2) : (Nat → Int32) := v.1
def p2_size (v : BX2) : Int32 := v.2.1
def p2_settings (v : BX2) : Int32 := v.2.2.1
def p2_reason (v : BX2) : Int32 := v.2.2.2.1
def p2_cause (v : BX2) : Int32 := v.2.2.2.2.1
def p2_start (v : BX2) : Int32 := v.2.2.2.2.2.1
def p2_next (v : BX2) : Int32 := v.2.2.2.2.2.2.1
def p2_numbers (v : BX2) : (Nat → Int32) := v.2.2.2.2.2.2.2.1
def p2_numberCount (v : BX2) : Int32 := v.2.2.2.2.2.2.2.2
def s2_characters (v : BX2) (z : (Nat → Int32)) : BX2 := (z, v.2.1, v.2.2.1, v.2.2.2.1, v.2.2.2.2.1, v.2.2.2.2.2.1, v.2.2.2.2.2.2.1, v.2.2.2.2.2.2.2.1, v.2.2.2.2.2.2.2.2)
def s2_size (v : BX2) (z : Int32) : BX2 := (v.1, z, v.2.2.1, v.2.2.2.1, v.2.2.2.2.1, v.2.2.2.2.2.1, v.2.2.2.2.2.2.1, v.2.2.2.2.2.2.2.1, v.2.2.2.2.2.2.2.2)
def s2_settings (v : BX2) (z : Int32) : BX2 := (v.1, v.2.1, z, v.2.2.2.1, v.2.2.2.2.1, v.2.2.2.2.2.1, v.2.2.2.2.2.2.1, v.2.2.2.2.2.2.2.1, v.2.2.2.2.2.2.2.2)
def s2_reason (v : BX2) (z : Int32) : BX2 := (v.1, v.2.1, v.2.2.1, z, v.2.2.2.2.1, v.2.2.2.2.2.1, v.2.2.2.2.2.2.1, v.2.2.2.2.2.2.2.1, v.2.2.2.2.2.2.2.2)
def s2_cause (v : BX2) (z : Int32) : BX2 := (v.1, v.2.1, v.2.2.1, v.2.2.2.1, z, v.2.2.2.2.2.1, v.2.2.2.2.2.2.1, v.2.2.2.2.2.2.2.1, v.2.2.2.2.2.2.2.2)
def s2_start (v : BX2) (z : Int32) : BX2 := (v.1, v.2.1, v.2.2.1, v.2.2.2.1, v.2.2.2.2.1, z, v.2.2.2.2.2.2.1, v.2.2.2.2.2.2.2.1, v.2.2.2.2.2.2.2.2)
def s2_next (v : BX2) (z : Int32) : BX2 := (v.1, v.2.1, v.2.2.1, v.2.2.2.1, v.2.2.2.2.1, v.2.2.2.2.2.1, z, v.2.2.2.2.2.2.2.1, v.2.2.2.2.2.2.2.2)
def s2_numbers (v : BX2) (z : (Nat → Int32)) : BX2 := (v.1, v.2.1, v.2.2.1, v.2.2.2.1, v.2.2.2.2.1, v.2.2.2.2.2.1, v.2.2.2.2.2.2.1, z, v.2.2.2.2.2.2.2.2)
def s2_numberCount (v : BX2) (z : Int32) : BX2 := (v.1, v.2.1, v.2.2.1, v.2.2.2.1, v.2.2.2.2.1, v.2.2.2.2.2.1, v.2.2.2.2.2.2.1, v.2.2.2.2.2.2.2.1, z)
abbrev k2_0 (a : Nat → Nat) (v : BX2) : Nat × va_E := (a 0, .inr (2, [.ref (a 1), .int (p2_size v), .int (p2_settings v), .int (p2_reason v), .int (p2_cause v), .int (p2_start v), .int (p2_next v), .ref (a 2), .int (p2_numberCount v)]))
abbrev k2_1 (cc : ClassId) (a : Nat → Nat) (v : BX2) : Nat × va_E := (a 1, .inl (cc, 60, .inl (p2_characters v)))
abbrev k2_2 (cc : ClassId) (a : Nat → Nat) (v : BX2) : Nat × va_E := (a 2, .inl (cc, 3, .inl (p2_numbers v)))
abbrev BX3 : Type := Int32 × Int32
def p3_states (v : BX3) : Int32 := v.1
def p3_restKnown (v : BX3) : Int32 := v.2
def s3_states (v : BX3) (z : Int32) : BX3 := (z, v.2)
def s3_restKnown (v : BX3) (z : Int32) : BX3 := (v.1, z)
abbrev k3_0 (a aA aB aR aT aS : Nat → Nat) (v : BX3) : Nat × va_E := (a 0, .inr (3, [.ref (aA 0), .ref (aB 0), .ref (a 1), .int (p3_states v), .ref (aR 0), .int (p3_restKnown v), .ref (aT 0), .ref (aS 0)]))
abbrev kA1 (cc : ClassId) (a : Nat) (n : Nat) (f : Nat → Int32) : Nat × va_E := (a, .inl (cc, n, .inl f))

/-! the nest's links: a fact of the machine's state, beside the world -/
def NW (U : State) : Prop := va_Nw (.methodLinkNest RX3 29 yX1_init "SpringPlates") U ∧ va_Nw (.methodLinkNest RX3 43 yX2_init "SpringPlates") U ∧ va_Nw (.methodLinkNest RX0 68 yX3_isSide "SpringPlates") U ∧ va_Nw (.methodLinkNest RX1 115 yX3_greatestDivisor "SpringPlates") U
theorem NW.same {u U : State} (h : u.vm = U.vm) (hZ : NW u) : NW U := ⟨va_Nw.same rfl h hZ.1, va_Nw.same rfl h hZ.2.1, va_Nw.same rfl h hZ.2.2.1, va_Nw.same rfl h hZ.2.2.2⟩
theorem NW.warm {s U : State} (hW : s.WarmedH U.vm) (hZ : NW s) : NW U := ⟨va_Nw.warmM hW hZ.1, va_Nw.warmM hW hZ.2.1, va_Nw.warmM hW hZ.2.2.1, va_Nw.warmM hW hZ.2.2.2⟩
/-! no text constants, no statics of the JDK are reached here -/
def SX (A : Nat → Prop) (U : State) (H : Heap) : Prop := ∀ q : Nat, A q → (True ∨ U.heap = H)
theorem SX.same {A : Nat → Prop} {u U : State} {H : Heap} (hvm : U.vm = u.vm) (h : SX A u H) : SX A U H := fun _ _ => Or.inl trivial
theorem SX.warm {A B : Nat → Prop} {s U : State} {H H1 : Heap} (hW : s.WarmedH U.vm) (hq : ∀ a : Nat, a < H.size → ¬ A a → H1[a]? = H[a]?) (hF : ∀ q, B q → A q) (h : SX A s H) : SX B U H1 := fun _ _ => Or.inl trivial
def NX (A : Nat → Prop) (U : State) : Prop := NW U ∧ SX A U U.heap
abbrev cPc (dC : Nat → ClassId) (dI : Nat → Nat → Nat) (cI cJ : ClassId) (av : List Value) (ws : va_W) (sz : Nat) : Array Value → State → Prop := va_Pc av (fun U => U.heap.size = sz ∧ va_P (dC, dI) vwCl ws U.heap ∧ va_K (dC, dI) vwCl [(cI, .int), (cJ, .long)] U ∧ va_D (fun _ => True) ws ∧ NX (va_A ws sz) U)
abbrev cB (dC : Nat → ClassId) (dI : Nat → Nat → Nat) (A : Nat → Prop) (ws : va_W) (t : State) : Prop := va_P (dC, dI) vwCl ws t.heap ∧ va_D A ws
theorem cFB {dC : Nat → ClassId} {dI : Nat → Nat → Nat} {cI cJ : ClassId} {av : List Value} {ws : va_W} {sz : Nat} : FrameBlind (cPc dC dI cI cJ av ws sz) := fun a U g mk q => by
  obtain ⟨q0, q1, qP, qK, qD, qN, qX⟩ := q
  exact ⟨q0, q1, qP, va_K.moved (u := U) (U := U.calling g mk a) (Vm.Alike.refl U.vm) qK, qD, NW.same (u := U) rfl qN, SX.same (u := U) rfl qX⟩
theorem cPre {s : State} {H : Heap} {A : Nat → Prop} {locs : List Loc} {dC : Nat → ClassId} {dI : Nat → Nat → Nat} {cI cJ : ClassId} {av : List Value} {ws : va_W} (hK : va_K (dC, dI) vwCl [(cI, .int), (cJ, .long)] s) (hN : NX A s) (hS : va_S A s.heap H locs) (hF : ∀ q, va_A ws H.size q → A q) (hP : va_P (dC, dI) vwCl ws H) (hD : va_D A ws) : ∀ U : State, U.heap = H → s.WarmedH U.vm → cPc dC dI cI cJ av ws H.size av.toArray U :=
  fun U hU hW => ⟨rfl, by rw [hU], by rw [hU]; exact hP, va_K.moved hW.alike hK, hD.weaken (fun _ _ _ _ => trivial), hN.1.warm hW, by rw [hU]; exact hN.2.warm hW hS.2.1 hF⟩
/-! rows of the pure side -/
def FU : Nat := 5000
def elet {α β : Type} (e : α) (f : α → Option β) : Option β := f e
theorem elet_out {α β : Type} {e : α} {f : α → Option β} {r : Option β} (h : elet e f = r) : ∃ y, y = e ∧ f y = r := ⟨e, rfl, h⟩
theorem obind {α β : Type} {x : Option α} {f : α → Option β} {r : β} (h : x.bind f = some r) : ∃ y, x = some y ∧ f y = some r := Option.bind_eq_some_iff.mp h
theorem oif_t {α : Type} {c : Prop} [Decidable c] {A B r : Option α} (h : c) (e : (if c then A else B) = r) : A = r := by rw [if_pos h] at e; exact e
theorem oif_f {α : Type} {c : Prop} [Decidable c] {A B r : Option α} (h : ¬ c) (e : (if c then A else B) = r) : B = r := by rw [if_neg h] at e; exact e
theorem onone {α : Type} {y : α} {P : Prop} (h : (none : Option α) = some y) : P := by cases h
def inB (i : Int32) (n : Nat) : Bool := decide (¬ i < 0) && decide (i.toNatClampNeg < n)
theorem vpc {i : Int32} {n : Nat} (h : inB i n = true) : vp_in i n := by
  simp only [inB, Bool.and_eq_true, decide_eq_true_eq] at h
  exact fun q => q.elim h.1 (fun z => absurd h.2 (Nat.not_lt.mpr z))
theorem oinb {α : Type} {i : Int32} {n : Nat} {A r : Option α} {y : α} (hr : r = some y) (e : (if inB i n = true then A else none) = r) : vp_in i n ∧ A = some y := by
  by_cases h : inB i n = true
  · rw [if_pos h, hr] at e; exact ⟨vpc h, e⟩
  · rw [if_neg h, hr] at e; cases e
def zB (v : Int32) : Bool := decide (v = 0) || decide (v = 1)
theorem ozb {α : Type} {v : Int32} {A : Option α} {y : α} (e : (if zB v = true then A else none) = some y) : narrow .boolean (.int v) = .int v ∧ A = some y := by
  by_cases h : zB v = true
  · rw [if_pos h] at e
    refine ⟨?_, e⟩
    simp only [zB, Bool.or_eq_true, decide_eq_true_eq] at h
    rcases h with rfl | rfl <;> rfl
  · rw [if_neg h] at e; cases e
theorem odiv {α : Type} {c : Prop} [Decidable c] {A : Option α} {y : α} (e : (if c then none else A) = some y) : ¬ c ∧ A = some y := by
  by_cases h : c
  · rw [if_pos h] at e; cases e
  · rw [if_neg h] at e; exact ⟨h, e⟩
theorem toInt_ne {x : Int32} {n : Int} {k : Int32} (hk : k.toInt = n) (h : ¬ x = k) : x.toInt ≠ n := fun q => h (Int32.toInt_inj.mp (q.trans hk.symm))
section CG
variable {p : Program} {l : Launch} {e : Env} {R : Room} {s : State} {m : MethodId} {args : Array Value} {below : List Frame} {meth : Method} {c : Code} {H : Heap} {locs : List Loc} {cells slots : Nat} {Q : State → Prop}
variable {pc : Nat} {ls : Array Slot} {rest st0 : List Value} {a : Array Value} {A : Nat → Prop} {mc ms : Nat} {dC : Nat → ClassId} {dI : Nat → Nat → Nat} {ws wc wr w1 wo : va_W}
theorem lvn_i {x y : Int32} (h : y = x) (k : W p l e R s m args below meth c H locs cells slots Q (F0 m pc ls (.int y :: rest))) : W p l e R s m args below meth c H locs cells slots Q (F0 m pc ls (.int x :: rest)) := by subst h; exact k
theorem lvn_l {x y : Int64} (h : y = x) (k : W p l e R s m args below meth c H locs cells slots Q (F0 m pc ls (.long y :: rest))) : W p l e R s m args below meth c H locs cells slots Q (F0 m pc ls (.long x :: rest)) := by subst h; exact k
theorem nameH (h : ∀ (H' : Heap) (locs' : List Loc), H' = H → locs' = locs → W p l e R s m args below meth c H' locs' cells slots Q (F0 m pc ls rest)) : W p l e R s m args below meth c H locs cells slots Q (F0 m pc ls rest) := h H locs rfl rfl
theorem withW (h : ∀ WW : Heap → List Loc → Nat → Nat → Array Slot → Nat → List Value → Prop, (∀ H locs cells slots ls pc st, WW H locs cells slots ls pc st ↔ W p l e R s m args below meth c H locs cells slots Q (F0 m pc ls st)) → WW H locs cells slots ls pc rest) : W p l e R s m args below meth c H locs cells slots Q (F0 m pc ls rest) :=
  h (fun H locs cells slots ls pc st => W p l e R s m args below meth c H locs cells slots Q (F0 m pc ls st)) (fun _ _ _ _ _ _ _ => Iff.rfl)
theorem cg_join (hP : va_P (dC, dI) vwCl ws H) (hD : va_D A ws) {H1 : Heap} (isC isR isO : List Nat) (hC : isC.map (fun i => ws[i]?) = wc.map some) (hR : isR.map (fun i => ws[i]?) = wr.map some) (hn : va_nd isR = true) (hdis : ∀ i ∈ isR, i ∉ isC) (hnO : va_nd isO = true) (hO : isO.map (fun i => (wr ++ w1)[i]?) = wo.map some)
    (hk : ∀ q : Nat, q < H.size → ¬ va_A wc H.size q → H1[q]? = H[q]?) (hF : ∀ q, va_A wc H.size q → A q) (hP1 : va_P (dC, dI) vwCl w1 H1) (hD1 : va_D (va_A wc H.size) w1) : va_P (dC, dI) vwCl wo H1 ∧ va_D A wo := by
  obtain ⟨g1, g2⟩ := va_join (wr := wr) (w1 := w1) hP hD isC isR hC hR hn hdis hk hF hP1 hD1
  have h2 := g2.sub isO hnO hO
  refine ⟨fun k q hk => ?_, h2⟩
  have h3 : (isO.map (fun i => (wr ++ w1)[i]?))[k]? = some (some q) := by rw [hO, List.getElem?_map, hk]; rfl
  rw [List.getElem?_map] at h3
  cases hi : isO[k]? with
  | none => rw [hi] at h3; cases h3
  | some i => rw [hi] at h3; exact g1 i q (Option.some.inj h3)
theorem cg_i {rv : Int32} (hP : va_P (dC, dI) vwCl ws H) (hD : va_D A ws) (hS : va_S A s.heap H locs) (hA : ∀ q, s.heap.size ≤ q → A q) (hr : va_Run p l e R s m args below meth c H locs cells slots mc ms (F0 m pc ls st0) rest (va_Qi (fun r (_ : Unit) => r = rv) (fun _ t => cB dC dI (va_A wc H.size) w1 t) (va_A wc H.size) a) (va_A wc H.size))
    (isC isR isO : List Nat) (hC : isC.map (fun i => ws[i]?) = wc.map some) (hR : isR.map (fun i => ws[i]?) = wr.map some) (hn : va_nd isR = true) (hdis : ∀ i ∈ isR, i ∉ isC) (hnO : va_nd isO = true) (hO : isO.map (fun i => (wr ++ w1)[i]?) = wo.map some)
    (kk : ∀ (H1 : Heap) (locs1 : List Loc), va_P (dC, dI) vwCl wo H1 → va_D A wo → va_S A s.heap H1 locs1 → W p l e R s m args below meth c H1 locs1 (cells + mc) (slots + ms) Q (F0 m (pc + 3) ls (.int rv :: rest))) : W p l e R s m args below meth c H locs cells slots Q (F0 m pc ls st0) := by
  have hF := va_free (wc := wc) hD hS hA isC hC
  refine va_calli hr hS (fun q _ h => hF q h) hF (fun r u t H1 locs1 ht hvm hw hB hz hk hS1 => ?_)
  obtain ⟨hP1, hD1⟩ := hB
  rw [ht] at hP1
  obtain ⟨g1, g2⟩ := cg_join hP hD isC isR isO hC hR hn hdis hnO hO hk hF hP1 hD1
  have hw : r = rv := hw
  subst hw
  exact kk H1 locs1 g1 g2 hS1
theorem cg_l {rv : Int64} (hP : va_P (dC, dI) vwCl ws H) (hD : va_D A ws) (hS : va_S A s.heap H locs) (hA : ∀ q, s.heap.size ≤ q → A q) (hr : va_Run p l e R s m args below meth c H locs cells slots mc ms (F0 m pc ls st0) rest (va_Ql (fun r (_ : Unit) => r = rv) (fun _ t => cB dC dI (va_A wc H.size) w1 t) (va_A wc H.size) a) (va_A wc H.size))
    (isC isR isO : List Nat) (hC : isC.map (fun i => ws[i]?) = wc.map some) (hR : isR.map (fun i => ws[i]?) = wr.map some) (hn : va_nd isR = true) (hdis : ∀ i ∈ isR, i ∉ isC) (hnO : va_nd isO = true) (hO : isO.map (fun i => (wr ++ w1)[i]?) = wo.map some)
    (kk : ∀ (H1 : Heap) (locs1 : List Loc), va_P (dC, dI) vwCl wo H1 → va_D A wo → va_S A s.heap H1 locs1 → W p l e R s m args below meth c H1 locs1 (cells + mc) (slots + ms) Q (F0 m (pc + 3) ls (.long rv :: rest))) : W p l e R s m args below meth c H locs cells slots Q (F0 m pc ls st0) := by
  have hF := va_free (wc := wc) hD hS hA isC hC
  refine va_calll hr hS (fun q _ h => hF q h) hF (fun r u t H1 locs1 ht hvm hw hB hz hk hS1 => ?_)
  obtain ⟨hP1, hD1⟩ := hB
  rw [ht] at hP1
  obtain ⟨g1, g2⟩ := cg_join hP hD isC isR isO hC hR hn hdis hnO hO hk hF hP1 hD1
  have hw : r = rv := hw
  subst hw
  exact kk H1 locs1 g1 g2 hS1
theorem cg_v (hP : va_P (dC, dI) vwCl ws H) (hD : va_D A ws) (hS : va_S A s.heap H locs) (hA : ∀ q, s.heap.size ≤ q → A q) (hr : va_Run p l e R s m args below meth c H locs cells slots mc ms (F0 m pc ls st0) rest (va_Qv (fun (_ : Unit) => True) (fun _ t => cB dC dI (va_A wc H.size) w1 t) (va_A wc H.size) a) (va_A wc H.size))
    (isC isR isO : List Nat) (hC : isC.map (fun i => ws[i]?) = wc.map some) (hR : isR.map (fun i => ws[i]?) = wr.map some) (hn : va_nd isR = true) (hdis : ∀ i ∈ isR, i ∉ isC) (hnO : va_nd isO = true) (hO : isO.map (fun i => (wr ++ w1)[i]?) = wo.map some)
    (kk : ∀ (H1 : Heap) (locs1 : List Loc), va_P (dC, dI) vwCl wo H1 → va_D A wo → va_S A s.heap H1 locs1 → W p l e R s m args below meth c H1 locs1 (cells + mc) (slots + ms) Q (F0 m (pc + 3) ls rest)) : W p l e R s m args below meth c H locs cells slots Q (F0 m pc ls st0) := by
  have hF := va_free (wc := wc) hD hS hA isC hC
  refine va_callv hr hS (fun q _ h => hF q h) hF (fun u t H1 locs1 ht hvm hw hB hz hk hS1 => ?_)
  obtain ⟨hP1, hD1⟩ := hB
  rw [ht] at hP1
  obtain ⟨g1, g2⟩ := cg_join hP hD isC isR isO hC hR hn hdis hnO hO hk hF hP1 hD1
  exact kk H1 locs1 g1 g2 hS1
theorem cg_r {rv : Nat} (hP : va_P (dC, dI) vwCl ws H) (hD : va_D A ws) (hS : va_S A s.heap H locs) (hA : ∀ q, s.heap.size ≤ q → A q) (hr : va_Run p l e R s m args below meth c H locs cells slots mc ms (F0 m pc ls st0) rest (va_Qr (fun (_ : Unit) => True) (fun _ ra t => ra = rv ∧ cB dC dI (va_A wc H.size) w1 t) (va_A wc H.size) a) (va_A wc H.size))
    (isC isR isO : List Nat) (hC : isC.map (fun i => ws[i]?) = wc.map some) (hR : isR.map (fun i => ws[i]?) = wr.map some) (hn : va_nd isR = true) (hdis : ∀ i ∈ isR, i ∉ isC) (hnO : va_nd isO = true) (hO : isO.map (fun i => (wr ++ w1)[i]?) = wo.map some)
    (kk : ∀ (H1 : Heap) (locs1 : List Loc), va_P (dC, dI) vwCl wo H1 → va_D A wo → va_S A s.heap H1 locs1 → W p l e R s m args below meth c H1 locs1 (cells + mc) (slots + ms) Q (F0 m (pc + 3) ls (.ref rv :: rest))) : W p l e R s m args below meth c H locs cells slots Q (F0 m pc ls st0) := by
  have hF := va_free (wc := wc) hD hS hA isC hC
  refine va_callr hr hS (fun q _ h => hF q h) hF (fun u ra t H1 locs1 ht hvm hw hB hz hk hS1 => ?_)
  obtain ⟨hra, hP1, hD1⟩ := hB
  rw [ht] at hP1
  obtain ⟨g1, g2⟩ := cg_join hP hD isC isR isO hC hR hn hdis hnO hO hk hF hP1 hD1
  subst hra
  exact kk H1 locs1 g1 g2 hS1
end CG
