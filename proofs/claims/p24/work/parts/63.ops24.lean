/-! the class's changes, told by what is laid -/
def OkC (c : Option (Int32 × BX0)) (a : Int32) (s1 : Nat → Int32) : Prop := (-1000001 : Int32) < a ∧ Good s1 ∧ ∃ L1, c = some (a, L1) ∧ LayEq L1 s1
def ErC (c : Option (Int32 × BX0)) (e : Int32) : Prop := ¬ (-1000001 : Int32) < e ∧ ∃ L1, c = some (e, L1)
theorem plateC {L : BX0} {s : Nat → Int32} {p : Nat} (hL : LayEq L s) (hp : s 1 = nI p) (hp4 : p ≤ 4) (k : Nat) (hk : k < p) : fX0_hasPlate L (nI k) = some 1 := by
  have e : p0_plates L = nI p := hL.2.1.trans hp
  unfold fX0_hasPlate; rw [e, if_neg (nI_pos (by omega)), if_neg (nlec hk (by omega))]
theorem plateN {L : BX0} {s : Nat → Int32} {p : Nat} (hL : LayEq L s) (hp : s 1 = nI p) (k : Nat) (hk : p ≤ k) (h31 : k < 2 ^ 31) : fX0_hasPlate L (nI k) = some 0 := by
  have e : p0_plates L = nI p := hL.2.1.trans hp
  unfold fX0_hasPlate; rw [e, if_neg (nI_pos h31), if_pos (lec hk h31)]
theorem springC {L : BX0} {s : Nat → Int32} {p : Nat} (hL : LayEq L s) (hp : s 1 = nI p) (hp4 : p ≤ 4) (k : Nat) (hk : k ≤ p) : fX0_hasSpring L (nI k) = some 1 := by
  have e : p0_plates L = nI p := hL.2.1.trans hp
  unfold fX0_hasSpring; rw [e, if_neg (nI_pos (by omega)), if_neg (nltc hk (by omega))]
theorem springN {L : BX0} {s : Nat → Int32} {p : Nat} (hL : LayEq L s) (hp : s 1 = nI p) (k : Nat) (hk : p < k) (h31 : k < 2 ^ 31) : fX0_hasSpring L (nI k) = some 0 := by
  have e : p0_plates L = nI p := hL.2.1.trans hp
  unfold fX0_hasSpring; rw [e, if_neg (nI_pos h31), if_pos (ltc hk h31)]
theorem er1 : ¬ (-1000001 : Int32) < -1000001 := by decide
theorem er2 : ¬ (-1000001 : Int32) < -1000002 := by decide
theorem er3 : ¬ (-1000001 : Int32) < -1000003 := by decide
theorem load_er {L : BX0} {s : Nat → Int32} {p : Nat} (hL : LayEq L s) (hp : s 1 = nI p) (k : Nat) (hk : p ≤ k) (h31 : k < 2 ^ 31) (v : Int32) : ErC (fX0_setLoad L (nI k) v) (-1000001) :=
  ⟨er1, L, by unfold fX0_setLoad; rw [plateN hL hp k hk h31, Option.bind_some, if_pos rfl]⟩
theorem load_c {L : BX0} {s : Nat → Int32} {p : Nat} (hL : LayEq L s) (hG : Good s) (hp : s 1 = nI p) (hp4 : p ≤ 4) (k : Nat) (hk : k < p) (i2 : Int32) (v1 : -99 ≤ i2.toInt) (v2 : i2.toInt ≤ 99) : OkC (fX0_setLoad L (nI k) i2) (s (12 + k) + 1000) (upd s (12 + k) i2) := by
  obtain ⟨w, p', g1, g2, g3, g4, g5, g6, g7, g8⟩ := id hG
  obtain rfl : p = p' := (nI_eq (by omega) (by omega)).mp (hp.symm.trans g2)
  have b1 : ¬ i2 < -99 := fun h => by have := i_lt.mp h; have e : ((-99 : Int32)).toInt = -99 := rfl; omega
  have b2 : i2 ≤ 99 := i_le.mpr (by show _ ≤ (99 : Int); omega)
  have hk4 : k < 4 := by omega
  have hv := (g7 k hk).1
  refine ⟨?_, good_load hG k hk4 i2 v1 v2, _, ?_, lay_load hL k hk4 i2⟩
  · refine i_lt.mpr ?_
    rw [i_add (show -2147483648 ≤ _ + (1000 : Int) by omega) (show _ + (1000 : Int) < 2147483648 by omega)]
    show (-1000001 : Int) < _ + 1000
    omega
  · unfold fX0_setLoad
    rw [plateC hL hp hp4 k hk, Option.bind_some, if_neg (by decide), if_neg b1, if_pos b2, if_pos (inB_nI hk4 (by omega)), elet_eq, if_pos (inB_nI hk4 (by omega)), elet_eq, nI_clamp (by omega), hL.2.2.2.2.1 k hk4]
theorem spring_er {L : BX0} {s : Nat → Int32} {p : Nat} (hL : LayEq L s) (hp : s 1 = nI p) (k : Nat) (hk : p < k) (h31 : k < 2 ^ 31) (v x : Int32) : ErC (fX0_setSpring L (nI k) v x) (-1000001) :=
  ⟨er1, L, by unfold fX0_setSpring; rw [springN hL hp k hk h31, Option.bind_some, if_pos rfl]⟩
theorem spring_c {L : BX0} {s : Nat → Int32} {p : Nat} (hL : LayEq L s) (hG : Good s) (hp : s 1 = nI p) (hp4 : p ≤ 4) (k : Nat) (hk : k ≤ p) (i2 i3 : Int32) (w1 : 1 ≤ i2.toInt) (w2 : i2.toInt ≤ 9) (w3 : 0 ≤ i3.toInt) (w4 : i3.toInt ≤ 50) : OkC (fX0_setSpring L (nI k) i2 i3) (100 * s (2 + k) + s (7 + k)) (upd (upd s (2 + k) i2) (7 + k) i3) := by
  obtain ⟨w, p', g1, g2, g3, g4, g5, g6, g7, g8⟩ := id hG
  obtain rfl : p = p' := (nI_eq (by omega) (by omega)).mp (hp.symm.trans g2)
  have z1 : ((1 : Int32)).toInt = 1 := rfl
  have z9 : ((9 : Int32)).toInt = 9 := rfl
  have z0 : ((0 : Int32)).toInt = 0 := rfl
  have z5 : ((50 : Int32)).toInt = 50 := rfl
  have b1 : ¬ i2 < 1 := fun h => by have := i_lt.mp h; omega
  have b2 : ¬ 9 < i2 := fun h => by have := i_lt.mp h; omega
  have b3 : ¬ i3 < 0 := fun h => by have := i_lt.mp h; omega
  have b4 : i3 ≤ 50 := i_le.mpr (by omega)
  have hk5 : k < 5 := by omega
  have e1 : inB (nI k) 5 = true := inB_nI hk5 (by omega)
  have e2 : (nI k).toNatClampNeg = k := nI_clamp (by omega)
  obtain ⟨v1, v2, v3, v4⟩ := g6 k hk
  have h100 : ((100 : Int32)).toInt = 100 := rfl
  have m1 : ((100 : Int32) * s (2 + k)).toInt = 100 * (s (2 + k)).toInt := by
    rw [i_mul (by rw [h100]; omega) (by rw [h100]; omega), h100]
  refine ⟨?_, good_spring hG k hk5 i2 i3 w1 w2 w3 w4, _, ?_, lay_spring hL k hk5 i2 i3⟩
  · refine i_lt.mpr ?_
    rw [i_add (by rw [m1]; omega) (by rw [m1]; omega), m1]
    show (-1000001 : Int) < _
    omega
  · unfold fX0_setSpring
    rw [springC hL hp hp4 k hk, Option.bind_some, if_neg (by decide), if_neg b1, if_neg b2, if_neg b3, if_pos b4, if_pos e1, if_pos e1, elet_eq, if_pos e1, elet_eq, if_pos e1, elet_eq, e2, gs0_lengths_strengths, hL.2.2.1 k hk5, hL.2.2.2.1 k hk5]
theorem width_c {L : BX0} {s : Nat → Int32} {p : Nat} (hL : LayEq L s) (hG : Good s) (hp : s 1 = nI p) (hp4 : p ≤ 4) (v : Nat) (w1 : 10 ≤ v) (w2 : v ≤ 99) :
    (BeyR s p 0 (nI v) ∧ ErC (fX0_setWidth L (nI v)) (-1000002)) ∨ (¬ BeyR s p 0 (nI v) ∧ OkC (fX0_setWidth L (nI v)) (s 0) (upd s 0 (nI v))) := by
  obtain ⟨w, p', g1, g2, g3, g4, g5, g6, g7, g8⟩ := id hG
  obtain rfl : p = p' := (nI_eq (by omega) (by omega)).mp (hp.symm.trans g2)
  have hvi : (nI v).toInt = v := nI_toInt (by omega)
  have d1 : ¬ nI v < 10 := show ¬ nI v < nI 10 from nltc w1 (by omega)
  have d2 : nI v ≤ 99 := show nI v ≤ nI 99 from lec w2 (by omega)
  rcases beyond_v hL g2 g5 (nI v) with ⟨b1, b2⟩ | ⟨b1, b2⟩
  · exact Or.inl ⟨b1, er2, L, by unfold fX0_setWidth; rw [if_neg d1, if_pos d2, b2, Option.bind_some, if_neg (by decide)]⟩
  · refine Or.inr ⟨b1, ?_, ?_, _, ?_, lay_width hL (nI v)⟩
    · have hw : (nI w).toInt = w := nI_toInt (by omega)
      rw [g1, i_lt, hw]
      show (-1000001 : Int) < _
      omega
    · have hv : ∀ k, k < p → (s (16 + k)).toInt ≤ v ∧ (s (20 + k)).toInt ≤ v := by
        intro k hk
        have h1 : s (16 + k) ≤ nI v ∧ s (20 + k) ≤ nI v := Classical.byContradiction fun c => b1 ⟨k, Nat.zero_le _, hk, c⟩
        rw [← hvi]
        exact ⟨i_le.mp h1.1, i_le.mp h1.2⟩
      refine ⟨v, p, by rw [pk_us], by rw [pk_un (by omega)]; exact g2, by omega, by omega, g5, fun k hk => ?_, fun k hk => ?_, fun i j hij hj => ?_⟩
      · rw [pk_un (by omega), pk_un (by omega)]; exact g6 k hk
      · have q := hv k hk
        rw [pk_un (by omega), pk_un (by omega), pk_un (by omega)]
        exact ⟨(g7 k hk).1, ⟨(g7 k hk).2.1.1, q.1⟩, (g7 k hk).2.2.1, q.2⟩
      · have q1 := (hv i (by omega)).1
        have q3 := g8 i j hij hj
        have z : (0 : Int32).toInt = 0 := rfl
        unfold lowB highB at q3 ⊢
        rw [pk_un (show 16 + i ≠ 0 by omega), pk_un (show 20 + j ≠ 0 by omega), pk_us]
        by_cases a : s (20 + j) < 0
        · rw [if_pos a, i_le, hvi]
          split
          · rw [z]; omega
          · exact q1
        · rw [if_neg a] at q3 ⊢
          exact q3
    · unfold fX0_setWidth; rw [if_neg d1, if_pos d2, b2, Option.bind_some, if_pos rfl, elet_eq, elet_eq, hL.1]
def plS (s : Nat → Int32) (p : Nat) : Nat → Int32 := upd (upd (upd (upd (upd (upd s 1 (nI (p + 1))) (2 + p + 1) 1) (7 + p + 1) 10) (12 + p) 0) (16 + p) (-1)) (20 + p) (-1)
theorem plate_er {L : BX0} {s : Nat → Int32} (hL : LayEq L s) (hp : s 1 = nI 4) : ErC (fX0_addPlate L) (-1000003) :=
  ⟨er3, L, by unfold fX0_addPlate; rw [hL.2.1, hp, if_neg (by decide)]⟩
theorem plate_c {L : BX0} {s : Nat → Int32} {p : Nat} (hL : LayEq L s) (hG : Good s) (hp0 : s 1 = nI p) (hp : p < 4) : OkC (fX0_addPlate L) (nI p) (plS s p) := by
  obtain ⟨w, p', g1, g2, g3, g4, g5, g6, g7, g8⟩ := id hG
  obtain rfl : p = p' := (nI_eq (by omega) (by omega)).mp (hp0.symm.trans g2)
  have a1 : nI p < (4 : Int32) := ltc (b := 4) hp (by omega)
  have e1 : (2 : Int32) * nI p = nI (2 * p) := pk_mul 2 p
  refine ⟨?_, ?_, s0_plates (s0_lengths (s0_strengths (s0_stops (s0_loads L (upd (p0_loads L) p 0)) (upd (upd (p0_stops L) (2 * p) (-1)) (2 * p + 1) (-1))) (upd (p0_strengths L) (p + 1) 1)) (upd (p0_lengths L) (p + 1) 10)) (nI (p + 1)), ?_, ?_⟩
  · rw [i_lt, nI_toInt (by omega)]
    show (-1000001 : Int) < _
    omega
  · unfold plS
    refine ⟨w, p + 1, ?_, ?_, g3, g4, by omega, fun k hk => ?_, fun k hk => ?_, fun i j hij hj => ?_⟩
    · rw [pk_un (by omega), pk_un (by omega), pk_un (by omega), pk_un (by omega), pk_un (by omega), pk_un (by omega)]; exact g1
    · rw [pk_un (by omega), pk_un (by omega), pk_un (by omega), pk_un (by omega), pk_un (by omega), pk_us]
    · by_cases e : k = p + 1
      · subst e
        rw [pk_un (by omega), pk_un (by omega), pk_un (by omega), pk_un (by omega), show 2 + (p + 1) = 2 + p + 1 by omega, pk_us, pk_un (by omega), pk_un (by omega), pk_un (by omega), show 7 + (p + 1) = 7 + p + 1 by omega, pk_us]
        decide
      · have q := g6 k (by omega)
        rw [pk_un (by omega), pk_un (by omega), pk_un (by omega), pk_un (by omega), pk_un (by omega), pk_un (by omega), pk_un (by omega), pk_un (by omega), pk_un (by omega), pk_un (by omega), pk_un (by omega), pk_un (by omega)]
        exact q
    · by_cases e : k = p
      · subst e
        have w0 : (0 : Int32).toInt = 0 := rfl
        have w1 : (-1 : Int32).toInt = -1 := rfl
        rw [pk_un (show 12 + k ≠ 20 + k by omega), pk_un (show 12 + k ≠ 16 + k by omega), pk_us, pk_un (show 16 + k ≠ 20 + k by omega), pk_us, pk_us, w0, w1]
        omega
      · have q := g7 k (by omega)
        rw [pk_un (by omega), pk_un (by omega), pk_un (by omega), pk_un (by omega), pk_un (by omega), pk_un (by omega), pk_un (by omega), pk_un (by omega), pk_un (by omega), pk_un (by omega), pk_un (by omega), pk_un (by omega), pk_un (by omega), pk_un (by omega), pk_un (by omega), pk_un (by omega), pk_un (by omega), pk_un (by omega)]
        exact q
    · have z : (0 : Int32).toInt = 0 := rfl
      have hw : (nI w).toInt = w := nI_toInt (by omega)
      have hl : ∀ i, i < p → lowB (upd (upd (upd (upd (upd (upd s 1 (nI (p + 1))) (2 + p + 1) 1) (7 + p + 1) 10) (12 + p) 0) (16 + p) (-1)) (20 + p) (-1)) i = lowB s i := by
        intro i hi
        unfold lowB
        rw [pk_un (by omega), pk_un (by omega), pk_un (by omega), pk_un (by omega), pk_un (by omega), pk_un (by omega)]
      have hlp : lowB (upd (upd (upd (upd (upd (upd s 1 (nI (p + 1))) (2 + p + 1) 1) (7 + p + 1) 10) (12 + p) 0) (16 + p) (-1)) (20 + p) (-1)) p = 0 := by
        unfold lowB
        rw [pk_un (show 16 + p ≠ 20 + p by omega), pk_us, if_pos (by decide)]
      have hh : ∀ j, j < p → highB (upd (upd (upd (upd (upd (upd s 1 (nI (p + 1))) (2 + p + 1) 1) (7 + p + 1) 10) (12 + p) 0) (16 + p) (-1)) (20 + p) (-1)) j = highB s j := by
        intro j hj
        unfold highB
        rw [pk_un (by omega), pk_un (by omega), pk_un (by omega), pk_un (by omega), pk_un (by omega), pk_un (by omega), pk_un (by omega), pk_un (by omega), pk_un (by omega), pk_un (by omega), pk_un (by omega), pk_un (by omega)]
      have hhp : highB (upd (upd (upd (upd (upd (upd s 1 (nI (p + 1))) (2 + p + 1) 1) (7 + p + 1) 10) (12 + p) 0) (16 + p) (-1)) (20 + p) (-1)) p = nI w := by
        unfold highB
        rw [pk_us, if_pos (by decide), pk_un (by omega), pk_un (by omega), pk_un (by omega), pk_un (by omega), pk_un (by omega), pk_un (by omega), g1]
      rw [i_le]
      by_cases ej : j = p
      · subst ej
        rw [hhp, hw]
        by_cases ei : i = j
        · subst ei; rw [hlp, z]; omega
        · rw [hl i (by omega)]
          exact (bounds_of g1 g4 g7 i (by omega)).2.1
      · rw [hl i (by omega), hh j (by omega)]
        exact i_le.mp (g8 i j hij (by omega))
  · unfold fX0_addPlate fX0_putNewSpring
    rw [hL.2.1, g2, if_pos a1, elet_eq, if_pos (inB_nI hp (by omega)), elet_eq, e1, if_pos (inB_nI (by omega) (by omega)), elet_eq, nI_1, nI_1, if_pos (inB_nI (by omega) (by omega)), elet_eq, if_pos (inB_nI (by omega) (by omega)), elet_eq, if_pos (inB_nI (by omega) (by omega)), elet_eq, Option.bind_some, elet_eq, nI_clamp (by omega), nI_clamp (by omega), nI_clamp (by omega), nI_clamp (by omega)]
    show some (nI p, s0_plates _ (p0_plates L + 1)) = _
    rw [hL.2.1, g2, nI_1]
    rfl
  · unfold plS
    obtain ⟨h1, h2, h3, h4, h5, h6, h7⟩ := hL
    refine ⟨?_, ?_, fun j hj => ?_, fun j hj => ?_, fun j hj => ?_, fun j hj => ?_, fun j hj => ?_⟩
    · rw [gs0_width_plates, gs0_width_lengths, gs0_width_strengths, gs0_width_stops, gs0_width_loads, pk_un (by omega), pk_un (by omega), pk_un (by omega), pk_un (by omega), pk_un (by omega), pk_un (by omega)]; exact h1
    · rw [gs0_plates_plates, pk_un (by omega), pk_un (by omega), pk_un (by omega), pk_un (by omega), pk_un (by omega), pk_us]
    · rw [gs0_strengths_plates, gs0_strengths_lengths, gs0_strengths_strengths]
      simp only [upd_e]
      have := h3 j hj
      grind
    · rw [gs0_lengths_plates, gs0_lengths_lengths]
      simp only [upd_e]
      have := h4 j hj
      grind
    · rw [gs0_loads_plates, gs0_loads_lengths, gs0_loads_strengths, gs0_loads_stops, gs0_loads_loads]
      simp only [upd_e]
      have := h5 j hj
      grind
    · rw [gs0_stops_plates, gs0_stops_lengths, gs0_stops_strengths, gs0_stops_stops]
      simp only [upd_e]
      have := h6 j hj
      grind
    · rw [gs0_stops_plates, gs0_stops_lengths, gs0_stops_strengths, gs0_stops_stops]
      simp only [upd_e]
      have := h7 j hj
      grind
theorem drop_allC (q : Nat) (hq : q ≤ 3) : ∀ d j, j + d = q → ∀ (L : BX0) (s : Nat → Int32) (n : Nat), p0_plates L = nI (q + 1) → LayEq (s0_plates L (nI q)) s → s 1 = nI q → ∃ L1 s1, fX0_removePlate_13 (n + d + 1) L (nI j) = some (nI q, L1) ∧ LayEq L1 s1 ∧ s1 0 = s 0 ∧ s1 1 = s 1 ∧ (∀ k, k ≤ q → s1 (2 + k) = (if k ≤ j then s (2 + k) else s (2 + k + 1)) ∧ s1 (7 + k) = (if k ≤ j then s (7 + k) else s (7 + k + 1))) ∧ (∀ k, k < q → s1 (12 + k) = (if k < j then s (12 + k) else s (12 + k + 1)) ∧ s1 (16 + k) = (if k < j then s (16 + k) else s (16 + k + 1)) ∧ s1 (20 + k) = (if k < j then s (20 + k) else s (20 + k + 1))) := by
  intro d
  induction d with
  | zero =>
    intro j hj L s n hp hL hs
    obtain rfl : j = q := by omega
    refine ⟨_, s, drop_ce _ L j hq hp, hL, rfl, rfl, fun k hk => ⟨by rw [if_pos hk], by rw [if_pos hk]⟩, fun k hk => ⟨by rw [if_pos hk], by rw [if_pos hk], by rw [if_pos hk]⟩⟩
  | succ d ih =>
    intro j hj L s n hp hL hs
    have hjq : j < q := by omega
    have hs1 : drS j s 1 = nI q := by
      unfold drS
      rw [pk_un (by omega), pk_un (by omega), pk_un (by omega), pk_un (by omega), pk_un (by omega)]; exact hs
    obtain ⟨L1, s1, r1, r2, r4, r5, r6, r7⟩ := ih (j + 1) (by omega) (drL j L) (drS j s) n (by unfold drL; rw [gs0_plates_lengths, gs0_plates_strengths, gs0_plates_stops, gs0_plates_loads]; exact hp) (dr_lay hL j (by omega)) hs1
    refine ⟨L1, s1, ?_, r2, ?_, ?_, fun k hk => ?_, fun k hk => ?_⟩
    · rw [show n + (d + 1) + 1 = (n + d + 1) + 1 by omega, drop_c _ L q j hq hjq hp]; exact r1
    · rw [r4]; unfold drS; rw [pk_un (by omega), pk_un (by omega), pk_un (by omega), pk_un (by omega), pk_un (by omega)]
    · rw [r5, hs1, hs]
    · obtain ⟨x1, x2⟩ := r6 k hk
      rw [x1, x2]
      unfold drS
      simp only [upd_e]
      constructor <;> grind
    · obtain ⟨x1, x2, x3⟩ := r7 k hk
      rw [x1, x2, x3]
      unfold drS
      simp only [upd_e]
      refine ⟨?_, ?_, ?_⟩ <;> grind
theorem drop_er {L : BX0} {s : Nat → Int32} {p : Nat} (hL : LayEq L s) (hp : s 1 = nI p) (k : Nat) (hk : p ≤ k) (h31 : k < 2 ^ 31) : ErC (fX0_removePlate L (nI k)) (-1000001) :=
  ⟨er1, L, by
    unfold fX0_removePlate
    generalize FU = F
    rw [plateN hL hp k hk h31, Option.bind_some, if_pos rfl]⟩
theorem drop_c24 {L : BX0} {s : Nat → Int32} {q : Nat} (hL : LayEq L s) (hG : Good s) (hp : s 1 = nI (q + 1)) (hq4 : q + 1 ≤ 4) (k : Nat) (hk : k < q + 1) : ∃ s1, OkC (fX0_removePlate L (nI k)) (nI q) s1 ∧ s1 0 = s 0 ∧ s1 1 = nI q ∧ (∀ j, j ≤ q → s1 (2 + j) = (if j ≤ k then s (2 + j) else s (2 + j + 1)) ∧ s1 (7 + j) = (if j ≤ k then s (7 + j) else s (7 + j + 1))) ∧ (∀ j, j < q → s1 (12 + j) = (if j < k then s (12 + j) else s (12 + j + 1)) ∧ s1 (16 + j) = (if j < k then s (16 + j) else s (16 + j + 1)) ∧ s1 (20 + j) = (if j < k then s (20 + j) else s (20 + j + 1))) := by
  obtain ⟨w, p', g1, g2, g3, g4, g5, g6, g7, g8⟩ := id hG
  obtain rfl : q + 1 = p' := (nI_eq (by omega) (by omega)).mp (hp.symm.trans g2)
  have a1 := plateC hL hp hq4 k hk
  have hi1 : fX0_removePlate L (nI k) = fX0_removePlate_13 FU L (nI k) := by
    unfold fX0_removePlate
    generalize FU = F
    rw [a1, Option.bind_some, if_neg (by decide)]
  have hL2 : LayEq (s0_plates L (nI q)) (upd s 1 (nI q)) := by
    obtain ⟨h1, h2, h3, h4, h5, h6, h7⟩ := hL
    refine ⟨?_, ?_, fun j hj => ?_, fun j hj => ?_, fun j hj => ?_, fun j hj => ?_, fun j hj => ?_⟩
    · rw [gs0_width_plates, pk_un (by omega)]; exact h1
    · rw [gs0_plates_plates, pk_us]
    · rw [gs0_strengths_plates, pk_un (by omega)]; exact h3 j hj
    · rw [gs0_lengths_plates, pk_un (by omega)]; exact h4 j hj
    · rw [gs0_loads_plates, pk_un (by omega)]; exact h5 j hj
    · rw [gs0_stops_plates, pk_un (by omega)]; exact h6 j hj
    · rw [gs0_stops_plates, pk_un (by omega)]; exact h7 j hj
  obtain ⟨n, hn⟩ := FU_ex (q - k + 1) (by omega)
  obtain ⟨L1, s1, r1, r2, r4, r5, r6, r7⟩ := drop_allC q (by omega) (q - k) k (by omega) L (upd s 1 (nI q)) n (hL.2.1.trans g2) hL2 pk_us
  rw [pk_un (by omega)] at r4
  rw [pk_us] at r5
  have r6b : ∀ j, j ≤ q → s1 (2 + j) = (if j ≤ k then s (2 + j) else s (2 + j + 1)) ∧ s1 (7 + j) = (if j ≤ k then s (7 + j) else s (7 + j + 1)) := by
    intro j hj
    have x := r6 j hj
    rw [pk_un (by omega), pk_un (by omega), pk_un (by omega), pk_un (by omega)] at x
    exact x
  have r7b : ∀ j, j < q → s1 (12 + j) = (if j < k then s (12 + j) else s (12 + j + 1)) ∧ s1 (16 + j) = (if j < k then s (16 + j) else s (16 + j + 1)) ∧ s1 (20 + j) = (if j < k then s (20 + j) else s (20 + j + 1)) := by
    intro j hj
    have x := r7 j hj
    rw [pk_un (by omega), pk_un (by omega), pk_un (by omega), pk_un (by omega), pk_un (by omega), pk_un (by omega)] at x
    exact x
  refine ⟨s1, ⟨?_, ?_, L1, ?_, r2⟩, r4, r5, r6b, r7b⟩
  · rw [i_lt, nI_toInt (by omega)]
    show (-1000001 : Int) < _
    omega
  · have hl : ∀ j, j < q → lowB s1 j = lowB s (if j < k then j else j + 1) := by
      intro j hj
      unfold lowB
      rw [(r7b j hj).2.1]
      by_cases e : j < k
      · rw [if_pos e, if_pos e]
      · rw [if_neg e, if_neg e]; rfl
    have hh : ∀ j, j < q → highB s1 j = highB s (if j < k then j else j + 1) := by
      intro j hj
      unfold highB
      rw [(r7b j hj).2.2, r4]
      by_cases e : j < k
      · rw [if_pos e, if_pos e]
      · rw [if_neg e, if_neg e]; rfl
    refine ⟨w, q, r4.trans g1, r5, g3, g4, by omega, fun j hj => ?_, fun j hj => ?_, fun i j hij hj => ?_⟩
    · rw [(r6b j hj).1, (r6b j hj).2]
      by_cases e : j ≤ k
      · rw [if_pos e, if_pos e]; exact g6 j (by omega)
      · rw [if_neg e, if_neg e]; exact g6 (j + 1) (by omega)
    · rw [(r7b j hj).1, (r7b j hj).2.1, (r7b j hj).2.2]
      by_cases e : j < k
      · rw [if_pos e, if_pos e, if_pos e]; exact g7 j (by omega)
      · rw [if_neg e, if_neg e, if_neg e]; exact g7 (j + 1) (by omega)
    · rw [hl i (by omega), hh j hj]
      refine g8 _ _ ?_ ?_
      · split <;> split <;> omega
      · split <;> omega
  · rw [hi1, hn]
    exact r1
theorem sideC (c : Nat) (hc : c < 2) : fX3_isSide (nI c) = some 1 := by
  rcases (show c = 0 ∨ c = 1 by omega) with rfl | rfl <;> decide
theorem unstop_er {L : BX0} {s : Nat → Int32} {p : Nat} (hL : LayEq L s) (hp : s 1 = nI p) (k : Nat) (hk : p ≤ k) (h31 : k < 2 ^ 31) (v : Int32) : ErC (fX0_removeStop L (nI k) v) (-1000001) :=
  ⟨er1, L, by unfold fX0_removeStop; rw [plateN hL hp k hk h31, Option.bind_some, if_pos rfl]⟩
theorem stop_er {L : BX0} {s : Nat → Int32} {p : Nat} (hL : LayEq L s) (hp : s 1 = nI p) (k : Nat) (hk : p ≤ k) (h31 : k < 2 ^ 31) (v x : Int32) : ErC (fX0_setStop L (nI k) v x) (-1000001) :=
  ⟨er1, L, by unfold fX0_setStop; rw [plateN hL hp k hk h31, Option.bind_some, if_pos rfl]⟩
theorem unstop_c {L : BX0} {s : Nat → Int32} {p : Nat} (hL : LayEq L s) (hG : Good s) (hp : s 1 = nI p) (hp4 : p ≤ 4) (k c : Nat) (hk : k < p) (hc : c < 2) :
    (s (16 + 4 * c + k) < 0 ∧ s (16 + 4 * c + k) = -1 ∧ ErC (fX0_removeStop L (nI k) (nI c)) (-1000002)) ∨ (¬ s (16 + 4 * c + k) < 0 ∧ OkC (fX0_removeStop L (nI k) (nI c)) (s (16 + 4 * c + k)) (upd s (16 + 4 * c + k) (-1))) := by
  obtain ⟨w, p', g1, g2, g3, g4, g5, g6, g7, g8⟩ := id hG
  obtain rfl : p = p' := (nI_eq (by omega) (by omega)).mp (hp.symm.trans g2)
  have a1 := plateC hL hp hp4 k hk
  have b1 := sideC c hc
  have hk4 : k < 4 := by omega
  have e0 := stopOf_v L k c hk4 hc
  rw [stops_c hL k c hk4 hc] at e0
  have e1 : (2 : Int32) * nI k + nI c = nI (2 * k + c) := by rw [show (2 : Int32) * nI k = nI (2 * k) from pk_mul 2 k, nI_add]
  have e2 : inB (nI (2 * k + c)) 8 = true := inB_nI (by omega) (by omega)
  have e3 : (nI (2 * k + c)).toNatClampNeg = 2 * k + c := nI_clamp (by omega)
  have hv : -1 ≤ (s (16 + 4 * c + k)).toInt ∧ (s (16 + 4 * c + k)).toInt ≤ w := by
    obtain ⟨-, x1, x2⟩ := g7 k hk
    rcases (show c = 0 ∨ c = 1 by omega) with rfl | rfl
    · exact x1
    · exact x2
  by_cases d : s (16 + 4 * c + k) < 0
  · have d1 := (neg1 hv.1).mp d
    exact Or.inl ⟨d, d1, er2, L, by unfold fX0_removeStop; rw [a1, Option.bind_some, if_neg (by decide), b1, Option.bind_some, if_neg (by decide), e0, Option.bind_some, if_pos d1]⟩
  · have d1 : ¬ s (16 + 4 * c + k) = -1 := fun e => d ((neg1 hv.1).mpr e)
    refine Or.inr ⟨d, ?_, good_stop hG g1 g2 g5 g4 k c hk hc (-1) (by decide) (by show (-1 : Int) ≤ _; omega) ?_, _, ?_, lay_stop hL k c hk4 hc (-1)⟩
    · refine i_lt.mpr ?_
      show (-1000001 : Int) < _
      omega
    · intro i j hij hj
      have q1 := bounds_of g1 g4 g7 i (by omega)
      have q2 := bounds_of g1 g4 g7 j hj
      have q3 := g8 i j hij hj
      have z : (0 : Int32).toInt = 0 := rfl
      have hw : (nI w).toInt = w := nI_toInt (by omega)
      rw [i_le] at q3 ⊢
      have f1 : lowB (upd s (16 + 4 * c + k) (-1)) i = lowB s i ∨ lowB (upd s (16 + 4 * c + k) (-1)) i = 0 := by
        unfold lowB
        rw [upd_e]
        split
        · exact Or.inr (if_pos (by decide))
        · exact Or.inl rfl
      have f2 : highB (upd s (16 + 4 * c + k) (-1)) j = highB s j ∨ highB (upd s (16 + 4 * c + k) (-1)) j = nI w := by
        unfold highB
        rw [upd_e, pk_un (show 0 ≠ 16 + 4 * c + k by omega)]
        split
        · exact Or.inr (by rw [if_pos (by decide), g1])
        · exact Or.inl rfl
      rcases f1 with f1 | f1 <;> rcases f2 with f2 | f2 <;> rw [f1, f2] <;> omega
    · unfold fX0_removeStop
      rw [a1, Option.bind_some, if_neg (by decide), b1, Option.bind_some, if_neg (by decide), e0, Option.bind_some, if_neg d1, e1, if_pos e2, elet_eq, e3]
/-- what a row of bounds allows: no left bound beyond a right bound that doesn't stand ahead of it -/
def AlwS (s : Nat → Int32) (p : Nat) : Prop := ∀ i j, i ≤ j → j < p → lowB s i ≤ highB s j
theorem AllR_alw {s : Nat → Int32} {p : Nat} (h0 : ∀ j, j < p → 0 ≤ (highB s j).toInt) : AllR s p 0 0 ↔ AlwS s p := by
  constructor
  · exact fun hA i j hij hj => (hA j (Nat.zero_le _) hj).2 i (Nat.zero_le _) hij
  · exact fun hA j _ hj => ⟨i_le.mpr (h0 j hj), fun i _ hij => hA i j hij hj⟩
theorem stop_c {L : BX0} {s : Nat → Int32} {p w : Nat} (hL : LayEq L s) (hG : Good s) (hw0 : s 0 = nI w) (hp : s 1 = nI p) (hp4 : p ≤ 4) (k c v : Nat) (hk : k < p) (hc : c < 2) (hv : v ≤ w) (hw9 : w ≤ 99) :
    (AlwS (upd s (16 + 4 * c + k) (nI v)) p ∧ OkC (fX0_setStop L (nI k) (nI c) (nI v)) (s (16 + 4 * c + k)) (upd s (16 + 4 * c + k) (nI v))) ∨ (¬ AlwS (upd s (16 + 4 * c + k) (nI v)) p ∧ ErC (fX0_setStop L (nI k) (nI c) (nI v)) (-1000002)) := by
  obtain ⟨w', p', g1, g2, g3, g4, g5, g6, g7, g8⟩ := id hG
  obtain rfl : p = p' := (nI_eq (by omega) (by omega)).mp (hp.symm.trans g2)
  obtain rfl : w = w' := (nI_eq (by omega) (by omega)).mp (hw0.symm.trans g1)
  have a1 := plateC hL hp hp4 k hk
  have b1 := sideC c hc
  have hwd : p0_width L = s 0 := hL.1
  have hk4 : k < 4 := by omega
  have e0 := stopOf_v L k c hk4 hc
  rw [stops_c hL k c hk4 hc] at e0
  have e1 : (2 : Int32) * nI k + nI c = nI (2 * k + c) := by rw [show (2 : Int32) * nI k = nI (2 * k) from pk_mul 2 k, nI_add]
  have e2 : inB (nI (2 * k + c)) 8 = true := inB_nI (by omega) (by omega)
  have e3 : (nI (2 * k + c)).toNatClampNeg = 2 * k + c := nI_clamp (by omega)
  have hvt : (nI v).toInt = v := nI_toInt (by omega)
  have hwt : (nI w).toInt = w := nI_toInt (by omega)
  have d1 : ¬ nI v < 0 := nI_pos (by omega)
  have d2 : nI v ≤ s 0 := by rw [g1]; exact lec hv (by omega)
  have hvb : -1 ≤ (s (16 + 4 * c + k)).toInt ∧ (s (16 + 4 * c + k)).toInt ≤ w := by
    obtain ⟨-, x1, x2⟩ := g7 k hk
    rcases (show c = 0 ∨ c = 1 by omega) with rfl | rfl
    · exact x1
    · exact x2
  have hL1 := lay_stop hL k c hk4 hc (nI v)
  have hp1 : upd s (16 + 4 * c + k) (nI v) 1 = nI p := by rw [pk_un (by omega)]; exact g2
  have hS1 : SaneS (upd s (16 + 4 * c + k) (nI v)) p := by
    intro j hj
    obtain ⟨-, x1, x2⟩ := g7 j hj
    constructor
    · rw [upd_e]; split; omega; exact x1.1
    · rw [upd_e]; split; omega; exact x2.1
  have h0 : ∀ j, j < p → 0 ≤ (highB (upd s (16 + 4 * c + k) (nI v)) j).toInt := by
    intro j hj
    unfold highB
    split
    · rw [pk_un (by omega), g1, hwt]; omega
    · rename_i h
      have q1 := i_le.mp (Int32.not_lt.mp h)
      have z : (0 : Int32).toInt = 0 := rfl
      rw [z] at q1
      exact q1
  have cR := allows_v hL1 hS1 hp1 g5
  rw [AllR_alw h0] at cR
  by_cases hA : AlwS (upd s (16 + 4 * c + k) (nI v)) p
  · have c1 : fX0_allowsRow (s0_stops L (upd (p0_stops L) (2 * k + c) (nI v))) = some 1 := by
      rcases cR with ⟨-, c1⟩ | ⟨c1, -⟩
      · exact c1
      · exact absurd hA c1
    refine Or.inl ⟨hA, ?_, good_stop hG g1 g2 g5 g4 k c hk hc (nI v) (by omega) (by omega) hA, _, ?_, hL1⟩
    · refine i_lt.mpr ?_
      show (-1000001 : Int) < _
      omega
    · unfold fX0_setStop
      rw [a1, Option.bind_some, if_neg (by decide), b1, Option.bind_some, if_neg (by decide), if_neg d1, hwd, if_pos d2, e0, Option.bind_some, e1, if_pos e2, elet_eq, e3, c1, Option.bind_some, if_neg (by decide)]
  · have c1 : fX0_allowsRow (s0_stops L (upd (p0_stops L) (2 * k + c) (nI v))) = some 0 := by
      rcases cR with ⟨c1, -⟩ | ⟨-, c1⟩
      · exact absurd c1 hA
      · exact c1
    refine Or.inr ⟨hA, er2, s0_stops (s0_stops L (upd (p0_stops L) (2 * k + c) (nI v))) (upd (p0_stops (s0_stops L (upd (p0_stops L) (2 * k + c) (nI v)))) (2 * k + c) (s (16 + 4 * c + k))), ?_⟩
    unfold fX0_setStop
    rw [a1, Option.bind_some, if_neg (by decide), b1, Option.bind_some, if_neg (by decide), if_neg d1, hwd, if_pos d2, e0, Option.bind_some, e1, if_pos e2, elet_eq, e3, c1, Option.bind_some, if_pos rfl, if_pos e2, elet_eq]
/-! what is kept -/
def Hst (vX : BX3) (n : Nat) : Prop := ∃ h, h ≤ n ∧ n ≤ 4 ∧ p3_states vX = nI h
def StC (s : Nat → Int32) (vX : BX3) (n : Nat) (vA : BX0) (vR : BX1) (vS : BX2) : Prop := LayEq vA s ∧ Good s ∧ Hst vX n ∧ p2_size vS = 0 ∧ (p3_restKnown vX = 0 ∨ (p3_restKnown vX = 1 ∧ ∃ R0, fX1_settle vA R0 = some vR))
theorem StC.n4 {s : Nat → Int32} {vX : BX3} {n : Nat} {vA : BX0} {vR : BX1} {vS : BX2} (h : StC s vX n vA vR vS) : n ≤ 4 := by
  obtain ⟨-, -, ⟨h, -, h1, -⟩, -⟩ := h
  exact h1
theorem keepC {s : Nat → Int32} {vX : BX3} {n : Nat} {vA : BX0} {vR : BX1} {vS : BX2} (h : StC s vX n vA vR vS) (pv : Nat → BX0) (vB1 : BX0) (s1 : Nat → Int32) (ans : Int32) (ha : (-1000001 : Int32) < ans) (hB : LayEq vB1 s1) (hG1 : Good s1) : ∃ y, fX3_keep vX n pv vA vB1 ans = some y ∧ y.1 = ans ∧ StC s1 y.2.1 y.2.2.1 y.2.2.2.2 vR vS := by
  obtain ⟨hL, hG, ⟨k, hkn, hn, hs⟩, hT, -⟩ := h
  have hk : ∀ (X1 : BX3) (n1 : Nat) (p1 : Nat → BX0), fX3_recordState vX n pv vA = some (X1, n1, p1) → fX3_keep vX n pv vA vB1 ans = some (ans, s3_restKnown X1 0, n1, p1, cfV vA vB1) := by
    intro X1 n1 p1 e
    unfold fX3_keep fX3_isError
    rw [if_pos ha, Option.bind_some, if_pos rfl, e, Option.bind_some, copyFrom_v, Option.bind_some, elet_eq]
  by_cases h4 : k < 4
  · obtain ⟨n1, Z, e1, e2, e3⟩ := record_n vX n pv vA k h4 hkn hn hs
    refine ⟨_, hk _ _ _ e1, rfl, cfV_lay hB, hG1, ⟨k + 1, e2, e3, ?_⟩, hT, Or.inl ?_⟩
    · rw [gs3_states_restKnown, gs3_states_states]
    · rw [gs3_restKnown_restKnown]
  · obtain rfl : k = 4 := by omega
    obtain rfl : n = 4 := by omega
    obtain ⟨n1, Z, e1, e2, e3⟩ := record_f vX pv vA hs
    refine ⟨_, hk _ _ _ e1, rfl, cfV_lay hB, hG1, ⟨4, e2, e3, ?_⟩, hT, Or.inl ?_⟩
    · rw [gs3_states_restKnown, gs3_states_states]
    · rw [gs3_restKnown_restKnown]
abbrev OpT (vX : BX3) (n : Nat) (pv : Nat → BX0) (vA vB : BX0) (c : BX0 → Option (Int32 × BX0)) : Option (Int32 × BX3 × Nat × (Nat → BX0) × BX0 × BX0) := (fX3_freshTrial vX vA vB).bind (fun y1 => (c y1).bind (fun y2 => (fX3_keep vX n pv vA y2.2 y2.1).bind (fun y3 => some (y3.1, y3.2.1, (y3.2.2.1), (y3.2.2.2.1), y3.2.2.2.2, y2.2))))
theorem op_c {s : Nat → Int32} {vX : BX3} {n : Nat} {vA : BX0} {vR : BX1} {vS : BX2} (h : StC s vX n vA vR vS) (pv : Nat → BX0) (vB : BX0) (c : BX0 → Option (Int32 × BX0)) (a : Int32) (s1 : Nat → Int32) (ho : OkC (c (cfV vB vA)) a s1) : ∃ y, OpT vX n pv vA vB c = some y ∧ y.1 = a ∧ StC s1 y.2.1 y.2.2.1 y.2.2.2.2.1 vR vS := by
  obtain ⟨ha, hg, L1, hc, hl⟩ := ho
  obtain ⟨y, q1, q2, q5⟩ := keepC h pv L1 s1 a ha hl hg
  refine ⟨(y.1, y.2.1, y.2.2.1, y.2.2.2.1, y.2.2.2.2, L1), ?_, q2, q5⟩
  show (fX3_freshTrial vX vA vB).bind _ = _
  rw [freshTrial_v, Option.bind_some, hc, Option.bind_some, q1, Option.bind_some]
theorem op_e {s : Nat → Int32} {vX : BX3} {n : Nat} {vA : BX0} {vR : BX1} {vS : BX2} (h : StC s vX n vA vR vS) (pv : Nat → BX0) (vB : BX0) (c : BX0 → Option (Int32 × BX0)) (e : Int32) (ho : ErC (c (cfV vB vA)) e) : ∃ y, OpT vX n pv vA vB c = some y ∧ y.1 = e ∧ StC s y.2.1 y.2.2.1 y.2.2.2.2.1 vR vS := by
  obtain ⟨he, L1, hc⟩ := ho
  refine ⟨(e, vX, n, pv, vA, L1), ?_, rfl, h⟩
  show (fX3_freshTrial vX vA vB).bind _ = _
  rw [freshTrial_v, Option.bind_some, hc, Option.bind_some, keep_e _ _ _ _ _ _ he, Option.bind_some]
