theorem i_mul {a b : Int32} (h1 : -2147483648 ≤ a.toInt * b.toInt) (h2 : a.toInt * b.toInt < 2147483648) : (a * b).toInt = a.toInt * b.toInt := by
  rw [Int32.toInt_mul]
  exact Int.bmod_eq_of_le (by omega) (by omega)
theorem s4ss (M : BX4) (a b : Nat → Int32) : s4_s (s4_s M a) b = s4_s M b := rfl
theorem spring_or {L : BX0} {M : BX4} {p : Nat} (hL : LayEq L (p4_s M)) (hp : p4_s M 1 = nI p) (hp4 : p ≤ 4) (i : Int32) : (fX0_hasSpring L i = some 0 ∧ fX4_isSpring M i = some 0) ∨ ∃ k, k ≤ p ∧ i = nI k ∧ fX0_hasSpring L i = some 1 ∧ fX4_isSpring M i = some 1 := by
  have e : p0_plates L = nI p := hL.2.1.trans hp
  unfold fX0_hasSpring fX4_isSpring
  rw [cl1, hp, e]
  by_cases h0 : i < 0
  · exact Or.inl ⟨if_pos h0, if_pos h0⟩
  · obtain ⟨k, hk, rfl⟩ := nI_of h0
    by_cases h1 : nI p < nI k
    · exact Or.inl ⟨by rw [if_neg h0, if_pos h1], by rw [if_neg h0, if_pos h1]⟩
    · refine Or.inr ⟨k, ?_, rfl, by rw [if_neg h0, if_neg h1], by rw [if_neg h0, if_neg h1]⟩
      rcases Nat.lt_or_ge p k with q | q
      · exact absurd (nI_lt q hk) h1
      · exact q
theorem lay_spring {L : BX0} {s : Nat → Int32} (h : LayEq L s) (k : Nat) (hk : k < 5) (v u : Int32) : LayEq (s0_lengths (s0_strengths L (upd (p0_strengths L) k v)) (upd (p0_lengths L) k u)) (upd (upd s (2 + k) v) (7 + k) u) := by
  obtain ⟨h1, h2, h3, h4, h5, h6, h7⟩ := h
  refine ⟨?_, ?_, fun j hj => ?_, fun j hj => ?_, fun j hj => ?_, fun j hj => ?_, fun j hj => ?_⟩
  · rw [gs0_width_lengths, gs0_width_strengths, pk_un (by omega), pk_un (by omega)]; exact h1
  · rw [gs0_plates_lengths, gs0_plates_strengths, pk_un (by omega), pk_un (by omega)]; exact h2
  · rw [gs0_strengths_lengths, gs0_strengths_strengths, pk_un (show 2 + j ≠ 7 + k by omega)]
    by_cases e : j = k
    · subst e; rw [pk_us, pk_us]
    · rw [pk_un e, pk_un (by omega)]; exact h3 j hj
  · rw [gs0_lengths_lengths]
    by_cases e : j = k
    · subst e; rw [pk_us, pk_us]
    · rw [pk_un e, pk_un (by omega), pk_un (by omega)]; exact h4 j hj
  · rw [gs0_loads_lengths, gs0_loads_strengths, pk_un (by omega), pk_un (by omega)]; exact h5 j hj
  · rw [gs0_stops_lengths, gs0_stops_strengths, pk_un (by omega), pk_un (by omega)]; exact h6 j hj
  · rw [gs0_stops_lengths, gs0_stops_strengths, pk_un (by omega), pk_un (by omega)]; exact h7 j hj
theorem good_spring {s : Nat → Int32} (h : Good s) (k : Nat) (hk : k < 5) (v u : Int32) (h1 : 1 ≤ v.toInt) (h2 : v.toInt ≤ 9) (h3 : 0 ≤ u.toInt) (h9 : u.toInt ≤ 50) : Good (upd (upd s (2 + k) v) (7 + k) u) := by
  obtain ⟨w, p, g1, g2, g3, g4, g5, g6, g7, g8⟩ := h
  refine ⟨w, p, by rw [pk_un (by omega), pk_un (by omega)]; exact g1, by rw [pk_un (by omega), pk_un (by omega)]; exact g2, g3, g4, g5, fun j hj => ?_, fun j hj => ?_, fun i j hij hj => ?_⟩
  · rw [pk_un (show 2 + j ≠ 7 + k by omega)]
    by_cases e : j = k
    · subst e; rw [pk_us, pk_us]; exact ⟨h1, h2, h3, h9⟩
    · rw [pk_un (show 2 + j ≠ 2 + k by omega), pk_un (show 7 + j ≠ 7 + k by omega), pk_un (show 7 + j ≠ 2 + k by omega)]; exact g6 j hj
  · rw [pk_un (show 12 + j ≠ 7 + k by omega), pk_un (show 12 + j ≠ 2 + k by omega), pk_un (show 16 + j ≠ 7 + k by omega), pk_un (show 16 + j ≠ 2 + k by omega), pk_un (show 20 + j ≠ 7 + k by omega), pk_un (show 20 + j ≠ 2 + k by omega)]
    exact g7 j hj
  · unfold lowB highB
    rw [pk_un (show 16 + i ≠ 7 + k by omega), pk_un (show 16 + i ≠ 2 + k by omega), pk_un (show 20 + j ≠ 7 + k by omega), pk_un (show 20 + j ≠ 2 + k by omega), pk_un (show 0 ≠ 7 + k by omega), pk_un (show 0 ≠ 2 + k by omega)]
    exact g8 i j hij hj
theorem St_spring0 : St_spring Sim0 := by
  intro vX n pv vA vB vR vT vS vM i1 i2 i3 h
  have hL := h.1
  have hC : LayEq (cfV vB vA) (p4_s vM) := cfV_lay hL
  have hE : ∀ L1, fX0_setSpring (cfV vB vA) i1 i2 i3 = some (-1000001, L1) → fX3_spring vX n pv vA vB i1 i2 i3 = some (-1000001, vX, n, pv, vA, L1) := by
    intro L1 e
    unfold fX3_spring
    rw [freshTrial_v, Option.bind_some, e, Option.bind_some, keep_e _ _ _ _ _ _ (show ¬ (-1000001 : Int32) < -1000001 by decide), Option.bind_some]
  obtain ⟨w, p, g1, g2, g3, g4, g5, g6, g7, g8⟩ := id h.2.1
  rcases spring_or hC g2 g5 i1 with ⟨a1, a2⟩ | ⟨k, hk, rfl, a1, a2⟩
  · refine ⟨_, (-1000001, vM), hE (cfV vB vA) ?_, ?_, rfl, h⟩
    · unfold fX0_setSpring; rw [a1, Option.bind_some, if_pos rfl]
    · unfold fX4_spring; rw [a2, Option.bind_some, if_pos rfl]
  · by_cases b1 : i2 < 1
    · refine ⟨_, (-1000001, vM), hE (cfV vB vA) ?_, ?_, rfl, h⟩
      · unfold fX0_setSpring; rw [a1, Option.bind_some, if_neg (by decide), if_pos b1]
      · unfold fX4_spring fX4_in; rw [a2, Option.bind_some, if_neg (by decide), if_pos b1, Option.bind_some, if_pos rfl]
    · by_cases b2 : 9 < i2
      · refine ⟨_, (-1000001, vM), hE (cfV vB vA) ?_, ?_, rfl, h⟩
        · unfold fX0_setSpring; rw [a1, Option.bind_some, if_neg (by decide), if_neg b1, if_pos b2]
        · unfold fX4_spring fX4_in; rw [a2, Option.bind_some, if_neg (by decide), if_neg b1, if_pos b2, Option.bind_some, if_pos rfl]
      · by_cases b3 : i3 < 0
        · refine ⟨_, (-1000001, vM), hE (cfV vB vA) ?_, ?_, rfl, h⟩
          · unfold fX0_setSpring; rw [a1, Option.bind_some, if_neg (by decide), if_neg b1, if_neg b2, if_pos b3]
          · unfold fX4_spring fX4_in; rw [a2, Option.bind_some, if_neg (by decide), if_neg b1, if_neg b2, Option.bind_some, if_neg (by decide), if_pos b3, Option.bind_some, if_pos rfl]
        · by_cases b4 : i3 ≤ 50
          · have b5 : ¬ (50 : Int32) < i3 := Int32.not_lt.mpr b4
            have hk5 : k < 5 := by omega
            have e1 : inB (nI k) 5 = true := inB_nI hk5 (by omega)
            have e2 : (nI k).toNatClampNeg = k := nI_clamp (by omega)
            have e3 : (2 : Int32) + nI k = nI (2 + k) := nI_add 2 k
            have e3b : (7 : Int32) + nI k = nI (7 + k) := nI_add 7 k
            have e4 : inB (nI (2 + k)) 24 = true := inB_nI (by omega) (by omega)
            have e4b : inB (nI (7 + k)) 24 = true := inB_nI (by omega) (by omega)
            have e5 : (nI (2 + k)).toNatClampNeg = 2 + k := nI_clamp (by omega)
            have e5b : (nI (7 + k)).toNatClampNeg = 7 + k := nI_clamp (by omega)
            obtain ⟨v1, v2, v3, v4⟩ := g6 k hk
            have h100 : ((100 : Int32)).toInt = 100 := rfl
            have m1 : ((100 : Int32) * p4_s vM (2 + k)).toInt = 100 * (p4_s vM (2 + k)).toInt := by
              rw [i_mul (by rw [h100]; omega) (by rw [h100]; omega), h100]
            have ha : (-1000001 : Int32) < 100 * p4_s vM (2 + k) + p4_s vM (7 + k) := by
              refine i_lt.mpr ?_
              rw [i_add (by rw [m1]; omega) (by rw [m1]; omega), m1]
              show (-1000001 : Int) < _
              omega
            have w1 : 1 ≤ i2.toInt := i_le.mp (Int32.not_lt.mp b1)
            have w2 : i2.toInt ≤ 9 := i_le.mp (Int32.not_lt.mp b2)
            have w3 : 0 ≤ i3.toInt := i_le.mp (Int32.not_lt.mp b3)
            have w4 : i3.toInt ≤ 50 := i_le.mp b4
            obtain ⟨y, M1, q1, q2, q3, q4, q5⟩ := keep_sim h _ _ _ ha (lay_spring hC k hk5 i2 i3) (good_spring h.2.1 k hk5 i2 i3 w1 w2 w3 w4)
            refine ⟨(y.1, y.2.1, y.2.2.1, y.2.2.2.1, y.2.2.2.2, s0_lengths (s0_strengths (cfV vB vA) (upd (p0_strengths (cfV vB vA)) k i2)) (upd (p0_lengths (cfV vB vA)) k i3)), (100 * p4_s vM (2 + k) + p4_s vM (7 + k), s4_s M1 (upd (upd (p4_s vM) (2 + k) i2) (7 + k) i3)), ?_, ?_, q2, q5 _⟩
            · have e6 : fX0_setSpring (cfV vB vA) (nI k) i2 i3 = some (100 * p4_s vM (2 + k) + p4_s vM (7 + k), s0_lengths (s0_strengths (cfV vB vA) (upd (p0_strengths (cfV vB vA)) k i2)) (upd (p0_lengths (cfV vB vA)) k i3)) := by
                unfold fX0_setSpring
                rw [a1, Option.bind_some, if_neg (by decide), if_neg b1, if_neg b2, if_neg b3, if_pos b4, if_pos e1, if_pos e1, elet_eq, if_pos e1, elet_eq, if_pos e1, elet_eq, e2, gs0_lengths_strengths, hC.2.2.1 k hk5, hC.2.2.2.1 k hk5]
              unfold fX3_spring
              rw [freshTrial_v, Option.bind_some, e6, Option.bind_some, q1, Option.bind_some]
            · unfold fX4_spring fX4_in
              rw [a2, Option.bind_some, if_neg (by decide), if_neg b1, if_neg b2, Option.bind_some, if_neg (by decide), if_neg b3, if_neg b5, Option.bind_some, if_neg (by decide), q3, Option.bind_some, e3, e3b, if_pos e4, if_pos e4b, elet_eq, if_pos e4, elet_eq, if_pos e4b, elet_eq, e5, e5b, gs4_s_s, q4, s4ss]
          · have b5 : (50 : Int32) < i3 := Int32.not_le.mp b4
            refine ⟨_, (-1000001, vM), hE (cfV vB vA) ?_, ?_, rfl, h⟩
            · unfold fX0_setSpring; rw [a1, Option.bind_some, if_neg (by decide), if_neg b1, if_neg b2, if_neg b3, if_neg b4]
            · unfold fX4_spring fX4_in; rw [a2, Option.bind_some, if_neg (by decide), if_neg b1, if_neg b2, Option.bind_some, if_neg (by decide), if_neg b3, if_pos b5, Option.bind_some, if_pos rfl]
