theorem i_add {a b : Int32} (h1 : -2147483648 ≤ a.toInt + b.toInt) (h2 : a.toInt + b.toInt < 2147483648) : (a + b).toInt = a.toInt + b.toInt := by
  rw [Int32.toInt_add]
  exact Int.bmod_eq_of_le (by omega) (by omega)
theorem cl1 : ((1 : Int32)).toNatClampNeg = 1 := rfl
theorem cl0 : ((0 : Int32)).toNatClampNeg = 0 := rfl
theorem plate_or {L : BX0} {M : BX4} {p : Nat} (hL : LayEq L (p4_s M)) (hp : p4_s M 1 = nI p) (hp4 : p ≤ 4) (i : Int32) : (fX0_hasPlate L i = some 0 ∧ fX4_isPlate M i = some 0) ∨ ∃ k, k < p ∧ i = nI k ∧ fX0_hasPlate L i = some 1 ∧ fX4_isPlate M i = some 1 := by
  have e : p0_plates L = nI p := hL.2.1.trans hp
  unfold fX0_hasPlate fX4_isPlate
  rw [cl1, hp, e]
  by_cases h0 : i < 0
  · exact Or.inl ⟨if_pos h0, if_pos h0⟩
  · obtain ⟨k, hk, rfl⟩ := nI_of h0
    by_cases h1 : nI p ≤ nI k
    · exact Or.inl ⟨by rw [if_neg h0, if_pos h1], by rw [if_neg h0, if_pos h1]⟩
    · refine Or.inr ⟨k, ?_, rfl, by rw [if_neg h0, if_neg h1], by rw [if_neg h0, if_neg h1]⟩
      rcases Nat.lt_or_ge k p with q | q
      · exact q
      · exact absurd (nI_le q hk) h1
theorem lay_load {L : BX0} {s : Nat → Int32} (h : LayEq L s) (k : Nat) (hk : k < 4) (v : Int32) : LayEq (s0_loads L (upd (p0_loads L) k v)) (upd s (12 + k) v) := by
  obtain ⟨h1, h2, h3, h4, h5, h6, h7⟩ := h
  refine ⟨?_, ?_, fun j hj => ?_, fun j hj => ?_, fun j hj => ?_, fun j hj => ?_, fun j hj => ?_⟩
  · rw [gs0_width_loads, pk_un (by omega)]; exact h1
  · rw [gs0_plates_loads, pk_un (by omega)]; exact h2
  · rw [gs0_strengths_loads, pk_un (by omega)]; exact h3 j hj
  · rw [gs0_lengths_loads, pk_un (by omega)]; exact h4 j hj
  · rw [gs0_loads_loads]
    by_cases e : j = k
    · subst e; rw [pk_us, pk_us]
    · rw [pk_un e, pk_un (by omega)]; exact h5 j hj
  · rw [gs0_stops_loads, pk_un (by omega)]; exact h6 j hj
  · rw [gs0_stops_loads, pk_un (by omega)]; exact h7 j hj
theorem good_load {s : Nat → Int32} (h : Good s) (k : Nat) (hk : k < 4) (v : Int32) (h1 : -99 ≤ v.toInt) (h2 : v.toInt ≤ 99) : Good (upd s (12 + k) v) := by
  obtain ⟨w, p, g1, g2, g3, g4, g5, g6, g7, g8⟩ := h
  refine ⟨w, p, by rw [pk_un (by omega)]; exact g1, by rw [pk_un (by omega)]; exact g2, g3, g4, g5, fun j hj => ?_, fun j hj => ?_, fun i j hij hj => ?_⟩
  · rw [pk_un (by omega), pk_un (by omega)]; exact g6 j hj
  · rw [pk_un (show 16 + j ≠ 12 + k by omega), pk_un (show 20 + j ≠ 12 + k by omega)]
    refine ⟨?_, (g7 j hj).2⟩
    by_cases e : j = k
    · subst e; rw [pk_us]; exact ⟨h1, h2⟩
    · rw [pk_un (by omega)]; exact (g7 j hj).1
  · unfold lowB highB
    rw [pk_un (show 16 + i ≠ 12 + k by omega), pk_un (show 20 + j ≠ 12 + k by omega), pk_un (show 0 ≠ 12 + k by omega)]
    exact g8 i j hij hj
theorem St_load0 : St_load Sim0 := by
  intro vX n pv vA vB vR vT vS vM i1 i2 h
  have hL := h.1
  have hC : LayEq (cfV vB vA) (p4_s vM) := cfV_lay hL
  have hE : ∀ L1, fX0_setLoad (cfV vB vA) i1 i2 = some (-1000001, L1) → fX3_load vX n pv vA vB i1 i2 = some (-1000001, vX, n, pv, vA, L1) := by
    intro L1 e
    unfold fX3_load
    rw [freshTrial_v, Option.bind_some, e, Option.bind_some, keep_e _ _ _ _ _ _ (show ¬ (-1000001 : Int32) < -1000001 by decide), Option.bind_some]
  obtain ⟨w, p, g1, g2, g3, g4, g5, g6, g7, g8⟩ := id h.2.1
  rcases plate_or hC g2 g5 i1 with ⟨a1, a2⟩ | ⟨k, hk, rfl, a1, a2⟩
  · refine ⟨_, (-1000001, vM), hE (cfV vB vA) ?_, ?_, rfl, h⟩
    · unfold fX0_setLoad; rw [a1, Option.bind_some, if_pos rfl]
    · unfold fX4_load; rw [a2, Option.bind_some, if_pos rfl]
  · by_cases b1 : i2 < -99
    · refine ⟨_, (-1000001, vM), hE (cfV vB vA) ?_, ?_, rfl, h⟩
      · unfold fX0_setLoad; rw [a1, Option.bind_some, if_neg (by decide), if_pos b1]
      · unfold fX4_load fX4_in; rw [a2, Option.bind_some, if_neg (by decide), if_pos b1, Option.bind_some, if_pos rfl]
    · by_cases b2 : i2 ≤ 99
      · have b3 : ¬ (99 : Int32) < i2 := Int32.not_lt.mpr b2
        have hk4 : k < 4 := by omega
        have e1 : inB (nI k) 4 = true := inB_nI hk4 (by omega)
        have e2 : (nI k).toNatClampNeg = k := nI_clamp (by omega)
        have e3 : (12 : Int32) + nI k = nI (12 + k) := nI_add 12 k
        have e4 : inB (nI (12 + k)) 24 = true := inB_nI (by omega) (by omega)
        have e5 : (nI (12 + k)).toNatClampNeg = 12 + k := nI_clamp (by omega)
        have hv := (g7 k hk).1
        have ha : (-1000001 : Int32) < p4_s vM (12 + k) + 1000 := by
          refine i_lt.mpr ?_
          rw [i_add (show -2147483648 ≤ _ + (1000 : Int) by omega) (show _ + (1000 : Int) < 2147483648 by omega)]
          show (-1000001 : Int) < _ + 1000
          omega
        have hv1 : -99 ≤ i2.toInt := by have := i_le.mp (Int32.not_lt.mp b1); exact this
        have hv2 : i2.toInt ≤ 99 := i_le.mp b2
        obtain ⟨y, M1, q1, q2, q3, q4, q5⟩ := keep_sim h (s0_loads (cfV vB vA) (upd (p0_loads (cfV vB vA)) k i2)) (upd (p4_s vM) (12 + k) i2) (p4_s vM (12 + k) + 1000) ha (lay_load hC k hk4 i2) (good_load h.2.1 k hk4 i2 hv1 hv2)
        refine ⟨(y.1, y.2.1, y.2.2.1, y.2.2.2.1, y.2.2.2.2, s0_loads (cfV vB vA) (upd (p0_loads (cfV vB vA)) k i2)), (p4_s vM (12 + k) + 1000, s4_s M1 (upd (p4_s vM) (12 + k) i2)), ?_, ?_, q2, q5 _⟩
        · have e6 : fX0_setLoad (cfV vB vA) (nI k) i2 = some (p4_s vM (12 + k) + 1000, s0_loads (cfV vB vA) (upd (p0_loads (cfV vB vA)) k i2)) := by
            unfold fX0_setLoad
            rw [a1, Option.bind_some, if_neg (by decide), if_neg b1, if_pos b2, if_pos e1, elet_eq, if_pos e1, elet_eq, e2, hC.2.2.2.2.1 k hk4]
          unfold fX3_load
          rw [freshTrial_v, Option.bind_some, e6, Option.bind_some, q1, Option.bind_some]
        · unfold fX4_load fX4_in
          rw [a2, Option.bind_some, if_neg (by decide), if_neg b1, if_neg b3, Option.bind_some, if_neg (by decide), q3, Option.bind_some, e3, if_pos e4, elet_eq, if_pos e4, elet_eq, e5, q4]
      · have b3 : (99 : Int32) < i2 := Int32.not_le.mp b2
        refine ⟨_, (-1000001, vM), hE (cfV vB vA) ?_, ?_, rfl, h⟩
        · unfold fX0_setLoad; rw [a1, Option.bind_some, if_neg (by decide), if_neg b1, if_neg b2]
        · unfold fX4_load fX4_in; rw [a2, Option.bind_some, if_neg (by decide), if_neg b1, if_pos b3, Option.bind_some, if_pos rfl]
