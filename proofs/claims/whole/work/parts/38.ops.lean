/-! a change of the trial beside the reference's change: one lemma a change, for the calls and for texts -/
def OpOk (c : Option (Int32 × BX0)) (r : BX4 → Option (Int32 × BX4)) (s : Nat → Int32) (bad : Prop) : Prop :=
  (∃ e L1, (e = (-1000001 : Int32) ∧ bad ∨ e = (-1000002 : Int32) ∨ e = (-1000003 : Int32)) ∧ c = some (e, L1) ∧ LayEq L1 s ∧ ∀ M, p4_s M = s → r M = some (e, M)) ∨
  (∃ a L1 s1, (-1000001 : Int32) < a ∧ c = some (a, L1) ∧ LayEq L1 s1 ∧ Good s1 ∧ ∀ M M1, p4_s M = s → fX4_changes M = some M1 → p4_s M1 = s → r M = some (a, s4_s M1 s1))
theorem op_keep {vX : BX3} {n : Nat} {pv : Nat → BX0} {vA vB : BX0} {vR vT : BX1} {vS : BX2} {vM : BX4} (h : Sim0 vX n pv vA vB vR vT vS vM) (c : BX0 → Option (Int32 × BX0)) (r : BX4 → Option (Int32 × BX4)) (bad : Prop) (ho : OpOk (c (cfV vB vA)) r (p4_s vM) bad) : ∃ y z, (fX3_freshTrial vX vA vB).bind (fun y1 => (c y1).bind (fun y2 => (fX3_keep vX n pv vA y2.2 y2.1).bind (fun y3 => some (y3.1, y3.2.1, (y3.2.2.1), (y3.2.2.2.1), y3.2.2.2.2, y2.2)))) = some y ∧ r vM = some z ∧ y.1 = z.1 ∧ Sim0 y.2.1 (y.2.2.1) (y.2.2.2.1) y.2.2.2.2.1 y.2.2.2.2.2 vR vT vS z.2 := by
  rcases ho with ⟨e, L1, he, hc, hl, hr⟩ | ⟨a, L1, s1, ha, hc, hl, hg, hr⟩
  · have h3 : ¬ (-1000001 : Int32) < e := by rcases he with ⟨rfl, -⟩ | rfl | rfl <;> decide
    refine ⟨(e, vX, n, pv, vA, L1), (e, vM), ?_, hr vM rfl, rfl, h⟩
    rw [freshTrial_v, Option.bind_some, hc, Option.bind_some, keep_e _ _ _ _ _ _ h3, Option.bind_some]
  · obtain ⟨y, M1, q1, q2, q3, q4, q5⟩ := keep_sim h L1 s1 a ha hl hg
    refine ⟨(y.1, y.2.1, y.2.2.1, y.2.2.2.1, y.2.2.2.2, L1), (a, s4_s M1 s1), ?_, hr vM M1 rfl q3 q4, q2, q5 _⟩
    rw [freshTrial_v, Option.bind_some, hc, Option.bind_some, q1, Option.bind_some]
theorem plate_or2 {L : BX0} {s : Nat → Int32} {p : Nat} (hL : LayEq L s) (hp : s 1 = nI p) (hp4 : p ≤ 4) (i : Int32) : (¬ (∃ k, k < p ∧ i = nI k) ∧ fX0_hasPlate L i = some 0 ∧ ∀ M, p4_s M = s → fX4_isPlate M i = some 0) ∨ ∃ k, k < p ∧ i = nI k ∧ fX0_hasPlate L i = some 1 ∧ ∀ M, p4_s M = s → fX4_isPlate M i = some 1 := by
  by_cases h0 : ∃ k, k < p ∧ i = nI k
  · obtain ⟨k, hk, rfl⟩ := h0
    have e : p0_plates L = nI p := hL.2.1.trans hp
    have a0 : ¬ nI k < 0 := nI_pos (by omega)
    have a1 : ¬ nI p ≤ nI k := nlec (by omega) (by omega)
    refine Or.inr ⟨k, hk, rfl, ?_, fun M hM => ?_⟩
    · unfold fX0_hasPlate; rw [e, if_neg a0, if_neg a1]
    · unfold fX4_isPlate; rw [cl1, hM, hp, if_neg a0, if_neg a1]
  · refine Or.inl ⟨h0, ?_, fun M hM => ?_⟩
    · have e : p0_plates L = nI p := hL.2.1.trans hp
      unfold fX0_hasPlate
      rw [e]
      by_cases a0 : i < 0
      · exact if_pos a0
      · obtain ⟨k, hk, rfl⟩ := nI_of a0
        by_cases a1 : nI p ≤ nI k
        · rw [if_neg a0, if_pos a1]
        · exact absurd ⟨k, by rcases Nat.lt_or_ge k p with q | q; exact q; exact absurd (nI_le q hk) a1, rfl⟩ h0
    · unfold fX4_isPlate
      rw [cl1, hM, hp]
      by_cases a0 : i < 0
      · exact if_pos a0
      · obtain ⟨k, hk, rfl⟩ := nI_of a0
        by_cases a1 : nI p ≤ nI k
        · rw [if_neg a0, if_pos a1]
        · exact absurd ⟨k, by rcases Nat.lt_or_ge k p with q | q; exact q; exact absurd (nI_le q hk) a1, rfl⟩ h0
theorem spring_or2 {L : BX0} {s : Nat → Int32} {p : Nat} (hL : LayEq L s) (hp : s 1 = nI p) (hp4 : p ≤ 4) (i : Int32) : (¬ (∃ k, k ≤ p ∧ i = nI k) ∧ fX0_hasSpring L i = some 0 ∧ ∀ M, p4_s M = s → fX4_isSpring M i = some 0) ∨ ∃ k, k ≤ p ∧ i = nI k ∧ fX0_hasSpring L i = some 1 ∧ ∀ M, p4_s M = s → fX4_isSpring M i = some 1 := by
  by_cases h0 : ∃ k, k ≤ p ∧ i = nI k
  · obtain ⟨k, hk, rfl⟩ := h0
    have e : p0_plates L = nI p := hL.2.1.trans hp
    have a0 : ¬ nI k < 0 := nI_pos (by omega)
    have a1 : ¬ nI p < nI k := nltc (by omega) (by omega)
    refine Or.inr ⟨k, hk, rfl, ?_, fun M hM => ?_⟩
    · unfold fX0_hasSpring; rw [e, if_neg a0, if_neg a1]
    · unfold fX4_isSpring; rw [cl1, hM, hp, if_neg a0, if_neg a1]
  · refine Or.inl ⟨h0, ?_, fun M hM => ?_⟩
    · have e : p0_plates L = nI p := hL.2.1.trans hp
      unfold fX0_hasSpring
      rw [e]
      by_cases a0 : i < 0
      · exact if_pos a0
      · obtain ⟨k, hk, rfl⟩ := nI_of a0
        by_cases a1 : nI p < nI k
        · rw [if_neg a0, if_pos a1]
        · exact absurd ⟨k, by rcases Nat.lt_or_ge p k with q | q; exact absurd (nI_lt q hk) a1; exact q, rfl⟩ h0
    · unfold fX4_isSpring
      rw [cl1, hM, hp]
      by_cases a0 : i < 0
      · exact if_pos a0
      · obtain ⟨k, hk, rfl⟩ := nI_of a0
        by_cases a1 : nI p < nI k
        · rw [if_neg a0, if_pos a1]
        · exact absurd ⟨k, by rcases Nat.lt_or_ge p k with q | q; exact absurd (nI_lt q hk) a1; exact q, rfl⟩ h0
theorem load_ok {L : BX0} {s : Nat → Int32} (hL : LayEq L s) (hG : Good s) (i1 i2 : Int32) : OpOk (fX0_setLoad L i1 i2) (fun M => fX4_load M i1 i2) s (¬ ((∃ k p, s 1 = nI p ∧ p ≤ 4 ∧ k < p ∧ i1 = nI k) ∧ -99 ≤ i2 ∧ i2 ≤ 99)) := by
  obtain ⟨w, p, g1, g2, g3, g4, g5, g6, g7, g8⟩ := id hG
  rcases plate_or2 hL g2 g5 i1 with ⟨a0, a1, a2⟩ | ⟨k, hk, rfl, a1, a2⟩
  · refine Or.inl ⟨-1000001, L, Or.inl ⟨rfl, ?_⟩, ?_, hL, fun M hM => ?_⟩
    · rintro ⟨⟨k, q, b1, b2, b3, b4⟩, -⟩
      refine a0 ⟨k, ?_, b4⟩
      have := (nI_eq (show q < 2 ^ 31 by omega) (show p < 2 ^ 31 by omega)).mp (b1.symm.trans g2)
      omega
    · unfold fX0_setLoad; rw [a1, Option.bind_some, if_pos rfl]
    · show fX4_load M _ i2 = _
      unfold fX4_load; rw [a2 M hM, Option.bind_some, if_pos rfl]
  · by_cases b1 : i2 < -99
    · refine Or.inl ⟨-1000001, L, Or.inl ⟨rfl, ?_⟩, ?_, hL, fun M hM => ?_⟩
      · rintro ⟨-, b2, -⟩
        exact absurd b1 (Int32.not_lt.mpr b2)
      · unfold fX0_setLoad; rw [a1, Option.bind_some, if_neg (by decide), if_pos b1]
      · show fX4_load M _ i2 = _
        unfold fX4_load fX4_in; rw [a2 M hM, Option.bind_some, if_neg (by decide), if_pos b1, Option.bind_some, if_pos rfl]
    · by_cases b2 : i2 ≤ 99
      · have b3 : ¬ (99 : Int32) < i2 := Int32.not_lt.mpr b2
        have hk4 : k < 4 := by omega
        have e1 : inB (nI k) 4 = true := inB_nI hk4 (by omega)
        have e2 : (nI k).toNatClampNeg = k := nI_clamp (by omega)
        have e3 : (12 : Int32) + nI k = nI (12 + k) := nI_add 12 k
        have e4 : inB (nI (12 + k)) 24 = true := inB_nI (by omega) (by omega)
        have e5 : (nI (12 + k)).toNatClampNeg = 12 + k := nI_clamp (by omega)
        have hv := (g7 k hk).1
        have ha : (-1000001 : Int32) < s (12 + k) + 1000 := by
          refine i_lt.mpr ?_
          rw [i_add (show -2147483648 ≤ _ + (1000 : Int) by omega) (show _ + (1000 : Int) < 2147483648 by omega)]
          show (-1000001 : Int) < _ + 1000
          omega
        have hv1 : -99 ≤ i2.toInt := by have := i_le.mp (Int32.not_lt.mp b1); exact this
        have hv2 : i2.toInt ≤ 99 := i_le.mp b2
        refine Or.inr ⟨_, _, _, ha, ?_, lay_load hL k hk4 i2, good_load hG k hk4 i2 hv1 hv2, fun M M1 hM hc hM1 => ?_⟩
        · unfold fX0_setLoad
          rw [a1, Option.bind_some, if_neg (by decide), if_neg b1, if_pos b2, if_pos e1, elet_eq, if_pos e1, elet_eq, e2, hL.2.2.2.2.1 k hk4]
        · show fX4_load M (nI k) i2 = _
          unfold fX4_load fX4_in
          rw [a2 M hM, Option.bind_some, if_neg (by decide), if_neg b1, if_neg b3, Option.bind_some, if_neg (by decide), hc, Option.bind_some, e3, if_pos e4, elet_eq, if_pos e4, elet_eq, e5, hM1]
      · have b3 : (99 : Int32) < i2 := Int32.not_le.mp b2
        refine Or.inl ⟨-1000001, L, Or.inl ⟨rfl, ?_⟩, ?_, hL, fun M hM => ?_⟩
        · rintro ⟨-, -, b4⟩
          exact b2 b4
        · unfold fX0_setLoad; rw [a1, Option.bind_some, if_neg (by decide), if_neg b1, if_neg b2]
        · show fX4_load M _ i2 = _
          unfold fX4_load fX4_in; rw [a2 M hM, Option.bind_some, if_neg (by decide), if_neg b1, if_pos b3, Option.bind_some, if_pos rfl]
theorem spring_ok {L : BX0} {s : Nat → Int32} (hL : LayEq L s) (hG : Good s) (i1 i2 i3 : Int32) : OpOk (fX0_setSpring L i1 i2 i3) (fun M => fX4_spring M i1 i2 i3) s (¬ ((∃ k p, s 1 = nI p ∧ p ≤ 4 ∧ k ≤ p ∧ i1 = nI k) ∧ 1 ≤ i2 ∧ i2 ≤ 9 ∧ 0 ≤ i3 ∧ i3 ≤ 50)) := by
  obtain ⟨w, p, g1, g2, g3, g4, g5, g6, g7, g8⟩ := id hG
  rcases spring_or2 hL g2 g5 i1 with ⟨a0, a1, a2⟩ | ⟨k, hk, rfl, a1, a2⟩
  · refine Or.inl ⟨-1000001, L, Or.inl ⟨rfl, ?_⟩, ?_, hL, fun M hM => ?_⟩
    · rintro ⟨⟨k, q, b1, b2, b3, b4⟩, -⟩
      refine a0 ⟨k, ?_, b4⟩
      have := (nI_eq (show q < 2 ^ 31 by omega) (show p < 2 ^ 31 by omega)).mp (b1.symm.trans g2)
      omega
    · unfold fX0_setSpring; rw [a1, Option.bind_some, if_pos rfl]
    · show fX4_spring M i1 i2 i3 = _
      unfold fX4_spring; rw [a2 M hM, Option.bind_some, if_pos rfl]
  · by_cases b1 : i2 < 1
    · refine Or.inl ⟨-1000001, L, Or.inl ⟨rfl, ?_⟩, ?_, hL, fun M hM => ?_⟩
      · rintro ⟨-, b2, -⟩
        exact absurd b1 (Int32.not_lt.mpr b2)
      · unfold fX0_setSpring; rw [a1, Option.bind_some, if_neg (by decide), if_pos b1]
      · show fX4_spring M (nI k) i2 i3 = _
        unfold fX4_spring fX4_in; rw [a2 M hM, Option.bind_some, if_neg (by decide), if_pos b1, Option.bind_some, if_pos rfl]
    · by_cases b2 : 9 < i2
      · refine Or.inl ⟨-1000001, L, Or.inl ⟨rfl, ?_⟩, ?_, hL, fun M hM => ?_⟩
        · rintro ⟨-, -, b3, -⟩
          exact absurd b2 (Int32.not_lt.mpr b3)
        · unfold fX0_setSpring; rw [a1, Option.bind_some, if_neg (by decide), if_neg b1, if_pos b2]
        · show fX4_spring M (nI k) i2 i3 = _
          unfold fX4_spring fX4_in; rw [a2 M hM, Option.bind_some, if_neg (by decide), if_neg b1, if_pos b2, Option.bind_some, if_pos rfl]
      · by_cases b3 : i3 < 0
        · refine Or.inl ⟨-1000001, L, Or.inl ⟨rfl, ?_⟩, ?_, hL, fun M hM => ?_⟩
          · rintro ⟨-, -, -, b4, -⟩
            exact absurd b3 (Int32.not_lt.mpr b4)
          · unfold fX0_setSpring; rw [a1, Option.bind_some, if_neg (by decide), if_neg b1, if_neg b2, if_pos b3]
          · show fX4_spring M (nI k) i2 i3 = _
            unfold fX4_spring fX4_in; rw [a2 M hM, Option.bind_some, if_neg (by decide), if_neg b1, if_neg b2, Option.bind_some, if_neg (by decide), if_pos b3, Option.bind_some, if_pos rfl]
        · by_cases b4 : i3 ≤ 50
          · have b5 : ¬ (50 : Int32) < i3 := Int32.not_lt.mpr b4
            have hk5 : k < 5 := by omega
            have e1 : inB (nI k) 5 = true := inB_nI hk5 (by omega)
            have e2 : (nI k).toNatClampNeg = k := nI_clamp (by omega)
            have e3 : (2 : Int32) + nI k = nI (2 + k) := nI_add 2 k
            have e3b : (7 : Int32) + nI k = nI (7 + k) := nI_add 7 k
            have e4 : inB (nI (2 + k)) 24 = true := inB_nI (by omega) (by omega)
            have e4b : inB (nI (7 + k)) 24 = true := inB_nI (by omega) (by omega)
            have e5 : (nI (2 + k)).toNatClampNeg = 2 + k := nI_clamp (by omega)
            have e5b : (nI (7 + k)).toNatClampNeg = 7 + k := nI_clamp (by omega)
            obtain ⟨v1, v2, v3, v4⟩ := g6 k hk
            have h100 : ((100 : Int32)).toInt = 100 := rfl
            have m1 : ((100 : Int32) * s (2 + k)).toInt = 100 * (s (2 + k)).toInt := by
              rw [i_mul (by rw [h100]; omega) (by rw [h100]; omega), h100]
            have ha : (-1000001 : Int32) < 100 * s (2 + k) + s (7 + k) := by
              refine i_lt.mpr ?_
              rw [i_add (by rw [m1]; omega) (by rw [m1]; omega), m1]
              show (-1000001 : Int) < _
              omega
            have w1 : 1 ≤ i2.toInt := i_le.mp (Int32.not_lt.mp b1)
            have w2 : i2.toInt ≤ 9 := i_le.mp (Int32.not_lt.mp b2)
            have w3 : 0 ≤ i3.toInt := i_le.mp (Int32.not_lt.mp b3)
            have w4 : i3.toInt ≤ 50 := i_le.mp b4
            refine Or.inr ⟨_, _, _, ha, ?_, lay_spring hL k hk5 i2 i3, good_spring hG k hk5 i2 i3 w1 w2 w3 w4, fun M M1 hM hc hM1 => ?_⟩
            · unfold fX0_setSpring
              rw [a1, Option.bind_some, if_neg (by decide), if_neg b1, if_neg b2, if_neg b3, if_pos b4, if_pos e1, if_pos e1, elet_eq, if_pos e1, elet_eq, if_pos e1, elet_eq, e2, gs0_lengths_strengths, hL.2.2.1 k hk5, hL.2.2.2.1 k hk5]
            · show fX4_spring M (nI k) i2 i3 = _
              unfold fX4_spring fX4_in
              rw [a2 M hM, Option.bind_some, if_neg (by decide), if_neg b1, if_neg b2, Option.bind_some, if_neg (by decide), if_neg b3, if_neg b5, Option.bind_some, if_neg (by decide), hc, Option.bind_some, e3, e3b, if_pos e4, if_pos e4b, elet_eq, if_pos e4, elet_eq, if_pos e4b, elet_eq, e5, e5b, gs4_s_s, hM1, s4ss]
          · have b5 : (50 : Int32) < i3 := Int32.not_le.mp b4
            refine Or.inl ⟨-1000001, L, Or.inl ⟨rfl, ?_⟩, ?_, hL, fun M hM => ?_⟩
            · rintro ⟨-, -, -, -, b6⟩
              exact b4 b6
            · unfold fX0_setSpring; rw [a1, Option.bind_some, if_neg (by decide), if_neg b1, if_neg b2, if_neg b3, if_neg b4]
            · show fX4_spring M (nI k) i2 i3 = _
              unfold fX4_spring fX4_in; rw [a2 M hM, Option.bind_some, if_neg (by decide), if_neg b1, if_neg b2, Option.bind_some, if_neg (by decide), if_neg b3, if_pos b5, Option.bind_some, if_pos rfl]
