theorem calls_102 (M : BX4) : fX4_calls M 102 = (fX4_load M (p4_told M 0) (p4_told M 1)).bind (fun y => some (y.1, y.2)) := rfl
theorem calls_107 (M : BX4) : fX4_calls M 107 = (fX4_spring M (p4_told M 0) (p4_told M 1) (p4_told M 2)).bind (fun y => some (y.1, y.2)) := rfl
theorem calls_108 (M : BX4) : fX4_calls M 108 = (fX4_stop M (p4_told M 0) 0 (p4_told M 1)).bind (fun y => some (y.1, y.2)) := rfl
theorem calls_112 (M : BX4) : fX4_calls M 112 = (fX4_plate M).bind (fun y => some (y.1, y.2)) := rfl
theorem calls_114 (M : BX4) : fX4_calls M 114 = (fX4_stop M (p4_told M 0) 1 (p4_told M 1)).bind (fun y => some (y.1, y.2)) := rfl
theorem calls_119 (M : BX4) : fX4_calls M 119 = (fX4_width M (p4_told M 0)).bind (fun y => some (y.1, y.2)) := rfl
theorem calls_120 (M : BX4) : fX4_calls M 120 = fX4_calls_180 M := rfl
theorem bad_102 (M : BX4) : fX4_badNumber M 102 = fX4_badNumber_191 M := rfl
theorem bad_120 (M : BX4) : fX4_badNumber M 120 = fX4_badNumber_191 M := rfl
theorem bad_108 (M : BX4) : fX4_badNumber M 108 = fX4_badNumber_152 M := rfl
theorem bad_114 (M : BX4) : fX4_badNumber M 114 = fX4_badNumber_152 M := rfl
theorem bad_112 (M : BX4) : fX4_badNumber M 112 = some (-1000004) := rfl
/-! one setting -/
theorem rs_any {L : BX0} {s : Nat → Int32} (hL : LayEq L s) (hG : Good s) {p : Nat} (g2 : s 1 = nI p) (g5 : p ≤ 4) (k c : Nat) (hk : k < p) (hc : c < 2) : ∃ a L1, fX0_removeStop L (nI k) (nI c) = some (a, L1) ∧ LayEq L1 (upd s (16 + 4 * c + k) (-1)) ∧ Good (upd s (16 + 4 * c + k) (-1)) := by
  by_cases d : s (16 + 4 * c + k) < 0
  · obtain ⟨w, p', g1, g2', g3, g4, g5', g6, g7, g8⟩ := id hG
    obtain rfl : p = p' := (nI_eq (by omega) (by omega)).mp (g2.symm.trans g2')
    have hv : -1 ≤ (s (16 + 4 * c + k)).toInt := by
      obtain ⟨-, x1, x2⟩ := g7 k hk
      rcases (show c = 0 ∨ c = 1 by omega) with rfl | rfl
      · exact x1.1
      · exact x2.1
    have d1 := (neg1 hv).mp d
    have e : upd s (16 + 4 * c + k) (-1) = s := by
      funext j
      rw [upd_e]
      by_cases q : j = 16 + 4 * c + k
      · rw [if_pos q, q, d1]
      · rw [if_neg q]
    have e0 := stopOf_v L k c (by omega) hc
    rw [stops_c hL k c (by omega) hc] at e0
    have a1 : fX0_hasPlate L (nI k) = some 1 := by
      rcases plate_or2 hL g2 g5 (nI k) with ⟨a0, -, -⟩ | ⟨k', -, -, a1, -⟩
      · exact absurd ⟨k, hk, rfl⟩ a0
      · exact a1
    have b1 : fX3_isSide (nI c) = some 1 := by
      rcases side_or (nI c) with ⟨a0, -, -⟩ | ⟨c', -, -, a1, -⟩
      · exact absurd ⟨c, hc, rfl⟩ a0
      · exact a1
    rw [e]
    refine ⟨-1000002, L, ?_, hL, hG⟩
    unfold fX0_removeStop
    rw [a1, Option.bind_some, if_neg (by decide), b1, Option.bind_some, if_neg (by decide), e0, Option.bind_some, if_pos d1]
  · exact rem_ok hL hG g2 g5 k c hk hc d
/-- what doing a setting comes to -/
def DoQ (L : BX0) (vS : BX2) (M1 : BX4) (c : Int32) : Prop :=
  (∃ e L1, (e = (-1000002 : Int32) ∨ e = (-1000003 : Int32)) ∧ fX2_doSetting L vS = some (e, L1) ∧ ∀ x, fX4_calls (s4_cause M1 x) c = some (e, s4_cause M1 x)) ∨
  (∃ a L1 s1, (-1000001 : Int32) < a ∧ fX2_doSetting L vS = some (a, L1) ∧ LayEq L1 s1 ∧ Good s1 ∧ ∀ x, fX4_calls (s4_cause M1 x) c = some (a, s4_s (s4_cause M1 x) s1))
theorem do_op {L : BX0} {vS : BX2} {M1 : BX4} {c : Int32} {s : Nat → Int32} {cL : Option (Int32 × BX0)} {r : BX4 → Option (Int32 × BX4)} {bad : Prop} (h : OpOk cL r s bad) (hb : ¬ bad) (hM : p4_s M1 = s) (hr : p4_runs M1 = 1) (h1 : fX2_doSetting L vS = cL.bind (fun y => some (y.1, y.2))) (h2 : ∀ x, fX4_calls (s4_cause M1 x) c = (r (s4_cause M1 x)).bind (fun y => some (y.1, y.2))) : DoQ L vS M1 c := by
  have hs : ∀ x, p4_s (s4_cause M1 x) = s := fun x => by rw [gs4_s_cause]; exact hM
  rcases h with ⟨e, L1, he, h3, h4, h5⟩ | ⟨a, L1, s1, ha, h3, h4, h5, h6⟩
  · left
    refine ⟨e, L1, ?_, by rw [h1, h3]; rfl, fun x => by rw [h2, h5 _ (hs x)]; rfl⟩
    rcases he with he | he
    · exact absurd he.2 hb
    · exact he
  · right
    refine ⟨a, L1, s1, ha, by rw [h1, h3]; rfl, h4, h5, fun x => ?_⟩
    have hc : fX4_changes (s4_cause M1 x) = some (s4_cause M1 x) := by
      unfold fX4_changes
      generalize FU = F
      rw [gs4_runs_cause, hr, if_neg (by decide)]
    rw [h2, h6 _ _ (hs x) hc (hs x)]; rfl
theorem n_pos {c : Int32} {vS : BX2} {M : BX4} {k j : Nat} (h : NumQ c vS M k) (hj : j < k) (hn : ¬ negB c j) : ∃ v, v ≤ 99 ∧ p2_numbers vS j = nI v ∧ p4_told M j = nI v := by
  obtain ⟨z, v, h1, h2, h3, h4⟩ := h j hj
  rcases h4 with h4 | h4
  · exact ⟨v, h3, h1.trans h4, h2.trans h4⟩
  · exact absurd h4.1 hn
theorem nneg {c : Int32} (j : Nat) (h : c ≠ 102 ∨ j ≠ 1) : ¬ negB c j := by
  rintro ⟨h1, h2⟩
  rcases h with h | h
  · exact h h1
  · exact h h2
theorem in_99 {v : Nat} (hv : v ≤ 99) : (-99 : Int32) ≤ nI v ∧ nI v ≤ (99 : Int32) ∧ (-99 : Int32) ≤ -nI v ∧ -nI v ≤ (99 : Int32) := by
  have e1 : (nI v).toInt = v := nI_toInt (by omega)
  have e2 : (-nI v).toInt = -(v : Int) := by rw [i_neg (by rw [e1]; omega), e1]
  have a : (-99 : Int32).toInt = -99 := rfl
  have b : (99 : Int32).toInt = 99 := rfl
  refine ⟨?_, ?_, ?_, ?_⟩ <;> rw [i_le] <;> omega
theorem setting_ok {L : BX0} {s : Nat → Int32} {vS : BX2} {M1 : BX4} {c : Int32} (hL : LayEq L s) (hG : Good s) (hc : fX2_characterAt vS (p2_start vS) = some c) (hlet : letQ c) (hN : NumQ c vS M1 (manyN c)) (hM : p4_s M1 = s) (hr : p4_runs M1 = 1) :
    (∃ i : Int32, (i = 0 ∨ i = 1 ∨ i = 2) ∧ fX2_numberOutOfRange L vS = some i ∧ fX4_badNumber M1 c = some i) ∨
    (fX2_numberOutOfRange L vS = some (-1) ∧ fX4_badNumber M1 c = some (-1000004) ∧ DoQ L vS M1 c) := by
  obtain ⟨w, p, g1, g2, g3, g4, g5, g6, g7, g8⟩ := id hG
  have to0 : ∀ (x : Int32), p4_told (s4_cause M1 x) = p4_told M1 := fun x => gs4_told_cause _ _
  rcases hlet with rfl | rfl | rfl | rfl | rfl | rfl | rfl
  · -- a load
    have ho : fX2_numberOutOfRange L vS = fX2_numberOutOfRange_172 L vS := by
      unfold fX2_numberOutOfRange; rw [hc, Option.bind_some]; rfl
    have hd : fX2_doSetting L vS = (fX0_setLoad L (p2_numbers vS 0) (p2_numbers vS 1)).bind (fun y => some (y.1, y.2)) := by
      unfold fX2_doSetting; rw [hc, Option.bind_some]; rfl
    have hN2 : NumQ 102 vS M1 2 := hN
    obtain ⟨v0, -, a1, a2⟩ := n_pos hN2 (show 0 < 2 by omega) (nneg 0 (Or.inr (by omega)))
    obtain ⟨z, v1, b1, b2, b3, b4⟩ := hN2 1 (by omega)
    rw [ho, bad_102]
    unfold fX2_numberOutOfRange_172 fX4_badNumber_191
    rw [cl0, a1, a2]
    rcases plate_or2 hL g2 g5 (nI v0) with ⟨-, c1, c2⟩ | ⟨k, hk, ek, c1, c2⟩
    · left
      exact ⟨0, Or.inl rfl, by rw [c1, Option.bind_some, if_pos rfl], by rw [c2 M1 hM, Option.bind_some, if_pos rfl]⟩
    · right
      refine ⟨by rw [c1, Option.bind_some, if_neg (by decide)], by rw [c2 M1 hM, Option.bind_some, if_neg (by decide)], ?_⟩
      refine do_op (load_ok hL hG (nI v0) z) (fun hb => hb ⟨⟨k, p, g2, g5, hk, ek⟩, ?_⟩) hM hr (by rw [hd, a1, b1]) (fun x => by rw [calls_102, to0, a2, b2])
      have h9 := in_99 b3
      rcases b4 with b4 | b4
      · rw [b4]; exact ⟨h9.1, h9.2.1⟩
      · rw [b4.2]; exact ⟨h9.2.2.1, h9.2.2.2⟩
  · -- a spring
    have ho : fX2_numberOutOfRange L vS = (fX0_hasSpring L (p2_numbers vS 0)).bind (fun y13 => if y13 = 0 then (some 0) else (if (p2_numbers vS 1) < (1 : Int32) then (some 1) else (if (p2_numbers vS 1) ≤ (9 : Int32) then (if (p2_numbers vS 2) ≤ (50 : Int32) then (some (-1)) else (some 2)) else (some 1)))) := by
      unfold fX2_numberOutOfRange; rw [hc, Option.bind_some]; rfl
    have hd : fX2_doSetting L vS = (fX0_setSpring L (p2_numbers vS 0) (p2_numbers vS 1) (p2_numbers vS 2)).bind (fun y => some (y.1, y.2)) := by
      unfold fX2_doSetting; rw [hc, Option.bind_some]; rfl
    have hbd : fX4_badNumber M1 107 = (fX4_isSpring M1 (p4_told M1 0)).bind (fun y7 => if y7 = 0 then (some 0) else ((fX4_in (p4_told M1 1) (1 : Int32) (9 : Int32)).bind (fun y9 => if y9 = 0 then (some 1) else ((fX4_in (p4_told M1 2) (0 : Int32) (50 : Int32)).bind (fun y11 => if y11 = 0 then (some 2) else (some (-1000004))))))) := rfl
    have hN2 : NumQ 107 vS M1 3 := hN
    obtain ⟨v0, -, a1, a2⟩ := n_pos hN2 (show 0 < 3 by omega) (nneg 0 (Or.inr (by omega)))
    obtain ⟨v1, -, b1, b2⟩ := n_pos hN2 (show 1 < 3 by omega) (nneg 1 (Or.inl (by decide)))
    obtain ⟨v2, v99, d1, d2⟩ := n_pos hN2 (show 2 < 3 by omega) (nneg 2 (Or.inr (by omega)))
    rw [ho, hbd, a1, a2, b1, b2, d1, d2, in4_v, in4_v]
    rcases spring_or2 hL g2 g5 (nI v0) with ⟨-, c1, c2⟩ | ⟨k, hk, ek, c1, c2⟩
    · left
      exact ⟨0, Or.inl rfl, by rw [c1, Option.bind_some, if_pos rfl], by rw [c2 M1 hM, Option.bind_some, if_pos rfl]⟩
    · rw [c1, c2 M1 hM, Option.bind_some, Option.bind_some, if_neg (show ¬ (1 : Int32) = 0 from by decide), if_neg (show ¬ (1 : Int32) = 0 from by decide)]
      by_cases q1 : nI v1 < 1
      · left
        exact ⟨1, Or.inr (Or.inl rfl), by rw [if_pos q1], by rw [if_pos q1, Option.bind_some, if_pos rfl]⟩
      by_cases q2 : nI v1 ≤ 9
      · have q3 : ¬ (9 : Int32) < nI v1 := Int32.not_lt.mpr q2
        have q4 : ¬ nI v2 < 0 := nI_pos (by omega)
        by_cases q5 : nI v2 ≤ 50
        · right
          have q6 : ¬ (50 : Int32) < nI v2 := Int32.not_lt.mpr q5
          refine ⟨by rw [if_neg q1, if_pos q2, if_pos q5], by rw [if_neg q1, if_neg q3, Option.bind_some, if_neg (by decide), if_neg q4, if_neg q6, Option.bind_some, if_neg (by decide)], ?_⟩
          exact do_op (spring_ok hL hG (nI v0) (nI v1) (nI v2)) (fun hb => hb ⟨⟨k, p, g2, g5, hk, ek⟩, Int32.not_lt.mp q1, q2, Int32.not_lt.mp q4, q5⟩) hM hr (by rw [hd, a1, b1, d1]) (fun x => by rw [calls_107, to0, a2, b2, d2])
        · left
          have q6 : (50 : Int32) < nI v2 := Int32.not_le.mp q5
          exact ⟨2, Or.inr (Or.inr rfl), by rw [if_neg q1, if_pos q2, if_neg q5], by rw [if_neg q1, if_neg q3, Option.bind_some, if_neg (by decide), if_neg q4, if_pos q6, Option.bind_some, if_pos rfl]⟩
      · left
        have q3 : (9 : Int32) < nI v1 := Int32.not_le.mp q2
        exact ⟨1, Or.inr (Or.inl rfl), by rw [if_neg q1, if_neg q2], by rw [if_neg q1, if_pos q3, Option.bind_some, if_pos rfl]⟩
  · -- a left stop
    have ho : fX2_numberOutOfRange L vS = fX2_numberOutOfRange_191 L vS := by
      unfold fX2_numberOutOfRange; rw [hc, Option.bind_some]; rfl
    have hd : fX2_doSetting L vS = (fX0_setStop L (p2_numbers vS 0) 0 (p2_numbers vS 1)).bind (fun y => some (y.1, y.2)) := by
      unfold fX2_doSetting; rw [hc, Option.bind_some]; rfl
    have hN2 : NumQ 108 vS M1 2 := hN
    obtain ⟨v0, -, a1, a2⟩ := n_pos hN2 (show 0 < 2 by omega) (nneg 0 (Or.inr (by omega)))
    obtain ⟨v1, v99, b1, b2⟩ := n_pos hN2 (show 1 < 2 by omega) (nneg 1 (Or.inl (by decide)))
    rw [ho, bad_108]
    unfold fX2_numberOutOfRange_191 fX4_badNumber_152
    rw [cl0, cl1, a1, a2, b1, b2, hM, hL.1]
    rcases plate_or2 hL g2 g5 (nI v0) with ⟨-, c1, c2⟩ | ⟨k, hk, ek, c1, c2⟩
    · left
      exact ⟨0, Or.inl rfl, by rw [c1, Option.bind_some, if_pos rfl], by rw [c2 M1 hM, Option.bind_some, if_pos rfl]⟩
    · rw [c1, c2 M1 hM, Option.bind_some, Option.bind_some, if_neg (show ¬ (1 : Int32) = 0 from by decide), if_neg (show ¬ (1 : Int32) = 0 from by decide)]
      by_cases q : nI v1 ≤ s 0
      · right
        refine ⟨by rw [if_pos q], by rw [if_pos q], ?_⟩
        exact do_op (stop_ok hL hG (nI v0) 0 (nI v1)) (fun hb => hb ⟨⟨k, p, g2, g5, hk, ek⟩, ⟨0, by omega, rfl⟩, nI_pos' (by omega), q⟩) hM hr (by rw [hd, a1, b1]) (fun x => by rw [calls_108, to0, a2, b2])
      · left
        exact ⟨1, Or.inr (Or.inl rfl), by rw [if_neg q], by rw [if_neg q]⟩
  · -- a plate
    have ho : fX2_numberOutOfRange L vS = some (-1) := by
      unfold fX2_numberOutOfRange; rw [hc, Option.bind_some]; rfl
    have hd : fX2_doSetting L vS = (fX0_addPlate L).bind (fun y => some (y.1, y.2)) := by
      unfold fX2_doSetting; rw [hc, Option.bind_some]; rfl
    right
    exact ⟨ho, bad_112 M1, do_op (plate_ok hL hG) (fun hb => hb) hM hr hd (fun x => calls_112 _)⟩
  · -- a right stop
    have ho : fX2_numberOutOfRange L vS = fX2_numberOutOfRange_191 L vS := by
      unfold fX2_numberOutOfRange; rw [hc, Option.bind_some]; rfl
    have hd : fX2_doSetting L vS = (fX0_setStop L (p2_numbers vS 0) 1 (p2_numbers vS 1)).bind (fun y => some (y.1, y.2)) := by
      unfold fX2_doSetting; rw [hc, Option.bind_some]; rfl
    have hN2 : NumQ 114 vS M1 2 := hN
    obtain ⟨v0, -, a1, a2⟩ := n_pos hN2 (show 0 < 2 by omega) (nneg 0 (Or.inr (by omega)))
    obtain ⟨v1, v99, b1, b2⟩ := n_pos hN2 (show 1 < 2 by omega) (nneg 1 (Or.inl (by decide)))
    rw [ho, bad_114]
    unfold fX2_numberOutOfRange_191 fX4_badNumber_152
    rw [cl0, cl1, a1, a2, b1, b2, hM, hL.1]
    rcases plate_or2 hL g2 g5 (nI v0) with ⟨-, c1, c2⟩ | ⟨k, hk, ek, c1, c2⟩
    · left
      exact ⟨0, Or.inl rfl, by rw [c1, Option.bind_some, if_pos rfl], by rw [c2 M1 hM, Option.bind_some, if_pos rfl]⟩
    · rw [c1, c2 M1 hM, Option.bind_some, Option.bind_some, if_neg (show ¬ (1 : Int32) = 0 from by decide), if_neg (show ¬ (1 : Int32) = 0 from by decide)]
      by_cases q : nI v1 ≤ s 0
      · right
        refine ⟨by rw [if_pos q], by rw [if_pos q], ?_⟩
        exact do_op (stop_ok hL hG (nI v0) 1 (nI v1)) (fun hb => hb ⟨⟨k, p, g2, g5, hk, ek⟩, ⟨1, by omega, rfl⟩, nI_pos' (by omega), q⟩) hM hr (by rw [hd, a1, b1]) (fun x => by rw [calls_114, to0, a2, b2])
      · left
        exact ⟨1, Or.inr (Or.inl rfl), by rw [if_neg q], by rw [if_neg q]⟩
  · -- the width
    have ho : fX2_numberOutOfRange L vS = if (10 : Int32) ≤ p2_numbers vS 0 then some (-1) else some 0 := by
      unfold fX2_numberOutOfRange; rw [hc, Option.bind_some]; rfl
    have hd : fX2_doSetting L vS = (fX0_setWidth L (p2_numbers vS 0)).bind (fun y => some (y.1, y.2)) := by
      unfold fX2_doSetting; rw [hc, Option.bind_some]; rfl
    have hbd : fX4_badNumber M1 119 = (fX4_in (p4_told M1 0) (10 : Int32) (99 : Int32)).bind (fun y25 => if y25 = 0 then (some 0) else (some (-1000004))) := rfl
    have hN2 : NumQ 119 vS M1 1 := hN
    obtain ⟨v0, v99, a1, a2⟩ := n_pos hN2 (show 0 < 1 by omega) (nneg 0 (Or.inr (by omega)))
    rw [ho, hbd, a1, a2, in4_v]
    have h9 := (in_99 v99).2.1
    by_cases q : (10 : Int32) ≤ nI v0
    · right
      refine ⟨by rw [if_pos q], by rw [if_neg (Int32.not_lt.mpr q), if_neg (Int32.not_lt.mpr h9), Option.bind_some, if_neg (by decide)], ?_⟩
      exact do_op (width_ok hL hG (nI v0)) (fun hb => hb ⟨q, h9⟩) hM hr (by rw [hd, a1]) (fun x => by rw [calls_119, to0, a2])
    · left
      exact ⟨0, Or.inl rfl, by rw [if_neg q], by rw [if_pos (Int32.not_le.mp q), Option.bind_some, if_pos rfl]⟩
  · -- stops are removed
    have ho : fX2_numberOutOfRange L vS = fX2_numberOutOfRange_172 L vS := by
      unfold fX2_numberOutOfRange; rw [hc, Option.bind_some]; rfl
    have hd : fX2_doSetting L vS = fX2_doSetting_188 L vS := by
      unfold fX2_doSetting; rw [hc, Option.bind_some]; rfl
    have hN2 : NumQ 120 vS M1 1 := hN
    obtain ⟨v0, -, a1, a2⟩ := n_pos hN2 (show 0 < 1 by omega) (nneg 0 (Or.inr (by omega)))
    rw [ho, bad_120]
    unfold fX2_numberOutOfRange_172 fX4_badNumber_191
    rw [cl0, a1, a2]
    rcases plate_or2 hL g2 g5 (nI v0) with ⟨-, c1, c2⟩ | ⟨k, hk, ek, c1, c2⟩
    · left
      exact ⟨0, Or.inl rfl, by rw [c1, Option.bind_some, if_pos rfl], by rw [c2 M1 hM, Option.bind_some, if_pos rfl]⟩
    · right
      obtain ⟨e1, L1, r1, r2, r3⟩ := rs_any hL hG g2 g5 k 0 hk (by omega)
      obtain ⟨e2, L2, r4, r5, r6⟩ := rs_any r2 r3 (by rw [pk_un (by omega)]; exact g2) g5 k 1 hk (by omega)
      refine ⟨by rw [c1, Option.bind_some, if_neg (by decide)], by rw [c2 M1 hM, Option.bind_some, if_neg (by decide)], Or.inr ⟨0, L2, _, by decide, ?_, r5, r6, fun x => ?_⟩⟩
      · rw [hd]
        unfold fX2_doSetting_188
        rw [cl0, a1, ek]
        show (fX0_removeStop L (nI k) (nI 0)).bind _ = _
        rw [r1, Option.bind_some]
        show (fX0_removeStop L1 (nI k) (nI 1)).bind _ = _
        rw [r4, Option.bind_some]
      · rw [calls_120]
        unfold fX4_calls_180
        have e3 : (16 : Int32) + nI k = nI (16 + k) := nI_add 16 k
        have e4 : (20 : Int32) + nI k = nI (20 + k) := nI_add 20 k
        rw [cl0, to0, a2, ek, e3, if_pos (inB_nI (by omega) (by omega)), nI_clamp (by omega), gs4_s_cause, hM]
        simp only [elet_eq]
        rw [gs4_told_s, to0, a2, ek, e4, if_pos (inB_nI (by omega) (by omega)), nI_clamp (by omega), gs4_s_s, s4ss]
