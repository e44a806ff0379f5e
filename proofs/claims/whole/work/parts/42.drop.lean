/-! drop -/
def drL (j : Nat) (L : BX0) : BX0 := s0_lengths (s0_strengths (s0_stops (s0_loads L (upd (p0_loads L) j (p0_loads L (j + 1)))) (upd (upd (p0_stops L) (2 * j) (p0_stops L (2 * (j + 1)))) (2 * j + 1) (p0_stops L (2 * (j + 1) + 1)))) (upd (p0_strengths L) (j + 1) (p0_strengths L (j + 2)))) (upd (p0_lengths L) (j + 1) (p0_lengths L (j + 2)))
def drS (j : Nat) (s : Nat → Int32) : Nat → Int32 := upd (upd (upd (upd (upd s (2 + j + 1) (s (2 + j + 2))) (7 + j + 1) (s (7 + j + 2))) (12 + j) (s (12 + j + 1))) (16 + j) (s (16 + j + 1))) (20 + j) (s (20 + j + 1))
theorem dr_lay {L : BX0} {s : Nat → Int32} (h : LayEq L s) (j : Nat) (hj : j < 3) : LayEq (drL j L) (drS j s) := by
  obtain ⟨h1, h2, h3, h4, h5, h6, h7⟩ := h
  unfold drL drS
  refine ⟨?_, ?_, fun k hk => ?_, fun k hk => ?_, fun k hk => ?_, fun k hk => ?_, fun k hk => ?_⟩
  · rw [gs0_width_lengths, gs0_width_strengths, gs0_width_stops, gs0_width_loads, pk_un (by omega), pk_un (by omega), pk_un (by omega), pk_un (by omega), pk_un (by omega)]; exact h1
  · rw [gs0_plates_lengths, gs0_plates_strengths, gs0_plates_stops, gs0_plates_loads, pk_un (by omega), pk_un (by omega), pk_un (by omega), pk_un (by omega), pk_un (by omega)]; exact h2
  · rw [gs0_strengths_lengths, gs0_strengths_strengths, h3 (j + 2) (by omega)]
    simp only [upd_e]
    have := h3 k hk
    grind
  · rw [gs0_lengths_lengths, h4 (j + 2) (by omega)]
    simp only [upd_e]
    have := h4 k hk
    grind
  · rw [gs0_loads_lengths, gs0_loads_strengths, gs0_loads_stops, gs0_loads_loads, h5 (j + 1) (by omega)]
    simp only [upd_e]
    have := h5 k hk
    grind
  · rw [gs0_stops_lengths, gs0_stops_strengths, gs0_stops_stops, h6 (j + 1) (by omega), h7 (j + 1) (by omega)]
    simp only [upd_e]
    have := h6 k hk
    grind
  · rw [gs0_stops_lengths, gs0_stops_strengths, gs0_stops_stops, h6 (j + 1) (by omega), h7 (j + 1) (by omega)]
    simp only [upd_e]
    have := h7 k hk
    grind
theorem drop_c (n : Nat) (L : BX0) (q j : Nat) (hq : q ≤ 3) (hj : j < q) (hp : p0_plates L = nI (q + 1)) : fX0_removePlate_13 (n + 1) L (nI j) = fX0_removePlate_13 n (drL j L) (nI (j + 1)) := by
  show fX0_removePlate_13_b (fX0_removePlate_13 n) L (nI j) = _
  have e1 : (2 : Int32) * nI j = nI (2 * j) := pk_mul 2 j
  have e2 : (2 : Int32) * nI (j + 1) = nI (2 * (j + 1)) := pk_mul 2 (j + 1)
  have e3 : nI j + 2 = nI (j + 2) := nI_add j 2
  have a1 : ¬ nI (q + 1) ≤ nI (j + 1) := nlec (by omega) (by omega)
  have b1 : inB (nI (j + 1)) 4 = true := inB_nI (by omega) (by omega)
  have b2 : inB (nI j) 4 = true := inB_nI (by omega) (by omega)
  have b3 : inB (nI (2 * (j + 1))) 8 = true := inB_nI (by omega) (by omega)
  have b4 : inB (nI (2 * j)) 8 = true := inB_nI (by omega) (by omega)
  have b5 : inB (nI (2 * (j + 1) + 1)) 8 = true := inB_nI (by omega) (by omega)
  have b6 : inB (nI (2 * j + 1)) 8 = true := inB_nI (by omega) (by omega)
  have b7 : inB (nI (j + 2)) 5 = true := inB_nI (by omega) (by omega)
  have b8 : inB (nI (j + 1)) 5 = true := inB_nI (by omega) (by omega)
  have c1 : (nI (j + 1)).toNatClampNeg = j + 1 := nI_clamp (by omega)
  have c2 : (nI j).toNatClampNeg = j := nI_clamp (by omega)
  have c3 : (nI (2 * (j + 1))).toNatClampNeg = 2 * (j + 1) := nI_clamp (by omega)
  have c4 : (nI (2 * j)).toNatClampNeg = 2 * j := nI_clamp (by omega)
  have c5 : (nI (2 * (j + 1) + 1)).toNatClampNeg = 2 * (j + 1) + 1 := nI_clamp (by omega)
  have c6 : (nI (2 * j + 1)).toNatClampNeg = 2 * j + 1 := nI_clamp (by omega)
  have c7 : (nI (j + 2)).toNatClampNeg = j + 2 := nI_clamp (by omega)
  unfold fX0_removePlate_13_b fX0_copyPlateS
  simp only [nI_1, e1, e2, e3, hp, a1, b1, b2, b3, b4, b5, b6, b7, b8, c1, c2, c3, c4, c5, c6, c7, if_true, if_false, elet_eq, Option.bind_some, gs0_stops_loads, gs0_stops_stops, gs0_strengths_stops, gs0_strengths_loads, gs0_lengths_strengths, gs0_lengths_stops, gs0_lengths_loads]
  have u : upd (upd (p0_stops L) (2 * j) (p0_stops L (2 * (j + 1)))) (2 * j + 1) (upd (p0_stops L) (2 * j) (p0_stops L (2 * (j + 1))) (2 * (j + 1) + 1)) = upd (upd (p0_stops L) (2 * j) (p0_stops L (2 * (j + 1)))) (2 * j + 1) (p0_stops L (2 * (j + 1) + 1)) := by
    rw [pk_un (show 2 * (j + 1) + 1 ≠ 2 * j by omega)]
  rw [u]
  rfl
theorem drop_ce (n : Nat) (L : BX0) (q : Nat) (hq : q ≤ 3) (hp : p0_plates L = nI (q + 1)) : fX0_removePlate_13 (n + 1) L (nI q) = some (nI q, s0_plates L (nI q)) := by
  show fX0_removePlate_13_b (fX0_removePlate_13 n) L (nI q) = _
  unfold fX0_removePlate_13_b
  rw [hp, nI_1, if_pos (lec (Nat.le_refl _) (by omega)), elet_eq, nI_pred, gs0_plates_plates]
theorem drop_r (n : Nat) (M : BX4) (s : Nat → Int32) (q j : Nat) (hq : q ≤ 3) (hj : j < q) (hM : p4_s M = s) (hp : s 1 = nI q) : fX4_drop_27 (n + 1) M (nI j) = fX4_drop_27 n (s4_s M (drS j s)) (nI (j + 1)) := by
  show fX4_drop_27_b (fX4_drop_27 n) M (nI j) = _
  have a1 : ¬ nI q ≤ nI j := nlec (by omega) (by omega)
  have e2 : (2 : Int32) + nI j = nI (2 + j) := nI_add 2 j
  have e3 : (7 : Int32) + nI j = nI (7 + j) := nI_add 7 j
  have e4 : (12 : Int32) + nI j = nI (12 + j) := nI_add 12 j
  have e5 : (16 : Int32) + nI j = nI (16 + j) := nI_add 16 j
  have e6 : (20 : Int32) + nI j = nI (20 + j) := nI_add 20 j
  have f2 : nI (2 + j) + 2 = nI (2 + j + 2) := nI_add _ 2
  have f3 : nI (7 + j) + 2 = nI (7 + j + 2) := nI_add _ 2
  have b1 : ∀ k, k < 24 → inB (nI k) 24 = true := fun k hk => inB_nI hk (by omega)
  have c1 : ∀ k, k < 24 → (nI k).toNatClampNeg = k := fun k hk => nI_clamp (by omega)
  unfold fX4_drop_27_b
  rw [cl1, hM, hp, if_neg a1, e2, e3, e4, e5, e6, nI_1, nI_1, nI_1, nI_1, nI_1, nI_1, f2, f3]
  rw [if_pos (b1 _ (by omega)), if_pos (b1 _ (by omega)), elet_eq, if_pos (b1 _ (by omega)), if_pos (b1 _ (by omega)), elet_eq, if_pos (b1 _ (by omega)), if_pos (b1 _ (by omega)), elet_eq, if_pos (b1 _ (by omega)), if_pos (b1 _ (by omega)), elet_eq, if_pos (b1 _ (by omega)), if_pos (b1 _ (by omega)), elet_eq, elet_eq]
  rw [c1 _ (show 2 + j + 1 < 24 by omega), c1 _ (show 2 + j + 2 < 24 by omega), c1 _ (show 7 + j + 1 < 24 by omega), c1 _ (show 7 + j + 2 < 24 by omega), c1 _ (show 12 + j < 24 by omega), c1 _ (show 12 + j + 1 < 24 by omega), c1 _ (show 16 + j < 24 by omega), c1 _ (show 16 + j + 1 < 24 by omega), c1 _ (show 20 + j < 24 by omega), c1 _ (show 20 + j + 1 < 24 by omega)]
  simp only [gs4_s_s, s4ss]
  unfold drS
  rw [pk_un (show 7 + j + 2 ≠ 2 + j + 1 by omega), pk_un (show 12 + j + 1 ≠ 7 + j + 1 by omega), pk_un (show 12 + j + 1 ≠ 2 + j + 1 by omega), pk_un (show 16 + j + 1 ≠ 12 + j by omega), pk_un (show 16 + j + 1 ≠ 7 + j + 1 by omega), pk_un (show 16 + j + 1 ≠ 2 + j + 1 by omega), pk_un (show 20 + j + 1 ≠ 16 + j by omega), pk_un (show 20 + j + 1 ≠ 12 + j by omega), pk_un (show 20 + j + 1 ≠ 7 + j + 1 by omega), pk_un (show 20 + j + 1 ≠ 2 + j + 1 by omega)]
theorem drop_re (n : Nat) (M : BX4) (s : Nat → Int32) (q : Nat) (hq : q ≤ 3) (hM : p4_s M = s) (hp : s 1 = nI q) : fX4_drop_27 (n + 1) M (nI q) = some (nI q, M) := by
  show fX4_drop_27_b (fX4_drop_27 n) M (nI q) = _
  unfold fX4_drop_27_b
  rw [cl1, hM, hp, if_pos (lec (Nat.le_refl _) (by omega))]
theorem drop_all (q : Nat) (hq : q ≤ 3) : ∀ d j, j + d = q → ∀ (L : BX0) (s : Nat → Int32) (n : Nat), p0_plates L = nI (q + 1) → LayEq (s0_plates L (nI q)) s → s 1 = nI q → ∃ L1 s1, fX0_removePlate_13 (n + d + 1) L (nI j) = some (nI q, L1) ∧ LayEq L1 s1 ∧ (∀ M, p4_s M = s → fX4_drop_27 (n + d + 1) M (nI j) = some (nI q, s4_s M s1)) ∧ s1 0 = s 0 ∧ s1 1 = s 1 ∧ (∀ k, k ≤ q → s1 (2 + k) = (if k ≤ j then s (2 + k) else s (2 + k + 1)) ∧ s1 (7 + k) = (if k ≤ j then s (7 + k) else s (7 + k + 1))) ∧ (∀ k, k < q → s1 (12 + k) = (if k < j then s (12 + k) else s (12 + k + 1)) ∧ s1 (16 + k) = (if k < j then s (16 + k) else s (16 + k + 1)) ∧ s1 (20 + k) = (if k < j then s (20 + k) else s (20 + k + 1))) := by
  intro d
  induction d with
  | zero =>
    intro j hj L s n hp hL hs
    obtain rfl : j = q := by omega
    refine ⟨_, s, drop_ce _ L j hq hp, hL, fun M hM => ?_, rfl, rfl, fun k hk => ⟨by rw [if_pos hk], by rw [if_pos hk]⟩, fun k hk => ⟨by rw [if_pos hk], by rw [if_pos hk], by rw [if_pos hk]⟩⟩
    rw [drop_re _ M s j hq hM hs, ← hM]
    rfl
  | succ d ih =>
    intro j hj L s n hp hL hs
    have hjq : j < q := by omega
    have hs1 : drS j s 1 = nI q := by
      unfold drS
      rw [pk_un (by omega), pk_un (by omega), pk_un (by omega), pk_un (by omega), pk_un (by omega)]; exact hs
    obtain ⟨L1, s1, r1, r2, r3, r4, r5, r6, r7⟩ := ih (j + 1) (by omega) (drL j L) (drS j s) n (by unfold drL; rw [gs0_plates_lengths, gs0_plates_strengths, gs0_plates_stops, gs0_plates_loads]; exact hp) (dr_lay hL j (by omega)) hs1
    refine ⟨L1, s1, ?_, r2, fun M hM => ?_, ?_, ?_, fun k hk => ?_, fun k hk => ?_⟩
    · rw [show n + (d + 1) + 1 = (n + d + 1) + 1 by omega, drop_c _ L q j hq hjq hp]; exact r1
    · rw [show n + (d + 1) + 1 = (n + d + 1) + 1 by omega, drop_r _ M s q j hq hjq hM hs, r3 _ (gs4_s_s _ _), s4ss]
    · rw [r4]; unfold drS; rw [pk_un (by omega), pk_un (by omega), pk_un (by omega), pk_un (by omega), pk_un (by omega)]
    · rw [r5, hs1, hs]
    · obtain ⟨x1, x2⟩ := r6 k hk
      rw [x1, x2]
      unfold drS
      simp only [upd_e]
      constructor <;> grind
    · obtain ⟨x1, x2, x3⟩ := r7 k hk
      rw [x1, x2, x3]
      unfold drS
      simp only [upd_e]
      refine ⟨?_, ?_, ?_⟩ <;> grind
theorem drop_ok {L : BX0} {s : Nat → Int32} (hL : LayEq L s) (hG : Good s) (i1 : Int32) : OpOk (fX0_removePlate L i1) (fun M => fX4_drop M i1) s True := by
  obtain ⟨w, p, g1, g2, g3, g4, g5, g6, g7, g8⟩ := id hG
  have hi1 : ∀ k, fX0_hasPlate L (nI k) = some 1 → fX0_removePlate L (nI k) = fX0_removePlate_13 FU L (nI k) := by
    intro k a1
    unfold fX0_removePlate
    generalize FU = F
    rw [a1, Option.bind_some, if_neg (by decide)]
  have hi2 : ∀ k M M1, fX4_isPlate M (nI k) = some 1 → fX4_changes M = some M1 → fX4_drop M (nI k) = fX4_drop_27 FU (s4_s M1 (upd (p4_s M1) 1 (p4_s M1 1 - 1))) (nI k) := by
    intro k M M1 a1 a2
    unfold fX4_drop
    generalize FU = F
    rw [a1, Option.bind_some, if_neg (by decide), a2, Option.bind_some, elet_eq, cl1]
  rcases plate_or2 hL g2 g5 i1 with ⟨a0, a1, a2⟩ | ⟨k, hk, rfl, a1, a2⟩
  · refine Or.inl ⟨-1000001, L, Or.inl ⟨rfl, trivial⟩, ?_, hL, fun M hM => ?_⟩
    · unfold fX0_removePlate
      generalize FU = F
      rw [a1, Option.bind_some, if_pos rfl]
    · show fX4_drop M i1 = _
      unfold fX4_drop
      generalize FU = F
      rw [a2 M hM, Option.bind_some, if_pos rfl]
  · obtain ⟨q, rfl⟩ : ∃ q, p = q + 1 := ⟨p - 1, by omega⟩
    have hL2 : LayEq (s0_plates L (nI q)) (upd s 1 (nI q)) := by
      obtain ⟨h1, h2, h3, h4, h5, h6, h7⟩ := hL
      refine ⟨?_, ?_, fun j hj => ?_, fun j hj => ?_, fun j hj => ?_, fun j hj => ?_, fun j hj => ?_⟩
      · rw [gs0_width_plates, pk_un (by omega)]; exact h1
      · rw [gs0_plates_plates, pk_us]
      · rw [gs0_strengths_plates, pk_un (by omega)]; exact h3 j hj
      · rw [gs0_lengths_plates, pk_un (by omega)]; exact h4 j hj
      · rw [gs0_loads_plates, pk_un (by omega)]; exact h5 j hj
      · rw [gs0_stops_plates, pk_un (by omega)]; exact h6 j hj
      · rw [gs0_stops_plates, pk_un (by omega)]; exact h7 j hj
    obtain ⟨n, hn⟩ := FU_ex (q - k + 1) (by omega)
    obtain ⟨L1, s1, r1, r2, r3, r4, r5, r6, r7⟩ := drop_all q (by omega) (q - k) k (by omega) L (upd s 1 (nI q)) n (hL.2.1.trans g2) hL2 pk_us
    refine Or.inr ⟨nI q, L1, s1, ?_, ?_, r2, ?_, fun M M1 hM hc hM1 => ?_⟩
    · rw [i_lt, nI_toInt (by omega)]
      show (-1000001 : Int) < _
      omega
    · rw [hi1 k a1, hn]
      exact r1
    · rw [pk_un (by omega)] at r4
      rw [pk_us] at r5
      have r6b : ∀ j, j ≤ q → s1 (2 + j) = (if j ≤ k then s (2 + j) else s (2 + j + 1)) ∧ s1 (7 + j) = (if j ≤ k then s (7 + j) else s (7 + j + 1)) := by
        intro j hj
        have x := r6 j hj
        rw [pk_un (by omega), pk_un (by omega), pk_un (by omega), pk_un (by omega)] at x
        exact x
      have r7b : ∀ j, j < q → s1 (12 + j) = (if j < k then s (12 + j) else s (12 + j + 1)) ∧ s1 (16 + j) = (if j < k then s (16 + j) else s (16 + j + 1)) ∧ s1 (20 + j) = (if j < k then s (20 + j) else s (20 + j + 1)) := by
        intro j hj
        have x := r7 j hj
        rw [pk_un (by omega), pk_un (by omega), pk_un (by omega), pk_un (by omega), pk_un (by omega), pk_un (by omega)] at x
        exact x
      have hl : ∀ j, j < q → lowB s1 j = lowB s (if j < k then j else j + 1) := by
        intro j hj
        unfold lowB
        rw [(r7b j hj).2.1]
        by_cases e : j < k
        · rw [if_pos e, if_pos e]
        · rw [if_neg e, if_neg e]; rfl
      have hh : ∀ j, j < q → highB s1 j = highB s (if j < k then j else j + 1) := by
        intro j hj
        unfold highB
        rw [(r7b j hj).2.2, r4]
        by_cases e : j < k
        · rw [if_pos e, if_pos e]
        · rw [if_neg e, if_neg e]; rfl
      refine ⟨w, q, r4.trans g1, r5, g3, g4, by omega, fun j hj => ?_, fun j hj => ?_, fun i j hij hj => ?_⟩
      · rw [(r6b j hj).1, (r6b j hj).2]
        by_cases e : j ≤ k
        · rw [if_pos e, if_pos e]; exact g6 j (by omega)
        · rw [if_neg e, if_neg e]; exact g6 (j + 1) (by omega)
      · rw [(r7b j hj).1, (r7b j hj).2.1, (r7b j hj).2.2]
        by_cases e : j < k
        · rw [if_pos e, if_pos e, if_pos e]; exact g7 j (by omega)
        · rw [if_neg e, if_neg e, if_neg e]; exact g7 (j + 1) (by omega)
      · rw [hl i (by omega), hh j hj]
        refine g8 _ _ ?_ ?_
        · split <;> split <;> omega
        · split <;> omega
    · show fX4_drop M (nI k) = _
      rw [hi2 k M M1 (a2 M hM) hc, hM1, g2, nI_pred, hn]
      exact (r3 _ (gs4_s_s _ _)).trans (by rw [s4ss])
theorem St_drop0 : St_drop Sim0 := by
  intro vX n pv vA vB vR vT vS vM i1 h
  exact op_keep h (fun L => fX0_removePlate L i1) (fun M => fX4_drop M i1) _ (drop_ok (cfV_lay h.1) h.2.1 i1)
