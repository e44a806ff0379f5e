/-! width -/
def BeyR (s : Nat → Int32) (p j : Nat) (v : Int32) : Prop := ∃ q, j ≤ q ∧ q < p ∧ ¬ (s (16 + q) ≤ v ∧ s (20 + q) ≤ v)
theorem BeyR_s (s : Nat → Int32) (p j : Nat) (v : Int32) (hj : j < p) : BeyR s p j v ↔ (¬ (s (16 + j) ≤ v ∧ s (20 + j) ≤ v) ∨ BeyR s p (j + 1) v) := by
  constructor
  · rintro ⟨q, h1, h2, h3⟩
    by_cases e : q = j
    · subst e; exact Or.inl h3
    · exact Or.inr ⟨q, by omega, h2, h3⟩
  · rintro (h | ⟨q, h1, h2, h3⟩)
    · exact ⟨j, Nat.le_refl _, hj, h⟩
    · exact ⟨q, by omega, h2, h3⟩
theorem hsb_s {L : BX0} {s : Nat → Int32} {p : Nat} (h : LayEq L s) (hp : s 1 = nI p) (hp4 : p ≤ 4) (n j : Nat) (hj : j < p) (v : Int32) : fX0_hasStopBeyond_2 (n + 2) L v (nI (2 * j)) = if s (16 + j) ≤ v then (if s (20 + j) ≤ v then fX0_hasStopBeyond_2 n L v (nI (2 * (j + 1))) else some 1) else some 1 := by
  have e1 : (2 : Int32) * nI p = nI (2 * p) := pk_mul 2 p
  have a1 : p0_stops L (2 * j) = s (16 + j) := h.2.2.2.2.2.1 j (by omega)
  have a2 : p0_stops L (2 * j + 1) = s (20 + j) := h.2.2.2.2.2.2 j (by omega)
  have k2 : fX0_hasStopBeyond_2 (n + 1) L v (nI (2 * j + 1)) = if s (20 + j) ≤ v then fX0_hasStopBeyond_2 n L v (nI (2 * (j + 1))) else some 1 := by
    show fX0_hasStopBeyond_2_b (fX0_hasStopBeyond_2 n) L v (nI (2 * j + 1)) = _
    unfold fX0_hasStopBeyond_2_b
    rw [h.2.1, hp, e1, if_neg (nlec (by omega) (by omega)), if_pos (inB_nI (by omega) (by omega)), nI_clamp (by omega), a2, elet_eq, nI_1, show 2 * (j + 1) = 2 * j + 1 + 1 by omega]
  show fX0_hasStopBeyond_2_b (fX0_hasStopBeyond_2 (n + 1)) L v (nI (2 * j)) = _
  unfold fX0_hasStopBeyond_2_b
  rw [h.2.1, hp, e1, if_neg (nlec (by omega) (by omega)), if_pos (inB_nI (by omega) (by omega)), nI_clamp (by omega), a1, elet_eq, nI_1, k2]
theorem hsb_e {L : BX0} {s : Nat → Int32} {p : Nat} (h : LayEq L s) (hp : s 1 = nI p) (hp4 : p ≤ 4) (n : Nat) (v : Int32) : fX0_hasStopBeyond_2 (n + 1) L v (nI (2 * p)) = some 0 := by
  have e1 : (2 : Int32) * nI p = nI (2 * p) := pk_mul 2 p
  show fX0_hasStopBeyond_2_b (fX0_hasStopBeyond_2 n) L v (nI (2 * p)) = _
  unfold fX0_hasStopBeyond_2_b
  rw [h.2.1, hp, e1, if_pos (lec (Nat.le_refl _) (by omega))]
theorem hsb_all {L : BX0} {s : Nat → Int32} {p : Nat} (h : LayEq L s) (hp : s 1 = nI p) (hp4 : p ≤ 4) (v : Int32) : ∀ d j, j + d = p → ∀ (n : Nat), (BeyR s p j v ∧ fX0_hasStopBeyond_2 (n + 2 * d + 1) L v (nI (2 * j)) = some 1) ∨ (¬ BeyR s p j v ∧ fX0_hasStopBeyond_2 (n + 2 * d + 1) L v (nI (2 * j)) = some 0) := by
  intro d
  induction d with
  | zero =>
    intro j hj n
    obtain rfl : j = p := by omega
    refine Or.inr ⟨?_, hsb_e h hp hp4 _ v⟩
    rintro ⟨q, h1, h2, -⟩
    omega
  | succ d ih =>
    intro j hj n
    have hjp : j < p := by omega
    rw [show n + 2 * (d + 1) + 1 = (n + 2 * d + 1) + 2 by omega, hsb_s h hp hp4 _ j hjp v]
    have hb := BeyR_s s p j v hjp
    by_cases a1 : s (16 + j) ≤ v
    · by_cases a2 : s (20 + j) ≤ v
      · rw [if_pos a1, if_pos a2]
        rcases ih (j + 1) (by omega) n with ⟨b1, b2⟩ | ⟨b1, b2⟩
        · exact Or.inl ⟨hb.mpr (Or.inr b1), b2⟩
        · refine Or.inr ⟨fun b => ?_, b2⟩
          rcases hb.mp b with c | c
          · exact c ⟨a1, a2⟩
          · exact b1 c
      · rw [if_pos a1, if_neg a2]
        exact Or.inl ⟨hb.mpr (Or.inl (fun c => a2 c.2)), rfl⟩
    · rw [if_neg a1]
      exact Or.inl ⟨hb.mpr (Or.inl (fun c => a1 c.1)), rfl⟩
theorem beyond_v {L : BX0} {s : Nat → Int32} {p : Nat} (h : LayEq L s) (hp : s 1 = nI p) (hp4 : p ≤ 4) (v : Int32) : (BeyR s p 0 v ∧ fX0_hasStopBeyond L v = some 1) ∨ (¬ BeyR s p 0 v ∧ fX0_hasStopBeyond L v = some 0) := by
  obtain ⟨n, hn⟩ := FU_ex (2 * p + 1) (by omega)
  have e := hsb_all h hp hp4 v p 0 (by omega) n
  unfold fX0_hasStopBeyond
  rw [hn]
  exact e
theorem wd_s {M : BX4} {s : Nat → Int32} {p : Nat} (hM : p4_s M = s) (hp : s 1 = nI p) (hp4 : p ≤ 4) (n j : Nat) (hj : j < p) (v : Int32) : fX4_width_16 (n + 1) M v (nI j) = if v < s (16 + j) then some (-1000002, M) else (if s (20 + j) ≤ v then fX4_width_16 n M v (nI (j + 1)) else some (-1000002, M)) := by
  have e3 : (16 : Int32) + nI j = nI (16 + j) := nI_add 16 j
  have e4 : (20 : Int32) + nI j = nI (20 + j) := nI_add 20 j
  show fX4_width_16_b (fX4_width_16 n) M v (nI j) = _
  unfold fX4_width_16_b
  rw [cl1, hM, hp, if_neg (nlec hj (by omega)), e3, e4, if_pos (inB_nI (by omega) (by omega)), if_pos (inB_nI (by omega) (by omega)), nI_clamp (by omega), nI_clamp (by omega), elet_eq, nI_1]
theorem wd_e {M M1 : BX4} {s : Nat → Int32} {p : Nat} (hM : p4_s M = s) (hc : fX4_changes M = some M1) (hM1 : p4_s M1 = s) (hp : s 1 = nI p) (hp4 : p ≤ 4) (n : Nat) (v : Int32) : fX4_width_16 (n + 1) M v (nI p) = some (s 0, s4_s M1 (upd s 0 v)) := by
  show fX4_width_16_b (fX4_width_16 n) M v (nI p) = _
  unfold fX4_width_16_b
  rw [cl1, hM, hp, if_pos (lec (Nat.le_refl _) (by omega)), hc, Option.bind_some, elet_eq, elet_eq, cl0, hM1]
theorem wd_y {M : BX4} {s : Nat → Int32} {p : Nat} (hM : p4_s M = s) (hp : s 1 = nI p) (hp4 : p ≤ 4) (v : Int32) : ∀ d j, j + d = p → BeyR s p j v → ∀ (n : Nat), fX4_width_16 (n + d + 1) M v (nI j) = some (-1000002, M) := by
  intro d
  induction d with
  | zero =>
    rintro j hj ⟨q, h1, h2, -⟩
    omega
  | succ d ih =>
    intro j hj hB n
    have hjp : j < p := by omega
    rw [show n + (d + 1) + 1 = (n + d + 1) + 1 by omega, wd_s hM hp hp4 _ j hjp v]
    by_cases a1 : v < s (16 + j)
    · rw [if_pos a1]
    · by_cases a2 : s (20 + j) ≤ v
      · rw [if_neg a1, if_pos a2]
        rcases (BeyR_s s p j v hjp).mp hB with c | c
        · exact absurd ⟨Int32.not_lt.mp a1, a2⟩ c
        · exact ih (j + 1) (by omega) c n
      · rw [if_neg a1, if_neg a2]
theorem wd_n {M M1 : BX4} {s : Nat → Int32} {p : Nat} (hM : p4_s M = s) (hc : fX4_changes M = some M1) (hM1 : p4_s M1 = s) (hp : s 1 = nI p) (hp4 : p ≤ 4) (v : Int32) : ∀ d j, j + d = p → ¬ BeyR s p j v → ∀ (n : Nat), fX4_width_16 (n + d + 1) M v (nI j) = some (s 0, s4_s M1 (upd s 0 v)) := by
  intro d
  induction d with
  | zero =>
    intro j hj hB n
    obtain rfl : j = p := by omega
    exact wd_e hM hc hM1 hp hp4 _ v
  | succ d ih =>
    intro j hj hB n
    have hjp : j < p := by omega
    have hb := BeyR_s s p j v hjp
    have h1 : s (16 + j) ≤ v ∧ s (20 + j) ≤ v := Classical.byContradiction fun c => hB (hb.mpr (Or.inl c))
    rw [show n + (d + 1) + 1 = (n + d + 1) + 1 by omega, wd_s hM hp hp4 _ j hjp v, if_neg (Int32.not_lt.mpr h1.1), if_pos h1.2]
    exact ih (j + 1) (by omega) (fun c => hB (hb.mpr (Or.inr c))) n
theorem lay_width {L : BX0} {s : Nat → Int32} (h : LayEq L s) (v : Int32) : LayEq (s0_width L v) (upd s 0 v) := by
  obtain ⟨h1, h2, h3, h4, h5, h6, h7⟩ := h
  refine ⟨?_, ?_, fun j hj => ?_, fun j hj => ?_, fun j hj => ?_, fun j hj => ?_, fun j hj => ?_⟩
  · rw [gs0_width_width, pk_us]
  · rw [gs0_plates_width, pk_un (by omega)]; exact h2
  · rw [gs0_strengths_width, pk_un (by omega)]; exact h3 j hj
  · rw [gs0_lengths_width, pk_un (by omega)]; exact h4 j hj
  · rw [gs0_loads_width, pk_un (by omega)]; exact h5 j hj
  · rw [gs0_stops_width, pk_un (by omega)]; exact h6 j hj
  · rw [gs0_stops_width, pk_un (by omega)]; exact h7 j hj
theorem width_ok {L : BX0} {s : Nat → Int32} (hL : LayEq L s) (hG : Good s) (i1 : Int32) : OpOk (fX0_setWidth L i1) (fun M => fX4_width M i1) s (¬ (10 ≤ i1 ∧ i1 ≤ 99)) := by
  obtain ⟨w, p, g1, g2, g3, g4, g5, g6, g7, g8⟩ := id hG
  by_cases d1 : i1 < 10
  · refine Or.inl ⟨-1000001, L, Or.inl ⟨rfl, ?_⟩, ?_, hL, fun M hM => ?_⟩
    · rintro ⟨b, -⟩
      exact absurd d1 (Int32.not_lt.mpr b)
    · unfold fX0_setWidth; rw [if_pos d1]
    · show fX4_width M i1 = _
      unfold fX4_width fX4_in; rw [if_pos d1, Option.bind_some, if_pos rfl]
  · by_cases d2 : i1 ≤ 99
    · have d3 : ¬ 99 < i1 := Int32.not_lt.mpr d2
      have hi : ∀ M, fX4_width M i1 = fX4_width_16 FU M i1 (0 : Int32) := by
        intro M
        unfold fX4_width fX4_in
        generalize FU = F
        rw [if_neg d1, if_neg d3, Option.bind_some, if_neg (by decide)]
      obtain ⟨n, hn⟩ := FU_ex (p + 1) (by omega)
      rcases beyond_v hL g2 g5 i1 with ⟨b1, b2⟩ | ⟨b1, b2⟩
      · refine Or.inl ⟨-1000002, L, Or.inr (Or.inl rfl), ?_, hL, fun M hM => ?_⟩
        · unfold fX0_setWidth; rw [if_neg d1, if_pos d2, b2, Option.bind_some, if_neg (by decide)]
        · show fX4_width M i1 = _
          rw [hi, hn]
          exact wd_y hM g2 g5 i1 p 0 (by omega) b1 n
      · have hv : ∀ k, k < p → (s (16 + k)).toInt ≤ i1.toInt ∧ (s (20 + k)).toInt ≤ i1.toInt := by
          intro k hk
          have h1 : s (16 + k) ≤ i1 ∧ s (20 + k) ≤ i1 := Classical.byContradiction fun c => b1 ⟨k, Nat.zero_le _, hk, c⟩
          exact ⟨i_le.mp h1.1, i_le.mp h1.2⟩
        have w1 : 10 ≤ i1.toInt := i_le.mp (Int32.not_lt.mp d1)
        have w2 : i1.toInt ≤ 99 := i_le.mp d2
        obtain ⟨v, hv31, rfl⟩ := nI_of (x := i1) (by rw [i_lt]; show ¬ _ < (0 : Int); omega)
        have hvi : (nI v).toInt = v := nI_toInt hv31
        rw [hvi] at w1 w2
        have hw : (nI w).toInt = w := nI_toInt (by omega)
        have ha : (-1000001 : Int32) < s 0 := by
          rw [g1, i_lt, hw]
          show (-1000001 : Int) < _
          omega
        refine Or.inr ⟨_, _, _, ha, ?_, lay_width hL (nI v), ?_, fun M M1 hM hc hM1 => ?_⟩
        · unfold fX0_setWidth; rw [if_neg d1, if_pos d2, b2, Option.bind_some, if_pos rfl, elet_eq, elet_eq, hL.1]
        · refine ⟨v, p, by rw [pk_us], by rw [pk_un (by omega)]; exact g2, by omega, by omega, g5, fun k hk => ?_, fun k hk => ?_, fun i j hij hj => ?_⟩
          · rw [pk_un (by omega), pk_un (by omega)]; exact g6 k hk
          · have q := hv k hk
            rw [hvi] at q
            rw [pk_un (by omega), pk_un (by omega), pk_un (by omega)]
            exact ⟨(g7 k hk).1, ⟨(g7 k hk).2.1.1, q.1⟩, (g7 k hk).2.2.1, q.2⟩
          · have q1 := (hv i (by omega)).1
            have q3 := g8 i j hij hj
            have z : (0 : Int32).toInt = 0 := rfl
            rw [hvi] at q1
            unfold lowB highB at q3 ⊢
            rw [pk_un (show 16 + i ≠ 0 by omega), pk_un (show 20 + j ≠ 0 by omega), pk_us]
            by_cases a : s (20 + j) < 0
            · rw [if_pos a, i_le, hvi]
              split
              · rw [z]; omega
              · exact q1
            · rw [if_neg a] at q3 ⊢
              exact q3
        · show fX4_width M (nI v) = _
          rw [hi, hn]
          exact wd_n hM hc hM1 g2 g5 (nI v) p 0 (by omega) b1 n
    · have d3 : 99 < i1 := Int32.not_le.mp d2
      refine Or.inl ⟨-1000001, L, Or.inl ⟨rfl, ?_⟩, ?_, hL, fun M hM => ?_⟩
      · rintro ⟨-, b⟩
        exact d2 b
      · unfold fX0_setWidth; rw [if_neg d1, if_neg d2]
      · show fX4_width M i1 = _
        unfold fX4_width fX4_in; rw [if_neg d1, if_pos d3, Option.bind_some, if_pos rfl]
theorem St_width0 : St_width Sim0 := by
  intro vX n pv vA vB vR vT vS vM i1 h
  exact op_keep h (fun L => fX0_setWidth L i1) (fun M => fX4_width M i1) _ (width_ok (cfV_lay h.1) h.2.1 i1)
/-! plate -/
theorem plate_ok {L : BX0} {s : Nat → Int32} (hL : LayEq L s) (hG : Good s) : OpOk (fX0_addPlate L) (fun M => fX4_plate M) s False := by
  obtain ⟨w, p, g1, g2, g3, g4, g5, g6, g7, g8⟩ := id hG
  by_cases h4 : p = 4
  · subst h4
    refine Or.inl ⟨-1000003, L, Or.inr (Or.inr rfl), ?_, hL, fun M hM => ?_⟩
    · unfold fX0_addPlate; rw [hL.2.1, g2, if_neg (by decide)]
    · show fX4_plate M = _
      unfold fX4_plate; rw [elet_eq, cl1, hM, g2, if_pos (show nI 4 = 4 from rfl)]
  · have hp : p < 4 := by omega
    have a1 : nI p < (4 : Int32) := ltc (b := 4) hp (by omega)
    have a2 : ¬ nI p = (4 : Int32) := fun e => h4 ((nI_eq (b := 4) (by omega) (by omega)).mp e)
    have e1 : (2 : Int32) * nI p = nI (2 * p) := pk_mul 2 p
    have e2 : (2 : Int32) + nI p + 1 = nI (2 + p + 1) := by rw [show (2 : Int32) + nI p = nI (2 + p) from nI_add 2 p, nI_1]
    have e3 : (7 : Int32) + nI p + 1 = nI (7 + p + 1) := by rw [show (7 : Int32) + nI p = nI (7 + p) from nI_add 7 p, nI_1]
    have e4 : (12 : Int32) + nI p = nI (12 + p) := nI_add 12 p
    have e5 : (16 : Int32) + nI p = nI (16 + p) := nI_add 16 p
    have e6 : (20 : Int32) + nI p = nI (20 + p) := nI_add 20 p
    refine Or.inr ⟨nI p, s0_plates (s0_lengths (s0_strengths (s0_stops (s0_loads L (upd (p0_loads L) p 0)) (upd (upd (p0_stops L) (2 * p) (-1)) (2 * p + 1) (-1))) (upd (p0_strengths L) (p + 1) 1)) (upd (p0_lengths L) (p + 1) 10)) (nI (p + 1)), upd (upd (upd (upd (upd (upd s 1 (nI (p + 1))) (2 + p + 1) 1) (7 + p + 1) 10) (12 + p) 0) (16 + p) (-1)) (20 + p) (-1), ?_, ?_, ?_, ?_, fun M M1 hM hc hM1 => ?_⟩
    · rw [i_lt, nI_toInt (by omega)]
      show (-1000001 : Int) < _
      omega
    · unfold fX0_addPlate fX0_putNewSpring
      rw [hL.2.1, g2, if_pos a1, elet_eq, if_pos (inB_nI hp (by omega)), elet_eq, e1, if_pos (inB_nI (by omega) (by omega)), elet_eq, nI_1, nI_1, if_pos (inB_nI (by omega) (by omega)), elet_eq, if_pos (inB_nI (by omega) (by omega)), elet_eq, if_pos (inB_nI (by omega) (by omega)), elet_eq, Option.bind_some, elet_eq, nI_clamp (by omega), nI_clamp (by omega), nI_clamp (by omega), nI_clamp (by omega)]
      show some (nI p, s0_plates _ (p0_plates L + 1)) = _
      rw [hL.2.1, g2, nI_1]
      rfl
    · obtain ⟨h1, h2, h3, h4, h5, h6, h7⟩ := hL
      refine ⟨?_, ?_, fun j hj => ?_, fun j hj => ?_, fun j hj => ?_, fun j hj => ?_, fun j hj => ?_⟩
      · rw [gs0_width_plates, gs0_width_lengths, gs0_width_strengths, gs0_width_stops, gs0_width_loads, pk_un (by omega), pk_un (by omega), pk_un (by omega), pk_un (by omega), pk_un (by omega), pk_un (by omega)]; exact h1
      · rw [gs0_plates_plates, pk_un (by omega), pk_un (by omega), pk_un (by omega), pk_un (by omega), pk_un (by omega), pk_us]
      · rw [gs0_strengths_plates, gs0_strengths_lengths, gs0_strengths_strengths]
        simp only [upd_e]
        have := h3 j hj
        grind
      · rw [gs0_lengths_plates, gs0_lengths_lengths]
        simp only [upd_e]
        have := h4 j hj
        grind
      · rw [gs0_loads_plates, gs0_loads_lengths, gs0_loads_strengths, gs0_loads_stops, gs0_loads_loads]
        simp only [upd_e]
        have := h5 j hj
        grind
      · rw [gs0_stops_plates, gs0_stops_lengths, gs0_stops_strengths, gs0_stops_stops]
        simp only [upd_e]
        have := h6 j hj
        grind
      · rw [gs0_stops_plates, gs0_stops_lengths, gs0_stops_strengths, gs0_stops_stops]
        simp only [upd_e]
        have := h7 j hj
        grind
    · refine ⟨w, p + 1, ?_, ?_, g3, g4, by omega, fun k hk => ?_, fun k hk => ?_, fun i j hij hj => ?_⟩
      · rw [pk_un (by omega), pk_un (by omega), pk_un (by omega), pk_un (by omega), pk_un (by omega), pk_un (by omega)]; exact g1
      · rw [pk_un (by omega), pk_un (by omega), pk_un (by omega), pk_un (by omega), pk_un (by omega), pk_us]
      · by_cases e : k = p + 1
        · subst e
          rw [pk_un (by omega), pk_un (by omega), pk_un (by omega), pk_un (by omega), show 2 + (p + 1) = 2 + p + 1 by omega, pk_us, pk_un (by omega), pk_un (by omega), pk_un (by omega), show 7 + (p + 1) = 7 + p + 1 by omega, pk_us]
          decide
        · have q := g6 k (by omega)
          rw [pk_un (by omega), pk_un (by omega), pk_un (by omega), pk_un (by omega), pk_un (by omega), pk_un (by omega), pk_un (by omega), pk_un (by omega), pk_un (by omega), pk_un (by omega), pk_un (by omega), pk_un (by omega)]
          exact q
      · by_cases e : k = p
        · subst e
          have w0 : (0 : Int32).toInt = 0 := rfl
          have w1 : (-1 : Int32).toInt = -1 := rfl
          rw [pk_un (show 12 + k ≠ 20 + k by omega), pk_un (show 12 + k ≠ 16 + k by omega), pk_us, pk_un (show 16 + k ≠ 20 + k by omega), pk_us, pk_us, w0, w1]
          omega
        · have q := g7 k (by omega)
          rw [pk_un (by omega), pk_un (by omega), pk_un (by omega), pk_un (by omega), pk_un (by omega), pk_un (by omega), pk_un (by omega), pk_un (by omega), pk_un (by omega), pk_un (by omega), pk_un (by omega), pk_un (by omega), pk_un (by omega), pk_un (by omega), pk_un (by omega), pk_un (by omega), pk_un (by omega), pk_un (by omega)]
          exact q
      · have z : (0 : Int32).toInt = 0 := rfl
        have hw : (nI w).toInt = w := nI_toInt (by omega)
        have hl : ∀ i, i < p → lowB (upd (upd (upd (upd (upd (upd s 1 (nI (p + 1))) (2 + p + 1) 1) (7 + p + 1) 10) (12 + p) 0) (16 + p) (-1)) (20 + p) (-1)) i = lowB s i := by
          intro i hi
          unfold lowB
          rw [pk_un (by omega), pk_un (by omega), pk_un (by omega), pk_un (by omega), pk_un (by omega), pk_un (by omega)]
        have hlp : lowB (upd (upd (upd (upd (upd (upd s 1 (nI (p + 1))) (2 + p + 1) 1) (7 + p + 1) 10) (12 + p) 0) (16 + p) (-1)) (20 + p) (-1)) p = 0 := by
          unfold lowB
          rw [pk_un (show 16 + p ≠ 20 + p by omega), pk_us, if_pos (by decide)]
        have hh : ∀ j, j < p → highB (upd (upd (upd (upd (upd (upd s 1 (nI (p + 1))) (2 + p + 1) 1) (7 + p + 1) 10) (12 + p) 0) (16 + p) (-1)) (20 + p) (-1)) j = highB s j := by
          intro j hj
          unfold highB
          rw [pk_un (by omega), pk_un (by omega), pk_un (by omega), pk_un (by omega), pk_un (by omega), pk_un (by omega), pk_un (by omega), pk_un (by omega), pk_un (by omega), pk_un (by omega), pk_un (by omega), pk_un (by omega)]
        have hhp : highB (upd (upd (upd (upd (upd (upd s 1 (nI (p + 1))) (2 + p + 1) 1) (7 + p + 1) 10) (12 + p) 0) (16 + p) (-1)) (20 + p) (-1)) p = nI w := by
          unfold highB
          rw [pk_us, if_pos (by decide), pk_un (by omega), pk_un (by omega), pk_un (by omega), pk_un (by omega), pk_un (by omega), pk_un (by omega), g1]
        rw [i_le]
        by_cases ej : j = p
        · subst ej
          rw [hhp, hw]
          by_cases ei : i = j
          · subst ei; rw [hlp, z]; omega
          · rw [hl i (by omega)]
            exact (bounds_of g1 g4 g7 i (by omega)).2.1
        · rw [hl i (by omega), hh j (by omega)]
          exact i_le.mp (g8 i j hij (by omega))
    · show fX4_plate M = _
      unfold fX4_plate
      rw [elet_eq, cl1, hM, g2, if_neg a2, hc, Option.bind_some, elet_eq, hM1, g2, nI_1, e2, if_pos (inB_nI (by omega) (by omega)), elet_eq, e3, if_pos (inB_nI (by omega) (by omega)), elet_eq, e4, if_pos (inB_nI (by omega) (by omega)), elet_eq, e5, if_pos (inB_nI (by omega) (by omega)), elet_eq, e6, if_pos (inB_nI (by omega) (by omega)), elet_eq, nI_clamp (by omega), nI_clamp (by omega), nI_clamp (by omega), nI_clamp (by omega), nI_clamp (by omega)]
      simp only [gs4_s_s, s4ss, hM1]
theorem St_plate0 : St_plate Sim0 := by
  intro vX n pv vA vB vR vT vS vM h
  exact op_keep h (fun L => fX0_addPlate L) (fun M => fX4_plate M) _ (plate_ok (cfV_lay h.1) h.2.1)
