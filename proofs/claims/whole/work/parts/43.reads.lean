/-! plateOf -/
theorem pof_v (i : Int32) (h : -1 ≤ i.toInt) : fX3_placeOrNotFound i = some (if i < 0 then -1000004 else i) := by
  unfold fX3_placeOrNotFound
  by_cases a : i < 0
  · rw [if_pos a, if_pos ((neg1 h).mp a)]
  · rw [if_neg a, if_neg (fun b => a ((neg1 h).mpr b))]
theorem p62_v {M : BX4} {s : Nat → Int32} (hM : p4_s M = s) (k c : Nat) (hk : k < 4) (hc : c < 2) (x : Int32) (hx : x - 1 = nI c) : fX4_plateOf_62 M (nI k) x = some (if s (16 + 4 * c + k) < 0 then -1000004 else s (16 + 4 * c + k)) := by
  unfold fX4_plateOf_62
  rw [hx, stopAt_v M k c hk hc, Option.bind_some, if_pos (inB_nI (by omega) (by omega)), nI_clamp (by omega), hM, Option.bind_some, if_pos (inB_nI (by omega) (by omega)), nI_clamp (by omega)]
  by_cases a : s (16 + 4 * c + k) < 0
  · rw [if_neg (Int32.not_le.mpr a), if_pos a]
  · rw [if_pos (Int32.not_lt.mp a), if_neg a]
theorem p114_v {M : BX4} {s : Nat → Int32} (hM : p4_s M = s) (k a b : Nat) (hk : a + k + b < 24) (x : Int32) (hx : (x - 3) / 2 = nI b) : fX4_plateOf_114 M (nI k) x (nI a) = some (s (a + k + b)) := by
  unfold fX4_plateOf_114
  rw [hx, nI_add, nI_add, if_pos (inB_nI (by omega) (by omega)), nI_clamp (by omega), hM]
theorem St_plateOf0 : St_plateOf Sim0 := by
  intro vX n pv vA vB vR vT vS vM i1 i2 h
  have hL := h.1
  obtain ⟨w, p, g1, g2, g3, g4, g5, g6, g7, g8⟩ := id h.2.1
  rcases plate_or2 hL g2 g5 i1 with ⟨a0, a1, a2⟩ | ⟨k, hk, rfl, a1, a2⟩
  · refine ⟨-1000001, -1000001, ?_, ?_, rfl, h⟩
    · unfold fX3_plateOf; rw [a1, Option.bind_some, if_pos rfl]
    · unfold fX4_plateOf; rw [a2 vM rfl, Option.bind_some, if_pos rfl]
  · have hk4 : k < 4 := by omega
    have e1 : inB (nI k) 4 = true := inB_nI hk4 (by omega)
    have e2 : inB (nI k) 5 = true := inB_nI (by omega) (by omega)
    have e3 : inB (nI (k + 1)) 5 = true := inB_nI (by omega) (by omega)
    have e4 : (nI k).toNatClampNeg = k := nI_clamp (by omega)
    have e5 : (nI (k + 1)).toNatClampNeg = k + 1 := nI_clamp (by omega)
    have e6 : (12 : Int32) + nI k = nI (12 + k) := nI_add 12 k
    have s0 := stopOf_v vA k 0 hk4 (by omega)
    rw [stops_c hL k 0 hk4 (by omega)] at s0
    have s1 := stopOf_v vA k 1 hk4 (by omega)
    rw [stops_c hL k 1 hk4 (by omega)] at s1
    have c0 := pof_v (p4_s vM (16 + 4 * 0 + k)) (g7 k hk).2.1.1
    have c1 := pof_v (p4_s vM (16 + 4 * 1 + k)) (g7 k hk).2.2.1
    have hX : ∃ y, fX3_plateOf vX vA (nI k) i2 = some y ∧ fX4_plateOf vM (nI k) i2 = some y := by
      unfold fX3_plateOf fX4_plateOf
      rw [a1, a2 vM rfl, Option.bind_some, Option.bind_some, if_neg (show ¬ (1 : Int32) = 0 from by decide), if_neg (show ¬ (1 : Int32) = 0 from by decide)]
      by_cases b0 : i2 = 0
      · subst b0
        refine ⟨p4_s vM (12 + k) + 1000, ?_, ?_⟩
        · rw [if_pos rfl, if_pos e1, e4, hL.2.2.2.2.1 k hk4]
        · rw [show fX4_in 0 0 6 = some 1 from by decide, Option.bind_some, if_neg (by decide), if_pos rfl, e6, if_pos (inB_nI (by omega) (by omega)), nI_clamp (by omega)]
      by_cases b1 : i2 = 1
      · subst b1
        refine ⟨if p4_s vM (16 + 4 * 0 + k) < 0 then -1000004 else p4_s vM (16 + 4 * 0 + k), ?_, ?_⟩
        · rw [if_neg (by decide), if_pos rfl]
          show (fX0_stopOf vA (nI k) (nI 0)).bind _ = _
          rw [s0, Option.bind_some, c0, Option.bind_some]
        · rw [show fX4_in 1 0 6 = some 1 from by decide, Option.bind_some, if_neg (by decide), if_neg (by decide), if_pos rfl]
          exact p62_v rfl k 0 hk4 (by omega) 1 rfl
      by_cases b2 : i2 = 2
      · subst b2
        refine ⟨if p4_s vM (16 + 4 * 1 + k) < 0 then -1000004 else p4_s vM (16 + 4 * 1 + k), ?_, ?_⟩
        · rw [if_neg (by decide), if_neg (by decide), if_pos rfl]
          show (fX0_stopOf vA (nI k) (nI 1)).bind _ = _
          rw [s1, Option.bind_some, c1, Option.bind_some]
        · rw [show fX4_in 2 0 6 = some 1 from by decide, Option.bind_some, if_neg (by decide), if_neg (by decide), if_neg (by decide), if_pos rfl]
          exact p62_v rfl k 1 hk4 (by omega) 2 rfl
      by_cases b3 : i2 = 3
      · subst b3
        refine ⟨p4_s vM (2 + k), ?_, ?_⟩
        · rw [if_neg (by decide), if_neg (by decide), if_neg (by decide), if_pos rfl, if_pos e2, e4, hL.2.2.1 k (by omega)]
        · rw [show fX4_in 3 0 6 = some 1 from by decide, Option.bind_some, if_neg (by decide), if_neg (by decide), if_neg (by decide), if_neg (by decide), if_pos (by decide)]
          exact p114_v rfl k 2 0 (by omega) 3 (by decide)
      by_cases b4 : i2 = 4
      · subst b4
        refine ⟨p4_s vM (7 + k), ?_, ?_⟩
        · rw [if_neg (by decide), if_neg (by decide), if_neg (by decide), if_neg (by decide), if_pos rfl, if_pos e2, e4, hL.2.2.2.1 k (by omega)]
        · rw [show fX4_in 4 0 6 = some 1 from by decide, Option.bind_some, if_neg (by decide), if_neg (by decide), if_neg (by decide), if_neg (by decide), if_neg (by decide)]
          exact p114_v rfl k 7 0 (by omega) 4 (by decide)
      by_cases b5 : i2 = 5
      · subst b5
        refine ⟨p4_s vM (2 + (k + 1)), ?_, ?_⟩
        · rw [if_neg (by decide), if_neg (by decide), if_neg (by decide), if_neg (by decide), if_neg (by decide), if_pos rfl, nI_1, if_pos e3, e5, hL.2.2.1 (k + 1) (by omega)]
        · rw [show fX4_in 5 0 6 = some 1 from by decide, Option.bind_some, if_neg (by decide), if_neg (by decide), if_neg (by decide), if_neg (by decide), if_pos (by decide)]
          exact p114_v rfl k 2 1 (by omega) 5 (by decide)
      by_cases b6 : i2 = 6
      · subst b6
        refine ⟨p4_s vM (7 + (k + 1)), ?_, ?_⟩
        · rw [if_neg (by decide), if_neg (by decide), if_neg (by decide), if_neg (by decide), if_neg (by decide), if_neg (by decide), if_pos rfl, nI_1, if_pos e3, e5, hL.2.2.2.1 (k + 1) (by omega)]
        · rw [show fX4_in 6 0 6 = some 1 from by decide, Option.bind_some, if_neg (by decide), if_neg (by decide), if_neg (by decide), if_neg (by decide), if_neg (by decide)]
          exact p114_v rfl k 7 1 (by omega) 6 (by decide)
      have b7 : fX4_in i2 0 6 = some 0 := by
        unfold fX4_in
        by_cases h1 : i2 < 0
        · exact if_pos h1
        · rw [if_neg h1]
          by_cases h2 : 6 < i2
          · exact if_pos h2
          · exfalso
            obtain ⟨v, hv, rfl⟩ := nI_of h1
            have h3 : v ≤ 6 := by
              rcases Nat.lt_or_ge 6 v with q | q
              · exact absurd (ltc q hv) h2
              · exact q
            rcases (show v = 0 ∨ v = 1 ∨ v = 2 ∨ v = 3 ∨ v = 4 ∨ v = 5 ∨ v = 6 by omega) with rfl | rfl | rfl | rfl | rfl | rfl | rfl
            · exact b0 rfl
            · exact b1 rfl
            · exact b2 rfl
            · exact b3 rfl
            · exact b4 rfl
            · exact b5 rfl
            · exact b6 rfl
      refine ⟨-1000001, ?_, ?_⟩
      · rw [if_neg b0, if_neg b1, if_neg b2, if_neg b3, if_neg b4, if_neg b5, if_neg b6]
      · rw [b7, Option.bind_some, if_pos rfl]
    obtain ⟨y, y1, y2⟩ := hX
    exact ⟨y, y, y1, y2, rfl, h⟩
/-! count -/
def stB (s : Nat → Int32) (a : Nat) : Int32 := if s a < 0 then 0 else 1
theorem cs_s {L : BX0} {s : Nat → Int32} {p : Nat} (h : LayEq L s) (hs : SaneS s p) (hp : s 1 = nI p) (hp4 : p ≤ 4) (n j : Nat) (hj : j < p) (x : Int32) : fX0_countStops_4 (n + 2) L x (nI (2 * j)) = fX0_countStops_4 n L (x + (stB s (16 + j) + stB s (20 + j))) (nI (2 * (j + 1))) := by
  have e1 : (2 : Int32) * nI p = nI (2 * p) := pk_mul 2 p
  have a1 : p0_stops L (2 * j) = s (16 + j) := h.2.2.2.2.2.1 j (by omega)
  have a2 : p0_stops L (2 * j + 1) = s (20 + j) := h.2.2.2.2.2.2 j (by omega)
  have one : ∀ (m i : Nat) (y : Int32) (a : Nat), i < 2 * p → p0_stops L i = s a → -1 ≤ (s a).toInt → fX0_countStops_4 (m + 1) L y (nI i) = fX0_countStops_4 m L (y + stB s a) (nI (i + 1)) := by
    intro m i y a hi ha hb
    show fX0_countStops_4_b (fX0_countStops_4 m) L y (nI i) = _
    unfold fX0_countStops_4_b fX0_countStops_27 stB
    rw [h.2.1, hp, e1, if_neg (nlec (by omega) (by omega)), if_pos (inB_nI (by omega) (by omega)), nI_clamp (by omega), ha, elet_eq, elet_eq, elet_eq, nI_1]
    by_cases c : s a < 0
    · rw [if_pos ((neg1 hb).mp c), if_pos c, Int32.add_zero]
    · rw [if_neg (fun d => c ((neg1 hb).mpr d)), if_neg c]
  rw [one (n + 1) (2 * j) x (16 + j) (by omega) a1 (hs j hj).1, one n (2 * j + 1) _ (20 + j) (by omega) a2 (hs j hj).2, Int32.add_assoc, show 2 * j + 1 + 1 = 2 * (j + 1) by omega]
theorem cs_e {L : BX0} {s : Nat → Int32} {p : Nat} (h : LayEq L s) (hp : s 1 = nI p) (hp4 : p ≤ 4) (n : Nat) (x : Int32) : fX0_countStops_4 (n + 1) L x (nI (2 * p)) = some x := by
  have e1 : (2 : Int32) * nI p = nI (2 * p) := pk_mul 2 p
  show fX0_countStops_4_b (fX0_countStops_4 n) L x (nI (2 * p)) = _
  unfold fX0_countStops_4_b
  rw [h.2.1, hp, e1, if_pos (lec (Nat.le_refl _) (by omega))]
theorem ct_s {M : BX4} {s : Nat → Int32} {p : Nat} (hM : p4_s M = s) (hp : s 1 = nI p) (hp4 : p ≤ 4) (n j : Nat) (hj : j < p) (x : Int32) : fX4_stops_4 (n + 1) M x (nI j) = fX4_stops_4 n M (x + (stB s (16 + j) + stB s (20 + j))) (nI (j + 1)) := by
  have e3 : (16 : Int32) + nI j = nI (16 + j) := nI_add 16 j
  have e4 : (20 : Int32) + nI j = nI (20 + j) := nI_add 20 j
  show fX4_stops_4_b (fX4_stops_4 n) M x (nI j) = _
  unfold fX4_stops_4_b fX4_stops_32 fX4_stops_49 stB
  rw [cl1, hM, hp, if_neg (nlec hj (by omega)), e3, e4, if_pos (inB_nI (by omega) (by omega)), if_pos (inB_nI (by omega) (by omega)), nI_clamp (by omega), nI_clamp (by omega)]
  simp only [elet_eq, nI_1]
  by_cases a : s (16 + j) < 0 <;> by_cases b : s (20 + j) < 0
  · rw [if_neg (Int32.not_le.mpr a), if_pos a, if_neg (Int32.not_le.mpr b), if_pos b, if_pos (inB_nI (by omega) (by omega))]
  · rw [if_neg (Int32.not_le.mpr a), if_pos a, if_pos (Int32.not_lt.mp b), if_neg b, if_pos (inB_nI (by omega) (by omega))]
  · rw [if_pos (Int32.not_lt.mp a), if_neg a, if_neg (Int32.not_le.mpr b), if_pos b]
  · rw [if_pos (Int32.not_lt.mp a), if_neg a, if_pos (Int32.not_lt.mp b), if_neg b]
theorem ct_e {M : BX4} {s : Nat → Int32} {p : Nat} (hM : p4_s M = s) (hp : s 1 = nI p) (hp4 : p ≤ 4) (n : Nat) (x : Int32) : fX4_stops_4 (n + 1) M x (nI p) = some x := by
  show fX4_stops_4_b (fX4_stops_4 n) M x (nI p) = _
  unfold fX4_stops_4_b
  rw [cl1, hM, hp, if_pos (lec (Nat.le_refl _) (by omega))]
theorem cs_all {L : BX0} {M : BX4} {s : Nat → Int32} {p : Nat} (h : LayEq L s) (hM : p4_s M = s) (hs : SaneS s p) (hp : s 1 = nI p) (hp4 : p ≤ 4) : ∀ d j, j + d = p → ∀ (x : Int32) (n m : Nat), ∃ y, fX0_countStops_4 (n + 2 * d + 1) L x (nI (2 * j)) = some y ∧ fX4_stops_4 (m + d + 1) M x (nI j) = some y := by
  intro d
  induction d with
  | zero =>
    intro j hj x n m
    obtain rfl : j = p := by omega
    exact ⟨x, cs_e h hp hp4 _ x, ct_e hM hp hp4 _ x⟩
  | succ d ih =>
    intro j hj x n m
    rw [show n + 2 * (d + 1) + 1 = (n + 2 * d + 1) + 2 by omega, show m + (d + 1) + 1 = (m + d + 1) + 1 by omega, cs_s h hs hp hp4 _ j (by omega) x, ct_s hM hp hp4 _ j (by omega) x]
    exact ih (j + 1) (by omega) _ n m
/-- the sum of loads from j to e, over the loop's own adding -/
def sumF (s : Nat → Int32) : Nat → Nat → Int32 → Int32
  | _, 0, x => x
  | j, d + 1, x => sumF s (j + 1) d (x + s (12 + j))
theorem sl_all {L : BX0} {s : Nat → Int32} (h : LayEq L s) (y : Int32) (e : Nat) (he : e ≤ 4) (hy : y.toInt = (e : Int) - 1) : ∀ d j, j + d = e → ∀ (x : Int32) (n : Nat), fX0_sumOfLoads_5 (n + d + 1) L y x (nI j) = some (sumF s j d x) := by
  intro d
  induction d with
  | zero =>
    intro j hj x n
    obtain rfl : j = e := by omega
    show fX0_sumOfLoads_5_b (fX0_sumOfLoads_5 (n + 0)) L y x (nI j) = _
    unfold fX0_sumOfLoads_5_b
    rw [if_pos (by rw [i_lt, hy, nI_toInt (by omega)]; omega)]
    rfl
  | succ d ih =>
    intro j hj x n
    show fX0_sumOfLoads_5_b (fX0_sumOfLoads_5 (n + d + 1)) L y x (nI j) = _
    unfold fX0_sumOfLoads_5_b
    rw [if_neg (by rw [i_lt, hy, nI_toInt (by omega)]; omega), if_pos (inB_nI (by omega) (by omega)), nI_clamp (by omega), h.2.2.2.2.1 j (by omega), elet_eq, elet_eq, nI_1]
    exact ih (j + 1) (by omega) _ n
theorem ll_all {M : BX4} {s : Nat → Int32} {p : Nat} (hM : p4_s M = s) (hp : s 1 = nI p) (hp4 : p ≤ 4) : ∀ d j, j + d = p → ∀ (x : Int32) (n : Nat), fX4_loads_4 (n + d + 1) M x (nI j) = some (sumF s j d x) := by
  intro d
  induction d with
  | zero =>
    intro j hj x n
    obtain rfl : j = p := by omega
    show fX4_loads_4_b (fX4_loads_4 (n + 0)) M x (nI j) = _
    unfold fX4_loads_4_b
    rw [cl1, hM, hp, if_pos (lec (Nat.le_refl _) (by omega))]
    rfl
  | succ d ih =>
    intro j hj x n
    have e3 : (12 : Int32) + nI j = nI (12 + j) := nI_add 12 j
    show fX4_loads_4_b (fX4_loads_4 (n + d + 1)) M x (nI j) = _
    unfold fX4_loads_4_b
    rw [cl1, hM, hp, if_neg (nlec (by omega) (by omega)), e3, if_pos (inB_nI (by omega) (by omega)), nI_clamp (by omega), elet_eq, elet_eq, nI_1]
    exact ih (j + 1) (by omega) _ n
theorem St_count0 : St_count Sim0 := by
  intro vX n pv vA vB vR vT vS vM i1 h
  have hL := h.1
  obtain ⟨w, p, g1, g2, g3, g4, g5, g6, g7, g8⟩ := id h.2.1
  obtain ⟨h3, -, -, h4, h5, -⟩ := id h.2.2.1
  obtain ⟨t, -, h6, h7, -⟩ := id h.2.2.2.1
  have hS : SaneS (p4_s vM) p := fun k hk => ⟨(g7 k hk).2.1.1, (g7 k hk).2.2.1⟩
  have hX : ∃ y, fX3_count vX vA vS i1 = some y ∧ fX4_count vM i1 = some y := by
    obtain ⟨F, hF⟩ := FU_ex (2 * p + 1) (by omega)
    obtain ⟨F1, hF1⟩ := FU_ex (p + 1) (by omega)
    obtain ⟨y, y1, y2⟩ := cs_all hL (M := vM) rfl hS g2 g5 p 0 (by omega) 0 F F1
    have c1 : fX0_countStops vA = some y := by unfold fX0_countStops; rw [hF]; exact y1
    have c2 : fX4_stops vM = some y := by unfold fX4_stops; rw [hF1]; exact y2
    have c3 : fX0_sumOfLoads vA 0 (p0_plates vA - 1) = some (sumF (p4_s vM) 0 p 0) := by
      unfold fX0_sumOfLoads
      rw [hF1]
      refine sl_all hL _ p g5 ?_ p 0 (by omega) 0 F1
      rw [hL.2.1, g2]
      exact pk_sub_toInt (a := p) (b := 1) (by omega) (by omega)
    have c4 : fX4_loads vM = some (sumF (p4_s vM) 0 p 0) := by
      unfold fX4_loads
      rw [hF1]
      exact ll_all rfl g2 g5 p 0 (by omega) 0 F1
    clear hF hF1 y1 y2
    unfold fX3_count fX4_count
    rw [c1, c2, c3, c4]
    simp only [Option.bind_some]
    rw [cl0, cl1, hL.1, hL.2.1, h4.trans h5.symm, h6.trans h7.symm]
    by_cases z0 : i1 = 0
    · simp only [if_pos z0]; exact ⟨_, rfl, rfl⟩
    simp only [if_neg z0]
    by_cases z1 : i1 = 1
    · simp only [if_pos z1]; exact ⟨_, rfl, rfl⟩
    simp only [if_neg z1]
    by_cases z2 : i1 = 2
    · simp only [if_pos z2]; exact ⟨_, rfl, rfl⟩
    simp only [if_neg z2]
    by_cases z3 : i1 = 3
    · simp only [if_pos z3]; exact ⟨_, rfl, rfl⟩
    simp only [if_neg z3]
    by_cases z4 : i1 = 4
    · simp only [if_pos z4]; exact ⟨_, rfl, rfl⟩
    simp only [if_neg z4]
    by_cases z5 : i1 = 5
    · simp only [if_pos z5]; exact ⟨_, rfl, rfl⟩
    simp only [if_neg z5]
    exact ⟨_, rfl, rfl⟩
  obtain ⟨y, y1, y2⟩ := hX
  exact ⟨y, y, y1, y2, rfl, h⟩
/-! undo -/
theorem ud_all {M : BX4} {P : Nat → Int32} {h : Nat} (h4 : h < 4) (hp : p4_pasts M = nI h) (hP : p4_past M = P) : ∀ d j, j + d = 24 → ∀ (n : Nat) (S : Nat → Int32), (∀ q, q < j → S q = P (24 * h + q)) → ∃ S1, fX4_undo_22 (n + d + 1) (s4_s M S) (nI j) = some (nI h, s4_s M S1) ∧ ∀ q, q < 24 → S1 q = P (24 * h + q) := by
  intro d
  induction d with
  | zero =>
    intro j hj n S hS
    obtain rfl : j = 24 := by omega
    refine ⟨S, ?_, hS⟩
    show fX4_undo_22_b (fX4_undo_22 (n + 0)) (s4_s M S) (nI 24) = _
    unfold fX4_undo_22_b
    rw [if_pos (by decide), gs4_pasts_s, hp]
  | succ d ih =>
    intro j hj n S hS
    have e1 : (24 : Int32) * nI h = nI (24 * h) := pk_mul 24 h
    have a1 : ¬ (24 : Int32) ≤ nI j := nlec (b := j) (a := 24) (by omega) (by omega)
    obtain ⟨S1, r1, r2⟩ := ih (j + 1) (by omega) n (upd S j (P (24 * h + j))) (fun q hq => by
      by_cases e : q = j
      · subst e; rw [pk_us]
      · rw [pk_un e]; exact hS q (by omega))
    refine ⟨S1, ?_, r2⟩
    show fX4_undo_22_b (fX4_undo_22 (n + d + 1)) (s4_s M S) (nI j) = _
    unfold fX4_undo_22_b
    rw [if_neg a1, gs4_pasts_s, hp, e1, nI_add, if_pos (inB_nI (by omega) (by omega)), if_pos (inB_nI (by omega) (by omega)), nI_clamp (by omega), nI_clamp (by omega), elet_eq, elet_eq, nI_1, gs4_s_s, gs4_past_s, hP, s4ss]
    exact r1
theorem undo_c (vX : BX3) (n : Nat) (pv : Nat → BX0) (vA : BX0) (h : Nat) (h4 : h < 4) (hn : h + 1 ≤ n) (hs : p3_states vX = nI (h + 1)) : fX3_undo vX n pv vA = some (nI h, s3_restKnown (s3_states vX (nI h)) 0, cfV vA (pv h)) := by
  unfold fX3_undo
  rw [hs]
  rcases (show h = 0 ∨ h = 1 ∨ h = 2 ∨ h = 3 by omega) with rfl | rfl | rfl | rfl
  · rw [if_neg (by decide), if_pos ⟨by decide, hn⟩, copyFrom_v, Option.bind_some]; rfl
  · rw [if_neg (by decide), if_neg (fun q => absurd q.1 (by decide)), if_pos ⟨by decide, hn⟩, copyFrom_v, Option.bind_some]; rfl
  · rw [if_neg (by decide), if_neg (fun q => absurd q.1 (by decide)), if_neg (fun q => absurd q.1 (by decide)), if_pos ⟨by decide, hn⟩, copyFrom_v, Option.bind_some]; rfl
  · rw [if_neg (by decide), if_neg (fun q => absurd q.1 (by decide)), if_neg (fun q => absurd q.1 (by decide)), if_neg (fun q => absurd q.1 (by decide)), if_pos ⟨by decide, hn⟩, copyFrom_v, Option.bind_some]; rfl
theorem St_undo0 : St_undo Sim0 := by
  intro vX n pv vA vB vR vT vS vM hh
  obtain ⟨hL, hG, ⟨h, b1, b2, b3, b4, b5⟩, hT, hr, hk⟩ := id hh
  by_cases h0 : h = 0
  · subst h0
    refine ⟨(-1000002, vX, vA), (-1000002, vM), ?_, ?_, rfl, hh⟩
    · unfold fX3_undo; rw [if_pos (show p3_states vX = 0 from b3)]
    · unfold fX4_undo
      generalize FU = F
      rw [if_pos (show p4_pasts vM = 0 from b4)]
  · obtain ⟨h, rfl⟩ : ∃ k, h = k + 1 := ⟨h - 1, by omega⟩
    obtain ⟨F, hF⟩ := FU_ex 25 (by omega)
    obtain ⟨S1, r1, r2⟩ := ud_all (M := s4_pasts vM (nI h)) (P := p4_past vM) (h := h) (by omega) rfl rfl 24 0 (by omega) F (p4_s vM) (fun q hq => absurd hq (by omega))
    have r0 : fX4_undo vM = some (nI h, s4_s (s4_pasts vM (nI h)) S1) := by
      have e : fX4_undo vM = fX4_undo_22 FU (s4_pasts vM (nI h)) (nI 0) := by
        unfold fX4_undo
        generalize FU = F
        rw [b4, if_neg (nI_ne0 (by omega) (by omega)), elet_eq, nI_pred]
        rfl
      rw [e, hF]
      exact r1
    clear hF
    refine ⟨_, _, undo_c vX n pv vA h (by omega) (by omega) b3, r0, rfl, ?_⟩
    obtain ⟨q1, q2⟩ := b5 h (by omega)
    have e9 : ∀ q, q < 24 → p4_s (s4_s (s4_pasts vM (nI h)) S1) q = (fun k => p4_past vM (24 * h + k)) q := r2
    refine ⟨layEq_of (cfV_lay q1) e9, good_of q2 e9, ⟨h, by omega, b2, rfl, rfl, fun i hi => b5 i (by omega)⟩, hT, hr, Or.inl rfl⟩
