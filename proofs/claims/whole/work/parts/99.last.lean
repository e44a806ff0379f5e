/-- what changes() leaves: the history with what stood, the oldest gone if it was full -/
theorem changes_n (M : BX4) (h : Nat) (h4 : h < 4) (hp : p4_pasts M = nI h) (hr : p4_runs M = 0) : ∃ P, fX4_changes M = some (s4_pasts (s4_past M P) (nI (h + 1))) ∧ (∀ i k, i < h → k < 24 → P (24 * i + k) = p4_past M (24 * i + k)) ∧ ∀ k, k < 24 → P (24 * h + k) = p4_s M k := by
  have c1 : ¬ p4_pasts M = (4 : Int32) := by
    rw [hp]
    exact fun e => absurd ((nI_eq (a := h) (b := 4) (by omega) (by omega)).mp e) (by omega)
  obtain ⟨P, h1, h2⟩ := ch57_FU h h4 M hp
  refine ⟨P, (ch_0 M hr c1).trans h1, fun i k hi hk => ?_, fun k hk => ?_⟩
  · rw [h2, if_neg (by omega)]
  · rw [h2, if_pos (by omega), Nat.add_sub_cancel_left]
theorem changes_f (M : BX4) (hp : p4_pasts M = nI 4) (hr : p4_runs M = 0) : ∃ P, fX4_changes M = some (s4_pasts (s4_past M P) (nI 4)) ∧ (∀ i k, i < 3 → k < 24 → P (24 * i + k) = p4_past M (24 * (i + 1) + k)) ∧ ∀ k, k < 24 → P (24 * 3 + k) = p4_s M k := by
  obtain ⟨P, h1, h2⟩ := ch18_FU M hp
  obtain ⟨P2, h3, h5⟩ := ch57_FU 3 (by omega) (s4_pasts (s4_past M P) (nI 3)) (gs4_pasts_pasts _ _)
  have e : s4_pasts (s4_past (s4_pasts (s4_past M P) (nI 3)) P2) (nI (3 + 1)) = s4_pasts (s4_past M P2) (nI 4) := by rw [s4xp, s4pp, s4xx]
  refine ⟨P2, ?_, fun i k hi hk => ?_, fun k hk => ?_⟩
  · rw [ch_4 M hr hp, h1, ch55_0, h3, e]
  · rw [h5, if_neg (by omega), gs4_past_pasts, gs4_past_past, h2, if_pos (by omega), show 24 * i + k + 24 = 24 * (i + 1) + k by omega]
  · rw [h5, if_pos (by omega), Nat.add_sub_cancel_left, gs4_s_pasts, gs4_s_past]
