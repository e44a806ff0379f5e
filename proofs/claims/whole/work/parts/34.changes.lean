/-! the reference's changes() -/
theorem s4pp (M : BX4) (a b : Nat → Int32) : s4_past (s4_past M a) b = s4_past M b := rfl
theorem s4ps (M : BX4) : s4_past M (p4_past M) = M := rfl
theorem s4xp (M : BX4) (a : Nat → Int32) (z : Int32) : s4_past (s4_pasts M z) a = s4_pasts (s4_past M a) z := rfl
theorem s4xx (M : BX4) (y z : Int32) : s4_pasts (s4_pasts M y) z = s4_pasts M z := rfl
theorem ch57_e (n : Nat) (M : BX4) (h : Nat) (hp : p4_pasts M = nI h) : fX4_changes_57 (n + 1) M (nI 24) = some (s4_pasts M (nI (h + 1))) := by
  show fX4_changes_57_b (fX4_changes_57 n) M (nI 24) = _
  have h1 : (24 : Int32) ≤ nI 24 := show nI 24 ≤ nI 24 from lec (by omega) (by omega)
  simp only [fX4_changes_57_b, h1, if_true, elet_eq, hp, nI_1]
theorem ch57_s (n : Nat) (M : BX4) (h j : Nat) (hh : h < 4) (hj : j < 24) (hp : p4_pasts M = nI h) : fX4_changes_57 (n + 1) M (nI j) = fX4_changes_57 n (s4_past M (upd (p4_past M) (24 * h + j) (p4_s M j))) (nI (j + 1)) := by
  show fX4_changes_57_b (fX4_changes_57 n) M (nI j) = _
  have h1 : ¬ (24 : Int32) ≤ nI j := show ¬ nI 24 ≤ nI j from nlec (by omega) (by omega)
  have e1 : (24 : Int32) * nI h + nI j = nI (24 * h + j) := by rw [show (24 : Int32) * nI h = nI (24 * h) from pk_mul 24 h, nI_add]
  have h2 : inB (nI j) 24 = true := inB_nI hj (by omega)
  have h3 : inB (nI (24 * h + j)) 96 = true := inB_nI (by omega) (by omega)
  have c1 : (nI j).toNatClampNeg = j := nI_clamp (by omega)
  have c2 : (nI (24 * h + j)).toNatClampNeg = 24 * h + j := nI_clamp (by omega)
  simp only [fX4_changes_57_b, h1, if_false, if_true, hp, e1, h2, h3, c1, c2, elet_eq, nI_1]
theorem ch57 (h : Nat) (hh : h < 4) : ∀ d j, j + d = 24 → ∀ n, d < n → ∀ M, p4_pasts M = nI h → ∃ P, fX4_changes_57 n M (nI j) = some (s4_pasts (s4_past M P) (nI (h + 1))) ∧ ∀ q, P q = if 24 * h + j ≤ q ∧ q < 24 * h + 24 then p4_s M (q - 24 * h) else p4_past M q := by
  intro d
  induction d with
  | zero =>
    intro j hj n hn M hp
    obtain rfl : j = 24 := by omega
    obtain ⟨m, rfl⟩ : ∃ m, n = m + 1 := ⟨n - 1, by omega⟩
    refine ⟨p4_past M, by rw [s4ps]; exact ch57_e m M h hp, fun q => ?_⟩
    rw [if_neg (by omega)]
  | succ d ih =>
    intro j hj n hn M hp
    obtain ⟨m, rfl⟩ : ∃ m, n = m + 1 := ⟨n - 1, by omega⟩
    obtain ⟨P, h1, h2⟩ := ih (j + 1) (by omega) m (by omega) (s4_past M (upd (p4_past M) (24 * h + j) (p4_s M j))) hp
    refine ⟨P, by rw [ch57_s m M h j hh (by omega) hp, h1, s4pp], fun q => ?_⟩
    rw [h2 q]
    show (if 24 * h + (j + 1) ≤ q ∧ q < 24 * h + 24 then p4_s M (q - 24 * h) else upd (p4_past M) (24 * h + j) (p4_s M j) q) = _
    by_cases e : q = 24 * h + j
    · subst e
      rw [if_neg (by omega), if_pos (by omega), pk_us, Nat.add_sub_cancel_left]
    · rw [pk_un e]
      by_cases e2 : 24 * h + (j + 1) ≤ q ∧ q < 24 * h + 24
      · rw [if_pos e2, if_pos (by omega)]
      · rw [if_neg e2, if_neg (by omega)]
theorem ch18_u (n : Nat) (M : BX4) (x : Int32) : fX4_changes_18 (n + 1) M x = fX4_changes_18_b (fX4_changes_18 n) M x := rfl
theorem ch18_w (k : BX4 → Int32 → Option BX4) (M : BX4) (x : Int32) (h1 : (24 * 3 : Int32) ≤ x) (h2 : (72 : Int32) = 24 * 3) : fX4_changes_18_b k M x = fX4_changes_55 (s4_pasts M (p4_pasts M - 1)) := by
  unfold fX4_changes_18_b
  rw [h2, if_pos h1, elet_eq]
theorem ch18_e (n : Nat) (M : BX4) (hp : p4_pasts M = nI 4) : fX4_changes_18 (n + 1) M (nI 72) = fX4_changes_55 (s4_pasts M (nI 3)) := by
  have h1 : (24 * 3 : Int32) ≤ nI 72 := by decide
  have h2 : nI 4 - 1 = nI 3 := nI_pred 3
  rw [ch18_u, ch18_w _ _ _ h1 (by decide), hp, h2]
theorem ch18_s (n : Nat) (M : BX4) (j : Nat) (hj : j < 72) : fX4_changes_18 (n + 1) M (nI j) = fX4_changes_18 n (s4_past M (upd (p4_past M) j (p4_past M (j + 24)))) (nI (j + 1)) := by
  show fX4_changes_18_b (fX4_changes_18 n) M (nI j) = _
  have h1 : ¬ (72 : Int32) ≤ nI j := show ¬ nI 72 ≤ nI j from nlec (by omega) (by omega)
  have e1 : nI j + (24 : Int32) = nI (j + 24) := nI_add j 24
  have h2 : inB (nI (j + 24)) 96 = true := inB_nI (by omega) (by omega)
  have h3 : inB (nI j) 96 = true := inB_nI (by omega) (by omega)
  have c1 : (nI j).toNatClampNeg = j := nI_clamp (by omega)
  have c2 : (nI (j + 24)).toNatClampNeg = j + 24 := nI_clamp (by omega)
  simp only [fX4_changes_18_b, h1, if_false, if_true, e1, h2, h3, c1, c2, elet_eq, nI_1]
theorem ch18 : ∀ d j, j + d = 72 → ∀ n, d < n → ∀ M, p4_pasts M = nI 4 → ∃ P, fX4_changes_18 n M (nI j) = fX4_changes_55 (s4_pasts (s4_past M P) (nI 3)) ∧ ∀ q, P q = if j ≤ q ∧ q < 72 then p4_past M (q + 24) else p4_past M q := by
  intro d
  induction d with
  | zero =>
    intro j hj n hn M hp
    obtain rfl : j = 72 := by omega
    obtain ⟨m, rfl⟩ : ∃ m, n = m + 1 := ⟨n - 1, by omega⟩
    refine ⟨p4_past M, by rw [s4ps]; exact ch18_e m M hp, fun q => ?_⟩
    rw [if_neg (by omega)]
  | succ d ih =>
    intro j hj n hn M hp
    obtain ⟨m, rfl⟩ : ∃ m, n = m + 1 := ⟨n - 1, by omega⟩
    obtain ⟨P, h1, h2⟩ := ih (j + 1) (by omega) m (by omega) (s4_past M (upd (p4_past M) j (p4_past M (j + 24)))) hp
    refine ⟨P, by rw [ch18_s m M j (by omega), h1, s4pp], fun q => ?_⟩
    rw [h2 q]
    show (if j + 1 ≤ q ∧ q < 72 then upd (p4_past M) j (p4_past M (j + 24)) (q + 24) else upd (p4_past M) j (p4_past M (j + 24)) q) = _
    by_cases e : q = j
    · subst e
      rw [if_neg (by omega), if_pos (by omega), pk_us]
    · rw [pk_un e]
      by_cases e2 : j + 1 ≤ q ∧ q < 72
      · rw [if_pos e2, if_pos (by omega), pk_un (by omega)]
      · rw [if_neg e2, if_neg (by omega)]
theorem ch_0 (M : BX4) (hr : p4_runs M = 0) (hp : ¬ p4_pasts M = 4) : fX4_changes M = fX4_changes_57 FU M (nI 0) := by
  unfold fX4_changes fX4_changes_55
  generalize FU = F
  rw [if_pos hr, if_neg hp]
  rfl
theorem ch_4 (M : BX4) (hr : p4_runs M = 0) (hp : p4_pasts M = 4) : fX4_changes M = fX4_changes_18 FU M (nI 0) := by
  unfold fX4_changes
  generalize FU = F
  rw [if_pos hr, if_pos hp]
  rfl
theorem ch55_0 (M : BX4) : fX4_changes_55 M = fX4_changes_57 FU M (nI 0) := by
  unfold fX4_changes_55
  generalize FU = F
  rfl
theorem ch57_FU (h : Nat) (hh : h < 4) (M : BX4) (hp : p4_pasts M = nI h) : ∃ P, fX4_changes_57 FU M (nI 0) = some (s4_pasts (s4_past M P) (nI (h + 1))) ∧ ∀ q, P q = if 24 * h ≤ q ∧ q < 24 * h + 24 then p4_s M (q - 24 * h) else p4_past M q := by
  obtain ⟨n, hn⟩ := FU_ex 25 (by omega)
  generalize FU = F at hn
  subst hn
  exact ch57 h hh 24 0 rfl (n + 25) (Nat.lt_of_lt_of_le (Nat.lt_succ_self 24) (Nat.le_add_left 25 n)) M hp
theorem ch18_FU (M : BX4) (hp : p4_pasts M = nI 4) : ∃ P, fX4_changes_18 FU M (nI 0) = fX4_changes_55 (s4_pasts (s4_past M P) (nI 3)) ∧ ∀ q, P q = if 0 ≤ q ∧ q < 72 then p4_past M (q + 24) else p4_past M q := by
  obtain ⟨n, hn⟩ := FU_ex 73 (by omega)
  generalize hk : fX4_changes_55 = k
  generalize FU = F at hn
  subst hn
  subst hk
  exact ch18 72 0 rfl (n + 73) (Nat.lt_of_lt_of_le (Nat.lt_succ_self 72) (Nat.le_add_left 73 n)) M hp
/-- what changes() leaves: the history with what stood, the oldest gone if it was full -/
theorem changes_n (M : BX4) (h : Nat) (h4 : h < 4) (hp : p4_pasts M = nI h) (hr : p4_runs M = 0) : ∃ P, fX4_changes M = some (s4_pasts (s4_past M P) (nI (h + 1))) ∧ (∀ i k, i < h → k < 24 → P (24 * i + k) = p4_past M (24 * i + k)) ∧ ∀ k, k < 24 → P (24 * h + k) = p4_s M k := by
  have c1 : ¬ p4_pasts M = (4 : Int32) := by
    rw [hp]
    exact fun e => absurd ((nI_eq (a := h) (b := 4) (by omega) (by omega)).mp e) (by omega)
  obtain ⟨P, h1, h2⟩ := ch57_FU h h4 M hp
  refine ⟨P, (ch_0 M hr c1).trans h1, fun i k hi hk => ?_, fun k hk => ?_⟩
  · rw [h2, if_neg (by omega)]
  · rw [h2, if_pos (by omega), Nat.add_sub_cancel_left]
theorem changes_f (M : BX4) (hp : p4_pasts M = nI 4) (hr : p4_runs M = 0) : ∃ P, fX4_changes M = some (s4_pasts (s4_past M P) (nI 4)) ∧ (∀ i k, i < 3 → k < 24 → P (24 * i + k) = p4_past M (24 * (i + 1) + k)) ∧ ∀ k, k < 24 → P (24 * 3 + k) = p4_s M k := by
  obtain ⟨P, h1, h2⟩ := ch18_FU M hp
  obtain ⟨P2, h3, h5⟩ := ch57_FU 3 (by omega) (s4_pasts (s4_past M P) (nI 3)) (gs4_pasts_pasts _ _)
  have e : s4_pasts (s4_past (s4_pasts (s4_past M P) (nI 3)) P2) (nI (3 + 1)) = s4_pasts (s4_past M P2) (nI 4) := by rw [s4xp, s4pp, s4xx]
  refine ⟨P2, ?_, fun i k hi hk => ?_, fun k hk => ?_⟩
  · rw [ch_4 M hr hp, h1, ch55_0, h3, e]
  · rw [h5, if_neg (by omega), gs4_past_pasts, gs4_past_past, h2, if_pos (by omega), show 24 * i + k + 24 = 24 * (i + 1) + k by omega]
  · rw [h5, if_pos (by omega), Nat.add_sub_cancel_left, gs4_s_pasts, gs4_s_past]
