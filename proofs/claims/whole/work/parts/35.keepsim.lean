/-! layouts and bounds speak of the first 24 places alone -/
theorem layEq_of {L : BX0} {s s1 : Nat → Int32} (h : LayEq L s) (e : ∀ q, q < 24 → s1 q = s q) : LayEq L s1 := by
  obtain ⟨h1, h2, h3, h4, h5, h6, h7⟩ := h
  exact ⟨h1.trans (e 0 (by omega)).symm, h2.trans (e 1 (by omega)).symm, fun k hk => (h3 k hk).trans (e _ (by omega)).symm, fun k hk => (h4 k hk).trans (e _ (by omega)).symm, fun k hk => (h5 k hk).trans (e _ (by omega)).symm, fun k hk => (h6 k hk).trans (e _ (by omega)).symm, fun k hk => (h7 k hk).trans (e _ (by omega)).symm⟩
theorem good_of {s s1 : Nat → Int32} (h : Good s) (e : ∀ q, q < 24 → s1 q = s q) : Good s1 := by
  obtain ⟨w, p, h1, h2, h3, h4, h5, h6, h7, h8⟩ := h
  refine ⟨w, p, (e 0 (by omega)).trans h1, (e 1 (by omega)).trans h2, h3, h4, h5, fun k hk => ?_, fun k hk => ?_, fun i j hij hj => ?_⟩
  · rw [e (2 + k) (by omega), e (7 + k) (by omega)]; exact h6 k hk
  · rw [e (12 + k) (by omega), e (16 + k) (by omega), e (20 + k) (by omega)]; exact h7 k hk
  · have := h8 i j hij hj
    unfold lowB highB at this ⊢
    rw [e (16 + i) (by omega), e (20 + j) (by omega), e 0 (by omega)]
    exact this
/-! the class's history -/
theorem pns_ex (L : BX0) : ∃ y, fX0_putNewSpring L 0 = some y := by
  have hb : inB (0 : Int32) 5 = true := by decide
  unfold fX0_putNewSpring
  simp only [hb, if_true, elet_eq]
  exact ⟨_, rfl⟩
theorem init0_ex : ∃ y, fX0_init = some y := by
  unfold fX0_init
  rw [elet_eq]
  obtain ⟨y, hy⟩ := pns_ex (60, 0, (fun _ => 0), (fun _ => 0), (fun _ => 0), (fun _ => 0))
  exact ⟨y, by rw [hy, Option.bind_some]⟩
theorem rs_at_v (vX : BX3) (n : Nat) (pv : Nat → BX0) (vA : BX0) (i : Nat) (hi : i < 4) (hin : i ≤ n) (hn : n ≤ 4) : ∃ n1 Z, rs_at vX n pv vA i = some (s3_states vX (p3_states vX + 1), n1, updP pv i (cfV Z vA)) ∧ i < n1 ∧ n1 ≤ 4 := by
  unfold rs_at
  by_cases h : i < n
  · exact ⟨n, pv i, by rw [if_pos h, copyFrom_v, Option.bind_some], h, hn⟩
  · have e : i = n := by omega
    obtain ⟨y, hy⟩ := init0_ex
    exact ⟨n + 1, y, by rw [if_neg h, if_pos e, hy, Option.bind_some, copyFrom_v, Option.bind_some], by omega, by omega⟩
theorem record_n (vX : BX3) (n : Nat) (pv : Nat → BX0) (vA : BX0) (h : Nat) (h4 : h < 4) (hhn : h ≤ n) (hn : n ≤ 4) (hs : p3_states vX = nI h) : ∃ n1 Z, fX3_recordState vX n pv vA = some (s3_states vX (nI (h + 1)), n1, updP pv h (cfV Z vA)) ∧ h < n1 ∧ n1 ≤ 4 := by
  obtain ⟨n1, Z, h1, h2, h3⟩ := rs_at_v vX n pv vA h h4 hhn hn
  rw [hs, nI_1] at h1
  refine ⟨n1, Z, ?_, h2, h3⟩
  rw [← h1]
  unfold fX3_recordState
  rw [hs]
  rcases (show h = 0 ∨ h = 1 ∨ h = 2 ∨ h = 3 by omega) with rfl | rfl | rfl | rfl
  · rw [if_neg (by decide), if_neg (by decide), if_neg (by decide), if_neg (by decide), if_pos (by decide)]
  · rw [if_neg (by decide), if_neg (by decide), if_neg (by decide), if_pos (by decide)]
  · rw [if_neg (by decide), if_neg (by decide), if_pos (by decide)]
  · rw [if_neg (by decide), if_pos (by decide)]
theorem record_f (vX : BX3) (pv : Nat → BX0) (vA : BX0) (hs : p3_states vX = nI 4) : ∃ n1 Z, fX3_recordState vX 4 pv vA = some (s3_states vX (nI 4), n1, updP (rotP pv) 3 (cfV Z vA)) ∧ 3 < n1 ∧ n1 ≤ 4 := by
  obtain ⟨n1, Z, h1, h2, h3⟩ := rs_at_v (s3_states vX 3) 4 (rotP pv) vA 3 (by omega) (by omega) (by omega)
  refine ⟨n1, Z, ?_, h2, h3⟩
  unfold fX3_recordState
  rw [hs, if_pos (by decide), if_pos rfl, h1, gs3_states_states]
  rfl
theorem keep_e (vX : BX3) (n : Nat) (pv : Nat → BX0) (vA vB : BX0) (i : Int32) (hi : ¬ (-1000001 : Int32) < i) : fX3_keep vX n pv vA vB i = some (i, vX, n, pv, vA) := by
  unfold fX3_keep fX3_isError
  rw [if_neg hi, Option.bind_some, if_neg (by decide)]
/-- a change that is kept, beside changes() of the reference: the history goes on alike -/
theorem keep_sim {vX : BX3} {n : Nat} {pv : Nat → BX0} {vA vB : BX0} {vR vT : BX1} {vS : BX2} {vM : BX4} (h : Sim0 vX n pv vA vB vR vT vS vM) (vB1 : BX0) (s1 : Nat → Int32) (ans : Int32) (ha : (-1000001 : Int32) < ans) (hB : LayEq vB1 s1) (hG1 : Good s1) : ∃ y M1, fX3_keep vX n pv vA vB1 ans = some y ∧ y.1 = ans ∧ fX4_changes vM = some M1 ∧ p4_s M1 = p4_s vM ∧ ∀ B, Sim0 y.2.1 y.2.2.1 y.2.2.2.1 y.2.2.2.2 B vR vT vS (s4_s M1 s1) := by
  obtain ⟨hL, hG, ⟨k, hkn, hn, hs, hp, hh⟩, hT, hr, -⟩ := h
  have hk : ∀ (X1 : BX3) (n1 : Nat) (p1 : Nat → BX0), fX3_recordState vX n pv vA = some (X1, n1, p1) → fX3_keep vX n pv vA vB1 ans = some (ans, s3_restKnown X1 0, n1, p1, cfV vA vB1) := by
    intro X1 n1 p1 e
    unfold fX3_keep fX3_isError
    rw [if_pos ha, Option.bind_some, if_pos rfl, e, Option.bind_some, copyFrom_v, Option.bind_some, elet_eq]
  by_cases h4 : k < 4
  · obtain ⟨n1, Z, e1, e2, e3⟩ := record_n vX n pv vA k h4 hkn hn hs
    obtain ⟨P, g1, g2, g3⟩ := changes_n vM k h4 hp hr
    refine ⟨_, _, hk _ _ _ e1, rfl, g1, ?_, fun B => ?_⟩
    · rw [gs4_s_pasts, gs4_s_past]
    · refine ⟨cfV_lay hB, hG1, ⟨k + 1, e2, e3, ?_, ?_, fun i hi => ?_⟩, ?_, ?_, Or.inl ?_⟩
      · rw [gs3_states_restKnown, gs3_states_states]
      · rw [gs4_pasts_s, gs4_pasts_pasts]
      · rw [gs4_past_s, gs4_past_pasts, gs4_past_past]
        by_cases ei : i = k
        · subst ei
          have e9 : ∀ q, q < 24 → P (24 * i + q) = p4_s vM q := g3
          show LayEq (updP pv i (cfV Z vA) i) _ ∧ _
          rw [show updP pv i (cfV Z vA) i = cfV Z vA from if_pos rfl]
          exact ⟨cfV_lay (layEq_of hL e9), good_of hG e9⟩
        · have hik : i < k := by omega
          show LayEq (updP pv k (cfV Z vA) i) _ ∧ _
          rw [show updP pv k (cfV Z vA) i = pv i from if_neg ei]
          obtain ⟨q1, q2⟩ := hh i hik
          exact ⟨layEq_of q1 (fun q hq => g2 i q hik hq), good_of q2 (fun q hq => g2 i q hik hq)⟩
      · exact hT
      · exact hr
      · rw [gs3_restKnown_restKnown]
  · obtain rfl : k = 4 := by omega
    obtain rfl : n = 4 := by omega
    obtain ⟨n1, Z, e1, e2, e3⟩ := record_f vX pv vA hs
    obtain ⟨P, g1, g2, g3⟩ := changes_f vM hp hr
    refine ⟨_, _, hk _ _ _ e1, rfl, g1, ?_, fun B => ?_⟩
    · rw [gs4_s_pasts, gs4_s_past]
    · refine ⟨cfV_lay hB, hG1, ⟨4, e2, e3, ?_, ?_, fun i hi => ?_⟩, ?_, ?_, Or.inl ?_⟩
      · rw [gs3_states_restKnown, gs3_states_states]
      · rw [gs4_pasts_s, gs4_pasts_pasts]
      · rw [gs4_past_s, gs4_past_pasts, gs4_past_past]
        by_cases ei : i = 3
        · subst ei
          show LayEq (updP (rotP pv) 3 (cfV Z vA) 3) _ ∧ _
          rw [show updP (rotP pv) 3 (cfV Z vA) 3 = cfV Z vA from if_pos rfl]
          exact ⟨cfV_lay (layEq_of hL g3), good_of hG g3⟩
        · have hi3 : i < 3 := by omega
          show LayEq (updP (rotP pv) 3 (cfV Z vA) i) _ ∧ _
          rw [show updP (rotP pv) 3 (cfV Z vA) i = pv (i + 1) from (if_neg ei).trans (if_neg ei)]
          obtain ⟨q1, q2⟩ := hh (i + 1) (by omega)
          exact ⟨layEq_of q1 (fun q hq => g2 i q hi3 hq), good_of q2 (fun q hq => g2 i q hi3 hq)⟩
      · exact hT
      · exact hr
      · rw [gs3_restKnown_restKnown]
