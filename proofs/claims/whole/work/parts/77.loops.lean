/-! all settings -/
def cS (v : BX2) := (p2_characters v, p2_size v, p2_settings v, p2_start v)
def jM (M : BX4) := (p4_past M, p4_held M, p4_pasts M, p4_runs M, p4_text M, p4_typed M, p4_settings M)
theorem cS_f {v v' : BX2} (e : fS v' = fS v) : cS v' = cS v := congrArg (fun z => (z.1, z.2.1, z.2.2.1, z.2.2.2.2.2)) e
theorem jM_i {M M' : BX4} (e : iM M' = iM M) : jM M' = jM M := congrArg (fun z => (z.2.1, z.2.2.1, z.2.2.2.1, z.2.2.2.2.1, z.2.2.2.2.2.1, z.2.2.2.2.2.2.1, z.2.2.2.2.2.2.2)) e
theorem jM_cause (M : BX4) (z : Int32) : jM (s4_cause M z) = jM M := by
  unfold jM
  simp only [gs4_past_cause, gs4_held_cause, gs4_pasts_cause, gs4_runs_cause, gs4_text_cause, gs4_typed_cause, gs4_settings_cause]
theorem jM_s (M : BX4) (z : Nat → Int32) : jM (s4_s M z) = jM M := by
  unfold jM
  simp only [gs4_past_s, gs4_held_s, gs4_pasts_s, gs4_runs_s, gs4_text_s, gs4_typed_s, gs4_settings_s]
theorem cS_r (v : BX2) (z w : Int32) : cS (s2_cause (s2_reason v z) w) = cS v := rfl
theorem cS_r2 (v : BX2) (z : Int32) : cS (s2_reason v z) = cS v := rfl
theorem isErr_v (a : Int32) : fX3_isError a = some (if a ≤ -1000001 then 1 else 0) := by
  unfold fX3_isError
  by_cases h : -1000001 < a
  · rw [if_pos h, if_neg (Int32.not_le.mpr h)]
  · rw [if_neg h, if_pos (Int32.not_lt.mp h)]
theorem step_ok {L : BX0} {s : Nat → Int32} {vS : BX2} {M : BX4} {t : Nat} {ch : Nat → Int32} (hL : LayEq L s) (hG : Good s) (h : TxC vS t ch) (hR : TxR M t ch) (ht : t ≤ 60) (a : Nat) (hat : a < t) (hst : p2_start vS = nI a) (hn : p2_next vS = nI a) (hs : p4_spot M = nI a) (hM : p4_s M = s) (hr : p4_runs M = 1) :
    (∃ L' vS' M' rr, fX2_isPossible L vS = some (0, L', vS') ∧ fX4_does M = some (rr, M') ∧ rr ≠ 0 ∧ p2_reason vS' = rr ∧ (rr ≠ 3 → p2_cause vS' = p4_cause M') ∧ cS vS' = cS vS ∧ jM M' = jM M) ∨
    (∃ L' vS' M' s' e, fX2_isPossible L vS = some (1, L', vS') ∧ fX4_does M = some (0, M') ∧ LayEq L' s' ∧ Good s' ∧ p4_s M' = s' ∧ p2_next vS' = nI e ∧ p4_spot M' = nI e ∧ a < e ∧ e ≤ t ∧ cS vS' = cS vS ∧ jM M' = jM M) := by
  obtain ⟨b, vS1, M1, e, f1, f2, f3, f4, f5, f6, f7, f8, f9⟩ := form_ok h hR ht a hat hst hn hs
  have s1 : p4_s M1 = s := (congrArg (fun z => z.1) f4 : p4_s M1 = p4_s M).trans hM
  have r1 : p4_runs M1 = 1 := (congrArg (fun z => z.2.2.2.2.1) f4 : p4_runs M1 = p4_runs M).trans hr
  have hd : fX4_does M = (if b = 0 then some (1, s4_cause M1 (nI e - nI a)) else ((fX4_badNumber M1 (ch a)).bind (fun y6 => if (p4_cause (s4_cause M1 y6)) < 0 then ((fX4_calls (s4_cause M1 y6) (ch a)).bind (fun y9 => if y9.1 = (-1000002 : Int32) then (some (3, y9.2)) else (if y9.1 = (-1000003 : Int32) then (some (3, y9.2)) else (some (0, y9.2))))) else (some (2, s4_cause M1 y6))))) := by
    unfold fX4_does fX4_does_71
    simp only [elet_eq]
    rw [hs, if_pos (inB_nI (by omega) (by omega)), nI_clamp (by omega), hR.2 a hat, f2, Option.bind_some]
    show (if b = 0 then some (1, s4_cause M1 (p4_spot M1 - nI a)) else _) = _
    rw [f6]
  have hp : fX2_isPossible L vS = (if b = 0 then some (0, L, s2_cause (s2_reason vS1 1) (nI e - nI a)) else ((fX2_numberOutOfRange L vS1).bind (fun y3 => if y3 = (-1 : Int32) then ((fX2_doSetting L vS1).bind (fun y5 => (fX3_isError y5.1).bind (fun y6 => if y6 = 0 then (some (1, y5.2, vS1)) else (some (0, y5.2, s2_reason vS1 3))))) else (some (0, L, s2_cause (s2_reason vS1 2) y3))))) := by
    unfold fX2_isPossible
    rw [f1, Option.bind_some]
    simp only [elet_eq]
    rw [gs2_next_reason, gs2_start_reason, f5, fS_start f3, hst]
  rcases f9 with rfl | ⟨rfl, g1, g2, g3⟩
  · left
    rw [hp, hd, if_pos rfl, if_pos rfl]
    exact ⟨L, _, _, 1, rfl, rfl, by decide, rfl, fun _ => rfl, (cS_r _ _ _).trans (cS_f f3), (jM_cause _ _).trans (jM_i f4)⟩
  · rw [hp, hd, if_neg (show ¬ (1 : Int32) = 0 from by decide), if_neg (show ¬ (1 : Int32) = 0 from by decide)]
    have hc : fX2_characterAt vS1 (p2_start vS1) = some (ch a) := by
      rw [fS_start f3, hst, char_v (fS_tx f3 h) ht a (by omega), if_pos hat]
    have hcc : ∀ z : Int32, p4_cause (s4_cause M1 z) = z := fun z => gs4_cause_cause _ _
    rcases setting_ok hL hG hc g2 g3 s1 r1 with ⟨i, i1, i2, i3⟩ | ⟨i1, i2, i3⟩
    · left
      have n1 : ¬ i = -1 := by rcases i1 with rfl | rfl | rfl <;> decide
      have n2 : ¬ i < 0 := by rcases i1 with rfl | rfl | rfl <;> decide
      rw [i2, i3, Option.bind_some, Option.bind_some, if_neg n1, hcc, if_neg n2]
      exact ⟨L, _, _, 2, rfl, rfl, by decide, rfl, fun _ => rfl, (cS_r _ _ _).trans (cS_f f3), (jM_cause _ _).trans (jM_i f4)⟩
    · rw [i1, i2, Option.bind_some, Option.bind_some, if_pos rfl, hcc, if_pos (show (-1000004 : Int32) < 0 from by decide)]
      rcases i3 with ⟨er, L1, e1, e2, e3⟩ | ⟨an, L1, s2, e0, e2, e4, e5, e3⟩
      · left
        rw [e2, e3, Option.bind_some, Option.bind_some, isErr_v, Option.bind_some]
        have n1 : er ≤ -1000001 := by rcases e1 with rfl | rfl <;> decide
        rw [if_pos n1, if_neg (show ¬ (1 : Int32) = 0 from by decide)]
        refine ⟨L1, s2_reason vS1 3, s4_cause M1 (-1000004), 3, rfl, ?_, by decide, rfl, fun z => absurd rfl z, (cS_r2 _ _).trans (cS_f f3), (jM_cause _ _).trans (jM_i f4)⟩
        rcases e1 with rfl | rfl
        · rw [if_pos rfl]
        · rw [if_neg (show ¬ (-1000003 : Int32) = -1000002 from by decide), if_pos rfl]
      · right
        rw [e2, e3, Option.bind_some, Option.bind_some, isErr_v, Option.bind_some, if_neg (Int32.not_le.mpr e0), if_pos rfl]
        have n1 : ¬ an = -1000002 := by intro z; rw [z] at e0; exact absurd e0 (by decide)
        have n2 : ¬ an = -1000003 := by intro z; rw [z] at e0; exact absurd e0 (by decide)
        refine ⟨L1, vS1, s4_s (s4_cause M1 (-1000004)) s2, s2, e, rfl, ?_, e4, e5, gs4_s_s _ _, f5, ?_, g1, f8, cS_f f3, ((jM_s _ _).trans (jM_cause _ _)).trans (jM_i f4)⟩
        · rw [if_neg n1, if_neg n2]
        · rw [gs4_spot_s, gs4_spot_cause]; exact f6
def kM (M : BX4) := (p4_past M, p4_held M, p4_pasts M, p4_text M, p4_typed M)
theorem kM_j {M M' : BX4} (e : jM M' = jM M) : kM M' = kM M := congrArg (fun z => (z.1, z.2.1, z.2.2.1, z.2.2.2.2.1, z.2.2.2.2.2.1)) e
theorem kM_set (M : BX4) (z : Int32) : kM (s4_settings M z) = kM M := by
  unfold kM
  simp only [gs4_past_settings, gs4_held_settings, gs4_pasts_settings, gs4_text_settings, gs4_typed_settings]
theorem kM_reason (M : BX4) (z : Int32) : kM (s4_reason M z) = kM M := by
  unfold kM
  simp only [gs4_past_reason, gs4_held_reason, gs4_pasts_reason, gs4_text_reason, gs4_typed_reason]
theorem kM_runs (M : BX4) (z : Int32) : kM (s4_runs M z) = kM M := by
  unfold kM
  simp only [gs4_past_runs, gs4_held_runs, gs4_pasts_runs, gs4_text_runs, gs4_typed_runs]
theorem kM_spot (M : BX4) (z : Int32) : kM (s4_spot M z) = kM M := by
  unfold kM
  simp only [gs4_past_spot, gs4_held_spot, gs4_pasts_spot, gs4_text_spot, gs4_typed_spot]
theorem kM_tx {M M' : BX4} (e : kM M' = kM M) {t : Nat} {ch : Nat → Int32} (h : TxR M t ch) : TxR M' t ch := by
  have e1 : p4_text M' = p4_text M := congrArg (fun z => z.2.2.2.1) e
  have e2 : p4_typed M' = p4_typed M := congrArg (fun z => z.2.2.2.2) e
  exact ⟨e2.trans h.1, fun i hi => by rw [e1]; exact h.2 i hi⟩
def cT (v : BX2) := (p2_characters v, p2_size v)
theorem cT_c {v v' : BX2} (e : cS v' = cS v) : cT v' = cT v := congrArg (fun z => (z.1, z.2.1)) e
theorem cT_tx {v v' : BX2} (e : cT v' = cT v) {t : Nat} {ch : Nat → Int32} (h : TxC v t ch) : TxC v' t ch := by
  have e1 : p2_characters v' = p2_characters v := congrArg (fun z => z.1) e
  have e2 : p2_size v' = p2_size v := congrArg (fun z => z.2) e
  exact ⟨e2.trans h.1, fun i hi => by rw [e1]; exact h.2 i hi⟩
theorem po_u (k : Nat) : fX2_playOn_10 (k + 1) = fX2_playOn_10_b (fX2_playOn_10 k) := rfl
theorem pl_u (k : Nat) : fX4_plays_22 (k + 1) = fX4_plays_22_b (fX4_plays_22 k) := rfl
/-- how playing ends -/
def PlQ (L0 : BX0) (c : Option (Int32 × BX0 × BX2)) (r : Option (Int32 × BX4)) (vS : BX2) (M : BX4) : Prop :=
  (∃ L' vS' M' s' Q, c = some (1, L', vS') ∧ r = some (-1000004, M') ∧ Q ≤ 60 ∧ p2_settings vS' = nI Q ∧ p4_settings M' = nI Q ∧ LayEq L' s' ∧ Good s' ∧ p4_s M' = s' ∧ cT vS' = cT vS ∧ kM M' = kM M ∧ p4_runs M' = 0) ∨
  (∃ L' vS' M' f rr, f ≤ 60 ∧ c = some (0, L', vS') ∧ r = some (nI f, M') ∧ p2_start vS' = nI f ∧ p2_reason vS' = rr ∧ p4_reason M' = rr ∧ (rr ≠ 3 → p2_cause vS' = p4_cause M') ∧ cT vS' = cT vS ∧ kM M' = kM M ∧ p4_runs M' = 0)
theorem loop_ok {t : Nat} {ch : Nat → Int32} (ht : t ≤ 60) (L0 : BX0) : ∀ (d a q n m : Nat) (L : BX0) (s : Nat → Int32) (vS : BX2) (M : BX4) (x1 : Int32), a + d = t → q ≤ a → LayEq L s → Good s → TxC vS t ch → TxR M t ch → p2_next vS = nI a → p2_settings vS = nI q → p4_spot M = nI a → p4_settings M = nI q → p4_reason M = 0 → p4_runs M = 1 → p4_s M = s →
    PlQ L0 (fX2_playOn_10 (n + d + 1) L vS) (fX4_plays_22 (m + d + 2) M x1) vS M := by
  intro d
  induction d using Nat.strongRecOn with
  | ind d ih =>
    intro a q n m L s vS M x1 had hqa hL hG h hR hn hse hs hsr hrr hru hM
    rw [show m + d + 2 = (m + d + 1) + 1 by omega, po_u, pl_u]
    rcases Nat.eq_zero_or_pos d with e0 | e0
    · left
      refine ⟨L, vS, s4_runs M 0, s, q, ?_, ?_, by omega, hse, ?_, hL, hG, ?_, rfl, kM_runs _ _, gs4_runs_runs _ _⟩
      · unfold fX2_playOn_10_b
        rw [hse, h.1, hn]
        by_cases z : (60 : Int32) ≤ nI q
        · rw [if_pos z]
        · rw [if_neg z, if_pos (lec (by omega) (by omega))]
      · unfold fX4_plays_22_b fX4_plays_66
        rw [hR.1, hs, if_pos (lec (by omega) (by omega)), elet_eq, gs4_reason_runs, hrr, if_pos rfl]
      · rw [gs4_settings_runs]; exact hsr
      · rw [gs4_s_runs]; exact hM
    · have hat : a < t := by omega
      obtain ⟨V, hV⟩ : ∃ V, V = s2_start vS (nI a) := ⟨_, rfl⟩
      have V1 : TxC V t ch := by rw [hV]; exact h
      have V2 : p2_start V = nI a := by rw [hV]; rfl
      have V3 : p2_next V = nI a := by rw [hV]; exact hn
      have V4 : p2_settings V = nI q := by rw [hV]; exact hse
      have V5 : cT V = cT vS := by rw [hV]; rfl
      have c1 : ¬ (60 : Int32) ≤ nI q := nlec (b := q) (a := 60) (by omega) (by omega)
      have hcl : ∀ k, fX2_playOn_10_b k L vS = (fX2_isPossible L V).bind (fun y4 => if y4.1 = 0 then (some (0, y4.2.1, y4.2.2)) else (k y4.2.1 (s2_settings y4.2.2 ((p2_settings y4.2.2) + (1 : Int32))))) := by
        intro k
        unfold fX2_playOn_10_b
        simp only [elet_eq]
        rw [hse, h.1, hn, if_neg c1, if_neg (nlec hat (by omega)), ← hV]
      have hrf : ∀ k, fX4_plays_22_b k M x1 = (fX4_does M).bind (fun y4 => k (s4_settings (s4_reason y4.2 y4.1) ((p4_settings (s4_reason y4.2 y4.1)) + (1 : Int32))) (nI a)) := by
        intro k
        unfold fX4_plays_22_b
        simp only [elet_eq]
        rw [hR.1, hs, if_neg (nlec hat (by omega)), hrr, if_pos rfl]
      rw [hcl, hrf]
      rcases step_ok hL hG V1 hR ht a hat V2 V3 hs hM hru with ⟨L', vS', M', rr, r1, r2, r3, r4, r5, r6, r7⟩ | ⟨L', vS', M', s', e, r1, r2, r3, r4, r5, r6, r7, r8, r9, r10, r11⟩
      · right
        rw [r1, r2, Option.bind_some, Option.bind_some, if_pos rfl]
        obtain ⟨N, hN⟩ : ∃ N, N = s4_settings (s4_reason M' rr) ((p4_settings (s4_reason M' rr)) + (1 : Int32)) := ⟨_, rfl⟩
        have N1 : kM N = kM M := by rw [hN, kM_set, kM_reason]; exact kM_j r7
        have N2 : p4_reason N = rr := by rw [hN, gs4_reason_settings, gs4_reason_reason]
        have N3 : p4_cause N = p4_cause M' := by rw [hN, gs4_cause_settings, gs4_cause_reason]
        have r6' : cT vS' = cT vS := (cT_c r6).trans V5
        have st : p2_start vS' = nI a := (congrArg (fun z => z.2.2.2) r6 : p2_start vS' = p2_start V).trans V2
        refine ⟨L', vS', s4_runs N 0, a, rr, by omega, rfl, ?_, st, r4, ?_, ?_, r6', (kM_runs _ _).trans N1, gs4_runs_runs _ _⟩
        · show fX4_plays_22 (m + d + 1) (s4_settings (s4_reason M' rr) ((p4_settings (s4_reason M' rr)) + (1 : Int32))) (nI a) = _
          rw [← hN, pl_u]
          have h66 : fX4_plays_66 N (nI a) = some (nI a, s4_runs N 0) := by
            unfold fX4_plays_66
            rw [elet_eq, gs4_reason_runs, N2, if_neg r3]
          unfold fX4_plays_22_b
          rw [N2, if_neg r3, h66]
          by_cases z : p4_typed N ≤ p4_spot N
          · rw [if_pos z]
          · rw [if_neg z]
        · rw [gs4_reason_runs]; exact N2
        · intro z; rw [gs4_cause_runs, N3]; exact r5 z
      · rw [r1, r2, Option.bind_some, Option.bind_some, if_neg (show ¬ (1 : Int32) = 0 from by decide)]
        have V6 : p2_settings vS' = nI q := (congrArg (fun z => z.2.2.1) r10 : p2_settings vS' = p2_settings V).trans V4
        have V7 : cT (s2_settings vS' (nI (q + 1))) = cT vS := by
          show cT vS' = _
          exact (cT_c r10).trans V5
        have M6 : p4_settings M' = nI q := (congrArg (fun z => z.2.2.2.2.2.2) r11 : p4_settings M' = p4_settings M).trans hsr
        have M7 : p4_runs M' = 1 := (congrArg (fun z => z.2.2.2.1) r11 : p4_runs M' = p4_runs M).trans hru
        obtain ⟨N, hN⟩ : ∃ N, N = s4_settings (s4_reason M' 0) (nI (q + 1)) := ⟨_, rfl⟩
        have N1 : kM N = kM M := by rw [hN, kM_set, kM_reason]; exact kM_j r11
        have := ih (t - e) (by omega) e (q + 1) (n + d - 1 - (t - e)) (m + d - 1 - (t - e)) L' s' (s2_settings vS' (nI (q + 1))) N (nI a) (by omega) (by omega) r3 r4 (cT_tx V7 h) (kM_tx N1 hR) r6 rfl (by rw [hN, gs4_spot_settings, gs4_spot_reason]; exact r7) (by rw [hN, gs4_settings_settings]) (by rw [hN, gs4_reason_settings, gs4_reason_reason]) (by rw [hN, gs4_runs_settings, gs4_runs_reason]; exact M7) (by rw [hN, gs4_s_settings, gs4_s_reason]; exact r5)
        rw [show n + d - 1 - (t - e) + (t - e) + 1 = n + d by omega, show m + d - 1 - (t - e) + (t - e) + 2 = m + d + 1 by omega] at this
        have g1 : fX4_plays_22 (m + d + 1) (s4_settings (s4_reason M' 0) ((p4_settings (s4_reason M' 0)) + (1 : Int32))) (nI a) = fX4_plays_22 (m + d + 1) N (nI a) := by
          rw [gs4_settings_reason, M6, nI_1, hN]
        have g2 : fX2_playOn_10 (n + d) L' (s2_settings vS' ((p2_settings vS') + (1 : Int32))) = fX2_playOn_10 (n + d) L' (s2_settings vS' (nI (q + 1))) := by
          rw [V6, nI_1]
        show PlQ L0 (fX2_playOn_10 (n + d) L' (s2_settings vS' ((p2_settings vS') + (1 : Int32)))) (fX4_plays_22 (m + d + 1) (s4_settings (s4_reason M' 0) ((p4_settings (s4_reason M' 0)) + (1 : Int32))) (nI a)) vS M
        rw [g1, g2]
        rcases this with ⟨A1, A2, A3, A4, A5, b1, b2, b3, b4, b5, b6, b7, b8, b9, b10, b11⟩ | ⟨A1, A2, A3, A4, A5, b1, b2, b3, b4, b5, b6, b7, b8, b9, b10⟩
        · exact Or.inl ⟨A1, A2, A3, A4, A5, b1, b2, b3, b4, b5, b6, b7, b8, b9.trans V7, b10.trans N1, b11⟩
        · exact Or.inr ⟨A1, A2, A3, A4, A5, b1, b2, b3, b4, b5, b6, b7, b8.trans V7, b9.trans N1, b10⟩
/-- both play alike -/
theorem plays_ok {t : Nat} {ch : Nat → Int32} (ht : t ≤ 60) {L : BX0} {s : Nat → Int32} {vS : BX2} {M : BX4} (hL : LayEq L s) (hG : Good s) (h : TxC vS t ch) (hR : TxR M t ch) (hM : p4_s M = s) : PlQ L (fX2_playOn L vS) (fX4_plays M) vS M := by
  obtain ⟨f1, hf1⟩ := FU_ex (t + 1) (by omega)
  obtain ⟨f2, hf2⟩ := FU_ex (t + 2) (by omega)
  obtain ⟨N, hN⟩ : ∃ N, N = s4_settings (s4_reason (s4_spot (s4_runs M 1) 0) 0) 0 := ⟨_, rfl⟩
  have N1 : kM N = kM M := by rw [hN, kM_set, kM_reason, kM_spot, kM_runs]
  have e1 : fX4_plays M = fX4_plays_22 (f2 + t + 2) N 0 := by
    unfold fX4_plays
    simp only [elet_eq]
    rw [← hN, show FU = f2 + t + 2 by omega]
  have e2 : fX2_playOn L vS = fX2_playOn_10 (f1 + t + 1) L (s2_next (s2_settings vS 0) 0) := by
    unfold fX2_playOn
    simp only [elet_eq]
    rw [show FU = f1 + t + 1 by omega]
  rw [e1, e2]
  have := loop_ok ht L t 0 0 f1 f2 L s (s2_next (s2_settings vS 0) 0) N 0 (by omega) (Nat.le_refl _) hL hG h (kM_tx N1 hR) rfl rfl (by rw [hN, gs4_spot_settings, gs4_spot_reason, gs4_spot_spot]; rfl) (by rw [hN, gs4_settings_settings]; rfl) (by rw [hN, gs4_reason_settings, gs4_reason_reason]) (by rw [hN, gs4_runs_settings, gs4_runs_reason, gs4_runs_spot, gs4_runs_runs]) (by rw [hN, gs4_s_settings, gs4_s_reason, gs4_s_spot, gs4_s_runs]; exact hM)
  rcases this with ⟨A1, A2, A3, A4, A5, b1, b2, b3, b4, b5, b6, b7, b8, b9, b10, b11⟩ | ⟨A1, A2, A3, A4, A5, b1, b2, b3, b4, b5, b6, b7, b8, b9, b10⟩
  · exact Or.inl ⟨A1, A2, A3, A4, A5, b1, b2, b3, b4, b5, b6, b7, b8, b9, b10.trans N1, b11⟩
  · exact Or.inr ⟨A1, A2, A3, A4, A5, b1, b2, b3, b4, b5, b6, b7, b8, b9.trans N1, b10⟩
