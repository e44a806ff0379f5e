theorem cp_u (k : Nat) : fX4_copies_2 (k + 1) = fX4_copies_2_b (fX4_copies_2 k) := rfl
theorem cp_all (f : Nat → Int32) : ∀ (d j n : Nat) (g : Nat → Int32), j + d = 24 → (∀ i, i < j → g i = f i) → ∃ g', fX4_copies_2 (n + d + 1) f g (nI j) = some g' ∧ ∀ i, i < 24 → g' i = f i := by
  intro d
  induction d with
  | zero =>
    intro j n g hj h
    obtain rfl : j = 24 := by omega
    refine ⟨g, ?_, h⟩
    rw [cp_u]
    unfold fX4_copies_2_b
    rw [if_pos (show (24 : Int32) ≤ nI 24 from by decide)]
  | succ d ih =>
    intro j n g hj h
    have a1 : ¬ (24 : Int32) ≤ nI j := nlec (b := j) (a := 24) (by omega) (by omega)
    have st : fX4_copies_2 (n + (d + 1) + 1) f g (nI j) = fX4_copies_2 (n + d + 1) f (upd g j (f j)) (nI (j + 1)) := by
      rw [show n + (d + 1) + 1 = (n + d + 1) + 1 by omega, cp_u]
      unfold fX4_copies_2_b
      rw [if_neg a1, if_pos (inB_nI (by omega) (by omega)), if_pos (inB_nI (by omega) (by omega)), nI_clamp (by omega)]
      simp only [elet_eq]
      rw [nI_1]
    rw [st]
    refine ih (j + 1) n _ (by omega) (fun i hi => ?_)
    rw [upd_e]
    by_cases q : i = j
    · rw [if_pos q, q]
    · rw [if_neg q]; exact h i (by omega)
theorem copies_ok (f g : Nat → Int32) : ∃ g', fX4_copies f g = some g' ∧ ∀ i, i < 24 → g' i = f i := by
  obtain ⟨k, hk⟩ := FU_ex 25 (by omega)
  unfold fX4_copies
  rw [hk, show k + 25 = k + 24 + 1 by omega]
  exact cp_all f 24 0 k g (by omega) (fun i hi => absurd hi (by omega))
theorem sim_t {vX : BX3} {n : Nat} {pv : Nat → BX0} {vA vB vB' : BX0} {vR vT : BX1} {vS vS' : BX2} {vM M' : BX4} (h : Sim0 vX n pv vA vB vR vT vS vM) (e1 : ∀ q, q < 24 → p4_s M' q = p4_s vM q) (e2 : p4_past M' = p4_past vM) (e3 : p4_pasts M' = p4_pasts vM) (e4 : p4_runs M' = 0) (e5 : p4_text M' = p4_text vM) (e6 : p4_typed M' = p4_typed vM) (e7 : cT vS' = cT vS) : Sim0 vX n pv vA vB' vR vT vS' M' := by
  obtain ⟨hL, hG, hP, hT, hr, hk⟩ := h
  have c1 : p2_characters vS' = p2_characters vS := congrArg (fun z => z.1) e7
  have c2 : p2_size vS' = p2_size vS := congrArg (fun z => z.2) e7
  refine ⟨layEq_of hL e1, good_of hG e1, ?_, ?_, e4, hk⟩
  · rw [e2, e3]; exact hP
  · rw [e5, e6, c1, c2]; exact hT
theorem tx_of {vX : BX3} {n : Nat} {pv : Nat → BX0} {vA vB : BX0} {vR vT : BX1} {vS : BX2} {vM : BX4} (h : Sim0 vX n pv vA vB vR vT vS vM) : ∃ t, t ≤ 60 ∧ TxC vS t (p4_text vM) ∧ TxR vM t (p4_text vM) := by
  obtain ⟨-, -, -, ⟨t, t1, t2, t3, t4⟩, -⟩ := h
  exact ⟨t, t1, ⟨t2, fun i hi => (t4 i hi).1⟩, t3, fun i _ => rfl⟩
theorem rz_held (M : BX4) (z : Nat → Int32) : p4_s (s4_held M z) = p4_s M ∧ p4_text (s4_held M z) = p4_text M ∧ p4_typed (s4_held M z) = p4_typed M ∧ p4_past (s4_held M z) = p4_past M ∧ p4_pasts (s4_held M z) = p4_pasts M ∧ p4_held (s4_held M z) = z :=
  ⟨gs4_s_held _ _, gs4_text_held _ _, gs4_typed_held _ _, gs4_past_held _ _, gs4_pasts_held _ _, gs4_held_held _ _⟩
theorem nI_nn {f : Nat} (h : f ≤ 60) : ¬ nI f = -1000004 := by
  intro e
  have := nI_pos' (n := f) (by omega)
  rw [e] at this
  exact absurd this (by decide)
theorem St_fault0 : St_fault Sim0 := by
  intro vX n pv vA vB vR vT vS vM i1 h
  have hL := h.1
  have hG := h.2.1
  by_cases c1 : i1 < 0
  · refine ⟨(-1000001, vB, vS), (-1000001, vM), ?_, ?_, rfl, h⟩
    · unfold fX3_fault; rw [if_pos c1]
    · unfold fX4_fault; rw [in4_v, if_pos c1, Option.bind_some, if_pos rfl]
  by_cases c2 : 2 < i1
  · refine ⟨(-1000001, vB, vS), (-1000001, vM), ?_, ?_, rfl, h⟩
    · unfold fX3_fault; rw [if_neg c1, if_neg (Int32.not_le.mpr c2)]
    · unfold fX4_fault; rw [in4_v, if_neg c1, if_pos c2, Option.bind_some, if_pos rfl]
  obtain ⟨t, t60, tc, tr⟩ := tx_of h
  obtain ⟨y3, u1, u2⟩ := copies_ok (p4_s vM) (p4_held vM)
  obtain ⟨w1, w2, w3, w4, w5, w6⟩ := rz_held vM y3
  have tr2 : TxR (s4_held vM y3) t (p4_text vM) := ⟨w3.trans tr.1, fun i hi => by rw [w2]⟩
  have hc : fX3_fault vX vA vB vS i1 = (fX2_playOn (cfV vB vA) vS).bind (fun y4 => if y4.1 = 0 then (if i1 = 0 then (some ((p2_start y4.2.2), y4.2.1, y4.2.2)) else (if i1 = (1 : Int32) then (some ((p2_reason y4.2.2), y4.2.1, y4.2.2)) else (if (p2_reason y4.2.2) = (3 : Int32) then (some ((-1000004), y4.2.1, y4.2.2)) else (some ((p2_cause y4.2.2), y4.2.1, y4.2.2))))) else (some ((-1000004), y4.2.1, y4.2.2))) := by
    unfold fX3_fault fX3_freshTrial
    rw [if_neg c1, if_pos (Int32.not_lt.mp c2), copyFrom_v, Option.bind_some, Option.bind_some]
  have hr : fX4_fault vM i1 = (fX4_plays (s4_held vM y3)).bind (fun y4 => (fX4_copies (p4_held y4.2) (p4_s y4.2)).bind (fun y6 => if y4.1 = (-1000004 : Int32) then (some (y4.1, s4_s y4.2 y6)) else (if i1 = 0 then (some (y4.1, s4_s y4.2 y6)) else (if i1 = (1 : Int32) then (some ((p4_reason (s4_s y4.2 y6)), (s4_s y4.2 y6))) else (if (p4_reason (s4_s y4.2 y6)) = (3 : Int32) then (some ((-1000004), (s4_s y4.2 y6))) else (some ((p4_cause (s4_s y4.2 y6)), (s4_s y4.2 y6)))))))) := by
    unfold fX4_fault fX4_fault_49
    rw [in4_v, if_neg c1, if_neg c2, Option.bind_some, if_neg (by decide), u1, Option.bind_some]
    rfl
  have back : ∀ (M' : BX4), kM M' = kM (s4_held vM y3) → p4_runs M' = 0 → ∀ (vS' : BX2) (B : BX0), cT vS' = cT vS → ∃ y6, fX4_copies (p4_held M') (p4_s M') = some y6 ∧ Sim0 vX n pv vA B vR vT vS' (s4_s M' y6) := by
    intro M' hk h0 vS' B hT
    obtain ⟨y6, v1, v2⟩ := copies_ok (p4_held M') (p4_s M')
    have k1 : p4_past M' = p4_past vM := (congrArg (fun z => z.1) hk : p4_past M' = p4_past (s4_held vM y3)).trans w4
    have k2 : p4_held M' = y3 := (congrArg (fun z => z.2.1) hk : p4_held M' = p4_held (s4_held vM y3)).trans w6
    have k3 : p4_pasts M' = p4_pasts vM := (congrArg (fun z => z.2.2.1) hk : p4_pasts M' = p4_pasts (s4_held vM y3)).trans w5
    have k4 : p4_text M' = p4_text vM := (congrArg (fun z => z.2.2.2.1) hk : p4_text M' = p4_text (s4_held vM y3)).trans w2
    have k5 : p4_typed M' = p4_typed vM := (congrArg (fun z => z.2.2.2.2) hk : p4_typed M' = p4_typed (s4_held vM y3)).trans w3
    refine ⟨y6, v1, sim_t h ?_ ?_ ?_ ?_ ?_ ?_ hT⟩
    · intro q hq
      rw [gs4_s_s, v2 q hq, k2]; exact u2 q hq
    · rw [gs4_past_s]; exact k1
    · rw [gs4_pasts_s]; exact k3
    · rw [gs4_runs_s]; exact h0
    · rw [gs4_text_s]; exact k4
    · rw [gs4_typed_s]; exact k5
  rcases plays_ok t60 (cfV_lay (L := vB) hL) hG tc tr2 w1 with ⟨L', vS', M', s', Q, b1, b2, b3, b4, b5, b6, b7, b8, b9, b10, b11⟩ | ⟨L', vS', M', f, rr, b0, b1, b2, b3, b4, b5, b6, b7, b8, b9⟩
  · obtain ⟨y6, v1, v2⟩ := back M' b10 b11 vS' L' b9
    refine ⟨(-1000004, L', vS'), (-1000004, s4_s M' y6), ?_, ?_, rfl, v2⟩
    · rw [hc, b1, Option.bind_some, if_neg (show ¬ (1 : Int32) = 0 from by decide)]
    · rw [hr, b2, Option.bind_some, v1, Option.bind_some, if_pos rfl]
  · obtain ⟨y6, v1, v2⟩ := back M' b8 b9 vS' L' b7
    have hcc : fX3_fault vX vA vB vS i1 = (if i1 = 0 then (some ((p2_start vS'), L', vS')) else (if i1 = (1 : Int32) then (some ((p2_reason vS'), L', vS')) else (if (p2_reason vS') = (3 : Int32) then (some ((-1000004), L', vS')) else (some ((p2_cause vS'), L', vS'))))) := by
      rw [hc, b1, Option.bind_some, if_pos rfl]
    have hrr : fX4_fault vM i1 = (if i1 = 0 then (some (nI f, s4_s M' y6)) else (if i1 = (1 : Int32) then (some ((p4_reason (s4_s M' y6)), (s4_s M' y6))) else (if (p4_reason (s4_s M' y6)) = (3 : Int32) then (some ((-1000004), (s4_s M' y6))) else (some ((p4_cause (s4_s M' y6)), (s4_s M' y6)))))) := by
      rw [hr, b2, Option.bind_some, v1, Option.bind_some, if_neg (nI_nn b0)]
    rw [hcc, hrr, gs4_reason_s, gs4_cause_s, b3, b4, b5]
    by_cases d0 : i1 = 0
    · rw [if_pos d0, if_pos d0]; exact ⟨_, _, rfl, rfl, rfl, v2⟩
    rw [if_neg d0, if_neg d0]
    by_cases d1 : i1 = 1
    · rw [if_pos d1, if_pos d1]; exact ⟨_, _, rfl, rfl, rfl, v2⟩
    rw [if_neg d1, if_neg d1]
    by_cases d2 : rr = 3
    · rw [if_pos d2, if_pos d2]; exact ⟨_, _, rfl, rfl, rfl, v2⟩
    · rw [if_neg d2, if_neg d2]; exact ⟨_, _, rfl, rfl, b6 d2, v2⟩
theorem ch_keep {vX : BX3} {n : Nat} {pv : Nat → BX0} {vA vB : BX0} {vR vT : BX1} {vS : BX2} {N M1 : BX4} (h : Sim0 vX n pv vA vB vR vT vS N) (hc : fX4_changes N = some M1) : p4_text M1 = p4_text N ∧ p4_typed M1 = p4_typed N ∧ p4_runs M1 = 0 := by
  obtain ⟨hL, hG, ⟨k, hkn, hn, hs, hp, hh⟩, hT, hr, -⟩ := h
  by_cases h4 : k < 4
  · obtain ⟨P, g1, -⟩ := changes_n N k h4 hp hr
    have e := Option.some.inj (hc.symm.trans g1)
    rw [e]
    exact ⟨by rw [gs4_text_pasts, gs4_text_past], by rw [gs4_typed_pasts, gs4_typed_past], by rw [gs4_runs_pasts, gs4_runs_past]; exact hr⟩
  · obtain rfl : k = 4 := by omega
    obtain ⟨P, g1, -⟩ := changes_f N hp hr
    have e := Option.some.inj (hc.symm.trans g1)
    rw [e]
    exact ⟨by rw [gs4_text_pasts, gs4_text_past], by rw [gs4_typed_pasts, gs4_typed_past], by rw [gs4_runs_pasts, gs4_runs_past]; exact hr⟩
theorem St_play0 : St_play Sim0 := by
  intro vX n pv vA vB vR vT vS vM h
  have hL := h.1
  have hG := h.2.1
  obtain ⟨t, t60, tc, tr⟩ := tx_of h
  obtain ⟨y3, u1, u2⟩ := copies_ok (p4_s vM) (p4_held vM)
  obtain ⟨w1, w2, w3, w4, w5, w6⟩ := rz_held vM y3
  have tr2 : TxR (s4_held vM y3) t (p4_text vM) := ⟨w3.trans tr.1, fun i hi => by rw [w2]⟩
  have hc : fX3_play vX n pv vA vB vS = (fX2_playOn (cfV vB vA) vS).bind (fun y2 => if y2.1 = 0 then (some ((-1000002 : Int32), vX, n, pv, vA, y2.2.1, y2.2.2)) else ((fX3_keep vX n pv vA y2.2.1 (p2_settings y2.2.2)).bind (fun y4 => some (y4.1, y4.2.1, (y4.2.2.1), (y4.2.2.2.1), y4.2.2.2.2, y2.2.1, y2.2.2)))) := by
    unfold fX3_play fX3_freshTrial
    rw [copyFrom_v, Option.bind_some, Option.bind_some]
  have hr : fX4_play vM = (fX4_plays (s4_held vM y3)).bind (fun y2 => (fX4_copies (p4_held y2.2) (p4_s y2.2)).bind (fun y4 => if y2.1 = (-1000004 : Int32) then ((fX4_changes (s4_s y2.2 y4)).bind (fun y6 => (fX4_plays y6).bind (fun y7 => if y7.1 = (-1000004 : Int32) then (some ((p4_settings y7.2), y7.2)) else (some ((-1000004), y7.2))))) else (some ((-1000002), (s4_s y2.2 y4))))) := by
    unfold fX4_play
    rw [u1, Option.bind_some]
    rfl
  have back : ∀ (M' : BX4), kM M' = kM (s4_held vM y3) → p4_runs M' = 0 → ∀ (vS' : BX2) (B : BX0), cT vS' = cT vS → ∃ y6, fX4_copies (p4_held M') (p4_s M') = some y6 ∧ p4_text (s4_s M' y6) = p4_text vM ∧ Sim0 vX n pv vA B vR vT vS' (s4_s M' y6) := by
    intro M' hk h0 vS' B hT
    obtain ⟨y6, v1, v2⟩ := copies_ok (p4_held M') (p4_s M')
    have k1 : p4_past M' = p4_past vM := (congrArg (fun z => z.1) hk : p4_past M' = p4_past (s4_held vM y3)).trans w4
    have k2 : p4_held M' = y3 := (congrArg (fun z => z.2.1) hk : p4_held M' = p4_held (s4_held vM y3)).trans w6
    have k3 : p4_pasts M' = p4_pasts vM := (congrArg (fun z => z.2.2.1) hk : p4_pasts M' = p4_pasts (s4_held vM y3)).trans w5
    have k4 : p4_text M' = p4_text vM := (congrArg (fun z => z.2.2.2.1) hk : p4_text M' = p4_text (s4_held vM y3)).trans w2
    have k5 : p4_typed M' = p4_typed vM := (congrArg (fun z => z.2.2.2.2) hk : p4_typed M' = p4_typed (s4_held vM y3)).trans w3
    refine ⟨y6, v1, by rw [gs4_text_s]; exact k4, sim_t h ?_ ?_ ?_ ?_ ?_ ?_ hT⟩
    · intro q hq
      rw [gs4_s_s, v2 q hq, k2]; exact u2 q hq
    · rw [gs4_past_s]; exact k1
    · rw [gs4_pasts_s]; exact k3
    · rw [gs4_runs_s]; exact h0
    · rw [gs4_text_s]; exact k4
    · rw [gs4_typed_s]; exact k5
  rcases plays_ok t60 (cfV_lay (L := vB) hL) hG tc tr2 w1 with ⟨L', vS', M', s', Q, b1, b2, b3, b4, b5, b6, b7, b8, b9, b10, b11⟩ | ⟨L', vS', M', f, rr, b0, b1, b2, b3, b4, b5, b6, b7, b8, b9⟩
  · obtain ⟨y6, v1, vt, v2⟩ := back M' b10 b11 vS' L' b9
    obtain ⟨N, hN⟩ : ∃ N, N = s4_s M' y6 := ⟨_, rfl⟩
    rw [← hN] at vt v2
    have hQ : (-1000001 : Int32) < nI Q := by
      rw [i_lt, nI_toInt (by omega)]
      have : (-1000001 : Int32).toInt = -1000001 := rfl
      omega
    -- the state is recorded
    obtain ⟨y, M1, k1, k2, k3, k4, k5⟩ := keep_sim v2 L' s' (nI Q) hQ b6 b7
    obtain ⟨ck1, ck2, ck3⟩ := ch_keep v2 k3
    -- and the text is played again
    have tr3 : TxR M1 t (p4_text vM) := by
      obtain ⟨t', t60', tc', tr'⟩ := tx_of v2
      have et : t' = t := by
        have q1 : p2_size vS' = nI t := (congrArg (fun z => z.2) b9 : p2_size vS' = p2_size vS).trans tc.1
        exact (nI_eq (by omega) (by omega)).mp (tc'.1.symm.trans q1)
      subst et
      exact ⟨ck2.trans tr'.1, fun i hi => by rw [ck1, vt]⟩
    rcases plays_ok t60 (cfV_lay (L := vB) v2.1) v2.2.1 tc tr3 k4 with ⟨L2, vS2, M2, s2, Q2, d1, d2, d3, d4, d5, d6, d7, d8, d9, d10, d11⟩ | ⟨L2, vS2, M2, f, rr, d0, d1, -⟩
    · have eqc := Option.some.inj (b1.symm.trans d1)
      have eL : L' = L2 := congrArg (fun z => z.2.1) eqc
      have eS : vS' = vS2 := congrArg (fun z => z.2.2) eqc
      subst eL eS
      obtain ⟨y', M1', k1', k2', k3', k4', k5'⟩ := keep_sim v2 L' s2 (nI Q) hQ d6 d7
      have eM : M1 = M1' := Option.some.inj (k3.symm.trans k3')
      subst eM
      have hrun : p4_runs M1 = 0 := ck3
      have kp : p4_past M2 = p4_past M1 := congrArg (fun z => z.1) d10
      have kps : p4_pasts M2 = p4_pasts M1 := congrArg (fun z => z.2.2.1) d10
      have ktx : p4_text M2 = p4_text M1 := congrArg (fun z => z.2.2.2.1) d10
      have kty : p4_typed M2 = p4_typed M1 := congrArg (fun z => z.2.2.2.2) d10
      refine ⟨(y'.1, y'.2.1, y'.2.2.1, y'.2.2.2.1, y'.2.2.2.2, L', vS'), (p4_settings M2, M2), ?_, ?_, ?_, ?_⟩
      · rw [hc, b1, Option.bind_some, if_neg (show ¬ (1 : Int32) = 0 from by decide), b4, k1', Option.bind_some]
      · rw [hr, b2, Option.bind_some, v1, Option.bind_some, if_pos rfl, ← hN, k3, Option.bind_some, d2, Option.bind_some, if_pos rfl]
      · show y'.1 = p4_settings M2
        rw [k2', d5, ← d4, b4]
      · refine sim_t (k5' L') ?_ ?_ ?_ d11 ?_ ?_ rfl
        · intro q hq; rw [gs4_s_s, d8]
        · rw [gs4_past_s]; exact kp
        · rw [gs4_pasts_s]; exact kps
        · rw [gs4_text_s]; exact ktx
        · rw [gs4_typed_s]; exact kty
    · have eqc := Option.some.inj (b1.symm.trans d1)
      exact absurd (congrArg (fun z => z.1) eqc : (1 : Int32) = 0) (by decide)
  · obtain ⟨y6, v1, vt, v2⟩ := back M' b8 b9 vS' L' b7
    refine ⟨(-1000002, vX, n, pv, vA, L', vS'), (-1000002, s4_s M' y6), ?_, ?_, rfl, v2⟩
    · rw [hc, b1, Option.bind_some, if_pos rfl]
    · rw [hr, b2, Option.bind_some, v1, Option.bind_some, if_neg (nI_nn b0)]
