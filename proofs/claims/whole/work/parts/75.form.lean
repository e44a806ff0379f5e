/-- the numbers that were read -/
def NumQ (c : Int32) (vS : BX2) (M : BX4) (k : Nat) : Prop := ∀ j, j < k → ∃ z v, p2_numbers vS j = z ∧ p4_told M j = z ∧ v ≤ 99 ∧ (z = nI v ∨ (negB c j ∧ z = -nI v))
theorem forms_all {t : Nat} {ch : Nat → Int32} (ht : t ≤ 60) (sx : Nat) (c : Int32) (many : Nat) (hm : many ≤ 3) (hlen : lenT.getD sx 0 = 2 * many)
    (ha : ∀ k, k < many → scC sx (nI (2 * k)) = (if c = 102 then (if k = 1 then 45 else 48) else 48)) (hb : ∀ k, k < many → scC sx (nI (2 * k + 1)) = (if k + 1 = many then 59 else 44)) :
    ∀ (d k p n m : Nat) (vS : BX2) (M : BX4), k + d = many → TxC vS t ch → TxR M t ch → p ≤ t → p2_next vS = nI p → p4_spot M = nI p → p2_numberCount vS = nI k → NumQ c vS M k →
    ∃ b vS' M' e, fX2_isOfForm_38 sx (n + 2 * d + 1) vS (nI (2 * k)) = some (b, vS') ∧ fX4_isForm_43 (m + d + 2) M c (nI many) 1 (nI k) = some (b, M') ∧ fS vS' = fS vS ∧ iM M' = iM M ∧ p2_next vS' = nI e ∧ p4_spot M' = nI e ∧ p ≤ e ∧ e ≤ t ∧ (b = 0 ∨ (b = 1 ∧ NumQ c vS' M' many)) := by
  intro d
  induction d with
  | zero =>
    intro k p n m vS M hk h hR hpt hn hs hc hN
    obtain rfl : k = many := by omega
    refine ⟨1, vS, M, p, ?_, ?_, rfl, rfl, hn, hs, Nat.le_refl _, hpt, Or.inr ⟨rfl, hN⟩⟩
    · rw [show n + 2 * 0 + 1 = n + 1 by omega, c38_u]
      unfold fX2_isOfForm_38_b
      rw [hlen, if_pos (Int32.le_refl _)]
    · rw [show m + 0 + 2 = (m + 1) + 1 by omega, f43_u]
      unfold fX4_isForm_43_b
      rw [if_pos (Int32.le_refl _)]
      rfl
  | succ d ih =>
    intro k p n m vS M hk h hR hpt hn hs hc hN
    have hk' : k < many := by omega
    rcases pair_ok h hR ht sx c many k p (n + 2 * d + 1) (m + d + 1) hk' hm (by omega) (by omega) (ha k hk') (hb k hk') (by omega) hn hs hc with ⟨vS', M', e, r1, r2, r3, r4, r5, r6, r7, r8⟩ | ⟨vS', M', e, z, v, r1, r2, r3, r4, r5, r6, r7, r8, r9, r10, r11, r12, r13, r14⟩
    · exact ⟨0, vS', M', e, by rw [show n + 2 * (d + 1) + 1 = n + 2 * d + 1 + 2 by omega]; exact r1, by rw [show m + (d + 1) + 2 = m + d + 1 + 2 by omega]; exact r2, r3, r4, r5, r6, r7, r8 hpt, Or.inl rfl⟩
    · obtain ⟨b, vS2, M2, e2, q1, q2, q3, q4, q5, q6, q7, q8, q9⟩ := ih (k + 1) e n m vS' M' (by omega) (fS_tx r3 h) (iM_tx r4 hR) r8 r5 r6 r9 (by
        intro j hj
        rcases Nat.eq_or_lt_of_le (Nat.le_of_lt_succ hj) with rfl | hj
        · exact ⟨z, v, by rw [r10, pk_us], r11, r13, r14⟩
        · obtain ⟨z', v', n1, n2, n3, n4⟩ := hN j hj
          exact ⟨z', v', by rw [r10, pk_un (by omega)]; exact n1, by rw [r12 j (by omega)]; exact n2, n3, n4⟩)
      refine ⟨b, vS2, M2, e2, ?_, ?_, q3.trans r3, q4.trans r4, q5, q6, by omega, q8, q9⟩
      · rw [show n + 2 * (d + 1) + 1 = n + 2 * d + 1 + 2 by omega, r1]; exact q1
      · rw [show m + (d + 1) + 2 = m + d + 1 + 2 by omega, r2, show m + d + 1 + 1 = m + d + 2 by omega]; exact q2
def manyN (c : Int32) : Nat := if c = 107 then 3 else if c = 102 then 2 else if c = 108 then 2 else if c = 114 then 2 else if c = 119 then 1 else if c = 120 then 1 else 0
def letQ (c : Int32) : Prop := c = 102 ∨ c = 107 ∨ c = 108 ∨ c = 112 ∨ c = 114 ∨ c = 119 ∨ c = 120
theorem form_ok {vS : BX2} {M : BX4} {t : Nat} {ch : Nat → Int32} (h : TxC vS t ch) (hR : TxR M t ch) (ht : t ≤ 60) (a : Nat) (hat : a < t) (hst : p2_start vS = nI a) (hn : p2_next vS = nI a) (hs : p4_spot M = nI a) :
    ∃ b vS' M' e, fX2_isOfForm vS = some (b, vS') ∧ fX4_isForm M (ch a) = some (b, M') ∧ fS vS' = fS vS ∧ iM M' = iM M ∧ p2_next vS' = nI e ∧ p4_spot M' = nI e ∧ a ≤ e ∧ e ≤ t ∧ (b = 0 ∨ (b = 1 ∧ a < e ∧ letQ (ch a) ∧ NumQ (ch a) vS' M' (manyN (ch a)))) := by
  obtain ⟨V, hV⟩ : ∃ V, V = s2_numberCount vS 0 := ⟨_, rfl⟩
  have V1 : TxC V t ch := by rw [hV]; exact h
  have V2 : p2_start V = nI a := by rw [hV]; exact hst
  have V3 : p2_next V = nI a := by rw [hV]; exact hn
  have V4 : p2_numberCount V = nI 0 := by rw [hV]; rfl
  have V5 : fS V = fS vS := by rw [hV]; rfl
  have hc : fX2_isOfForm vS = (if (isE (fA (ch a))) = 0 then (fX2_isOfForm_38 (fA (ch a)) FU (s2_next V (nI (a + 1))) (nI 0)) else (some (0, V))) := by
    unfold fX2_isOfForm
    simp only [elet_eq]
    rw [← hV, V2, char_v V1 ht a (by omega), Option.bind_some, if_pos hat, nI_1]
    rfl
  -- the letters with numbers
  have num : ∀ (sx many : Nat), 0 < many → many ≤ 3 → fA (ch a) = sx → isE sx = 0 → manyN (ch a) = many → letQ (ch a) → fX4_numbersOf (ch a) = some (nI many) → lenT.getD sx 0 = 2 * many →
      (∀ k, k < many → scC sx (nI (2 * k)) = (if ch a = 102 then (if k = 1 then 45 else 48) else 48)) → (∀ k, k < many → scC sx (nI (2 * k + 1)) = (if k + 1 = many then 59 else 44)) →
      ∃ b vS' M' e, fX2_isOfForm vS = some (b, vS') ∧ fX4_isForm M (ch a) = some (b, M') ∧ fS vS' = fS vS ∧ iM M' = iM M ∧ p2_next vS' = nI e ∧ p4_spot M' = nI e ∧ a ≤ e ∧ e ≤ t ∧ (b = 0 ∨ (b = 1 ∧ a < e ∧ letQ (ch a) ∧ NumQ (ch a) vS' M' (manyN (ch a)))) := by
    intro sx many h0 h3 e1 e2 e3 e4 e5 e6 e7 e8
    obtain ⟨f1, hf1⟩ := FU_ex (2 * many + 1) (by omega)
    obtain ⟨f2, hf2⟩ := FU_ex (many + 2) (by omega)
    obtain ⟨M1, hM1⟩ : ∃ M1, M1 = s4_spot M (nI (a + 1)) := ⟨_, rfl⟩
    have i1 : iM M1 = iM M := by rw [hM1]; exact iM_spot _ _
    obtain ⟨b, vS', M', e, q1, q2, q3, q4, q5, q6, q7, q8, q9⟩ := forms_all ht sx (ch a) many h3 e6 e7 e8 many 0 (a + 1) f1 f2 (s2_next V (nI (a + 1))) M1 (by omega) V1 (iM_tx i1 hR) (by omega) rfl (by rw [hM1, gs4_spot_spot]) V4 (fun j hj => absurd hj (by omega))
    refine ⟨b, vS', M', e, ?_, ?_, q3.trans V5, q4.trans i1, q5, q6, by omega, q8, ?_⟩
    · rw [hc, e1, if_pos e2, show FU = f1 + 2 * many + 1 by omega]; exact q1
    · unfold fX4_isForm
      rw [e5, Option.bind_some, if_pos (nI_pos' (by omega)), elet_eq, hs, nI_1, ← hM1, if_pos (show (0 : Int32) < nI many from ltc (a := 0) (b := many) h0 (by omega))]
      unfold fX4_isForm_34 fX4_isForm_39
      rw [show FU = f2 + many + 2 by omega]; exact q2
    · rcases q9 with q9 | ⟨q9, q10⟩
      · exact Or.inl q9
      · exact Or.inr ⟨q9, by omega, e4, by rw [e3]; exact q10⟩
  have k3 : ∀ (P : Nat → Prop), P 0 → P 1 → P 2 → ∀ k, k < 3 → P k := by
    intro P p0 p1 p2 k hk
    rcases (show k = 0 ∨ k = 1 ∨ k = 2 by omega) with rfl | rfl | rfl
    · exact p0
    · exact p1
    · exact p2
  have k2 : ∀ (P : Nat → Prop), P 0 → P 1 → ∀ k, k < 2 → P k := by
    intro P p0 p1 k hk
    rcases (show k = 0 ∨ k = 1 by omega) with rfl | rfl
    · exact p0
    · exact p1
  have k1 : ∀ (P : Nat → Prop), P 0 → ∀ k, k < 1 → P k := by
    intro P p0 k hk
    rw [show k = 0 by omega]; exact p0
  by_cases c1 : ch a = 102
  · rw [c1] at num hc ⊢
    exact num 3 2 (by omega) (by omega) (by decide) (by decide +kernel) (by decide) (Or.inl rfl) (by decide) (by decide) (k2 _ (by decide +kernel) (by decide +kernel)) (k2 _ (by decide +kernel) (by decide +kernel))
  by_cases c2 : ch a = 107
  · rw [c2] at num hc ⊢
    exact num 2 3 (by omega) (by omega) (by decide) (by decide +kernel) (by decide) (Or.inr (Or.inl rfl)) (by decide) (by decide) (k3 _ (by decide +kernel) (by decide +kernel) (by decide +kernel)) (k3 _ (by decide +kernel) (by decide +kernel) (by decide +kernel))
  by_cases c3 : ch a = 108
  · rw [c3] at num hc ⊢
    exact num 4 2 (by omega) (by omega) (by decide) (by decide +kernel) (by decide) (Or.inr (Or.inr (Or.inl rfl))) (by decide) (by decide) (k2 _ (by decide +kernel) (by decide +kernel)) (k2 _ (by decide +kernel) (by decide +kernel))
  by_cases c5 : ch a = 114
  · rw [c5] at num hc ⊢
    exact num 4 2 (by omega) (by omega) (by decide) (by decide +kernel) (by decide) (Or.inr (Or.inr (Or.inr (Or.inr (Or.inl rfl))))) (by decide) (by decide) (k2 _ (by decide +kernel) (by decide +kernel)) (k2 _ (by decide +kernel) (by decide +kernel))
  by_cases c6 : ch a = 119
  · rw [c6] at num hc ⊢
    exact num 0 1 (by omega) (by omega) (by decide) (by decide +kernel) (by decide) (Or.inr (Or.inr (Or.inr (Or.inr (Or.inr (Or.inl rfl)))))) (by decide) (by decide) (k1 _ (by decide +kernel)) (k1 _ (by decide +kernel))
  by_cases c7 : ch a = 120
  · rw [c7] at num hc ⊢
    exact num 0 1 (by omega) (by omega) (by decide) (by decide +kernel) (by decide) (Or.inr (Or.inr (Or.inr (Or.inr (Or.inr (Or.inr rfl)))))) (by decide) (by decide) (k1 _ (by decide +kernel)) (k1 _ (by decide +kernel))
  by_cases c4 : ch a = 112
  · rw [c4] at hc ⊢
    have hn0 : manyN 112 = 0 := by decide
    have hlq : letQ 112 := Or.inr (Or.inr (Or.inr (Or.inl rfl)))
    rw [hn0]
    have fu : FU = 4998 + 1 + 1 := rfl
    obtain ⟨M1, hM1⟩ : ∃ M1, M1 = s4_spot M (nI (a + 1)) := ⟨_, rfl⟩
    have i1 : iM M1 = iM M := by rw [hM1]; exact iM_spot _ _
    have s1 : p4_spot M1 = nI (a + 1) := by rw [hM1, gs4_spot_spot]
    have hr : fX4_isForm M 112 = (fX4_passes M1 59).bind (fun y22 => if y22.1 = 0 then (fX4_isForm_39 y22.2 112 (nI 0) (0 : Int32)) else (fX4_isForm_34 y22.2 112 (nI 0))) := by
      unfold fX4_isForm
      rw [show fX4_numbersOf 112 = some (nI 0) from by decide, Option.bind_some, if_pos (show (0 : Int32) ≤ nI 0 from by decide), elet_eq, hs, nI_1, ← hM1, if_neg (show ¬ (0 : Int32) < nI 0 from by decide)]
    have h39 : ∀ (W : BX4) (x : Int32), (x = 0 ∨ x = 1) → fX4_isForm_39 W 112 (nI 0) x = some (x, W) := by
      intro W x hx
      unfold fX4_isForm_39
      rw [fu, f43_u]
      unfold fX4_isForm_43_b
      rw [if_pos (show nI 0 ≤ (0 : Int32) from by decide), zb x hx]
      rfl
    have hl1 : lenT.getD 1 0 = 1 := by decide
    have hs59 : scC 1 (nI 0) = 59 := by decide +kernel
    rw [show fA 112 = 1 from by decide, if_pos (show isE 1 = 0 from by decide +kernel), fu, c38_u] at hc
    rcases part_c (vS := s2_next V (nI (a + 1))) V1 ht (a + 1) (by omega) rfl 59 (Or.inr rfl) with ⟨b1, b2, b3⟩ | ⟨b1, b2⟩
    · rcases pass_v (iM_tx i1 hR) ht (a + 1) (by omega) s1 59 with ⟨d1, d2, d3⟩ | ⟨d1, -⟩
      · refine ⟨1, s2_next (s2_next V (nI (a + 1))) (nI (a + 1 + 1)), s4_spot M1 (nI (a + 1 + 1)), a + 2, ?_, ?_, V5, (iM_spot _ _).trans i1, rfl, gs4_spot_spot _ _, by omega, by omega, Or.inr ⟨rfl, by omega, hlq, fun j hj => absurd hj (by omega)⟩⟩
        · rw [hc, c38_s 1 0 (by omega) (by omega) _ _ _ 1 (by rw [hs59]; exact b3), if_neg (by decide), c38_u]
          unfold fX2_isOfForm_38_b
          rw [hl1, if_pos (show nI 1 ≤ nI (0 + 1) from by decide)]
        · rw [hr, d3, Option.bind_some, if_neg (show ¬ (1 : Int32) = 0 from by decide)]
          exact h39 _ 1 (Or.inr rfl)
      · exact absurd ⟨b1, b2⟩ d1
    · rcases pass_v (iM_tx i1 hR) ht (a + 1) (by omega) s1 59 with ⟨d1, d2, -⟩ | ⟨-, d2⟩
      · exact absurd ⟨d1, d2⟩ b1
      · refine ⟨0, s2_next V (nI (a + 1)), s4_spot M1 (nI (a + 1)), a + 1, ?_, ?_, V5, (iM_spot _ _).trans i1, rfl, gs4_spot_spot _ _, by omega, by omega, Or.inl rfl⟩
        · rw [hc, c38_s 1 0 (by omega) (by omega) _ _ _ 0 (by rw [hs59]; exact b2), if_pos rfl]
        · rw [hr, d2, Option.bind_some, if_pos (show (0 : Int32) = 0 from rfl)]
          exact h39 _ 0 (Or.inl rfl)
  · have e5 : fA (ch a) = 5 := by
      unfold fA
      rw [if_neg c1, if_neg c2, if_neg c3, if_neg c4, if_neg c5, if_neg c6, if_neg c7]
    refine ⟨0, V, M, a, ?_, ?_, V5, rfl, V3, hs, Nat.le_refl _, by omega, Or.inl rfl⟩
    · rw [hc, e5, if_neg (show ¬ isE 5 = 0 from by decide +kernel)]
    · unfold fX4_isForm fX4_numbersOf
      rw [if_neg c2, if_neg c1, if_neg c3, if_neg c5, if_neg c6, if_neg c7, if_neg c4, Option.bind_some, if_neg (show ¬ (0 : Int32) ≤ -1 from by decide)]
