/-! texts: characters, numbers -/
/-- the text -/
abbrev TxC (vS : BX2) (t : Nat) (ch : Nat → Int32) : Prop := p2_size vS = nI t ∧ ∀ i, i < t → p2_characters vS i = ch i
abbrev TxR (M : BX4) (t : Nat) (ch : Nat → Int32) : Prop := p4_typed M = nI t ∧ ∀ i, i < t → p4_text M i = ch i
def digQ (t : Nat) (ch : Nat → Int32) (p : Nat) : Prop := p < t ∧ 48 ≤ ch p ∧ ch p ≤ 57
def rdP (t : Nat) (ch : Nat → Int32) (p : Nat) (q : Nat) (v : Nat) : Prop :=
  (digQ t ch p ∧ ¬ digQ t ch (p + 1) ∧ q = p + 1 ∧ v < 10 ∧ ch p = nI (48 + v)) ∨
  (digQ t ch p ∧ digQ t ch (p + 1) ∧ q = p + 2 ∧ ∃ a b, a < 10 ∧ b < 10 ∧ v = 10 * a + b ∧ ch p = nI (48 + a) ∧ ch (p + 1) = nI (48 + b))
theorem dig_v {t : Nat} {ch : Nat → Int32} {p : Nat} (h : digQ t ch p) : ∃ a, a < 10 ∧ ch p = nI (48 + a) := by
  obtain ⟨-, h1, h2⟩ := h
  have n0 : ¬ ch p < 0 := by
    rw [i_lt]; rw [i_le] at h1
    have e1 : (48 : Int32).toInt = 48 := rfl
    have e2 : (0 : Int32).toInt = 0 := rfl
    omega
  obtain ⟨j, hj, e⟩ := nI_of n0
  rw [e] at h1 h2 ⊢
  rw [i_le, nI_toInt hj] at h1 h2
  have e1 : (48 : Int32).toInt = 48 := rfl
  have e2 : (57 : Int32).toInt = 57 := rfl
  exact ⟨j - 48, by omega, by congr 1; omega⟩
theorem rd_ex {t : Nat} {ch : Nat → Int32} {p : Nat} (h : digQ t ch p) : ∃ q v, rdP t ch p q v ∧ v ≤ 99 ∧ p < q ∧ q ≤ t := by
  obtain ⟨a, a1, a2⟩ := dig_v h
  have ht := h.1
  by_cases h2 : digQ t ch (p + 1)
  · obtain ⟨b, b1, b2⟩ := dig_v h2
    have := h2.1
    exact ⟨p + 2, 10 * a + b, Or.inr ⟨h, h2, rfl, a, b, a1, b1, rfl, a2, b2⟩, by omega, by omega, by omega⟩
  · exact ⟨p + 1, a, Or.inl ⟨h, h2, rfl, a1, a2⟩, by omega, by omega, by omega⟩
def fS (v : BX2) := (p2_characters v, p2_size v, p2_settings v, p2_reason v, p2_cause v, p2_start v)
theorem fS_tx {v v' : BX2} (e : fS v' = fS v) {t : Nat} {ch : Nat → Int32} (h : TxC v t ch) : TxC v' t ch := by
  have e1 : p2_characters v' = p2_characters v := congrArg (fun z => z.1) e
  have e2 : p2_size v' = p2_size v := congrArg (fun z => z.2.1) e
  exact ⟨e2.trans h.1, fun i hi => by rw [e1]; exact h.2 i hi⟩
theorem fS_start {v v' : BX2} (e : fS v' = fS v) : p2_start v' = p2_start v := congrArg (fun z => z.2.2.2.2.2) e
theorem fS_set {v v' : BX2} (e : fS v' = fS v) : p2_settings v' = p2_settings v := congrArg (fun z => z.2.2.1) e
theorem char_v {vS : BX2} {t : Nat} {ch : Nat → Int32} (h : TxC vS t ch) (ht : t ≤ 60) (p : Nat) (hp : p < 1000) : fX2_characterAt vS (nI p) = some (if p < t then ch p else -1) := by
  unfold fX2_characterAt
  rw [if_neg (nI_pos (by omega)), h.1]
  by_cases q : p < t
  · rw [if_neg (nlec q (by omega)), if_pos (inB_nI (by omega) (by omega)), nI_clamp (by omega), h.2 p q, if_pos q]
  · rw [if_pos (lec (by omega) (by omega)), if_neg q]
theorem rch_v {vS : BX2} {t : Nat} {ch : Nat → Int32} (h : TxC vS t ch) (ht : t ≤ 60) (p : Nat) (hp : p < 1000) (hn : p2_next vS = nI p) (x : Int32) (hx : x ≠ -1) : (p < t ∧ ch p = x ∧ fX2_readCharacter vS x = some (1, s2_next vS (nI (p + 1)))) ∨ (¬ (p < t ∧ ch p = x) ∧ fX2_readCharacter vS x = some (0, vS)) := by
  unfold fX2_readCharacter
  rw [hn, char_v h ht p hp, Option.bind_some]
  by_cases q : p < t
  · rw [if_pos q]
    by_cases q2 : ch p = x
    · left
      rw [if_pos q2, elet_eq, nI_1]
      exact ⟨q, q2, rfl⟩
    · right
      rw [if_neg q2]
      exact ⟨fun z => q2 z.2, rfl⟩
  · right
    rw [if_neg q, if_neg (fun z => hx z.symm)]
    exact ⟨fun z => q z.1, rfl⟩
theorem isDig_v (x : Int32) : fX2_isDigit x = some (if 48 ≤ x ∧ x ≤ 57 then 1 else 0) := by
  unfold fX2_isDigit
  by_cases a : x < 48
  · rw [if_pos a, if_neg (fun z => Int32.not_le.mpr a z.1)]
  · rw [if_neg a]
    by_cases b : 57 < x
    · rw [if_pos b, if_neg (fun z => Int32.not_le.mpr b z.2)]
    · rw [if_neg b, if_pos ⟨Int32.not_lt.mp a, Int32.not_lt.mp b⟩]
theorem rn4_u (k : Nat) : fX2_readNumber_4 (k + 1) = fX2_readNumber_4_b (fX2_readNumber_4 k) := rfl
theorem rn_s {vS : BX2} {t : Nat} {ch : Nat → Int32} (h : TxC vS t ch) (ht : t ≤ 60) (p : Nat) (hp : p < 1000) (hn : p2_next vS = nI p) (k : BX2 → Int32 → Int32 → Int32 → Option (Int32 × BX2)) (x1 x2 : Int32) (d : Nat) (hd : d < 2) :
    (digQ t ch p ∧ fX2_readNumber_4_b k vS x1 x2 (nI d) = k (s2_next vS (nI (p + 1))) x1 (((10 : Int32) * x2) + ch p - 48) (nI (d + 1))) ∨ (¬ digQ t ch p ∧ fX2_readNumber_4_b k vS x1 x2 (nI d) = fX2_readNumber_56 vS x1 x2 (nI d)) := by
  have a1 : ¬ (2 : Int32) ≤ nI d := nlec (b := d) (a := 2) (by omega) (by omega)
  unfold fX2_readNumber_4_b
  rw [if_neg a1, hn, char_v h ht p hp, Option.bind_some, isDig_v, Option.bind_some]
  by_cases q : p < t
  · rw [if_pos q]
    by_cases q2 : 48 ≤ ch p ∧ ch p ≤ 57
    · left
      rw [if_pos q2, if_neg (by decide), Option.bind_some]
      simp only [elet_eq]
      rw [nI_1, nI_1]
      exact ⟨⟨q, q2⟩, rfl⟩
    · right
      rw [if_neg q2, if_pos rfl]
      exact ⟨fun z => q2 z.2, rfl⟩
  · right
    rw [if_neg q, if_neg (show ¬ ((48 : Int32) ≤ -1 ∧ (-1 : Int32) ≤ 57) from by decide), if_pos rfl]
    exact ⟨fun z => q z.1, rfl⟩
theorem dval (a b : Nat) : ((10 : Int32) * nI a) + nI (48 + b) - 48 = nI (10 * a + b) := by
  have e1 : (10 : Int32) * nI a = nI (10 * a) := pk_mul 10 a
  have e2 : nI (10 * a + (48 + b)) - nI 48 = nI (10 * a + (48 + b) - 48) := pk_sub (by omega)
  rw [e1, nI_add, show (48 : Int32) = nI 48 from rfl, e2, show 10 * a + (48 + b) - 48 = 10 * a + b by omega]
theorem rnum_v {vS : BX2} {t : Nat} {ch : Nat → Int32} (h : TxC vS t ch) (ht : t ≤ 60) (p : Nat) (hp : p < 500) (hn : p2_next vS = nI p) (k : Nat) (hk : k < 3) (hc : p2_numberCount vS = nI k) (sg : Int32) :
    (¬ digQ t ch p ∧ fX2_readNumber vS sg = some (0, vS)) ∨ ∃ q v vS', rdP t ch p q v ∧ v ≤ 99 ∧ p < q ∧ q ≤ t ∧ fX2_readNumber vS sg = some (1, vS') ∧ fS vS' = fS vS ∧ p2_next vS' = nI q ∧ p2_numberCount vS' = nI (k + 1) ∧ p2_numbers vS' = upd (p2_numbers vS) k (sg * nI v) := by
  have fin : ∀ (w : BX2) (x : Int32) (d : Nat), 0 < d → d < 3 → p2_numberCount w = nI k → fX2_readNumber_56 w sg x (nI d) = some (1, s2_numberCount (s2_numbers w (upd (p2_numbers w) k (sg * x))) (nI (k + 1))) := by
    intro w x d h0 h3 hw
    unfold fX2_readNumber_56
    rw [if_neg (nI_ne0 h0 (by omega)), hw, if_pos (show nI k < (3 : Int32) from ltc (a := k) (b := 3) hk (by omega)), if_pos (inB_nI (by omega) (by omega)), nI_clamp (by omega)]
    simp only [elet_eq]
    rw [gs2_numberCount_numbers, hw, nI_1]
  have fr : ∀ (w : BX2) (f : Nat → Int32) (z : Int32), fS (s2_numberCount (s2_numbers w f) z) = fS w := fun w f z => rfl
  have fu : FU = 4997 + 1 + 1 + 1 := rfl
  unfold fX2_readNumber
  rw [fu, rn4_u]
  rcases rn_s h ht p (by omega) hn (fX2_readNumber_4 (4997 + 1 + 1)) sg 0 0 (by omega) with ⟨d1, e1⟩ | ⟨d1, e1⟩
  · right
    have h1 : TxC (s2_next vS (nI (p + 1))) t ch := h
    rw [show (0 : Int32) = nI 0 from rfl] at e1 ⊢
    rw [e1, rn4_u]
    obtain ⟨a, a1, a2⟩ := dig_v d1
    have hv : ((10 : Int32) * nI 0) + ch p - 48 = nI a := by rw [a2, dval, Nat.mul_zero, Nat.zero_add]
    rw [hv]
    rcases rn_s h1 ht (p + 1) (by omega) rfl (fX2_readNumber_4 (4997 + 1)) sg (nI a) 1 (by omega) with ⟨d2, e2⟩ | ⟨d2, e2⟩
    · obtain ⟨b, b1, b2⟩ := dig_v d2
      have hv2 : ((10 : Int32) * nI a) + ch (p + 1) - 48 = nI (10 * a + b) := by rw [b2, dval]
      refine ⟨p + 2, 10 * a + b, s2_numberCount (s2_numbers (s2_next (s2_next vS (nI (p + 1))) (nI (p + 1 + 1))) (upd (p2_numbers vS) k (sg * nI (10 * a + b)))) (nI (k + 1)), Or.inr ⟨d1, d2, rfl, a, b, a1, b1, rfl, a2, b2⟩, by omega, by omega, by have := d2.1; omega, ?_, rfl, rfl, rfl, rfl⟩
      rw [show (0 + 1 : Nat) = 1 from rfl, e2, rn4_u, hv2]
      unfold fX2_readNumber_4_b
      rw [if_pos (show (2 : Int32) ≤ nI (1 + 1) from by decide), fin (s2_next (s2_next vS (nI (p + 1))) (nI (p + 1 + 1))) _ 2 (by omega) (by omega) hc]
      rfl
    · refine ⟨p + 1, a, s2_numberCount (s2_numbers (s2_next vS (nI (p + 1))) (upd (p2_numbers vS) k (sg * nI a))) (nI (k + 1)), Or.inl ⟨d1, d2, rfl, a1, a2⟩, by omega, by omega, by have := d1.1; omega, ?_, rfl, rfl, rfl, rfl⟩
      rw [show (0 + 1 : Nat) = 1 from rfl, e2, fin (s2_next vS (nI (p + 1))) _ 1 (by omega) (by omega) hc]
      rfl
  · left
    refine ⟨d1, ?_⟩
    rw [show (0 : Int32) = nI 0 from rfl] at e1 ⊢
    rw [e1]
    unfold fX2_readNumber_56
    rw [if_pos (show nI 0 = 0 from rfl)]
    rfl
/-! the reference -/
def iM (M : BX4) := (p4_s M, p4_past M, p4_held M, p4_pasts M, p4_runs M, p4_text M, p4_typed M, p4_settings M)
theorem iM_tx {M M' : BX4} (e : iM M' = iM M) {t : Nat} {ch : Nat → Int32} (h : TxR M t ch) : TxR M' t ch := by
  have e1 : p4_text M' = p4_text M := congrArg (fun z => z.2.2.2.2.2.1) e
  have e2 : p4_typed M' = p4_typed M := congrArg (fun z => z.2.2.2.2.2.2.1) e
  exact ⟨e2.trans h.1, fun i hi => by rw [e1]; exact h.2 i hi⟩
theorem iM_spot (M : BX4) (z : Int32) : iM (s4_spot M z) = iM M := by
  unfold iM
  simp only [gs4_s_spot, gs4_past_spot, gs4_held_spot, gs4_pasts_spot, gs4_runs_spot, gs4_text_spot, gs4_typed_spot, gs4_settings_spot]
theorem iM_told (M : BX4) (z : Nat → Int32) : iM (s4_told M z) = iM M := by
  unfold iM
  simp only [gs4_s_told, gs4_past_told, gs4_held_told, gs4_pasts_told, gs4_runs_told, gs4_text_told, gs4_typed_told, gs4_settings_told]
theorem here_v {M : BX4} {t : Nat} {ch : Nat → Int32} (h : TxR M t ch) (ht : t ≤ 60) (p : Nat) (hp : p < 1000) (hs : p4_spot M = nI p) (a b : Int32) : (p < t ∧ a ≤ ch p ∧ ch p ≤ b ∧ fX4_isHere M a b = some 1) ∨ (¬ (p < t ∧ a ≤ ch p ∧ ch p ≤ b) ∧ fX4_isHere M a b = some 0) := by
  unfold fX4_isHere
  rw [h.1, hs]
  by_cases q : p < t
  · rw [if_neg (nlec q (by omega)), if_pos (inB_nI (by omega) (by omega)), nI_clamp (by omega), h.2 p q, in4_v, Option.bind_some]
    by_cases a1 : ch p < a
    · right
      rw [if_pos a1, if_pos rfl]
      exact ⟨fun z => Int32.not_le.mpr a1 z.2.1, rfl⟩
    · by_cases a2 : b < ch p
      · right
        rw [if_neg a1, if_pos a2, if_pos rfl]
        exact ⟨fun z => Int32.not_le.mpr a2 z.2.2, rfl⟩
      · left
        rw [if_neg a1, if_neg a2, if_neg (by decide)]
        exact ⟨q, Int32.not_lt.mp a1, Int32.not_lt.mp a2, rfl⟩
  · right
    rw [if_pos (lec (by omega) (by omega))]
    exact ⟨fun z => q z.1, rfl⟩
theorem pass_v {M : BX4} {t : Nat} {ch : Nat → Int32} (h : TxR M t ch) (ht : t ≤ 60) (p : Nat) (hp : p < 1000) (hs : p4_spot M = nI p) (x : Int32) : (p < t ∧ ch p = x ∧ fX4_passes M x = some (1, s4_spot M (nI (p + 1)))) ∨ (¬ (p < t ∧ ch p = x) ∧ fX4_passes M x = some (0, s4_spot M (nI p))) := by
  unfold fX4_passes fX4_passes_21
  rw [hs]
  rcases here_v h ht p hp hs x x with ⟨a1, a2, a3, a4⟩ | ⟨a1, a2⟩
  · left
    rw [a4, Option.bind_some, if_neg (by decide), elet_eq, nI_1]
    refine ⟨a1, ?_, rfl⟩
    rw [i_eq]; rw [i_le] at a2 a3; omega
  · right
    rw [a2, Option.bind_some, if_pos rfl, elet_eq, add0]
    refine ⟨fun z => a1 ⟨z.1, by rw [z.2]; exact Int32.le_refl _, by rw [z.2]; exact Int32.le_refl _⟩, rfl⟩
theorem n12_u (k : Nat) : fX4_number_12 (k + 1) = fX4_number_12_b (fX4_number_12 k) := rfl
theorem n12_s {M : BX4} {t : Nat} {ch : Nat → Int32} (h : TxR M t ch) (ht : t ≤ 60) (p p0 : Nat) (hp : p < 1000) (h0 : p0 ≤ p) (hs : p4_spot M = nI p) (k : BX4 → Int32 → Int32 → Int32 → Option (Int32 × BX4)) (j : Nat) (hj : j < 3) (x2 : Int32) :
    (digQ t ch p ∧ p < p0 + 2 ∧ fX4_number_12_b k M (nI j) x2 (nI p0) = k (s4_spot (s4_told M (upd (p4_told M) j (((10 : Int32) * p4_told M j) + ch p - 48))) (nI (p + 1))) (nI j) x2 (nI p0)) ∨ (¬ (digQ t ch p ∧ p < p0 + 2) ∧ fX4_number_12_b k M (nI j) x2 (nI p0) = fX4_number_74 M x2 (nI p0)) := by
  unfold fX4_number_12_b
  rcases here_v h ht p hp hs 48 57 with ⟨a1, a2, a3, a4⟩ | ⟨a1, a2⟩
  · rw [a4, Option.bind_some, if_neg (by decide), hs, pk_sub h0]
    by_cases q : p < p0 + 2
    · left
      have c1 : ¬ (2 : Int32) ≤ nI (p - p0) := nlec (b := p - p0) (a := 2) (by omega) (by omega)
      rw [if_neg c1, if_pos (inB_nI (by omega) (by omega)), if_pos (inB_nI (by omega) (by omega)), if_pos (inB_nI (by omega) (by omega)), nI_clamp (by omega), nI_clamp (by omega), h.2 p a1]
      simp only [elet_eq]
      rw [gs4_spot_told, hs, nI_1]
      exact ⟨⟨a1, a2, a3⟩, q, rfl⟩
    · right
      have c1 : (2 : Int32) ≤ nI (p - p0) := lec (a := 2) (b := p - p0) (by omega) (by omega)
      rw [if_pos c1]
      exact ⟨fun z => q z.2, rfl⟩
  · right
    rw [a2, Option.bind_some, if_pos rfl]
    exact ⟨fun z => a1 ⟨z.1.1, z.1.2⟩, rfl⟩
/-- a number and what stands behind it -/
theorem num_v {M : BX4} {t : Nat} {ch : Nat → Int32} (h : TxR M t ch) (ht : t ≤ 60) (p : Nat) (hp : p < 500) (hs : p4_spot M = nI p) (j : Nat) (hj : j < 3) (x : Int32) :
    (¬ digQ t ch p ∧ ∃ M', fX4_number M (nI j) x = some (0, M') ∧ iM M' = iM M ∧ p4_spot M' = nI p) ∨
    ∃ q v, rdP t ch p q v ∧ ((¬ (q < t ∧ ch q = x) ∧ ∃ M', fX4_number M (nI j) x = some (0, M') ∧ iM M' = iM M ∧ p4_spot M' = nI q) ∨
      (q < t ∧ ch q = x ∧ ∃ M', fX4_number M (nI j) x = some (1, M') ∧ iM M' = iM M ∧ p4_spot M' = nI (q + 1) ∧ p4_told M' j = nI v ∧ ∀ i, i ≠ j → p4_told M' i = p4_told M i)) := by
  have fu : FU = 4997 + 1 + 1 + 1 := rfl
  have i3 : inB (nI j) 3 = true := inB_nI (by omega) (by omega)
  have hst : fX4_number M (nI j) x = fX4_number_12 FU (s4_told M (upd (p4_told M) j 0)) (nI j) x (nI p) := by
    unfold fX4_number
    rw [hs, elet_eq, if_pos i3, nI_clamp (by omega), elet_eq]
  have e74 : ∀ (w : BX4) (q : Nat), p < q → q < 1000 → p4_spot w = nI q → TxR w t ch → (q < t ∧ ch q = x ∧ fX4_number_74 w x (nI p) = some (1, s4_spot w (nI (q + 1)))) ∨ (¬ (q < t ∧ ch q = x) ∧ fX4_number_74 w x (nI p) = some (0, s4_spot w (nI q))) := by
    intro w q hq hq2 hw hT
    unfold fX4_number_74
    rw [hw, if_neg (nlec hq (by omega))]
    rcases pass_v hT ht q hq2 hw x with ⟨a1, a2, a3⟩ | ⟨a1, a2⟩
    · left; rw [a3, Option.bind_some, if_neg (show ¬ (1 : Int32) = 0 from by decide)]; exact ⟨a1, a2, rfl⟩
    · right; rw [a2, Option.bind_some, if_pos rfl]; exact ⟨a1, rfl⟩
  obtain ⟨M1, hM1⟩ : ∃ M1, M1 = s4_told M (upd (p4_told M) j 0) := ⟨_, rfl⟩
  have s1 : p4_spot M1 = nI p := by rw [hM1, gs4_spot_told]; exact hs
  have t1 : TxR M1 t ch := iM_tx (by rw [hM1]; exact iM_told _ _) h
  have i1 : iM M1 = iM M := by rw [hM1]; exact iM_told _ _
  have v1 : p4_told M1 = upd (p4_told M) j 0 := by rw [hM1, gs4_told_told]
  rw [hst, ← hM1, fu, n12_u]
  rcases n12_s t1 ht p p (by omega) (Nat.le_refl _) s1 (fX4_number_12 (4997 + 1 + 1)) j hj x with ⟨d1, -, e1⟩ | ⟨d1, e1⟩
  · right
    obtain ⟨a, a1, a2⟩ := dig_v d1
    have hv : ((10 : Int32) * p4_told M1 j) + ch p - 48 = nI a := by
      rw [v1, pk_us, a2, show (0 : Int32) = nI 0 from rfl, dval, Nat.mul_zero, Nat.zero_add]
    rw [e1, hv, n12_u]
    obtain ⟨M2, hM2⟩ : ∃ M2, M2 = s4_spot (s4_told M1 (upd (p4_told M1) j (nI a))) (nI (p + 1)) := ⟨_, rfl⟩
    have s2 : p4_spot M2 = nI (p + 1) := by rw [hM2, gs4_spot_spot]
    have i2 : iM M2 = iM M := by rw [hM2, iM_spot, iM_told]; exact i1
    have t2 : TxR M2 t ch := iM_tx i2 h
    have v2 : p4_told M2 = upd (p4_told M1) j (nI a) := by rw [hM2, gs4_told_spot, gs4_told_told]
    rw [← hM2]
    have other : ∀ (w : BX4) (z : Int32), p4_told w = upd (p4_told M2) j z → ∀ i, i ≠ j → p4_told w i = p4_told M i := by
      intro w z hw i hi
      rw [hw, pk_un hi, v2, pk_un hi, v1, pk_un hi]
    have other2 : ∀ i, i ≠ j → p4_told M2 i = p4_told M i := by
      intro i hi
      rw [v2, pk_un hi, v1, pk_un hi]
    rcases n12_s t2 ht (p + 1) p (by omega) (by omega) s2 (fX4_number_12 (4997 + 1)) j hj x with ⟨d2, -, e2⟩ | ⟨d2, e2⟩
    · obtain ⟨b, b1, b2⟩ := dig_v d2
      have hv2 : ((10 : Int32) * p4_told M2 j) + ch (p + 1) - 48 = nI (10 * a + b) := by
        rw [v2, pk_us, b2, dval]
      rw [e2, hv2, n12_u]
      obtain ⟨M3, hM3⟩ : ∃ M3, M3 = s4_spot (s4_told M2 (upd (p4_told M2) j (nI (10 * a + b)))) (nI (p + 1 + 1)) := ⟨_, rfl⟩
      have s3 : p4_spot M3 = nI (p + 2) := by rw [hM3, gs4_spot_spot]
      have i3' : iM M3 = iM M := by rw [hM3, iM_spot, iM_told]; exact i2
      have t3 : TxR M3 t ch := iM_tx i3' h
      have v3 : p4_told M3 = upd (p4_told M2) j (nI (10 * a + b)) := by rw [hM3, gs4_told_spot, gs4_told_told]
      rw [← hM3]
      have hd2 := d2.1
      refine ⟨p + 2, 10 * a + b, Or.inr ⟨d1, d2, rfl, a, b, a1, b1, rfl, a2, b2⟩, ?_⟩
      rcases n12_s t3 ht (p + 2) p (by omega) (by omega) s3 (fX4_number_12 4997) j hj x with ⟨-, d3, -⟩ | ⟨-, e3⟩
      · omega
      · rw [e3]
        rcases e74 M3 (p + 2) (by omega) (by omega) s3 t3 with ⟨c1, c2, c3⟩ | ⟨c1, c2⟩
        · right
          refine ⟨c1, c2, _, c3, by rw [iM_spot]; exact i3', gs4_spot_spot _ _, ?_, ?_⟩
          · rw [gs4_told_spot, v3, pk_us]
          · intro i hi; rw [gs4_told_spot]; exact other M3 _ v3 i hi
        · left
          exact ⟨c1, _, c2, by rw [iM_spot]; exact i3', gs4_spot_spot _ _⟩
    · have hd1 := d1.1
      refine ⟨p + 1, a, Or.inl ⟨d1, fun z => d2 ⟨z, by omega⟩, rfl, a1, a2⟩, ?_⟩
      rw [e2]
      rcases e74 M2 (p + 1) (by omega) (by omega) s2 t2 with ⟨c1, c2, c3⟩ | ⟨c1, c2⟩
      · right
        refine ⟨c1, c2, _, c3, by rw [iM_spot]; exact i2, gs4_spot_spot _ _, ?_, ?_⟩
        · rw [gs4_told_spot, v2, pk_us]
        · intro i hi; rw [gs4_told_spot]; exact other2 i hi
      · left
        exact ⟨c1, _, c2, by rw [iM_spot]; exact i2, gs4_spot_spot _ _⟩
  · left
    refine ⟨fun z => d1 ⟨z, by omega⟩, M1, ?_, i1, s1⟩
    rw [e1]
    unfold fX4_number_74
    rw [s1, if_pos (Int32.le_refl _)]
theorem rd_one {t : Nat} {ch : Nat → Int32} {p q v q' v' : Nat} (h : rdP t ch p q v) (h' : rdP t ch p q' v') : q = q' ∧ v = v' := by
  have inj : ∀ a b : Nat, a < 10 → b < 10 → nI (48 + a) = nI (48 + b) → a = b := by
    intro a b ha hb e
    have := (nI_eq (show 48 + a < 2 ^ 31 by omega) (show 48 + b < 2 ^ 31 by omega)).mp e
    omega
  rcases h with ⟨a1, a2, a3, a4, a5⟩ | ⟨a1, a2, a3, a, b, a4, a5, a6, a7, a8⟩ <;> rcases h' with ⟨b1, b2, b3, b4, b5⟩ | ⟨b1, b2, b3, c, d, b4, b5, b6, b7, b8⟩
  · exact ⟨by omega, inj v v' a4 b4 (a5.symm.trans b5)⟩
  · exact absurd b2 a2
  · exact absurd a2 b2
  · have x1 := inj a c a4 b4 (a7.symm.trans b7)
    have x2 := inj b d a5 b5 (a8.symm.trans b8)
    exact ⟨by omega, by omega⟩
