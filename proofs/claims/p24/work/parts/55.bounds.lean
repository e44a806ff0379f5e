/-! what a layout lays -/
abbrev LaySy (L : BX0) (S : Sy) : Prop :=
  (S.n ≤ 4) ∧
  (p0_plates L = nI S.n) ∧
  ((p0_width L).toInt = S.W) ∧
  (10 ≤ S.W) ∧
  (S.W ≤ 99) ∧
  (∀ k, k ≤ S.n → (p0_strengths L k).toInt = S.K k) ∧
  (∀ k, k ≤ S.n → 1 ≤ S.K k ∧ S.K k ≤ 9) ∧
  (∀ k, k ≤ S.n → (p0_lengths L k).toInt = S.L k) ∧
  (∀ k, k ≤ S.n → 0 ≤ S.L k ∧ S.L k ≤ 50) ∧
  (∀ k, k < S.n → -99 ≤ S.q k ∧ S.q k ≤ 99) ∧
  (∀ a b, a ≤ b → b < S.n → ∃ y, fX0_sumOfLoads L (nI a) (nI b) = some y ∧ y.toInt = preS S.q (b + 1) - preS S.q a) ∧
  (∀ k, k < S.n → ∃ y, fX0_leftBoundOf L (nI k) = some y ∧ y.toInt = S.lo k) ∧
  (∀ k, k < S.n → ∃ y, fX0_rightBoundOf L (nI k) = some y ∧ y.toInt = S.hi k) ∧
  (∀ k, k < S.n → 0 ≤ S.lo k) ∧
  (∀ k, k < S.n → S.hi k ≤ S.W) ∧
  (∀ i j, i ≤ j → j < S.n → S.lo i ≤ S.hi j)
theorem LaySy.n4 {L : BX0} {S : Sy} (h : LaySy L S) : S.n ≤ 4 := h.1
theorem LaySy.pl {L : BX0} {S : Sy} (h : LaySy L S) : p0_plates L = nI S.n := h.2.1
theorem LaySy.wd {L : BX0} {S : Sy} (h : LaySy L S) : (p0_width L).toInt = S.W := h.2.2.1
theorem LaySy.W0 {L : BX0} {S : Sy} (h : LaySy L S) : 10 ≤ S.W := h.2.2.2.1
theorem LaySy.W1 {L : BX0} {S : Sy} (h : LaySy L S) : S.W ≤ 99 := h.2.2.2.2.1
theorem LaySy.st {L : BX0} {S : Sy} (h : LaySy L S) : ∀ k, k ≤ S.n → (p0_strengths L k).toInt = S.K k := h.2.2.2.2.2.1
theorem LaySy.K0 {L : BX0} {S : Sy} (h : LaySy L S) : ∀ k, k ≤ S.n → 1 ≤ S.K k ∧ S.K k ≤ 9 := h.2.2.2.2.2.2.1
theorem LaySy.le {L : BX0} {S : Sy} (h : LaySy L S) : ∀ k, k ≤ S.n → (p0_lengths L k).toInt = S.L k := h.2.2.2.2.2.2.2.1
theorem LaySy.L0 {L : BX0} {S : Sy} (h : LaySy L S) : ∀ k, k ≤ S.n → 0 ≤ S.L k ∧ S.L k ≤ 50 := h.2.2.2.2.2.2.2.2.1
theorem LaySy.q0 {L : BX0} {S : Sy} (h : LaySy L S) : ∀ k, k < S.n → -99 ≤ S.q k ∧ S.q k ≤ 99 := h.2.2.2.2.2.2.2.2.2.1
theorem LaySy.su {L : BX0} {S : Sy} (h : LaySy L S) : ∀ a b, a ≤ b → b < S.n → ∃ y, fX0_sumOfLoads L (nI a) (nI b) = some y ∧ y.toInt = preS S.q (b + 1) - preS S.q a := h.2.2.2.2.2.2.2.2.2.2.1
theorem LaySy.lb {L : BX0} {S : Sy} (h : LaySy L S) : ∀ k, k < S.n → ∃ y, fX0_leftBoundOf L (nI k) = some y ∧ y.toInt = S.lo k := h.2.2.2.2.2.2.2.2.2.2.2.1
theorem LaySy.rb {L : BX0} {S : Sy} (h : LaySy L S) : ∀ k, k < S.n → ∃ y, fX0_rightBoundOf L (nI k) = some y ∧ y.toInt = S.hi k := h.2.2.2.2.2.2.2.2.2.2.2.2.1
theorem LaySy.lo0 {L : BX0} {S : Sy} (h : LaySy L S) : ∀ k, k < S.n → 0 ≤ S.lo k := h.2.2.2.2.2.2.2.2.2.2.2.2.2.1
theorem LaySy.hiW {L : BX0} {S : Sy} (h : LaySy L S) : ∀ k, k < S.n → S.hi k ≤ S.W := h.2.2.2.2.2.2.2.2.2.2.2.2.2.2.1
theorem LaySy.al {L : BX0} {S : Sy} (h : LaySy L S) : ∀ i j, i ≤ j → j < S.n → S.lo i ≤ S.hi j := h.2.2.2.2.2.2.2.2.2.2.2.2.2.2.2
abbrev BndQ (S : Sy) (v : BX1) : Prop :=
  (∀ i, i < S.n → ∃ k, k ≤ i ∧ (p1_lowest v i).toInt = S.lo k) ∧
  (∀ i, i < S.n → ∀ k, k ≤ i → S.lo k ≤ (p1_lowest v i).toInt) ∧
  (∀ i, i < S.n → ∃ k, i ≤ k ∧ k < S.n ∧ (p1_highest v i).toInt = S.hi k) ∧
  (∀ i, i < S.n → ∀ k, i ≤ k → k < S.n → (p1_highest v i).toInt ≤ S.hi k)
theorem BndQ.l1 {S : Sy} {v : BX1} (h : BndQ S v) : ∀ i, i < S.n → ∃ k, k ≤ i ∧ (p1_lowest v i).toInt = S.lo k := h.1
theorem BndQ.l2 {S : Sy} {v : BX1} (h : BndQ S v) : ∀ i, i < S.n → ∀ k, k ≤ i → S.lo k ≤ (p1_lowest v i).toInt := h.2.1
theorem BndQ.h1 {S : Sy} {v : BX1} (h : BndQ S v) : ∀ i, i < S.n → ∃ k, i ≤ k ∧ k < S.n ∧ (p1_highest v i).toInt = S.hi k := h.2.2.1
theorem BndQ.h2 {S : Sy} {v : BX1} (h : BndQ S v) : ∀ i, i < S.n → ∀ k, i ≤ k → k < S.n → (p1_highest v i).toInt ≤ S.hi k := h.2.2.2
/-- the same bounds -/
def SB (v v' : BX1) : Prop := p1_lowest v' = p1_lowest v ∧ p1_highest v' = p1_highest v
theorem SB_r (v : BX1) : SB v v := ⟨rfl, rfl⟩
theorem SB_t {a b c : BX1} (h : SB a b) (h2 : SB b c) : SB a c := ⟨h2.1.trans h.1, h2.2.trans h.2⟩
theorem BndQ_SB {S : Sy} {v v' : BX1} (h : BndQ S v) (e : SB v v') : BndQ S v' := by
  obtain ⟨e1, e2⟩ := e
  refine ⟨?_, ?_, ?_, ?_⟩
  · rw [e1]; exact h.l1
  · rw [e1]; exact h.l2
  · rw [e2]; exact h.h1
  · rw [e2]; exact h.h2
theorem bp47_u (k : Nat) : fX1_boundPlates_47 (k + 1) = fX1_boundPlates_47_b (fX1_boundPlates_47 k) := rfl
theorem bp47_s (k : BX0 → BX1 → Int32 → Int32 → Option BX1) (m : Nat) (L : BX0) (v : BX1) (x y z : Int32) (hm : m < 4) (y1 : fX0_rightBoundOf L (nI m) = some y) (z1 : (if y < x then y else x) = z) : fX1_boundPlates_47_b k L v x (nI m) = k L (s1_highest v (upd (p1_highest v) m z)) z (nI m + (-1)) := by
  unfold fX1_boundPlates_47_b
  rw [if_neg (nI_pos (by omega)), y1, Option.bind_some]
  simp only [elet_eq]
  rw [if_pos (inB_nI (by omega) (by omega)), nI_clamp (by omega), z1]
theorem bp47 {L : BX0} {S : Sy} (hL : LaySy L S) : ∀ (m n : Nat) (v : BX1) (x : Int32), m ≤ S.n →
    (m = S.n ∧ x.toInt = S.W ∨ ∃ k, m ≤ k ∧ k < S.n ∧ x.toInt = S.hi k) → (∀ k, m ≤ k → k < S.n → x.toInt ≤ S.hi k) →
    (∀ i, m ≤ i → i < S.n → ∃ k, i ≤ k ∧ k < S.n ∧ (p1_highest v i).toInt = S.hi k) → (∀ i, m ≤ i → i < S.n → ∀ k, i ≤ k → k < S.n → (p1_highest v i).toInt ≤ S.hi k) →
    ∃ v', fX1_boundPlates_47 (n + m + 1) L v x (nI m + (-1)) = some v' ∧ p1_lowest v' = p1_lowest v ∧
      (∀ i, i < S.n → ∃ k, i ≤ k ∧ k < S.n ∧ (p1_highest v' i).toInt = S.hi k) ∧ (∀ i, i < S.n → ∀ k, i ≤ k → k < S.n → (p1_highest v' i).toInt ≤ S.hi k) := by
  have n4 := hL.n4
  intro m
  induction m with
  | zero =>
    intro n v x _ _ _ h1 h2
    refine ⟨v, ?_, rfl, fun i hi => h1 i (by omega) hi, fun i hi => h2 i (by omega) hi⟩
    show fX1_boundPlates_47_b _ _ _ _ _ = _
    unfold fX1_boundPlates_47_b
    rw [if_pos (show nI 0 + (-1) < 0 from by decide)]
  | succ m ih =>
    intro n v x hm hx hx2 h1 h2
    obtain ⟨y, y1, y2⟩ := hL.rb m (by omega)
    have e1 : nI (m + 1) + (-1) = nI m := pk_m1 m
    have hz : ∃ z, (if y < x then y else x) = z ∧ (∃ k, m ≤ k ∧ k < S.n ∧ z.toInt = S.hi k) ∧ ∀ k, m ≤ k → k < S.n → z.toInt ≤ S.hi k := by
      refine ⟨_, rfl, ?_, ?_⟩
      · by_cases q : y < x
        · rw [if_pos q]; exact ⟨m, by omega, by omega, y2⟩
        · rw [if_neg q]
          rcases hx with ⟨hx1, hx3⟩ | ⟨k, k1, k2, k3⟩
          · refine ⟨m, by omega, by omega, ?_⟩
            rw [i_lt] at q
            have := hL.hiW m (by omega)
            omega
          · exact ⟨k, by omega, k2, k3⟩
      · intro k k1 k2
        by_cases q : y < x
        · rw [if_pos q]
          rw [i_lt] at q
          rcases Nat.eq_or_lt_of_le k1 with rfl | k3
          · omega
          · have := hx2 k k3 k2; omega
        · rw [if_neg q]
          rw [i_lt] at q
          rcases Nat.eq_or_lt_of_le k1 with rfl | k3
          · omega
          · exact hx2 k k3 k2
    obtain ⟨z, z1, z2, z3⟩ := hz
    have step : fX1_boundPlates_47 (n + (m + 1) + 1) L v x (nI (m + 1) + (-1)) = fX1_boundPlates_47 (n + m + 1) L (s1_highest v (upd (p1_highest v) m z)) z (nI m + (-1)) := by
      rw [bp47_u, e1, bp47_s _ m L v x y z (by omega) y1 z1, show n + (m + 1) = n + m + 1 from by omega]
    rw [step]
    obtain ⟨v', q1, q2, q3⟩ := ih n (s1_highest v (upd (p1_highest v) m z)) z (by omega) (Or.inr z2) z3 (by
      intro i i1 i2
      rw [gs1_highest_highest, upd_e]
      by_cases e : i = m
      · subst e; rw [if_pos rfl]; exact z2
      · rw [if_neg e]; exact h1 i (by omega) i2) (by
      intro i i1 i2 k k1 k2
      rw [gs1_highest_highest, upd_e]
      by_cases e : i = m
      · subst e; rw [if_pos rfl]; exact z3 k k1 k2
      · rw [if_neg e]; exact h2 i (by omega) i2 k k1 k2)
    exact ⟨v', q1, q2, q3⟩
theorem bp4 {L : BX0} {S : Sy} (hL : LaySy L S) : ∀ (d j n : Nat) (v : BX1) (x : Int32), j + d = S.n →
    (j = 0 ∧ x.toInt = 0 ∨ ∃ k, k < j ∧ x.toInt = S.lo k) → (∀ k, k < j → S.lo k ≤ x.toInt) →
    (∀ i, i < j → ∃ k, k ≤ i ∧ (p1_lowest v i).toInt = S.lo k) → (∀ i, i < j → ∀ k, k ≤ i → S.lo k ≤ (p1_lowest v i).toInt) →
    ∃ v', fX1_boundPlates_4 (n + d + 1) L v x (nI j) = some v' ∧ BndQ S v' := by
  have n4 := hL.n4
  intro d
  induction d with
  | zero =>
    intro j n v x hj _ _ h1 h2
    have hj' : j = S.n := by omega
    subst hj'
    have hw : fX1_boundPlates_4 (n + 0 + 1) L v x (nI S.n) = fX1_boundPlates_47 FU L v (p0_width L) (nI S.n - 1) := by
      show fX1_boundPlates_4_b _ _ _ _ _ = _
      unfold fX1_boundPlates_4_b
      rw [hL.pl, if_pos (Int32.le_refl _)]
      rfl
    have e : nI S.n - 1 = nI S.n + (-1) := Int32.sub_eq_add_neg _ _
    obtain ⟨k, hk⟩ := FU_ex (S.n + 1) (by omega)
    obtain ⟨v', q1, q2, q3, q4⟩ := bp47 hL S.n k v (p0_width L) (Nat.le_refl _) (Or.inl ⟨rfl, hL.wd⟩) (fun k h1 h2 => absurd h1 (by omega)) (fun i h1 h2 => absurd h1 (by omega)) (fun i h1 h2 => absurd h1 (by omega))
    refine ⟨v', ?_, ?_, ?_, q3, q4⟩
    · rw [hw, hk, e, show k + (S.n + 1) = k + S.n + 1 by omega]; exact q1
    · rw [q2]; exact h1
    · rw [q2]; exact h2
  | succ d ih =>
    intro j n v x hj hx hx2 h1 h2
    obtain ⟨y, y1, y2⟩ := hL.lb j (by omega)
    have hz : ∃ z, (if x < y then y else x) = z ∧ (∃ k, k ≤ j ∧ z.toInt = S.lo k) ∧ ∀ k, k ≤ j → S.lo k ≤ z.toInt := by
      refine ⟨_, rfl, ?_, ?_⟩
      · by_cases q : x < y
        · rw [if_pos q]; exact ⟨j, by omega, y2⟩
        · rw [if_neg q]
          rcases hx with ⟨hx1, hx3⟩ | ⟨k, k1, k2⟩
          · refine ⟨j, by omega, ?_⟩
            rw [i_lt] at q
            have := hL.lo0 j (by omega)
            omega
          · exact ⟨k, by omega, k2⟩
      · intro k k1
        by_cases q : x < y
        · rw [if_pos q]
          rw [i_lt] at q
          rcases Nat.eq_or_lt_of_le k1 with rfl | k3
          · omega
          · have := hx2 k k3; omega
        · rw [if_neg q]
          rw [i_lt] at q
          rcases Nat.eq_or_lt_of_le k1 with rfl | k3
          · omega
          · exact hx2 k k3
    obtain ⟨z, z1, z2, z3⟩ := hz
    have step : fX1_boundPlates_4 (n + (d + 1) + 1) L v x (nI j) = fX1_boundPlates_4 (n + d + 1) L (s1_lowest v (upd (p1_lowest v) j z)) z (nI (j + 1)) := by
      show fX1_boundPlates_4_b (fX1_boundPlates_4 (n + (d + 1))) _ _ _ _ = _
      unfold fX1_boundPlates_4_b
      rw [hL.pl, if_neg (nlec (by omega) (by omega)), y1, Option.bind_some]
      simp only [elet_eq]
      rw [if_pos (inB_nI (by omega) (by omega)), nI_clamp (by omega), z1, nI_1]
      rfl
    rw [step]
    refine ih (j + 1) n _ z (by omega) (Or.inr ?_) (fun k hk => z3 k (by omega)) ?_ ?_
    · obtain ⟨k, k1, k2⟩ := z2
      exact ⟨k, by omega, k2⟩
    · intro i i1
      rw [gs1_lowest_lowest, upd_e]
      by_cases e : i = j
      · subst e; rw [if_pos rfl]; exact z2
      · rw [if_neg e]; exact h1 i (by omega)
    · intro i i1 k k1
      rw [gs1_lowest_lowest, upd_e]
      by_cases e : i = j
      · subst e; rw [if_pos rfl]; exact z3 k k1
      · rw [if_neg e]; exact h2 i (by omega) k k1
theorem bound_ok {L : BX0} {S : Sy} (hL : LaySy L S) (v : BX1) : ∃ v', fX1_boundPlates L v = some v' ∧ BndQ S v' := by
  have n4 := hL.n4
  obtain ⟨k, hk⟩ := FU_ex (S.n + 1) (by omega)
  unfold fX1_boundPlates
  rw [hk, show k + (S.n + 1) = k + S.n + 1 by omega]
  exact bp4 hL S.n 0 k v 0 (by omega) (Or.inl ⟨rfl, rfl⟩) (fun k h => absurd h (by omega)) (fun k h => absurd h (by omega)) (fun k h => absurd h (by omega))
/-! a guess -/
def digG (g i : Nat) : Nat := g / 4 ^ i % 4
theorem hold_v (g i : Nat) (hg : g < 256) (hi : i < 4) : ((nI g >>> (((2 : Int32) * nI i) &&& 31)) &&& (3 : Int32)) = nI (digG g i) := by
  have h3 : (3 : Int32).toBitVec.toNat = 2 ^ 2 - 1 := by decide
  have key : ∀ k s, (s.toBitVec.smod 32).toNat = k → k ≤ 8 → ((nI g >>> s) &&& (3 : Int32)) = nI (g / 2 ^ k % 4) := by
    intro k s hs hk
    rw [pk_shrN (by omega) s k hs, pk_andN (Nat.lt_of_le_of_lt (Nat.div_le_self _ _) (by omega)) 2 h3]
  rcases (show i = 0 ∨ i = 1 ∨ i = 2 ∨ i = 3 by omega) with rfl | rfl | rfl | rfl
  · exact key 0 _ (by decide) (by omega)
  · exact key 2 _ (by decide) (by omega)
  · exact key 4 _ (by decide) (by omega)
  · exact key 6 _ (by decide) (by omega)
theorem tg_all {L : BX0} {S : Sy} (hL : LaySy L S) (g : Nat) (hg : g < 256) : ∀ (d j n : Nat) (v : BX1), j + d = S.n → (∀ i, i < j → p1_holds v i = nI (digG g i)) →
    ∃ v', fX1_takeGuess_2 (n + d + 1) L v (nI g) (nI j) = some v' ∧ SB v v' ∧ ∀ i, i < S.n → p1_holds v' i = nI (digG g i) := by
  have n4 := hL.n4
  intro d
  induction d with
  | zero =>
    intro j n v hj h
    refine ⟨v, ?_, SB_r v, fun i hi => h i (by omega)⟩
    show fX1_takeGuess_2_b _ _ _ _ _ = _
    unfold fX1_takeGuess_2_b
    rw [hL.pl, if_pos (lec (by omega) (by omega))]
  | succ d ih =>
    intro j n v hj h
    have step : fX1_takeGuess_2 (n + (d + 1) + 1) L v (nI g) (nI j) = fX1_takeGuess_2 (n + d + 1) L (s1_holds v (upd (p1_holds v) j (nI (digG g j)))) (nI g) (nI (j + 1)) := by
      show fX1_takeGuess_2_b (fX1_takeGuess_2 (n + (d + 1))) _ _ _ _ = _
      unfold fX1_takeGuess_2_b
      rw [hL.pl, if_neg (nlec (by omega) (by omega)), if_pos (inB_nI (by omega) (by omega)), nI_clamp (by omega), hold_v g j hg (by omega)]
      simp only [elet_eq]
      rw [nI_1]
      rfl
    obtain ⟨v', q1, q2, q3⟩ := ih (j + 1) n (s1_holds v (upd (p1_holds v) j (nI (digG g j)))) (by omega) (by
      intro i hi
      rw [gs1_holds_holds, upd_e]
      by_cases e : i = j
      · subst e; rw [if_pos rfl]
      · rw [if_neg e]; exact h i (by omega))
    exact ⟨v', step.trans q1, q2, q3⟩
theorem take_ok {L : BX0} {S : Sy} (hL : LaySy L S) (g : Nat) (hg : g < 256) (v : BX1) : ∃ v', fX1_takeGuess L v (nI g) = some v' ∧ SB v v' ∧ ∀ i, i < S.n → p1_holds v' i = nI (digG g i) := by
  have n4 := hL.n4
  obtain ⟨k, hk⟩ := FU_ex (S.n + 1) (by omega)
  unfold fX1_takeGuess
  rw [hk, show k + (S.n + 1) = k + S.n + 1 by omega]
  exact tg_all hL g hg S.n 0 k v (by omega) (fun i hi => absurd hi (by omega))
