theorem ltc {a b : Nat} (h : a < b) (hb : b < 2 ^ 31) : nI a < nI b := nI_lt h hb
theorem lec {a b : Nat} (h : a ≤ b) (hb : b < 2 ^ 31) : nI a ≤ nI b := nI_le h hb
theorem nltc {a b : Nat} (h : b ≤ a) (ha : a < 2 ^ 31) : ¬ nI a < nI b := nI_nlt h ha
theorem nlec {a b : Nat} (h : b < a) (ha : a < 2 ^ 31) : ¬ nI a ≤ nI b := nI_ge h ha
/-! copyFrom -/
def cfA (O : BX0) (j : Nat) (L : BX0) : BX0 := s0_lengths (s0_strengths L (upd (p0_strengths L) j (p0_strengths O j))) (upd (p0_lengths L) j (p0_lengths O j))
def cfB (O : BX0) (j : Nat) (L : BX0) : BX0 := s0_stops (s0_loads L (upd (p0_loads L) j (p0_loads O j))) (upd (upd (p0_stops L) (2 * j) (p0_stops O (2 * j))) (2 * j + 1) (p0_stops O (2 * j + 1)))
def cfV (L O : BX0) : BX0 := cfB O 3 (cfB O 2 (cfB O 1 (cfB O 0 (cfA O 4 (cfA O 3 (cfA O 2 (cfA O 1 (cfA O 0 (s0_plates (s0_width L (p0_width O)) (p0_plates O))))))))))
theorem cf18_s (n : Nat) (L O : BX0) (j : Nat) (hj : j < 5) : fX0_copyFrom_18 (n + 1) L O (nI j) = fX0_copyFrom_18 n (cfA O j L) O (nI (j + 1)) := by
  show fX0_copyFrom_18_b (fX0_copyFrom_18 n) L O (nI j) = _
  have h1 : ¬ (4 : Int32) < nI j := show ¬ nI 4 < nI j from nltc (by omega) (by omega)
  have h2 : inB (nI j) 5 = true := inB_nI hj (by omega)
  have h3 : (nI j).toNatClampNeg = j := nI_clamp (by omega)
  simp only [fX0_copyFrom_18_b, h1, h2, h3, if_true, if_false, elet, nI_1]
  rfl
theorem cf18_e (n : Nat) (L O : BX0) : fX0_copyFrom_18 (n + 1) L O (nI 5) = fX0_copyFrom_55 FU L O (nI 0) := by
  show fX0_copyFrom_18_b (fX0_copyFrom_18 n) L O (nI 5) = _
  have h1 : (4 : Int32) < nI 5 := show nI 4 < nI 5 from ltc (by omega) (by omega)
  simp only [fX0_copyFrom_18_b, h1, if_true]
  rfl
theorem cplate (L O : BX0) (i j : Nat) (hi : i < 4) (hj : j < 4) : fX0_copyPlate L O (nI i) (nI j) = some (s0_stops (s0_loads L (upd (p0_loads L) j (p0_loads O i))) (upd (upd (p0_stops L) (2 * j) (p0_stops O (2 * i))) (2 * j + 1) (p0_stops O (2 * i + 1)))) := by
  have e1 : (2 : Int32) * nI i = nI (2 * i) := pk_mul 2 i
  have e2 : (2 : Int32) * nI j = nI (2 * j) := pk_mul 2 j
  have h1 : inB (nI i) 4 = true := inB_nI hi (by omega)
  have h2 : inB (nI j) 4 = true := inB_nI hj (by omega)
  have h3 : inB (nI (2 * i)) 8 = true := inB_nI (by omega) (by omega)
  have h4 : inB (nI (2 * j)) 8 = true := inB_nI (by omega) (by omega)
  have h5 : inB (nI (2 * i + 1)) 8 = true := inB_nI (by omega) (by omega)
  have h6 : inB (nI (2 * j + 1)) 8 = true := inB_nI (by omega) (by omega)
  have c1 : (nI i).toNatClampNeg = i := nI_clamp (by omega)
  have c2 : (nI j).toNatClampNeg = j := nI_clamp (by omega)
  have c3 : (nI (2 * i)).toNatClampNeg = 2 * i := nI_clamp (by omega)
  have c4 : (nI (2 * j)).toNatClampNeg = 2 * j := nI_clamp (by omega)
  have c5 : (nI (2 * i + 1)).toNatClampNeg = 2 * i + 1 := nI_clamp (by omega)
  have c6 : (nI (2 * j + 1)).toNatClampNeg = 2 * j + 1 := nI_clamp (by omega)
  simp only [fX0_copyPlate, e1, e2, nI_1, h1, h2, h3, h4, h5, h6, c1, c2, c3, c4, c5, c6, if_true, elet]
  rfl
theorem cf55_s (n : Nat) (L O : BX0) (j : Nat) (hj : j < 4) : fX0_copyFrom_55 (n + 1) L O (nI j) = fX0_copyFrom_55 n (cfB O j L) O (nI (j + 1)) := by
  show fX0_copyFrom_55_b (fX0_copyFrom_55 n) L O (nI j) = _
  have h1 : ¬ (4 : Int32) ≤ nI j := show ¬ nI 4 ≤ nI j from nlec (by omega) (by omega)
  simp only [fX0_copyFrom_55_b, h1, if_false, cplate L O j j hj hj, Option.bind_some, elet, nI_1]
  rfl
theorem cf55_e (n : Nat) (L O : BX0) : fX0_copyFrom_55 (n + 1) L O (nI 4) = some L := by
  show fX0_copyFrom_55_b (fX0_copyFrom_55 n) L O (nI 4) = _
  have h1 : (4 : Int32) ≤ nI 4 := show nI 4 ≤ nI 4 from lec (by omega) (by omega)
  simp only [fX0_copyFrom_55_b, h1, if_true]
theorem FU_ex (k : Nat) (h : k ≤ 5000) : ∃ n, FU = n + k := ⟨5000 - k, by unfold FU; omega⟩
theorem cf18_all (n : Nat) (L O : BX0) : fX0_copyFrom_18 (n + 6) L O (nI 0) = fX0_copyFrom_55 FU (cfA O 4 (cfA O 3 (cfA O 2 (cfA O 1 (cfA O 0 L))))) O (nI 0) :=
  (cf18_s (n + 5) L O 0 (by omega)).trans ((cf18_s (n + 4) _ O 1 (by omega)).trans ((cf18_s (n + 3) _ O 2 (by omega)).trans ((cf18_s (n + 2) _ O 3 (by omega)).trans ((cf18_s (n + 1) _ O 4 (by omega)).trans (cf18_e n _ O)))))
theorem cf55_all (n : Nat) (L O : BX0) : fX0_copyFrom_55 (n + 5) L O (nI 0) = some (cfB O 3 (cfB O 2 (cfB O 1 (cfB O 0 L)))) :=
  (cf55_s (n + 4) L O 0 (by omega)).trans ((cf55_s (n + 3) _ O 1 (by omega)).trans ((cf55_s (n + 2) _ O 2 (by omega)).trans ((cf55_s (n + 1) _ O 3 (by omega)).trans (cf55_e n _ O))))
theorem cf55_FU (L O : BX0) : fX0_copyFrom_55 FU L O (nI 0) = some (cfB O 3 (cfB O 2 (cfB O 1 (cfB O 0 L)))) := by
  obtain ⟨n, hn⟩ := FU_ex 5 (by omega)
  rw [hn]
  exact cf55_all n L O
theorem cf18_FU (L O : BX0) : fX0_copyFrom_18 FU L O (nI 0) = fX0_copyFrom_55 FU (cfA O 4 (cfA O 3 (cfA O 2 (cfA O 1 (cfA O 0 L))))) O (nI 0) := by
  have h : ∀ m, m = FU → fX0_copyFrom_18 m L O (nI 0) = fX0_copyFrom_55 FU (cfA O 4 (cfA O 3 (cfA O 2 (cfA O 1 (cfA O 0 L))))) O (nI 0) := by
    intro m hm
    obtain ⟨n, hn⟩ := FU_ex 6 (by omega)
    rw [hm.trans hn]
    exact cf18_all n L O
  exact h FU rfl
theorem elet_eq {α β : Type} (e : α) (f : α → Option β) : elet e f = f e := rfl
theorem cf_c (m : Nat) (L O : BX0) (x y : Int32) (h : x = y) : fX0_copyFrom_18 m L O x = fX0_copyFrom_18 m L O y := by rw [h]
theorem copyFrom_v (L O : BX0) : fX0_copyFrom L O = some (cfV L O) := by
  have h := cf18_FU (s0_plates (s0_width L (p0_width O)) (p0_plates O)) O
  rw [cf55_FU] at h
  have h2 := (cf_c FU (s0_plates (s0_width L (p0_width O)) (p0_plates O)) O 0 (nI 0) rfl).trans h
  generalize hF : FU = F at h2
  unfold fX0_copyFrom
  rw [hF, elet_eq, elet_eq, h2, cfV]
theorem copyFrom_ok (L O : BX0) : p0_width (cfV L O) = p0_width O ∧ p0_plates (cfV L O) = p0_plates O ∧ (∀ k, k < 5 → p0_strengths (cfV L O) k = p0_strengths O k) ∧ (∀ k, k < 5 → p0_lengths (cfV L O) k = p0_lengths O k) ∧ (∀ k, k < 4 → p0_loads (cfV L O) k = p0_loads O k) ∧ (∀ k, k < 8 → p0_stops (cfV L O) k = p0_stops O k) := by
  simp only [cfV, cfA, cfB, gs0_width_width, gs0_width_plates, gs0_width_strengths, gs0_width_lengths, gs0_width_loads, gs0_width_stops, gs0_plates_width, gs0_plates_plates, gs0_plates_strengths, gs0_plates_lengths, gs0_plates_loads, gs0_plates_stops, gs0_strengths_width, gs0_strengths_plates, gs0_strengths_strengths, gs0_strengths_lengths, gs0_strengths_loads, gs0_strengths_stops, gs0_lengths_width, gs0_lengths_plates, gs0_lengths_strengths, gs0_lengths_lengths, gs0_lengths_loads, gs0_lengths_stops, gs0_loads_width, gs0_loads_plates, gs0_loads_strengths, gs0_loads_lengths, gs0_loads_loads, gs0_loads_stops, gs0_stops_width, gs0_stops_plates, gs0_stops_strengths, gs0_stops_lengths, gs0_stops_loads, gs0_stops_stops]
  refine ⟨trivial, trivial, ?_, ?_, ?_, ?_⟩
  · intro k hk
    rcases (show k = 0 ∨ k = 1 ∨ k = 2 ∨ k = 3 ∨ k = 4 by omega) with rfl | rfl | rfl | rfl | rfl <;> simp [upd]
  · intro k hk
    rcases (show k = 0 ∨ k = 1 ∨ k = 2 ∨ k = 3 ∨ k = 4 by omega) with rfl | rfl | rfl | rfl | rfl <;> simp [upd]
  · intro k hk
    rcases (show k = 0 ∨ k = 1 ∨ k = 2 ∨ k = 3 by omega) with rfl | rfl | rfl | rfl <;> simp [upd]
  · intro k hk
    rcases (show k = 0 ∨ k = 1 ∨ k = 2 ∨ k = 3 ∨ k = 4 ∨ k = 5 ∨ k = 6 ∨ k = 7 by omega) with rfl | rfl | rfl | rfl | rfl | rfl | rfl | rfl <;> simp [upd]
theorem cfV_lay {L O : BX0} {s : Nat → Int32} (h : LayEq O s) : LayEq (cfV L O) s := by
  obtain ⟨c1, c2, c3, c4, c5, c6⟩ := copyFrom_ok L O
  obtain ⟨h1, h2, h3, h4, h5, h6, h7⟩ := h
  exact ⟨c1.trans h1, c2.trans h2, fun k hk => (c3 k hk).trans (h3 k hk), fun k hk => (c4 k hk).trans (h4 k hk), fun k hk => (c5 k hk).trans (h5 k hk), fun k hk => (c6 _ (by omega)).trans (h6 k hk), fun k hk => (c6 _ (by omega)).trans (h7 k hk)⟩
theorem freshTrial_v (vX : BX3) (A B : BX0) : fX3_freshTrial vX A B = some (cfV B A) := by
  simp only [fX3_freshTrial, copyFrom_v, Option.bind_some]
