theorem ltc {a b : Nat} (h : a < b) (hb : b < 2 ^ 31) : nI a < nI b := nI_lt h hb
theorem lec {a b : Nat} (h : a ≤ b) (hb : b < 2 ^ 31) : nI a ≤ nI b := nI_le h hb
theorem nltc {a b : Nat} (h : b ≤ a) (ha : a < 2 ^ 31) : ¬ nI a < nI b := nI_nlt h ha
theorem nlec {a b : Nat} (h : b < a) (ha : a < 2 ^ 31) : ¬ nI a ≤ nI b := nI_ge h ha
/-! copyFrom -/
def cfA (O : BX0) (j : Nat) (L : BX0) : BX0 := s0_lengths (s0_strengths L (upd (p0_strengths L) j (p0_strengths O j))) (upd (p0_lengths L) j (p0_lengths O j))
def cfB (O : BX0) (j : Nat) (L : BX0) : BX0 := s0_stops (s0_loads L (upd (p0_loads L) j (p0_loads O j))) (upd (upd (p0_stops L) (2 * j) (p0_stops O (2 * j))) (2 * j + 1) (p0_stops O (2 * j + 1)))
def cfV (L O : BX0) : BX0 := cfB O 3 (cfB O 2 (cfB O 1 (cfB O 0 (cfA O 4 (cfA O 3 (cfA O 2 (cfA O 1 (cfA O 0 (s0_plates (s0_width L (p0_width O)) (p0_plates O))))))))))
theorem cf18_s (n : Nat) (L O : BX0) (j : Nat) (hj : j < 5) : fX0_copyFrom_18 (n + 1) L O (nI j) = fX0_copyFrom_18 n (cfA O j L) O (nI (j + 1)) := by
  show fX0_copyFrom_18_b (fX0_copyFrom_18 n) L O (nI j) = _
  have h1 : ¬ (4 : Int32) < nI j := show ¬ nI 4 < nI j from nltc (by omega) (by omega)
  have h2 : inB (nI j) 5 = true := inB_nI hj (by omega)
  have h3 : (nI j).toNatClampNeg = j := nI_clamp (by omega)
  simp only [fX0_copyFrom_18_b, h1, h2, h3, if_true, if_false, elet, nI_1]
  rfl
theorem cf18_e (n : Nat) (L O : BX0) : fX0_copyFrom_18 (n + 1) L O (nI 5) = fX0_copyFrom_55 FU L O (nI 0) := by
  show fX0_copyFrom_18_b (fX0_copyFrom_18 n) L O (nI 5) = _
  have h1 : (4 : Int32) < nI 5 := show nI 4 < nI 5 from ltc (by omega) (by omega)
  simp only [fX0_copyFrom_18_b, h1, if_true]
  rfl
theorem cplate (L O : BX0) (i j : Nat) (hi : i < 4) (hj : j < 4) : fX0_copyPlate L O (nI i) (nI j) = some (s0_stops (s0_loads L (upd (p0_loads L) j (p0_loads O i))) (upd (upd (p0_stops L) (2 * j) (p0_stops O (2 * i))) (2 * j + 1) (p0_stops O (2 * i + 1)))) := by
  have e1 : (2 : Int32) * nI i = nI (2 * i) := pk_mul 2 i
  have e2 : (2 : Int32) * nI j = nI (2 * j) := pk_mul 2 j
  have h1 : inB (nI i) 4 = true := inB_nI hi (by omega)
  have h2 : inB (nI j) 4 = true := inB_nI hj (by omega)
  have h3 : inB (nI (2 * i)) 8 = true := inB_nI (by omega) (by omega)
  have h4 : inB (nI (2 * j)) 8 = true := inB_nI (by omega) (by omega)
  have h5 : inB (nI (2 * i + 1)) 8 = true := inB_nI (by omega) (by omega)
  have h6 : inB (nI (2 * j + 1)) 8 = true := inB_nI (by omega) (by omega)
  have c1 : (nI i).toNatClampNeg = i := nI_clamp (by omega)
  have c2 : (nI j).toNatClampNeg = j := nI_clamp (by omega)
  have c3 : (nI (2 * i)).toNatClampNeg = 2 * i := nI_clamp (by omega)
  have c4 : (nI (2 * j)).toNatClampNeg = 2 * j := nI_clamp (by omega)
  have c5 : (nI (2 * i + 1)).toNatClampNeg = 2 * i + 1 := nI_clamp (by omega)
  have c6 : (nI (2 * j + 1)).toNatClampNeg = 2 * j + 1 := nI_clamp (by omega)
  simp only [fX0_copyPlate, e1, e2, nI_1, h1, h2, h3, h4, h5, h6, c1, c2, c3, c4, c5, c6, if_true, elet]
  rfl
theorem cf55_s (n : Nat) (L O : BX0) (j : Nat) (hj : j < 4) : fX0_copyFrom_55 (n + 1) L O (nI j) = fX0_copyFrom_55 n (cfB O j L) O (nI (j + 1)) := by
  show fX0_copyFrom_55_b (fX0_copyFrom_55 n) L O (nI j) = _
  have h1 : ¬ (4 : Int32) ≤ nI j := show ¬ nI 4 ≤ nI j from nlec (by omega) (by omega)
  simp only [fX0_copyFrom_55_b, h1, if_false, cplate L O j j hj hj, Option.bind_some, elet, nI_1]
  rfl
theorem cf55_e (n : Nat) (L O : BX0) : fX0_copyFrom_55 (n + 1) L O (nI 4) = some L := by
  show fX0_copyFrom_55_b (fX0_copyFrom_55 n) L O (nI 4) = _
  have h1 : (4 : Int32) ≤ nI 4 := show nI 4 ≤ nI 4 from lec (by omega) (by omega)
  simp only [fX0_copyFrom_55_b, h1, if_true]
theorem FU_ex (k : Nat) (h : k ≤ 5000) : ∃ n, FU = n + k := ⟨5000 - k, by unfold FU; omega⟩
theorem cf18_all (n : Nat) (L O : BX0) : fX0_copyFrom_18 (n + 6) L O (nI 0) = fX0_copyFrom_55 FU (cfA O 4 (cfA O 3 (cfA O 2 (cfA O 1 (cfA O 0 L))))) O (nI 0) :=
  (cf18_s (n + 5) L O 0 (by omega)).trans ((cf18_s (n + 4) _ O 1 (by omega)).trans ((cf18_s (n + 3) _ O 2 (by omega)).trans ((cf18_s (n + 2) _ O 3 (by omega)).trans ((cf18_s (n + 1) _ O 4 (by omega)).trans (cf18_e n _ O)))))
theorem cf55_all (n : Nat) (L O : BX0) : fX0_copyFrom_55 (n + 5) L O (nI 0) = some (cfB O 3 (cfB O 2 (cfB O 1 (cfB O 0 L)))) :=
  (cf55_s (n + 4) L O 0 (by omega)).trans ((cf55_s (n + 3) _ O 1 (by omega)).trans ((cf55_s (n + 2) _ O 2 (by omega)).trans ((cf55_s (n + 1) _ O 3 (by omega)).trans (cf55_e n _ O))))
theorem cf55_FU (L O : BX0) : fX0_copyFrom_55 FU L O (nI 0) = some (cfB O 3 (cfB O 2 (cfB O 1 (cfB O 0 L)))) := by
  obtain ⟨n, hn⟩ := FU_ex 5 (by omega)
  rw [hn]
  exact cf55_all n L O
theorem cf18_FU (L O : BX0) : fX0_copyFrom_18 FU L O (nI 0) = fX0_copyFrom_55 FU (cfA O 4 (cfA O 3 (cfA O 2 (cfA O 1 (cfA O 0 L))))) O (nI 0) := by
  have h : ∀ m, m = FU → fX0_copyFrom_18 m L O (nI 0) = fX0_copyFrom_55 FU (cfA O 4 (cfA O 3 (cfA O 2 (cfA O 1 (cfA O 0 L))))) O (nI 0) := by
    intro m hm
    obtain ⟨n, hn⟩ := FU_ex 6 (by omega)
    rw [hm.trans hn]
    exact cf18_all n L O
  exact h FU rfl
theorem elet_eq {α β : Type} (e : α) (f : α → Option β) : elet e f = f e := rfl
theorem cf_c (m : Nat) (L O : BX0) (x y : Int32) (h : x = y) : fX0_copyFrom_18 m L O x = fX0_copyFrom_18 m L O y := by rw [h]
theorem copyFrom_v (L O : BX0) : fX0_copyFrom L O = some (cfV L O) := by
  have h := cf18_FU (s0_plates (s0_width L (p0_width O)) (p0_plates O)) O
  rw [cf55_FU] at h
  have h2 := (cf_c FU (s0_plates (s0_width L (p0_width O)) (p0_plates O)) O 0 (nI 0) rfl).trans h
  generalize hF : FU = F at h2
  unfold fX0_copyFrom
  rw [hF, elet_eq, elet_eq, h2, cfV]
theorem copyFrom_ok (L O : BX0) : p0_width (cfV L O) = p0_width O ∧ p0_plates (cfV L O) = p0_plates O ∧ (∀ k, k < 5 → p0_strengths (cfV L O) k = p0_strengths O k) ∧ (∀ k, k < 5 → p0_lengths (cfV L O) k = p0_lengths O k) ∧ (∀ k, k < 4 → p0_loads (cfV L O) k = p0_loads O k) ∧ (∀ k, k < 8 → p0_stops (cfV L O) k = p0_stops O k) := by
  simp only [cfV, cfA, cfB, gs0_width_width, gs0_width_plates, gs0_width_strengths, gs0_width_lengths, gs0_width_loads, gs0_width_stops, gs0_plates_width, gs0_plates_plates, gs0_plates_strengths, gs0_plates_lengths, gs0_plates_loads, gs0_plates_stops, gs0_strengths_width, gs0_strengths_plates, gs0_strengths_strengths, gs0_strengths_lengths, gs0_strengths_loads, gs0_strengths_stops, gs0_lengths_width, gs0_lengths_plates, gs0_lengths_strengths, gs0_lengths_lengths, gs0_lengths_loads, gs0_lengths_stops, gs0_loads_width, gs0_loads_plates, gs0_loads_strengths, gs0_loads_lengths, gs0_loads_loads, gs0_loads_stops, gs0_stops_width, gs0_stops_plates, gs0_stops_strengths, gs0_stops_lengths, gs0_stops_loads, gs0_stops_stops]
  refine ⟨trivial, trivial, ?_, ?_, ?_, ?_⟩
  · intro k hk
    rcases (show k = 0 ∨ k = 1 ∨ k = 2 ∨ k = 3 ∨ k = 4 by omega) with rfl | rfl | rfl | rfl | rfl <;> simp [upd]
  · intro k hk
    rcases (show k = 0 ∨ k = 1 ∨ k = 2 ∨ k = 3 ∨ k = 4 by omega) with rfl | rfl | rfl | rfl | rfl <;> simp [upd]
  · intro k hk
    rcases (show k = 0 ∨ k = 1 ∨ k = 2 ∨ k = 3 by omega) with rfl | rfl | rfl | rfl <;> simp [upd]
  · intro k hk
    rcases (show k = 0 ∨ k = 1 ∨ k = 2 ∨ k = 3 ∨ k = 4 ∨ k = 5 ∨ k = 6 ∨ k = 7 by omega) with rfl | rfl | rfl | rfl | rfl | rfl | rfl | rfl <;> simp [upd]
theorem cfV_lay {L O : BX0} {s : Nat → Int32} (h : LayEq O s) : LayEq (cfV L O) s := by
  obtain ⟨c1, c2, c3, c4, c5, c6⟩ := copyFrom_ok L O
  obtain ⟨h1, h2, h3, h4, h5, h6, h7⟩ := h
  exact ⟨c1.trans h1, c2.trans h2, fun k hk => (c3 k hk).trans (h3 k hk), fun k hk => (c4 k hk).trans (h4 k hk), fun k hk => (c5 k hk).trans (h5 k hk), fun k hk => (c6 _ (by omega)).trans (h6 k hk), fun k hk => (c6 _ (by omega)).trans (h7 k hk)⟩
theorem freshTrial_v (vX : BX3) (A B : BX0) : fX3_freshTrial vX A B = some (cfV B A) := by
  simp only [fX3_freshTrial, copyFrom_v, Option.bind_some]
/-! the reference's changes() -/

/-! layouts and bounds speak of the first 24 places alone -/
theorem layEq_of {L : BX0} {s s1 : Nat → Int32} (h : LayEq L s) (e : ∀ q, q < 24 → s1 q = s q) : LayEq L s1 := by
  obtain ⟨h1, h2, h3, h4, h5, h6, h7⟩ := h
  exact ⟨h1.trans (e 0 (by omega)).symm, h2.trans (e 1 (by omega)).symm, fun k hk => (h3 k hk).trans (e _ (by omega)).symm, fun k hk => (h4 k hk).trans (e _ (by omega)).symm, fun k hk => (h5 k hk).trans (e _ (by omega)).symm, fun k hk => (h6 k hk).trans (e _ (by omega)).symm, fun k hk => (h7 k hk).trans (e _ (by omega)).symm⟩
theorem good_of {s s1 : Nat → Int32} (h : Good s) (e : ∀ q, q < 24 → s1 q = s q) : Good s1 := by
  obtain ⟨w, p, h1, h2, h3, h4, h5, h6, h7, h8⟩ := h
  refine ⟨w, p, (e 0 (by omega)).trans h1, (e 1 (by omega)).trans h2, h3, h4, h5, fun k hk => ?_, fun k hk => ?_, fun i j hij hj => ?_⟩
  · rw [e (2 + k) (by omega), e (7 + k) (by omega)]; exact h6 k hk
  · rw [e (12 + k) (by omega), e (16 + k) (by omega), e (20 + k) (by omega)]; exact h7 k hk
  · have := h8 i j hij hj
    unfold lowB highB at this ⊢
    rw [e (16 + i) (by omega), e (20 + j) (by omega), e 0 (by omega)]
    exact this
/-! the class's history -/
theorem pns_ex (L : BX0) : ∃ y, fX0_putNewSpring L 0 = some y := by
  have hb : inB (0 : Int32) 5 = true := by decide
  unfold fX0_putNewSpring
  simp only [hb, if_true, elet_eq]
  exact ⟨_, rfl⟩
theorem init0_ex : ∃ y, fX0_init = some y := by
  unfold fX0_init
  rw [elet_eq]
  obtain ⟨y, hy⟩ := pns_ex (60, 0, (fun _ => 0), (fun _ => 0), (fun _ => 0), (fun _ => 0))
  exact ⟨y, by rw [hy, Option.bind_some]⟩
theorem rs_at_v (vX : BX3) (n : Nat) (pv : Nat → BX0) (vA : BX0) (i : Nat) (hi : i < 4) (hin : i ≤ n) (hn : n ≤ 4) : ∃ n1 Z, rs_at vX n pv vA i = some (s3_states vX (p3_states vX + 1), n1, updP pv i (cfV Z vA)) ∧ i < n1 ∧ n1 ≤ 4 := by
  unfold rs_at
  by_cases h : i < n
  · exact ⟨n, pv i, by rw [if_pos h, copyFrom_v, Option.bind_some], h, hn⟩
  · have e : i = n := by omega
    obtain ⟨y, hy⟩ := init0_ex
    exact ⟨n + 1, y, by rw [if_neg h, if_pos e, hy, Option.bind_some, copyFrom_v, Option.bind_some], by omega, by omega⟩
theorem record_n (vX : BX3) (n : Nat) (pv : Nat → BX0) (vA : BX0) (h : Nat) (h4 : h < 4) (hhn : h ≤ n) (hn : n ≤ 4) (hs : p3_states vX = nI h) : ∃ n1 Z, fX3_recordState vX n pv vA = some (s3_states vX (nI (h + 1)), n1, updP pv h (cfV Z vA)) ∧ h < n1 ∧ n1 ≤ 4 := by
  obtain ⟨n1, Z, h1, h2, h3⟩ := rs_at_v vX n pv vA h h4 hhn hn
  rw [hs, nI_1] at h1
  refine ⟨n1, Z, ?_, h2, h3⟩
  rw [← h1]
  unfold fX3_recordState
  rw [hs]
  rcases (show h = 0 ∨ h = 1 ∨ h = 2 ∨ h = 3 by omega) with rfl | rfl | rfl | rfl
  · rw [if_neg (by decide), if_neg (by decide), if_neg (by decide), if_neg (by decide), if_pos (by decide)]
  · rw [if_neg (by decide), if_neg (by decide), if_neg (by decide), if_pos (by decide)]
  · rw [if_neg (by decide), if_neg (by decide), if_pos (by decide)]
  · rw [if_neg (by decide), if_pos (by decide)]
theorem record_f (vX : BX3) (pv : Nat → BX0) (vA : BX0) (hs : p3_states vX = nI 4) : ∃ n1 Z, fX3_recordState vX 4 pv vA = some (s3_states vX (nI 4), n1, updP (rotP pv) 3 (cfV Z vA)) ∧ 3 < n1 ∧ n1 ≤ 4 := by
  obtain ⟨n1, Z, h1, h2, h3⟩ := rs_at_v (s3_states vX 3) 4 (rotP pv) vA 3 (by omega) (by omega) (by omega)
  refine ⟨n1, Z, ?_, h2, h3⟩
  unfold fX3_recordState
  rw [hs, if_pos (by decide), if_pos rfl, h1, gs3_states_states]
  rfl
theorem keep_e (vX : BX3) (n : Nat) (pv : Nat → BX0) (vA vB : BX0) (i : Int32) (hi : ¬ (-1000001 : Int32) < i) : fX3_keep vX n pv vA vB i = some (i, vX, n, pv, vA) := by
  unfold fX3_keep fX3_isError
  rw [if_neg hi, Option.bind_some, if_neg (by decide)]

theorem i_add {a b : Int32} (h1 : -2147483648 ≤ a.toInt + b.toInt) (h2 : a.toInt + b.toInt < 2147483648) : (a + b).toInt = a.toInt + b.toInt := by
  rw [Int32.toInt_add]
  exact Int.bmod_eq_of_le (by omega) (by omega)
theorem cl1 : ((1 : Int32)).toNatClampNeg = 1 := rfl
theorem cl0 : ((0 : Int32)).toNatClampNeg = 0 := rfl
theorem lay_load {L : BX0} {s : Nat → Int32} (h : LayEq L s) (k : Nat) (hk : k < 4) (v : Int32) : LayEq (s0_loads L (upd (p0_loads L) k v)) (upd s (12 + k) v) := by
  obtain ⟨h1, h2, h3, h4, h5, h6, h7⟩ := h
  refine ⟨?_, ?_, fun j hj => ?_, fun j hj => ?_, fun j hj => ?_, fun j hj => ?_, fun j hj => ?_⟩
  · rw [gs0_width_loads, pk_un (by omega)]; exact h1
  · rw [gs0_plates_loads, pk_un (by omega)]; exact h2
  · rw [gs0_strengths_loads, pk_un (by omega)]; exact h3 j hj
  · rw [gs0_lengths_loads, pk_un (by omega)]; exact h4 j hj
  · rw [gs0_loads_loads]
    by_cases e : j = k
    · subst e; rw [pk_us, pk_us]
    · rw [pk_un e, pk_un (by omega)]; exact h5 j hj
  · rw [gs0_stops_loads, pk_un (by omega)]; exact h6 j hj
  · rw [gs0_stops_loads, pk_un (by omega)]; exact h7 j hj
theorem good_load {s : Nat → Int32} (h : Good s) (k : Nat) (hk : k < 4) (v : Int32) (h1 : -99 ≤ v.toInt) (h2 : v.toInt ≤ 99) : Good (upd s (12 + k) v) := by
  obtain ⟨w, p, g1, g2, g3, g4, g5, g6, g7, g8⟩ := h
  refine ⟨w, p, by rw [pk_un (by omega)]; exact g1, by rw [pk_un (by omega)]; exact g2, g3, g4, g5, fun j hj => ?_, fun j hj => ?_, fun i j hij hj => ?_⟩
  · rw [pk_un (by omega), pk_un (by omega)]; exact g6 j hj
  · rw [pk_un (show 16 + j ≠ 12 + k by omega), pk_un (show 20 + j ≠ 12 + k by omega)]
    refine ⟨?_, (g7 j hj).2⟩
    by_cases e : j = k
    · subst e; rw [pk_us]; exact ⟨h1, h2⟩
    · rw [pk_un (by omega)]; exact (g7 j hj).1
  · unfold lowB highB
    rw [pk_un (show 16 + i ≠ 12 + k by omega), pk_un (show 20 + j ≠ 12 + k by omega), pk_un (show 0 ≠ 12 + k by omega)]
    exact g8 i j hij hj
theorem i_mul {a b : Int32} (h1 : -2147483648 ≤ a.toInt * b.toInt) (h2 : a.toInt * b.toInt < 2147483648) : (a * b).toInt = a.toInt * b.toInt := by
  rw [Int32.toInt_mul]
  exact Int.bmod_eq_of_le (by omega) (by omega)
theorem lay_spring {L : BX0} {s : Nat → Int32} (h : LayEq L s) (k : Nat) (hk : k < 5) (v u : Int32) : LayEq (s0_lengths (s0_strengths L (upd (p0_strengths L) k v)) (upd (p0_lengths L) k u)) (upd (upd s (2 + k) v) (7 + k) u) := by
  obtain ⟨h1, h2, h3, h4, h5, h6, h7⟩ := h
  refine ⟨?_, ?_, fun j hj => ?_, fun j hj => ?_, fun j hj => ?_, fun j hj => ?_, fun j hj => ?_⟩
  · rw [gs0_width_lengths, gs0_width_strengths, pk_un (by omega), pk_un (by omega)]; exact h1
  · rw [gs0_plates_lengths, gs0_plates_strengths, pk_un (by omega), pk_un (by omega)]; exact h2
  · rw [gs0_strengths_lengths, gs0_strengths_strengths, pk_un (show 2 + j ≠ 7 + k by omega)]
    by_cases e : j = k
    · subst e; rw [pk_us, pk_us]
    · rw [pk_un e, pk_un (by omega)]; exact h3 j hj
  · rw [gs0_lengths_lengths]
    by_cases e : j = k
    · subst e; rw [pk_us, pk_us]
    · rw [pk_un e, pk_un (by omega), pk_un (by omega)]; exact h4 j hj
  · rw [gs0_loads_lengths, gs0_loads_strengths, pk_un (by omega), pk_un (by omega)]; exact h5 j hj
  · rw [gs0_stops_lengths, gs0_stops_strengths, pk_un (by omega), pk_un (by omega)]; exact h6 j hj
  · rw [gs0_stops_lengths, gs0_stops_strengths, pk_un (by omega), pk_un (by omega)]; exact h7 j hj
theorem good_spring {s : Nat → Int32} (h : Good s) (k : Nat) (hk : k < 5) (v u : Int32) (h1 : 1 ≤ v.toInt) (h2 : v.toInt ≤ 9) (h3 : 0 ≤ u.toInt) (h9 : u.toInt ≤ 50) : Good (upd (upd s (2 + k) v) (7 + k) u) := by
  obtain ⟨w, p, g1, g2, g3, g4, g5, g6, g7, g8⟩ := h
  refine ⟨w, p, by rw [pk_un (by omega), pk_un (by omega)]; exact g1, by rw [pk_un (by omega), pk_un (by omega)]; exact g2, g3, g4, g5, fun j hj => ?_, fun j hj => ?_, fun i j hij hj => ?_⟩
  · rw [pk_un (show 2 + j ≠ 7 + k by omega)]
    by_cases e : j = k
    · subst e; rw [pk_us, pk_us]; exact ⟨h1, h2, h3, h9⟩
    · rw [pk_un (show 2 + j ≠ 2 + k by omega), pk_un (show 7 + j ≠ 7 + k by omega), pk_un (show 7 + j ≠ 2 + k by omega)]; exact g6 j hj
  · rw [pk_un (show 12 + j ≠ 7 + k by omega), pk_un (show 12 + j ≠ 2 + k by omega), pk_un (show 16 + j ≠ 7 + k by omega), pk_un (show 16 + j ≠ 2 + k by omega), pk_un (show 20 + j ≠ 7 + k by omega), pk_un (show 20 + j ≠ 2 + k by omega)]
    exact g7 j hj
  · unfold lowB highB
    rw [pk_un (show 16 + i ≠ 7 + k by omega), pk_un (show 16 + i ≠ 2 + k by omega), pk_un (show 20 + j ≠ 7 + k by omega), pk_un (show 20 + j ≠ 2 + k by omega), pk_un (show 0 ≠ 7 + k by omega), pk_un (show 0 ≠ 2 + k by omega)]
    exact g8 i j hij hj
/-! a change of the trial beside the reference's change: one lemma a change, for the calls and for texts -/
theorem upd_e (f : Nat → Int32) (k : Nat) (v : Int32) (j : Nat) : upd f k v j = if j = k then v else f j := rfl
theorem upd_back (s : Nat → Int32) (a : Nat) (v : Int32) : upd (upd s a v) a (s a) = s := by
  funext j
  rw [upd_e, upd_e]
  by_cases e : j = a
  · subst e; rw [if_pos rfl]
  · rw [if_neg e, if_neg e]
theorem lay_stop {L : BX0} {s : Nat → Int32} (h : LayEq L s) (k c : Nat) (hk : k < 4) (hc : c < 2) (v : Int32) : LayEq (s0_stops L (upd (p0_stops L) (2 * k + c) v)) (upd s (16 + 4 * c + k) v) := by
  obtain ⟨h1, h2, h3, h4, h5, h6, h7⟩ := h
  refine ⟨?_, ?_, fun j hj => ?_, fun j hj => ?_, fun j hj => ?_, fun j hj => ?_, fun j hj => ?_⟩
  · rw [gs0_width_stops, pk_un (by omega)]; exact h1
  · rw [gs0_plates_stops, pk_un (by omega)]; exact h2
  · rw [gs0_strengths_stops, pk_un (by omega)]; exact h3 j hj
  · rw [gs0_lengths_stops, pk_un (by omega)]; exact h4 j hj
  · rw [gs0_loads_stops, pk_un (by omega)]; exact h5 j hj
  · rw [gs0_stops_stops, upd_e, upd_e, h6 j hj]
    by_cases e : 2 * j = 2 * k + c
    · rw [if_pos e, if_pos (by omega)]
    · rw [if_neg e, if_neg (by omega)]
  · rw [gs0_stops_stops, upd_e, upd_e, h7 j hj]
    by_cases e : 2 * j + 1 = 2 * k + c
    · rw [if_pos e, if_pos (by omega)]
    · rw [if_neg e, if_neg (by omega)]
theorem stopOf_v (L : BX0) (k c : Nat) (hk : k < 4) (hc : c < 2) : fX0_stopOf L (nI k) (nI c) = some (p0_stops L (2 * k + c)) := by
  have e1 : (2 : Int32) * nI k = nI (2 * k) := pk_mul 2 k
  unfold fX0_stopOf
  rw [e1, nI_add, if_pos (inB_nI (by omega) (by omega)), nI_clamp (by omega)]
theorem stops_c {L : BX0} {s : Nat → Int32} (h : LayEq L s) (k c : Nat) (hk : k < 4) (hc : c < 2) : p0_stops L (2 * k + c) = s (16 + 4 * c + k) := by
  rcases (show c = 0 ∨ c = 1 by omega) with rfl | rfl
  · exact h.2.2.2.2.2.1 k hk
  · exact h.2.2.2.2.2.2 k hk

def AllR (s : Nat → Int32) (p j : Nat) (r : Int32) : Prop := ∀ q, j ≤ q → q < p → r ≤ highB s q ∧ ∀ i, j ≤ i → i ≤ q → lowB s i ≤ highB s q
theorem mx_l (a b : Int32) : a ≤ (if a < b then b else a) := by
  split
  · exact Int32.le_of_lt (by assumption)
  · exact Int32.le_refl _
theorem mx_r (a b : Int32) : b ≤ (if a < b then b else a) := by
  split
  · exact Int32.le_refl _
  · exact Int32.not_lt.mp (by assumption)
theorem mx_e (a b c : Int32) (h1 : a ≤ c) (h2 : b ≤ c) : (if a < b then b else a) ≤ c := by
  split <;> assumption
theorem AllR_s (s : Nat → Int32) (p j : Nat) (r : Int32) (hj : j < p) : AllR s p j r ↔ ((if r < lowB s j then lowB s j else r) ≤ highB s j ∧ AllR s p (j + 1) (if r < lowB s j then lowB s j else r)) := by
  constructor
  · intro h
    refine ⟨mx_e _ _ _ (h j (Nat.le_refl _) hj).1 ((h j (Nat.le_refl _) hj).2 j (Nat.le_refl _) (Nat.le_refl _)), fun q hq hp => ⟨mx_e _ _ _ (h q (by omega) hp).1 ((h q (by omega) hp).2 j (Nat.le_refl _) (by omega)), fun i hi hiq => (h q (by omega) hp).2 i (by omega) hiq⟩⟩
  · rintro ⟨h1, h2⟩ q hq hp
    by_cases e : q = j
    · subst e
      refine ⟨Int32.le_trans (mx_l _ _) h1, fun i hi hiq => ?_⟩
      have e : i = q := by omega
      subst e
      exact Int32.le_trans (mx_r _ _) h1
    · refine ⟨Int32.le_trans (mx_l _ _) (h2 q (by omega) hp).1, fun i hi hiq => ?_⟩
      by_cases e2 : i = j
      · subst e2
        exact Int32.le_trans (mx_r _ _) (h2 q (by omega) hp).1
      · exact (h2 q (by omega) hp).2 i (by omega) hiq
def SaneS (s : Nat → Int32) (p : Nat) : Prop := ∀ k, k < p → -1 ≤ (s (16 + k)).toInt ∧ -1 ≤ (s (20 + k)).toInt
theorem neg1 {a : Int32} (h : -1 ≤ a.toInt) : a < 0 ↔ a = -1 := by
  have b1 : (0 : Int32).toInt = 0 := rfl
  have b2 : (-1 : Int32).toInt = -1 := rfl
  rw [i_lt, i_eq, b1, b2]
  omega
theorem left_v {L : BX0} {s : Nat → Int32} {p : Nat} (h : LayEq L s) (hs : SaneS s p) (hp4 : p ≤ 4) (k : Nat) (hk : k < p) : fX0_leftBoundOf L (nI k) = some (lowB s k) := by
  unfold fX0_leftBoundOf lowB
  have e := stopOf_v L k 0 (by omega) (by omega)
  rw [stops_c h k 0 (by omega) (by omega)] at e
  rw [show (0 : Int32) = nI 0 from rfl, e, Option.bind_some]
  show (if s (16 + k) = -1 then some (nI 0) else some (s (16 + k))) = _
  by_cases a : s (16 + k) < 0
  · rw [if_pos ((neg1 (hs k hk).1).mp a)]
    show _ = some (if s (16 + k) < 0 then 0 else s (16 + k))
    rw [if_pos a]; rfl
  · rw [if_neg (fun b => a ((neg1 (hs k hk).1).mpr b))]
    show _ = some (if s (16 + k) < 0 then 0 else s (16 + k))
    rw [if_neg a]
theorem right_v {L : BX0} {s : Nat → Int32} {p : Nat} (h : LayEq L s) (hs : SaneS s p) (hp4 : p ≤ 4) (k : Nat) (hk : k < p) : fX0_rightBoundOf L (nI k) = some (highB s k) := by
  unfold fX0_rightBoundOf highB
  have e := stopOf_v L k 1 (by omega) (by omega)
  rw [stops_c h k 1 (by omega) (by omega)] at e
  rw [show (1 : Int32) = nI 1 from rfl, e, Option.bind_some, h.1]
  show (if s (20 + k) = -1 then some (s 0) else some (s (20 + k))) = _
  by_cases a : s (20 + k) < 0
  · rw [if_pos ((neg1 (hs k hk).2).mp a), if_pos a]
  · rw [if_neg (fun b => a ((neg1 (hs k hk).2).mpr b)), if_neg a]
theorem ar_s {L : BX0} {s : Nat → Int32} {p : Nat} (h : LayEq L s) (hs : SaneS s p) (hp : s 1 = nI p) (hp4 : p ≤ 4) (n j : Nat) (hj : j < p) (r : Int32) : fX0_allowsRow_4 (n + 1) L r (nI j) = if (if r < lowB s j then lowB s j else r) ≤ highB s j then fX0_allowsRow_4 n L (if r < lowB s j then lowB s j else r) (nI (j + 1)) else some 0 := by
  show fX0_allowsRow_4_b (fX0_allowsRow_4 n) L r (nI j) = _
  unfold fX0_allowsRow_4_b
  rw [h.2.1, hp, if_neg (nlec hj (by omega)), left_v h hs hp4 j hj, Option.bind_some, elet_eq, right_v h hs hp4 j hj, Option.bind_some, elet_eq, nI_1]
theorem ar_e {L : BX0} {s : Nat → Int32} {p : Nat} (h : LayEq L s) (hp : s 1 = nI p) (hp4 : p ≤ 4) (n : Nat) (r : Int32) : fX0_allowsRow_4 (n + 1) L r (nI p) = some 1 := by
  show fX0_allowsRow_4_b (fX0_allowsRow_4 n) L r (nI p) = _
  unfold fX0_allowsRow_4_b
  rw [h.2.1, hp, if_pos (lec (Nat.le_refl _) (by omega))]
theorem ar_all {L : BX0} {s : Nat → Int32} {p : Nat} (h : LayEq L s) (hs : SaneS s p) (hp : s 1 = nI p) (hp4 : p ≤ 4) : ∀ d j, j + d = p → ∀ (r : Int32) (n : Nat), (AllR s p j r ∧ fX0_allowsRow_4 (n + d + 1) L r (nI j) = some 1) ∨ (¬ AllR s p j r ∧ fX0_allowsRow_4 (n + d + 1) L r (nI j) = some 0) := by
  intro d
  induction d with
  | zero =>
    intro j hj r n
    obtain rfl : j = p := by omega
    exact Or.inl ⟨fun q h1 h2 => absurd h2 (by omega), ar_e h hp hp4 _ r⟩
  | succ d ih =>
    intro j hj r n
    have hjp : j < p := by omega
    rw [show n + (d + 1) + 1 = (n + d + 1) + 1 by omega, ar_s h hs hp hp4 _ j hjp r]
    by_cases a : (if r < lowB s j then lowB s j else r) ≤ highB s j
    · rw [if_pos a]
      rcases ih (j + 1) (by omega) (if r < lowB s j then lowB s j else r) n with ⟨b1, b2⟩ | ⟨b1, b2⟩
      · exact Or.inl ⟨(AllR_s s p j r hjp).mpr ⟨a, b1⟩, b2⟩
      · exact Or.inr ⟨fun b => b1 ((AllR_s s p j r hjp).mp b).2, b2⟩
    · rw [if_neg a]
      exact Or.inr ⟨fun b => a ((AllR_s s p j r hjp).mp b).1, rfl⟩
theorem allows_v {L : BX0} {s : Nat → Int32} {p : Nat} (h : LayEq L s) (hs : SaneS s p) (hp : s 1 = nI p) (hp4 : p ≤ 4) : (AllR s p 0 0 ∧ fX0_allowsRow L = some 1) ∨ (¬ AllR s p 0 0 ∧ fX0_allowsRow L = some 0) := by
  obtain ⟨n, hn⟩ := FU_ex (p + 1) (by omega)
  have e := ar_all h hs hp hp4 p 0 (by omega) 0 n
  unfold fX0_allowsRow
  rw [hn]
  exact e
/-! a stop is put or removed -/
theorem nI_z : nI 0 = (0 : Int32) := rfl

theorem bounds_of {s : Nat → Int32} {w p : Nat} (g1 : s 0 = nI w) (g4 : w ≤ 99) (g7 : ∀ k, k < p → (-99 ≤ (s (12 + k)).toInt ∧ (s (12 + k)).toInt ≤ 99) ∧ (-1 ≤ (s (16 + k)).toInt ∧ (s (16 + k)).toInt ≤ w) ∧ (-1 ≤ (s (20 + k)).toInt ∧ (s (20 + k)).toInt ≤ w)) (k : Nat) (hk : k < p) : 0 ≤ (lowB s k).toInt ∧ (lowB s k).toInt ≤ w ∧ 0 ≤ (highB s k).toInt ∧ (highB s k).toInt ≤ w := by
  obtain ⟨-, ⟨a1, a2⟩, b1, b2⟩ := g7 k hk
  have hw : (nI w).toInt = w := nI_toInt (by omega)
  have z : (0 : Int32).toInt = 0 := rfl
  unfold lowB highB
  refine ⟨?_, ?_, ?_, ?_⟩
  · split
    · rw [z]; exact Int.le_refl 0
    · rename_i h; rw [i_lt, z] at h; omega
  · split
    · rw [z]; omega
    · exact a2
  · split
    · rw [g1, hw]; omega
    · rename_i h; rw [i_lt, z] at h; omega
  · split
    · rw [g1, hw]; exact Int.le_refl _
    · exact b2
theorem good_stop {s : Nat → Int32} (h : Good s) {w p : Nat} (hw : s 0 = nI w) (hp : s 1 = nI p) (hp4 : p ≤ 4) (hw2 : w ≤ 99) (k c : Nat) (hk : k < p) (hc : c < 2) (v : Int32) (h1 : -1 ≤ v.toInt) (h2 : v.toInt ≤ w) (hA : ∀ i j, i ≤ j → j < p → lowB (upd s (16 + 4 * c + k) v) i ≤ highB (upd s (16 + 4 * c + k) v) j) : Good (upd s (16 + 4 * c + k) v) := by
  obtain ⟨w1, p1, g1, g2, g3, g4, g5, g6, g7, g8⟩ := h
  obtain rfl : w = w1 := (nI_eq (by omega) (by omega)).mp (hw.symm.trans g1)
  obtain rfl : p = p1 := (nI_eq (by omega) (by omega)).mp (hp.symm.trans g2)
  refine ⟨w, p, by rw [pk_un (by omega)]; exact g1, by rw [pk_un (by omega)]; exact g2, g3, g4, g5, fun j hj => ?_, fun j hj => ?_, hA⟩
  · rw [pk_un (by omega), pk_un (by omega)]; exact g6 j hj
  · obtain ⟨a1, a2, a3⟩ := g7 j hj
    rw [pk_un (show 12 + j ≠ 16 + 4 * c + k by omega)]
    refine ⟨a1, ?_, ?_⟩
    · rw [upd_e]
      split
      · exact ⟨h1, h2⟩
      · exact a2
    · rw [upd_e]
      split
      · exact ⟨h1, h2⟩
      · exact a3
theorem AllR_iff {s : Nat → Int32} {w p : Nat} (hw : s 0 = nI w) (hw2 : w ≤ 99) (g7 : ∀ k, k < p → (-99 ≤ (s (12 + k)).toInt ∧ (s (12 + k)).toInt ≤ 99) ∧ (-1 ≤ (s (16 + k)).toInt ∧ (s (16 + k)).toInt ≤ w) ∧ (-1 ≤ (s (20 + k)).toInt ∧ (s (20 + k)).toInt ≤ w)) (hA : AllR s p 0 0) : ∀ i j, i ≤ j → j < p → lowB s i ≤ highB s j :=
  fun i j hij hj => (hA j (Nat.zero_le _) hj).2 i (Nat.zero_le _) hij
/-! width -/
def BeyR (s : Nat → Int32) (p j : Nat) (v : Int32) : Prop := ∃ q, j ≤ q ∧ q < p ∧ ¬ (s (16 + q) ≤ v ∧ s (20 + q) ≤ v)
theorem BeyR_s (s : Nat → Int32) (p j : Nat) (v : Int32) (hj : j < p) : BeyR s p j v ↔ (¬ (s (16 + j) ≤ v ∧ s (20 + j) ≤ v) ∨ BeyR s p (j + 1) v) := by
  constructor
  · rintro ⟨q, h1, h2, h3⟩
    by_cases e : q = j
    · subst e; exact Or.inl h3
    · exact Or.inr ⟨q, by omega, h2, h3⟩
  · rintro (h | ⟨q, h1, h2, h3⟩)
    · exact ⟨j, Nat.le_refl _, hj, h⟩
    · exact ⟨q, by omega, h2, h3⟩
theorem hsb_s {L : BX0} {s : Nat → Int32} {p : Nat} (h : LayEq L s) (hp : s 1 = nI p) (hp4 : p ≤ 4) (n j : Nat) (hj : j < p) (v : Int32) : fX0_hasStopBeyond_2 (n + 2) L v (nI (2 * j)) = if s (16 + j) ≤ v then (if s (20 + j) ≤ v then fX0_hasStopBeyond_2 n L v (nI (2 * (j + 1))) else some 1) else some 1 := by
  have e1 : (2 : Int32) * nI p = nI (2 * p) := pk_mul 2 p
  have a1 : p0_stops L (2 * j) = s (16 + j) := h.2.2.2.2.2.1 j (by omega)
  have a2 : p0_stops L (2 * j + 1) = s (20 + j) := h.2.2.2.2.2.2 j (by omega)
  have k2 : fX0_hasStopBeyond_2 (n + 1) L v (nI (2 * j + 1)) = if s (20 + j) ≤ v then fX0_hasStopBeyond_2 n L v (nI (2 * (j + 1))) else some 1 := by
    show fX0_hasStopBeyond_2_b (fX0_hasStopBeyond_2 n) L v (nI (2 * j + 1)) = _
    unfold fX0_hasStopBeyond_2_b
    rw [h.2.1, hp, e1, if_neg (nlec (by omega) (by omega)), if_pos (inB_nI (by omega) (by omega)), nI_clamp (by omega), a2, elet_eq, nI_1, show 2 * (j + 1) = 2 * j + 1 + 1 by omega]
  show fX0_hasStopBeyond_2_b (fX0_hasStopBeyond_2 (n + 1)) L v (nI (2 * j)) = _
  unfold fX0_hasStopBeyond_2_b
  rw [h.2.1, hp, e1, if_neg (nlec (by omega) (by omega)), if_pos (inB_nI (by omega) (by omega)), nI_clamp (by omega), a1, elet_eq, nI_1, k2]
theorem hsb_e {L : BX0} {s : Nat → Int32} {p : Nat} (h : LayEq L s) (hp : s 1 = nI p) (hp4 : p ≤ 4) (n : Nat) (v : Int32) : fX0_hasStopBeyond_2 (n + 1) L v (nI (2 * p)) = some 0 := by
  have e1 : (2 : Int32) * nI p = nI (2 * p) := pk_mul 2 p
  show fX0_hasStopBeyond_2_b (fX0_hasStopBeyond_2 n) L v (nI (2 * p)) = _
  unfold fX0_hasStopBeyond_2_b
  rw [h.2.1, hp, e1, if_pos (lec (Nat.le_refl _) (by omega))]
theorem hsb_all {L : BX0} {s : Nat → Int32} {p : Nat} (h : LayEq L s) (hp : s 1 = nI p) (hp4 : p ≤ 4) (v : Int32) : ∀ d j, j + d = p → ∀ (n : Nat), (BeyR s p j v ∧ fX0_hasStopBeyond_2 (n + 2 * d + 1) L v (nI (2 * j)) = some 1) ∨ (¬ BeyR s p j v ∧ fX0_hasStopBeyond_2 (n + 2 * d + 1) L v (nI (2 * j)) = some 0) := by
  intro d
  induction d with
  | zero =>
    intro j hj n
    obtain rfl : j = p := by omega
    refine Or.inr ⟨?_, hsb_e h hp hp4 _ v⟩
    rintro ⟨q, h1, h2, -⟩
    omega
  | succ d ih =>
    intro j hj n
    have hjp : j < p := by omega
    rw [show n + 2 * (d + 1) + 1 = (n + 2 * d + 1) + 2 by omega, hsb_s h hp hp4 _ j hjp v]
    have hb := BeyR_s s p j v hjp
    by_cases a1 : s (16 + j) ≤ v
    · by_cases a2 : s (20 + j) ≤ v
      · rw [if_pos a1, if_pos a2]
        rcases ih (j + 1) (by omega) n with ⟨b1, b2⟩ | ⟨b1, b2⟩
        · exact Or.inl ⟨hb.mpr (Or.inr b1), b2⟩
        · refine Or.inr ⟨fun b => ?_, b2⟩
          rcases hb.mp b with c | c
          · exact c ⟨a1, a2⟩
          · exact b1 c
      · rw [if_pos a1, if_neg a2]
        exact Or.inl ⟨hb.mpr (Or.inl (fun c => a2 c.2)), rfl⟩
    · rw [if_neg a1]
      exact Or.inl ⟨hb.mpr (Or.inl (fun c => a1 c.1)), rfl⟩
theorem beyond_v {L : BX0} {s : Nat → Int32} {p : Nat} (h : LayEq L s) (hp : s 1 = nI p) (hp4 : p ≤ 4) (v : Int32) : (BeyR s p 0 v ∧ fX0_hasStopBeyond L v = some 1) ∨ (¬ BeyR s p 0 v ∧ fX0_hasStopBeyond L v = some 0) := by
  obtain ⟨n, hn⟩ := FU_ex (2 * p + 1) (by omega)
  have e := hsb_all h hp hp4 v p 0 (by omega) n
  unfold fX0_hasStopBeyond
  rw [hn]
  exact e
theorem lay_width {L : BX0} {s : Nat → Int32} (h : LayEq L s) (v : Int32) : LayEq (s0_width L v) (upd s 0 v) := by
  obtain ⟨h1, h2, h3, h4, h5, h6, h7⟩ := h
  refine ⟨?_, ?_, fun j hj => ?_, fun j hj => ?_, fun j hj => ?_, fun j hj => ?_, fun j hj => ?_⟩
  · rw [gs0_width_width, pk_us]
  · rw [gs0_plates_width, pk_un (by omega)]; exact h2
  · rw [gs0_strengths_width, pk_un (by omega)]; exact h3 j hj
  · rw [gs0_lengths_width, pk_un (by omega)]; exact h4 j hj
  · rw [gs0_loads_width, pk_un (by omega)]; exact h5 j hj
  · rw [gs0_stops_width, pk_un (by omega)]; exact h6 j hj
  · rw [gs0_stops_width, pk_un (by omega)]; exact h7 j hj
/-! plate -/
/-! drop -/
def drL (j : Nat) (L : BX0) : BX0 := s0_lengths (s0_strengths (s0_stops (s0_loads L (upd (p0_loads L) j (p0_loads L (j + 1)))) (upd (upd (p0_stops L) (2 * j) (p0_stops L (2 * (j + 1)))) (2 * j + 1) (p0_stops L (2 * (j + 1) + 1)))) (upd (p0_strengths L) (j + 1) (p0_strengths L (j + 2)))) (upd (p0_lengths L) (j + 1) (p0_lengths L (j + 2)))
def drS (j : Nat) (s : Nat → Int32) : Nat → Int32 := upd (upd (upd (upd (upd s (2 + j + 1) (s (2 + j + 2))) (7 + j + 1) (s (7 + j + 2))) (12 + j) (s (12 + j + 1))) (16 + j) (s (16 + j + 1))) (20 + j) (s (20 + j + 1))
theorem dr_lay {L : BX0} {s : Nat → Int32} (h : LayEq L s) (j : Nat) (hj : j < 3) : LayEq (drL j L) (drS j s) := by
  obtain ⟨h1, h2, h3, h4, h5, h6, h7⟩ := h
  unfold drL drS
  refine ⟨?_, ?_, fun k hk => ?_, fun k hk => ?_, fun k hk => ?_, fun k hk => ?_, fun k hk => ?_⟩
  · rw [gs0_width_lengths, gs0_width_strengths, gs0_width_stops, gs0_width_loads, pk_un (by omega), pk_un (by omega), pk_un (by omega), pk_un (by omega), pk_un (by omega)]; exact h1
  · rw [gs0_plates_lengths, gs0_plates_strengths, gs0_plates_stops, gs0_plates_loads, pk_un (by omega), pk_un (by omega), pk_un (by omega), pk_un (by omega), pk_un (by omega)]; exact h2
  · rw [gs0_strengths_lengths, gs0_strengths_strengths, h3 (j + 2) (by omega)]
    simp only [upd_e]
    have := h3 k hk
    grind
  · rw [gs0_lengths_lengths, h4 (j + 2) (by omega)]
    simp only [upd_e]
    have := h4 k hk
    grind
  · rw [gs0_loads_lengths, gs0_loads_strengths, gs0_loads_stops, gs0_loads_loads, h5 (j + 1) (by omega)]
    simp only [upd_e]
    have := h5 k hk
    grind
  · rw [gs0_stops_lengths, gs0_stops_strengths, gs0_stops_stops, h6 (j + 1) (by omega), h7 (j + 1) (by omega)]
    simp only [upd_e]
    have := h6 k hk
    grind
  · rw [gs0_stops_lengths, gs0_stops_strengths, gs0_stops_stops, h6 (j + 1) (by omega), h7 (j + 1) (by omega)]
    simp only [upd_e]
    have := h7 k hk
    grind
theorem drop_c (n : Nat) (L : BX0) (q j : Nat) (hq : q ≤ 3) (hj : j < q) (hp : p0_plates L = nI (q + 1)) : fX0_removePlate_13 (n + 1) L (nI j) = fX0_removePlate_13 n (drL j L) (nI (j + 1)) := by
  show fX0_removePlate_13_b (fX0_removePlate_13 n) L (nI j) = _
  have e1 : (2 : Int32) * nI j = nI (2 * j) := pk_mul 2 j
  have e2 : (2 : Int32) * nI (j + 1) = nI (2 * (j + 1)) := pk_mul 2 (j + 1)
  have e3 : nI j + 2 = nI (j + 2) := nI_add j 2
  have a1 : ¬ nI (q + 1) ≤ nI (j + 1) := nlec (by omega) (by omega)
  have b1 : inB (nI (j + 1)) 4 = true := inB_nI (by omega) (by omega)
  have b2 : inB (nI j) 4 = true := inB_nI (by omega) (by omega)
  have b3 : inB (nI (2 * (j + 1))) 8 = true := inB_nI (by omega) (by omega)
  have b4 : inB (nI (2 * j)) 8 = true := inB_nI (by omega) (by omega)
  have b5 : inB (nI (2 * (j + 1) + 1)) 8 = true := inB_nI (by omega) (by omega)
  have b6 : inB (nI (2 * j + 1)) 8 = true := inB_nI (by omega) (by omega)
  have b7 : inB (nI (j + 2)) 5 = true := inB_nI (by omega) (by omega)
  have b8 : inB (nI (j + 1)) 5 = true := inB_nI (by omega) (by omega)
  have c1 : (nI (j + 1)).toNatClampNeg = j + 1 := nI_clamp (by omega)
  have c2 : (nI j).toNatClampNeg = j := nI_clamp (by omega)
  have c3 : (nI (2 * (j + 1))).toNatClampNeg = 2 * (j + 1) := nI_clamp (by omega)
  have c4 : (nI (2 * j)).toNatClampNeg = 2 * j := nI_clamp (by omega)
  have c5 : (nI (2 * (j + 1) + 1)).toNatClampNeg = 2 * (j + 1) + 1 := nI_clamp (by omega)
  have c6 : (nI (2 * j + 1)).toNatClampNeg = 2 * j + 1 := nI_clamp (by omega)
  have c7 : (nI (j + 2)).toNatClampNeg = j + 2 := nI_clamp (by omega)
  unfold fX0_removePlate_13_b fX0_copyPlateS
  simp only [nI_1, e1, e2, e3, hp, a1, b1, b2, b3, b4, b5, b6, b7, b8, c1, c2, c3, c4, c5, c6, c7, if_true, if_false, elet_eq, Option.bind_some, gs0_stops_loads, gs0_stops_stops, gs0_strengths_stops, gs0_strengths_loads, gs0_lengths_strengths, gs0_lengths_stops, gs0_lengths_loads]
  have u : upd (upd (p0_stops L) (2 * j) (p0_stops L (2 * (j + 1)))) (2 * j + 1) (upd (p0_stops L) (2 * j) (p0_stops L (2 * (j + 1))) (2 * (j + 1) + 1)) = upd (upd (p0_stops L) (2 * j) (p0_stops L (2 * (j + 1)))) (2 * j + 1) (p0_stops L (2 * (j + 1) + 1)) := by
    rw [pk_un (show 2 * (j + 1) + 1 ≠ 2 * j by omega)]
  rw [u]
  rfl
theorem drop_ce (n : Nat) (L : BX0) (q : Nat) (hq : q ≤ 3) (hp : p0_plates L = nI (q + 1)) : fX0_removePlate_13 (n + 1) L (nI q) = some (nI q, s0_plates L (nI q)) := by
  show fX0_removePlate_13_b (fX0_removePlate_13 n) L (nI q) = _
  unfold fX0_removePlate_13_b
  rw [hp, nI_1, if_pos (lec (Nat.le_refl _) (by omega)), elet_eq, nI_pred, gs0_plates_plates]
/-! plateOf -/
theorem pof_v (i : Int32) (h : -1 ≤ i.toInt) : fX3_placeOrNotFound i = some (if i < 0 then -1000004 else i) := by
  unfold fX3_placeOrNotFound
  by_cases a : i < 0
  · rw [if_pos a, if_pos ((neg1 h).mp a)]
  · rw [if_neg a, if_neg (fun b => a ((neg1 h).mpr b))]
/-! count -/
def stB (s : Nat → Int32) (a : Nat) : Int32 := if s a < 0 then 0 else 1
theorem cs_s {L : BX0} {s : Nat → Int32} {p : Nat} (h : LayEq L s) (hs : SaneS s p) (hp : s 1 = nI p) (hp4 : p ≤ 4) (n j : Nat) (hj : j < p) (x : Int32) : fX0_countStops_4 (n + 2) L x (nI (2 * j)) = fX0_countStops_4 n L (x + (stB s (16 + j) + stB s (20 + j))) (nI (2 * (j + 1))) := by
  have e1 : (2 : Int32) * nI p = nI (2 * p) := pk_mul 2 p
  have a1 : p0_stops L (2 * j) = s (16 + j) := h.2.2.2.2.2.1 j (by omega)
  have a2 : p0_stops L (2 * j + 1) = s (20 + j) := h.2.2.2.2.2.2 j (by omega)
  have one : ∀ (m i : Nat) (y : Int32) (a : Nat), i < 2 * p → p0_stops L i = s a → -1 ≤ (s a).toInt → fX0_countStops_4 (m + 1) L y (nI i) = fX0_countStops_4 m L (y + stB s a) (nI (i + 1)) := by
    intro m i y a hi ha hb
    show fX0_countStops_4_b (fX0_countStops_4 m) L y (nI i) = _
    unfold fX0_countStops_4_b fX0_countStops_27 stB
    rw [h.2.1, hp, e1, if_neg (nlec (by omega) (by omega)), if_pos (inB_nI (by omega) (by omega)), nI_clamp (by omega), ha, elet_eq, elet_eq, elet_eq, nI_1]
    by_cases c : s a < 0
    · rw [if_pos ((neg1 hb).mp c), if_pos c, Int32.add_zero]
    · rw [if_neg (fun d => c ((neg1 hb).mpr d)), if_neg c]
  rw [one (n + 1) (2 * j) x (16 + j) (by omega) a1 (hs j hj).1, one n (2 * j + 1) _ (20 + j) (by omega) a2 (hs j hj).2, Int32.add_assoc, show 2 * j + 1 + 1 = 2 * (j + 1) by omega]
theorem cs_e {L : BX0} {s : Nat → Int32} {p : Nat} (h : LayEq L s) (hp : s 1 = nI p) (hp4 : p ≤ 4) (n : Nat) (x : Int32) : fX0_countStops_4 (n + 1) L x (nI (2 * p)) = some x := by
  have e1 : (2 : Int32) * nI p = nI (2 * p) := pk_mul 2 p
  show fX0_countStops_4_b (fX0_countStops_4 n) L x (nI (2 * p)) = _
  unfold fX0_countStops_4_b
  rw [h.2.1, hp, e1, if_pos (lec (Nat.le_refl _) (by omega))]

def sumF (s : Nat → Int32) : Nat → Nat → Int32 → Int32
  | _, 0, x => x
  | j, d + 1, x => sumF s (j + 1) d (x + s (12 + j))
theorem sl_all {L : BX0} {s : Nat → Int32} (h : LayEq L s) (y : Int32) (e : Nat) (he : e ≤ 4) (hy : y.toInt = (e : Int) - 1) : ∀ d j, j + d = e → ∀ (x : Int32) (n : Nat), fX0_sumOfLoads_5 (n + d + 1) L y x (nI j) = some (sumF s j d x) := by
  intro d
  induction d with
  | zero =>
    intro j hj x n
    obtain rfl : j = e := by omega
    show fX0_sumOfLoads_5_b (fX0_sumOfLoads_5 (n + 0)) L y x (nI j) = _
    unfold fX0_sumOfLoads_5_b
    rw [if_pos (by rw [i_lt, hy, nI_toInt (by omega)]; omega)]
    rfl
  | succ d ih =>
    intro j hj x n
    show fX0_sumOfLoads_5_b (fX0_sumOfLoads_5 (n + d + 1)) L y x (nI j) = _
    unfold fX0_sumOfLoads_5_b
    rw [if_neg (by rw [i_lt, hy, nI_toInt (by omega)]; omega), if_pos (inB_nI (by omega) (by omega)), nI_clamp (by omega), h.2.2.2.2.1 j (by omega), elet_eq, elet_eq, nI_1]
    exact ih (j + 1) (by omega) _ n
/-! undo -/
