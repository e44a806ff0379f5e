/-! the relation between the class's state and the reference's -/
def LayEq (L : BX0) (s : Nat → Int32) : Prop := p0_width L = s 0 ∧ p0_plates L = s 1 ∧ (∀ k, k < 5 → p0_strengths L k = s (2 + k)) ∧ (∀ k, k < 5 → p0_lengths L k = s (7 + k)) ∧ (∀ k, k < 4 → p0_loads L k = s (12 + k)) ∧ (∀ k, k < 4 → p0_stops L (2 * k) = s (16 + k)) ∧ (∀ k, k < 4 → p0_stops L (2 * k + 1) = s (20 + k))
def lowB (s : Nat → Int32) (i : Nat) : Int32 := if s (16 + i) < 0 then 0 else s (16 + i)
def highB (s : Nat → Int32) (i : Nat) : Int32 := if s (20 + i) < 0 then s 0 else s (20 + i)
def Good (s : Nat → Int32) : Prop := ∃ w p : Nat, s 0 = nI w ∧ s 1 = nI p ∧ 10 ≤ w ∧ w ≤ 99 ∧ p ≤ 4 ∧ (∀ k, k ≤ p → 1 ≤ (s (2 + k)).toInt ∧ (s (2 + k)).toInt ≤ 9 ∧ 0 ≤ (s (7 + k)).toInt ∧ (s (7 + k)).toInt ≤ 50) ∧ (∀ k, k < p → (-99 ≤ (s (12 + k)).toInt ∧ (s (12 + k)).toInt ≤ 99) ∧ (-1 ≤ (s (16 + k)).toInt ∧ (s (16 + k)).toInt ≤ w) ∧ (-1 ≤ (s (20 + k)).toInt ∧ (s (20 + k)).toInt ≤ w)) ∧ ∀ i j, i ≤ j → j < p → lowB s i ≤ highB s j
def Sim0 : SimT := fun vX n pv vA vB vR vT vS vM =>
  LayEq vA (p4_s vM) ∧ Good (p4_s vM) ∧
  (∃ h : Nat, h ≤ n ∧ n ≤ 4 ∧ p3_states vX = nI h ∧ p4_pasts vM = nI h ∧ ∀ i, i < h → LayEq (pv i) (fun k => p4_past vM (24 * i + k)) ∧ Good (fun k => p4_past vM (24 * i + k))) ∧
  (∃ t : Nat, t ≤ 60 ∧ p2_size vS = nI t ∧ p4_typed vM = nI t ∧ ∀ i, i < t → p2_characters vS i = p4_text vM i ∧ 32 ≤ (p4_text vM i).toInt ∧ (p4_text vM i).toInt ≤ 126) ∧
  p4_runs vM = 0 ∧ (p3_restKnown vX = 0 ∨ (p3_restKnown vX = 1 ∧ ∃ R0, fX1_settle vA R0 = some vR))
theorem hSn0 : ∀ (vX : BX3) (n : Nat) (pv : Nat → BX0) (vA vB : BX0) (vR vT : BX1) (vS : BX2) (vM : BX4), Sim0 vX n pv vA vB vR vT vS vM → n ≤ 4 := by
  intro vX n pv vA vB vR vT vS vM h
  obtain ⟨-, -, ⟨h, -, h1, -⟩, -⟩ := h
  exact h1
/-! helpers -/
theorem inB_nI {k N : Nat} (h : k < N) (hN : N ≤ 2 ^ 31) : inB (nI k) N = true := by
  have h1 : ¬ nI k < 0 := nI_pos (by omega)
  have h2 : (nI k).toNatClampNeg = k := nI_clamp (by omega)
  simp [inB, h1, h2, h]
theorem i_lt {a b : Int32} : a < b ↔ a.toInt < b.toInt := Int32.lt_iff_toInt_lt
theorem i_le {a b : Int32} : a ≤ b ↔ a.toInt ≤ b.toInt := Int32.le_iff_toInt_le
theorem i_eq {a b : Int32} : a = b ↔ a.toInt = b.toInt := Int32.toInt_inj.symm
theorem St_clearText0 : St_clearText Sim0 := by
  intro vX n pv vA vB vR vT vS vM h
  obtain ⟨hL, hG, hH, ⟨t, ht, h1, h2, hc⟩, hr, hk⟩ := h
  refine ⟨_, _, rfl, rfl, ?_, hL, hG, hH, ⟨0, Nat.zero_le _, rfl, rfl, fun i hi => absurd hi (Nat.not_lt_zero i)⟩, hr, hk⟩
  show p2_size vS = p4_typed vM
  rw [h1, h2]
theorem St_type0 : St_type Sim0 := by
  intro vX n pv vA vB vR vT vS vM i1 h
  obtain ⟨hL, hG, hH, ⟨t, ht, h1, h2, hc⟩, hr, hk⟩ := h
  by_cases a1 : i1 < 32
  · refine ⟨(-1000001, vS), (-1000001, vM), ?_, ?_, rfl, hL, hG, hH, ⟨t, ht, h1, h2, hc⟩, hr, hk⟩
    · simp [fX3_type, fX2_append, a1]
    · simp [fX4_type, fX4_in, a1]
  · by_cases a2 : i1 ≤ 126
    · have a3 : ¬ (126 : Int32) < i1 := Int32.not_lt.mpr a2
      by_cases a4 : t < 60
      · have a5 : nI t < (60 : Int32) := show nI t < nI 60 from nI_lt a4 (by omega)
        have a6 : ¬ nI t = (60 : Int32) := fun e => absurd ((nI_eq (by omega) (by omega)).mp (show nI t = nI 60 from e)) (by omega)
        have a7 : inB (nI t) 60 = true := inB_nI a4 (by omega)
        have a8 : (nI t).toNatClampNeg = t := nI_clamp (by omega)
        refine ⟨(nI (t + 1), s2_size (s2_characters vS (upd (p2_characters vS) t i1)) (nI (t + 1))), (nI (t + 1), s4_typed (s4_text vM (upd (p4_text vM) t i1)) (nI (t + 1))), ?_, ?_, rfl, hL, hG, hH, ⟨t + 1, by omega, rfl, rfl, fun i hi => ?_⟩, hr, hk⟩
        · have e : p2_size (s2_characters vS (upd (p2_characters vS) t i1)) = nI t := h1
          simp only [fX3_type, fX2_append, h1, a1, a2, a5, a7, a8, if_true, if_false, elet, Option.bind_some, e, nI_1]
          rfl
        · have e : p4_typed (s4_text vM (upd (p4_text vM) t i1)) = nI t := h2
          simp only [fX4_type, fX4_in, h2, a1, a3, a6, a7, a8, if_true, if_false, elet, Option.bind_some, e, nI_1]
          rfl
        · show upd (p2_characters vS) t i1 i = upd (p4_text vM) t i1 i ∧ 32 ≤ (upd (p4_text vM) t i1 i).toInt ∧ (upd (p4_text vM) t i1 i).toInt ≤ 126
          by_cases e : i = t
          · subst e
            rw [pk_us, pk_us]
            refine ⟨rfl, ?_, ?_⟩
            · have := Int32.not_lt.mp a1
              exact i_le.mp this
            · exact i_le.mp a2
          · rw [pk_un e, pk_un e]
            exact hc i (by omega)
      · have a5 : t = 60 := by omega
        subst a5
        refine ⟨(-1000003, vS), (-1000003, vM), ?_, ?_, rfl, hL, hG, hH, ⟨60, ht, h1, h2, hc⟩, hr, hk⟩
        · have a6 : ¬ nI 60 < (60 : Int32) := by decide
          simp only [fX3_type, fX2_append, h1, a1, a2, a6, if_true, if_false, Option.bind_some]
        · have a6 : nI 60 = (60 : Int32) := rfl
          simp only [fX4_type, fX4_in, h2, a1, a3, a6, if_true, if_false, Option.bind_some]
          rfl
    · have a3 : (126 : Int32) < i1 := Int32.not_le.mp a2
      refine ⟨(-1000001, vS), (-1000001, vM), ?_, ?_, rfl, hL, hG, hH, ⟨t, ht, h1, h2, hc⟩, hr, hk⟩
      · simp [fX3_type, fX2_append, a1, a2]
      · simp [fX4_type, fX4_in, a1, a3]
