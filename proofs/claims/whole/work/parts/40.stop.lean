/-! a stop is put or removed -/
theorem nI_z : nI 0 = (0 : Int32) := rfl
/-- what Good says of lowB and highB -/
theorem bounds_of {s : Nat → Int32} {w p : Nat} (g1 : s 0 = nI w) (g4 : w ≤ 99) (g7 : ∀ k, k < p → (-99 ≤ (s (12 + k)).toInt ∧ (s (12 + k)).toInt ≤ 99) ∧ (-1 ≤ (s (16 + k)).toInt ∧ (s (16 + k)).toInt ≤ w) ∧ (-1 ≤ (s (20 + k)).toInt ∧ (s (20 + k)).toInt ≤ w)) (k : Nat) (hk : k < p) : 0 ≤ (lowB s k).toInt ∧ (lowB s k).toInt ≤ w ∧ 0 ≤ (highB s k).toInt ∧ (highB s k).toInt ≤ w := by
  obtain ⟨-, ⟨a1, a2⟩, b1, b2⟩ := g7 k hk
  have hw : (nI w).toInt = w := nI_toInt (by omega)
  have z : (0 : Int32).toInt = 0 := rfl
  unfold lowB highB
  refine ⟨?_, ?_, ?_, ?_⟩
  · split
    · rw [z]; exact Int.le_refl 0
    · rename_i h; rw [i_lt, z] at h; omega
  · split
    · rw [z]; omega
    · exact a2
  · split
    · rw [g1, hw]; omega
    · rename_i h; rw [i_lt, z] at h; omega
  · split
    · rw [g1, hw]; exact Int.le_refl _
    · exact b2
theorem good_stop {s : Nat → Int32} (h : Good s) {w p : Nat} (hw : s 0 = nI w) (hp : s 1 = nI p) (hp4 : p ≤ 4) (hw2 : w ≤ 99) (k c : Nat) (hk : k < p) (hc : c < 2) (v : Int32) (h1 : -1 ≤ v.toInt) (h2 : v.toInt ≤ w) (hA : ∀ i j, i ≤ j → j < p → lowB (upd s (16 + 4 * c + k) v) i ≤ highB (upd s (16 + 4 * c + k) v) j) : Good (upd s (16 + 4 * c + k) v) := by
  obtain ⟨w1, p1, g1, g2, g3, g4, g5, g6, g7, g8⟩ := h
  obtain rfl : w = w1 := (nI_eq (by omega) (by omega)).mp (hw.symm.trans g1)
  obtain rfl : p = p1 := (nI_eq (by omega) (by omega)).mp (hp.symm.trans g2)
  refine ⟨w, p, by rw [pk_un (by omega)]; exact g1, by rw [pk_un (by omega)]; exact g2, g3, g4, g5, fun j hj => ?_, fun j hj => ?_, hA⟩
  · rw [pk_un (by omega), pk_un (by omega)]; exact g6 j hj
  · obtain ⟨a1, a2, a3⟩ := g7 j hj
    rw [pk_un (show 12 + j ≠ 16 + 4 * c + k by omega)]
    refine ⟨a1, ?_, ?_⟩
    · rw [upd_e]
      split
      · exact ⟨h1, h2⟩
      · exact a2
    · rw [upd_e]
      split
      · exact ⟨h1, h2⟩
      · exact a3
theorem AllR_iff {s : Nat → Int32} {w p : Nat} (hw : s 0 = nI w) (hw2 : w ≤ 99) (g7 : ∀ k, k < p → (-99 ≤ (s (12 + k)).toInt ∧ (s (12 + k)).toInt ≤ 99) ∧ (-1 ≤ (s (16 + k)).toInt ∧ (s (16 + k)).toInt ≤ w) ∧ (-1 ≤ (s (20 + k)).toInt ∧ (s (20 + k)).toInt ≤ w)) (hA : AllR s p 0 0) : ∀ i j, i ≤ j → j < p → lowB s i ≤ highB s j :=
  fun i j hij hj => (hA j (Nat.zero_le _) hj).2 i (Nat.zero_le _) hij
theorem unstop_ok {L : BX0} {s : Nat → Int32} (hL : LayEq L s) (hG : Good s) (i1 i2 : Int32) : OpOk (fX0_removeStop L i1 i2) (fun M => fX4_unstop M i1 i2) s True := by
  obtain ⟨w, p, g1, g2, g3, g4, g5, g6, g7, g8⟩ := id hG
  rcases plate_or2 hL g2 g5 i1 with ⟨a0, a1, a2⟩ | ⟨k, hk, rfl, a1, a2⟩
  · refine Or.inl ⟨-1000001, L, Or.inl ⟨rfl, trivial⟩, ?_, hL, fun M hM => ?_⟩
    · unfold fX0_removeStop; rw [a1, Option.bind_some, if_pos rfl]
    · show fX4_unstop M i1 i2 = _
      unfold fX4_unstop; rw [a2 M hM, Option.bind_some, if_pos rfl]
  · rcases side_or i2 with ⟨-, b1, b2⟩ | ⟨c, hc, rfl, b1, b2⟩
    · refine Or.inl ⟨-1000001, L, Or.inl ⟨rfl, trivial⟩, ?_, hL, fun M hM => ?_⟩
      · unfold fX0_removeStop; rw [a1, Option.bind_some, if_neg (by decide), b1, Option.bind_some, if_pos rfl]
      · show fX4_unstop M _ i2 = _
        unfold fX4_unstop; rw [a2 M hM, Option.bind_some, if_neg (by decide), b2, Option.bind_some, if_pos rfl]
    · have hk4 : k < 4 := by omega
      have e0 := stopOf_v L k c hk4 hc
      rw [stops_c hL k c hk4 hc] at e0
      have e1 : (2 : Int32) * nI k + nI c = nI (2 * k + c) := by rw [show (2 : Int32) * nI k = nI (2 * k) from pk_mul 2 k, nI_add]
      have e2 : inB (nI (2 * k + c)) 8 = true := inB_nI (by omega) (by omega)
      have e3 : (nI (2 * k + c)).toNatClampNeg = 2 * k + c := nI_clamp (by omega)
      have e4 : inB (nI (16 + 4 * c + k)) 24 = true := inB_nI (by omega) (by omega)
      have e5 : (nI (16 + 4 * c + k)).toNatClampNeg = 16 + 4 * c + k := nI_clamp (by omega)
      have hv : -1 ≤ (s (16 + 4 * c + k)).toInt ∧ (s (16 + 4 * c + k)).toInt ≤ w := by
        obtain ⟨-, x1, x2⟩ := g7 k hk
        rcases (show c = 0 ∨ c = 1 by omega) with rfl | rfl
        · exact x1
        · exact x2
      by_cases d : s (16 + 4 * c + k) < 0
      · have d1 := (neg1 hv.1).mp d
        refine Or.inl ⟨-1000002, L, Or.inr (Or.inl rfl), ?_, hL, fun M hM => ?_⟩
        · unfold fX0_removeStop; rw [a1, Option.bind_some, if_neg (by decide), b1, Option.bind_some, if_neg (by decide), e0, Option.bind_some, if_pos d1]
        · show fX4_unstop M _ _ = _
          unfold fX4_unstop; rw [a2 M hM, Option.bind_some, if_neg (by decide), b2, Option.bind_some, if_neg (by decide), stopAt_v M k c hk4 hc, Option.bind_some, if_pos e4, elet_eq, e5, hM, if_neg (Int32.not_le.mpr d)]
      · have d1 : ¬ s (16 + 4 * c + k) = -1 := fun e => d ((neg1 hv.1).mpr e)
        have ha : (-1000001 : Int32) < s (16 + 4 * c + k) := by
          refine i_lt.mpr ?_
          show (-1000001 : Int) < _
          omega
        refine Or.inr ⟨_, _, _, ha, ?_, lay_stop hL k c hk4 hc (-1), good_stop hG g1 g2 g5 g4 k c hk hc (-1) (by decide) (by show (-1 : Int) ≤ _; omega) ?_, fun M M1 hM hc1 hM1 => ?_⟩
        · unfold fX0_removeStop
          rw [a1, Option.bind_some, if_neg (by decide), b1, Option.bind_some, if_neg (by decide), e0, Option.bind_some, if_neg d1, e1, if_pos e2, elet_eq, e3]
        · intro i j hij hj
          have q1 := bounds_of g1 g4 g7 i (by omega)
          have q2 := bounds_of g1 g4 g7 j hj
          have q3 := g8 i j hij hj
          have z : (0 : Int32).toInt = 0 := rfl
          have hw : (nI w).toInt = w := nI_toInt (by omega)
          rw [i_le] at q3 ⊢
          have f1 : lowB (upd s (16 + 4 * c + k) (-1)) i = lowB s i ∨ lowB (upd s (16 + 4 * c + k) (-1)) i = 0 := by
            unfold lowB
            rw [upd_e]
            split
            · exact Or.inr (if_pos (by decide))
            · exact Or.inl rfl
          have f2 : highB (upd s (16 + 4 * c + k) (-1)) j = highB s j ∨ highB (upd s (16 + 4 * c + k) (-1)) j = nI w := by
            unfold highB
            rw [upd_e, pk_un (show 0 ≠ 16 + 4 * c + k by omega)]
            split
            · exact Or.inr (by rw [if_pos (by decide), g1])
            · exact Or.inl rfl
          rcases f1 with f1 | f1 <;> rcases f2 with f2 | f2 <;> rw [f1, f2] <;> omega
        · show fX4_unstop M _ _ = _
          unfold fX4_unstop
          rw [a2 M hM, Option.bind_some, if_neg (by decide), b2, Option.bind_some, if_neg (by decide), stopAt_v M k c hk4 hc, Option.bind_some, if_pos e4, elet_eq, e5, hM, if_pos (Int32.not_lt.mp d), hc1, Option.bind_some, if_pos e4, elet_eq, hM1]
theorem St_unstop0 : St_unstop Sim0 := by
  intro vX n pv vA vB vR vT vS vM i1 i2 h
  exact op_keep h (fun L => fX0_removeStop L i1 i2) (fun M => fX4_unstop M i1 i2) True (unstop_ok (cfV_lay h.1) h.2.1 i1 i2)
theorem stop_ok {L : BX0} {s : Nat → Int32} (hL : LayEq L s) (hG : Good s) (i1 i2 i3 : Int32) : OpOk (fX0_setStop L i1 i2 i3) (fun M => fX4_stop M i1 i2 i3) s (¬ ((∃ k p, s 1 = nI p ∧ p ≤ 4 ∧ k < p ∧ i1 = nI k) ∧ (∃ c, c < 2 ∧ i2 = nI c) ∧ 0 ≤ i3 ∧ i3 ≤ s 0)) := by
  obtain ⟨w, p, g1, g2, g3, g4, g5, g6, g7, g8⟩ := id hG
  have hwd : p0_width L = s 0 := hL.1
  rcases plate_or2 hL g2 g5 i1 with ⟨a0, a1, a2⟩ | ⟨k, hk, rfl, a1, a2⟩
  · refine Or.inl ⟨-1000001, L, Or.inl ⟨rfl, ?_⟩, ?_, hL, fun M hM => ?_⟩
    · rintro ⟨⟨k, q, b1, b2, b3, b4⟩, -⟩
      refine a0 ⟨k, ?_, b4⟩
      have := (nI_eq (show q < 2 ^ 31 by omega) (show p < 2 ^ 31 by omega)).mp (b1.symm.trans g2)
      omega
    · unfold fX0_setStop; rw [a1, Option.bind_some, if_pos rfl]
    · show fX4_stop M i1 i2 i3 = _
      unfold fX4_stop; rw [a2 M hM, Option.bind_some, if_pos rfl]
  · rcases side_or i2 with ⟨b0, b1, b2⟩ | ⟨c, hc, rfl, b1, b2⟩
    · refine Or.inl ⟨-1000001, L, Or.inl ⟨rfl, ?_⟩, ?_, hL, fun M hM => ?_⟩
      · rintro ⟨-, b3, -⟩
        exact b0 b3
      · unfold fX0_setStop; rw [a1, Option.bind_some, if_neg (by decide), b1, Option.bind_some, if_pos rfl]
      · show fX4_stop M _ i2 i3 = _
        unfold fX4_stop; rw [a2 M hM, Option.bind_some, if_neg (by decide), b2, Option.bind_some, if_pos rfl]
    · by_cases d1 : i3 < 0
      · refine Or.inl ⟨-1000001, L, Or.inl ⟨rfl, ?_⟩, ?_, hL, fun M hM => ?_⟩
        · rintro ⟨-, -, b3, -⟩
          exact absurd d1 (Int32.not_lt.mpr b3)
        · unfold fX0_setStop; rw [a1, Option.bind_some, if_neg (by decide), b1, Option.bind_some, if_neg (by decide), if_pos d1]
        · show fX4_stop M _ _ i3 = _
          unfold fX4_stop; rw [a2 M hM, Option.bind_some, if_neg (by decide), b2, Option.bind_some, if_neg (by decide)]; unfold fX4_in; rw [if_pos d1, Option.bind_some, if_pos rfl]
      · by_cases d2 : i3 ≤ s 0
        · have d3 : ¬ s 0 < i3 := Int32.not_lt.mpr d2
          have hk4 : k < 4 := by omega
          have e0 := stopOf_v L k c hk4 hc
          rw [stops_c hL k c hk4 hc] at e0
          have e1 : (2 : Int32) * nI k + nI c = nI (2 * k + c) := by rw [show (2 : Int32) * nI k = nI (2 * k) from pk_mul 2 k, nI_add]
          have e2 : inB (nI (2 * k + c)) 8 = true := inB_nI (by omega) (by omega)
          have e3 : (nI (2 * k + c)).toNatClampNeg = 2 * k + c := nI_clamp (by omega)
          have e4 : inB (nI (16 + 4 * c + k)) 24 = true := inB_nI (by omega) (by omega)
          have e5 : (nI (16 + 4 * c + k)).toNatClampNeg = 16 + 4 * c + k := nI_clamp (by omega)
          have hw : (nI w).toInt = w := nI_toInt (by omega)
          have z : (0 : Int32).toInt = 0 := rfl
          have v1 : 0 ≤ i3.toInt := by have := i_le.mp (Int32.not_lt.mp d1); exact this
          have v2 : i3.toInt ≤ w := by have := i_le.mp d2; rw [g1, hw] at this; exact this
          have hv : -1 ≤ (s (16 + 4 * c + k)).toInt ∧ (s (16 + 4 * c + k)).toInt ≤ w := by
            obtain ⟨-, x1, x2⟩ := g7 k hk
            rcases (show c = 0 ∨ c = 1 by omega) with rfl | rfl
            · exact x1
            · exact x2
          have hL1 := lay_stop hL k c hk4 hc i3
          have hp1 : upd s (16 + 4 * c + k) i3 1 = nI p := by rw [pk_un (by omega)]; exact g2
          have hS1 : SaneS (upd s (16 + 4 * c + k) i3) p := by
            intro j hj
            obtain ⟨-, x1, x2⟩ := g7 j hj
            constructor
            · rw [upd_e]; split; omega; exact x1.1
            · rw [upd_e]; split; omega; exact x2.1
          have cR := allows_v hL1 hS1 hp1 g5
          by_cases hA : AllR (upd s (16 + 4 * c + k) i3) p 0 0
          · have c1 : fX0_allowsRow (s0_stops L (upd (p0_stops L) (2 * k + c) i3)) = some 1 := by
              rcases cR with ⟨-, c1⟩ | ⟨c1, -⟩
              · exact c1
              · exact absurd hA c1
            have ha : (-1000001 : Int32) < s (16 + 4 * c + k) := by
              refine i_lt.mpr ?_
              show (-1000001 : Int) < _
              omega
            refine Or.inr ⟨_, _, _, ha, ?_, hL1, good_stop hG g1 g2 g5 g4 k c hk hc i3 (by omega) v2 ?_, fun M M1 hM hc1 hM1 => ?_⟩
            · unfold fX0_setStop
              rw [a1, Option.bind_some, if_neg (by decide), b1, Option.bind_some, if_neg (by decide), if_neg d1, hwd, if_pos d2, e0, Option.bind_some, e1, if_pos e2, elet_eq, e3, c1, Option.bind_some, if_neg (by decide)]
            · exact fun i j hij hj => (hA j (Nat.zero_le _) hj).2 i (Nat.zero_le _) hij
            · have cM : fX4_isAllowed (s4_s M (upd s (16 + 4 * c + k) i3)) = some 1 := by
                rcases allowed_v (M := s4_s M (upd s (16 + 4 * c + k) i3)) (s := upd s (16 + 4 * c + k) i3) rfl hp1 g5 with ⟨-, c2⟩ | ⟨c2, -⟩
                · exact c2
                · exact absurd hA c2
              have hb : s4_s (s4_s M (upd s (16 + 4 * c + k) i3)) (upd (upd s (16 + 4 * c + k) i3) (16 + 4 * c + k) (s (16 + 4 * c + k))) = M := by
                rw [upd_back, s4ss, ← hM]
                rfl
              show fX4_stop M _ _ i3 = _
              unfold fX4_stop
              rw [a2 M hM, Option.bind_some, if_neg (by decide), b2, Option.bind_some, if_neg (by decide), cl0, hM]
              unfold fX4_in
              rw [if_neg d1, if_neg d3, Option.bind_some, if_neg (by decide), stopAt_v M k c hk4 hc, Option.bind_some, if_pos e4, elet_eq, if_pos e4, elet_eq, e5, cM, Option.bind_some, if_pos e4, elet_eq, gs4_s_s, hb, if_neg (by decide), hc1, Option.bind_some, if_pos e4, elet_eq, hM1]
          · have c1 : fX0_allowsRow (s0_stops L (upd (p0_stops L) (2 * k + c) i3)) = some 0 := by
              rcases cR with ⟨c1, -⟩ | ⟨-, c1⟩
              · exact absurd c1 hA
              · exact c1
            refine Or.inl ⟨-1000002, _, Or.inr (Or.inl rfl), ?_, layEq_of (lay_stop hL1 k c hk4 hc (s (16 + 4 * c + k))) (fun q hq => by rw [upd_back]), fun M hM => ?_⟩
            · unfold fX0_setStop
              rw [a1, Option.bind_some, if_neg (by decide), b1, Option.bind_some, if_neg (by decide), if_neg d1, hwd, if_pos d2, e0, Option.bind_some, e1, if_pos e2, elet_eq, e3, c1, Option.bind_some, if_pos rfl, if_pos e2, elet_eq]
            · have cM : fX4_isAllowed (s4_s M (upd s (16 + 4 * c + k) i3)) = some 0 := by
                rcases allowed_v (M := s4_s M (upd s (16 + 4 * c + k) i3)) (s := upd s (16 + 4 * c + k) i3) rfl hp1 g5 with ⟨c2, -⟩ | ⟨-, c2⟩
                · exact absurd c2 hA
                · exact c2
              have hb : s4_s (s4_s M (upd s (16 + 4 * c + k) i3)) (upd (upd s (16 + 4 * c + k) i3) (16 + 4 * c + k) (s (16 + 4 * c + k))) = M := by
                rw [upd_back, s4ss, ← hM]
                rfl
              show fX4_stop M _ _ i3 = _
              unfold fX4_stop
              rw [a2 M hM, Option.bind_some, if_neg (by decide), b2, Option.bind_some, if_neg (by decide), cl0, hM]
              unfold fX4_in
              rw [if_neg d1, if_neg d3, Option.bind_some, if_neg (by decide), stopAt_v M k c hk4 hc, Option.bind_some, if_pos e4, elet_eq, if_pos e4, elet_eq, e5, cM, Option.bind_some, if_pos e4, elet_eq, gs4_s_s, hb, if_pos rfl]
        · have d3 : s 0 < i3 := Int32.not_le.mp d2
          refine Or.inl ⟨-1000001, L, Or.inl ⟨rfl, ?_⟩, ?_, hL, fun M hM => ?_⟩
          · rintro ⟨-, -, -, b4⟩
            exact d2 b4
          · unfold fX0_setStop; rw [a1, Option.bind_some, if_neg (by decide), b1, Option.bind_some, if_neg (by decide), if_neg d1, hwd, if_neg d2]
          · show fX4_stop M _ _ i3 = _
            unfold fX4_stop; rw [a2 M hM, Option.bind_some, if_neg (by decide), b2, Option.bind_some, if_neg (by decide), cl0, hM]; unfold fX4_in; rw [if_neg d1, if_pos d3, Option.bind_some, if_pos rfl]
theorem St_stop0 : St_stop Sim0 := by
  intro vX n pv vA vB vR vT vS vM i1 i2 i3 h
  exact op_keep h (fun L => fX0_setStop L i1 i2 i3) (fun M => fX4_stop M i1 i2 i3) _ (stop_ok (cfV_lay h.1) h.2.1 i1 i2 i3)
