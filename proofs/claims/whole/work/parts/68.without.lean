/-! without a stop -/
theorem rem_ok {L : BX0} {s : Nat → Int32} (hL : LayEq L s) (hG : Good s) {p : Nat} (g2 : s 1 = nI p) (g5 : p ≤ 4) (k c : Nat) (hk : k < p) (hc : c < 2) (d : ¬ s (16 + 4 * c + k) < 0) :
    ∃ a L1, fX0_removeStop L (nI k) (nI c) = some (a, L1) ∧ LayEq L1 (upd s (16 + 4 * c + k) (-1)) ∧ Good (upd s (16 + 4 * c + k) (-1)) := by
  obtain ⟨w, p', g1, g2', g3, g4, g5', g6, g7, g8⟩ := id hG
  obtain rfl : p = p' := (nI_eq (by omega) (by omega)).mp (g2.symm.trans g2')
  have hk4 : k < 4 := by omega
  have e0 := stopOf_v L k c hk4 hc
  rw [stops_c hL k c hk4 hc] at e0
  have e1 : (2 : Int32) * nI k + nI c = nI (2 * k + c) := by rw [show (2 : Int32) * nI k = nI (2 * k) from pk_mul 2 k, nI_add]
  have e2 : inB (nI (2 * k + c)) 8 = true := inB_nI (by omega) (by omega)
  have e3 : (nI (2 * k + c)).toNatClampNeg = 2 * k + c := nI_clamp (by omega)
  have hv : -1 ≤ (s (16 + 4 * c + k)).toInt := by
    obtain ⟨-, x1, x2⟩ := g7 k hk
    rcases (show c = 0 ∨ c = 1 by omega) with rfl | rfl
    · exact x1.1
    · exact x2.1
  have d1 : ¬ s (16 + 4 * c + k) = -1 := fun e => d ((neg1 hv).mpr e)
  have a1 : fX0_hasPlate L (nI k) = some 1 := by
    rcases plate_or2 hL g2 g5 (nI k) with ⟨a0, -, -⟩ | ⟨k', -, -, a1, -⟩
    · exact absurd ⟨k, hk, rfl⟩ a0
    · exact a1
  have b1 : fX3_isSide (nI c) = some 1 := by
    rcases side_or (nI c) with ⟨a0, -, -⟩ | ⟨c', -, -, a1, -⟩
    · exact absurd ⟨c, hc, rfl⟩ a0
    · exact a1
  refine ⟨s (16 + 4 * c + k), s0_stops L (upd (p0_stops L) (2 * k + c) (-1)), ?_, lay_stop hL k c hk4 hc (-1), good_stop hG g1 g2 g5 g4 k c hk hc (-1) (by decide) (by show (-1 : Int) ≤ _; omega) ?_⟩
  · unfold fX0_removeStop
    rw [a1, Option.bind_some, if_neg (by decide), b1, Option.bind_some, if_neg (by decide), e0, Option.bind_some, if_neg d1, e1, if_pos e2, elet_eq, e3]
  · intro i j hij hj
    have q1 := bounds_of g1 g4 g7 i (by omega)
    have q2 := bounds_of g1 g4 g7 j hj
    have q3 := g8 i j hij hj
    have z : (0 : Int32).toInt = 0 := rfl
    have hw : (nI w).toInt = w := nI_toInt (by omega)
    rw [i_le] at q3 ⊢
    have f1 : lowB (upd s (16 + 4 * c + k) (-1)) i = lowB s i ∨ lowB (upd s (16 + 4 * c + k) (-1)) i = 0 := by
      unfold lowB
      rw [upd_e]
      split
      · exact Or.inr (if_pos (by decide))
      · exact Or.inl rfl
    have f2 : highB (upd s (16 + 4 * c + k) (-1)) j = highB s j ∨ highB (upd s (16 + 4 * c + k) (-1)) j = nI w := by
      unfold highB
      rw [upd_e, pk_un (show 0 ≠ 16 + 4 * c + k by omega)]
      split
      · exact Or.inr (by rw [if_pos (by decide), g1])
      · exact Or.inl rfl
    rcases f1 with f1 | f1 <;> rcases f2 with f2 | f2 <;> rw [f1, f2] <;> omega
theorem sw_ok {vA : BX0} {s : Nat → Int32} (hL : LayEq vA s) (hG : Good s) {p : Nat} (g2 : s 1 = nI p) (g5 : p ≤ 4) (vX : BX3) (vB : BX0) (vT : BX1) (k c : Nat) (hk : k < p) (hc : c < 2) (d : ¬ s (16 + 4 * c + k) < 0) :
    ∃ (L1 : BX0) (R : BX1) (u : Nat → Int) (l : Int), fX3_settleWithout vX vA vB vT (nI k) (nI c) = some (L1, R) ∧ SpQ (syO (upd s (16 + 4 * c + k) (-1))) R u l ∧ RestT (syO (upd s (16 + 4 * c + k) (-1))) u l ∧ l ≤ 104976 := by
  obtain ⟨a, L1, r1, r2, r3⟩ := rem_ok (cfV_lay (L := vB) hL) hG g2 g5 k c hk hc d
  obtain ⟨R, l, u, q1, q2, q3, q4⟩ := settle_ok (laySy_of r2 r3) vT
  refine ⟨L1, R, u, l, ?_, q2, q3, q4⟩
  unfold fX3_settleWithout
  rw [copyFrom_v, Option.bind_some, r1, Option.bind_some, q1, Option.bind_some]
theorem rz_set (M : BX4) (x : Nat → Int32) : rz (s4_s M x) = (x, (rz M).2) := rfl
/-- the reference's row of another state -/
theorem rw_ok {M : BX4} {s1 : Nat → Int32} (hG : Good s1) : ∃ (M' : BX4) (v : Nat → Int) (m : Int), fX4_rests (s4_s M s1) = some M' ∧ p4_s M' = s1 ∧ (rz M').2 = (rz M).2 ∧ UpQ (syO s1) M' v m ∧ RestT (syO s1) v m ∧ m ≤ 104976 := by
  obtain ⟨M', b1, b2, v, m, b3, b4, b5⟩ := rests_ok hG (s4_s M s1) rfl
  exact ⟨M', v, m, b1, rz_s b2, congrArg (fun z => z.2) b2, b3, b4, b5⟩
theorem rz_back {M M' : BX4} (h : (rz M').2 = (rz M).2) : rz (s4_s M' (p4_s M)) = rz M := by
  rw [rz_set, h]; rfl
theorem St_without0 : St_without Sim0 := by
  intro vX n pv vA vB vR vT vS vM i1 i2 i3 i4 h
  have hL := h.1
  have hG := h.2.1
  obtain ⟨w, p, g1, g2, g3, g4, g5, g6, g7, g8⟩ := id hG
  rcases plate_or2 hL g2 g5 i1 with ⟨a0, a1, a2⟩ | ⟨k, hk, rfl, a1, a2⟩
  · refine ⟨(-1000001, vB, vT), (-1000001, vM), ?_, ?_, rfl, h⟩
    · unfold fX3_without; rw [a1, Option.bind_some, if_pos rfl]
    · unfold fX4_without; rw [a2 vM rfl, Option.bind_some, if_pos rfl]
  rcases side_or i2 with ⟨-, b1, b2⟩ | ⟨c, hc, rfl, b1, b2⟩
  · refine ⟨(-1000001, vB, vT), (-1000001, vM), ?_, ?_, rfl, h⟩
    · unfold fX3_without; rw [a1, Option.bind_some, if_neg (by decide), b1, Option.bind_some, if_pos rfl]
    · unfold fX4_without; rw [a2 vM rfl, Option.bind_some, if_neg (by decide), b2, Option.bind_some, if_pos rfl]
  rcases plate_or2 hL g2 g5 i3 with ⟨-, c1, c2⟩ | ⟨o, ho, rfl, c1, c2⟩
  · refine ⟨(-1000001, vB, vT), (-1000001, vM), ?_, ?_, rfl, h⟩
    · unfold fX3_without; rw [a1, Option.bind_some, if_neg (by decide), b1, Option.bind_some, if_neg (by decide), c1, Option.bind_some, if_pos rfl]
    · unfold fX4_without; rw [a2 vM rfl, Option.bind_some, if_neg (by decide), b2, Option.bind_some, if_neg (by decide), c2 vM rfl, Option.bind_some, if_pos rfl]
  rcases part_or i4 with ⟨d1, d2⟩ | ⟨d1, d2⟩
  · refine ⟨(-1000001, vB, vT), (-1000001, vM), ?_, ?_, rfl, h⟩
    · unfold fX3_without; rw [a1, Option.bind_some, if_neg (by decide), b1, Option.bind_some, if_neg (by decide), c1, Option.bind_some, if_neg (by decide), d1, Option.bind_some, if_pos rfl]
    · unfold fX4_without; rw [a2 vM rfl, Option.bind_some, if_neg (by decide), b2, Option.bind_some, if_neg (by decide), c2 vM rfl, Option.bind_some, if_neg (by decide), d2, Option.bind_some, if_pos rfl]
  have hk4 : k < 4 := by omega
  have e0 := stopOf_v vA k c hk4 hc
  rw [stops_c hL k c hk4 hc] at e0
  have e4 : inB (nI (16 + 4 * c + k)) 24 = true := inB_nI (by omega) (by omega)
  have e5 : (nI (16 + 4 * c + k)).toNatClampNeg = 16 + 4 * c + k := nI_clamp (by omega)
  have hv : -1 ≤ (p4_s vM (16 + 4 * c + k)).toInt := by
    obtain ⟨-, x1, x2⟩ := g7 k hk
    rcases (show c = 0 ∨ c = 1 by omega) with rfl | rfl
    · exact x1.1
    · exact x2.1
  by_cases d : p4_s vM (16 + 4 * c + k) < 0
  · have dd := (neg1 hv).mp d
    refine ⟨(-1000002, vB, vT), (-1000002, vM), ?_, ?_, rfl, h⟩
    · unfold fX3_without; rw [a1, Option.bind_some, if_neg (by decide), b1, Option.bind_some, if_neg (by decide), c1, Option.bind_some, if_neg (by decide), d1, Option.bind_some, if_neg (by decide), e0, Option.bind_some, if_pos dd]
    · unfold fX4_without; rw [a2 vM rfl, Option.bind_some, if_neg (by decide), b2, Option.bind_some, if_neg (by decide), c2 vM rfl, Option.bind_some, if_neg (by decide), d2, Option.bind_some, if_neg (by decide), stopAt_v vM k c hk4 hc, Option.bind_some, if_pos e4, elet_eq, e5, if_neg (Int32.not_le.mpr d)]
  have dd : ¬ p4_s vM (16 + 4 * c + k) = -1 := fun e => d ((neg1 hv).mpr e)
  obtain ⟨L1, R, u, l, s1, s2, s3, s4⟩ := sw_ok hL hG g2 g5 vX vB vT k c hk hc d
  obtain ⟨a, L2, -, -, hG1⟩ := rem_ok hL hG g2 g5 k c hk hc d
  obtain ⟨M', v, m, r1, r2, r3, r4, r5, r6⟩ := rw_ok (M := vM) hG1
  have hS := gdS_of hG1
  have hn : (syO (upd (p4_s vM) (16 + 4 * c + k) (-1))).n = p := syO_p (by rw [pk_un (by omega)]; exact g2) g5
  have eq := rest_one s3 r5 (fun k hk => by have := hS.K0 k hk; omega)
  have e1 := eq (o + 1) (by omega)
  have k4 : inB (nI o) 4 = true := inB_nI (by omega) (by omega)
  have kc : (nI o).toNatClampNeg = o := nI_clamp (by omega)
  obtain ⟨x, x1, x2⟩ := frac_same (row_inL hS s3.toRowIn s4 (o + 1) (by omega)) (l_inL s3.pos s4) (row_inL hS r5.toRowIn r6 (o + 1) (by omega)) (l_inL r5.pos r6) s3.pos r5.pos (show u (o + 1) * m = v (o + 1) * l by rw [Int.mul_comm, e1, Int.mul_comm]) i4
  have hb : upd (p4_s M') (16 + 4 * c + k) (p4_s vM (16 + 4 * c + k)) = p4_s vM := by rw [r2]; exact upd_back _ _ _
  refine ⟨(x.toInt32, L1, R), ((if i4 = 0 then x.toInt32 + 0 else x.toInt32), s4_s M' (p4_s vM)), ?_, ?_, ?_, sim_rz h (rz_back r3)⟩
  · unfold fX3_without; rw [a1, Option.bind_some, if_neg (by decide), b1, Option.bind_some, if_neg (by decide), c1, Option.bind_some, if_neg (by decide), d1, Option.bind_some, if_neg (by decide), e0, Option.bind_some, if_neg dd, s1, Option.bind_some, up_v (by omega) s2 o (by omega), Option.bind_some, s2.1, x1, Option.bind_some]
  · unfold fX4_without
    rw [a2 vM rfl, Option.bind_some, if_neg (by decide), b2, Option.bind_some, if_neg (by decide), c2 vM rfl, Option.bind_some, if_neg (by decide), d2, Option.bind_some, if_neg (by decide), stopAt_v vM k c hk4 hc, Option.bind_some, if_pos e4]
    simp only [elet_eq]
    rw [e5, if_pos (Int32.not_lt.mp d), if_pos e4, r1, Option.bind_some, if_pos e4, hb, if_pos k4, kc, gs4_upper_s, gs4_lower_s, r4.2.1 o (by omega), r4.1, x2, Option.bind_some]
  · show x.toInt32 = if i4 = 0 then x.toInt32 + 0 else x.toInt32
    split
    · exact (Int32.add_zero _).symm
    · rfl
