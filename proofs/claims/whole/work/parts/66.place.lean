theorem in4_v (i a b : Int32) : fX4_in i a b = some (if i < a then 0 else if b < i then 0 else 1) := by
  unfold fX4_in
  by_cases h1 : i < a
  · rw [if_pos h1, if_pos h1]
  · rw [if_neg h1, if_neg h1]
    by_cases h2 : b < i
    · rw [if_pos h2, if_pos h2]
    · rw [if_neg h2, if_neg h2]
/-- both rows at rest, and what they share -/
theorem both_ok {vX : BX3} {n : Nat} {pv : Nat → BX0} {vA vB : BX0} {vR vT : BX1} {vS : BX2} {vM : BX4} (h : Sim0 vX n pv vA vB vR vT vS vM) :
    ∃ (X' : BX3) (R : BX1) (u : Nat → Int) (l : Int) (M' : BX4) (v : Nat → Int) (m : Int), fX3_settled vX vA vR = some (X', R) ∧ SpQ (syO (p4_s vM)) R u l ∧ RestT (syO (p4_s vM)) u l ∧ l ≤ 104976 ∧
      fX4_rests vM = some M' ∧ rz M' = rz vM ∧ UpQ (syO (p4_s vM)) M' v m ∧ RestT (syO (p4_s vM)) v m ∧ m ≤ 104976 ∧ (∀ p, p ≤ (syO (p4_s vM)).n + 1 → m * u p = l * v p) ∧
      ∀ (M2 : BX4) (vB' : BX0) (vT' : BX1), rz M2 = rz vM → Sim0 X' n pv vA vB' R vT' vS M2 := by
  obtain ⟨X', R, u, l, a1, a2, a3, a4, a5⟩ := set_ok h
  obtain ⟨M', b1, b2, v, m, b3, b4, b5⟩ := rests_ok h.2.1 vM rfl
  have hS := gdS_of h.2.1
  exact ⟨X', R, u, l, M', v, m, a1, a2, a3, a4, b1, b2, b3, b4, b5, rest_one a3 b4 (fun k hk => by have := hS.K0 k hk; omega), a5⟩
theorem St_place0 : St_place Sim0 := by
  intro vX n pv vA vB vR vT vS vM i1 i2 h
  have hL := h.1
  obtain ⟨w, p, g1, g2, g3, g4, g5, -⟩ := id h.2.1
  have hn : (syO (p4_s vM)).n = p := syO_p g2 g5
  have hS := gdS_of h.2.1
  rcases plate_or2 hL g2 g5 i1 with ⟨a0, a1, a2⟩ | ⟨k, hk, rfl, a1, a2⟩
  · refine ⟨(-1000001, vX, vR), (-1000001, vM), ?_, ?_, rfl, h⟩
    · unfold fX3_place; rw [a1, Option.bind_some, if_pos rfl]
    · unfold fX4_place; rw [a2 vM rfl, Option.bind_some, if_pos rfl]
  · by_cases c1 : i2 < 0
    · refine ⟨(-1000001, vX, vR), (-1000001, vM), ?_, ?_, rfl, h⟩
      · unfold fX3_place; rw [a1, Option.bind_some, if_neg (by decide), if_pos c1]
      · unfold fX4_place; rw [a2 vM rfl, Option.bind_some, if_neg (by decide), in4_v, if_pos c1, Option.bind_some, if_pos rfl]
    by_cases c2 : 2 < i2
    · refine ⟨(-1000001, vX, vR), (-1000001, vM), ?_, ?_, rfl, h⟩
      · unfold fX3_place; rw [a1, Option.bind_some, if_neg (by decide), if_neg c1, if_neg (Int32.not_le.mpr c2)]
      · unfold fX4_place; rw [a2 vM rfl, Option.bind_some, if_neg (by decide), in4_v, if_neg c1, if_pos c2, Option.bind_some, if_pos rfl]
    obtain ⟨X', R, u, l, M', v, m, s1, s2, s3, s4, r1, r2, r3, r4, r5, eq, sim⟩ := both_ok h
    have iu := row_inL hS s3.toRowIn s4 (k + 1) (by omega)
    have iv := row_inL hS r4.toRowIn r5 (k + 1) (by omega)
    have il := l_inL s3.pos s4
    have im := l_inL r4.pos r5
    have e1 := eq (k + 1) (by omega)
    have c3 : i2 ≤ 2 := Int32.not_lt.mp c2
    have ru := up_v (by omega) s2 k (by omega)
    have k4 : inB (nI k) 4 = true := inB_nI (by omega) (by omega)
    have kc : (nI k).toNatClampNeg = k := nI_clamp (by omega)
    have rv : p4_upper M' k = nL (v (k + 1)) := r3.2.1 k (by omega)
    by_cases c4 : i2 = 2
    · have f1 : fX1_wholePlaceOf R (nI k) = some (nL ((u (k + 1)).tdiv l)).toInt32 := by
        unfold fX1_wholePlaceOf
        rw [s2.1, if_neg (show ¬ lg_cmp (nL l) 0 ≤ 0 from fun q => by have := (cmp_le0 il inL_0).mp q; have := s3.pos; omega), nI_1, if_pos (inB_nI (by omega) (by omega)), nI_clamp (by omega), s2.2 _ (by omega), fd_v iu il (row_bd s3.toRowIn (k + 1) (by omega)).1 s3.pos, Option.bind_some]
      have f2 : (u (k + 1)).tdiv l = (v (k + 1)).tdiv m := by
        have u0 := (row_bd s3.toRowIn (k + 1) (by omega)).1
        have v0 := (row_bd r4.toRowIn (k + 1) (by omega)).1
        have l0 := s3.pos
        have m0 := r4.pos
        rw [Int.tdiv_eq_ediv_of_nonneg u0, Int.tdiv_eq_ediv_of_nonneg v0]
        have h1 : u (k + 1) / l = (m * u (k + 1)) / (m * l) := (Int.mul_ediv_mul_of_pos _ _ m0).symm
        have h2 : v (k + 1) / m = (l * v (k + 1)) / (l * m) := (Int.mul_ediv_mul_of_pos _ _ l0).symm
        rw [h1, h2, e1, Int.mul_comm m l]
      refine ⟨((nL ((u (k + 1)).tdiv l)).toInt32, X', R), ((nL ((v (k + 1)).tdiv m)).toInt32, M'), ?_, ?_, ?_, sim M' _ _ r2⟩
      · unfold fX3_place; rw [a1, Option.bind_some, if_neg (by decide), if_neg c1, if_pos c3, s1, Option.bind_some, if_pos c4, f1, Option.bind_some]
      · unfold fX4_place; rw [a2 vM rfl, Option.bind_some, if_neg (by decide), in4_v, if_neg c1, if_neg c2, Option.bind_some, if_neg (by decide), r1, Option.bind_some, if_pos c4, if_pos k4, kc, rv, r3.1, if_neg (fun q => by have := (nL_eq im inL_0).mp q; have := r4.pos; omega), nL_div iv im]
      · show (nL ((u (k + 1)).tdiv l)).toInt32 = (nL ((v (k + 1)).tdiv m)).toInt32
        rw [f2]
    · obtain ⟨x, x1, x2⟩ := frac_same iu il iv im s3.pos r4.pos (show u (k + 1) * m = v (k + 1) * l by rw [Int.mul_comm, e1, Int.mul_comm]) i2
      refine ⟨(x.toInt32, X', R), ((if i2 = 0 then x.toInt32 + 0 else x.toInt32), M'), ?_, ?_, ?_, sim M' _ _ r2⟩
      · unfold fX3_place; rw [a1, Option.bind_some, if_neg (by decide), if_neg c1, if_pos c3, s1, Option.bind_some, if_neg c4, ru, Option.bind_some, s2.1, x1, Option.bind_some]
      · unfold fX4_place; rw [a2 vM rfl, Option.bind_some, if_neg (by decide), in4_v, if_neg c1, if_neg c2, Option.bind_some, if_neg (by decide), r1, Option.bind_some, if_neg c4, if_pos k4, kc, rv, r3.1, x2, Option.bind_some]
      · show x.toInt32 = if i2 = 0 then x.toInt32 + 0 else x.toInt32
        split
        · exact (Int32.add_zero _).symm
        · rfl
theorem part_or (i : Int32) : (fX3_isPart i = some 0 ∧ fX4_in i 0 1 = some 0) ∨ (fX3_isPart i = some 1 ∧ fX4_in i 0 1 = some 1) := by
  rcases side_or i with ⟨a, b, c⟩ | ⟨d, a, rfl, b, c⟩
  · left
    refine ⟨?_, c⟩
    unfold fX3_isPart
    rw [if_neg (show ¬ i = 0 from fun e => a ⟨0, by omega, e⟩), if_neg (show ¬ i = 1 from fun e => a ⟨1, by omega, e⟩)]
  · right
    refine ⟨?_, c⟩
    unfold fX3_isPart fX3_isPart_9
    rcases (show d = 0 ∨ d = 1 by omega) with rfl | rfl
    · rw [if_pos (show nI 0 = 0 from rfl)]
    · rw [if_neg (show ¬ nI 1 = 0 from by decide), if_pos (show nI 1 = 1 from rfl)]
theorem forcePart_v {a b : Int} {i : Int32} {x : Int64} (h : fX3_inLowestTerms (nL a) (nL b) i = some x) : fX3_forcePart (nL a) (nL b) i = some (if i = 0 then x.toInt32 + 1000000000 else x.toInt32) := by
  unfold fX3_forcePart
  rw [h, Option.bind_some, elet_eq]
  by_cases q : i = 0
  · rw [if_pos q, if_pos q]
  · rw [if_neg q, if_neg q]
theorem tn_eq {S : Sy} {u v : Nat → Int} {l m : Int} (eq : ∀ p, p ≤ S.n + 1 → m * u p = l * v p) (k : Nat) (hk : k ≤ S.n) : m * tnS S u l k = l * tnS S v m k := by
  have e1 := eq k (by omega)
  have e2 := eq (k + 1) (by omega)
  simp only [tnS]
  grind
theorem gS_eq {S : Sy} {u v : Nat → Int} {l m : Int} (eq : ∀ p, p ≤ S.n + 1 → m * u p = l * v p) (k : Nat) (hk : k ≤ S.n) : m * gS S u l k = l * gS S v m k := by
  have e1 := tn_eq eq k hk
  simp only [gS]
  grind
theorem tn_bd {s : Nat → Int32} {S : Sy} (hS : GdS s S) {u : Nat → Int} {l : Int} (hR : RowIn S u l) (hl : l ≤ 104976) (k : Nat) (hk : k ≤ S.n) : inL (tnS S u l k) := by
  have n4 := hS.n4
  have l0 := hR.pos
  have a1 := row_bd hR k (by omega)
  have a2 := row_bd hR (k + 1) (by omega)
  have w : S.W * l ≤ 99 * l := Int.mul_le_mul_of_nonneg_right hS.W1 (by omega)
  have b1 := hS.K0 k hk
  have b2 := hS.L0 k hk
  have c1 : 0 ≤ S.L k * l := Int.mul_nonneg b2.1 (by omega)
  have c2 : S.L k * l ≤ 50 * l := Int.mul_le_mul_of_nonneg_right b2.2 (by omega)
  obtain ⟨t, ht⟩ : ∃ t, t = u (k + 1) - u k - S.L k * l := ⟨_, rfl⟩
  have t1 : -15641424 ≤ t := by omega
  have t2 : t ≤ 15641424 := by omega
  have e1 : S.K k * t ≤ S.K k * 15641424 := Int.mul_le_mul_of_nonneg_left t2 (by omega)
  have e2 : S.K k * (-15641424) ≤ S.K k * t := Int.mul_le_mul_of_nonneg_left t1 (by omega)
  unfold tnS
  rw [← ht]
  exact ⟨by omega, by omega⟩
theorem St_pull0 : St_pull Sim0 := by
  intro vX n pv vA vB vR vT vS vM i1 i2 h
  have hL := h.1
  obtain ⟨w, p, g1, g2, g3, g4, g5, -⟩ := id h.2.1
  have hn : (syO (p4_s vM)).n = p := syO_p g2 g5
  have hS := gdS_of h.2.1
  rcases spring_or2 hL g2 g5 i1 with ⟨a0, a1, a2⟩ | ⟨k, hk, rfl, a1, a2⟩
  · refine ⟨(-1000001, vX, vR), (-1000001, vM), ?_, ?_, rfl, h⟩
    · unfold fX3_pull; rw [a1, Option.bind_some, if_pos rfl]
    · unfold fX4_pull; rw [a2 vM rfl, Option.bind_some, if_pos rfl]
  · rcases part_or i2 with ⟨c1, c2⟩ | ⟨c1, c2⟩
    · refine ⟨(-1000001, vX, vR), (-1000001, vM), ?_, ?_, rfl, h⟩
      · unfold fX3_pull; rw [a1, Option.bind_some, if_neg (by decide), c1, Option.bind_some, if_pos rfl]
      · unfold fX4_pull; rw [a2 vM rfl, Option.bind_some, if_neg (by decide), c2, Option.bind_some, if_pos rfl]
    · obtain ⟨X', R, u, l, M', v, m, s1, s2, s3, s4, r1, r2, r3, r4, r5, eq, sim⟩ := both_ok h
      have t1 := tension_v (laySy_of hL h.2.1) s2 k (by omega)
      have t2 := pullOf_v hS (rz_s r2) r3 k (by omega)
      have e1 := tn_eq eq k (by omega)
      obtain ⟨x, x1, x2⟩ := frac_same (tn_bd hS s3.toRowIn s4 k (by omega)) (l_inL s3.pos s4) (tn_bd hS r4.toRowIn r5 k (by omega)) (l_inL r4.pos r5) s3.pos r4.pos (show tnS (syO (p4_s vM)) u l k * m = tnS (syO (p4_s vM)) v m k * l by rw [Int.mul_comm, e1, Int.mul_comm]) i2
      refine ⟨((if i2 = 0 then x.toInt32 + 1000000000 else x.toInt32), X', R), ((if i2 = 0 then x.toInt32 + 1000000000 else x.toInt32), M'), ?_, ?_, rfl, sim M' _ _ r2⟩
      · unfold fX3_pull; rw [a1, Option.bind_some, if_neg (by decide), c1, Option.bind_some, if_neg (by decide), s1, Option.bind_some, t1, Option.bind_some, s2.1, forcePart_v x1, Option.bind_some]
      · unfold fX4_pull; rw [a2 vM rfl, Option.bind_some, if_neg (by decide), c2, Option.bind_some, if_neg (by decide), r1, Option.bind_some, t2, Option.bind_some, r3.1, x2, Option.bind_some]
theorem St_push0 : St_push Sim0 := by
  intro vX n pv vA vB vR vT vS vM i1 i2 h
  have hL := h.1
  obtain ⟨w, p, g1, g2, g3, g4, g5, -⟩ := id h.2.1
  have hn : (syO (p4_s vM)).n = p := syO_p g2 g5
  have hS := gdS_of h.2.1
  rcases plate_or2 hL g2 g5 i1 with ⟨a0, a1, a2⟩ | ⟨k, hk, rfl, a1, a2⟩
  · refine ⟨(-1000001, vX, vR), (-1000001, vM), ?_, ?_, rfl, h⟩
    · unfold fX3_push; rw [a1, Option.bind_some, if_pos rfl]
    · unfold fX4_push; rw [a2 vM rfl, Option.bind_some, if_pos rfl]
  · rcases part_or i2 with ⟨c1, c2⟩ | ⟨c1, c2⟩
    · refine ⟨(-1000001, vX, vR), (-1000001, vM), ?_, ?_, rfl, h⟩
      · unfold fX3_push; rw [a1, Option.bind_some, if_neg (by decide), c1, Option.bind_some, if_pos rfl]
      · unfold fX4_push; rw [a2 vM rfl, Option.bind_some, if_neg (by decide), c2, Option.bind_some, if_pos rfl]
    · obtain ⟨X', R, u, l, M', v, m, s1, s2, s3, s4, r1, r2, r3, r4, r5, eq, sim⟩ := both_ok h
      have t1 := forceOn_v (laySy_of hL h.2.1) s2 k k (Nat.le_refl _) (by omega)
      have t2 := force_v hS (rz_s r2) r3 k (by omega)
      have e1 := gS_eq eq k (by omega)
      have e2 := gS_eq eq (k + 1) (by omega)
      have b1 := gS_bd4 hS s3.toRowIn s4 k (by omega)
      have b2 := gS_bd4 hS s3.toRowIn s4 (k + 1) (by omega)
      have b3 := gS_bd4 hS r4.toRowIn r5 k (by omega)
      have b4 := gS_bd4 hS r4.toRowIn r5 (k + 1) (by omega)
      obtain ⟨x, x1, x2⟩ := frac_same (a := -(gS (syO (p4_s vM)) u l (k + 1) - gS (syO (p4_s vM)) u l k)) (a' := -(gS (syO (p4_s vM)) v m (k + 1) - gS (syO (p4_s vM)) v m k)) ⟨by omega, by omega⟩ (l_inL s3.pos s4) ⟨by omega, by omega⟩ (l_inL r4.pos r5) s3.pos r4.pos (by grind) i2
      refine ⟨((if i2 = 0 then x.toInt32 + 1000000000 else x.toInt32), X', R), ((if i2 = 0 then x.toInt32 + 1000000000 else x.toInt32), M'), ?_, ?_, rfl, sim M' _ _ r2⟩
      · unfold fX3_push; rw [a1, Option.bind_some, if_neg (by decide), c1, Option.bind_some, if_neg (by decide), s1, Option.bind_some, t1, Option.bind_some, s2.1, nL_neg, forcePart_v x1, Option.bind_some]
      · unfold fX4_push; rw [a2 vM rfl, Option.bind_some, if_neg (by decide), c2, Option.bind_some, if_neg (by decide), r1, Option.bind_some, t2, Option.bind_some, r3.1, nL_neg, x2, Option.bind_some]
