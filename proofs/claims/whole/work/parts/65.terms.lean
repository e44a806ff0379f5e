/-! what is told of the row at rest -/
theorem sim_rz {vX : BX3} {n : Nat} {pv : Nat → BX0} {vA vB vB' : BX0} {vR vT vT' : BX1} {vS : BX2} {vM M' : BX4} (h : Sim0 vX n pv vA vB vR vT vS vM) (e : rz M' = rz vM) : Sim0 vX n pv vA vB' vR vT' vS M' := by
  have e1 : p4_s M' = p4_s vM := congrArg (fun z => z.1) e
  have e2 : p4_past M' = p4_past vM := congrArg (fun z => z.2.1) e
  have e3 : p4_pasts M' = p4_pasts vM := congrArg (fun z => z.2.2.2.1) e
  have e4 : p4_runs M' = p4_runs vM := congrArg (fun z => z.2.2.2.2.1) e
  have e5 : p4_text M' = p4_text vM := congrArg (fun z => z.2.2.2.2.2.1) e
  have e6 : p4_typed M' = p4_typed vM := congrArg (fun z => z.2.2.2.2.2.2.1) e
  unfold Sim0 at h ⊢
  rw [e1, e2, e3, e4, e5, e6]
  exact h
theorem set_ok {vX : BX3} {n : Nat} {pv : Nat → BX0} {vA vB : BX0} {vR vT : BX1} {vS : BX2} {vM : BX4} (h : Sim0 vX n pv vA vB vR vT vS vM) :
    ∃ (X' : BX3) (R : BX1) (u : Nat → Int) (l : Int), fX3_settled vX vA vR = some (X', R) ∧ SpQ (syO (p4_s vM)) R u l ∧ RestT (syO (p4_s vM)) u l ∧ l ≤ 104976 ∧ ∀ (M' : BX4) (vB' : BX0) (vT' : BX1), rz M' = rz vM → Sim0 X' n pv vA vB' R vT' vS M' := by
  obtain ⟨hL, hG, hP, hT, hr, hk⟩ := id h
  have hLS := laySy_of hL hG
  rcases hk with hk | ⟨hk, R0, hR0⟩
  · obtain ⟨R, l, u, q1, q2, q3, q4⟩ := settle_ok hLS vR
    refine ⟨s3_restKnown vX 1, R, u, l, ?_, q2, q3, q4, fun M' vB' vT' e => ?_⟩
    · unfold fX3_settled
      rw [if_pos hk, q1, Option.bind_some, elet_eq]
    · refine sim_rz ?_ e (vB := vB) (vT := vT)
      exact ⟨hL, hG, hP, hT, hr, Or.inr ⟨rfl, vR, q1⟩⟩
  · obtain ⟨R, l, u, q1, q2, q3, q4⟩ := settle_ok hLS R0
    have eR : vR = R := Option.some.inj (hR0.symm.trans q1)
    subst eR
    refine ⟨vX, vR, u, l, ?_, q2, q3, q4, fun M' vB' vT' e => sim_rz h e⟩
    unfold fX3_settled
    rw [if_neg (by rw [hk]; decide)]
/-! lowest terms -/
theorem low_same {a b a' b' : Int} (hb : 0 < b) (hb' : 0 < b') (e : a * b' = a' * b) : ∃ U V g g' : Int, a = g * U ∧ b = g * V ∧ a' = g' * U ∧ b' = g' * V ∧ g = ((Int.gcd a b : Nat) : Int) ∧ g' = ((Int.gcd a' b' : Nat) : Int) ∧ 0 < V ∧ 0 < g ∧ 0 < g' := by
  obtain ⟨U, V, h1, h2, h3, h4, h5⟩ := gcd_split (PU := a) hb
  obtain ⟨U', V', h1', h2', h3', h4', h5'⟩ := gcd_split (PU := a') hb'
  generalize hg : ((Int.gcd a b : Nat) : Int) = g at *
  generalize hg' : ((Int.gcd a' b' : Nat) : Int) = g' at *
  have g0 : 0 < g := by omega
  have g0' : 0 < g' := by omega
  have key : U * V' = U' * V := by
    have z : (g * g') * (U * V' - U' * V) = 0 := by grind
    have := Int.mul_pos g0 g0'
    rcases Int.mul_eq_zero.mp z with z | z <;> omega
  have d1 : V ∣ V' := by
    have : V ∣ V' * U := ⟨U', by rw [Int.mul_comm V' U, key, Int.mul_comm]⟩
    have := Int.dvd_mul_gcd_iff_dvd_mul.mpr this
    rw [Int.gcd_comm, h4] at this
    simpa using this
  have d2 : V' ∣ V := by
    have : V' ∣ V * U' := ⟨U, by rw [Int.mul_comm V U', ← key, Int.mul_comm]⟩
    have := Int.dvd_mul_gcd_iff_dvd_mul.mpr this
    rw [Int.gcd_comm, h4'] at this
    simpa using this
  have eV : V = V' := by
    have a1 := Int.le_of_dvd h3' d1
    have a2 := Int.le_of_dvd h3 d2
    omega
  subst eV
  have eU : U = U' := Int.eq_of_mul_eq_mul_right (by omega) key
  subst eU
  exact ⟨U, V, g, g', h1, h2, h1', h2', rfl, rfl, h3, g0, g0'⟩
theorem inLow_v {a b U V g : Int} (ha : inL a) (hb : inL b) (e1 : a = g * U) (e2 : b = g * V) (hg : g = ((Int.gcd a b : Nat) : Int)) (g0 : 0 < g) (V0 : 0 < V) (i : Int32) : fX3_inLowestTerms (nL a) (nL b) i = some (nL (if i = 0 then U else V)) := by
  have ig : inL g := by
    obtain ⟨b1, b2⟩ := hb
    have := Int.mul_le_mul_of_nonneg_left (show 1 ≤ V by omega) (Int.le_of_lt g0)
    exact ⟨by omega, by omega⟩
  have st : ∀ x y : Int, inL x → x = g * y → fX3_inLowestTerms_17 (nL g) (nL x) = some (nL y) := by
    intro x y ix e
    unfold fX3_inLowestTerms_17
    by_cases q : g ≤ 1
    · rw [if_pos (show lg_cmp (nL g) 1 ≤ 0 from (cmp_le0 ig inL_1).mpr q), e, show g = 1 by omega, Int.one_mul]
    · rw [if_neg (show ¬ lg_cmp (nL g) 1 ≤ 0 from fun h => q ((cmp_le0 ig inL_1).mp h)), if_neg (fun h => by have := (nL_eq ig inL_0).mp h; omega)]
      rw [e] at ix ⊢
      rw [nL_quot ix ig (by omega)]
  unfold fX3_inLowestTerms
  rw [gd_v ha hb, Option.bind_some, ← hg, st a U ha e1, st b V hb e2]
  by_cases q : i = 0
  · rw [if_pos q, if_pos q]
  · rw [if_neg q, if_neg q]
theorem dv_loop : ∀ (k : Nat) (n a b : Nat), b < 2 ^ k → a < 2 ^ 62 → b < 2 ^ 62 → fX4_divisor_17 (n + (2 * k + 1)) (nL a) (nL b) = some (nL ((Nat.gcd a b : Nat) : Int)) := by
  have stop : ∀ (n a : Nat), a < 2 ^ 62 → fX4_divisor_17 (n + 1) (nL a) (nL (0 : Nat)) = some (nL (a : Nat)) := by
    intro n a ha
    show fX4_divisor_17_b (fX4_divisor_17 n) _ _ = _
    unfold fX4_divisor_17_b
    rw [if_pos (show lg_cmp (nL (0 : Nat)) 0 ≤ 0 from (cmp_le0 inL_0 inL_0).mpr (Int.le_refl _))]
  have go : ∀ (n a b : Nat), 0 < b → a < 2 ^ 62 → b < 2 ^ 62 → fX4_divisor_17 (n + 1) (nL a) (nL b) = fX4_divisor_17 n (nL b) (nL ((a % b : Nat) : Int)) := by
    intro n a b h0 ha hb
    have hb' : inL b := ⟨by omega, by omega⟩
    have ha' : inL a := ⟨by omega, by omega⟩
    show fX4_divisor_17_b (fX4_divisor_17 n) _ _ = _
    unfold fX4_divisor_17_b
    have e0 : ¬ lg_cmp (nL b) 0 ≤ 0 := fun q => by have := (cmp_le0 hb' inL_0).mp q; omega
    have e1 : ¬ nL b = 0 := fun q => by have := (nL_eq hb' inL_0).mp q; omega
    rw [if_neg e0, if_neg e1, nL_mod ha' hb']
    rfl
  intro k
  induction k with
  | zero =>
    intro n a b h1 h2 h3
    have : b = 0 := by have : 2 ^ 0 = 1 := rfl; omega
    subst this
    rw [Nat.gcd_zero_right]
    exact stop n a h2
  | succ k ih =>
    intro n a b h1 h2 h3
    rcases Nat.eq_zero_or_pos b with rfl | hb
    · rw [Nat.gcd_zero_right]
      exact stop (n + (2 * (k + 1))) a h2
    · rw [show n + (2 * (k + 1) + 1) = (n + (2 * k + 2)) + 1 by omega, go _ a b hb h2 h3]
      have hr : a % b < b := Nat.mod_lt _ hb
      rcases Nat.eq_zero_or_pos (a % b) with e | e
      · rw [e, show n + (2 * k + 2) = (n + (2 * k + 1)) + 1 by omega, stop _ b h3, Nat.gcd_comm, Nat.gcd_rec, e, Nat.gcd_zero_left]
      · rw [show n + (2 * k + 2) = (n + (2 * k + 1)) + 1 by omega, go _ b (a % b) e h3 (by omega)]
        have h5 : b % (a % b) < a % b := Nat.mod_lt _ e
        have h6 : b % (a % b) < 2 ^ k := by
          have : b % (a % b) + (a % b) ≤ b := by
            have h7 := Nat.div_add_mod b (a % b)
            have h8 : 1 ≤ b / (a % b) := Nat.div_pos (by omega) e
            have h9 : (a % b) * 1 ≤ (a % b) * (b / (a % b)) := Nat.mul_le_mul_left _ h8
            omega
          rw [Nat.pow_succ] at h1
          omega
        rw [ih n (a % b) (b % (a % b)) h6 (by omega) (by omega)]
        congr 2
        rw [Nat.gcd_comm a b, Nat.gcd_rec b a, Nat.gcd_comm (a % b) b, Nat.gcd_comm (a % b) (b % (a % b)), ← Nat.gcd_rec, Nat.gcd_comm b (a % b), ← Nat.gcd_rec]
theorem dv_v {a b : Int} (ha : inL a) (hb : inL b) (b0 : 0 ≤ b) : fX4_divisor (nL a) (nL b) = some (nL ((Int.gcd a b : Nat) : Int)) := by
  have key : fX4_divisor_12 (nL b) (nL (a.natAbs : Int)) = some (nL ((Int.gcd a b : Nat) : Int)) := by
    unfold fX4_divisor_12
    obtain ⟨h1, h2⟩ := ha
    obtain ⟨h3, h4⟩ := hb
    have e : nL b = nL (b.natAbs : Int) := by congr 1; omega
    have : FU = 4875 + (2 * 62 + 1) := rfl
    rw [this, e]
    exact dv_loop 62 4875 _ _ (by omega) (by omega) (by omega)
  unfold fX4_divisor
  by_cases q : 0 ≤ a
  · rw [if_pos (show 0 ≤ lg_cmp (nL a) 0 from (cmp_ge0 ha inL_0).mpr q), show nL a = nL (a.natAbs : Int) by congr 1; omega]
    exact key
  · rw [if_neg (show ¬ 0 ≤ lg_cmp (nL a) 0 from fun h => q ((cmp_ge0 ha inL_0).mp h)), nL_neg, show nL (-a) = nL (a.natAbs : Int) by congr 1; omega]
    exact key
theorem part_v {a b U V g : Int} (ha : inL a) (hb : inL b) (e1 : a = g * U) (e2 : b = g * V) (hg : g = ((Int.gcd a b : Nat) : Int)) (g0 : 0 < g) (V0 : 0 < V) (i m : Int32) : fX4_part (nL a) (nL b) i m = some (if i = 0 then Int32.ofInt U + m else Int32.ofInt V) := by
  have ig : inL g := by
    obtain ⟨b1, b2⟩ := hb
    have := Int.mul_le_mul_of_nonneg_left (show 1 ≤ V by omega) (Int.le_of_lt g0)
    exact ⟨by omega, by omega⟩
  have gn : ¬ nL g = 0 := fun h => by have := (nL_eq ig inL_0).mp h; omega
  have b0 : 0 ≤ b := by rw [e2]; exact Int.mul_nonneg (by omega) (by omega)
  have qa : nL a / nL g = nL U := by
    rw [e1] at ha ⊢; exact nL_quot ha ig (by omega)
  have qb : nL b / nL g = nL V := by
    rw [e2] at hb ⊢; exact nL_quot hb ig (by omega)
  unfold fX4_part
  rw [dv_v ha hb b0, Option.bind_some, ← hg, if_neg gn, if_neg gn, qa, qb, nL_I, nL_add]
  unfold nL
  rw [Int64.toInt32_ofInt, Int64.toInt32_ofInt, Int32.ofInt_add, Int32.ofInt_toInt]
  by_cases q : i = 0
  · rw [if_pos q, if_pos q]
  · rw [if_neg q, if_neg q]
/-- both tell a fraction alike -/
theorem frac_same {a b a' b' : Int} (ha : inL a) (hb : inL b) (ha' : inL a') (hb' : inL b') (b0 : 0 < b) (b0' : 0 < b') (e : a * b' = a' * b) (i : Int32) :
    ∃ x : Int64, fX3_inLowestTerms (nL a) (nL b) i = some x ∧ ∀ m, fX4_part (nL a') (nL b') i m = some (if i = 0 then x.toInt32 + m else x.toInt32) := by
  obtain ⟨U, V, g, g', h1, h2, h3, h4, h5, h6, h7, h8, h9⟩ := low_same b0 b0' e
  refine ⟨_, inLow_v ha hb h1 h2 h5 h8 h7 i, fun m => ?_⟩
  rw [part_v ha' hb' h3 h4 h6 h9 h7 i m]
  by_cases q : i = 0
  · rw [if_pos q, if_pos q, if_pos q]
    unfold nL
    rw [Int64.toInt32_ofInt]
  · rw [if_neg q, if_neg q, if_neg q]
    unfold nL
    rw [Int64.toInt32_ofInt]
theorem row_inL {s : Nat → Int32} {S : Sy} (hS : GdS s S) {u : Nat → Int} {l : Int} (hR : RowIn S u l) (hl : l ≤ 104976) (i : Nat) (hi : i ≤ S.n + 1) : inL (u i) := by
  have l0 := hR.pos
  have w : S.W * l ≤ 99 * l := Int.mul_le_mul_of_nonneg_right hS.W1 (by omega)
  have := row_bd hR i hi
  exact ⟨by omega, by omega⟩
theorem l_inL {l : Int} (h0 : 0 < l) (hl : l ≤ 104976) : inL l := ⟨by omega, by omega⟩
theorem up_v {S : Sy} (hn : S.n ≤ 4) {R : BX1} {u : Nat → Int} {l : Int} (hv : SpQ S R u l) (k : Nat) (hk : k < S.n) : fX1_upperPlaceOf R (nI k) = some (nL (u (k + 1))) := by
  unfold fX1_upperPlaceOf
  rw [nI_1, if_pos (inB_nI (by omega) (by omega)), nI_clamp (by omega), hv.2 _ (by omega)]
theorem xor_nn {a b : Int64} (ha : 0 ≤ a.toInt) (hb : 0 ≤ b.toInt) : 0 ≤ (a ^^^ b).toInt := by
  have h : ∀ x : Int64, 0 ≤ x.toInt ↔ x.toBitVec.msb = false := by
    intro x
    show 0 ≤ x.toBitVec.toInt ↔ _
    rw [BitVec.msb_eq_toInt]
    simp
  rw [h] at ha hb ⊢
  rw [Int64.toBitVec_xor, BitVec.msb_xor, ha, hb]
  rfl
theorem fd_v {a b : Int} (ha : inL a) (hb : inL b) (a0 : 0 ≤ a) (b0 : 0 < b) : fJ9_floorDiv_f86c9 (nL a) (nL b) = some (nL (a.tdiv b)) := by
  unfold fJ9_floorDiv_f86c9
  have hx : 0 ≤ lg_cmp (nL a ^^^ nL b) 0 := by
    have h1 := xor_nn (a := nL a) (b := nL b) (by rw [nL_toInt ha]; exact a0) (by rw [nL_toInt hb]; omega)
    unfold lg_cmp
    by_cases q : nL a ^^^ nL b > 0
    · rw [if_pos q]; decide
    · rw [if_neg q]
      by_cases q2 : nL a ^^^ nL b = 0
      · rw [if_pos q2]; decide
      · exfalso
        have q3 : ¬ 0 < (nL a ^^^ nL b).toInt := fun h => q (Int64.lt_iff_toInt_lt.mpr h)
        exact q2 (Int64.toInt_inj.mp (show (nL a ^^^ nL b).toInt = (0 : Int64).toInt by show _ = (0 : Int); omega))
  rw [if_neg (fun h => by have := (nL_eq hb inL_0).mp h; omega), elet_eq, if_pos hx, nL_div ha hb]
