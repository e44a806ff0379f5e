/-! isFraction -/
theorem isF {U V T D : Int} (hU : -300000000 ≤ U ∧ U ≤ 300000000) (hV : 0 < V ∧ V ≤ 104976) (hT : -300000000 ≤ T ∧ T ≤ 300000000) (hD : 0 < D ∧ D ≤ 104976) (hg : Int.gcd U V = 1) (e : U * D = T * V) : fL_isFraction ((nL U).toInt32 + 1000000000) (nL V).toInt32 (nL T) (nL D) = some 1 := by
  have c9 : (1000000000 : Int32).toInt = 1000000000 := rfl
  have tU : ((nL U).toInt32).toInt = U := toI32 (by omega) (by omega)
  have tV : ((nL V).toInt32).toInt = V := toI32 (by omega) (by omega)
  have e1 : ((nL U).toInt32 + 1000000000).toInt64 - (1000000000 : Int64) = nL U := by
    rw [nL_I, i_add (by rw [tU, c9]; omega) (by rw [tU, c9]; omega), tU, c9, show (1000000000 : Int64) = nL 1000000000 from rfl, nL_sub]
    congr 1
    omega
  have e2 : ((nL V).toInt32).toInt64 = nL V := by rw [nL_I, tV]
  have iU : inL U := ⟨by omega, by omega⟩
  have iV : inL V := ⟨by omega, by omega⟩
  have m1 : U * D ≤ 300000000 * 104976 ∧ -(300000000 * 104976) ≤ U * D := by
    have a1 : U * D ≤ 300000000 * D := Int.mul_le_mul_of_nonneg_right hU.2 (by omega)
    have a2 : (-300000000) * D ≤ U * D := Int.mul_le_mul_of_nonneg_right hU.1 (by omega)
    exact ⟨by omega, by omega⟩
  have i1 : inL (U * D) := ⟨by omega, by omega⟩
  have i2 : inL (T * V) := by rw [← e]; exact i1
  have fin : ∀ A : Nat, A = U.natAbs → fL_isFraction_27 (nL V).toInt32 (nL T) (nL D) (nL U) (nL (A : Int)) = some 1 := by
    intro A hA
    unfold fL_isFraction_27
    have ev : nL V = nL ((V.toNat : Nat) : Int) := congrArg nL (by omega)
    have hg2 : Nat.gcd A V.toNat = 1 := by
      have : V.toNat = V.natAbs := by omega
      rw [hA, this]
      exact hg
    rw [e2, ev, dvL_v A V.toNat (by omega) (by omega), Option.bind_some, hg2, if_pos (show lg_cmp (nL ((1 : Nat) : Int)) 1 = 0 from (cmp_e0 inL_1 inL_1).mpr rfl), ← ev, nL_mul, nL_mul, if_pos ((cmp_e0 i1 i2).mpr e)]
  unfold fL_isFraction
  rw [elet_eq, e1, if_neg (show ¬ (nL V).toInt32 ≤ 0 from fun q => by have q1 := i_le.mp q; have z : (0 : Int32).toInt = 0 := rfl; rw [tV, z] at q1; omega)]
  by_cases q : 0 ≤ U
  · rw [if_pos (show 0 ≤ lg_cmp (nL U) 0 from (cmp_ge0 iU inL_0).mpr q)]
    have := fin U.natAbs rfl
    rw [show ((U.natAbs : Nat) : Int) = U by omega] at this
    exact this
  · rw [if_neg (show ¬ 0 ≤ lg_cmp (nL U) 0 from fun z => q ((cmp_ge0 iU inL_0).mp z)), nL_neg]
    have := fin U.natAbs rfl
    rw [show ((U.natAbs : Nat) : Int) = -U by omega] at this
    exact this
/-- the class's force over l in lowest terms is the law's over D -/
theorem isF_low {a T l D : Int} (ha : -300000000 ≤ a ∧ a ≤ 300000000) (hl : 0 < l ∧ l ≤ 104976) (hT : -300000000 ≤ T ∧ T ≤ 300000000) (hD : 0 < D ∧ D ≤ 104976) (e : D * a = l * T) : fL_isFraction ((nL (lwU a l)).toInt32 + 1000000000) (nL (lwV a l)).toInt32 (nL T) (nL D) = some 1 := by
  obtain ⟨h1, h2, h3, h4, h5⟩ := lw_v (a := a) hl.1
  obtain ⟨b1, b2⟩ := lw_b (a := a) hl.1
  refine isF ⟨by omega, by omega⟩ ⟨h4, by omega⟩ hT hD h5 ?_
  generalize ((Int.gcd a l : Nat) : Int) = G at *
  have z : G * (lwU a l * D - T * lwV a l) = 0 := by
    have e' : D * (G * lwU a l) = (G * lwV a l) * T := by rw [← h1, ← h2]; exact e
    grind
  rcases Int.mul_eq_zero.mp z with z | z <;> omega
section IS
variable {s g k : Nat → Int32} {vA : BX0} {vS : BX2} {n : Nat} {X' : BX3} {R1 : BX1} {u y : Nat → Int} {l D : Int} {p : Nat} {vu : Nat → Int64}
abbrev ISO (s : Nat → Int32) (n : Nat) (vA : BX0) (vS : BX2) (r : Option (Int32 × BX3 × BX1)) : Prop := ∃ X R, r = some (1, X, R) ∧ StC s X n vA R vS
theorem iso44 (c : CT s vA vS n X' R1 u l) (h : LR vA s g k p vu y D) (eq : ∀ i, i ≤ p + 1 → D * u i = l * y i) (ve : Nat → Int32) : ∀ d j, j + d = p + 1 → ∀ (m : Nat) (X : BX3) (R : BX1), JJ s vA vS n X' R1 X R → ∃ X2 R2, JJ s vA vS n X' R1 X2 R2 ∧ fL_isSo_44 (m + d + 1) X vA R vS g k vu ve (nI p) 0 1000 (nL D) 1 (nI j) = fL_isSo_93 X2 vA R2 vS g k vu ve (nI p) 0 1000 (nL D) 1 := by
  have hL := c.1
  have s3 := c.2.2.2.1
  have s4 := c.2.2.2.2.1
  have hLS := h.ls
  have hn := h.n
  have p4 := h.p4
  have D0 := h.D0
  have D9 := h.D9
  have l0 := s3.pos
  intro d
  induction d with
  | zero =>
    intro j hj m X R hJ
    refine ⟨X, R, hJ, ?_⟩
    show fL_isSo_44_b (fL_isSo_44 (m + 0)) X vA R vS g k vu ve (nI p) 0 1000 (nL D) 1 (nI j) = _
    unfold fL_isSo_44_b
    rw [if_pos (ltc (by omega) (by omega))]
  | succ d ih =>
    intro j hj m X R hJ
    obtain ⟨X2, R2, r1, r2⟩ := ih (j + 1) (by omega) m X' R1 (ct_self c)
    refine ⟨X2, R2, r1, ?_⟩
    rw [← r2]
    have b1 := tn_b hLS s3.toRowIn s4 j (by omega)
    have b2 := tn_b hLS h.re.toRowIn D9 j (by omega)
    have e := tn_eq (m := D) (l := l) (u := u) (v := y) (S := syO s) (fun i hi => eq i (by omega)) j (by omega)
    have f := isF_low (a := tnS (syO s) u l j) (T := tnS (syO s) y D j) (l := l) (D := D) ⟨by omega, by omega⟩ ⟨l0, s4⟩ ⟨by omega, by omega⟩ ⟨D0, D9⟩ e
    show fL_isSo_44_b (fL_isSo_44 (m + d + 1)) X vA R vS g k vu ve (nI p) 0 1000 (nL D) 1 (nI j) = _
    unfold fL_isSo_44_b
    rw [if_neg (nltc (by omega) (by omega)), if_neg (by decide), pull_c c hJ h.s1 p4 j (by omega) 0 (Or.inl rfl), Option.bind_some]
    show ((fX3_pull X' vA R1 (nI j) 1).bind _) = _
    rw [pull_c c (ct_self c) h.s1 p4 j (by omega) 1 (Or.inr rfl), Option.bind_some, lpull h j (by omega), Option.bind_some, if_pos rfl, if_neg (by decide), f, Option.bind_some, elet_eq, nI_1]
end IS
