/-! the chain of places, each told by the next one -/
def EqsR (C S D : Nat → Int) (i j : Nat) (x : Nat → Rat) : Prop := ∀ k, i ≤ k → k < j → (D k : Rat) * x k = (C k : Rat) + (S k : Rat) * x (k + 1)
abbrev Fw (C S D : Nat → Int) (j f : Nat) (c s d E : Int) : Prop :=
  (0 < d) ∧
  (0 ≤ s) ∧
  (s ≤ d) ∧
  (0 < E) ∧
  (E * d ≤ 18 ^ j) ∧
  (f ≤ j) ∧
  (-(1296 * j * 18 ^ j) ≤ c) ∧
  (c ≤ 1296 * j * 18 ^ j) ∧
  (∀ i, i < j → 0 < D i ∧ D i ≤ 104976 ∧ 0 ≤ S i ∧ S i ≤ 104976 ∧ -544195584 ≤ C i ∧ C i ≤ 544195584) ∧
  (∀ i, i < f → (∀ x, EqsR C S D i j x → ∃ t : Int, (E : Rat) * x i = (t : Rat)) ∨ ∃ a b q : Int, d * q = b * c - a * s ∧ ∀ x, EqsR C S D i j x → (d : Rat) * x i = (a : Rat) + (b : Rat) * x j) ∧
  (∀ i, f ≤ i → i < j → ∀ x, EqsR C S D i j x → x i = x j)
theorem Fw.d0 {C S D : Nat → Int} {j f : Nat} {c s d E : Int} (h : Fw C S D j f c s d E) : 0 < d := h.1
theorem Fw.s0 {C S D : Nat → Int} {j f : Nat} {c s d E : Int} (h : Fw C S D j f c s d E) : 0 ≤ s := h.2.1
theorem Fw.sd {C S D : Nat → Int} {j f : Nat} {c s d E : Int} (h : Fw C S D j f c s d E) : s ≤ d := h.2.2.1
theorem Fw.E0 {C S D : Nat → Int} {j f : Nat} {c s d E : Int} (h : Fw C S D j f c s d E) : 0 < E := h.2.2.2.1
theorem Fw.Ed {C S D : Nat → Int} {j f : Nat} {c s d E : Int} (h : Fw C S D j f c s d E) : E * d ≤ 18 ^ j := h.2.2.2.2.1
theorem Fw.fj {C S D : Nat → Int} {j f : Nat} {c s d E : Int} (h : Fw C S D j f c s d E) : f ≤ j := h.2.2.2.2.2.1
theorem Fw.c1 {C S D : Nat → Int} {j f : Nat} {c s d E : Int} (h : Fw C S D j f c s d E) : -(1296 * j * 18 ^ j) ≤ c := h.2.2.2.2.2.2.1
theorem Fw.c2 {C S D : Nat → Int} {j f : Nat} {c s d E : Int} (h : Fw C S D j f c s d E) : c ≤ 1296 * j * 18 ^ j := h.2.2.2.2.2.2.2.1
theorem Fw.arr {C S D : Nat → Int} {j f : Nat} {c s d E : Int} (h : Fw C S D j f c s d E) : ∀ i, i < j → 0 < D i ∧ D i ≤ 104976 ∧ 0 ≤ S i ∧ S i ≤ 104976 ∧ -544195584 ≤ C i ∧ C i ≤ 544195584 := h.2.2.2.2.2.2.2.2.1
theorem Fw.opn {C S D : Nat → Int} {j f : Nat} {c s d E : Int} (h : Fw C S D j f c s d E) : ∀ i, i < f → (∀ x, EqsR C S D i j x → ∃ t : Int, (E : Rat) * x i = (t : Rat)) ∨ ∃ a b q : Int, d * q = b * c - a * s ∧ ∀ x, EqsR C S D i j x → (d : Rat) * x i = (a : Rat) + (b : Rat) * x j := h.2.2.2.2.2.2.2.2.2.1
theorem Fw.tch {C S D : Nat → Int} {j f : Nat} {c s d E : Int} (h : Fw C S D j f c s d E) : ∀ i, f ≤ i → i < j → ∀ x, EqsR C S D i j x → x i = x j := h.2.2.2.2.2.2.2.2.2.2
theorem ch_alg {a b c d q s : Int} (h : d * q = b * c - a * s) (D l r F : Int) :
    a * (D * d - l * s) + b * (d * F + l * c) = d * (D * a + b * F + l * q) ∧ b * (r * d) = d * (r * b) ∧
    (D * d - l * s) * (-(r * a)) = (r * b) * (d * F + l * c) - (D * a + b * F + l * q) * (r * d) := by
  refine ⟨by grind, by grind, by grind⟩
theorem EqsR_le {C S D C' S' D' : Nat → Int} {i j : Nat} {x : Nat → Rat} (hC : ∀ k, k < j → C' k = C k ∧ S' k = S k ∧ D' k = D k) {m : Nat} (hm : j ≤ m) (h : EqsR C' S' D' i m x) : EqsR C S D i j x := by
  intro k h1 h2
  obtain ⟨e1, e2, e3⟩ := hC k h2
  rw [← e1, ← e2, ← e3]
  exact h k h1 (by omega)
theorem p18 (j : Nat) (h : j ≤ 4) : (18 : Int) ^ j ≤ 104976 := by
  rcases (show j = 0 ∨ j = 1 ∨ j = 2 ∨ j = 3 ∨ j = 4 by omega) with rfl | rfl | rfl | rfl | rfl <;> decide
theorem p18s (j : Nat) : (18 : Int) ^ (j + 1) = 18 ^ j * 18 := by rw [Int.pow_succ]
theorem p18p (j : Nat) : (1 : Int) ≤ 18 ^ j := by
  have : (0 : Int) < 18 ^ j := Int.pow_pos (by decide)
  omega
theorem cb_le (j : Nat) (h : j ≤ 4) : 1296 * (j : Int) * 18 ^ j ≤ 544195584 := by
  rcases (show j = 0 ∨ j = 1 ∨ j = 2 ∨ j = 3 ∨ j = 4 by omega) with rfl | rfl | rfl | rfl | rfl <;> decide
theorem fw_0 : Fw (fun _ => 0) (fun _ => 0) (fun _ => 0) 0 0 0 0 1 1 :=
  ⟨by decide, by decide, by decide, by decide, by decide, by decide, by decide, by decide, fun i h => absurd h (by omega), fun i h => absurd h (by omega), fun i _ h => absurd h (by omega)⟩
theorem cb_up (j : Nat) : 1296 * (j : Int) * 18 ^ j ≤ 1296 * ((j + 1 : Nat) : Int) * 18 ^ (j + 1) := by
  rw [p18s]
  have h := p18p j
  have h1 : 0 ≤ (j : Int) * 18 ^ j := Int.mul_nonneg (by omega) (by omega)
  push_cast
  grind
theorem fw_next {C S D : Nat → Int} {j f : Nat} {c s d E : Int} (h : Fw C S D j f c s d E) {C' S' D' : Nat → Int} (hC : ∀ k, k < j → C' k = C k ∧ S' k = S k ∧ D' k = D k)
    (e1 : C' j = 0) (e2 : S' j = 1) (e3 : D' j = 1) : Fw C' S' D' (j + 1) f c s d E := by
  have hp := p18p j
  have hx : ∀ i x, i ≤ j → EqsR C' S' D' i (j + 1) x → x j = x (j + 1) := by
    intro i x hi hq
    have := hq j hi (by omega)
    rw [e1, e2, e3] at this
    have z0 : ((0 : Int) : Rat) = 0 := rfl
    have z1 : ((1 : Int) : Rat) = 1 := rfl
    rw [z0, z1] at this
    grind
  refine ⟨h.d0, h.s0, h.sd, h.E0, ?_, by have := h.fj; omega, ?_, ?_, ?_, ?_, ?_⟩
  · rw [p18s]; have := h.Ed; omega
  · have := h.c1; have := cb_up j; omega
  · have := h.c2; have := cb_up j; omega
  · intro i hi
    rcases Nat.eq_or_lt_of_le (Nat.le_of_lt_succ hi) with rfl | hi
    · rw [e1, e2, e3]; decide
    · obtain ⟨q1, q2, q3⟩ := hC i hi
      rw [q1, q2, q3]; exact h.arr i hi
  · intro i hi
    rcases h.opn i hi with h1 | ⟨a, b, q, h1, h2⟩
    · exact Or.inl fun x hq => h1 x (EqsR_le hC (by omega) hq)
    · refine Or.inr ⟨a, b, q, h1, fun x hq => ?_⟩
      rw [← hx i x (by have := h.fj; omega) hq]
      exact h2 x (EqsR_le hC (by omega) hq)
  · intro i hi hj x hq
    rw [← hx i x (by omega) hq]
    rcases Nat.eq_or_lt_of_le (Nat.le_of_lt_succ hj) with rfl | hj
    · rfl
    · exact h.tch i hi hj x (EqsR_le hC (by omega) hq)
theorem fw_spring {C S D : Nat → Int} {j f : Nat} {c s d E : Int} (h : Fw C S D j f c s d E) (hj : j < 4) {C' S' D' : Nat → Int} (hC : ∀ k, k < j → C' k = C k ∧ S' k = S k ∧ D' k = D k)
    {l r F : Int} (hl : 1 ≤ l ∧ l ≤ 9) (hr : 1 ≤ r ∧ r ≤ 9) (hF : -1296 ≤ F ∧ F ≤ 1296)
    (e1 : C' j = d * F + l * c) (e2 : S' j = r * d) (e3 : D' j = (l + r) * d - l * s) : Fw C' S' D' (j + 1) (j + 1) (d * F + l * c) (r * d) ((l + r) * d - l * s) E := by
  obtain ⟨hl1, hl2⟩ := hl
  obtain ⟨hr1, hr2⟩ := hr
  obtain ⟨hF1, hF2⟩ := hF
  have hp := p18p j
  have h0 := h.d0
  have hs := h.s0
  have hE := h.E0
  have hEd := h.Ed
  have c1 := h.c1
  have c2 := h.c2
  have d18 : d ≤ 18 ^ j := by
    have : 1 * d ≤ E * d := Int.mul_le_mul_of_nonneg_right (by omega) (by omega)
    omega
  have x1 : 1 * d ≤ r * d := Int.mul_le_mul_of_nonneg_right hr1 (by omega)
  have x2 : r * d ≤ 9 * d := Int.mul_le_mul_of_nonneg_right hr2 (by omega)
  have x3 : l * s ≤ l * d := Int.mul_le_mul_of_nonneg_left h.sd (by omega)
  have x4 : 0 ≤ l * s := Int.mul_nonneg (by omega) hs
  have x5 : l * d ≤ 9 * d := Int.mul_le_mul_of_nonneg_right hl2 (by omega)
  have x6 : (l + r) * d = l * d + r * d := Int.add_mul _ _ _
  have D0 : 0 < (l + r) * d - l * s := by omega
  have D18 : (l + r) * d - l * s ≤ 18 * d := by omega
  have cb : -(1296 * ((j + 1 : Nat) : Int) * 18 ^ (j + 1)) ≤ d * F + l * c ∧ d * F + l * c ≤ 1296 * ((j + 1 : Nat) : Int) * 18 ^ (j + 1) := by
    have y1 : d * F ≤ d * 1296 := Int.mul_le_mul_of_nonneg_left hF2 (by omega)
    have y2 : d * (-1296) ≤ d * F := Int.mul_le_mul_of_nonneg_left hF1 (by omega)
    have y0 : 0 ≤ 1296 * (j : Int) * 18 ^ j := Int.mul_nonneg (by omega) (by omega)
    have y3 : l * c ≤ l * (1296 * (j : Int) * 18 ^ j) := Int.mul_le_mul_of_nonneg_left c2 (by omega)
    have y4 : l * (-(1296 * (j : Int) * 18 ^ j)) ≤ l * c := Int.mul_le_mul_of_nonneg_left c1 (by omega)
    have y5 : l * (1296 * (j : Int) * 18 ^ j) ≤ 9 * (1296 * (j : Int) * 18 ^ j) := Int.mul_le_mul_of_nonneg_right hl2 y0
    rw [p18s]
    push_cast
    generalize (18 : Int) ^ j = P at *
    have z : 1296 * ((j : Int) + 1) * (P * 18) = 18 * (1296 * (j : Int) * P) + 23328 * P := by grind
    rw [z]
    generalize 1296 * (j : Int) * P = Q at *
    have z2 : l * (-Q) = -(l * Q) := by grind
    omega
  have hx : ∀ i x, i ≤ j → EqsR C' S' D' i (j + 1) x → (((l + r) * d - l * s : Int) : Rat) * x j = ((d * F + l * c : Int) : Rat) + ((r * d : Int) : Rat) * x (j + 1) := by
    intro i x hi hq
    have := hq j hi (by omega)
    rw [e1, e2, e3] at this
    exact this
  refine ⟨D0, by omega, by omega, hE, ?_, by omega, cb.1, cb.2, ?_, ?_, ?_⟩
  · rw [p18s]
    have : E * ((l + r) * d - l * s) ≤ E * (18 * d) := Int.mul_le_mul_of_nonneg_left D18 (by omega)
    have e : E * (18 * d) = (E * d) * 18 := by grind
    omega
  · intro i hi
    rcases Nat.eq_or_lt_of_le (Nat.le_of_lt_succ hi) with rfl | hi
    · rw [e1, e2, e3]
      have q1 := p18 (i + 1) (by omega)
      have q2 := cb_le (i + 1) (by omega)
      rw [p18s] at q1
      obtain ⟨cb1, cb2⟩ := cb
      refine ⟨D0, by omega, by omega, by omega, by omega, by omega⟩
    · obtain ⟨q1, q2, q3⟩ := hC i hi
      rw [q1, q2, q3]; exact h.arr i hi
  · intro i hi
    rcases Nat.lt_or_ge i f with hf | hf
    · rcases h.opn i hf with h1 | ⟨a, b, q, h1, h2⟩
      · exact Or.inl fun x hq => h1 x (EqsR_le hC (by omega) hq)
      · obtain ⟨g1, g2, g3⟩ := ch_alg h1 (l + r) l r F
        refine Or.inr ⟨(l + r) * a + b * F + l * q, r * b, -(r * a), g3, fun x hq => ?_⟩
        have w1 := h2 x (EqsR_le hC (by omega) hq)
        have w2 := hx i x (by omega) hq
        have r1 := congrArg (fun z : Int => (z : Rat)) g1
        have r2 := congrArg (fun z : Int => (z : Rat)) g2
        generalize (l + r) * d - l * s = d' at *
        generalize d * F + l * c = c' at *
        generalize r * d = s' at *
        generalize (l + r) * a + b * F + l * q = a' at *
        generalize r * b = b' at *
        rw [Rat.intCast_add, Rat.intCast_mul, Rat.intCast_mul, Rat.intCast_mul] at r1
        rw [Rat.intCast_mul, Rat.intCast_mul] at r2
        have dne : (d : Rat) ≠ 0 := by
          intro e
          have := Rat.intCast_inj.mp (e.trans (by rfl : (0 : Rat) = ((0 : Int) : Rat)))
          omega
        have : (d : Rat) * ((d' : Rat) * x i - ((a' : Rat) + (b' : Rat) * x (j + 1))) = 0 := by grind
        rcases Rat.mul_eq_zero.mp this with z | z
        · exact absurd z dne
        · grind
    · refine Or.inr ⟨d * F + l * c, r * d, 0, by grind, fun x hq => ?_⟩
      have w2 := hx i x (by omega) hq
      rcases Nat.eq_or_lt_of_le (Nat.le_of_lt_succ hi) with rfl | hi
      · exact w2
      · rw [h.tch i hf hi x (EqsR_le hC (by omega) hq)]
        exact w2
  · intro i hi hj; omega
theorem fw_pin {C S D : Nat → Int} {j f : Nat} {c s d E : Int} (h : Fw C S D j f c s d E) {C' S' D' : Nat → Int} (hC : ∀ k, k < j → C' k = C k ∧ S' k = S k ∧ D' k = D k)
    {v : Int} (hv : 0 ≤ v ∧ v ≤ 99) (e1 : C' j = v) (e2 : S' j = 0) (e3 : D' j = 1) : Fw C' S' D' (j + 1) (j + 1) v 0 1 (E * d) := by
  have hp := p18p j
  have hE := Int.mul_pos h.E0 h.d0
  have hEd := h.Ed
  have hx : ∀ i x, i ≤ j → EqsR C' S' D' i (j + 1) x → x j = (v : Rat) := by
    intro i x hi hq
    have := hq j hi (by omega)
    rw [e1, e2, e3] at this
    have z0 : ((0 : Int) : Rat) = 0 := rfl
    have z1 : ((1 : Int) : Rat) = 1 := rfl
    rw [z0, z1] at this
    grind
  have cb : 99 ≤ 1296 * ((j + 1 : Nat) : Int) * 18 ^ (j + 1) := by
    rw [p18s]
    have y0 : 0 ≤ 1296 * (j : Int) * 18 ^ j := Int.mul_nonneg (by omega) (by omega)
    push_cast
    generalize (18 : Int) ^ j = P at *
    have z : 1296 * ((j : Int) + 1) * (P * 18) = 18 * (1296 * (j : Int) * P) + 23328 * P := by grind
    omega
  refine ⟨by decide, by decide, by decide, hE, by rw [p18s]; omega, by omega, by omega, by omega, ?_, ?_, ?_⟩
  · intro i hi
    rcases Nat.eq_or_lt_of_le (Nat.le_of_lt_succ hi) with rfl | hi
    · rw [e1, e2, e3]; omega
    · obtain ⟨q1, q2, q3⟩ := hC i hi
      rw [q1, q2, q3]; exact h.arr i hi
  · intro i hi
    refine Or.inl fun x hq => ?_
    have hxx := hx i x (by omega) hq
    rcases Nat.lt_or_ge i f with hf | hf
    · rcases h.opn i hf with h1 | ⟨a, b, q, h1, h2⟩
      · obtain ⟨t, ht⟩ := h1 x (EqsR_le hC (by omega) hq)
        refine ⟨t * d, ?_⟩
        rw [Rat.intCast_mul, Rat.intCast_mul]
        grind
      · have w := h2 x (EqsR_le hC (by omega) hq)
        refine ⟨E * (a + b * v), ?_⟩
        rw [Rat.intCast_mul, Rat.intCast_mul, Rat.intCast_add, Rat.intCast_mul]
        rw [hxx] at w
        grind
    · refine ⟨E * d * v, ?_⟩
      rw [Rat.intCast_mul (E * d) v]
      rcases Nat.eq_or_lt_of_le (Nat.le_of_lt_succ hi) with rfl | hi
      · rw [hxx]
      · rw [h.tch i hf hi x (EqsR_le hC (by omega) hq), hxx]
  · intro i hi hj; omega
/-- at the wall -/
theorem fw_wall {C S D : Nat → Int} {j f : Nat} {c s d E : Int} (h : Fw C S D j f c s d E) (w : Int) (i : Nat) (hi : i < j) (x : Nat → Rat) (hx : x j = (w : Rat)) (hq : EqsR C S D i j x) : ∃ t : Int, ((E * d : Int) : Rat) * x i = (t : Rat) := by
  rcases Nat.lt_or_ge i f with hf | hf
  · rcases h.opn i hf with h1 | ⟨a, b, q, h1, h2⟩
    · obtain ⟨t, ht⟩ := h1 x hq
      refine ⟨t * d, ?_⟩
      rw [Rat.intCast_mul, Rat.intCast_mul]
      grind
    · have w' := h2 x hq
      refine ⟨E * (a + b * w), ?_⟩
      rw [Rat.intCast_mul, Rat.intCast_mul, Rat.intCast_add, Rat.intCast_mul]
      rw [hx] at w'
      grind
  · refine ⟨E * d * w, ?_⟩
    rw [Rat.intCast_mul (E * d) w, h.tch i hf hi x hq, hx]
