/-! equations of a chain, solved without fractions -/
def chn (D l r F : Nat → Int) : Nat → Int × Int × Int
  | 0 => (0, 0, 1)
  | k + 1 => ((chn D l r F k).2.2 * F k + l k * (chn D l r F k).1, r k * (chn D l r F k).2.2, D k * (chn D l r F k).2.2 - l k * (chn D l r F k).2.1)
def ccN (D l r F : Nat → Int) (k : Nat) : Int := (chn D l r F k).1
def ssN (D l r F : Nat → Int) (k : Nat) : Int := (chn D l r F k).2.1
def ddN (D l r F : Nat → Int) (k : Nat) : Int := (chn D l r F k).2.2
theorem ccN_s (D l r F : Nat → Int) (k : Nat) : ccN D l r F (k + 1) = ddN D l r F k * F k + l k * ccN D l r F k := rfl
theorem ssN_s (D l r F : Nat → Int) (k : Nat) : ssN D l r F (k + 1) = r k * ddN D l r F k := rfl
theorem ddN_s (D l r F : Nat → Int) (k : Nat) : ddN D l r F (k + 1) = D k * ddN D l r F k - l k * ssN D l r F k := rfl
def chA (D l r F : Nat → Int) : Nat → Nat → Int × Int × Int
  | 0, _ => (0, 0, 0)
  | k + 1, j => if j = k then (ccN D l r F (k + 1), ssN D l r F (k + 1), 0) else (D k * (chA D l r F k j).1 + (chA D l r F k j).2.1 * F k + l k * (chA D l r F k j).2.2, r k * (chA D l r F k j).2.1, -(r k * (chA D l r F k j).1))
def aN (D l r F : Nat → Int) (k j : Nat) : Int := (chA D l r F k j).1
def bN (D l r F : Nat → Int) (k j : Nat) : Int := (chA D l r F k j).2.1
def qN (D l r F : Nat → Int) (k j : Nat) : Int := (chA D l r F k j).2.2
theorem chA_k (D l r F : Nat → Int) (k : Nat) : aN D l r F (k + 1) k = ccN D l r F (k + 1) ∧ bN D l r F (k + 1) k = ssN D l r F (k + 1) ∧ qN D l r F (k + 1) k = 0 := by
  have e : chA D l r F (k + 1) k = (ccN D l r F (k + 1), ssN D l r F (k + 1), 0) := if_pos rfl
  unfold aN bN qN
  rw [e]
  exact ⟨rfl, rfl, rfl⟩
theorem chA_j (D l r F : Nat → Int) (k j : Nat) (h : j ≠ k) : aN D l r F (k + 1) j = D k * aN D l r F k j + bN D l r F k j * F k + l k * qN D l r F k j ∧ bN D l r F (k + 1) j = r k * bN D l r F k j ∧ qN D l r F (k + 1) j = -(r k * aN D l r F k j) := by
  have e : chA D l r F (k + 1) j = (D k * (chA D l r F k j).1 + (chA D l r F k j).2.1 * F k + l k * (chA D l r F k j).2.2, r k * (chA D l r F k j).2.1, -(r k * (chA D l r F k j).1)) := if_neg h
  unfold aN bN qN
  rw [e]
  exact ⟨rfl, rfl, rfl⟩
theorem ch_inv (D l r F : Nat → Int) : ∀ k j, j < k → ddN D l r F k * qN D l r F k j = bN D l r F k j * ccN D l r F k - aN D l r F k j * ssN D l r F k := by
  intro k
  induction k with
  | zero => intro j h; omega
  | succ k ih =>
    intro j hj
    rcases Nat.eq_or_lt_of_le (Nat.le_of_lt_succ hj) with rfl | hj
    · obtain ⟨e1, e2, e3⟩ := chA_k D l r F j
      rw [e1, e2, e3]; grind
    · obtain ⟨e1, e2, e3⟩ := chA_j D l r F k j (by omega)
      rw [e1, e2, e3, ccN_s, ssN_s, ddN_s]
      exact (ch_alg (ih j hj) (D k) (l k) (r k) (F k)).2.2
/-- the grid after k rounds -/
def gN (D l r F : Nat → Int) (k i c : Nat) : Int :=
  if i < k then (if c = 4 then aN D l r F k i else if c = i then ddN D l r F k else if c = k then -(bN D l r F k i) else 0)
  else if i = k then (if c = 4 then ccN D l r F (k + 1) else if c = k then ddN D l r F (k + 1) else if c = k + 1 then -(ssN D l r F (k + 1)) else 0)
  else ddN D l r F k * orig (D i) (l i) (r i) (F i) i c
theorem gN_0 (D l r F : Nat → Int) (i c : Nat) : gN D l r F 0 i c = orig (D i) (l i) (r i) (F i) i c := by
  unfold gN
  rw [if_neg (by omega)]
  have c0 : ccN D l r F 0 = 0 := rfl
  have s0 : ssN D l r F 0 = 0 := rfl
  have d0 : ddN D l r F 0 = 1 := rfl
  by_cases q : i = 0
  · subst q
    rw [if_pos rfl, ccN_s, ssN_s, ddN_s, c0, s0, d0]
    unfold orig
    by_cases q4 : c = 4
    · rw [if_pos q4, if_pos q4]; omega
    · rw [if_neg q4, if_neg q4]
      by_cases q0 : c = 0
      · rw [if_pos q0, if_pos q0]; omega
      · rw [if_neg q0, if_neg q0, if_neg (show ¬ c + 1 = 0 by omega)]
        by_cases q1 : c = 0 + 1
        · rw [if_pos q1, if_pos q1]; omega
        · rw [if_neg q1, if_neg q1]
  · rw [if_neg q, d0, Int.one_mul]
theorem gN_kk (D l r F : Nat → Int) (k c : Nat) : gN D l r F (k + 1) k c = gN D l r F k k c := by
  obtain ⟨e1, e2, e3⟩ := chA_k D l r F k
  unfold gN
  rw [if_pos (by omega), if_neg (Nat.lt_irrefl k), if_pos rfl, e1, e2]
theorem gN_s (D l r F : Nat → Int) (k i c : Nat) (hk : k < 4) (hi : i < 4) (hik : i ≠ k) : gN D l r F k i c * ddN D l r F (k + 1) - gN D l r F k i k * gN D l r F k k c = ddN D l r F k * gN D l r F (k + 1) i c := by
  have hkk : gN D l r F k k c = (if c = 4 then ccN D l r F (k + 1) else if c = k then ddN D l r F (k + 1) else if c = k + 1 then -(ssN D l r F (k + 1)) else 0) := by
    unfold gN
    rw [if_neg (Nat.lt_irrefl k), if_pos rfl]
  rw [hkk]
  rcases Nat.lt_or_ge i k with h | h
  · obtain ⟨e1, e2, e3⟩ := chA_j D l r F k i hik
    have hq := ch_alg (ch_inv D l r F k i h) (D k) (l k) (r k) (F k)
    rw [← ddN_s, ← ccN_s, ← ssN_s, ← e1, ← e2] at hq
    obtain ⟨q1, q2, -⟩ := hq
    have hik2 : gN D l r F k i k = -(bN D l r F k i) := by
      unfold gN
      rw [if_pos h, if_neg (by omega), if_neg (by omega), if_pos rfl]
    rw [hik2]
    unfold gN
    rw [if_pos h, if_pos (show i < k + 1 by omega)]
    by_cases c4 : c = 4
    · simp only [if_pos c4]; grind
    · simp only [if_neg c4]
      by_cases c1 : c = i
      · simp only [if_pos c1, if_neg (show ¬ c = k by omega), if_neg (show ¬ c = k + 1 by omega)]; grind
      · simp only [if_neg c1]
        by_cases c2 : c = k
        · simp only [if_pos c2, if_neg (show ¬ c = k + 1 by omega)]; grind
        · simp only [if_neg c2]
          by_cases c3 : c = k + 1
          · simp only [if_pos c3]; grind
          · simp only [if_neg c3]; grind
  · have hik2 : gN D l r F k i k = ddN D l r F k * (if k + 1 = i then -(l i) else 0) := by
      unfold gN orig
      rw [if_neg (by omega), if_neg hik, if_neg (show ¬ k = 4 by omega), if_neg (show ¬ k = i by omega), if_neg (show ¬ k = i + 1 by omega)]
    rw [hik2]
    have hl : gN D l r F k i c = ddN D l r F k * orig (D i) (l i) (r i) (F i) i c := by
      unfold gN
      rw [if_neg (by omega), if_neg hik]
    rw [hl]
    by_cases e : i = k + 1
    · subst e
      unfold gN orig
      rw [if_neg (Nat.lt_irrefl _), if_pos rfl, if_pos rfl]
      have d1 := ddN_s D l r F (k + 1)
      have s1 := ssN_s D l r F (k + 1)
      have c1 := ccN_s D l r F (k + 1)
      by_cases c4 : c = 4
      · simp only [if_pos c4]; grind
      · simp only [if_neg c4]
        by_cases q1 : c = k + 1
        · simp only [if_pos q1, if_neg (show ¬ c = k by omega)]; grind
        · simp only [if_neg q1]
          by_cases q2 : c + 1 = k + 1
          · simp only [if_pos q2, if_pos (show c = k by omega), if_neg (show ¬ c = k + 1 + 1 by omega)]; grind
          · simp only [if_neg q2, if_neg (show ¬ c = k by omega)]
            by_cases q3 : c = k + 1 + 1
            · simp only [if_pos q3]; grind
            · simp only [if_neg q3]; grind
    · have hr : gN D l r F (k + 1) i c = ddN D l r F (k + 1) * orig (D i) (l i) (r i) (F i) i c := by
        unfold gN
        rw [if_neg (by omega), if_neg e]
      rw [hr, if_neg (show ¬ k + 1 = i by omega)]
      grind
/-- rows that the reference lays -/
def RwB (D l r F : Int) : Prop := 1 ≤ D ∧ D ≤ 18 ∧ 0 ≤ l ∧ l ≤ 9 ∧ 0 ≤ r ∧ r ≤ 9 ∧ l + r ≤ D ∧ l < D ∧ -4000 ≤ F ∧ F ≤ 4000
theorem dd_bd {D l r F : Nat → Int} {B : Nat} (h : ∀ i, i < B → RwB (D i) (l i) (r i) (F i)) : ∀ k, k ≤ B → 1 ≤ ddN D l r F k ∧ ddN D l r F k ≤ 18 ^ k ∧ 0 ≤ ssN D l r F k ∧ ssN D l r F k ≤ ddN D l r F k := by
  intro k
  induction k with
  | zero => intro _; exact ⟨Int.le_refl _, Int.le_refl _, Int.le_refl _, show (0 : Int) ≤ 1 by decide⟩
  | succ k ih =>
    intro hk
    obtain ⟨i1, i2, i3, i4⟩ := ih (by omega)
    obtain ⟨h1, h2, h3, h4, h5, h6, h7, h8, -⟩ := h k (by omega)
    rw [ddN_s, ssN_s, p18s]
    generalize ddN D l r F k = d at *
    generalize ssN D l r F k = s at *
    generalize D k = D' at *
    generalize l k = l' at *
    generalize r k = r' at *
    have x1 : l' * s ≤ l' * d := Int.mul_le_mul_of_nonneg_left i4 h3
    have x2 : 0 ≤ l' * s := Int.mul_nonneg h3 i3
    have x3 : D' * d ≤ 18 * d := Int.mul_le_mul_of_nonneg_right h2 (by omega)
    have x4 : 1 * d ≤ (D' - l') * d := Int.mul_le_mul_of_nonneg_right (by omega) (by omega)
    have x5 : (l' + r') * d ≤ D' * d := Int.mul_le_mul_of_nonneg_right h7 (by omega)
    have x6 : 0 ≤ r' * d := Int.mul_nonneg h5 (by omega)
    rw [Int.sub_mul] at x4
    rw [Int.add_mul] at x5
    refine ⟨by omega, by omega, x6, by omega⟩
theorem p40 (k : Nat) : (18 : Int) ^ k ≤ 40 ^ k ∧ (1 : Int) ≤ 40 ^ k := by
  induction k with
  | zero => exact ⟨by decide, by decide⟩
  | succ k ih => rw [Int.pow_succ, Int.pow_succ]; omega
/-- no number is too long -/
def in4 (k : Nat) (z : Int) : Prop := -(4000 * 40 ^ k) ≤ z ∧ z ≤ 4000 * 40 ^ k
theorem mul_in {k : Nat} {a z P : Int} (ha : 0 ≤ a ∧ a ≤ P) (hz : -4000 ≤ z ∧ z ≤ 4000) (hP : P ≤ 40 ^ k) : in4 k (a * z) := by
  have x1 : a * z ≤ a * 4000 := Int.mul_le_mul_of_nonneg_left hz.2 ha.1
  have x2 : a * (-4000) ≤ a * z := Int.mul_le_mul_of_nonneg_left hz.1 ha.1
  unfold in4
  omega
theorem mul_in2 {k : Nat} {a z m : Int} (ha : 0 ≤ a ∧ a ≤ m) (hz : in4 k z) : -(m * (4000 * 40 ^ k)) ≤ a * z ∧ a * z ≤ m * (4000 * 40 ^ k) := by
  obtain ⟨z1, z2⟩ := hz
  have p := (p40 k).2
  generalize (40 : Int) ^ k = P at *
  have x1 : a * z ≤ a * (4000 * P) := Int.mul_le_mul_of_nonneg_left z2 ha.1
  have x2 : a * (-(4000 * P)) ≤ a * z := Int.mul_le_mul_of_nonneg_left z1 ha.1
  have x3 : a * (4000 * P) ≤ m * (4000 * P) := Int.mul_le_mul_of_nonneg_right ha.2 (by omega)
  have x4 : a * (-(4000 * P)) = -(a * (4000 * P)) := by grind
  omega
theorem cc_bd {D l r F : Nat → Int} {B : Nat} (h : ∀ i, i < B → RwB (D i) (l i) (r i) (F i)) : ∀ k, k ≤ B → in4 k (ccN D l r F k) := by
  intro k
  induction k with
  | zero => intro _; exact ⟨show -(4000 * 40 ^ 0) ≤ (0 : Int) by decide, show (0 : Int) ≤ 4000 * 40 ^ 0 by decide⟩
  | succ k ih =>
    intro hk
    have i := ih (by omega)
    obtain ⟨d1, d2, -, -⟩ := dd_bd h k (by omega)
    obtain ⟨h1, h2, h3, h4, h5, h6, h7, h8, h9, h10⟩ := h k (by omega)
    have a1 := mul_in (k := k) ⟨by omega, d2⟩ ⟨h9, h10⟩ (p40 k).1
    have a2 := mul_in2 ⟨h3, h4⟩ i
    rw [ccN_s]
    unfold in4 at a1 ⊢
    rw [Int.pow_succ]
    have p := (p40 k).2
    generalize (40 : Int) ^ k = P at *
    generalize ddN D l r F k * F k = x at *
    generalize l k * ccN D l r F k = y at *
    omega
theorem ab_bd {D l r F : Nat → Int} {B : Nat} (h : ∀ i, i < B → RwB (D i) (l i) (r i) (F i)) : ∀ k, k ≤ B → ∀ j, j < k → in4 k (aN D l r F k j) ∧ in4 k (qN D l r F k j) ∧ 0 ≤ bN D l r F k j ∧ bN D l r F k j ≤ 18 ^ k := by
  intro k
  induction k with
  | zero => intro _ j hj; omega
  | succ k ih =>
    intro hk j hj
    obtain ⟨h1, h2, h3, h4, h5, h6, h7, h8, h9, h10⟩ := h k (by omega)
    rcases Nat.eq_or_lt_of_le (Nat.le_of_lt_succ hj) with rfl | hj
    · obtain ⟨e1, e2, e3⟩ := chA_k D l r F j
      have d := dd_bd h (j + 1) hk
      have c := cc_bd h (j + 1) hk
      rw [e1, e2, e3]
      have p := (p40 (j + 1)).2
      refine ⟨c, ⟨by omega, by omega⟩, d.2.2.1, by omega⟩
    · obtain ⟨e1, e2, e3⟩ := chA_j D l r F k j (by omega)
      obtain ⟨i1, i2, i3, i4⟩ := ih (by omega) j hj
      rw [e1, e2, e3]
      have a1 := mul_in2 ⟨by omega, h2⟩ i1
      have a2 := mul_in (k := k) ⟨i3, i4⟩ ⟨h9, h10⟩ (p40 k).1
      have a3 := mul_in2 ⟨h3, h4⟩ i2
      have a4 := mul_in2 ⟨h5, h6⟩ i1
      have b1 : 0 ≤ r k * bN D l r F k j := Int.mul_nonneg h5 i3
      have b2 : r k * bN D l r F k j ≤ 9 * bN D l r F k j := Int.mul_le_mul_of_nonneg_right h6 i3
      unfold in4 at a2 ⊢
      rw [Int.pow_succ, Int.pow_succ]
      have p := (p40 k).2
      generalize (40 : Int) ^ k = P at *
      generalize (18 : Int) ^ k = P2 at *
      generalize D k * aN D l r F k j = x1 at *
      generalize bN D l r F k j * F k = x2 at *
      generalize l k * qN D l r F k j = x3 at *
      generalize r k * aN D l r F k j = x4 at *
      generalize r k * bN D l r F k j = x5 at *
      refine ⟨⟨by omega, by omega⟩, ⟨by omega, by omega⟩, b1, by omega⟩
theorem p404 (k : Nat) (h : k ≤ 4) : (40 : Int) ^ k ≤ 2560000 := by
  rcases (show k = 0 ∨ k = 1 ∨ k = 2 ∨ k = 3 ∨ k = 4 by omega) with rfl | rfl | rfl | rfl | rfl <;> decide
/-- all numbers of the grid are short -/
theorem gN_bd {D l r F : Nat → Int} {B : Nat} (h : ∀ i, i < B → RwB (D i) (l i) (r i) (F i)) (hB : B ≤ 4) (k i c : Nat) (hk : k ≤ B) (hi : i < B) : -10240000000 ≤ gN D l r F k i c ∧ gN D l r F k i c ≤ 10240000000 := by
  have p1 := p404 k (by omega)
  have p2 := p18 k (by omega)
  obtain ⟨d1, d2, -, -⟩ := dd_bd h k hk
  unfold gN
  rcases Nat.lt_or_ge i k with q | q
  · obtain ⟨⟨a1, a2⟩, -, a3, a4⟩ := ab_bd h k hk i q
    rw [if_pos q]
    split
    · omega
    · split
      · omega
      · split <;> omega
  · rw [if_neg (by omega)]
    by_cases q2 : i = k
    · subst q2
      have p1 := p404 (i + 1) (by omega)
      have p2 := p18 (i + 1) (by omega)
      obtain ⟨e1, e2, e3, e4⟩ := dd_bd h (i + 1) (by omega)
      obtain ⟨c1, c2⟩ := cc_bd h (i + 1) (by omega)
      rw [if_pos rfl]
      split
      · omega
      · split
        · omega
        · split <;> omega
    · rw [if_neg q2]
      obtain ⟨h1, h2, h3, h4, h5, h6, h7, h8, h9, h10⟩ := h i hi
      have ob : -4000 ≤ orig (D i) (l i) (r i) (F i) i c ∧ orig (D i) (l i) (r i) (F i) i c ≤ 4000 := by
        unfold orig
        split
        · omega
        · split
          · omega
          · split
            · omega
            · split <;> omega
      have x1 : ddN D l r F k * orig (D i) (l i) (r i) (F i) i c ≤ ddN D l r F k * 4000 := Int.mul_le_mul_of_nonneg_left ob.2 (by omega)
      have x2 : ddN D l r F k * (-4000) ≤ ddN D l r F k * orig (D i) (l i) (r i) (F i) i c := Int.mul_le_mul_of_nonneg_left ob.1 (by omega)
      omega
/-- what solves the equations, has these upper parts -/
theorem ch_sol {D l r F : Nat → Int} {B : Nat} (h : ∀ i, i < B → RwB (D i) (l i) (r i) (F i)) (m : Int) (X : Nat → Int) (hX : ∀ i, i < B → D i * X i = (if i = 0 then 0 else l i * X (i - 1)) + r i * X (i + 1) + F i * m) :
    ∀ k, k ≤ B → (0 < k → ddN D l r F k * X (k - 1) = ccN D l r F k * m + ssN D l r F k * X k) ∧ ∀ j, j < k → ddN D l r F k * X j = aN D l r F k j * m + bN D l r F k j * X k := by
  intro k
  induction k with
  | zero => intro _; exact ⟨fun h => absurd h (by omega), fun j hj => absurd hj (by omega)⟩
  | succ k ih =>
    intro hk
    obtain ⟨i1, i2⟩ := ih (by omega)
    have hx := hX k (by omega)
    have e1 : ddN D l r F (k + 1) * X k = ccN D l r F (k + 1) * m + ssN D l r F (k + 1) * X (k + 1) := by
      rw [ccN_s, ssN_s, ddN_s]
      rcases Nat.eq_zero_or_pos k with rfl | q
      · have c0 : ccN D l r F 0 = 0 := rfl
        have s0 : ssN D l r F 0 = 0 := rfl
        have d0 : ddN D l r F 0 = 1 := rfl
        rw [if_pos rfl] at hx
        rw [c0, s0, d0]
        grind
      · have i3 := i1 q
        rw [if_neg (by omega)] at hx
        grind
    refine ⟨fun _ => e1, fun j hj => ?_⟩
    rcases Nat.eq_or_lt_of_le (Nat.le_of_lt_succ hj) with rfl | hj
    · obtain ⟨a1, a2, a3⟩ := chA_k D l r F j
      rw [a1, a2]; exact e1
    · obtain ⟨a1, a2, a3⟩ := chA_j D l r F k j (by omega)
      have hq := ch_alg (ch_inv D l r F k j hj) (D k) (l k) (r k) (F k)
      rw [← ddN_s, ← ccN_s, ← ssN_s, ← a1, ← a2] at hq
      obtain ⟨q1, q2, -⟩ := hq
      have i3 := i2 j hj
      have d0 := (dd_bd h k (by omega)).1
      have z : ddN D l r F k * (ddN D l r F (k + 1) * X j - (aN D l r F (k + 1) j * m + bN D l r F (k + 1) j * X (k + 1))) = 0 := by
        have : ddN D l r F (k + 1) * (ddN D l r F k * X j) = ddN D l r F (k + 1) * (aN D l r F k j * m + bN D l r F k j * X k) := by rw [i3]
        grind
      rcases Int.mul_eq_zero.mp z with z | z <;> omega
