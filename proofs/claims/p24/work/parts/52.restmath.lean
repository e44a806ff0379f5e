abbrev Sy : Type := Nat × Int × (Nat → Int) × (Nat → Int) × (Nat → Int) × (Nat → Int) × (Nat → Int)
def Sy.n (S : Sy) : Nat := S.1
def Sy.W (S : Sy) : Int := S.2.1
def Sy.K (S : Sy) : Nat → Int := S.2.2.1
def Sy.L (S : Sy) : Nat → Int := S.2.2.2.1
def Sy.q (S : Sy) : Nat → Int := S.2.2.2.2.1
def Sy.lo (S : Sy) : Nat → Int := S.2.2.2.2.2.1
def Sy.hi (S : Sy) : Nat → Int := S.2.2.2.2.2.2
def Sy.wq (S : Sy) (q : Nat → Int) : Sy := (S.n, S.W, S.K, S.L, q, S.lo, S.hi)
theorem wq_n (S : Sy) (q : Nat → Int) : (S.wq q).n = S.n := rfl
theorem wq_W (S : Sy) (q : Nat → Int) : (S.wq q).W = S.W := rfl
theorem wq_K (S : Sy) (q : Nat → Int) : (S.wq q).K = S.K := rfl
theorem wq_L (S : Sy) (q : Nat → Int) : (S.wq q).L = S.L := rfl
theorem wq_q (S : Sy) (q : Nat → Int) : (S.wq q).q = q := rfl
theorem wq_lo (S : Sy) (q : Nat → Int) : (S.wq q).lo = S.lo := rfl
theorem wq_hi (S : Sy) (q : Nat → Int) : (S.wq q).hi = S.hi := rfl
def preS (q : Nat → Int) : Nat → Int
  | 0 => 0
  | k + 1 => preS q k + q k
/-- tension of the spring k, over l -/
def tnS (S : Sy) (u : Nat → Int) (l : Int) (k : Nat) : Int := S.K k * (u (k + 1) - u k - S.L k * l)
def gS (S : Sy) (u : Nat → Int) (l : Int) (k : Nat) : Int := tnS S u l k + l * preS S.q k
abbrev RowIn (S : Sy) (u : Nat → Int) (l : Int) : Prop :=
  (0 < l) ∧
  (u 0 = 0) ∧
  (u (S.n + 1) = S.W * l) ∧
  (∀ p, p < S.n → S.lo p * l ≤ u (p + 1)) ∧
  (∀ p, p < S.n → u (p + 1) ≤ S.hi p * l) ∧
  (∀ p, p ≤ S.n → u p ≤ u (p + 1))
theorem RowIn.pos {S : Sy} {u : Nat → Int} {l : Int} (h : RowIn S u l) : 0 < l := h.1
theorem RowIn.z {S : Sy} {u : Nat → Int} {l : Int} (h : RowIn S u l) : u 0 = 0 := h.2.1
theorem RowIn.w {S : Sy} {u : Nat → Int} {l : Int} (h : RowIn S u l) : u (S.n + 1) = S.W * l := h.2.2.1
theorem RowIn.lo {S : Sy} {u : Nat → Int} {l : Int} (h : RowIn S u l) : ∀ p, p < S.n → S.lo p * l ≤ u (p + 1) := h.2.2.2.1
theorem RowIn.hi {S : Sy} {u : Nat → Int} {l : Int} (h : RowIn S u l) : ∀ p, p < S.n → u (p + 1) ≤ S.hi p * l := h.2.2.2.2.1
theorem RowIn.mono {S : Sy} {u : Nat → Int} {l : Int} (h : RowIn S u l) : ∀ p, p ≤ S.n → u p ≤ u (p + 1) := h.2.2.2.2.2
abbrev RestT (S : Sy) (u : Nat → Int) (l : Int) : Prop :=
  (RowIn S u l) ∧
  (∀ a b, a < b → b ≤ S.n → u (a + 1) = u b → u a < u (a + 1) → (∀ p, a ≤ p → p < b → S.lo p * l < u (p + 1)) → gS S u l a ≤ gS S u l b) ∧
  (∀ a b, a < b → b ≤ S.n → u (a + 1) = u b → u b < u (b + 1) → (∀ p, a ≤ p → p < b → u (p + 1) < S.hi p * l) → gS S u l b ≤ gS S u l a)
theorem RestT.toRowIn {S : Sy} {u : Nat → Int} {l : Int} (h : RestT S u l) : RowIn S u l := h.1
theorem RestT.left {S : Sy} {u : Nat → Int} {l : Int} (h : RestT S u l) : ∀ a b, a < b → b ≤ S.n → u (a + 1) = u b → u a < u (a + 1) → (∀ p, a ≤ p → p < b → S.lo p * l < u (p + 1)) → gS S u l a ≤ gS S u l b := h.2.1
theorem RestT.right {S : Sy} {u : Nat → Int} {l : Int} (h : RestT S u l) : ∀ a b, a < b → b ≤ S.n → u (a + 1) = u b → u b < u (b + 1) → (∀ p, a ≤ p → p < b → u (p + 1) < S.hi p * l) → gS S u l b ≤ gS S u l a := h.2.2
theorem RestT.pos {S : Sy} {u : Nat → Int} {l : Int} (h : RestT S u l) : 0 < l := h.toRowIn.pos
theorem RestT.z {S : Sy} {u : Nat → Int} {l : Int} (h : RestT S u l) : u 0 = 0 := h.toRowIn.z
theorem RestT.w {S : Sy} {u : Nat → Int} {l : Int} (h : RestT S u l) : u (S.n + 1) = S.W * l := h.toRowIn.w
theorem RestT.lo {S : Sy} {u : Nat → Int} {l : Int} (h : RestT S u l) : ∀ p, p < S.n → S.lo p * l ≤ u (p + 1) := h.toRowIn.lo
theorem RestT.hi {S : Sy} {u : Nat → Int} {l : Int} (h : RestT S u l) : ∀ p, p < S.n → u (p + 1) ≤ S.hi p * l := h.toRowIn.hi
theorem RestT.mono {S : Sy} {u : Nat → Int} {l : Int} (h : RestT S u l) : ∀ p, p ≤ S.n → u p ≤ u (p + 1) := h.toRowIn.mono
theorem run_up (P : Nat → Prop) : ∀ d a N, a + d = N → P a → ¬ P N → ∃ b, a ≤ b ∧ b < N ∧ (∀ i, a ≤ i → i ≤ b → P i) ∧ ¬ P (b + 1) := by
  intro d
  induction d with
  | zero => intro a N h pa pn; exfalso; apply pn; rw [show N = a by omega]; exact pa
  | succ d ih =>
    intro a N h pa pn
    rcases Classical.em (P (a + 1)) with h1 | h1
    · obtain ⟨b, b1, b2, b3, b4⟩ := ih (a + 1) N (by omega) h1 pn
      refine ⟨b, by omega, b2, ?_, b4⟩
      intro i i1 i2
      rcases Nat.eq_or_lt_of_le i1 with rfl | i3
      · exact pa
      · exact b3 i i3 i2
    · exact ⟨a, Nat.le_refl _, by omega, fun i i1 i2 => by rw [show i = a by omega]; exact pa, h1⟩
theorem least_at (P : Nat → Prop) : ∀ N, P N → ∃ a, a ≤ N ∧ P a ∧ ∀ i, i < a → ¬ P i := by
  intro N
  induction N using Nat.strongRecOn with
  | ind N ih =>
    intro h
    rcases Classical.em (∃ i, i < N ∧ P i) with ⟨i, i1, i2⟩ | hn
    · obtain ⟨a, a1, a2⟩ := ih i i1 i2
      exact ⟨a, by omega, a2⟩
    · exact ⟨N, Nat.le_refl _, h, fun i i1 i2 => hn ⟨i, i1, i2⟩⟩
theorem mono_le {S : Sy} {u : Nat → Int} {l : Int} (h : RowIn S u l) (a : Nat) : ∀ b, a ≤ b → b ≤ S.n + 1 → u a ≤ u b := by
  intro b
  induction b with
  | zero => intro h1 _; rw [show a = 0 by omega]; exact Int.le_refl _
  | succ b ih =>
    intro h1 h2
    rcases Nat.eq_or_lt_of_le h1 with rfl | h3
    · exact Int.le_refl _
    · exact Int.le_trans (ih (by omega) (by omega)) (h.mono b (by omega))
theorem genL {S : Sy} {u : Nat → Int} {l : Int} (h : RestT S u l) (a : Nat) (ha : u a < u (a + 1)) : ∀ b, a < b → b ≤ S.n → (∀ p, a ≤ p → p < b → S.lo p * l < u (p + 1)) → gS S u l a ≤ gS S u l b := by
  intro b
  induction b using Nat.strongRecOn with
  | ind b ih =>
    intro h1 h2 h3
    obtain ⟨c, c1, c2, c3⟩ := least_at (fun i => a ≤ i ∧ u (i + 1) = u b) (b - 1) ⟨by omega, by rw [show b - 1 + 1 = b by omega]⟩
    rcases Nat.eq_or_lt_of_le c2.1 with rfl | c4
    · exact h.left a b h1 h2 c2.2 ha h3
    · have c5 : u c < u (c + 1) := by
        have := h.mono c (by omega)
        have := c3 (c - 1) (by omega)
        have e : c - 1 + 1 = c := by omega
        rw [e] at this
        have c6 : u c ≠ u b := fun e => this ⟨by omega, e⟩
        have := c2.2
        omega
      exact Int.le_trans (ih c (by omega) c4 (by omega) (fun p p1 p2 => h3 p p1 (by omega))) (h.left c b (by omega) h2 c2.2 c5 (fun p p1 p2 => h3 p (by omega) p2))
theorem genR {S : Sy} {u : Nat → Int} {l : Int} (h : RestT S u l) (b : Nat) (hb : u b < u (b + 1)) (h2 : b ≤ S.n) : ∀ d a, a + d + 1 = b → (∀ p, a ≤ p → p < b → u (p + 1) < S.hi p * l) → gS S u l b ≤ gS S u l a := by
  intro d
  induction d using Nat.strongRecOn with
  | ind d ih =>
    intro a h1 h3
    rcases Classical.em (u b = u (a + 1)) with h4 | h4
    · exact h.right a b (by omega) h2 h4.symm hb h3
    · obtain ⟨c, c1, c2, c3, c4⟩ := run_up (fun i => u i = u (a + 1)) d (a + 1) b (by omega) rfl h4
      have c5 := c3 c c1 (Nat.le_refl _)
      have c6 : u c < u (c + 1) := by
        have := h.mono c (by omega)
        have : u (c + 1) ≠ u (a + 1) := c4
        omega
      have := h.right a c (by omega) (by omega) c5.symm c6 (fun p p1 p2 => h3 p p1 (by omega))
      have := ih (b - c - 1) (by omega) c (by omega) (fun p p1 p2 => h3 p (by omega) p2)
      omega
theorem max_at (f : Nat → Int) : ∀ N, ∃ m, m ≤ N ∧ ∀ p, p ≤ N → f p ≤ f m := by
  intro N
  induction N with
  | zero => exact ⟨0, Nat.le_refl _, fun p hp => by rw [show p = 0 by omega]; exact Int.le_refl _⟩
  | succ N ih =>
    obtain ⟨m, m1, m2⟩ := ih
    rcases Int.lt_or_le (f m) (f (N + 1)) with h | h
    · refine ⟨N + 1, Nat.le_refl _, fun p hp => ?_⟩
      rcases Nat.eq_or_lt_of_le hp with rfl | h3
      · exact Int.le_refl _
      · exact Int.le_trans (m2 p (by omega)) (Int.le_of_lt h)
    · refine ⟨m, by omega, fun p hp => ?_⟩
      rcases Nat.eq_or_lt_of_le hp with rfl | h3
      · exact h
      · exact m2 p (by omega)
theorem rest_cmp {S : Sy} {q' : Nat → Int} {u v : Nat → Int} {l : Int} (hu : RestT S u l) (hv : RestT (S.wq q') v l)
    (hK : ∀ k, k ≤ S.n → 0 < S.K k) (hq : ∀ a b, a ≤ b → b ≤ S.n → preS S.q b - preS S.q a ≤ preS q' b - preS q' a) :
    ∀ p, p ≤ S.n + 1 → u p ≤ v p := by
  obtain ⟨m, m1, m2⟩ := max_at (fun p => u p - v p) (S.n + 1)
  rcases Int.lt_or_le 0 (u m - v m) with hD | hD
  rotate_left
  · intro p hp
    have := m2 p hp
    omega
  exfalso
  obtain ⟨c, c1, c2, c3⟩ := least_at (fun i => u i - v i = u m - v m) m rfl
  have z0 := hu.z
  have z1 := hv.z
  have w0 := hu.w
  have w1 : v (S.n + 1) = S.W * l := hv.w
  have c0 : c ≠ 0 := by rintro rfl; omega
  have cn : c ≠ S.n + 1 := by rintro rfl; omega
  obtain ⟨b, b1, b2, b3, b4⟩ := run_up (fun i => u i - v i = u m - v m) (S.n + 1 - c) c (S.n + 1) (by omega) c2 (by omega)
  obtain ⟨a, rfl⟩ : ∃ a, c = a + 1 := ⟨c - 1, by omega⟩
  have a5 := c3 a (by omega)
  have a6 := m2 a (by omega)
  have a7 : v a ≤ v (a + 1) := hv.mono a (show a ≤ S.n by omega)
  have a8 : u a < u (a + 1) := by omega
  have b5 := b3 b (by omega) (Nat.le_refl _)
  have b6 := m2 (b + 1) (by omega)
  have b7 := hu.mono b (show b ≤ S.n by omega)
  have b8 : v b < v (b + 1) := by omega
  have x1 := genL hu a a8 b (by omega) (by omega) (fun p p1 p2 => by
    have := b3 (p + 1) (by omega) (by omega)
    have : S.lo p * l ≤ v (p + 1) := hv.lo p (show p < S.n by omega)
    omega)
  have x2 : gS (S.wq q') v l b ≤ gS (S.wq q') v l a := genR hv b b8 (show b ≤ S.n by omega) (b - a - 1) a (by omega) (fun p p1 p2 => by
    have := b3 (p + 1) (by omega) (by omega)
    have := hu.hi p (by omega)
    show v (p + 1) < S.hi p * l
    omega)
  have x3 := hq a b (by omega) (by omega)
  have x4 : l * (preS S.q b - preS S.q a) ≤ l * (preS q' b - preS q' a) := Int.mul_le_mul_of_nonneg_left x3 (Int.le_of_lt hu.pos)
  have k1 := hK a (by omega)
  have k2 := hK b (by omega)
  have y1 : S.K a * 0 < S.K a * ((u (a + 1) - u a) - (v (a + 1) - v a)) := Int.mul_lt_mul_of_pos_left (by omega) k1
  have y2 : S.K b * ((u (b + 1) - u b) - (v (b + 1) - v b)) < S.K b * 0 := Int.mul_lt_mul_of_pos_left (by omega) k2
  simp only [gS, tnS, wq_K, wq_L, wq_q] at x1 x2
  grind
theorem rest_scale {S : Sy} {u : Nat → Int} {l : Int} (h : RestT S u l) (m : Int) (hm : 0 < m) : RestT S (fun p => m * u p) (m * l) := by
  have le : ∀ {a b : Int}, a ≤ b → m * a ≤ m * b := fun h => Int.mul_le_mul_of_nonneg_left h (Int.le_of_lt hm)
  have ltb : ∀ {a b : Int}, m * a < m * b → a < b := fun h => Int.lt_of_mul_lt_mul_left h (Int.le_of_lt hm)
  have eqb : ∀ {a b : Int}, m * a = m * b → a = b := fun h => Int.eq_of_mul_eq_mul_left (by omega) h
  have eg : ∀ k, gS S (fun p => m * u p) (m * l) k = m * gS S u l k := by
    intro k; simp only [gS, tnS]; grind
  have r1 : ∀ a, a * (m * l) = m * (a * l) := by intro a; grind
  refine ⟨⟨Int.mul_pos hm h.pos, ?_, ?_, ?_, ?_, ?_⟩, ?_, ?_⟩
  · simp only [h.z, Int.mul_zero]
  · simp only [h.w]; grind
  · intro p hp; simp only [r1]; exact le (h.lo p hp)
  · intro p hp; simp only [r1]; exact le (h.hi p hp)
  · intro p hp; exact le (h.mono p hp)
  · intro a b h1 h2 h3 h4 h5
    rw [eg, eg]
    exact le (h.left a b h1 h2 (eqb h3) (ltb h4) (fun p p1 p2 => ltb (by rw [← r1]; exact h5 p p1 p2)))
  · intro a b h1 h2 h3 h4 h5
    rw [eg, eg]
    exact le (h.right a b h1 h2 (eqb h3) (ltb h4) (fun p p1 p2 => ltb (by rw [← r1]; exact h5 p p1 p2)))
theorem rest_mono {S : Sy} {q' : Nat → Int} {u v : Nat → Int} {l m : Int} (hu : RestT S u l) (hv : RestT (S.wq q') v m)
    (hK : ∀ k, k ≤ S.n → 0 < S.K k) (hq : ∀ a b, a ≤ b → b ≤ S.n → preS S.q b - preS S.q a ≤ preS q' b - preS q' a) :
    ∀ p, p ≤ S.n + 1 → m * u p ≤ l * v p := by
  have h1 := rest_scale hu m hv.pos
  have h2 := rest_scale hv l hu.pos
  rw [Int.mul_comm l m] at h2
  exact rest_cmp h1 h2 hK hq
theorem rest_one {S : Sy} {u v : Nat → Int} {l m : Int} (hu : RestT S u l) (hv : RestT S v m)
    (hK : ∀ k, k ≤ S.n → 0 < S.K k) : ∀ p, p ≤ S.n + 1 → m * u p = l * v p := by
  intro p hp
  have h1 := rest_mono (q' := S.q) hu hv hK (fun _ _ _ _ => Int.le_refl _) p hp
  have h2 := rest_mono (q' := S.q) hv hu hK (fun _ _ _ _ => Int.le_refl _) p hp
  omega
def dt4 (a x : Nat → Rat) : Rat := a 0 * x 0 + a 1 * x 1 + a 2 * x 2 + a 3 * x 3
def bl4 (K x y : Nat → Rat) : Rat := K 0 * (x 0 * y 0) + K 1 * ((x 1 - x 0) * (y 1 - y 0)) + K 2 * ((x 2 - x 1) * (y 2 - y 1)) + K 3 * ((x 3 - x 2) * (y 3 - y 2)) + K 4 * (x 3 * y 3)
theorem rsq (a : Rat) : 0 ≤ a * a := by
  rcases Rat.le_total (a := 0) (b := a) with h | h
  · exact Rat.mul_nonneg h h
  · have : 0 ≤ (-a) * (-a) := Rat.mul_nonneg (by grind) (by grind)
    grind
theorem rdiv {a b : Rat} (h : b ≠ 0) : ∃ t, t * b = a := ⟨a / b, Rat.div_mul_cancel h⟩
theorem bl4_nn {K x : Nat → Rat} (hK : ∀ k, k ≤ 4 → 0 < K k) : 0 ≤ bl4 K x x := by
  have h0 := Rat.mul_nonneg (Rat.le_of_lt (hK 0 (by omega))) (rsq (x 0))
  have h1 := Rat.mul_nonneg (Rat.le_of_lt (hK 1 (by omega))) (rsq (x 1 - x 0))
  have h2 := Rat.mul_nonneg (Rat.le_of_lt (hK 2 (by omega))) (rsq (x 2 - x 1))
  have h3 := Rat.mul_nonneg (Rat.le_of_lt (hK 3 (by omega))) (rsq (x 3 - x 2))
  have h4 := Rat.mul_nonneg (Rat.le_of_lt (hK 4 (by omega))) (rsq (x 3))
  unfold bl4
  grind
theorem rsq0 {k a : Rat} (hk : 0 < k) (h : k * (a * a) ≤ 0) : a = 0 := by
  by_cases h0 : a = 0
  · exact h0
  · exfalso
    have : 0 < a * a := by
      rcases Classical.em (0 < a) with h1 | h1
      · exact Rat.mul_pos h1 h1
      · have h2 : 0 < -a := by grind
        have := Rat.mul_pos h2 h2
        grind
    have := Rat.mul_pos hk this
    grind
theorem bl4_0 {K x : Nat → Rat} (hK : ∀ k, k ≤ 4 → 0 < K k) (h : bl4 K x x = 0) : x 0 = 0 ∧ x 1 = 0 ∧ x 2 = 0 ∧ x 3 = 0 := by
  have h0 := Rat.mul_nonneg (Rat.le_of_lt (hK 0 (by omega))) (rsq (x 0))
  have h1 := Rat.mul_nonneg (Rat.le_of_lt (hK 1 (by omega))) (rsq (x 1 - x 0))
  have h2 := Rat.mul_nonneg (Rat.le_of_lt (hK 2 (by omega))) (rsq (x 2 - x 1))
  have h3 := Rat.mul_nonneg (Rat.le_of_lt (hK 3 (by omega))) (rsq (x 3 - x 2))
  have h4 := Rat.mul_nonneg (Rat.le_of_lt (hK 4 (by omega))) (rsq (x 3))
  unfold bl4 at h
  have e0 := rsq0 (hK 0 (by omega)) (a := x 0) (by grind)
  have e1 := rsq0 (hK 1 (by omega)) (a := x 1 - x 0) (by grind)
  have e2 := rsq0 (hK 2 (by omega)) (a := x 2 - x 1) (by grind)
  have e3 := rsq0 (hK 3 (by omega)) (a := x 3 - x 2) (by grind)
  refine ⟨e0, by grind, by grind, by grind⟩
/-- one step of the chain -/
theorem ch_step {d s l r : Rat} (hd : 0 < d) (hs : s ≤ d) (hl : 0 < l) (hr : 0 < r) : 0 < (l + r) * d - l * s ∧ r * d ≤ (l + r) * d - l * s := by
  have h1 := Rat.mul_pos hr hd
  have h2 : 0 ≤ l * (d - s) := Rat.mul_nonneg (Rat.le_of_lt hl) (by grind)
  constructor <;> grind
theorem solve4 {K : Nat → Rat} (hK : ∀ k, k ≤ 4 → 0 < K k) (g : Nat → Rat) : ∃ z : Nat → Rat, ∀ d, bl4 K z d = dt4 g d := by
  have k0 := hK 0 (by omega)
  have k1 := hK 1 (by omega)
  have k2 := hK 2 (by omega)
  have k3 := hK 3 (by omega)
  have k4 := hK 4 (by omega)
  obtain ⟨D0, hD0⟩ : ∃ t, t = K 0 + K 1 := ⟨_, rfl⟩
  have p0 : 0 < D0 := by grind
  have q0 : K 1 ≤ D0 := by grind
  obtain ⟨D1, hD1⟩ : ∃ t, t = (K 1 + K 2) * D0 - K 1 * K 1 := ⟨_, rfl⟩
  obtain ⟨p1, q1⟩ := ch_step p0 q0 k1 k2
  rw [← hD1] at p1 q1
  obtain ⟨D2, hD2⟩ : ∃ t, t = (K 2 + K 3) * D1 - K 2 * (K 2 * D0) := ⟨_, rfl⟩
  obtain ⟨p2, q2⟩ := ch_step p1 q1 k2 k3
  rw [← hD2] at p2 q2
  obtain ⟨D3, hD3⟩ : ∃ t, t = (K 3 + K 4) * D2 - K 3 * (K 3 * D1) := ⟨_, rfl⟩
  obtain ⟨p3, q3⟩ := ch_step p2 q2 k3 k4
  rw [← hD3] at p3 q3
  have ne : ∀ {a : Rat}, 0 < a → a ≠ 0 := by intro a h e; grind
  obtain ⟨z3, e3⟩ := rdiv (a := D2 * g 3 + K 3 * (D1 * g 2 + K 2 * (D0 * g 1 + K 1 * g 0))) (ne p3)
  obtain ⟨z2, e2⟩ := rdiv (a := D1 * g 2 + K 2 * (D0 * g 1 + K 1 * g 0) + K 3 * D1 * z3) (ne p2)
  obtain ⟨z1, e1⟩ := rdiv (a := D0 * g 1 + K 1 * g 0 + K 2 * D0 * z2) (ne p1)
  obtain ⟨z0, e0⟩ := rdiv (a := g 0 + K 1 * z1) (ne p0)
  have f0 : (K 0 + K 1) * z0 - K 1 * z1 = g 0 := by grind
  have f1 : (K 1 + K 2) * z1 - K 1 * z0 - K 2 * z2 = g 1 := by
    have : D0 * ((K 1 + K 2) * z1 - K 1 * z0 - K 2 * z2 - g 1) = 0 := by grind
    rcases Rat.mul_eq_zero.mp this with h | h
    · grind
    · grind
  have f2 : (K 2 + K 3) * z2 - K 2 * z1 - K 3 * z3 = g 2 := by
    have : D1 * ((K 2 + K 3) * z2 - K 2 * z1 - K 3 * z3 - g 2) = 0 := by grind
    rcases Rat.mul_eq_zero.mp this with h | h
    · grind
    · grind
  have f3 : (K 3 + K 4) * z3 - K 3 * z2 = g 3 := by
    have : D2 * ((K 3 + K 4) * z3 - K 3 * z2 - g 3) = 0 := by grind
    rcases Rat.mul_eq_zero.mp this with h | h
    · grind
    · grind
  refine ⟨fun i => match i with | 0 => z0 | 1 => z1 | 2 => z2 | _ => z3, fun d => ?_⟩
  simp only [bl4, dt4]
  rw [← f0, ← f1, ← f2, ← f3]
  grind

theorem dt4_lin (a x y : Nat → Rat) (t : Rat) : dt4 a (fun i => x i + t * y i) = dt4 a x + t * dt4 a y := by
  simp only [dt4]; grind
theorem bl4_lin (K x y d : Nat → Rat) (t : Rat) : bl4 K (fun i => x i + t * y i) d = bl4 K x d + t * bl4 K y d := by
  simp only [bl4]; grind
theorem bl4_lin2 (K x y d : Nat → Rat) (t : Rat) : bl4 K d (fun i => x i + t * y i) = bl4 K d x + t * bl4 K d y := by
  simp only [bl4]; grind
theorem eq_min {K : Nat → Rat} (hK : ∀ k, k ≤ 4 → 0 < K k) : ∀ (as : List (Nat → Rat)) (g x0 : Nat → Rat), ∃ z : Nat → Rat, (∀ a, a ∈ as → dt4 a z = dt4 a x0) ∧ ∀ d, (∀ a, a ∈ as → dt4 a d = 0) → bl4 K z d = dt4 g d := by
  intro as
  induction as with
  | nil =>
    intro g x0
    obtain ⟨z, hz⟩ := solve4 hK g
    exact ⟨z, fun a ha => absurd ha (List.not_mem_nil), fun d _ => hz d⟩
  | cons a as ih =>
    intro g x0
    obtain ⟨x, hx1, hx2⟩ := ih g x0
    obtain ⟨v, hv1, hv2⟩ := ih a (fun _ => 0)
    have hz : ∀ b : Nat → Rat, dt4 b (fun _ => 0) = 0 := by intro b; simp only [dt4]; grind
    by_cases h : dt4 a v = 0
    · have h1 := hv2 v (fun b hb => by rw [hv1 b hb]; exact hz b)
      obtain ⟨v0, v1, v2, v3⟩ := bl4_0 hK (h1.trans h)
      have h2 : ∀ d, (∀ b, b ∈ as → dt4 b d = 0) → dt4 a d = 0 := by
        intro d hd
        rw [← hv2 d hd]
        simp only [bl4, v0, v1, v2, v3]; grind
      refine ⟨x, ?_, ?_⟩
      · intro b hb
        rcases List.mem_cons.mp hb with rfl | hb
        · have := h2 (fun i => x i + (-1) * x0 i) (fun c hc => by rw [dt4_lin, hx1 c hc]; grind)
          rw [dt4_lin] at this
          grind
        · exact hx1 b hb
      · intro d hd
        exact hx2 d (fun b hb => hd b (List.mem_cons_of_mem _ hb))
    · obtain ⟨t, ht⟩ := rdiv (a := dt4 a x0 - dt4 a x) h
      refine ⟨fun i => x i + t * v i, ?_, ?_⟩
      · intro b hb
        rw [dt4_lin]
        rcases List.mem_cons.mp hb with rfl | hb
        · grind
        · rw [hx1 b hb, hv1 b hb, hz]; grind
      · intro d hd
        have hd' : ∀ b, b ∈ as → dt4 b d = 0 := fun b hb => hd b (List.mem_cons_of_mem _ hb)
        rw [bl4_lin, hx2 d hd', hv2 d hd', hd a List.mem_cons_self]; grind
/-- the row that is pushed nowhere, under equations and bounds -/
theorem vi_min {K : Nat → Rat} (hK : ∀ k, k ≤ 4 → 0 < K k) (g : Nat → Rat) : ∀ (cs : List ((Nat → Rat) × Rat)) (as : List (Nat → Rat)) (y0 : Nat → Rat), (∀ c, c ∈ cs → dt4 c.1 y0 ≤ c.2) → ∃ z : Nat → Rat, (∀ a, a ∈ as → dt4 a z = dt4 a y0) ∧ (∀ c, c ∈ cs → dt4 c.1 z ≤ c.2) ∧ ∀ y, (∀ a, a ∈ as → dt4 a y = dt4 a y0) → (∀ c, c ∈ cs → dt4 c.1 y ≤ c.2) → 0 ≤ bl4 K z (fun i => y i + (-1) * z i) - dt4 g (fun i => y i + (-1) * z i) := by
  intro cs
  induction cs with
  | nil =>
    intro as y0 _
    obtain ⟨z, h1, h2⟩ := eq_min hK as g y0
    refine ⟨z, h1, fun c hc => absurd hc (List.not_mem_nil), fun y hy _ => ?_⟩
    rw [h2 _ (fun a ha => by rw [dt4_lin, hy a ha, h1 a ha]; grind)]
    grind
  | cons c cs ih =>
    intro as y0 h0
    have h0' : ∀ b, b ∈ cs → dt4 b.1 y0 ≤ b.2 := fun b hb => h0 b (List.mem_cons_of_mem _ hb)
    have hc0 := h0 c List.mem_cons_self
    obtain ⟨x, x1, x2, x3⟩ := ih as y0 h0'
    by_cases hc : dt4 c.1 x ≤ c.2
    · refine ⟨x, x1, ?_, fun y hy hy2 => x3 y hy (fun b hb => hy2 b (List.mem_cons_of_mem _ hb))⟩
      intro b hb
      rcases List.mem_cons.mp hb with rfl | hb
      · exact hc
      · exact x2 b hb
    · have key : ∀ y, (∀ a, a ∈ as → dt4 a y = dt4 a y0) → (∀ b, b ∈ c :: cs → dt4 b.1 y ≤ b.2) → ∃ t : Rat, 0 ≤ t ∧ t < 1 ∧ dt4 c.1 (fun i => y i + t * (x i + (-1) * y i)) = c.2 ∧ (∀ a, a ∈ as → dt4 a (fun i => y i + t * (x i + (-1) * y i)) = dt4 a y0) ∧ (∀ b, b ∈ cs → dt4 b.1 (fun i => y i + t * (x i + (-1) * y i)) ≤ b.2) := by
        intro y hy hy2
        have l1 : ∀ (b : Nat → Rat) (t : Rat), dt4 b (fun i => y i + t * (x i + (-1) * y i)) = dt4 b y + t * (dt4 b x - dt4 b y) := by
          intro b t; simp only [dt4]; grind
        have hcy := hy2 c List.mem_cons_self
        have hp : 0 < dt4 c.1 x - dt4 c.1 y := by grind
        obtain ⟨t, ht⟩ := rdiv (a := c.2 - dt4 c.1 y) (b := dt4 c.1 x - dt4 c.1 y) (by intro e; grind)
        have t0 : 0 ≤ t := by
          by_cases q : 0 ≤ t
          · exact q
          · have := Rat.mul_pos (a := -t) (by grind) hp
            grind
        have t1 : t < 1 := by
          by_cases q : t < 1
          · exact q
          · have := Rat.mul_nonneg (a := t - 1) (by grind) (Rat.le_of_lt hp)
            grind
        refine ⟨t, t0, t1, ?_, ?_, ?_⟩
        · rw [l1]; grind
        · intro a ha; rw [l1, hy a ha, x1 a ha]; grind
        · intro b hb
          rw [l1]
          have u1 := hy2 b (List.mem_cons_of_mem _ hb)
          have u2 := x2 b hb
          have u3 := Rat.mul_nonneg t0 (b := b.2 - dt4 b.1 x) (by grind)
          have u4 := Rat.mul_nonneg (a := 1 - t) (b := b.2 - dt4 b.1 y) (by grind) (by grind)
          grind
      obtain ⟨t0, _, _, w1, w2, w3⟩ := key y0 (fun _ _ => rfl) h0
      obtain ⟨z, z1, z2, z3⟩ := ih (c.1 :: as) (fun i => y0 i + t0 * (x i + (-1) * y0 i)) w3
      have zc := z1 c.1 List.mem_cons_self
      rw [w1] at zc
      have za : ∀ a, a ∈ as → dt4 a z = dt4 a y0 := fun a ha => (z1 a (List.mem_cons_of_mem _ ha)).trans (w2 a ha)
      refine ⟨z, za, ?_, ?_⟩
      · intro b hb
        rcases List.mem_cons.mp hb with rfl | hb
        · rw [zc]; exact Rat.le_refl
        · exact z2 b hb
      · intro y hy hy2
        obtain ⟨t, t0, t1, v1, v2, v3⟩ := key y hy hy2
        have m1 := z3 (fun i => y i + t * (x i + (-1) * y i)) (fun a ha => by
          rcases List.mem_cons.mp ha with rfl | ha
          · rw [v1, w1]
          · rw [v2 a ha, w2 a ha]) v3
        have m2 := x3 z za z2
        have m3 := bl4_nn (x := fun i => x i + (-1) * z i) hK
        have m4 : 0 ≤ (1 - t) * (bl4 K z (fun i => y i + (-1) * z i) - dt4 g (fun i => y i + (-1) * z i)) := by
          have e1 : bl4 K z (fun i => (y i + t * (x i + (-1) * y i)) + (-1) * z i) = (1 - t) * bl4 K z (fun i => y i + (-1) * z i) + t * bl4 K z (fun i => x i + (-1) * z i) := by
            simp only [bl4]; grind
          have e2 : dt4 g (fun i => (y i + t * (x i + (-1) * y i)) + (-1) * z i) = (1 - t) * dt4 g (fun i => y i + (-1) * z i) + t * dt4 g (fun i => x i + (-1) * z i) := by
            simp only [dt4]; grind
          have e3 : bl4 K x (fun i => z i + (-1) * x i) = - bl4 K x (fun i => x i + (-1) * z i) := by
            simp only [bl4]; grind
          have e4 : dt4 g (fun i => z i + (-1) * x i) = - dt4 g (fun i => x i + (-1) * z i) := by
            simp only [dt4]; grind
          have e5 : bl4 K (fun i => x i + (-1) * z i) (fun i => x i + (-1) * z i) = bl4 K x (fun i => x i + (-1) * z i) - bl4 K z (fun i => x i + (-1) * z i) := by
            simp only [bl4]; grind
          have m5 : 0 ≤ t * (dt4 g (fun i => x i + (-1) * z i) - bl4 K z (fun i => x i + (-1) * z i)) - t * (dt4 g (fun i => x i + (-1) * z i) - bl4 K x (fun i => x i + (-1) * z i)) := by
            have := Rat.mul_nonneg t0 m3
            rw [e5] at this
            grind
          have m6 : 0 ≤ t * (dt4 g (fun i => x i + (-1) * z i) - bl4 K x (fun i => x i + (-1) * z i)) := Rat.mul_nonneg t0 (by grind)
          have m7 : 0 ≤ t * (-(bl4 K z (fun i => x i + (-1) * z i) - dt4 g (fun i => x i + (-1) * z i))) := by grind
          grind
        by_cases q : 0 ≤ bl4 K z (fun i => y i + (-1) * z i) - dt4 g (fun i => y i + (-1) * z i)
        · exact q
        · have := Rat.mul_pos (a := 1 - t) (b := -(bl4 K z (fun i => y i + (-1) * z i) - dt4 g (fun i => y i + (-1) * z i))) (by grind) (by grind)
          grind
def lowC (p : Nat) (v : Rat) : (Nat → Rat) × Rat := (fun i => if i = p then -1 else 0, -v)
def upC (p : Nat) (v : Rat) : (Nat → Rat) × Rat := (fun i => if i = p then 1 else 0, v)
def moC (p : Nat) : (Nat → Rat) × Rat := (fun i => if i = p then 1 else if i = p + 1 then -1 else 0, 0)
def allC (lo hi : Nat → Rat) : List ((Nat → Rat) × Rat) := [lowC 0 (lo 0), lowC 1 (lo 1), lowC 2 (lo 2), lowC 3 (lo 3), upC 0 (hi 0), upC 1 (hi 1), upC 2 (hi 2), upC 3 (hi 3), moC 0, moC 1, moC 2]
theorem allC_iff (lo hi x : Nat → Rat) : (∀ c, c ∈ allC lo hi → dt4 c.1 x ≤ c.2) ↔ (∀ p, p < 4 → lo p ≤ x p ∧ x p ≤ hi p) ∧ (∀ p, p < 3 → x p ≤ x (p + 1)) := by
  simp only [allC, List.mem_cons, List.not_mem_nil, or_false, forall_eq_or_imp, forall_eq]
  simp only [lowC, upC, moC, dt4]
  simp
  constructor
  · intro h
    refine ⟨fun p hp => ?_, fun p hp => ?_⟩
    · rcases (show p = 0 ∨ p = 1 ∨ p = 2 ∨ p = 3 by omega) with rfl | rfl | rfl | rfl <;> grind
    · rcases (show p = 0 ∨ p = 1 ∨ p = 2 by omega) with rfl | rfl | rfl <;> grind
  · intro h
    have a0 := h.1 0 (by omega)
    have a1 := h.1 1 (by omega)
    have a2 := h.1 2 (by omega)
    have a3 := h.1 3 (by omega)
    have b0 := h.2 0 (by omega)
    have b1 := h.2 1 (by omega)
    have b2 := h.2 2 (by omega)
    grind
def xR (z : Nat → Rat) (W : Rat) : Nat → Rat
  | 0 => 0
  | 1 => z 0
  | 2 => z 1
  | 3 => z 2
  | 4 => z 3
  | _ => W
def gR (K L Q : Nat → Rat) (X : Nat → Rat) (k : Nat) : Rat := K k * (X (k + 1) - X k - L k) + Q k
theorem eps_ex (f : Nat → Rat) (a : Nat) : ∀ b, (∀ p, a ≤ p → p < b → 0 < f p) → ∃ e : Rat, 0 < e ∧ ∀ p, a ≤ p → p < b → e ≤ f p := by
  intro b
  induction b with
  | zero => intro _; exact ⟨1, by decide, fun p h1 h2 => absurd h2 (by omega)⟩
  | succ b ih =>
    intro h
    obtain ⟨e, e1, e2⟩ := ih (fun p h1 h2 => h p h1 (by omega))
    by_cases hb : a ≤ b
    · have := h b hb (by omega)
      by_cases q : e ≤ f b
      · exact ⟨e, e1, fun p h1 h2 => by
          rcases Nat.eq_or_lt_of_le (Nat.le_of_lt_succ h2) with rfl | h3
          · exact q
          · exact e2 p h1 h3⟩
      · exact ⟨f b, this, fun p h1 h2 => by
          rcases Nat.eq_or_lt_of_le (Nat.le_of_lt_succ h2) with rfl | h3
          · exact Rat.le_refl
          · have := e2 p h1 h3; grind⟩
    · exact ⟨e, e1, fun p h1 h2 => absurd h1 (by omega)⟩
theorem le_tr {a b : Rat} (h : 0 ≤ a) (e : a = b) : 0 ≤ b := e ▸ h
theorem vi_rest {K L Q lo hi : Nat → Rat} {W : Rat} (hK : ∀ k, k ≤ 4 → 0 < K k) (hlo : ∀ p, p < 4 → 0 ≤ lo p) (hhi : ∀ p, p < 4 → hi p ≤ W)
    (y0 : Nat → Rat) (h1 : ∀ p, p < 4 → lo p ≤ y0 p ∧ y0 p ≤ hi p) (h2 : ∀ p, p < 3 → y0 p ≤ y0 (p + 1)) :
    ∃ z : Nat → Rat, (∀ p, p < 4 → lo p ≤ z p ∧ z p ≤ hi p) ∧ (∀ p, p < 3 → z p ≤ z (p + 1)) ∧
      (∀ a b, a < b → b ≤ 4 → xR z W a < xR z W (a + 1) → (∀ p, a ≤ p → p < b → lo p < z p) → gR K L Q (xR z W) a ≤ gR K L Q (xR z W) b) ∧
      (∀ a b, a < b → b ≤ 4 → xR z W b < xR z W (b + 1) → (∀ p, a ≤ p → p < b → z p < hi p) → gR K L Q (xR z W) b ≤ gR K L Q (xR z W) a) := by
  obtain ⟨g, hg⟩ : ∃ g : Nat → Rat, g = fun p => K p * L p - K (p + 1) * L (p + 1) + (Q (p + 1) - Q p) + (if p = 3 then K 4 * W else 0) := ⟨_, rfl⟩
  have g0 : g 0 = K 0 * L 0 - K 1 * L 1 + (Q 1 - Q 0) := by rw [hg]; simp; grind
  have g1 : g 1 = K 1 * L 1 - K 2 * L 2 + (Q 2 - Q 1) := by rw [hg]; simp; grind
  have g2 : g 2 = K 2 * L 2 - K 3 * L 3 + (Q 3 - Q 2) := by rw [hg]; simp; grind
  have g3 : g 3 = K 3 * L 3 - K 4 * L 4 + (Q 4 - Q 3) + K 4 * W := by rw [hg]; simp
  clear hg
  obtain ⟨z, -, z2, z3⟩ := vi_min hK g (allC lo hi) [] y0 ((allC_iff lo hi y0).mpr ⟨h1, h2⟩)
  obtain ⟨z4, z5⟩ := (allC_iff lo hi z).mp z2
  have zlo : ∀ p, p < 4 → 0 ≤ z p := fun p hp => Rat.le_trans (hlo p hp) (z4 p hp).1
  have zhi : ∀ p, p < 4 → z p ≤ W := fun p hp => Rat.le_trans (z4 p hp).2 (hhi p hp)
  have vi : ∀ y : Nat → Rat, (∀ p, p < 4 → lo p ≤ y p ∧ y p ≤ hi p) → (∀ p, p < 3 → y p ≤ y (p + 1)) → 0 ≤ bl4 K z (fun i => y i + (-1) * z i) - dt4 g (fun i => y i + (-1) * z i) :=
    fun y q1 q2 => z3 y (fun a ha => absurd ha (List.not_mem_nil)) ((allC_iff lo hi y).mpr ⟨q1, q2⟩)
  refine ⟨z, z4, z5, ?_, ?_⟩
  · intro a b hab hb hx hp
    obtain ⟨e1, p1, p2⟩ := eps_ex (fun p => z p - lo p) a b (fun p q1 q2 => by have := hp p q1 q2; grind)
    obtain ⟨e, p3, p4, p5⟩ : ∃ e : Rat, 0 < e ∧ e ≤ e1 ∧ e ≤ xR z W (a + 1) - xR z W a := by
      by_cases q : e1 ≤ xR z W (a + 1) - xR z W a
      · exact ⟨e1, p1, Rat.le_refl, q⟩
      · exact ⟨xR z W (a + 1) - xR z W a, by grind, by grind, Rat.le_refl⟩
    have v := vi (fun i => z i + (if a ≤ i ∧ i < b then -e else 0)) (by
      intro p hp4
      have := z4 p hp4
      by_cases q : a ≤ p ∧ p < b
      · simp only [if_pos q]
        have := p2 p q.1 q.2
        grind
      · simp only [if_neg q]; grind) (by
      intro p hp3
      have := z5 p hp3
      by_cases q : a ≤ p ∧ p < b
      · simp only [if_pos q]
        by_cases q2 : a ≤ p + 1 ∧ p + 1 < b
        · simp only [if_pos q2]; grind
        · simp only [if_neg q2]; grind
      · simp only [if_neg q]
        by_cases q2 : a ≤ p + 1 ∧ p + 1 < b
        · simp only [if_pos q2]
          have ea : a = p + 1 := by omega
          subst ea
          rcases (show p = 0 ∨ p = 1 ∨ p = 2 by omega) with rfl | rfl | rfl <;> simp only [xR] at p5 <;> grind
        · simp only [if_neg q2]; grind)
    have key : 0 ≤ e * (gR K L Q (xR z W) b - gR K L Q (xR z W) a) := by
      rcases (show (a = 0 ∧ b = 1) ∨ (a = 0 ∧ b = 2) ∨ (a = 0 ∧ b = 3) ∨ (a = 0 ∧ b = 4) ∨ (a = 1 ∧ b = 2) ∨ (a = 1 ∧ b = 3) ∨ (a = 1 ∧ b = 4) ∨ (a = 2 ∧ b = 3) ∨ (a = 2 ∧ b = 4) ∨ (a = 3 ∧ b = 4) by omega) with ⟨rfl, rfl⟩ | ⟨rfl, rfl⟩ | ⟨rfl, rfl⟩ | ⟨rfl, rfl⟩ | ⟨rfl, rfl⟩ | ⟨rfl, rfl⟩ | ⟨rfl, rfl⟩ | ⟨rfl, rfl⟩ | ⟨rfl, rfl⟩ | ⟨rfl, rfl⟩ <;>
        simp [bl4, dt4] at v <;> rw [g0, g1, g2, g3] at v <;> simp only [gR, xR] <;> refine le_tr v ?_ <;> clear z2 z3 vi p2 hp v z4 z5 zlo zhi hx p5 g0 g1 g2 g3 h1 h2 hlo hhi hK <;> grind
    by_cases q : gR K L Q (xR z W) a ≤ gR K L Q (xR z W) b
    · exact q
    · have := Rat.mul_pos p3 (b := gR K L Q (xR z W) a - gR K L Q (xR z W) b) (by grind)
      grind
  · intro a b hab hb hx hp
    obtain ⟨e1, p1, p2⟩ := eps_ex (fun p => hi p - z p) a b (fun p q1 q2 => by have := hp p q1 q2; grind)
    obtain ⟨e, p3, p4, p5⟩ : ∃ e : Rat, 0 < e ∧ e ≤ e1 ∧ e ≤ xR z W (b + 1) - xR z W b := by
      by_cases q : e1 ≤ xR z W (b + 1) - xR z W b
      · exact ⟨e1, p1, Rat.le_refl, q⟩
      · exact ⟨xR z W (b + 1) - xR z W b, by grind, by grind, Rat.le_refl⟩
    have v := vi (fun i => z i + (if a ≤ i ∧ i < b then e else 0)) (by
      intro p hp4
      have := z4 p hp4
      by_cases q : a ≤ p ∧ p < b
      · simp only [if_pos q]
        have := p2 p q.1 q.2
        grind
      · simp only [if_neg q]; grind) (by
      intro p hp3
      have := z5 p hp3
      by_cases q : a ≤ p ∧ p < b
      · simp only [if_pos q]
        by_cases q2 : a ≤ p + 1 ∧ p + 1 < b
        · simp only [if_pos q2]; grind
        · simp only [if_neg q2]
          have eb : b = p + 1 := by omega
          subst eb
          rcases (show p = 0 ∨ p = 1 ∨ p = 2 by omega) with rfl | rfl | rfl <;> simp only [xR] at p5 <;> grind
      · simp only [if_neg q]
        by_cases q2 : a ≤ p + 1 ∧ p + 1 < b
        · simp only [if_pos q2]; grind
        · simp only [if_neg q2]; grind)
    have key : 0 ≤ e * (gR K L Q (xR z W) a - gR K L Q (xR z W) b) := by
      rcases (show (a = 0 ∧ b = 1) ∨ (a = 0 ∧ b = 2) ∨ (a = 0 ∧ b = 3) ∨ (a = 0 ∧ b = 4) ∨ (a = 1 ∧ b = 2) ∨ (a = 1 ∧ b = 3) ∨ (a = 1 ∧ b = 4) ∨ (a = 2 ∧ b = 3) ∨ (a = 2 ∧ b = 4) ∨ (a = 3 ∧ b = 4) by omega) with ⟨rfl, rfl⟩ | ⟨rfl, rfl⟩ | ⟨rfl, rfl⟩ | ⟨rfl, rfl⟩ | ⟨rfl, rfl⟩ | ⟨rfl, rfl⟩ | ⟨rfl, rfl⟩ | ⟨rfl, rfl⟩ | ⟨rfl, rfl⟩ | ⟨rfl, rfl⟩ <;>
        simp [bl4, dt4] at v <;> rw [g0, g1, g2, g3] at v <;> simp only [gR, xR] <;> refine le_tr v ?_ <;> clear z2 z3 vi p2 hp v z4 z5 zlo zhi hx p5 g0 g1 g2 g3 h1 h2 hlo hhi hK <;> grind
    by_cases q : gR K L Q (xR z W) b ≤ gR K L Q (xR z W) a
    · exact q
    · have := Rat.mul_pos p3 (b := gR K L Q (xR z W) b - gR K L Q (xR z W) a) (by grind)
      grind
theorem rden (z : Rat) : ∃ m v : Int, 0 < m ∧ (v : Rat) = z * (m : Rat) := by
  refine ⟨z.den, z.num, by have := z.den_pos; omega, ?_⟩
  have h := Rat.num_divInt_den z
  rw [Rat.divInt_eq_div] at h
  have h2 : ((z.den : Int) : Rat) ≠ 0 := by
    intro e
    have := Rat.intCast_inj.mp (e.trans (by rfl : (0 : Rat) = ((0 : Int) : Rat)))
    have := z.den_pos
    omega
  have h3 := Rat.div_mul_cancel (a := (z.num : Rat)) h2
  rw [h] at h3
  exact h3.symm
theorem rden4 (z : Nat → Rat) : ∃ (l : Int) (u : Nat → Int), 0 < l ∧ ∀ p, p < 4 → (u p : Rat) = z p * (l : Rat) := by
  obtain ⟨m0, v0, a0, b0⟩ := rden (z 0)
  obtain ⟨m1, v1, a1, b1⟩ := rden (z 1)
  obtain ⟨m2, v2, a2, b2⟩ := rden (z 2)
  obtain ⟨m3, v3, a3, b3⟩ := rden (z 3)
  refine ⟨m0 * m1 * m2 * m3, fun p => match p with | 0 => v0 * m1 * m2 * m3 | 1 => v1 * m0 * m2 * m3 | 2 => v2 * m0 * m1 * m3 | _ => v3 * m0 * m1 * m2, Int.mul_pos (Int.mul_pos (Int.mul_pos a0 a1) a2) a3, ?_⟩
  intro p hp
  rcases (show p = 0 ∨ p = 1 ∨ p = 2 ∨ p = 3 by omega) with rfl | rfl | rfl | rfl <;> simp only [Rat.intCast_mul] <;> grind
def uOf (u : Nat → Int) (w : Int) : Nat → Int
  | 0 => 0
  | 1 => u 0
  | 2 => u 1
  | 3 => u 2
  | 4 => u 3
  | _ => w
theorem rest_ex (S : Sy) (hn : S.n ≤ 4) (hK : ∀ k, k ≤ S.n → 0 < S.K k) (hlo : ∀ p, p < S.n → 0 ≤ S.lo p) (hhi : ∀ p, p < S.n → S.hi p ≤ S.W) (hW : 0 ≤ S.W)
    (r : Nat → Int) (h1 : ∀ p, p < S.n → S.lo p ≤ r p ∧ r p ≤ S.hi p) (h2 : ∀ p, p + 1 < S.n → r p ≤ r (p + 1)) : ∃ u l, RestT S u l := by
  have ci : ∀ {a b : Int}, a ≤ b → (a : Rat) ≤ (b : Rat) := fun h => Rat.intCast_le_intCast.mpr h
  obtain ⟨K, hKd⟩ : ∃ K : Nat → Rat, K = fun k => if k ≤ S.n then (S.K k : Rat) else 1 := ⟨_, rfl⟩
  obtain ⟨lo, hlod⟩ : ∃ lo : Nat → Rat, lo = fun p => if p < S.n then (S.lo p : Rat) else (S.W : Rat) := ⟨_, rfl⟩
  obtain ⟨hi, hhid⟩ : ∃ hi : Nat → Rat, hi = fun p => if p < S.n then (S.hi p : Rat) else (S.W : Rat) := ⟨_, rfl⟩
  have lo1 : ∀ p, p < S.n → lo p = (S.lo p : Rat) := fun p hp => by rw [hlod]; exact if_pos hp
  have hi1 : ∀ p, p < S.n → hi p = (S.hi p : Rat) := fun p hp => by rw [hhid]; exact if_pos hp
  have lo2 : ∀ p, ¬ p < S.n → lo p = (S.W : Rat) := fun p hp => by rw [hlod]; exact if_neg hp
  have hi2 : ∀ p, ¬ p < S.n → hi p = (S.W : Rat) := fun p hp => by rw [hhid]; exact if_neg hp
  have K1 : ∀ p, p ≤ S.n → K p = (S.K p : Rat) := fun p hp => by rw [hKd]; exact if_pos hp
  have K2 : ∀ p, ¬ p ≤ S.n → K p = 1 := fun p hp => by rw [hKd]; exact if_neg hp
  clear hlod hhid hKd
  have c0 : (0 : Rat) = ((0 : Int) : Rat) := rfl
  have W0 : (0 : Rat) ≤ (S.W : Rat) := by rw [c0]; exact ci hW
  obtain ⟨z, z1, z2, z3, z4⟩ := vi_rest (K := K) (L := fun k => (S.L k : Rat)) (Q := fun k => (preS S.q k : Rat)) (lo := lo) (hi := hi) (W := (S.W : Rat))
    (by
      intro k _
      by_cases h : k ≤ S.n
      · rw [K1 k h, c0]; exact Rat.intCast_lt_intCast.mpr (hK k h)
      · rw [K2 k h]; decide)
    (by
      intro p _
      by_cases h : p < S.n
      · rw [lo1 p h, c0]; exact ci (hlo p h)
      · rw [lo2 p h]; exact W0)
    (by
      intro p _
      by_cases h : p < S.n
      · rw [hi1 p h]; exact ci (hhi p h)
      · rw [hi2 p h]; exact Rat.le_refl)
    (fun p => if p < S.n then (r p : Rat) else (S.W : Rat))
    (by
      intro p _
      by_cases h : p < S.n
      · simp only [if_pos h]; rw [lo1 p h, hi1 p h]; exact ⟨ci (h1 p h).1, ci (h1 p h).2⟩
      · simp only [if_neg h]; rw [lo2 p h, hi2 p h]; exact ⟨Rat.le_refl, Rat.le_refl⟩)
    (by
      intro p _
      by_cases h : p + 1 < S.n
      · have h' : p < S.n := by omega
        simp only [if_pos h, if_pos h']; exact ci (h2 p h)
      · simp only [if_neg h]
        by_cases h' : p < S.n
        · simp only [if_pos h']; exact ci (Int.le_trans (h1 p h').2 (hhi p h'))
        · simp only [if_neg h']; exact Rat.le_refl)
  obtain ⟨l, u, l0, hu⟩ := rden4 z
  have l0' : (0 : Rat) < (l : Rat) := by rw [c0]; exact Rat.intCast_lt_intCast.mpr l0
  have xz : ∀ p, p < 4 → xR z (S.W : Rat) (p + 1) = z p := by
    intro p hp
    rcases (show p = 0 ∨ p = 1 ∨ p = 2 ∨ p = 3 by omega) with rfl | rfl | rfl | rfl <;> rfl
  have xn : xR z (S.W : Rat) (S.n + 1) = (S.W : Rat) := by
    rcases Nat.lt_or_ge S.n 4 with h | h
    · rw [xz S.n h]
      have := z1 S.n h
      rw [lo2 _ (Nat.lt_irrefl _), hi2 _ (Nat.lt_irrefl _)] at this
      exact Rat.le_antisymm this.2 this.1
    · rw [show S.n = 4 by omega]; rfl
  have uz : ∀ k, k ≤ 5 → (uOf u (S.W * l) k : Rat) = xR z (S.W : Rat) k * (l : Rat) := by
    intro k hk
    rcases (show k = 0 ∨ k = 1 ∨ k = 2 ∨ k = 3 ∨ k = 4 ∨ k = 5 by omega) with rfl | rfl | rfl | rfl | rfl | rfl
    · show ((0 : Int) : Rat) = 0 * (l : Rat)
      rw [Rat.zero_mul]; rfl
    · exact hu 0 (by omega)
    · exact hu 1 (by omega)
    · exact hu 2 (by omega)
    · exact hu 3 (by omega)
    · show ((S.W * l : Int) : Rat) = _
      rw [Rat.intCast_mul]; rfl
  have ul : ∀ p, p < S.n → (uOf u (S.W * l) (p + 1) : Rat) = z p * (l : Rat) := fun p hp => by rw [uz _ (by omega), xz _ (by omega)]
  have gz : ∀ k, k ≤ S.n → (gS S (uOf u (S.W * l)) l k : Rat) = (gR K (fun k => (S.L k : Rat)) (fun k => (preS S.q k : Rat)) (xR z (S.W : Rat)) k) * (l : Rat) := by
    intro k hk
    simp only [gS, tnS, gR, Rat.intCast_mul, Rat.intCast_add, Rat.intCast_sub]
    rw [uz k (by omega), uz (k + 1) (by omega), K1 k hk]
    grind
  have back_le : ∀ {a b : Int} {x y : Rat}, (a : Rat) = x * (l : Rat) → (b : Rat) = y * (l : Rat) → x ≤ y → a ≤ b := by
    intro a b x y e1 e2 h
    rw [← Rat.intCast_le_intCast, e1, e2]
    exact Rat.mul_le_mul_of_nonneg_right h (Rat.le_of_lt l0')
  have fw_lt : ∀ {a b : Int} {x y : Rat}, (a : Rat) = x * (l : Rat) → (b : Rat) = y * (l : Rat) → a < b → x < y := by
    intro a b x y e1 e2 h
    rw [← Rat.intCast_lt_intCast, e1, e2] at h
    exact Rat.lt_of_mul_lt_mul_right h (Rat.le_of_lt l0')
  have cm : ∀ a : Int, ((a * l : Int) : Rat) = (a : Rat) * (l : Rat) := fun a => Rat.intCast_mul a l
  refine ⟨uOf u (S.W * l), l, ⟨l0, rfl, ?_, ?_, ?_, ?_⟩, ?_, ?_⟩
  · rw [← Rat.intCast_inj, uz _ (by omega), xn, cm]
  · intro p hp
    exact back_le (cm _) (ul p hp) (by rw [← lo1 p hp]; exact (z1 p (by omega)).1)
  · intro p hp
    exact back_le (ul p hp) (cm _) (by rw [← hi1 p hp]; exact (z1 p (by omega)).2)
  · intro p hp
    refine back_le (uz p (by omega)) (uz (p + 1) (by omega)) ?_
    rcases Nat.eq_or_lt_of_le hp with rfl | hp
    · rw [xn]
      rcases Nat.eq_zero_or_pos S.n with e | e
      · rw [e]; exact W0
      · obtain ⟨m, hm⟩ : ∃ m, S.n = m + 1 := ⟨S.n - 1, by omega⟩
        rw [hm, xz m (by omega)]
        refine Rat.le_trans (z1 m (by omega)).2 ?_
        rw [hi1 m (by omega)]
        exact ci (hhi m (by omega))
    · rw [xz p (by omega)]
      rcases Nat.eq_zero_or_pos p with rfl | e
      · refine Rat.le_trans ?_ (z1 0 (by omega)).1
        rw [lo1 0 hp]
        show (0 : Rat) ≤ _
        rw [c0]; exact ci (hlo 0 hp)
      · obtain ⟨m, rfl⟩ : ∃ m, p = m + 1 := ⟨p - 1, by omega⟩
        rw [xz m (by omega)]
        exact z2 m (by omega)
  · intro a b hab hb _ hx hp
    refine back_le (gz a (by omega)) (gz b (by omega)) (z3 a b hab (by omega) (fw_lt (uz a (by omega)) (uz (a + 1) (by omega)) hx) (fun p p1 p2 => ?_))
    rw [lo1 p (by omega)]
    exact fw_lt (cm _) (ul p (by omega)) (hp p p1 p2)
  · intro a b hab hb _ hx hp
    refine back_le (gz b (by omega)) (gz a (by omega)) (z4 a b hab (by omega) (fw_lt (uz b (by omega)) (uz (b + 1) (by omega)) hx) (fun p p1 p2 => ?_))
    rw [hi1 p (by omega)]
    exact fw_lt (ul p (by omega)) (cm _) (hp p p1 p2)
