/-! which fraction is more -/
theorem nL_divN {a b : Nat} (ha : inL a) (hb : inL b) : nL a / nL b = nL ((a / b : Nat) : Int) := by
  rw [nL_div ha hb, Int.tdiv_eq_ediv_of_nonneg (by omega)]
  congr 1
theorem inL_div {p q : Nat} (h : inL p) : inL ((p / q : Nat) : Int) := by
  have := Nat.div_le_self p q
  generalize p / q = z at *
  obtain ⟨h1, h2⟩ := h
  exact ⟨by omega, by omega⟩
def moreV (x : Int32) (p q r t : Nat) : Int32 := if x = 0 then (if r * q < p * t then 1 else 0) else (if p * t < r * q then 1 else 0)
theorem div_lt_cross {p q r t : Nat} (hq : 0 < q) (ht : 0 < t) (h : p / q < r / t) : p * t < r * q := by
  have h1 : p < (p / q + 1) * q := by
    have := Nat.div_add_mod p q; have := Nat.mod_lt p hq
    rw [Nat.add_mul, Nat.one_mul, Nat.mul_comm]; omega
  have h2 : (r / t) * t ≤ r := Nat.div_mul_le_self r t
  have h3 : p * t < (p / q + 1) * q * t := Nat.mul_lt_mul_of_pos_right h1 ht
  have h4 : (p / q + 1) * q * t ≤ (r / t) * q * t := Nat.mul_le_mul_right _ (Nat.mul_le_mul_right _ h)
  have h5 : (r / t) * q * t = (r / t) * t * q := by rw [Nat.mul_assoc, Nat.mul_comm q t, ← Nat.mul_assoc]
  have h6 : (r / t) * t * q ≤ r * q := Nat.mul_le_mul_right _ h2
  omega
theorem im188 (x m l : Int32) (hm : m = 0 ∨ m = 1) (hl : l = 0 ∨ l = 1) : fX4_isMore_188 x m l = some (if x = 0 then m else l) := by
  unfold fX4_isMore_188
  by_cases q : x = 0
  · rw [if_pos q, if_pos q]; rcases hm with rfl | rfl <;> rfl
  · rw [if_neg q, if_neg q]; rcases hl with rfl | rfl <;> rfl
theorem im90 {p q r t : Nat} (hp : inL p) (hq : inL q) (hr : inL r) (ht : inL t) (x : Int32) (p0 : q = 0 → 0 < p) (r0 : t = 0 → 0 < r) (hex : 0 < q → 0 < t → p / q ≠ r / t) : fX4_isMore_90 (nL p) (nL q) (nL r) (nL t) x = some (moreV x p q r t) := by
  have ipq : inL ((p / q : Nat) : Int) := inL_div hp
  have irt : inL ((r / t : Nat) : Int) := inL_div hr
  have less : ∀ m : Int32, (m = 0 ∨ m = 1) → fX4_isMore_138 (nL p) (nL q) (nL r) (nL t) x m = some (if x = 0 then m else (if p * t < r * q then 1 else 0)) := by
    intro m hm
    unfold fX4_isMore_138 fX4_isMore_187
    by_cases t0 : t = 0
    · subst t0
      rw [if_pos (show lg_cmp (nL ((0 : Nat) : Int)) 0 = 0 from (cmp_e0 inL_0 inL_0).mpr rfl)]
      by_cases q0 : q = 0
      · subst q0
        rw [if_pos (show lg_cmp (nL ((0 : Nat) : Int)) 0 ≤ 0 from (cmp_le0 inL_0 inL_0).mpr (Int.le_refl _)), im188 x m 0 hm (Or.inl rfl), if_neg (show ¬ p * 0 < r * 0 by simp)]
      · have : 0 < r * q := Nat.mul_pos (r0 rfl) (by omega)
        rw [if_neg (show ¬ lg_cmp (nL (q : Int)) 0 ≤ 0 from fun z => by have := (cmp_le0 hq inL_0).mp z; omega), im188 x m 1 hm (Or.inr rfl), Nat.mul_zero, if_pos this]
    · rw [if_neg (show ¬ lg_cmp (nL (t : Int)) 0 = 0 from fun z => by have := (cmp_e0 ht inL_0).mp z; omega)]
      by_cases q0 : q = 0
      · subst q0
        rw [if_pos (show lg_cmp (nL ((0 : Nat) : Int)) 0 ≤ 0 from (cmp_le0 inL_0 inL_0).mpr (Int.le_refl _)), im188 x m 0 hm (Or.inl rfl), if_neg (show ¬ p * t < r * 0 by simp)]
      · rw [if_neg (show ¬ lg_cmp (nL (q : Int)) 0 ≤ 0 from fun z => by have := (cmp_le0 hq inL_0).mp z; omega), if_neg (show ¬ nL (q : Int) = 0 from fun z => by have := (nL_eq hq inL_0).mp z; omega), if_neg (show ¬ nL (t : Int) = 0 from fun z => by have := (nL_eq ht inL_0).mp z; omega), nL_divN hp hq, nL_divN hr ht]
        by_cases c : p / q < r / t
        · have := div_lt_cross (show 0 < q by omega) (show 0 < t by omega) c
          rw [if_neg (show ¬ 0 ≤ lg_cmp (nL ((p / q : Nat) : Int)) (nL ((r / t : Nat) : Int)) from fun z => by have := (cmp_ge0 ipq irt).mp z; omega), im188 x m 1 hm (Or.inr rfl), if_pos this]
        · have hne := hex (by omega) (by omega)
          have := div_lt_cross (show 0 < t by omega) (show 0 < q by omega) (show r / t < p / q by omega)
          rw [if_pos (show 0 ≤ lg_cmp (nL ((p / q : Nat) : Int)) (nL ((r / t : Nat) : Int)) from (cmp_ge0 ipq irt).mpr (by omega)), im188 x m 0 hm (Or.inl rfl), if_neg (show ¬ p * t < r * q by omega)]
  unfold fX4_isMore_90 fX4_isMore_137 moreV
  by_cases q0 : q = 0
  · subst q0
    rw [if_pos (show lg_cmp (nL ((0 : Nat) : Int)) 0 = 0 from (cmp_e0 inL_0 inL_0).mpr rfl)]
    by_cases t0 : t = 0
    · subst t0
      rw [if_pos (show lg_cmp (nL ((0 : Nat) : Int)) 0 ≤ 0 from (cmp_le0 inL_0 inL_0).mpr (Int.le_refl _)), less 0 (Or.inl rfl), if_neg (show ¬ r * 0 < p * 0 by simp)]
    · have : 0 < p * t := Nat.mul_pos (p0 rfl) (by omega)
      rw [if_neg (show ¬ lg_cmp (nL (t : Int)) 0 ≤ 0 from fun z => by have := (cmp_le0 ht inL_0).mp z; omega), less 1 (Or.inr rfl), Nat.mul_zero, if_pos this]
  · rw [if_neg (show ¬ lg_cmp (nL (q : Int)) 0 = 0 from fun z => by have := (cmp_e0 hq inL_0).mp z; omega)]
    by_cases t0 : t = 0
    · subst t0
      rw [if_pos (show lg_cmp (nL ((0 : Nat) : Int)) 0 ≤ 0 from (cmp_le0 inL_0 inL_0).mpr (Int.le_refl _)), less 0 (Or.inl rfl), if_neg (show ¬ r * q < p * 0 by simp)]
    · rw [if_neg (show ¬ lg_cmp (nL (t : Int)) 0 ≤ 0 from fun z => by have := (cmp_le0 ht inL_0).mp z; omega), if_neg (show ¬ nL (q : Int) = 0 from fun z => by have := (nL_eq hq inL_0).mp z; omega), if_neg (show ¬ nL (t : Int) = 0 from fun z => by have := (nL_eq ht inL_0).mp z; omega), nL_divN hp hq, nL_divN hr ht]
      by_cases c : r / t < p / q
      · have := div_lt_cross (show 0 < t by omega) (show 0 < q by omega) c
        rw [if_neg (show ¬ lg_cmp (nL ((p / q : Nat) : Int)) (nL ((r / t : Nat) : Int)) ≤ 0 from fun z => by have := (cmp_le0 ipq irt).mp z; omega), less 1 (Or.inr rfl), if_pos this]
      · have hne := hex (by omega) (by omega)
        have := div_lt_cross (show 0 < q by omega) (show 0 < t by omega) (show p / q < r / t by omega)
        rw [if_pos (show lg_cmp (nL ((p / q : Nat) : Int)) (nL ((r / t : Nat) : Int)) ≤ 0 from (cmp_le0 ipq irt).mpr (by omega)), less 0 (Or.inl rfl), if_neg (show ¬ r * q < p * t by omega)]
theorem im17_u (k : Nat) : fX4_isMore_17 (k + 1) = fX4_isMore_17_b (fX4_isMore_17 k) := rfl
def flipI (x : Int32) : Int32 := if x = 0 then 1 else 0
theorem more_flip {p q r t : Nat} (hq : 0 < q) (ht : 0 < t) (h : p / q = r / t) (x : Int32) : moreV (flipI x) q (p % q) t (r % t) = moreV x p q r t := by
  have e1 := Nat.div_add_mod p q
  have e2 := Nat.div_add_mod r t
  have c : ∀ a b : Nat, p * t + a = r * q + b ↔ (p % q) * t + a = (r % t) * q + b := by
    intro a b
    have h1 : p * t = q * (p / q) * t + (p % q) * t := by rw [← Nat.add_mul, e1]
    have h2 : r * q = t * (r / t) * q + (r % t) * q := by rw [← Nat.add_mul, e2]
    have h3 : q * (p / q) * t = t * (r / t) * q := by
      rw [h, Nat.mul_comm q, Nat.mul_assoc, Nat.mul_comm t (r / t), Nat.mul_assoc, Nat.mul_comm q t]
    rw [h1, h2, h3]
    omega
  have l1 : (r * q < p * t) ↔ (r % t) * q < (p % q) * t := by
    constructor
    · intro z
      rcases Nat.lt_or_ge ((r % t) * q) ((p % q) * t) with y | y
      · exact y
      · exfalso
        have := (c ((r % t) * q - (p % q) * t) 0).mpr (by omega)
        omega
    · intro z
      rcases Nat.lt_or_ge (r * q) (p * t) with y | y
      · exact y
      · exfalso
        have := (c (r * q - p * t) 0).mp (by omega)
        omega
  have l2 : (p * t < r * q) ↔ (p % q) * t < (r % t) * q := by
    constructor
    · intro z
      rcases Nat.lt_or_ge ((p % q) * t) ((r % t) * q) with y | y
      · exact y
      · exfalso
        have := (c 0 ((p % q) * t - (r % t) * q)).mpr (by omega)
        omega
    · intro z
      rcases Nat.lt_or_ge (p * t) (r * q) with y | y
      · exact y
      · exfalso
        have := (c 0 (p * t - r * q)).mp (by omega)
        omega
  unfold moreV flipI
  by_cases x0 : x = 0
  · rw [if_pos x0, if_neg (show ¬ (1 : Int32) = 0 by decide), if_pos x0]
    by_cases y : r * q < p * t
    · rw [if_pos y, if_pos (by rw [Nat.mul_comm q, Nat.mul_comm t]; exact l1.mp y)]
    · rw [if_neg y, if_neg (fun z => y (l1.mpr (by rw [Nat.mul_comm q, Nat.mul_comm t] at z; exact z)))]
  · rw [if_neg x0, if_pos rfl, if_neg x0]
    by_cases y : p * t < r * q
    · rw [if_pos y, if_pos (by rw [Nat.mul_comm q, Nat.mul_comm t]; exact l2.mp y)]
    · rw [if_neg y, if_neg (fun z => y (l2.mpr (by rw [Nat.mul_comm q, Nat.mul_comm t] at z; exact z)))]
theorem im_step {p q r t : Nat} (hp : inL p) (hq : inL q) (hr : inL r) (ht : inL t) (x : Int32) (p0 : q = 0 → 0 < p) (r0 : t = 0 → 0 < r) (k : Int64 → Int64 → Int64 → Int64 → Int32 → Option Int32) :
    (0 < q ∧ 0 < t ∧ p / q = r / t ∧ fX4_isMore_17_b k (nL p) (nL q) (nL r) (nL t) x = k (nL q) (nL ((p % q : Nat) : Int)) (nL t) (nL ((r % t : Nat) : Int)) (flipI x)) ∨ fX4_isMore_17_b k (nL p) (nL q) (nL r) (nL t) x = some (moreV x p q r t) := by
  have ipq : inL ((p / q : Nat) : Int) := inL_div hp
  have irt : inL ((r / t : Nat) : Int) := inL_div hr
  unfold fX4_isMore_17_b fX4_isMore_85
  by_cases q0 : q = 0
  · right
    rw [if_pos (show lg_cmp (nL (q : Int)) 0 ≤ 0 from (cmp_le0 hq inL_0).mpr (by omega))]
    exact im90 hp hq hr ht x p0 r0 (fun h => by omega)
  rw [if_neg (show ¬ lg_cmp (nL (q : Int)) 0 ≤ 0 from fun z => by have := (cmp_le0 hq inL_0).mp z; omega)]
  by_cases t0 : t = 0
  · right
    rw [if_pos (show lg_cmp (nL (t : Int)) 0 ≤ 0 from (cmp_le0 ht inL_0).mpr (by omega))]
    exact im90 hp hq hr ht x p0 r0 (fun _ h => by omega)
  have nq : ¬ nL (q : Int) = 0 := fun z => by have := (nL_eq hq inL_0).mp z; omega
  have nt : ¬ nL (t : Int) = 0 := fun z => by have := (nL_eq ht inL_0).mp z; omega
  rw [if_neg (show ¬ lg_cmp (nL (t : Int)) 0 ≤ 0 from fun z => by have := (cmp_le0 ht inL_0).mp z; omega), if_neg nq, if_neg nt, nL_mod hp hq, nL_mod hr ht, nL_divN hp hq, nL_divN hr ht]
  by_cases c : p / q = r / t
  · left
    refine ⟨by omega, by omega, c, ?_⟩
    rw [if_pos ((cmp_e0 ipq irt).mpr (by omega)), if_neg nq]
    simp only [elet_eq]
    rw [if_neg nt]
    unfold flipI
    by_cases x0 : x = 0
    · rw [if_pos x0, if_pos x0]
    · rw [if_neg x0, if_neg x0]
  · right
    rw [if_neg (fun z => c (by have := (cmp_e0 ipq irt).mp z; omega))]
    exact im90 hp hq hr ht x p0 r0 (fun _ _ => c)
theorem im_loop : ∀ (k n p q r t : Nat) (x : Int32), q ≤ p → p * q < 2 ^ k → inL p → inL q → inL r → inL t → (q = 0 → 0 < p) → (t = 0 → 0 < r) → fX4_isMore_17 (n + k + 1) (nL p) (nL q) (nL r) (nL t) x = some (moreV x p q r t) := by
  intro k
  induction k with
  | zero =>
    intro n p q r t x hqp hk hp hq hr ht p0 r0
    rw [show n + 0 + 1 = n + 1 by omega, im17_u]
    rcases im_step hp hq hr ht x p0 r0 (fX4_isMore_17 n) with ⟨h1, h2, -, -⟩ | h
    · exfalso
      have := Nat.mul_pos (show 0 < p by omega) h1
      have : 2 ^ 0 = 1 := rfl
      omega
    · exact h
  | succ k ih =>
    intro n p q r t x hqp hk hp hq hr ht p0 r0
    rw [show n + (k + 1) + 1 = (n + k + 1) + 1 by omega, im17_u]
    rcases im_step hp hq hr ht x p0 r0 (fX4_isMore_17 (n + k + 1)) with ⟨h1, h2, h3, h4⟩ | h
    · rw [h4]
      have m1 := Nat.mod_lt p h1
      have m2 := Nat.mod_lt r h2
      have hhalf : q * (p % q) < 2 ^ k := by
        have d1 := Nat.div_add_mod p q
        have d2 : 1 ≤ p / q := Nat.div_pos hqp h1
        have d3 : q * 1 ≤ q * (p / q) := Nat.mul_le_mul_left _ d2
        have d4 : q + p % q ≤ p := by omega
        have d5 : (q + p % q) * q ≤ p * q := Nat.mul_le_mul_right _ d4
        have d6 : (p % q + p % q) * q ≤ (q + p % q) * q := Nat.mul_le_mul_right _ (by omega)
        have d7 : (p % q + p % q) * q = 2 * (q * (p % q)) := by rw [Nat.add_mul, Nat.mul_comm q]; omega
        rw [Nat.pow_succ] at hk
        omega
      obtain ⟨hq1, hq2⟩ := id hq
      obtain ⟨ht1, ht2⟩ := id ht
      rw [ih n q (p % q) t (r % t) (flipI x) (by omega) hhalf hq ⟨by omega, by omega⟩ ht ⟨by omega, by omega⟩ (fun _ => h1) (fun _ => h2), more_flip h1 h2 h3]
    · exact h
theorem isMore_v {p q r t : Nat} (hp : p < 10000000000000) (hq : 0 < q ∧ q < 10000000000000) (hr : r < 10000000000000) (ht : 0 < t ∧ t < 10000000000000) : fX4_isMore (nL p) (nL q) (nL r) (nL t) = some (if r * q < p * t then 1 else 0) := by
  have ip : inL p := ⟨by omega, by omega⟩
  have iq : inL q := ⟨by omega, by omega⟩
  have ir : inL r := ⟨by omega, by omega⟩
  have it : inL t := ⟨by omega, by omega⟩
  have e : (if r * q < p * t then (1 : Int32) else 0) = moreV 0 p q r t := by unfold moreV; rw [if_pos rfl]
  have sq : ∀ a b : Nat, a < 10000000000000 → b < 10000000000000 → a * b < 2 ^ 90 := by
    intro a b ha hb
    have h1 : a * b ≤ 10000000000000 * 10000000000000 := Nat.mul_le_mul (by omega) (by omega)
    exact Nat.lt_of_le_of_lt h1 (by decide)
  unfold fX4_isMore
  rw [e]
  have hF : FU = 4908 + 91 + 1 := rfl
  rw [hF, im17_u]
  rcases im_step ip iq ir it 0 (fun h => by omega) (fun h => by omega) (fX4_isMore_17 (4908 + 91)) with ⟨h1, h2, h3, h4⟩ | h
  · rw [h4]
    have m1 := Nat.mod_lt p h1
    have m2 := Nat.mod_lt r h2
    rw [show 4908 + 91 = 4908 + 90 + 1 from rfl, im_loop 90 4908 q (p % q) t (r % t) (flipI 0) (by omega) (sq _ _ hq.2 (by omega)) iq ⟨by omega, by omega⟩ it ⟨by omega, by omega⟩ (fun _ => h1) (fun _ => h2), more_flip h1 h2 h3]
  · exact h
