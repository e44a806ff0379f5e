/-! 64 bit numbers -/
def nL (z : Int) : Int64 := Int64.ofInt z
def inL (z : Int) : Prop := -4611686018427387904 < z ∧ z < 4611686018427387904
theorem nL_add (a b : Int) : nL a + nL b = nL (a + b) := (Int64.ofInt_add a b).symm
theorem nL_sub (a b : Int) : nL a - nL b = nL (a - b) := (Int64.ofInt_sub a b).symm
theorem nL_mul (a b : Int) : nL a * nL b = nL (a * b) := (Int64.ofInt_mul a b).symm
theorem nL_neg (a : Int) : -nL a = nL (-a) := (Int64.ofInt_neg a).symm
theorem nL_0 : (0 : Int64) = nL 0 := rfl
theorem nL_1 : (1 : Int64) = nL 1 := rfl
theorem nL_toInt {z : Int} (h : inL z) : (nL z).toInt = z := by
  obtain ⟨h1, h2⟩ := h
  exact Int64.toInt_ofInt_of_le (by omega) (by omega)
theorem nL_I (x : Int32) : x.toInt64 = nL x.toInt := by
  rw [← Int64.toInt_inj, Int32.toInt_toInt64]
  have h1 := x.le_toInt
  have h2 := x.toInt_lt
  exact (Int64.toInt_ofInt_of_le (by omega) (by omega)).symm
theorem nL_lt {a b : Int} (ha : inL a) (hb : inL b) : nL a < nL b ↔ a < b := by
  rw [Int64.lt_iff_toInt_lt, nL_toInt ha, nL_toInt hb]
theorem nL_le {a b : Int} (ha : inL a) (hb : inL b) : nL a ≤ nL b ↔ a ≤ b := by
  rw [Int64.le_iff_toInt_le, nL_toInt ha, nL_toInt hb]
theorem nL_eq {a b : Int} (ha : inL a) (hb : inL b) : nL a = nL b ↔ a = b := by
  rw [← Int64.toInt_inj, nL_toInt ha, nL_toInt hb]
theorem inL_0 : inL 0 := ⟨by decide, by decide⟩
theorem inL_1 : inL 1 := ⟨by decide, by decide⟩
theorem cmp_gt {a b : Int} (ha : inL a) (hb : inL b) (h : b < a) : lg_cmp (nL a) (nL b) = 1 := by
  unfold lg_cmp
  rw [if_pos (show nL a > nL b from (nL_lt hb ha).mpr h)]
theorem cmp_eq {a b : Int} (ha : inL a) (hb : inL b) (h : a = b) : lg_cmp (nL a) (nL b) = 0 := by
  subst h
  unfold lg_cmp
  rw [if_neg (show ¬ nL a > nL a from fun q => Int.lt_irrefl _ ((nL_lt ha ha).mp q)), if_pos rfl]
theorem cmp_lt {a b : Int} (ha : inL a) (hb : inL b) (h : a < b) : lg_cmp (nL a) (nL b) = -1 := by
  unfold lg_cmp
  rw [if_neg (show ¬ nL a > nL b from fun q => by have := (nL_lt hb ha).mp q; omega), if_neg (fun q => by have := (nL_eq ha hb).mp q; omega)]
theorem cmp_le0 {a b : Int} (ha : inL a) (hb : inL b) : lg_cmp (nL a) (nL b) ≤ 0 ↔ a ≤ b := by
  rcases Int.lt_trichotomy a b with h | h | h
  · rw [cmp_lt ha hb h]; exact ⟨fun _ => by omega, fun _ => by decide⟩
  · rw [cmp_eq ha hb h]; exact ⟨fun _ => by omega, fun _ => by decide⟩
  · rw [cmp_gt ha hb h]; exact ⟨fun q => absurd q (by decide), fun _ => by omega⟩
theorem cmp_ge0 {a b : Int} (ha : inL a) (hb : inL b) : 0 ≤ lg_cmp (nL a) (nL b) ↔ b ≤ a := by
  rcases Int.lt_trichotomy a b with h | h | h
  · rw [cmp_lt ha hb h]; exact ⟨fun q => absurd q (by decide), fun _ => by omega⟩
  · rw [cmp_eq ha hb h]; exact ⟨fun _ => by omega, fun _ => by decide⟩
  · rw [cmp_gt ha hb h]; exact ⟨fun _ => by omega, fun _ => by decide⟩
theorem cmp_e0 {a b : Int} (ha : inL a) (hb : inL b) : lg_cmp (nL a) (nL b) = 0 ↔ a = b := by
  rcases Int.lt_trichotomy a b with h | h | h
  · rw [cmp_lt ha hb h]; exact ⟨fun q => absurd q (by decide), fun _ => by omega⟩
  · rw [cmp_eq ha hb h]; exact ⟨fun _ => h, fun _ => rfl⟩
  · rw [cmp_gt ha hb h]; exact ⟨fun q => absurd q (by decide), fun _ => by omega⟩
theorem cmp_l0 {a b : Int} (ha : inL a) (hb : inL b) : lg_cmp (nL a) (nL b) < 0 ↔ a < b := by
  rcases Int.lt_trichotomy a b with h | h | h
  · rw [cmp_lt ha hb h]; exact ⟨fun _ => h, fun _ => by decide⟩
  · rw [cmp_eq ha hb h]; exact ⟨fun q => absurd q (by decide), fun _ => by omega⟩
  · rw [cmp_gt ha hb h]; exact ⟨fun q => absurd q (by decide), fun _ => by omega⟩
theorem cmp_g0 {a b : Int} (ha : inL a) (hb : inL b) : 0 < lg_cmp (nL a) (nL b) ↔ b < a := by
  rcases Int.lt_trichotomy a b with h | h | h
  · rw [cmp_lt ha hb h]; exact ⟨fun q => absurd q (by decide), fun _ => by omega⟩
  · rw [cmp_eq ha hb h]; exact ⟨fun q => absurd q (by decide), fun _ => by omega⟩
  · rw [cmp_gt ha hb h]; exact ⟨fun _ => h, fun _ => by decide⟩
theorem nL_div {a b : Int} (ha : inL a) (hb : inL b) : nL a / nL b = nL (a.tdiv b) := by
  obtain ⟨h1, h2⟩ := ha
  obtain ⟨h3, h4⟩ := hb
  refine (Int64.ofInt_tdiv ?_ ?_ ?_ ?_).symm
  · rw [show Int64.minValue.toInt = -9223372036854775808 from by decide]; omega
  · rw [show Int64.maxValue.toInt = 9223372036854775807 from by decide]; omega
  · rw [show Int64.minValue.toInt = -9223372036854775808 from by decide]; omega
  · rw [show Int64.maxValue.toInt = 9223372036854775807 from by decide]; omega
/-- a quotient that goes out -/
theorem nL_quot {b c : Int} (ha : inL (b * c)) (hb : inL b) (h0 : b ≠ 0) : nL (b * c) / nL b = nL c := by
  rw [nL_div ha hb, Int.mul_tdiv_cancel_left c h0]
theorem nL_mod {a b : Nat} (ha : inL a) (hb : inL b) : nL a - nL a / nL b * nL b = nL ((a % b : Nat) : Int) := by
  rw [nL_div ha hb, nL_mul, nL_sub]
  congr 1
  rw [Int.tdiv_eq_ediv_of_nonneg (by omega)]
  have := Int.emod_def (a : Int) b
  rw [Int.mul_comm]
  rw [← this]
  exact (Int.natCast_emod a b).symm
theorem nL_abs {a : Int} (ha : inL a) : (if 0 < nL a then nL a else -nL a) = nL (a.natAbs : Int) := by
  have h : (0 : Int64) < nL a ↔ 0 < a := nL_lt inL_0 ha
  by_cases q : 0 < a
  · rw [if_pos (h.mpr q)]; congr 1; omega
  · rw [if_neg (fun x => q (h.mp x)), nL_neg]; congr 1; omega
/-- the rounds of Euclid -/
def euR (k : Nat) : Nat := 2 * k + 1
theorem gd_loop : ∀ (k : Nat) (n a b i : Nat), b < 2 ^ k → a < 2 ^ 62 → b < 2 ^ 62 → i + (2 * k + 1) ≤ 200 →
    fX3_greatestDivisor_15 (n + (2 * k + 1)) (nL a) (nL b) (nI i) = some (nL ((Nat.gcd a b : Nat) : Int)) := by
  have stop : ∀ (n a i : Nat), a < 2 ^ 62 → i ≤ 200 → fX3_greatestDivisor_15 (n + 1) (nL a) (nL (0 : Nat)) (nI i) = some (nL (a : Nat)) := by
    intro n a i ha hi
    show fX3_greatestDivisor_15_b (fX3_greatestDivisor_15 n) _ _ _ = _
    unfold fX3_greatestDivisor_15_b
    by_cases q : i = 200
    · subst q
      rw [if_pos (show (200 : Int32) ≤ nI 200 from by decide)]
    · have : ¬ (200 : Int32) ≤ nI i := nI_ge (a := i) (b := 200) (by omega) (by omega)
      rw [if_neg this, if_pos (show lg_cmp (nL (0 : Nat)) 0 = 0 from cmp_eq inL_0 inL_0 rfl)]
  have go : ∀ (n a b i : Nat), 0 < b → a < 2 ^ 62 → b < 2 ^ 62 → i < 200 → fX3_greatestDivisor_15 (n + 1) (nL a) (nL b) (nI i) = fX3_greatestDivisor_15 n (nL b) (nL ((a % b : Nat) : Int)) (nI (i + 1)) := by
    intro n a b i h0 ha hb hi
    have hb' : inL b := ⟨by omega, by omega⟩
    have ha' : inL a := ⟨by omega, by omega⟩
    show fX3_greatestDivisor_15_b (fX3_greatestDivisor_15 n) _ _ _ = _
    unfold fX3_greatestDivisor_15_b
    have : ¬ (200 : Int32) ≤ nI i := nI_ge (a := i) (b := 200) (by omega) (by omega)
    have e0 : ¬ lg_cmp (nL b) 0 = 0 := fun q => by have := (cmp_e0 hb' inL_0).mp q; omega
    have e1 : ¬ nL b = 0 := fun q => by have := (nL_eq hb' inL_0).mp q; omega
    rw [if_neg this, if_neg e0, if_neg e1, nL_mod ha' hb', nI_1]
    rfl
  intro k
  induction k with
  | zero =>
    intro n a b i h1 h2 h3 h4
    have : b = 0 := by have : 2 ^ 0 = 1 := rfl; omega
    subst this
    rw [Nat.gcd_zero_right]
    exact stop n a i h2 (by omega)
  | succ k ih =>
    intro n a b i h1 h2 h3 h4
    rcases Nat.eq_zero_or_pos b with rfl | hb
    · rw [Nat.gcd_zero_right]
      exact stop (n + (2 * (k + 1))) a i h2 (by omega)
    · rw [show n + (2 * (k + 1) + 1) = (n + (2 * k + 2)) + 1 by omega, go _ a b i hb h2 h3 (by omega)]
      have hr : a % b < b := Nat.mod_lt _ hb
      rcases Nat.eq_zero_or_pos (a % b) with e | e
      · rw [e, show n + (2 * k + 2) = (n + (2 * k + 1)) + 1 by omega, stop _ b (i + 1) h3 (by omega), Nat.gcd_comm, Nat.gcd_rec, e, Nat.gcd_zero_left]
      · rw [show n + (2 * k + 2) = (n + (2 * k + 1)) + 1 by omega, go _ b (a % b) (i + 1) e h3 (by omega) (by omega)]
        have h5 : b % (a % b) < a % b := Nat.mod_lt _ e
        have h6 : b % (a % b) < 2 ^ k := by
          have : b % (a % b) + (a % b) ≤ b := by
            have h7 := Nat.div_add_mod b (a % b)
            have h8 : 1 ≤ b / (a % b) := Nat.div_pos (by omega) e
            have h9 : (a % b) * 1 ≤ (a % b) * (b / (a % b)) := Nat.mul_le_mul_left _ h8
            omega
          rw [Nat.pow_succ] at h1
          omega
        rw [ih n (a % b) (b % (a % b)) (i + 1 + 1) h6 (by omega) (by omega) (by omega)]
        congr 2
        rw [Nat.gcd_comm a b, Nat.gcd_rec b a, Nat.gcd_comm (a % b) b, Nat.gcd_comm (a % b) (b % (a % b)), ← Nat.gcd_rec, Nat.gcd_comm b (a % b), ← Nat.gcd_rec]
theorem gd_v {a b : Int} (ha : inL a) (hb : inL b) : fX3_greatestDivisor (nL a) (nL b) = some (nL ((Int.gcd a b : Nat) : Int)) := by
  unfold fX3_greatestDivisor
  rw [nL_abs ha, nL_abs hb]
  show fX3_greatestDivisor_15 FU _ _ (nI 0) = _
  have : FU = 4875 + (2 * 62 + 1) := rfl
  rw [this]
  obtain ⟨h1, h2⟩ := ha
  obtain ⟨h3, h4⟩ := hb
  exact gd_loop 62 4875 _ _ 0 (by omega) (by omega) (by omega) (by omega)
