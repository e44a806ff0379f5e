/-! the relation between the class's state and the reference's -/
def LayEq (L : BX0) (s : Nat → Int32) : Prop := p0_width L = s 0 ∧ p0_plates L = s 1 ∧ (∀ k, k < 5 → p0_strengths L k = s (2 + k)) ∧ (∀ k, k < 5 → p0_lengths L k = s (7 + k)) ∧ (∀ k, k < 4 → p0_loads L k = s (12 + k)) ∧ (∀ k, k < 4 → p0_stops L (2 * k) = s (16 + k)) ∧ (∀ k, k < 4 → p0_stops L (2 * k + 1) = s (20 + k))
def lowB (s : Nat → Int32) (i : Nat) : Int32 := if s (16 + i) < 0 then 0 else s (16 + i)
def highB (s : Nat → Int32) (i : Nat) : Int32 := if s (20 + i) < 0 then s 0 else s (20 + i)
def Good (s : Nat → Int32) : Prop := ∃ w p : Nat, s 0 = nI w ∧ s 1 = nI p ∧ 10 ≤ w ∧ w ≤ 99 ∧ p ≤ 4 ∧ (∀ k, k ≤ p → 1 ≤ (s (2 + k)).toInt ∧ (s (2 + k)).toInt ≤ 9 ∧ 0 ≤ (s (7 + k)).toInt ∧ (s (7 + k)).toInt ≤ 50) ∧ (∀ k, k < p → (-99 ≤ (s (12 + k)).toInt ∧ (s (12 + k)).toInt ≤ 99) ∧ (-1 ≤ (s (16 + k)).toInt ∧ (s (16 + k)).toInt ≤ w) ∧ (-1 ≤ (s (20 + k)).toInt ∧ (s (20 + k)).toInt ≤ w)) ∧ ∀ i j, i ≤ j → j < p → lowB s i ≤ highB s j
/-! helpers -/
theorem inB_nI {k N : Nat} (h : k < N) (hN : N ≤ 2 ^ 31) : inB (nI k) N = true := by
  have h1 : ¬ nI k < 0 := nI_pos (by omega)
  have h2 : (nI k).toNatClampNeg = k := nI_clamp (by omega)
  simp [inB, h1, h2, h]
theorem i_lt {a b : Int32} : a < b ↔ a.toInt < b.toInt := Int32.lt_iff_toInt_lt
theorem i_le {a b : Int32} : a ≤ b ↔ a.toInt ≤ b.toInt := Int32.le_iff_toInt_le
theorem i_eq {a b : Int32} : a = b ↔ a.toInt = b.toInt := Int32.toInt_inj.symm
theorem gs0_width_width (v : BX0) (z : Int32) : p0_width (s0_width v z) = z := rfl
theorem gs0_width_plates (v : BX0) (z : Int32) : p0_width (s0_plates v z) = p0_width v := rfl
theorem gs0_width_strengths (v : BX0) (z : (Nat → Int32)) : p0_width (s0_strengths v z) = p0_width v := rfl
theorem gs0_width_lengths (v : BX0) (z : (Nat → Int32)) : p0_width (s0_lengths v z) = p0_width v := rfl
theorem gs0_width_loads (v : BX0) (z : (Nat → Int32)) : p0_width (s0_loads v z) = p0_width v := rfl
theorem gs0_width_stops (v : BX0) (z : (Nat → Int32)) : p0_width (s0_stops v z) = p0_width v := rfl
theorem gs0_plates_width (v : BX0) (z : Int32) : p0_plates (s0_width v z) = p0_plates v := rfl
theorem gs0_plates_plates (v : BX0) (z : Int32) : p0_plates (s0_plates v z) = z := rfl
theorem gs0_plates_strengths (v : BX0) (z : (Nat → Int32)) : p0_plates (s0_strengths v z) = p0_plates v := rfl
theorem gs0_plates_lengths (v : BX0) (z : (Nat → Int32)) : p0_plates (s0_lengths v z) = p0_plates v := rfl
theorem gs0_plates_loads (v : BX0) (z : (Nat → Int32)) : p0_plates (s0_loads v z) = p0_plates v := rfl
theorem gs0_plates_stops (v : BX0) (z : (Nat → Int32)) : p0_plates (s0_stops v z) = p0_plates v := rfl
theorem gs0_strengths_width (v : BX0) (z : Int32) : p0_strengths (s0_width v z) = p0_strengths v := rfl
theorem gs0_strengths_plates (v : BX0) (z : Int32) : p0_strengths (s0_plates v z) = p0_strengths v := rfl
theorem gs0_strengths_strengths (v : BX0) (z : (Nat → Int32)) : p0_strengths (s0_strengths v z) = z := rfl
theorem gs0_strengths_lengths (v : BX0) (z : (Nat → Int32)) : p0_strengths (s0_lengths v z) = p0_strengths v := rfl
theorem gs0_strengths_loads (v : BX0) (z : (Nat → Int32)) : p0_strengths (s0_loads v z) = p0_strengths v := rfl
theorem gs0_strengths_stops (v : BX0) (z : (Nat → Int32)) : p0_strengths (s0_stops v z) = p0_strengths v := rfl
theorem gs0_lengths_width (v : BX0) (z : Int32) : p0_lengths (s0_width v z) = p0_lengths v := rfl
theorem gs0_lengths_plates (v : BX0) (z : Int32) : p0_lengths (s0_plates v z) = p0_lengths v := rfl
theorem gs0_lengths_strengths (v : BX0) (z : (Nat → Int32)) : p0_lengths (s0_strengths v z) = p0_lengths v := rfl
theorem gs0_lengths_lengths (v : BX0) (z : (Nat → Int32)) : p0_lengths (s0_lengths v z) = z := rfl
theorem gs0_lengths_loads (v : BX0) (z : (Nat → Int32)) : p0_lengths (s0_loads v z) = p0_lengths v := rfl
theorem gs0_lengths_stops (v : BX0) (z : (Nat → Int32)) : p0_lengths (s0_stops v z) = p0_lengths v := rfl
theorem gs0_loads_width (v : BX0) (z : Int32) : p0_loads (s0_width v z) = p0_loads v := rfl
theorem gs0_loads_plates (v : BX0) (z : Int32) : p0_loads (s0_plates v z) = p0_loads v := rfl
theorem gs0_loads_strengths (v : BX0) (z : (Nat → Int32)) : p0_loads (s0_strengths v z) = p0_loads v := rfl
theorem gs0_loads_lengths (v : BX0) (z : (Nat → Int32)) : p0_loads (s0_lengths v z) = p0_loads v := rfl
theorem gs0_loads_loads (v : BX0) (z : (Nat → Int32)) : p0_loads (s0_loads v z) = z := rfl
theorem gs0_loads_stops (v : BX0) (z : (Nat → Int32)) : p0_loads (s0_stops v z) = p0_loads v := rfl
theorem gs0_stops_width (v : BX0) (z : Int32) : p0_stops (s0_width v z) = p0_stops v := rfl
theorem gs0_stops_plates (v : BX0) (z : Int32) : p0_stops (s0_plates v z) = p0_stops v := rfl
theorem gs0_stops_strengths (v : BX0) (z : (Nat → Int32)) : p0_stops (s0_strengths v z) = p0_stops v := rfl
theorem gs0_stops_lengths (v : BX0) (z : (Nat → Int32)) : p0_stops (s0_lengths v z) = p0_stops v := rfl
theorem gs0_stops_loads (v : BX0) (z : (Nat → Int32)) : p0_stops (s0_loads v z) = p0_stops v := rfl
theorem gs0_stops_stops (v : BX0) (z : (Nat → Int32)) : p0_stops (s0_stops v z) = z := rfl
theorem gs1_spots_spots (v : BX1) (z : (Nat → Int64)) : p1_spots (s1_spots v z) = z := rfl
theorem gs1_spots_lower (v : BX1) (z : Int64) : p1_spots (s1_lower v z) = p1_spots v := rfl
theorem gs1_spots_lowest (v : BX1) (z : (Nat → Int32)) : p1_spots (s1_lowest v z) = p1_spots v := rfl
theorem gs1_spots_highest (v : BX1) (z : (Nat → Int32)) : p1_spots (s1_highest v z) = p1_spots v := rfl
theorem gs1_spots_holds (v : BX1) (z : (Nat → Int32)) : p1_spots (s1_holds v z) = p1_spots v := rfl
theorem gs1_spots_constants (v : BX1) (z : (Nat → Int64)) : p1_spots (s1_constants v z) = p1_spots v := rfl
theorem gs1_spots_slopes (v : BX1) (z : (Nat → Int64)) : p1_spots (s1_slopes v z) = p1_spots v := rfl
theorem gs1_spots_divisors (v : BX1) (z : (Nat → Int64)) : p1_spots (s1_divisors v z) = p1_spots v := rfl
theorem gs1_spots_uppers (v : BX1) (z : (Nat → Int64)) : p1_spots (s1_uppers v z) = p1_spots v := rfl
theorem gs1_spots_lowers (v : BX1) (z : (Nat → Int64)) : p1_spots (s1_lowers v z) = p1_spots v := rfl
theorem gs1_lower_spots (v : BX1) (z : (Nat → Int64)) : p1_lower (s1_spots v z) = p1_lower v := rfl
theorem gs1_lower_lower (v : BX1) (z : Int64) : p1_lower (s1_lower v z) = z := rfl
theorem gs1_lower_lowest (v : BX1) (z : (Nat → Int32)) : p1_lower (s1_lowest v z) = p1_lower v := rfl
theorem gs1_lower_highest (v : BX1) (z : (Nat → Int32)) : p1_lower (s1_highest v z) = p1_lower v := rfl
theorem gs1_lower_holds (v : BX1) (z : (Nat → Int32)) : p1_lower (s1_holds v z) = p1_lower v := rfl
theorem gs1_lower_constants (v : BX1) (z : (Nat → Int64)) : p1_lower (s1_constants v z) = p1_lower v := rfl
theorem gs1_lower_slopes (v : BX1) (z : (Nat → Int64)) : p1_lower (s1_slopes v z) = p1_lower v := rfl
theorem gs1_lower_divisors (v : BX1) (z : (Nat → Int64)) : p1_lower (s1_divisors v z) = p1_lower v := rfl
theorem gs1_lower_uppers (v : BX1) (z : (Nat → Int64)) : p1_lower (s1_uppers v z) = p1_lower v := rfl
theorem gs1_lower_lowers (v : BX1) (z : (Nat → Int64)) : p1_lower (s1_lowers v z) = p1_lower v := rfl
theorem gs1_lowest_spots (v : BX1) (z : (Nat → Int64)) : p1_lowest (s1_spots v z) = p1_lowest v := rfl
theorem gs1_lowest_lower (v : BX1) (z : Int64) : p1_lowest (s1_lower v z) = p1_lowest v := rfl
theorem gs1_lowest_lowest (v : BX1) (z : (Nat → Int32)) : p1_lowest (s1_lowest v z) = z := rfl
theorem gs1_lowest_highest (v : BX1) (z : (Nat → Int32)) : p1_lowest (s1_highest v z) = p1_lowest v := rfl
theorem gs1_lowest_holds (v : BX1) (z : (Nat → Int32)) : p1_lowest (s1_holds v z) = p1_lowest v := rfl
theorem gs1_lowest_constants (v : BX1) (z : (Nat → Int64)) : p1_lowest (s1_constants v z) = p1_lowest v := rfl
theorem gs1_lowest_slopes (v : BX1) (z : (Nat → Int64)) : p1_lowest (s1_slopes v z) = p1_lowest v := rfl
theorem gs1_lowest_divisors (v : BX1) (z : (Nat → Int64)) : p1_lowest (s1_divisors v z) = p1_lowest v := rfl
theorem gs1_lowest_uppers (v : BX1) (z : (Nat → Int64)) : p1_lowest (s1_uppers v z) = p1_lowest v := rfl
theorem gs1_lowest_lowers (v : BX1) (z : (Nat → Int64)) : p1_lowest (s1_lowers v z) = p1_lowest v := rfl
theorem gs1_highest_spots (v : BX1) (z : (Nat → Int64)) : p1_highest (s1_spots v z) = p1_highest v := rfl
theorem gs1_highest_lower (v : BX1) (z : Int64) : p1_highest (s1_lower v z) = p1_highest v := rfl
theorem gs1_highest_lowest (v : BX1) (z : (Nat → Int32)) : p1_highest (s1_lowest v z) = p1_highest v := rfl
theorem gs1_highest_highest (v : BX1) (z : (Nat → Int32)) : p1_highest (s1_highest v z) = z := rfl
theorem gs1_highest_holds (v : BX1) (z : (Nat → Int32)) : p1_highest (s1_holds v z) = p1_highest v := rfl
theorem gs1_highest_constants (v : BX1) (z : (Nat → Int64)) : p1_highest (s1_constants v z) = p1_highest v := rfl
theorem gs1_highest_slopes (v : BX1) (z : (Nat → Int64)) : p1_highest (s1_slopes v z) = p1_highest v := rfl
theorem gs1_highest_divisors (v : BX1) (z : (Nat → Int64)) : p1_highest (s1_divisors v z) = p1_highest v := rfl
theorem gs1_highest_uppers (v : BX1) (z : (Nat → Int64)) : p1_highest (s1_uppers v z) = p1_highest v := rfl
theorem gs1_highest_lowers (v : BX1) (z : (Nat → Int64)) : p1_highest (s1_lowers v z) = p1_highest v := rfl
theorem gs1_holds_spots (v : BX1) (z : (Nat → Int64)) : p1_holds (s1_spots v z) = p1_holds v := rfl
theorem gs1_holds_lower (v : BX1) (z : Int64) : p1_holds (s1_lower v z) = p1_holds v := rfl
theorem gs1_holds_lowest (v : BX1) (z : (Nat → Int32)) : p1_holds (s1_lowest v z) = p1_holds v := rfl
theorem gs1_holds_highest (v : BX1) (z : (Nat → Int32)) : p1_holds (s1_highest v z) = p1_holds v := rfl
theorem gs1_holds_holds (v : BX1) (z : (Nat → Int32)) : p1_holds (s1_holds v z) = z := rfl
theorem gs1_holds_constants (v : BX1) (z : (Nat → Int64)) : p1_holds (s1_constants v z) = p1_holds v := rfl
theorem gs1_holds_slopes (v : BX1) (z : (Nat → Int64)) : p1_holds (s1_slopes v z) = p1_holds v := rfl
theorem gs1_holds_divisors (v : BX1) (z : (Nat → Int64)) : p1_holds (s1_divisors v z) = p1_holds v := rfl
theorem gs1_holds_uppers (v : BX1) (z : (Nat → Int64)) : p1_holds (s1_uppers v z) = p1_holds v := rfl
theorem gs1_holds_lowers (v : BX1) (z : (Nat → Int64)) : p1_holds (s1_lowers v z) = p1_holds v := rfl
theorem gs1_constants_spots (v : BX1) (z : (Nat → Int64)) : p1_constants (s1_spots v z) = p1_constants v := rfl
theorem gs1_constants_lower (v : BX1) (z : Int64) : p1_constants (s1_lower v z) = p1_constants v := rfl
theorem gs1_constants_lowest (v : BX1) (z : (Nat → Int32)) : p1_constants (s1_lowest v z) = p1_constants v := rfl
theorem gs1_constants_highest (v : BX1) (z : (Nat → Int32)) : p1_constants (s1_highest v z) = p1_constants v := rfl
theorem gs1_constants_holds (v : BX1) (z : (Nat → Int32)) : p1_constants (s1_holds v z) = p1_constants v := rfl
theorem gs1_constants_constants (v : BX1) (z : (Nat → Int64)) : p1_constants (s1_constants v z) = z := rfl
theorem gs1_constants_slopes (v : BX1) (z : (Nat → Int64)) : p1_constants (s1_slopes v z) = p1_constants v := rfl
theorem gs1_constants_divisors (v : BX1) (z : (Nat → Int64)) : p1_constants (s1_divisors v z) = p1_constants v := rfl
theorem gs1_constants_uppers (v : BX1) (z : (Nat → Int64)) : p1_constants (s1_uppers v z) = p1_constants v := rfl
theorem gs1_constants_lowers (v : BX1) (z : (Nat → Int64)) : p1_constants (s1_lowers v z) = p1_constants v := rfl
theorem gs1_slopes_spots (v : BX1) (z : (Nat → Int64)) : p1_slopes (s1_spots v z) = p1_slopes v := rfl
theorem gs1_slopes_lower (v : BX1) (z : Int64) : p1_slopes (s1_lower v z) = p1_slopes v := rfl
theorem gs1_slopes_lowest (v : BX1) (z : (Nat → Int32)) : p1_slopes (s1_lowest v z) = p1_slopes v := rfl
theorem gs1_slopes_highest (v : BX1) (z : (Nat → Int32)) : p1_slopes (s1_highest v z) = p1_slopes v := rfl
theorem gs1_slopes_holds (v : BX1) (z : (Nat → Int32)) : p1_slopes (s1_holds v z) = p1_slopes v := rfl
theorem gs1_slopes_constants (v : BX1) (z : (Nat → Int64)) : p1_slopes (s1_constants v z) = p1_slopes v := rfl
theorem gs1_slopes_slopes (v : BX1) (z : (Nat → Int64)) : p1_slopes (s1_slopes v z) = z := rfl
theorem gs1_slopes_divisors (v : BX1) (z : (Nat → Int64)) : p1_slopes (s1_divisors v z) = p1_slopes v := rfl
theorem gs1_slopes_uppers (v : BX1) (z : (Nat → Int64)) : p1_slopes (s1_uppers v z) = p1_slopes v := rfl
theorem gs1_slopes_lowers (v : BX1) (z : (Nat → Int64)) : p1_slopes (s1_lowers v z) = p1_slopes v := rfl
theorem gs1_divisors_spots (v : BX1) (z : (Nat → Int64)) : p1_divisors (s1_spots v z) = p1_divisors v := rfl
theorem gs1_divisors_lower (v : BX1) (z : Int64) : p1_divisors (s1_lower v z) = p1_divisors v := rfl
theorem gs1_divisors_lowest (v : BX1) (z : (Nat → Int32)) : p1_divisors (s1_lowest v z) = p1_divisors v := rfl
theorem gs1_divisors_highest (v : BX1) (z : (Nat → Int32)) : p1_divisors (s1_highest v z) = p1_divisors v := rfl
theorem gs1_divisors_holds (v : BX1) (z : (Nat → Int32)) : p1_divisors (s1_holds v z) = p1_divisors v := rfl
theorem gs1_divisors_constants (v : BX1) (z : (Nat → Int64)) : p1_divisors (s1_constants v z) = p1_divisors v := rfl
theorem gs1_divisors_slopes (v : BX1) (z : (Nat → Int64)) : p1_divisors (s1_slopes v z) = p1_divisors v := rfl
theorem gs1_divisors_divisors (v : BX1) (z : (Nat → Int64)) : p1_divisors (s1_divisors v z) = z := rfl
theorem gs1_divisors_uppers (v : BX1) (z : (Nat → Int64)) : p1_divisors (s1_uppers v z) = p1_divisors v := rfl
theorem gs1_divisors_lowers (v : BX1) (z : (Nat → Int64)) : p1_divisors (s1_lowers v z) = p1_divisors v := rfl
theorem gs1_uppers_spots (v : BX1) (z : (Nat → Int64)) : p1_uppers (s1_spots v z) = p1_uppers v := rfl
theorem gs1_uppers_lower (v : BX1) (z : Int64) : p1_uppers (s1_lower v z) = p1_uppers v := rfl
theorem gs1_uppers_lowest (v : BX1) (z : (Nat → Int32)) : p1_uppers (s1_lowest v z) = p1_uppers v := rfl
theorem gs1_uppers_highest (v : BX1) (z : (Nat → Int32)) : p1_uppers (s1_highest v z) = p1_uppers v := rfl
theorem gs1_uppers_holds (v : BX1) (z : (Nat → Int32)) : p1_uppers (s1_holds v z) = p1_uppers v := rfl
theorem gs1_uppers_constants (v : BX1) (z : (Nat → Int64)) : p1_uppers (s1_constants v z) = p1_uppers v := rfl
theorem gs1_uppers_slopes (v : BX1) (z : (Nat → Int64)) : p1_uppers (s1_slopes v z) = p1_uppers v := rfl
theorem gs1_uppers_divisors (v : BX1) (z : (Nat → Int64)) : p1_uppers (s1_divisors v z) = p1_uppers v := rfl
theorem gs1_uppers_uppers (v : BX1) (z : (Nat → Int64)) : p1_uppers (s1_uppers v z) = z := rfl
theorem gs1_uppers_lowers (v : BX1) (z : (Nat → Int64)) : p1_uppers (s1_lowers v z) = p1_uppers v := rfl
theorem gs1_lowers_spots (v : BX1) (z : (Nat → Int64)) : p1_lowers (s1_spots v z) = p1_lowers v := rfl
theorem gs1_lowers_lower (v : BX1) (z : Int64) : p1_lowers (s1_lower v z) = p1_lowers v := rfl
theorem gs1_lowers_lowest (v : BX1) (z : (Nat → Int32)) : p1_lowers (s1_lowest v z) = p1_lowers v := rfl
theorem gs1_lowers_highest (v : BX1) (z : (Nat → Int32)) : p1_lowers (s1_highest v z) = p1_lowers v := rfl
theorem gs1_lowers_holds (v : BX1) (z : (Nat → Int32)) : p1_lowers (s1_holds v z) = p1_lowers v := rfl
theorem gs1_lowers_constants (v : BX1) (z : (Nat → Int64)) : p1_lowers (s1_constants v z) = p1_lowers v := rfl
theorem gs1_lowers_slopes (v : BX1) (z : (Nat → Int64)) : p1_lowers (s1_slopes v z) = p1_lowers v := rfl
theorem gs1_lowers_divisors (v : BX1) (z : (Nat → Int64)) : p1_lowers (s1_divisors v z) = p1_lowers v := rfl
theorem gs1_lowers_uppers (v : BX1) (z : (Nat → Int64)) : p1_lowers (s1_uppers v z) = p1_lowers v := rfl
theorem gs1_lowers_lowers (v : BX1) (z : (Nat → Int64)) : p1_lowers (s1_lowers v z) = z := rfl
theorem gs2_characters_characters (v : BX2) (z : (Nat → Int32)) : p2_characters (s2_characters v z) = z := rfl
theorem gs2_characters_size (v : BX2) (z : Int32) : p2_characters (s2_size v z) = p2_characters v := rfl
theorem gs2_characters_settings (v : BX2) (z : Int32) : p2_characters (s2_settings v z) = p2_characters v := rfl
theorem gs2_characters_reason (v : BX2) (z : Int32) : p2_characters (s2_reason v z) = p2_characters v := rfl
theorem gs2_characters_cause (v : BX2) (z : Int32) : p2_characters (s2_cause v z) = p2_characters v := rfl
theorem gs2_characters_start (v : BX2) (z : Int32) : p2_characters (s2_start v z) = p2_characters v := rfl
theorem gs2_characters_next (v : BX2) (z : Int32) : p2_characters (s2_next v z) = p2_characters v := rfl
theorem gs2_characters_numbers (v : BX2) (z : (Nat → Int32)) : p2_characters (s2_numbers v z) = p2_characters v := rfl
theorem gs2_characters_numberCount (v : BX2) (z : Int32) : p2_characters (s2_numberCount v z) = p2_characters v := rfl
theorem gs2_size_characters (v : BX2) (z : (Nat → Int32)) : p2_size (s2_characters v z) = p2_size v := rfl
theorem gs2_size_size (v : BX2) (z : Int32) : p2_size (s2_size v z) = z := rfl
theorem gs2_size_settings (v : BX2) (z : Int32) : p2_size (s2_settings v z) = p2_size v := rfl
theorem gs2_size_reason (v : BX2) (z : Int32) : p2_size (s2_reason v z) = p2_size v := rfl
theorem gs2_size_cause (v : BX2) (z : Int32) : p2_size (s2_cause v z) = p2_size v := rfl
theorem gs2_size_start (v : BX2) (z : Int32) : p2_size (s2_start v z) = p2_size v := rfl
theorem gs2_size_next (v : BX2) (z : Int32) : p2_size (s2_next v z) = p2_size v := rfl
theorem gs2_size_numbers (v : BX2) (z : (Nat → Int32)) : p2_size (s2_numbers v z) = p2_size v := rfl
theorem gs2_size_numberCount (v : BX2) (z : Int32) : p2_size (s2_numberCount v z) = p2_size v := rfl
theorem gs2_settings_characters (v : BX2) (z : (Nat → Int32)) : p2_settings (s2_characters v z) = p2_settings v := rfl
theorem gs2_settings_size (v : BX2) (z : Int32) : p2_settings (s2_size v z) = p2_settings v := rfl
theorem gs2_settings_settings (v : BX2) (z : Int32) : p2_settings (s2_settings v z) = z := rfl
theorem gs2_settings_reason (v : BX2) (z : Int32) : p2_settings (s2_reason v z) = p2_settings v := rfl
theorem gs2_settings_cause (v : BX2) (z : Int32) : p2_settings (s2_cause v z) = p2_settings v := rfl
theorem gs2_settings_start (v : BX2) (z : Int32) : p2_settings (s2_start v z) = p2_settings v := rfl
theorem gs2_settings_next (v : BX2) (z : Int32) : p2_settings (s2_next v z) = p2_settings v := rfl
theorem gs2_settings_numbers (v : BX2) (z : (Nat → Int32)) : p2_settings (s2_numbers v z) = p2_settings v := rfl
theorem gs2_settings_numberCount (v : BX2) (z : Int32) : p2_settings (s2_numberCount v z) = p2_settings v := rfl
theorem gs2_reason_characters (v : BX2) (z : (Nat → Int32)) : p2_reason (s2_characters v z) = p2_reason v := rfl
theorem gs2_reason_size (v : BX2) (z : Int32) : p2_reason (s2_size v z) = p2_reason v := rfl
theorem gs2_reason_settings (v : BX2) (z : Int32) : p2_reason (s2_settings v z) = p2_reason v := rfl
theorem gs2_reason_reason (v : BX2) (z : Int32) : p2_reason (s2_reason v z) = z := rfl
theorem gs2_reason_cause (v : BX2) (z : Int32) : p2_reason (s2_cause v z) = p2_reason v := rfl
theorem gs2_reason_start (v : BX2) (z : Int32) : p2_reason (s2_start v z) = p2_reason v := rfl
theorem gs2_reason_next (v : BX2) (z : Int32) : p2_reason (s2_next v z) = p2_reason v := rfl
theorem gs2_reason_numbers (v : BX2) (z : (Nat → Int32)) : p2_reason (s2_numbers v z) = p2_reason v := rfl
theorem gs2_reason_numberCount (v : BX2) (z : Int32) : p2_reason (s2_numberCount v z) = p2_reason v := rfl
theorem gs2_cause_characters (v : BX2) (z : (Nat → Int32)) : p2_cause (s2_characters v z) = p2_cause v := rfl
theorem gs2_cause_size (v : BX2) (z : Int32) : p2_cause (s2_size v z) = p2_cause v := rfl
theorem gs2_cause_settings (v : BX2) (z : Int32) : p2_cause (s2_settings v z) = p2_cause v := rfl
theorem gs2_cause_reason (v : BX2) (z : Int32) : p2_cause (s2_reason v z) = p2_cause v := rfl
theorem gs2_cause_cause (v : BX2) (z : Int32) : p2_cause (s2_cause v z) = z := rfl
theorem gs2_cause_start (v : BX2) (z : Int32) : p2_cause (s2_start v z) = p2_cause v := rfl
theorem gs2_cause_next (v : BX2) (z : Int32) : p2_cause (s2_next v z) = p2_cause v := rfl
theorem gs2_cause_numbers (v : BX2) (z : (Nat → Int32)) : p2_cause (s2_numbers v z) = p2_cause v := rfl
theorem gs2_cause_numberCount (v : BX2) (z : Int32) : p2_cause (s2_numberCount v z) = p2_cause v := rfl
theorem gs2_start_characters (v : BX2) (z : (Nat → Int32)) : p2_start (s2_characters v z) = p2_start v := rfl
theorem gs2_start_size (v : BX2) (z : Int32) : p2_start (s2_size v z) = p2_start v := rfl
theorem gs2_start_settings (v : BX2) (z : Int32) : p2_start (s2_settings v z) = p2_start v := rfl
theorem gs2_start_reason (v : BX2) (z : Int32) : p2_start (s2_reason v z) = p2_start v := rfl
theorem gs2_start_cause (v : BX2) (z : Int32) : p2_start (s2_cause v z) = p2_start v := rfl
theorem gs2_start_start (v : BX2) (z : Int32) : p2_start (s2_start v z) = z := rfl
theorem gs2_start_next (v : BX2) (z : Int32) : p2_start (s2_next v z) = p2_start v := rfl
theorem gs2_start_numbers (v : BX2) (z : (Nat → Int32)) : p2_start (s2_numbers v z) = p2_start v := rfl
theorem gs2_start_numberCount (v : BX2) (z : Int32) : p2_start (s2_numberCount v z) = p2_start v := rfl
theorem gs2_next_characters (v : BX2) (z : (Nat → Int32)) : p2_next (s2_characters v z) = p2_next v := rfl
theorem gs2_next_size (v : BX2) (z : Int32) : p2_next (s2_size v z) = p2_next v := rfl
theorem gs2_next_settings (v : BX2) (z : Int32) : p2_next (s2_settings v z) = p2_next v := rfl
theorem gs2_next_reason (v : BX2) (z : Int32) : p2_next (s2_reason v z) = p2_next v := rfl
theorem gs2_next_cause (v : BX2) (z : Int32) : p2_next (s2_cause v z) = p2_next v := rfl
theorem gs2_next_start (v : BX2) (z : Int32) : p2_next (s2_start v z) = p2_next v := rfl
theorem gs2_next_next (v : BX2) (z : Int32) : p2_next (s2_next v z) = z := rfl
theorem gs2_next_numbers (v : BX2) (z : (Nat → Int32)) : p2_next (s2_numbers v z) = p2_next v := rfl
theorem gs2_next_numberCount (v : BX2) (z : Int32) : p2_next (s2_numberCount v z) = p2_next v := rfl
theorem gs2_numbers_characters (v : BX2) (z : (Nat → Int32)) : p2_numbers (s2_characters v z) = p2_numbers v := rfl
theorem gs2_numbers_size (v : BX2) (z : Int32) : p2_numbers (s2_size v z) = p2_numbers v := rfl
theorem gs2_numbers_settings (v : BX2) (z : Int32) : p2_numbers (s2_settings v z) = p2_numbers v := rfl
theorem gs2_numbers_reason (v : BX2) (z : Int32) : p2_numbers (s2_reason v z) = p2_numbers v := rfl
theorem gs2_numbers_cause (v : BX2) (z : Int32) : p2_numbers (s2_cause v z) = p2_numbers v := rfl
theorem gs2_numbers_start (v : BX2) (z : Int32) : p2_numbers (s2_start v z) = p2_numbers v := rfl
theorem gs2_numbers_next (v : BX2) (z : Int32) : p2_numbers (s2_next v z) = p2_numbers v := rfl
theorem gs2_numbers_numbers (v : BX2) (z : (Nat → Int32)) : p2_numbers (s2_numbers v z) = z := rfl
theorem gs2_numbers_numberCount (v : BX2) (z : Int32) : p2_numbers (s2_numberCount v z) = p2_numbers v := rfl
theorem gs2_numberCount_characters (v : BX2) (z : (Nat → Int32)) : p2_numberCount (s2_characters v z) = p2_numberCount v := rfl
theorem gs2_numberCount_size (v : BX2) (z : Int32) : p2_numberCount (s2_size v z) = p2_numberCount v := rfl
theorem gs2_numberCount_settings (v : BX2) (z : Int32) : p2_numberCount (s2_settings v z) = p2_numberCount v := rfl
theorem gs2_numberCount_reason (v : BX2) (z : Int32) : p2_numberCount (s2_reason v z) = p2_numberCount v := rfl
theorem gs2_numberCount_cause (v : BX2) (z : Int32) : p2_numberCount (s2_cause v z) = p2_numberCount v := rfl
theorem gs2_numberCount_start (v : BX2) (z : Int32) : p2_numberCount (s2_start v z) = p2_numberCount v := rfl
theorem gs2_numberCount_next (v : BX2) (z : Int32) : p2_numberCount (s2_next v z) = p2_numberCount v := rfl
theorem gs2_numberCount_numbers (v : BX2) (z : (Nat → Int32)) : p2_numberCount (s2_numbers v z) = p2_numberCount v := rfl
theorem gs2_numberCount_numberCount (v : BX2) (z : Int32) : p2_numberCount (s2_numberCount v z) = z := rfl
theorem gs3_states_states (v : BX3) (z : Int32) : p3_states (s3_states v z) = z := rfl
theorem gs3_states_restKnown (v : BX3) (z : Int32) : p3_states (s3_restKnown v z) = p3_states v := rfl
theorem gs3_restKnown_states (v : BX3) (z : Int32) : p3_restKnown (s3_states v z) = p3_restKnown v := rfl
theorem gs3_restKnown_restKnown (v : BX3) (z : Int32) : p3_restKnown (s3_restKnown v z) = z := rfl
