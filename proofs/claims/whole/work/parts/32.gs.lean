theorem gs0_width_width (v : BX0) (z : Int32) : p0_width (s0_width v z) = z := rfl
theorem gs0_width_plates (v : BX0) (z : Int32) : p0_width (s0_plates v z) = p0_width v := rfl
theorem gs0_width_strengths (v : BX0) (z : (Nat → Int32)) : p0_width (s0_strengths v z) = p0_width v := rfl
theorem gs0_width_lengths (v : BX0) (z : (Nat → Int32)) : p0_width (s0_lengths v z) = p0_width v := rfl
theorem gs0_width_loads (v : BX0) (z : (Nat → Int32)) : p0_width (s0_loads v z) = p0_width v := rfl
theorem gs0_width_stops (v : BX0) (z : (Nat → Int32)) : p0_width (s0_stops v z) = p0_width v := rfl
theorem gs0_plates_width (v : BX0) (z : Int32) : p0_plates (s0_width v z) = p0_plates v := rfl
theorem gs0_plates_plates (v : BX0) (z : Int32) : p0_plates (s0_plates v z) = z := rfl
theorem gs0_plates_strengths (v : BX0) (z : (Nat → Int32)) : p0_plates (s0_strengths v z) = p0_plates v := rfl
theorem gs0_plates_lengths (v : BX0) (z : (Nat → Int32)) : p0_plates (s0_lengths v z) = p0_plates v := rfl
theorem gs0_plates_loads (v : BX0) (z : (Nat → Int32)) : p0_plates (s0_loads v z) = p0_plates v := rfl
theorem gs0_plates_stops (v : BX0) (z : (Nat → Int32)) : p0_plates (s0_stops v z) = p0_plates v := rfl
theorem gs0_strengths_width (v : BX0) (z : Int32) : p0_strengths (s0_width v z) = p0_strengths v := rfl
theorem gs0_strengths_plates (v : BX0) (z : Int32) : p0_strengths (s0_plates v z) = p0_strengths v := rfl
theorem gs0_strengths_strengths (v : BX0) (z : (Nat → Int32)) : p0_strengths (s0_strengths v z) = z := rfl
theorem gs0_strengths_lengths (v : BX0) (z : (Nat → Int32)) : p0_strengths (s0_lengths v z) = p0_strengths v := rfl
theorem gs0_strengths_loads (v : BX0) (z : (Nat → Int32)) : p0_strengths (s0_loads v z) = p0_strengths v := rfl
theorem gs0_strengths_stops (v : BX0) (z : (Nat → Int32)) : p0_strengths (s0_stops v z) = p0_strengths v := rfl
theorem gs0_lengths_width (v : BX0) (z : Int32) : p0_lengths (s0_width v z) = p0_lengths v := rfl
theorem gs0_lengths_plates (v : BX0) (z : Int32) : p0_lengths (s0_plates v z) = p0_lengths v := rfl
theorem gs0_lengths_strengths (v : BX0) (z : (Nat → Int32)) : p0_lengths (s0_strengths v z) = p0_lengths v := rfl
theorem gs0_lengths_lengths (v : BX0) (z : (Nat → Int32)) : p0_lengths (s0_lengths v z) = z := rfl
theorem gs0_lengths_loads (v : BX0) (z : (Nat → Int32)) : p0_lengths (s0_loads v z) = p0_lengths v := rfl
theorem gs0_lengths_stops (v : BX0) (z : (Nat → Int32)) : p0_lengths (s0_stops v z) = p0_lengths v := rfl
theorem gs0_loads_width (v : BX0) (z : Int32) : p0_loads (s0_width v z) = p0_loads v := rfl
theorem gs0_loads_plates (v : BX0) (z : Int32) : p0_loads (s0_plates v z) = p0_loads v := rfl
theorem gs0_loads_strengths (v : BX0) (z : (Nat → Int32)) : p0_loads (s0_strengths v z) = p0_loads v := rfl
theorem gs0_loads_lengths (v : BX0) (z : (Nat → Int32)) : p0_loads (s0_lengths v z) = p0_loads v := rfl
theorem gs0_loads_loads (v : BX0) (z : (Nat → Int32)) : p0_loads (s0_loads v z) = z := rfl
theorem gs0_loads_stops (v : BX0) (z : (Nat → Int32)) : p0_loads (s0_stops v z) = p0_loads v := rfl
theorem gs0_stops_width (v : BX0) (z : Int32) : p0_stops (s0_width v z) = p0_stops v := rfl
theorem gs0_stops_plates (v : BX0) (z : Int32) : p0_stops (s0_plates v z) = p0_stops v := rfl
theorem gs0_stops_strengths (v : BX0) (z : (Nat → Int32)) : p0_stops (s0_strengths v z) = p0_stops v := rfl
theorem gs0_stops_lengths (v : BX0) (z : (Nat → Int32)) : p0_stops (s0_lengths v z) = p0_stops v := rfl
theorem gs0_stops_loads (v : BX0) (z : (Nat → Int32)) : p0_stops (s0_loads v z) = p0_stops v := rfl
theorem gs0_stops_stops (v : BX0) (z : (Nat → Int32)) : p0_stops (s0_stops v z) = z := rfl
theorem gs1_spots_spots (v : BX1) (z : (Nat → Int64)) : p1_spots (s1_spots v z) = z := rfl
theorem gs1_spots_lower (v : BX1) (z : Int64) : p1_spots (s1_lower v z) = p1_spots v := rfl
theorem gs1_spots_lowest (v : BX1) (z : (Nat → Int32)) : p1_spots (s1_lowest v z) = p1_spots v := rfl
theorem gs1_spots_highest (v : BX1) (z : (Nat → Int32)) : p1_spots (s1_highest v z) = p1_spots v := rfl
theorem gs1_spots_holds (v : BX1) (z : (Nat → Int32)) : p1_spots (s1_holds v z) = p1_spots v := rfl
theorem gs1_spots_constants (v : BX1) (z : (Nat → Int64)) : p1_spots (s1_constants v z) = p1_spots v := rfl
theorem gs1_spots_slopes (v : BX1) (z : (Nat → Int64)) : p1_spots (s1_slopes v z) = p1_spots v := rfl
theorem gs1_spots_divisors (v : BX1) (z : (Nat → Int64)) : p1_spots (s1_divisors v z) = p1_spots v := rfl
theorem gs1_spots_uppers (v : BX1) (z : (Nat → Int64)) : p1_spots (s1_uppers v z) = p1_spots v := rfl
theorem gs1_spots_lowers (v : BX1) (z : (Nat → Int64)) : p1_spots (s1_lowers v z) = p1_spots v := rfl
theorem gs1_lower_spots (v : BX1) (z : (Nat → Int64)) : p1_lower (s1_spots v z) = p1_lower v := rfl
theorem gs1_lower_lower (v : BX1) (z : Int64) : p1_lower (s1_lower v z) = z := rfl
theorem gs1_lower_lowest (v : BX1) (z : (Nat → Int32)) : p1_lower (s1_lowest v z) = p1_lower v := rfl
theorem gs1_lower_highest (v : BX1) (z : (Nat → Int32)) : p1_lower (s1_highest v z) = p1_lower v := rfl
theorem gs1_lower_holds (v : BX1) (z : (Nat → Int32)) : p1_lower (s1_holds v z) = p1_lower v := rfl
theorem gs1_lower_constants (v : BX1) (z : (Nat → Int64)) : p1_lower (s1_constants v z) = p1_lower v := rfl
theorem gs1_lower_slopes (v : BX1) (z : (Nat → Int64)) : p1_lower (s1_slopes v z) = p1_lower v := rfl
theorem gs1_lower_divisors (v : BX1) (z : (Nat → Int64)) : p1_lower (s1_divisors v z) = p1_lower v := rfl
theorem gs1_lower_uppers (v : BX1) (z : (Nat → Int64)) : p1_lower (s1_uppers v z) = p1_lower v := rfl
theorem gs1_lower_lowers (v : BX1) (z : (Nat → Int64)) : p1_lower (s1_lowers v z) = p1_lower v := rfl
theorem gs1_lowest_spots (v : BX1) (z : (Nat → Int64)) : p1_lowest (s1_spots v z) = p1_lowest v := rfl
theorem gs1_lowest_lower (v : BX1) (z : Int64) : p1_lowest (s1_lower v z) = p1_lowest v := rfl
theorem gs1_lowest_lowest (v : BX1) (z : (Nat → Int32)) : p1_lowest (s1_lowest v z) = z := rfl
theorem gs1_lowest_highest (v : BX1) (z : (Nat → Int32)) : p1_lowest (s1_highest v z) = p1_lowest v := rfl
theorem gs1_lowest_holds (v : BX1) (z : (Nat → Int32)) : p1_lowest (s1_holds v z) = p1_lowest v := rfl
theorem gs1_lowest_constants (v : BX1) (z : (Nat → Int64)) : p1_lowest (s1_constants v z) = p1_lowest v := rfl
theorem gs1_lowest_slopes (v : BX1) (z : (Nat → Int64)) : p1_lowest (s1_slopes v z) = p1_lowest v := rfl
theorem gs1_lowest_divisors (v : BX1) (z : (Nat → Int64)) : p1_lowest (s1_divisors v z) = p1_lowest v := rfl
theorem gs1_lowest_uppers (v : BX1) (z : (Nat → Int64)) : p1_lowest (s1_uppers v z) = p1_lowest v := rfl
theorem gs1_lowest_lowers (v : BX1) (z : (Nat → Int64)) : p1_lowest (s1_lowers v z) = p1_lowest v := rfl
theorem gs1_highest_spots (v : BX1) (z : (Nat → Int64)) : p1_highest (s1_spots v z) = p1_highest v := rfl
theorem gs1_highest_lower (v : BX1) (z : Int64) : p1_highest (s1_lower v z) = p1_highest v := rfl
theorem gs1_highest_lowest (v : BX1) (z : (Nat → Int32)) : p1_highest (s1_lowest v z) = p1_highest v := rfl
theorem gs1_highest_highest (v : BX1) (z : (Nat → Int32)) : p1_highest (s1_highest v z) = z := rfl
theorem gs1_highest_holds (v : BX1) (z : (Nat → Int32)) : p1_highest (s1_holds v z) = p1_highest v := rfl
theorem gs1_highest_constants (v : BX1) (z : (Nat → Int64)) : p1_highest (s1_constants v z) = p1_highest v := rfl
theorem gs1_highest_slopes (v : BX1) (z : (Nat → Int64)) : p1_highest (s1_slopes v z) = p1_highest v := rfl
theorem gs1_highest_divisors (v : BX1) (z : (Nat → Int64)) : p1_highest (s1_divisors v z) = p1_highest v := rfl
theorem gs1_highest_uppers (v : BX1) (z : (Nat → Int64)) : p1_highest (s1_uppers v z) = p1_highest v := rfl
theorem gs1_highest_lowers (v : BX1) (z : (Nat → Int64)) : p1_highest (s1_lowers v z) = p1_highest v := rfl
theorem gs1_holds_spots (v : BX1) (z : (Nat → Int64)) : p1_holds (s1_spots v z) = p1_holds v := rfl
theorem gs1_holds_lower (v : BX1) (z : Int64) : p1_holds (s1_lower v z) = p1_holds v := rfl
theorem gs1_holds_lowest (v : BX1) (z : (Nat → Int32)) : p1_holds (s1_lowest v z) = p1_holds v := rfl
theorem gs1_holds_highest (v : BX1) (z : (Nat → Int32)) : p1_holds (s1_highest v z) = p1_holds v := rfl
theorem gs1_holds_holds (v : BX1) (z : (Nat → Int32)) : p1_holds (s1_holds v z) = z := rfl
theorem gs1_holds_constants (v : BX1) (z : (Nat → Int64)) : p1_holds (s1_constants v z) = p1_holds v := rfl
theorem gs1_holds_slopes (v : BX1) (z : (Nat → Int64)) : p1_holds (s1_slopes v z) = p1_holds v := rfl
theorem gs1_holds_divisors (v : BX1) (z : (Nat → Int64)) : p1_holds (s1_divisors v z) = p1_holds v := rfl
theorem gs1_holds_uppers (v : BX1) (z : (Nat → Int64)) : p1_holds (s1_uppers v z) = p1_holds v := rfl
theorem gs1_holds_lowers (v : BX1) (z : (Nat → Int64)) : p1_holds (s1_lowers v z) = p1_holds v := rfl
theorem gs1_constants_spots (v : BX1) (z : (Nat → Int64)) : p1_constants (s1_spots v z) = p1_constants v := rfl
theorem gs1_constants_lower (v : BX1) (z : Int64) : p1_constants (s1_lower v z) = p1_constants v := rfl
theorem gs1_constants_lowest (v : BX1) (z : (Nat → Int32)) : p1_constants (s1_lowest v z) = p1_constants v := rfl
theorem gs1_constants_highest (v : BX1) (z : (Nat → Int32)) : p1_constants (s1_highest v z) = p1_constants v := rfl
theorem gs1_constants_holds (v : BX1) (z : (Nat → Int32)) : p1_constants (s1_holds v z) = p1_constants v := rfl
theorem gs1_constants_constants (v : BX1) (z : (Nat → Int64)) : p1_constants (s1_constants v z) = z := rfl
theorem gs1_constants_slopes (v : BX1) (z : (Nat → Int64)) : p1_constants (s1_slopes v z) = p1_constants v := rfl
theorem gs1_constants_divisors (v : BX1) (z : (Nat → Int64)) : p1_constants (s1_divisors v z) = p1_constants v := rfl
theorem gs1_constants_uppers (v : BX1) (z : (Nat → Int64)) : p1_constants (s1_uppers v z) = p1_constants v := rfl
theorem gs1_constants_lowers (v : BX1) (z : (Nat → Int64)) : p1_constants (s1_lowers v z) = p1_constants v := rfl
theorem gs1_slopes_spots (v : BX1) (z : (Nat → Int64)) : p1_slopes (s1_spots v z) = p1_slopes v := rfl
theorem gs1_slopes_lower (v : BX1) (z : Int64) : p1_slopes (s1_lower v z) = p1_slopes v := rfl
theorem gs1_slopes_lowest (v : BX1) (z : (Nat → Int32)) : p1_slopes (s1_lowest v z) = p1_slopes v := rfl
theorem gs1_slopes_highest (v : BX1) (z : (Nat → Int32)) : p1_slopes (s1_highest v z) = p1_slopes v := rfl
theorem gs1_slopes_holds (v : BX1) (z : (Nat → Int32)) : p1_slopes (s1_holds v z) = p1_slopes v := rfl
theorem gs1_slopes_constants (v : BX1) (z : (Nat → Int64)) : p1_slopes (s1_constants v z) = p1_slopes v := rfl
theorem gs1_slopes_slopes (v : BX1) (z : (Nat → Int64)) : p1_slopes (s1_slopes v z) = z := rfl
theorem gs1_slopes_divisors (v : BX1) (z : (Nat → Int64)) : p1_slopes (s1_divisors v z) = p1_slopes v := rfl
theorem gs1_slopes_uppers (v : BX1) (z : (Nat → Int64)) : p1_slopes (s1_uppers v z) = p1_slopes v := rfl
theorem gs1_slopes_lowers (v : BX1) (z : (Nat → Int64)) : p1_slopes (s1_lowers v z) = p1_slopes v := rfl
theorem gs1_divisors_spots (v : BX1) (z : (Nat → Int64)) : p1_divisors (s1_spots v z) = p1_divisors v := rfl
theorem gs1_divisors_lower (v : BX1) (z : Int64) : p1_divisors (s1_lower v z) = p1_divisors v := rfl
theorem gs1_divisors_lowest (v : BX1) (z : (Nat → Int32)) : p1_divisors (s1_lowest v z) = p1_divisors v := rfl
theorem gs1_divisors_highest (v : BX1) (z : (Nat → Int32)) : p1_divisors (s1_highest v z) = p1_divisors v := rfl
theorem gs1_divisors_holds (v : BX1) (z : (Nat → Int32)) : p1_divisors (s1_holds v z) = p1_divisors v := rfl
theorem gs1_divisors_constants (v : BX1) (z : (Nat → Int64)) : p1_divisors (s1_constants v z) = p1_divisors v := rfl
theorem gs1_divisors_slopes (v : BX1) (z : (Nat → Int64)) : p1_divisors (s1_slopes v z) = p1_divisors v := rfl
theorem gs1_divisors_divisors (v : BX1) (z : (Nat → Int64)) : p1_divisors (s1_divisors v z) = z := rfl
theorem gs1_divisors_uppers (v : BX1) (z : (Nat → Int64)) : p1_divisors (s1_uppers v z) = p1_divisors v := rfl
theorem gs1_divisors_lowers (v : BX1) (z : (Nat → Int64)) : p1_divisors (s1_lowers v z) = p1_divisors v := rfl
theorem gs1_uppers_spots (v : BX1) (z : (Nat → Int64)) : p1_uppers (s1_spots v z) = p1_uppers v := rfl
theorem gs1_uppers_lower (v : BX1) (z : Int64) : p1_uppers (s1_lower v z) = p1_uppers v := rfl
theorem gs1_uppers_lowest (v : BX1) (z : (Nat → Int32)) : p1_uppers (s1_lowest v z) = p1_uppers v := rfl
theorem gs1_uppers_highest (v : BX1) (z : (Nat → Int32)) : p1_uppers (s1_highest v z) = p1_uppers v := rfl
theorem gs1_uppers_holds (v : BX1) (z : (Nat → Int32)) : p1_uppers (s1_holds v z) = p1_uppers v := rfl
theorem gs1_uppers_constants (v : BX1) (z : (Nat → Int64)) : p1_uppers (s1_constants v z) = p1_uppers v := rfl
theorem gs1_uppers_slopes (v : BX1) (z : (Nat → Int64)) : p1_uppers (s1_slopes v z) = p1_uppers v := rfl
theorem gs1_uppers_divisors (v : BX1) (z : (Nat → Int64)) : p1_uppers (s1_divisors v z) = p1_uppers v := rfl
theorem gs1_uppers_uppers (v : BX1) (z : (Nat → Int64)) : p1_uppers (s1_uppers v z) = z := rfl
theorem gs1_uppers_lowers (v : BX1) (z : (Nat → Int64)) : p1_uppers (s1_lowers v z) = p1_uppers v := rfl
theorem gs1_lowers_spots (v : BX1) (z : (Nat → Int64)) : p1_lowers (s1_spots v z) = p1_lowers v := rfl
theorem gs1_lowers_lower (v : BX1) (z : Int64) : p1_lowers (s1_lower v z) = p1_lowers v := rfl
theorem gs1_lowers_lowest (v : BX1) (z : (Nat → Int32)) : p1_lowers (s1_lowest v z) = p1_lowers v := rfl
theorem gs1_lowers_highest (v : BX1) (z : (Nat → Int32)) : p1_lowers (s1_highest v z) = p1_lowers v := rfl
theorem gs1_lowers_holds (v : BX1) (z : (Nat → Int32)) : p1_lowers (s1_holds v z) = p1_lowers v := rfl
theorem gs1_lowers_constants (v : BX1) (z : (Nat → Int64)) : p1_lowers (s1_constants v z) = p1_lowers v := rfl
theorem gs1_lowers_slopes (v : BX1) (z : (Nat → Int64)) : p1_lowers (s1_slopes v z) = p1_lowers v := rfl
theorem gs1_lowers_divisors (v : BX1) (z : (Nat → Int64)) : p1_lowers (s1_divisors v z) = p1_lowers v := rfl
theorem gs1_lowers_uppers (v : BX1) (z : (Nat → Int64)) : p1_lowers (s1_uppers v z) = p1_lowers v := rfl
theorem gs1_lowers_lowers (v : BX1) (z : (Nat → Int64)) : p1_lowers (s1_lowers v z) = z := rfl
theorem gs2_characters_characters (v : BX2) (z : (Nat → Int32)) : p2_characters (s2_characters v z) = z := rfl
theorem gs2_characters_size (v : BX2) (z : Int32) : p2_characters (s2_size v z) = p2_characters v := rfl
theorem gs2_characters_settings (v : BX2) (z : Int32) : p2_characters (s2_settings v z) = p2_characters v := rfl
theorem gs2_characters_reason (v : BX2) (z : Int32) : p2_characters (s2_reason v z) = p2_characters v := rfl
theorem gs2_characters_cause (v : BX2) (z : Int32) : p2_characters (s2_cause v z) = p2_characters v := rfl
theorem gs2_characters_start (v : BX2) (z : Int32) : p2_characters (s2_start v z) = p2_characters v := rfl
theorem gs2_characters_next (v : BX2) (z : Int32) : p2_characters (s2_next v z) = p2_characters v := rfl
theorem gs2_characters_numbers (v : BX2) (z : (Nat → Int32)) : p2_characters (s2_numbers v z) = p2_characters v := rfl
theorem gs2_characters_numberCount (v : BX2) (z : Int32) : p2_characters (s2_numberCount v z) = p2_characters v := rfl
theorem gs2_size_characters (v : BX2) (z : (Nat → Int32)) : p2_size (s2_characters v z) = p2_size v := rfl
theorem gs2_size_size (v : BX2) (z : Int32) : p2_size (s2_size v z) = z := rfl
theorem gs2_size_settings (v : BX2) (z : Int32) : p2_size (s2_settings v z) = p2_size v := rfl
theorem gs2_size_reason (v : BX2) (z : Int32) : p2_size (s2_reason v z) = p2_size v := rfl
theorem gs2_size_cause (v : BX2) (z : Int32) : p2_size (s2_cause v z) = p2_size v := rfl
theorem gs2_size_start (v : BX2) (z : Int32) : p2_size (s2_start v z) = p2_size v := rfl
theorem gs2_size_next (v : BX2) (z : Int32) : p2_size (s2_next v z) = p2_size v := rfl
theorem gs2_size_numbers (v : BX2) (z : (Nat → Int32)) : p2_size (s2_numbers v z) = p2_size v := rfl
theorem gs2_size_numberCount (v : BX2) (z : Int32) : p2_size (s2_numberCount v z) = p2_size v := rfl
theorem gs2_settings_characters (v : BX2) (z : (Nat → Int32)) : p2_settings (s2_characters v z) = p2_settings v := rfl
theorem gs2_settings_size (v : BX2) (z : Int32) : p2_settings (s2_size v z) = p2_settings v := rfl
theorem gs2_settings_settings (v : BX2) (z : Int32) : p2_settings (s2_settings v z) = z := rfl
theorem gs2_settings_reason (v : BX2) (z : Int32) : p2_settings (s2_reason v z) = p2_settings v := rfl
theorem gs2_settings_cause (v : BX2) (z : Int32) : p2_settings (s2_cause v z) = p2_settings v := rfl
theorem gs2_settings_start (v : BX2) (z : Int32) : p2_settings (s2_start v z) = p2_settings v := rfl
theorem gs2_settings_next (v : BX2) (z : Int32) : p2_settings (s2_next v z) = p2_settings v := rfl
theorem gs2_settings_numbers (v : BX2) (z : (Nat → Int32)) : p2_settings (s2_numbers v z) = p2_settings v := rfl
theorem gs2_settings_numberCount (v : BX2) (z : Int32) : p2_settings (s2_numberCount v z) = p2_settings v := rfl
theorem gs2_reason_characters (v : BX2) (z : (Nat → Int32)) : p2_reason (s2_characters v z) = p2_reason v := rfl
theorem gs2_reason_size (v : BX2) (z : Int32) : p2_reason (s2_size v z) = p2_reason v := rfl
theorem gs2_reason_settings (v : BX2) (z : Int32) : p2_reason (s2_settings v z) = p2_reason v := rfl
theorem gs2_reason_reason (v : BX2) (z : Int32) : p2_reason (s2_reason v z) = z := rfl
theorem gs2_reason_cause (v : BX2) (z : Int32) : p2_reason (s2_cause v z) = p2_reason v := rfl
theorem gs2_reason_start (v : BX2) (z : Int32) : p2_reason (s2_start v z) = p2_reason v := rfl
theorem gs2_reason_next (v : BX2) (z : Int32) : p2_reason (s2_next v z) = p2_reason v := rfl
theorem gs2_reason_numbers (v : BX2) (z : (Nat → Int32)) : p2_reason (s2_numbers v z) = p2_reason v := rfl
theorem gs2_reason_numberCount (v : BX2) (z : Int32) : p2_reason (s2_numberCount v z) = p2_reason v := rfl
theorem gs2_cause_characters (v : BX2) (z : (Nat → Int32)) : p2_cause (s2_characters v z) = p2_cause v := rfl
theorem gs2_cause_size (v : BX2) (z : Int32) : p2_cause (s2_size v z) = p2_cause v := rfl
theorem gs2_cause_settings (v : BX2) (z : Int32) : p2_cause (s2_settings v z) = p2_cause v := rfl
theorem gs2_cause_reason (v : BX2) (z : Int32) : p2_cause (s2_reason v z) = p2_cause v := rfl
theorem gs2_cause_cause (v : BX2) (z : Int32) : p2_cause (s2_cause v z) = z := rfl
theorem gs2_cause_start (v : BX2) (z : Int32) : p2_cause (s2_start v z) = p2_cause v := rfl
theorem gs2_cause_next (v : BX2) (z : Int32) : p2_cause (s2_next v z) = p2_cause v := rfl
theorem gs2_cause_numbers (v : BX2) (z : (Nat → Int32)) : p2_cause (s2_numbers v z) = p2_cause v := rfl
theorem gs2_cause_numberCount (v : BX2) (z : Int32) : p2_cause (s2_numberCount v z) = p2_cause v := rfl
theorem gs2_start_characters (v : BX2) (z : (Nat → Int32)) : p2_start (s2_characters v z) = p2_start v := rfl
theorem gs2_start_size (v : BX2) (z : Int32) : p2_start (s2_size v z) = p2_start v := rfl
theorem gs2_start_settings (v : BX2) (z : Int32) : p2_start (s2_settings v z) = p2_start v := rfl
theorem gs2_start_reason (v : BX2) (z : Int32) : p2_start (s2_reason v z) = p2_start v := rfl
theorem gs2_start_cause (v : BX2) (z : Int32) : p2_start (s2_cause v z) = p2_start v := rfl
theorem gs2_start_start (v : BX2) (z : Int32) : p2_start (s2_start v z) = z := rfl
theorem gs2_start_next (v : BX2) (z : Int32) : p2_start (s2_next v z) = p2_start v := rfl
theorem gs2_start_numbers (v : BX2) (z : (Nat → Int32)) : p2_start (s2_numbers v z) = p2_start v := rfl
theorem gs2_start_numberCount (v : BX2) (z : Int32) : p2_start (s2_numberCount v z) = p2_start v := rfl
theorem gs2_next_characters (v : BX2) (z : (Nat → Int32)) : p2_next (s2_characters v z) = p2_next v := rfl
theorem gs2_next_size (v : BX2) (z : Int32) : p2_next (s2_size v z) = p2_next v := rfl
theorem gs2_next_settings (v : BX2) (z : Int32) : p2_next (s2_settings v z) = p2_next v := rfl
theorem gs2_next_reason (v : BX2) (z : Int32) : p2_next (s2_reason v z) = p2_next v := rfl
theorem gs2_next_cause (v : BX2) (z : Int32) : p2_next (s2_cause v z) = p2_next v := rfl
theorem gs2_next_start (v : BX2) (z : Int32) : p2_next (s2_start v z) = p2_next v := rfl
theorem gs2_next_next (v : BX2) (z : Int32) : p2_next (s2_next v z) = z := rfl
theorem gs2_next_numbers (v : BX2) (z : (Nat → Int32)) : p2_next (s2_numbers v z) = p2_next v := rfl
theorem gs2_next_numberCount (v : BX2) (z : Int32) : p2_next (s2_numberCount v z) = p2_next v := rfl
theorem gs2_numbers_characters (v : BX2) (z : (Nat → Int32)) : p2_numbers (s2_characters v z) = p2_numbers v := rfl
theorem gs2_numbers_size (v : BX2) (z : Int32) : p2_numbers (s2_size v z) = p2_numbers v := rfl
theorem gs2_numbers_settings (v : BX2) (z : Int32) : p2_numbers (s2_settings v z) = p2_numbers v := rfl
theorem gs2_numbers_reason (v : BX2) (z : Int32) : p2_numbers (s2_reason v z) = p2_numbers v := rfl
theorem gs2_numbers_cause (v : BX2) (z : Int32) : p2_numbers (s2_cause v z) = p2_numbers v := rfl
theorem gs2_numbers_start (v : BX2) (z : Int32) : p2_numbers (s2_start v z) = p2_numbers v := rfl
theorem gs2_numbers_next (v : BX2) (z : Int32) : p2_numbers (s2_next v z) = p2_numbers v := rfl
theorem gs2_numbers_numbers (v : BX2) (z : (Nat → Int32)) : p2_numbers (s2_numbers v z) = z := rfl
theorem gs2_numbers_numberCount (v : BX2) (z : Int32) : p2_numbers (s2_numberCount v z) = p2_numbers v := rfl
theorem gs2_numberCount_characters (v : BX2) (z : (Nat → Int32)) : p2_numberCount (s2_characters v z) = p2_numberCount v := rfl
theorem gs2_numberCount_size (v : BX2) (z : Int32) : p2_numberCount (s2_size v z) = p2_numberCount v := rfl
theorem gs2_numberCount_settings (v : BX2) (z : Int32) : p2_numberCount (s2_settings v z) = p2_numberCount v := rfl
theorem gs2_numberCount_reason (v : BX2) (z : Int32) : p2_numberCount (s2_reason v z) = p2_numberCount v := rfl
theorem gs2_numberCount_cause (v : BX2) (z : Int32) : p2_numberCount (s2_cause v z) = p2_numberCount v := rfl
theorem gs2_numberCount_start (v : BX2) (z : Int32) : p2_numberCount (s2_start v z) = p2_numberCount v := rfl
theorem gs2_numberCount_next (v : BX2) (z : Int32) : p2_numberCount (s2_next v z) = p2_numberCount v := rfl
theorem gs2_numberCount_numbers (v : BX2) (z : (Nat → Int32)) : p2_numberCount (s2_numbers v z) = p2_numberCount v := rfl
theorem gs2_numberCount_numberCount (v : BX2) (z : Int32) : p2_numberCount (s2_numberCount v z) = z := rfl
theorem gs3_states_states (v : BX3) (z : Int32) : p3_states (s3_states v z) = z := rfl
theorem gs3_states_restKnown (v : BX3) (z : Int32) : p3_states (s3_restKnown v z) = p3_states v := rfl
theorem gs3_restKnown_states (v : BX3) (z : Int32) : p3_restKnown (s3_states v z) = p3_restKnown v := rfl
theorem gs3_restKnown_restKnown (v : BX3) (z : Int32) : p3_restKnown (s3_restKnown v z) = z := rfl
theorem gs4_s_s (v : BX4) (z : (Nat → Int32)) : p4_s (s4_s v z) = z := rfl
theorem gs4_s_past (v : BX4) (z : (Nat → Int32)) : p4_s (s4_past v z) = p4_s v := rfl
theorem gs4_s_held (v : BX4) (z : (Nat → Int32)) : p4_s (s4_held v z) = p4_s v := rfl
theorem gs4_s_pasts (v : BX4) (z : Int32) : p4_s (s4_pasts v z) = p4_s v := rfl
theorem gs4_s_runs (v : BX4) (z : Int32) : p4_s (s4_runs v z) = p4_s v := rfl
theorem gs4_s_text (v : BX4) (z : (Nat → Int32)) : p4_s (s4_text v z) = p4_s v := rfl
theorem gs4_s_typed (v : BX4) (z : Int32) : p4_s (s4_typed v z) = p4_s v := rfl
theorem gs4_s_upper (v : BX4) (z : (Nat → Int64)) : p4_s (s4_upper v z) = p4_s v := rfl
theorem gs4_s_lower (v : BX4) (z : Int64) : p4_s (s4_lower v z) = p4_s v := rfl
theorem gs4_s_first (v : BX4) (z : (Nat → Int32)) : p4_s (s4_first v z) = p4_s v := rfl
theorem gs4_s_grid (v : BX4) (z : (Nat → Int64)) : p4_s (s4_grid v z) = p4_s v := rfl
theorem gs4_s_blocks (v : BX4) (z : Int32) : p4_s (s4_blocks v z) = p4_s v := rfl
theorem gs4_s_kept (v : BX4) (z : (Nat → Int64)) : p4_s (s4_kept v z) = p4_s v := rfl
theorem gs4_s_keptLower (v : BX4) (z : Int64) : p4_s (s4_keptLower v z) = p4_s v := rfl
theorem gs4_s_farUp (v : BX4) (z : Int64) : p4_s (s4_farUp v z) = p4_s v := rfl
theorem gs4_s_farDown (v : BX4) (z : Int64) : p4_s (s4_farDown v z) = p4_s v := rfl
theorem gs4_s_spot (v : BX4) (z : Int32) : p4_s (s4_spot v z) = p4_s v := rfl
theorem gs4_s_reason (v : BX4) (z : Int32) : p4_s (s4_reason v z) = p4_s v := rfl
theorem gs4_s_cause (v : BX4) (z : Int32) : p4_s (s4_cause v z) = p4_s v := rfl
theorem gs4_s_settings (v : BX4) (z : Int32) : p4_s (s4_settings v z) = p4_s v := rfl
theorem gs4_s_told (v : BX4) (z : (Nat → Int32)) : p4_s (s4_told v z) = p4_s v := rfl
theorem gs4_past_s (v : BX4) (z : (Nat → Int32)) : p4_past (s4_s v z) = p4_past v := rfl
theorem gs4_past_past (v : BX4) (z : (Nat → Int32)) : p4_past (s4_past v z) = z := rfl
theorem gs4_past_held (v : BX4) (z : (Nat → Int32)) : p4_past (s4_held v z) = p4_past v := rfl
theorem gs4_past_pasts (v : BX4) (z : Int32) : p4_past (s4_pasts v z) = p4_past v := rfl
theorem gs4_past_runs (v : BX4) (z : Int32) : p4_past (s4_runs v z) = p4_past v := rfl
theorem gs4_past_text (v : BX4) (z : (Nat → Int32)) : p4_past (s4_text v z) = p4_past v := rfl
theorem gs4_past_typed (v : BX4) (z : Int32) : p4_past (s4_typed v z) = p4_past v := rfl
theorem gs4_past_upper (v : BX4) (z : (Nat → Int64)) : p4_past (s4_upper v z) = p4_past v := rfl
theorem gs4_past_lower (v : BX4) (z : Int64) : p4_past (s4_lower v z) = p4_past v := rfl
theorem gs4_past_first (v : BX4) (z : (Nat → Int32)) : p4_past (s4_first v z) = p4_past v := rfl
theorem gs4_past_grid (v : BX4) (z : (Nat → Int64)) : p4_past (s4_grid v z) = p4_past v := rfl
theorem gs4_past_blocks (v : BX4) (z : Int32) : p4_past (s4_blocks v z) = p4_past v := rfl
theorem gs4_past_kept (v : BX4) (z : (Nat → Int64)) : p4_past (s4_kept v z) = p4_past v := rfl
theorem gs4_past_keptLower (v : BX4) (z : Int64) : p4_past (s4_keptLower v z) = p4_past v := rfl
theorem gs4_past_farUp (v : BX4) (z : Int64) : p4_past (s4_farUp v z) = p4_past v := rfl
theorem gs4_past_farDown (v : BX4) (z : Int64) : p4_past (s4_farDown v z) = p4_past v := rfl
theorem gs4_past_spot (v : BX4) (z : Int32) : p4_past (s4_spot v z) = p4_past v := rfl
theorem gs4_past_reason (v : BX4) (z : Int32) : p4_past (s4_reason v z) = p4_past v := rfl
theorem gs4_past_cause (v : BX4) (z : Int32) : p4_past (s4_cause v z) = p4_past v := rfl
theorem gs4_past_settings (v : BX4) (z : Int32) : p4_past (s4_settings v z) = p4_past v := rfl
theorem gs4_past_told (v : BX4) (z : (Nat → Int32)) : p4_past (s4_told v z) = p4_past v := rfl
theorem gs4_held_s (v : BX4) (z : (Nat → Int32)) : p4_held (s4_s v z) = p4_held v := rfl
theorem gs4_held_past (v : BX4) (z : (Nat → Int32)) : p4_held (s4_past v z) = p4_held v := rfl
theorem gs4_held_held (v : BX4) (z : (Nat → Int32)) : p4_held (s4_held v z) = z := rfl
theorem gs4_held_pasts (v : BX4) (z : Int32) : p4_held (s4_pasts v z) = p4_held v := rfl
theorem gs4_held_runs (v : BX4) (z : Int32) : p4_held (s4_runs v z) = p4_held v := rfl
theorem gs4_held_text (v : BX4) (z : (Nat → Int32)) : p4_held (s4_text v z) = p4_held v := rfl
theorem gs4_held_typed (v : BX4) (z : Int32) : p4_held (s4_typed v z) = p4_held v := rfl
theorem gs4_held_upper (v : BX4) (z : (Nat → Int64)) : p4_held (s4_upper v z) = p4_held v := rfl
theorem gs4_held_lower (v : BX4) (z : Int64) : p4_held (s4_lower v z) = p4_held v := rfl
theorem gs4_held_first (v : BX4) (z : (Nat → Int32)) : p4_held (s4_first v z) = p4_held v := rfl
theorem gs4_held_grid (v : BX4) (z : (Nat → Int64)) : p4_held (s4_grid v z) = p4_held v := rfl
theorem gs4_held_blocks (v : BX4) (z : Int32) : p4_held (s4_blocks v z) = p4_held v := rfl
theorem gs4_held_kept (v : BX4) (z : (Nat → Int64)) : p4_held (s4_kept v z) = p4_held v := rfl
theorem gs4_held_keptLower (v : BX4) (z : Int64) : p4_held (s4_keptLower v z) = p4_held v := rfl
theorem gs4_held_farUp (v : BX4) (z : Int64) : p4_held (s4_farUp v z) = p4_held v := rfl
theorem gs4_held_farDown (v : BX4) (z : Int64) : p4_held (s4_farDown v z) = p4_held v := rfl
theorem gs4_held_spot (v : BX4) (z : Int32) : p4_held (s4_spot v z) = p4_held v := rfl
theorem gs4_held_reason (v : BX4) (z : Int32) : p4_held (s4_reason v z) = p4_held v := rfl
theorem gs4_held_cause (v : BX4) (z : Int32) : p4_held (s4_cause v z) = p4_held v := rfl
theorem gs4_held_settings (v : BX4) (z : Int32) : p4_held (s4_settings v z) = p4_held v := rfl
theorem gs4_held_told (v : BX4) (z : (Nat → Int32)) : p4_held (s4_told v z) = p4_held v := rfl
theorem gs4_pasts_s (v : BX4) (z : (Nat → Int32)) : p4_pasts (s4_s v z) = p4_pasts v := rfl
theorem gs4_pasts_past (v : BX4) (z : (Nat → Int32)) : p4_pasts (s4_past v z) = p4_pasts v := rfl
theorem gs4_pasts_held (v : BX4) (z : (Nat → Int32)) : p4_pasts (s4_held v z) = p4_pasts v := rfl
theorem gs4_pasts_pasts (v : BX4) (z : Int32) : p4_pasts (s4_pasts v z) = z := rfl
theorem gs4_pasts_runs (v : BX4) (z : Int32) : p4_pasts (s4_runs v z) = p4_pasts v := rfl
theorem gs4_pasts_text (v : BX4) (z : (Nat → Int32)) : p4_pasts (s4_text v z) = p4_pasts v := rfl
theorem gs4_pasts_typed (v : BX4) (z : Int32) : p4_pasts (s4_typed v z) = p4_pasts v := rfl
theorem gs4_pasts_upper (v : BX4) (z : (Nat → Int64)) : p4_pasts (s4_upper v z) = p4_pasts v := rfl
theorem gs4_pasts_lower (v : BX4) (z : Int64) : p4_pasts (s4_lower v z) = p4_pasts v := rfl
theorem gs4_pasts_first (v : BX4) (z : (Nat → Int32)) : p4_pasts (s4_first v z) = p4_pasts v := rfl
theorem gs4_pasts_grid (v : BX4) (z : (Nat → Int64)) : p4_pasts (s4_grid v z) = p4_pasts v := rfl
theorem gs4_pasts_blocks (v : BX4) (z : Int32) : p4_pasts (s4_blocks v z) = p4_pasts v := rfl
theorem gs4_pasts_kept (v : BX4) (z : (Nat → Int64)) : p4_pasts (s4_kept v z) = p4_pasts v := rfl
theorem gs4_pasts_keptLower (v : BX4) (z : Int64) : p4_pasts (s4_keptLower v z) = p4_pasts v := rfl
theorem gs4_pasts_farUp (v : BX4) (z : Int64) : p4_pasts (s4_farUp v z) = p4_pasts v := rfl
theorem gs4_pasts_farDown (v : BX4) (z : Int64) : p4_pasts (s4_farDown v z) = p4_pasts v := rfl
theorem gs4_pasts_spot (v : BX4) (z : Int32) : p4_pasts (s4_spot v z) = p4_pasts v := rfl
theorem gs4_pasts_reason (v : BX4) (z : Int32) : p4_pasts (s4_reason v z) = p4_pasts v := rfl
theorem gs4_pasts_cause (v : BX4) (z : Int32) : p4_pasts (s4_cause v z) = p4_pasts v := rfl
theorem gs4_pasts_settings (v : BX4) (z : Int32) : p4_pasts (s4_settings v z) = p4_pasts v := rfl
theorem gs4_pasts_told (v : BX4) (z : (Nat → Int32)) : p4_pasts (s4_told v z) = p4_pasts v := rfl
theorem gs4_runs_s (v : BX4) (z : (Nat → Int32)) : p4_runs (s4_s v z) = p4_runs v := rfl
theorem gs4_runs_past (v : BX4) (z : (Nat → Int32)) : p4_runs (s4_past v z) = p4_runs v := rfl
theorem gs4_runs_held (v : BX4) (z : (Nat → Int32)) : p4_runs (s4_held v z) = p4_runs v := rfl
theorem gs4_runs_pasts (v : BX4) (z : Int32) : p4_runs (s4_pasts v z) = p4_runs v := rfl
theorem gs4_runs_runs (v : BX4) (z : Int32) : p4_runs (s4_runs v z) = z := rfl
theorem gs4_runs_text (v : BX4) (z : (Nat → Int32)) : p4_runs (s4_text v z) = p4_runs v := rfl
theorem gs4_runs_typed (v : BX4) (z : Int32) : p4_runs (s4_typed v z) = p4_runs v := rfl
theorem gs4_runs_upper (v : BX4) (z : (Nat → Int64)) : p4_runs (s4_upper v z) = p4_runs v := rfl
theorem gs4_runs_lower (v : BX4) (z : Int64) : p4_runs (s4_lower v z) = p4_runs v := rfl
theorem gs4_runs_first (v : BX4) (z : (Nat → Int32)) : p4_runs (s4_first v z) = p4_runs v := rfl
theorem gs4_runs_grid (v : BX4) (z : (Nat → Int64)) : p4_runs (s4_grid v z) = p4_runs v := rfl
theorem gs4_runs_blocks (v : BX4) (z : Int32) : p4_runs (s4_blocks v z) = p4_runs v := rfl
theorem gs4_runs_kept (v : BX4) (z : (Nat → Int64)) : p4_runs (s4_kept v z) = p4_runs v := rfl
theorem gs4_runs_keptLower (v : BX4) (z : Int64) : p4_runs (s4_keptLower v z) = p4_runs v := rfl
theorem gs4_runs_farUp (v : BX4) (z : Int64) : p4_runs (s4_farUp v z) = p4_runs v := rfl
theorem gs4_runs_farDown (v : BX4) (z : Int64) : p4_runs (s4_farDown v z) = p4_runs v := rfl
theorem gs4_runs_spot (v : BX4) (z : Int32) : p4_runs (s4_spot v z) = p4_runs v := rfl
theorem gs4_runs_reason (v : BX4) (z : Int32) : p4_runs (s4_reason v z) = p4_runs v := rfl
theorem gs4_runs_cause (v : BX4) (z : Int32) : p4_runs (s4_cause v z) = p4_runs v := rfl
theorem gs4_runs_settings (v : BX4) (z : Int32) : p4_runs (s4_settings v z) = p4_runs v := rfl
theorem gs4_runs_told (v : BX4) (z : (Nat → Int32)) : p4_runs (s4_told v z) = p4_runs v := rfl
theorem gs4_text_s (v : BX4) (z : (Nat → Int32)) : p4_text (s4_s v z) = p4_text v := rfl
theorem gs4_text_past (v : BX4) (z : (Nat → Int32)) : p4_text (s4_past v z) = p4_text v := rfl
theorem gs4_text_held (v : BX4) (z : (Nat → Int32)) : p4_text (s4_held v z) = p4_text v := rfl
theorem gs4_text_pasts (v : BX4) (z : Int32) : p4_text (s4_pasts v z) = p4_text v := rfl
theorem gs4_text_runs (v : BX4) (z : Int32) : p4_text (s4_runs v z) = p4_text v := rfl
theorem gs4_text_text (v : BX4) (z : (Nat → Int32)) : p4_text (s4_text v z) = z := rfl
theorem gs4_text_typed (v : BX4) (z : Int32) : p4_text (s4_typed v z) = p4_text v := rfl
theorem gs4_text_upper (v : BX4) (z : (Nat → Int64)) : p4_text (s4_upper v z) = p4_text v := rfl
theorem gs4_text_lower (v : BX4) (z : Int64) : p4_text (s4_lower v z) = p4_text v := rfl
theorem gs4_text_first (v : BX4) (z : (Nat → Int32)) : p4_text (s4_first v z) = p4_text v := rfl
theorem gs4_text_grid (v : BX4) (z : (Nat → Int64)) : p4_text (s4_grid v z) = p4_text v := rfl
theorem gs4_text_blocks (v : BX4) (z : Int32) : p4_text (s4_blocks v z) = p4_text v := rfl
theorem gs4_text_kept (v : BX4) (z : (Nat → Int64)) : p4_text (s4_kept v z) = p4_text v := rfl
theorem gs4_text_keptLower (v : BX4) (z : Int64) : p4_text (s4_keptLower v z) = p4_text v := rfl
theorem gs4_text_farUp (v : BX4) (z : Int64) : p4_text (s4_farUp v z) = p4_text v := rfl
theorem gs4_text_farDown (v : BX4) (z : Int64) : p4_text (s4_farDown v z) = p4_text v := rfl
theorem gs4_text_spot (v : BX4) (z : Int32) : p4_text (s4_spot v z) = p4_text v := rfl
theorem gs4_text_reason (v : BX4) (z : Int32) : p4_text (s4_reason v z) = p4_text v := rfl
theorem gs4_text_cause (v : BX4) (z : Int32) : p4_text (s4_cause v z) = p4_text v := rfl
theorem gs4_text_settings (v : BX4) (z : Int32) : p4_text (s4_settings v z) = p4_text v := rfl
theorem gs4_text_told (v : BX4) (z : (Nat → Int32)) : p4_text (s4_told v z) = p4_text v := rfl
theorem gs4_typed_s (v : BX4) (z : (Nat → Int32)) : p4_typed (s4_s v z) = p4_typed v := rfl
theorem gs4_typed_past (v : BX4) (z : (Nat → Int32)) : p4_typed (s4_past v z) = p4_typed v := rfl
theorem gs4_typed_held (v : BX4) (z : (Nat → Int32)) : p4_typed (s4_held v z) = p4_typed v := rfl
theorem gs4_typed_pasts (v : BX4) (z : Int32) : p4_typed (s4_pasts v z) = p4_typed v := rfl
theorem gs4_typed_runs (v : BX4) (z : Int32) : p4_typed (s4_runs v z) = p4_typed v := rfl
theorem gs4_typed_text (v : BX4) (z : (Nat → Int32)) : p4_typed (s4_text v z) = p4_typed v := rfl
theorem gs4_typed_typed (v : BX4) (z : Int32) : p4_typed (s4_typed v z) = z := rfl
theorem gs4_typed_upper (v : BX4) (z : (Nat → Int64)) : p4_typed (s4_upper v z) = p4_typed v := rfl
theorem gs4_typed_lower (v : BX4) (z : Int64) : p4_typed (s4_lower v z) = p4_typed v := rfl
theorem gs4_typed_first (v : BX4) (z : (Nat → Int32)) : p4_typed (s4_first v z) = p4_typed v := rfl
theorem gs4_typed_grid (v : BX4) (z : (Nat → Int64)) : p4_typed (s4_grid v z) = p4_typed v := rfl
theorem gs4_typed_blocks (v : BX4) (z : Int32) : p4_typed (s4_blocks v z) = p4_typed v := rfl
theorem gs4_typed_kept (v : BX4) (z : (Nat → Int64)) : p4_typed (s4_kept v z) = p4_typed v := rfl
theorem gs4_typed_keptLower (v : BX4) (z : Int64) : p4_typed (s4_keptLower v z) = p4_typed v := rfl
theorem gs4_typed_farUp (v : BX4) (z : Int64) : p4_typed (s4_farUp v z) = p4_typed v := rfl
theorem gs4_typed_farDown (v : BX4) (z : Int64) : p4_typed (s4_farDown v z) = p4_typed v := rfl
theorem gs4_typed_spot (v : BX4) (z : Int32) : p4_typed (s4_spot v z) = p4_typed v := rfl
theorem gs4_typed_reason (v : BX4) (z : Int32) : p4_typed (s4_reason v z) = p4_typed v := rfl
theorem gs4_typed_cause (v : BX4) (z : Int32) : p4_typed (s4_cause v z) = p4_typed v := rfl
theorem gs4_typed_settings (v : BX4) (z : Int32) : p4_typed (s4_settings v z) = p4_typed v := rfl
theorem gs4_typed_told (v : BX4) (z : (Nat → Int32)) : p4_typed (s4_told v z) = p4_typed v := rfl
theorem gs4_upper_s (v : BX4) (z : (Nat → Int32)) : p4_upper (s4_s v z) = p4_upper v := rfl
theorem gs4_upper_past (v : BX4) (z : (Nat → Int32)) : p4_upper (s4_past v z) = p4_upper v := rfl
theorem gs4_upper_held (v : BX4) (z : (Nat → Int32)) : p4_upper (s4_held v z) = p4_upper v := rfl
theorem gs4_upper_pasts (v : BX4) (z : Int32) : p4_upper (s4_pasts v z) = p4_upper v := rfl
theorem gs4_upper_runs (v : BX4) (z : Int32) : p4_upper (s4_runs v z) = p4_upper v := rfl
theorem gs4_upper_text (v : BX4) (z : (Nat → Int32)) : p4_upper (s4_text v z) = p4_upper v := rfl
theorem gs4_upper_typed (v : BX4) (z : Int32) : p4_upper (s4_typed v z) = p4_upper v := rfl
theorem gs4_upper_upper (v : BX4) (z : (Nat → Int64)) : p4_upper (s4_upper v z) = z := rfl
theorem gs4_upper_lower (v : BX4) (z : Int64) : p4_upper (s4_lower v z) = p4_upper v := rfl
theorem gs4_upper_first (v : BX4) (z : (Nat → Int32)) : p4_upper (s4_first v z) = p4_upper v := rfl
theorem gs4_upper_grid (v : BX4) (z : (Nat → Int64)) : p4_upper (s4_grid v z) = p4_upper v := rfl
theorem gs4_upper_blocks (v : BX4) (z : Int32) : p4_upper (s4_blocks v z) = p4_upper v := rfl
theorem gs4_upper_kept (v : BX4) (z : (Nat → Int64)) : p4_upper (s4_kept v z) = p4_upper v := rfl
theorem gs4_upper_keptLower (v : BX4) (z : Int64) : p4_upper (s4_keptLower v z) = p4_upper v := rfl
theorem gs4_upper_farUp (v : BX4) (z : Int64) : p4_upper (s4_farUp v z) = p4_upper v := rfl
theorem gs4_upper_farDown (v : BX4) (z : Int64) : p4_upper (s4_farDown v z) = p4_upper v := rfl
theorem gs4_upper_spot (v : BX4) (z : Int32) : p4_upper (s4_spot v z) = p4_upper v := rfl
theorem gs4_upper_reason (v : BX4) (z : Int32) : p4_upper (s4_reason v z) = p4_upper v := rfl
theorem gs4_upper_cause (v : BX4) (z : Int32) : p4_upper (s4_cause v z) = p4_upper v := rfl
theorem gs4_upper_settings (v : BX4) (z : Int32) : p4_upper (s4_settings v z) = p4_upper v := rfl
theorem gs4_upper_told (v : BX4) (z : (Nat → Int32)) : p4_upper (s4_told v z) = p4_upper v := rfl
theorem gs4_lower_s (v : BX4) (z : (Nat → Int32)) : p4_lower (s4_s v z) = p4_lower v := rfl
theorem gs4_lower_past (v : BX4) (z : (Nat → Int32)) : p4_lower (s4_past v z) = p4_lower v := rfl
theorem gs4_lower_held (v : BX4) (z : (Nat → Int32)) : p4_lower (s4_held v z) = p4_lower v := rfl
theorem gs4_lower_pasts (v : BX4) (z : Int32) : p4_lower (s4_pasts v z) = p4_lower v := rfl
theorem gs4_lower_runs (v : BX4) (z : Int32) : p4_lower (s4_runs v z) = p4_lower v := rfl
theorem gs4_lower_text (v : BX4) (z : (Nat → Int32)) : p4_lower (s4_text v z) = p4_lower v := rfl
theorem gs4_lower_typed (v : BX4) (z : Int32) : p4_lower (s4_typed v z) = p4_lower v := rfl
theorem gs4_lower_upper (v : BX4) (z : (Nat → Int64)) : p4_lower (s4_upper v z) = p4_lower v := rfl
theorem gs4_lower_lower (v : BX4) (z : Int64) : p4_lower (s4_lower v z) = z := rfl
theorem gs4_lower_first (v : BX4) (z : (Nat → Int32)) : p4_lower (s4_first v z) = p4_lower v := rfl
theorem gs4_lower_grid (v : BX4) (z : (Nat → Int64)) : p4_lower (s4_grid v z) = p4_lower v := rfl
theorem gs4_lower_blocks (v : BX4) (z : Int32) : p4_lower (s4_blocks v z) = p4_lower v := rfl
theorem gs4_lower_kept (v : BX4) (z : (Nat → Int64)) : p4_lower (s4_kept v z) = p4_lower v := rfl
theorem gs4_lower_keptLower (v : BX4) (z : Int64) : p4_lower (s4_keptLower v z) = p4_lower v := rfl
theorem gs4_lower_farUp (v : BX4) (z : Int64) : p4_lower (s4_farUp v z) = p4_lower v := rfl
theorem gs4_lower_farDown (v : BX4) (z : Int64) : p4_lower (s4_farDown v z) = p4_lower v := rfl
theorem gs4_lower_spot (v : BX4) (z : Int32) : p4_lower (s4_spot v z) = p4_lower v := rfl
theorem gs4_lower_reason (v : BX4) (z : Int32) : p4_lower (s4_reason v z) = p4_lower v := rfl
theorem gs4_lower_cause (v : BX4) (z : Int32) : p4_lower (s4_cause v z) = p4_lower v := rfl
theorem gs4_lower_settings (v : BX4) (z : Int32) : p4_lower (s4_settings v z) = p4_lower v := rfl
theorem gs4_lower_told (v : BX4) (z : (Nat → Int32)) : p4_lower (s4_told v z) = p4_lower v := rfl
theorem gs4_first_s (v : BX4) (z : (Nat → Int32)) : p4_first (s4_s v z) = p4_first v := rfl
theorem gs4_first_past (v : BX4) (z : (Nat → Int32)) : p4_first (s4_past v z) = p4_first v := rfl
theorem gs4_first_held (v : BX4) (z : (Nat → Int32)) : p4_first (s4_held v z) = p4_first v := rfl
theorem gs4_first_pasts (v : BX4) (z : Int32) : p4_first (s4_pasts v z) = p4_first v := rfl
theorem gs4_first_runs (v : BX4) (z : Int32) : p4_first (s4_runs v z) = p4_first v := rfl
theorem gs4_first_text (v : BX4) (z : (Nat → Int32)) : p4_first (s4_text v z) = p4_first v := rfl
theorem gs4_first_typed (v : BX4) (z : Int32) : p4_first (s4_typed v z) = p4_first v := rfl
theorem gs4_first_upper (v : BX4) (z : (Nat → Int64)) : p4_first (s4_upper v z) = p4_first v := rfl
theorem gs4_first_lower (v : BX4) (z : Int64) : p4_first (s4_lower v z) = p4_first v := rfl
theorem gs4_first_first (v : BX4) (z : (Nat → Int32)) : p4_first (s4_first v z) = z := rfl
theorem gs4_first_grid (v : BX4) (z : (Nat → Int64)) : p4_first (s4_grid v z) = p4_first v := rfl
theorem gs4_first_blocks (v : BX4) (z : Int32) : p4_first (s4_blocks v z) = p4_first v := rfl
theorem gs4_first_kept (v : BX4) (z : (Nat → Int64)) : p4_first (s4_kept v z) = p4_first v := rfl
theorem gs4_first_keptLower (v : BX4) (z : Int64) : p4_first (s4_keptLower v z) = p4_first v := rfl
theorem gs4_first_farUp (v : BX4) (z : Int64) : p4_first (s4_farUp v z) = p4_first v := rfl
theorem gs4_first_farDown (v : BX4) (z : Int64) : p4_first (s4_farDown v z) = p4_first v := rfl
theorem gs4_first_spot (v : BX4) (z : Int32) : p4_first (s4_spot v z) = p4_first v := rfl
theorem gs4_first_reason (v : BX4) (z : Int32) : p4_first (s4_reason v z) = p4_first v := rfl
theorem gs4_first_cause (v : BX4) (z : Int32) : p4_first (s4_cause v z) = p4_first v := rfl
theorem gs4_first_settings (v : BX4) (z : Int32) : p4_first (s4_settings v z) = p4_first v := rfl
theorem gs4_first_told (v : BX4) (z : (Nat → Int32)) : p4_first (s4_told v z) = p4_first v := rfl
theorem gs4_grid_s (v : BX4) (z : (Nat → Int32)) : p4_grid (s4_s v z) = p4_grid v := rfl
theorem gs4_grid_past (v : BX4) (z : (Nat → Int32)) : p4_grid (s4_past v z) = p4_grid v := rfl
theorem gs4_grid_held (v : BX4) (z : (Nat → Int32)) : p4_grid (s4_held v z) = p4_grid v := rfl
theorem gs4_grid_pasts (v : BX4) (z : Int32) : p4_grid (s4_pasts v z) = p4_grid v := rfl
theorem gs4_grid_runs (v : BX4) (z : Int32) : p4_grid (s4_runs v z) = p4_grid v := rfl
theorem gs4_grid_text (v : BX4) (z : (Nat → Int32)) : p4_grid (s4_text v z) = p4_grid v := rfl
theorem gs4_grid_typed (v : BX4) (z : Int32) : p4_grid (s4_typed v z) = p4_grid v := rfl
theorem gs4_grid_upper (v : BX4) (z : (Nat → Int64)) : p4_grid (s4_upper v z) = p4_grid v := rfl
theorem gs4_grid_lower (v : BX4) (z : Int64) : p4_grid (s4_lower v z) = p4_grid v := rfl
theorem gs4_grid_first (v : BX4) (z : (Nat → Int32)) : p4_grid (s4_first v z) = p4_grid v := rfl
theorem gs4_grid_grid (v : BX4) (z : (Nat → Int64)) : p4_grid (s4_grid v z) = z := rfl
theorem gs4_grid_blocks (v : BX4) (z : Int32) : p4_grid (s4_blocks v z) = p4_grid v := rfl
theorem gs4_grid_kept (v : BX4) (z : (Nat → Int64)) : p4_grid (s4_kept v z) = p4_grid v := rfl
theorem gs4_grid_keptLower (v : BX4) (z : Int64) : p4_grid (s4_keptLower v z) = p4_grid v := rfl
theorem gs4_grid_farUp (v : BX4) (z : Int64) : p4_grid (s4_farUp v z) = p4_grid v := rfl
theorem gs4_grid_farDown (v : BX4) (z : Int64) : p4_grid (s4_farDown v z) = p4_grid v := rfl
theorem gs4_grid_spot (v : BX4) (z : Int32) : p4_grid (s4_spot v z) = p4_grid v := rfl
theorem gs4_grid_reason (v : BX4) (z : Int32) : p4_grid (s4_reason v z) = p4_grid v := rfl
theorem gs4_grid_cause (v : BX4) (z : Int32) : p4_grid (s4_cause v z) = p4_grid v := rfl
theorem gs4_grid_settings (v : BX4) (z : Int32) : p4_grid (s4_settings v z) = p4_grid v := rfl
theorem gs4_grid_told (v : BX4) (z : (Nat → Int32)) : p4_grid (s4_told v z) = p4_grid v := rfl
theorem gs4_blocks_s (v : BX4) (z : (Nat → Int32)) : p4_blocks (s4_s v z) = p4_blocks v := rfl
theorem gs4_blocks_past (v : BX4) (z : (Nat → Int32)) : p4_blocks (s4_past v z) = p4_blocks v := rfl
theorem gs4_blocks_held (v : BX4) (z : (Nat → Int32)) : p4_blocks (s4_held v z) = p4_blocks v := rfl
theorem gs4_blocks_pasts (v : BX4) (z : Int32) : p4_blocks (s4_pasts v z) = p4_blocks v := rfl
theorem gs4_blocks_runs (v : BX4) (z : Int32) : p4_blocks (s4_runs v z) = p4_blocks v := rfl
theorem gs4_blocks_text (v : BX4) (z : (Nat → Int32)) : p4_blocks (s4_text v z) = p4_blocks v := rfl
theorem gs4_blocks_typed (v : BX4) (z : Int32) : p4_blocks (s4_typed v z) = p4_blocks v := rfl
theorem gs4_blocks_upper (v : BX4) (z : (Nat → Int64)) : p4_blocks (s4_upper v z) = p4_blocks v := rfl
theorem gs4_blocks_lower (v : BX4) (z : Int64) : p4_blocks (s4_lower v z) = p4_blocks v := rfl
theorem gs4_blocks_first (v : BX4) (z : (Nat → Int32)) : p4_blocks (s4_first v z) = p4_blocks v := rfl
theorem gs4_blocks_grid (v : BX4) (z : (Nat → Int64)) : p4_blocks (s4_grid v z) = p4_blocks v := rfl
theorem gs4_blocks_blocks (v : BX4) (z : Int32) : p4_blocks (s4_blocks v z) = z := rfl
theorem gs4_blocks_kept (v : BX4) (z : (Nat → Int64)) : p4_blocks (s4_kept v z) = p4_blocks v := rfl
theorem gs4_blocks_keptLower (v : BX4) (z : Int64) : p4_blocks (s4_keptLower v z) = p4_blocks v := rfl
theorem gs4_blocks_farUp (v : BX4) (z : Int64) : p4_blocks (s4_farUp v z) = p4_blocks v := rfl
theorem gs4_blocks_farDown (v : BX4) (z : Int64) : p4_blocks (s4_farDown v z) = p4_blocks v := rfl
theorem gs4_blocks_spot (v : BX4) (z : Int32) : p4_blocks (s4_spot v z) = p4_blocks v := rfl
theorem gs4_blocks_reason (v : BX4) (z : Int32) : p4_blocks (s4_reason v z) = p4_blocks v := rfl
theorem gs4_blocks_cause (v : BX4) (z : Int32) : p4_blocks (s4_cause v z) = p4_blocks v := rfl
theorem gs4_blocks_settings (v : BX4) (z : Int32) : p4_blocks (s4_settings v z) = p4_blocks v := rfl
theorem gs4_blocks_told (v : BX4) (z : (Nat → Int32)) : p4_blocks (s4_told v z) = p4_blocks v := rfl
theorem gs4_kept_s (v : BX4) (z : (Nat → Int32)) : p4_kept (s4_s v z) = p4_kept v := rfl
theorem gs4_kept_past (v : BX4) (z : (Nat → Int32)) : p4_kept (s4_past v z) = p4_kept v := rfl
theorem gs4_kept_held (v : BX4) (z : (Nat → Int32)) : p4_kept (s4_held v z) = p4_kept v := rfl
theorem gs4_kept_pasts (v : BX4) (z : Int32) : p4_kept (s4_pasts v z) = p4_kept v := rfl
theorem gs4_kept_runs (v : BX4) (z : Int32) : p4_kept (s4_runs v z) = p4_kept v := rfl
theorem gs4_kept_text (v : BX4) (z : (Nat → Int32)) : p4_kept (s4_text v z) = p4_kept v := rfl
theorem gs4_kept_typed (v : BX4) (z : Int32) : p4_kept (s4_typed v z) = p4_kept v := rfl
theorem gs4_kept_upper (v : BX4) (z : (Nat → Int64)) : p4_kept (s4_upper v z) = p4_kept v := rfl
theorem gs4_kept_lower (v : BX4) (z : Int64) : p4_kept (s4_lower v z) = p4_kept v := rfl
theorem gs4_kept_first (v : BX4) (z : (Nat → Int32)) : p4_kept (s4_first v z) = p4_kept v := rfl
theorem gs4_kept_grid (v : BX4) (z : (Nat → Int64)) : p4_kept (s4_grid v z) = p4_kept v := rfl
theorem gs4_kept_blocks (v : BX4) (z : Int32) : p4_kept (s4_blocks v z) = p4_kept v := rfl
theorem gs4_kept_kept (v : BX4) (z : (Nat → Int64)) : p4_kept (s4_kept v z) = z := rfl
theorem gs4_kept_keptLower (v : BX4) (z : Int64) : p4_kept (s4_keptLower v z) = p4_kept v := rfl
theorem gs4_kept_farUp (v : BX4) (z : Int64) : p4_kept (s4_farUp v z) = p4_kept v := rfl
theorem gs4_kept_farDown (v : BX4) (z : Int64) : p4_kept (s4_farDown v z) = p4_kept v := rfl
theorem gs4_kept_spot (v : BX4) (z : Int32) : p4_kept (s4_spot v z) = p4_kept v := rfl
theorem gs4_kept_reason (v : BX4) (z : Int32) : p4_kept (s4_reason v z) = p4_kept v := rfl
theorem gs4_kept_cause (v : BX4) (z : Int32) : p4_kept (s4_cause v z) = p4_kept v := rfl
theorem gs4_kept_settings (v : BX4) (z : Int32) : p4_kept (s4_settings v z) = p4_kept v := rfl
theorem gs4_kept_told (v : BX4) (z : (Nat → Int32)) : p4_kept (s4_told v z) = p4_kept v := rfl
theorem gs4_keptLower_s (v : BX4) (z : (Nat → Int32)) : p4_keptLower (s4_s v z) = p4_keptLower v := rfl
theorem gs4_keptLower_past (v : BX4) (z : (Nat → Int32)) : p4_keptLower (s4_past v z) = p4_keptLower v := rfl
theorem gs4_keptLower_held (v : BX4) (z : (Nat → Int32)) : p4_keptLower (s4_held v z) = p4_keptLower v := rfl
theorem gs4_keptLower_pasts (v : BX4) (z : Int32) : p4_keptLower (s4_pasts v z) = p4_keptLower v := rfl
theorem gs4_keptLower_runs (v : BX4) (z : Int32) : p4_keptLower (s4_runs v z) = p4_keptLower v := rfl
theorem gs4_keptLower_text (v : BX4) (z : (Nat → Int32)) : p4_keptLower (s4_text v z) = p4_keptLower v := rfl
theorem gs4_keptLower_typed (v : BX4) (z : Int32) : p4_keptLower (s4_typed v z) = p4_keptLower v := rfl
theorem gs4_keptLower_upper (v : BX4) (z : (Nat → Int64)) : p4_keptLower (s4_upper v z) = p4_keptLower v := rfl
theorem gs4_keptLower_lower (v : BX4) (z : Int64) : p4_keptLower (s4_lower v z) = p4_keptLower v := rfl
theorem gs4_keptLower_first (v : BX4) (z : (Nat → Int32)) : p4_keptLower (s4_first v z) = p4_keptLower v := rfl
theorem gs4_keptLower_grid (v : BX4) (z : (Nat → Int64)) : p4_keptLower (s4_grid v z) = p4_keptLower v := rfl
theorem gs4_keptLower_blocks (v : BX4) (z : Int32) : p4_keptLower (s4_blocks v z) = p4_keptLower v := rfl
theorem gs4_keptLower_kept (v : BX4) (z : (Nat → Int64)) : p4_keptLower (s4_kept v z) = p4_keptLower v := rfl
theorem gs4_keptLower_keptLower (v : BX4) (z : Int64) : p4_keptLower (s4_keptLower v z) = z := rfl
theorem gs4_keptLower_farUp (v : BX4) (z : Int64) : p4_keptLower (s4_farUp v z) = p4_keptLower v := rfl
theorem gs4_keptLower_farDown (v : BX4) (z : Int64) : p4_keptLower (s4_farDown v z) = p4_keptLower v := rfl
theorem gs4_keptLower_spot (v : BX4) (z : Int32) : p4_keptLower (s4_spot v z) = p4_keptLower v := rfl
theorem gs4_keptLower_reason (v : BX4) (z : Int32) : p4_keptLower (s4_reason v z) = p4_keptLower v := rfl
theorem gs4_keptLower_cause (v : BX4) (z : Int32) : p4_keptLower (s4_cause v z) = p4_keptLower v := rfl
theorem gs4_keptLower_settings (v : BX4) (z : Int32) : p4_keptLower (s4_settings v z) = p4_keptLower v := rfl
theorem gs4_keptLower_told (v : BX4) (z : (Nat → Int32)) : p4_keptLower (s4_told v z) = p4_keptLower v := rfl
theorem gs4_farUp_s (v : BX4) (z : (Nat → Int32)) : p4_farUp (s4_s v z) = p4_farUp v := rfl
theorem gs4_farUp_past (v : BX4) (z : (Nat → Int32)) : p4_farUp (s4_past v z) = p4_farUp v := rfl
theorem gs4_farUp_held (v : BX4) (z : (Nat → Int32)) : p4_farUp (s4_held v z) = p4_farUp v := rfl
theorem gs4_farUp_pasts (v : BX4) (z : Int32) : p4_farUp (s4_pasts v z) = p4_farUp v := rfl
theorem gs4_farUp_runs (v : BX4) (z : Int32) : p4_farUp (s4_runs v z) = p4_farUp v := rfl
theorem gs4_farUp_text (v : BX4) (z : (Nat → Int32)) : p4_farUp (s4_text v z) = p4_farUp v := rfl
theorem gs4_farUp_typed (v : BX4) (z : Int32) : p4_farUp (s4_typed v z) = p4_farUp v := rfl
theorem gs4_farUp_upper (v : BX4) (z : (Nat → Int64)) : p4_farUp (s4_upper v z) = p4_farUp v := rfl
theorem gs4_farUp_lower (v : BX4) (z : Int64) : p4_farUp (s4_lower v z) = p4_farUp v := rfl
theorem gs4_farUp_first (v : BX4) (z : (Nat → Int32)) : p4_farUp (s4_first v z) = p4_farUp v := rfl
theorem gs4_farUp_grid (v : BX4) (z : (Nat → Int64)) : p4_farUp (s4_grid v z) = p4_farUp v := rfl
theorem gs4_farUp_blocks (v : BX4) (z : Int32) : p4_farUp (s4_blocks v z) = p4_farUp v := rfl
theorem gs4_farUp_kept (v : BX4) (z : (Nat → Int64)) : p4_farUp (s4_kept v z) = p4_farUp v := rfl
theorem gs4_farUp_keptLower (v : BX4) (z : Int64) : p4_farUp (s4_keptLower v z) = p4_farUp v := rfl
theorem gs4_farUp_farUp (v : BX4) (z : Int64) : p4_farUp (s4_farUp v z) = z := rfl
theorem gs4_farUp_farDown (v : BX4) (z : Int64) : p4_farUp (s4_farDown v z) = p4_farUp v := rfl
theorem gs4_farUp_spot (v : BX4) (z : Int32) : p4_farUp (s4_spot v z) = p4_farUp v := rfl
theorem gs4_farUp_reason (v : BX4) (z : Int32) : p4_farUp (s4_reason v z) = p4_farUp v := rfl
theorem gs4_farUp_cause (v : BX4) (z : Int32) : p4_farUp (s4_cause v z) = p4_farUp v := rfl
theorem gs4_farUp_settings (v : BX4) (z : Int32) : p4_farUp (s4_settings v z) = p4_farUp v := rfl
theorem gs4_farUp_told (v : BX4) (z : (Nat → Int32)) : p4_farUp (s4_told v z) = p4_farUp v := rfl
theorem gs4_farDown_s (v : BX4) (z : (Nat → Int32)) : p4_farDown (s4_s v z) = p4_farDown v := rfl
theorem gs4_farDown_past (v : BX4) (z : (Nat → Int32)) : p4_farDown (s4_past v z) = p4_farDown v := rfl
theorem gs4_farDown_held (v : BX4) (z : (Nat → Int32)) : p4_farDown (s4_held v z) = p4_farDown v := rfl
theorem gs4_farDown_pasts (v : BX4) (z : Int32) : p4_farDown (s4_pasts v z) = p4_farDown v := rfl
theorem gs4_farDown_runs (v : BX4) (z : Int32) : p4_farDown (s4_runs v z) = p4_farDown v := rfl
theorem gs4_farDown_text (v : BX4) (z : (Nat → Int32)) : p4_farDown (s4_text v z) = p4_farDown v := rfl
theorem gs4_farDown_typed (v : BX4) (z : Int32) : p4_farDown (s4_typed v z) = p4_farDown v := rfl
theorem gs4_farDown_upper (v : BX4) (z : (Nat → Int64)) : p4_farDown (s4_upper v z) = p4_farDown v := rfl
theorem gs4_farDown_lower (v : BX4) (z : Int64) : p4_farDown (s4_lower v z) = p4_farDown v := rfl
theorem gs4_farDown_first (v : BX4) (z : (Nat → Int32)) : p4_farDown (s4_first v z) = p4_farDown v := rfl
theorem gs4_farDown_grid (v : BX4) (z : (Nat → Int64)) : p4_farDown (s4_grid v z) = p4_farDown v := rfl
theorem gs4_farDown_blocks (v : BX4) (z : Int32) : p4_farDown (s4_blocks v z) = p4_farDown v := rfl
theorem gs4_farDown_kept (v : BX4) (z : (Nat → Int64)) : p4_farDown (s4_kept v z) = p4_farDown v := rfl
theorem gs4_farDown_keptLower (v : BX4) (z : Int64) : p4_farDown (s4_keptLower v z) = p4_farDown v := rfl
theorem gs4_farDown_farUp (v : BX4) (z : Int64) : p4_farDown (s4_farUp v z) = p4_farDown v := rfl
theorem gs4_farDown_farDown (v : BX4) (z : Int64) : p4_farDown (s4_farDown v z) = z := rfl
theorem gs4_farDown_spot (v : BX4) (z : Int32) : p4_farDown (s4_spot v z) = p4_farDown v := rfl
theorem gs4_farDown_reason (v : BX4) (z : Int32) : p4_farDown (s4_reason v z) = p4_farDown v := rfl
theorem gs4_farDown_cause (v : BX4) (z : Int32) : p4_farDown (s4_cause v z) = p4_farDown v := rfl
theorem gs4_farDown_settings (v : BX4) (z : Int32) : p4_farDown (s4_settings v z) = p4_farDown v := rfl
theorem gs4_farDown_told (v : BX4) (z : (Nat → Int32)) : p4_farDown (s4_told v z) = p4_farDown v := rfl
theorem gs4_spot_s (v : BX4) (z : (Nat → Int32)) : p4_spot (s4_s v z) = p4_spot v := rfl
theorem gs4_spot_past (v : BX4) (z : (Nat → Int32)) : p4_spot (s4_past v z) = p4_spot v := rfl
theorem gs4_spot_held (v : BX4) (z : (Nat → Int32)) : p4_spot (s4_held v z) = p4_spot v := rfl
theorem gs4_spot_pasts (v : BX4) (z : Int32) : p4_spot (s4_pasts v z) = p4_spot v := rfl
theorem gs4_spot_runs (v : BX4) (z : Int32) : p4_spot (s4_runs v z) = p4_spot v := rfl
theorem gs4_spot_text (v : BX4) (z : (Nat → Int32)) : p4_spot (s4_text v z) = p4_spot v := rfl
theorem gs4_spot_typed (v : BX4) (z : Int32) : p4_spot (s4_typed v z) = p4_spot v := rfl
theorem gs4_spot_upper (v : BX4) (z : (Nat → Int64)) : p4_spot (s4_upper v z) = p4_spot v := rfl
theorem gs4_spot_lower (v : BX4) (z : Int64) : p4_spot (s4_lower v z) = p4_spot v := rfl
theorem gs4_spot_first (v : BX4) (z : (Nat → Int32)) : p4_spot (s4_first v z) = p4_spot v := rfl
theorem gs4_spot_grid (v : BX4) (z : (Nat → Int64)) : p4_spot (s4_grid v z) = p4_spot v := rfl
theorem gs4_spot_blocks (v : BX4) (z : Int32) : p4_spot (s4_blocks v z) = p4_spot v := rfl
theorem gs4_spot_kept (v : BX4) (z : (Nat → Int64)) : p4_spot (s4_kept v z) = p4_spot v := rfl
theorem gs4_spot_keptLower (v : BX4) (z : Int64) : p4_spot (s4_keptLower v z) = p4_spot v := rfl
theorem gs4_spot_farUp (v : BX4) (z : Int64) : p4_spot (s4_farUp v z) = p4_spot v := rfl
theorem gs4_spot_farDown (v : BX4) (z : Int64) : p4_spot (s4_farDown v z) = p4_spot v := rfl
theorem gs4_spot_spot (v : BX4) (z : Int32) : p4_spot (s4_spot v z) = z := rfl
theorem gs4_spot_reason (v : BX4) (z : Int32) : p4_spot (s4_reason v z) = p4_spot v := rfl
theorem gs4_spot_cause (v : BX4) (z : Int32) : p4_spot (s4_cause v z) = p4_spot v := rfl
theorem gs4_spot_settings (v : BX4) (z : Int32) : p4_spot (s4_settings v z) = p4_spot v := rfl
theorem gs4_spot_told (v : BX4) (z : (Nat → Int32)) : p4_spot (s4_told v z) = p4_spot v := rfl
theorem gs4_reason_s (v : BX4) (z : (Nat → Int32)) : p4_reason (s4_s v z) = p4_reason v := rfl
theorem gs4_reason_past (v : BX4) (z : (Nat → Int32)) : p4_reason (s4_past v z) = p4_reason v := rfl
theorem gs4_reason_held (v : BX4) (z : (Nat → Int32)) : p4_reason (s4_held v z) = p4_reason v := rfl
theorem gs4_reason_pasts (v : BX4) (z : Int32) : p4_reason (s4_pasts v z) = p4_reason v := rfl
theorem gs4_reason_runs (v : BX4) (z : Int32) : p4_reason (s4_runs v z) = p4_reason v := rfl
theorem gs4_reason_text (v : BX4) (z : (Nat → Int32)) : p4_reason (s4_text v z) = p4_reason v := rfl
theorem gs4_reason_typed (v : BX4) (z : Int32) : p4_reason (s4_typed v z) = p4_reason v := rfl
theorem gs4_reason_upper (v : BX4) (z : (Nat → Int64)) : p4_reason (s4_upper v z) = p4_reason v := rfl
theorem gs4_reason_lower (v : BX4) (z : Int64) : p4_reason (s4_lower v z) = p4_reason v := rfl
theorem gs4_reason_first (v : BX4) (z : (Nat → Int32)) : p4_reason (s4_first v z) = p4_reason v := rfl
theorem gs4_reason_grid (v : BX4) (z : (Nat → Int64)) : p4_reason (s4_grid v z) = p4_reason v := rfl
theorem gs4_reason_blocks (v : BX4) (z : Int32) : p4_reason (s4_blocks v z) = p4_reason v := rfl
theorem gs4_reason_kept (v : BX4) (z : (Nat → Int64)) : p4_reason (s4_kept v z) = p4_reason v := rfl
theorem gs4_reason_keptLower (v : BX4) (z : Int64) : p4_reason (s4_keptLower v z) = p4_reason v := rfl
theorem gs4_reason_farUp (v : BX4) (z : Int64) : p4_reason (s4_farUp v z) = p4_reason v := rfl
theorem gs4_reason_farDown (v : BX4) (z : Int64) : p4_reason (s4_farDown v z) = p4_reason v := rfl
theorem gs4_reason_spot (v : BX4) (z : Int32) : p4_reason (s4_spot v z) = p4_reason v := rfl
theorem gs4_reason_reason (v : BX4) (z : Int32) : p4_reason (s4_reason v z) = z := rfl
theorem gs4_reason_cause (v : BX4) (z : Int32) : p4_reason (s4_cause v z) = p4_reason v := rfl
theorem gs4_reason_settings (v : BX4) (z : Int32) : p4_reason (s4_settings v z) = p4_reason v := rfl
theorem gs4_reason_told (v : BX4) (z : (Nat → Int32)) : p4_reason (s4_told v z) = p4_reason v := rfl
theorem gs4_cause_s (v : BX4) (z : (Nat → Int32)) : p4_cause (s4_s v z) = p4_cause v := rfl
theorem gs4_cause_past (v : BX4) (z : (Nat → Int32)) : p4_cause (s4_past v z) = p4_cause v := rfl
theorem gs4_cause_held (v : BX4) (z : (Nat → Int32)) : p4_cause (s4_held v z) = p4_cause v := rfl
theorem gs4_cause_pasts (v : BX4) (z : Int32) : p4_cause (s4_pasts v z) = p4_cause v := rfl
theorem gs4_cause_runs (v : BX4) (z : Int32) : p4_cause (s4_runs v z) = p4_cause v := rfl
theorem gs4_cause_text (v : BX4) (z : (Nat → Int32)) : p4_cause (s4_text v z) = p4_cause v := rfl
theorem gs4_cause_typed (v : BX4) (z : Int32) : p4_cause (s4_typed v z) = p4_cause v := rfl
theorem gs4_cause_upper (v : BX4) (z : (Nat → Int64)) : p4_cause (s4_upper v z) = p4_cause v := rfl
theorem gs4_cause_lower (v : BX4) (z : Int64) : p4_cause (s4_lower v z) = p4_cause v := rfl
theorem gs4_cause_first (v : BX4) (z : (Nat → Int32)) : p4_cause (s4_first v z) = p4_cause v := rfl
theorem gs4_cause_grid (v : BX4) (z : (Nat → Int64)) : p4_cause (s4_grid v z) = p4_cause v := rfl
theorem gs4_cause_blocks (v : BX4) (z : Int32) : p4_cause (s4_blocks v z) = p4_cause v := rfl
theorem gs4_cause_kept (v : BX4) (z : (Nat → Int64)) : p4_cause (s4_kept v z) = p4_cause v := rfl
theorem gs4_cause_keptLower (v : BX4) (z : Int64) : p4_cause (s4_keptLower v z) = p4_cause v := rfl
theorem gs4_cause_farUp (v : BX4) (z : Int64) : p4_cause (s4_farUp v z) = p4_cause v := rfl
theorem gs4_cause_farDown (v : BX4) (z : Int64) : p4_cause (s4_farDown v z) = p4_cause v := rfl
theorem gs4_cause_spot (v : BX4) (z : Int32) : p4_cause (s4_spot v z) = p4_cause v := rfl
theorem gs4_cause_reason (v : BX4) (z : Int32) : p4_cause (s4_reason v z) = p4_cause v := rfl
theorem gs4_cause_cause (v : BX4) (z : Int32) : p4_cause (s4_cause v z) = z := rfl
theorem gs4_cause_settings (v : BX4) (z : Int32) : p4_cause (s4_settings v z) = p4_cause v := rfl
theorem gs4_cause_told (v : BX4) (z : (Nat → Int32)) : p4_cause (s4_told v z) = p4_cause v := rfl
theorem gs4_settings_s (v : BX4) (z : (Nat → Int32)) : p4_settings (s4_s v z) = p4_settings v := rfl
theorem gs4_settings_past (v : BX4) (z : (Nat → Int32)) : p4_settings (s4_past v z) = p4_settings v := rfl
theorem gs4_settings_held (v : BX4) (z : (Nat → Int32)) : p4_settings (s4_held v z) = p4_settings v := rfl
theorem gs4_settings_pasts (v : BX4) (z : Int32) : p4_settings (s4_pasts v z) = p4_settings v := rfl
theorem gs4_settings_runs (v : BX4) (z : Int32) : p4_settings (s4_runs v z) = p4_settings v := rfl
theorem gs4_settings_text (v : BX4) (z : (Nat → Int32)) : p4_settings (s4_text v z) = p4_settings v := rfl
theorem gs4_settings_typed (v : BX4) (z : Int32) : p4_settings (s4_typed v z) = p4_settings v := rfl
theorem gs4_settings_upper (v : BX4) (z : (Nat → Int64)) : p4_settings (s4_upper v z) = p4_settings v := rfl
theorem gs4_settings_lower (v : BX4) (z : Int64) : p4_settings (s4_lower v z) = p4_settings v := rfl
theorem gs4_settings_first (v : BX4) (z : (Nat → Int32)) : p4_settings (s4_first v z) = p4_settings v := rfl
theorem gs4_settings_grid (v : BX4) (z : (Nat → Int64)) : p4_settings (s4_grid v z) = p4_settings v := rfl
theorem gs4_settings_blocks (v : BX4) (z : Int32) : p4_settings (s4_blocks v z) = p4_settings v := rfl
theorem gs4_settings_kept (v : BX4) (z : (Nat → Int64)) : p4_settings (s4_kept v z) = p4_settings v := rfl
theorem gs4_settings_keptLower (v : BX4) (z : Int64) : p4_settings (s4_keptLower v z) = p4_settings v := rfl
theorem gs4_settings_farUp (v : BX4) (z : Int64) : p4_settings (s4_farUp v z) = p4_settings v := rfl
theorem gs4_settings_farDown (v : BX4) (z : Int64) : p4_settings (s4_farDown v z) = p4_settings v := rfl
theorem gs4_settings_spot (v : BX4) (z : Int32) : p4_settings (s4_spot v z) = p4_settings v := rfl
theorem gs4_settings_reason (v : BX4) (z : Int32) : p4_settings (s4_reason v z) = p4_settings v := rfl
theorem gs4_settings_cause (v : BX4) (z : Int32) : p4_settings (s4_cause v z) = p4_settings v := rfl
theorem gs4_settings_settings (v : BX4) (z : Int32) : p4_settings (s4_settings v z) = z := rfl
theorem gs4_settings_told (v : BX4) (z : (Nat → Int32)) : p4_settings (s4_told v z) = p4_settings v := rfl
theorem gs4_told_s (v : BX4) (z : (Nat → Int32)) : p4_told (s4_s v z) = p4_told v := rfl
theorem gs4_told_past (v : BX4) (z : (Nat → Int32)) : p4_told (s4_past v z) = p4_told v := rfl
theorem gs4_told_held (v : BX4) (z : (Nat → Int32)) : p4_told (s4_held v z) = p4_told v := rfl
theorem gs4_told_pasts (v : BX4) (z : Int32) : p4_told (s4_pasts v z) = p4_told v := rfl
theorem gs4_told_runs (v : BX4) (z : Int32) : p4_told (s4_runs v z) = p4_told v := rfl
theorem gs4_told_text (v : BX4) (z : (Nat → Int32)) : p4_told (s4_text v z) = p4_told v := rfl
theorem gs4_told_typed (v : BX4) (z : Int32) : p4_told (s4_typed v z) = p4_told v := rfl
theorem gs4_told_upper (v : BX4) (z : (Nat → Int64)) : p4_told (s4_upper v z) = p4_told v := rfl
theorem gs4_told_lower (v : BX4) (z : Int64) : p4_told (s4_lower v z) = p4_told v := rfl
theorem gs4_told_first (v : BX4) (z : (Nat → Int32)) : p4_told (s4_first v z) = p4_told v := rfl
theorem gs4_told_grid (v : BX4) (z : (Nat → Int64)) : p4_told (s4_grid v z) = p4_told v := rfl
theorem gs4_told_blocks (v : BX4) (z : Int32) : p4_told (s4_blocks v z) = p4_told v := rfl
theorem gs4_told_kept (v : BX4) (z : (Nat → Int64)) : p4_told (s4_kept v z) = p4_told v := rfl
theorem gs4_told_keptLower (v : BX4) (z : Int64) : p4_told (s4_keptLower v z) = p4_told v := rfl
theorem gs4_told_farUp (v : BX4) (z : Int64) : p4_told (s4_farUp v z) = p4_told v := rfl
theorem gs4_told_farDown (v : BX4) (z : Int64) : p4_told (s4_farDown v z) = p4_told v := rfl
theorem gs4_told_spot (v : BX4) (z : Int32) : p4_told (s4_spot v z) = p4_told v := rfl
theorem gs4_told_reason (v : BX4) (z : Int32) : p4_told (s4_reason v z) = p4_told v := rfl
theorem gs4_told_cause (v : BX4) (z : Int32) : p4_told (s4_cause v z) = p4_told v := rfl
theorem gs4_told_settings (v : BX4) (z : Int32) : p4_told (s4_settings v z) = p4_told v := rfl
theorem gs4_told_told (v : BX4) (z : (Nat → Int32)) : p4_told (s4_told v z) = z := rfl
