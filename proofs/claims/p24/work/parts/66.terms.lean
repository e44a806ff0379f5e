/-! what the class tells of the row at rest -/
theorem inLow_v {a b U V g : Int} (ha : inL a) (hb : inL b) (e1 : a = g * U) (e2 : b = g * V) (hg : g = ((Int.gcd a b : Nat) : Int)) (g0 : 0 < g) (V0 : 0 < V) (i : Int32) : fX3_inLowestTerms (nL a) (nL b) i = some (nL (if i = 0 then U else V)) := by
  have ig : inL g := by
    obtain ⟨b1, b2⟩ := hb
    have := Int.mul_le_mul_of_nonneg_left (show 1 ≤ V by omega) (Int.le_of_lt g0)
    exact ⟨by omega, by omega⟩
  have st : ∀ x y : Int, inL x → x = g * y → fX3_inLowestTerms_17 (nL g) (nL x) = some (nL y) := by
    intro x y ix e
    unfold fX3_inLowestTerms_17
    by_cases q : g ≤ 1
    · rw [if_pos (show lg_cmp (nL g) 1 ≤ 0 from (cmp_le0 ig inL_1).mpr q), e, show g = 1 by omega, Int.one_mul]
    · rw [if_neg (show ¬ lg_cmp (nL g) 1 ≤ 0 from fun h => q ((cmp_le0 ig inL_1).mp h)), if_neg (fun h => by have := (nL_eq ig inL_0).mp h; omega)]
      rw [e] at ix ⊢
      rw [nL_quot ix ig (by omega)]
  unfold fX3_inLowestTerms
  rw [gd_v ha hb, Option.bind_some, ← hg, st a U ha e1, st b V hb e2]
  by_cases q : i = 0
  · rw [if_pos q, if_pos q]
  · rw [if_neg q, if_neg q]
theorem dvL_loop : ∀ (k : Nat) (n a b : Nat), b < 2 ^ k → a < 2 ^ 62 → b < 2 ^ 62 → fL_divisor_6 (n + (2 * k + 1)) (nL a) (nL b) = some (nL ((Nat.gcd a b : Nat) : Int)) := by
  have stop : ∀ (n a : Nat), a < 2 ^ 62 → fL_divisor_6 (n + 1) (nL a) (nL (0 : Nat)) = some (nL (a : Nat)) := by
    intro n a ha
    show fL_divisor_6_b (fL_divisor_6 n) _ _ = _
    unfold fL_divisor_6_b
    rw [if_pos (show lg_cmp (nL (0 : Nat)) 0 ≤ 0 from (cmp_le0 inL_0 inL_0).mpr (Int.le_refl _))]
  have go : ∀ (n a b : Nat), 0 < b → a < 2 ^ 62 → b < 2 ^ 62 → fL_divisor_6 (n + 1) (nL a) (nL b) = fL_divisor_6 n (nL b) (nL ((a % b : Nat) : Int)) := by
    intro n a b h0 ha hb
    have hb' : inL b := ⟨by omega, by omega⟩
    have ha' : inL a := ⟨by omega, by omega⟩
    show fL_divisor_6_b (fL_divisor_6 n) _ _ = _
    unfold fL_divisor_6_b
    have e0 : ¬ lg_cmp (nL b) 0 ≤ 0 := fun q => by have := (cmp_le0 hb' inL_0).mp q; omega
    have e1 : ¬ nL b = 0 := fun q => by have := (nL_eq hb' inL_0).mp q; omega
    rw [if_neg e0, if_neg e1, nL_mod ha' hb']
    rfl
  intro k
  induction k with
  | zero =>
    intro n a b h1 h2 h3
    have : b = 0 := by have : 2 ^ 0 = 1 := rfl; omega
    subst this
    rw [Nat.gcd_zero_right]
    exact stop n a h2
  | succ k ih =>
    intro n a b h1 h2 h3
    rcases Nat.eq_zero_or_pos b with rfl | hb
    · rw [Nat.gcd_zero_right]
      exact stop (n + (2 * (k + 1))) a h2
    · rw [show n + (2 * (k + 1) + 1) = (n + (2 * k + 2)) + 1 by omega, go _ a b hb h2 h3]
      have hr : a % b < b := Nat.mod_lt _ hb
      rcases Nat.eq_zero_or_pos (a % b) with e | e
      · rw [e, show n + (2 * k + 2) = (n + (2 * k + 1)) + 1 by omega, stop _ b h3, Nat.gcd_comm, Nat.gcd_rec, e, Nat.gcd_zero_left]
      · rw [show n + (2 * k + 2) = (n + (2 * k + 1)) + 1 by omega, go _ b (a % b) e h3 (by omega)]
        have h5 : b % (a % b) < a % b := Nat.mod_lt _ e
        have h6 : b % (a % b) < 2 ^ k := by
          have : b % (a % b) + (a % b) ≤ b := by
            have h7 := Nat.div_add_mod b (a % b)
            have h8 : 1 ≤ b / (a % b) := Nat.div_pos (by omega) e
            have h9 : (a % b) * 1 ≤ (a % b) * (b / (a % b)) := Nat.mul_le_mul_left _ h8
            omega
          rw [Nat.pow_succ] at h1
          omega
        rw [ih n (a % b) (b % (a % b)) h6 (by omega) (by omega)]
        congr 2
        rw [Nat.gcd_comm a b, Nat.gcd_rec b a, Nat.gcd_comm (a % b) b, Nat.gcd_comm (a % b) (b % (a % b)), ← Nat.gcd_rec, Nat.gcd_comm b (a % b), ← Nat.gcd_rec]
theorem dvL_v (a b : Nat) (ha : a < 2 ^ 62) (hb : b < 2 ^ 62) : fL_divisor (nL a) (nL b) = some (nL ((Nat.gcd a b : Nat) : Int)) := by
  have e : FU = 4875 + (2 * 62 + 1) := rfl
  unfold fL_divisor
  rw [e]
  exact dvL_loop 62 4875 a b (by omega) ha hb
theorem l_inL {l : Int} (h0 : 0 < l) (hl : l ≤ 104976) : inL l := ⟨by omega, by omega⟩
theorem row_inL {L : BX0} {S : Sy} (hL : LaySy L S) {u : Nat → Int} {l : Int} (hR : RowIn S u l) (hl : l ≤ 104976) (i : Nat) (hi : i ≤ S.n + 1) : inL (u i) := by
  have l0 := hR.pos
  have w : S.W * l ≤ 99 * l := Int.mul_le_mul_of_nonneg_right hL.W1 (by omega)
  have := row_bd hR i hi
  exact ⟨by omega, by omega⟩
theorem up_v {S : Sy} (hn : S.n ≤ 4) {R : BX1} {u : Nat → Int} {l : Int} (hv : SpQ S R u l) (k : Nat) (hk : k < S.n) : fX1_upperPlaceOf R (nI k) = some (nL (u (k + 1))) := by
  unfold fX1_upperPlaceOf
  rw [nI_1, if_pos (inB_nI (by omega) (by omega)), nI_clamp (by omega), hv.2 _ (by omega)]
theorem xor_nn {a b : Int64} (ha : 0 ≤ a.toInt) (hb : 0 ≤ b.toInt) : 0 ≤ (a ^^^ b).toInt := by
  have h : ∀ x : Int64, 0 ≤ x.toInt ↔ x.toBitVec.msb = false := by
    intro x
    show 0 ≤ x.toBitVec.toInt ↔ _
    rw [BitVec.msb_eq_toInt]
    simp
  rw [h] at ha hb ⊢
  rw [Int64.toBitVec_xor, BitVec.msb_xor, ha, hb]
  rfl
theorem fd_v {a b : Int} (ha : inL a) (hb : inL b) (a0 : 0 ≤ a) (b0 : 0 < b) : fJ9_floorDiv_f86c9 (nL a) (nL b) = some (nL (a.tdiv b)) := by
  unfold fJ9_floorDiv_f86c9
  have hx : 0 ≤ lg_cmp (nL a ^^^ nL b) 0 := by
    have h1 := xor_nn (a := nL a) (b := nL b) (by rw [nL_toInt ha]; exact a0) (by rw [nL_toInt hb]; omega)
    unfold lg_cmp
    by_cases q : nL a ^^^ nL b > 0
    · rw [if_pos q]; decide
    · rw [if_neg q]
      by_cases q2 : nL a ^^^ nL b = 0
      · rw [if_pos q2]; decide
      · exfalso
        have q3 : ¬ 0 < (nL a ^^^ nL b).toInt := fun h => q (Int64.lt_iff_toInt_lt.mpr h)
        exact q2 (Int64.toInt_inj.mp (show (nL a ^^^ nL b).toInt = (0 : Int64).toInt by show _ = (0 : Int); omega))
  rw [if_neg (fun h => by have := (nL_eq hb inL_0).mp h; omega), elet_eq, if_pos hx, nL_div ha hb]
theorem forcePart_v {a b : Int} {i : Int32} {x : Int64} (h : fX3_inLowestTerms (nL a) (nL b) i = some x) : fX3_forcePart (nL a) (nL b) i = some (if i = 0 then x.toInt32 + 1000000000 else x.toInt32) := by
  unfold fX3_forcePart
  rw [h, Option.bind_some, elet_eq]
  by_cases q : i = 0
  · rw [if_pos q, if_pos q]
  · rw [if_neg q, if_neg q]
theorem tn_eq {S : Sy} {u v : Nat → Int} {l m : Int} (eq : ∀ p, p ≤ S.n + 1 → m * u p = l * v p) (k : Nat) (hk : k ≤ S.n) : m * tnS S u l k = l * tnS S v m k := by
  have e1 := eq k (by omega)
  have e2 := eq (k + 1) (by omega)
  simp only [tnS]
  grind
theorem gS_eq {S : Sy} {u v : Nat → Int} {l m : Int} (eq : ∀ p, p ≤ S.n + 1 → m * u p = l * v p) (k : Nat) (hk : k ≤ S.n) : m * gS S u l k = l * gS S v m k := by
  have e1 := tn_eq eq k hk
  simp only [gS]
  grind
theorem tn_b {L : BX0} {S : Sy} (hL : LaySy L S) {u : Nat → Int} {l : Int} (hR : RowIn S u l) (hl : l ≤ 104976) (k : Nat) (hk : k ≤ S.n) : -140772816 ≤ tnS S u l k ∧ tnS S u l k ≤ 140772816 := by
  have n4 := hL.n4
  have l0 := hR.pos
  have a1 := row_bd hR k (by omega)
  have a2 := row_bd hR (k + 1) (by omega)
  have w : S.W * l ≤ 99 * l := Int.mul_le_mul_of_nonneg_right hL.W1 (by omega)
  have b1 := hL.K0 k hk
  have b2 := hL.L0 k hk
  have c1 : 0 ≤ S.L k * l := Int.mul_nonneg b2.1 (by omega)
  have c2 : S.L k * l ≤ 50 * l := Int.mul_le_mul_of_nonneg_right b2.2 (by omega)
  obtain ⟨t, ht⟩ : ∃ t, t = u (k + 1) - u k - S.L k * l := ⟨_, rfl⟩
  have t1 : -15641424 ≤ t := by omega
  have t2 : t ≤ 15641424 := by omega
  have e1 : S.K k * t ≤ S.K k * 15641424 := Int.mul_le_mul_of_nonneg_left t2 (by omega)
  have e2 : S.K k * (-15641424) ≤ S.K k * t := Int.mul_le_mul_of_nonneg_left t1 (by omega)
  unfold tnS
  rw [← ht]
  exact ⟨by omega, by omega⟩
theorem gS_d (S : Sy) (u : Nat → Int) (l : Int) (k : Nat) : gS S u l (k + 1) - gS S u l k = tnS S u l (k + 1) - tnS S u l k + S.q k * l := by
  unfold gS
  simp only [preS]
  grind
theorem fo_b {L : BX0} {S : Sy} (hL : LaySy L S) {u : Nat → Int} {l : Int} (hR : RowIn S u l) (hl : l ≤ 104976) (k : Nat) (hk : k < S.n) : -292000000 ≤ gS S u l (k + 1) - gS S u l k ∧ gS S u l (k + 1) - gS S u l k ≤ 292000000 := by
  have l0 := hR.pos
  have a1 := tn_b hL hR hl k (by omega)
  have a2 := tn_b hL hR hl (k + 1) (by omega)
  have b := hL.q0 k hk
  have c1 : S.q k * l ≤ 99 * l := Int.mul_le_mul_of_nonneg_right b.2 (by omega)
  have c2 : (-99) * l ≤ S.q k * l := Int.mul_le_mul_of_nonneg_right b.1 (by omega)
  rw [gS_d]
  exact ⟨by omega, by omega⟩
/-! lowest terms, with the law's own numbers -/
theorem low_ex {a b : Int} (hb : 0 < b) : ∃ U V g : Int, a = g * U ∧ b = g * V ∧ g = ((Int.gcd a b : Nat) : Int) ∧ 0 < g ∧ 0 < V ∧ Int.gcd U V = 1 := by
  obtain ⟨U, V, h1, h2, h3, h4, h5⟩ := gcd_split (PU := a) hb
  exact ⟨U, V, _, h1, h2, rfl, by omega, h3, h4⟩
theorem low_le {a b U V g : Int} (e1 : a = g * U) (e2 : b = g * V) (g0 : 0 < g) (V0 : 0 < V) : V ≤ b ∧ (U : Int).natAbs ≤ a.natAbs := by
  constructor
  · have := Int.mul_le_mul_of_nonneg_right (show 1 ≤ g by omega) (Int.le_of_lt V0)
    omega
  · rw [e1, Int.natAbs_mul]
    exact Nat.le_mul_of_pos_left _ (by omega)
theorem toI32 {z : Int} (h1 : -2147483648 ≤ z) (h2 : z < 2147483648) : ((nL z).toInt32).toInt = z := by
  unfold nL
  rw [Int64.toInt32_ofInt, Int32.toInt_ofInt]
  have e : Int32.size = 4294967296 := rfl
  rw [e]
  exact Int.bmod_eq_of_le (by omega) (by omega)
