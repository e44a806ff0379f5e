/-! the plates of a row that is at rest, from the left to the right -/
def fstI (u : Nat → Int) : Nat → Nat
  | 0 => 0
  | i + 1 => if u (i + 1) = u (i + 2) then fstI u i else i + 1
def hOf (S : Sy) (u : Nat → Int) (l : Int) (i : Nat) : Nat :=
  if i + 1 < S.n ∧ u (i + 1) = u (i + 2) then 3 else if gS S u l (i + 1) = gS S u l (fstI u i) then 0 else if gS S u l (i + 1) < gS S u l (fstI u i) then 1 else 2
theorem fst_p {S : Sy} {u : Nat → Int} {l : Int} (h : RowIn S u l) : ∀ i, i < S.n → fstI u i ≤ i ∧ u (fstI u i + 1) = u (i + 1) ∧ (u (fstI u i) < u (fstI u i + 1) ∨ fstI u i = 0) := by
  intro i
  induction i with
  | zero => intro _; exact ⟨Nat.le_refl _, rfl, Or.inr rfl⟩
  | succ i ih =>
    intro hi
    have := ih (by omega)
    unfold fstI
    by_cases q : u (i + 1) = u (i + 2)
    · rw [if_pos q]
      exact ⟨by omega, by rw [this.2.1]; exact q, this.2.2⟩
    · rw [if_neg q]
      have := h.mono (i + 1) (by omega)
      have q2 : ¬ u (i + 1) = u (i + 1 + 1) := q
      exact ⟨Nat.le_refl _, rfl, Or.inl (by omega)⟩
theorem grp {S : Sy} {u : Nat → Int} {l : Int} (h : RowIn S u l) {a b : Nat} (e : u (a + 1) = u (b + 1)) (hb : b < S.n) (p : Nat) (h1 : a ≤ p) (h2 : p ≤ b) : u (p + 1) = u (b + 1) := by
  have := mono_le h (a + 1) (p + 1) (by omega) (by omega)
  have := mono_le h (p + 1) (b + 1) (by omega) (by omega)
  omega
theorem low_hit {S : Sy} {u : Nat → Int} {l : Int} (h : RowIn S u l) {v : BX1} (hB : BndQ S v) {f j p : Nat} (hj : j < S.n) (e : u (f + 1) = u (j + 1)) (p1 : f ≤ p) (p2 : p ≤ j) (hp : u (p + 1) ≤ S.lo p * l) :
    (p1_lowest v j).toInt * l = u (j + 1) := by
  obtain ⟨k, k1, k2⟩ := hB.l1 j hj
  have a1 := h.lo k (by omega)
  have a2 := mono_le h (k + 1) (j + 1) (by omega) (by omega)
  have a3 := grp h e hj p p1 p2
  have a4 := Int.mul_le_mul_of_nonneg_right (hB.l2 j hj p p2) (Int.le_of_lt h.pos)
  rw [k2] at a4 ⊢
  omega
theorem high_hit {S : Sy} {u : Nat → Int} {l : Int} (h : RowIn S u l) {v : BX1} (hB : BndQ S v) {f j p : Nat} (hj : j < S.n) (e : u (f + 1) = u (j + 1)) (p1 : f ≤ p) (p2 : p ≤ j) (hp : S.hi p * l ≤ u (p + 1)) :
    (p1_highest v f).toInt * l = u (f + 1) := by
  obtain ⟨k, k0, k1, k2⟩ := hB.h1 f (by omega)
  have a1 := h.hi k (by omega)
  have a2 := mono_le h (f + 1) (k + 1) (by omega) (by omega)
  have a3 := grp h e hj p p1 p2
  have a4 := Int.mul_le_mul_of_nonneg_right (hB.h2 f (by omega) p p1 (by omega)) (Int.le_of_lt h.pos)
  rw [k2] at a4 ⊢
  omega
theorem pin_low {S : Sy} {u : Nat → Int} {l : Int} (h : RestT S u l) (hl0 : ∀ k, k < S.n → 0 ≤ S.lo k) {v : BX1} (hB : BndQ S v) {f j : Nat} (hj : j < S.n) (hf : fstI u j = f) (hG : gS S u l (j + 1) < gS S u l f) :
    (p1_lowest v j).toInt * l = u (j + 1) := by
  have hp := fst_p h.toRowIn j hj
  rw [hf] at hp
  obtain ⟨h1, h2, h3⟩ := hp
  rcases Classical.em (∃ p, f ≤ p ∧ p < j + 1 ∧ u (p + 1) ≤ S.lo p * l) with ⟨p, p1, p2, p3⟩ | hn
  · exact low_hit h.toRowIn hB hj h2 p1 (by omega) p3
  · exfalso
    have hall : ∀ p, f ≤ p → p < j + 1 → S.lo p * l < u (p + 1) := by
      intro p p1 p2
      rcases Int.lt_or_le (S.lo p * l) (u (p + 1)) with q | q
      · exact q
      · exact absurd ⟨p, p1, p2, q⟩ hn
    have h4 : u f < u (f + 1) := by
      rcases h3 with h3 | h3
      · exact h3
      · have := hall f (by omega) (by omega)
        have := Int.mul_nonneg (hl0 f (by omega)) (Int.le_of_lt h.pos)
        have := h.z
        rw [h3] at *
        omega
    have := h.left f (j + 1) (by omega) (by omega) h2 h4 hall
    omega
theorem pin_high {S : Sy} {u : Nat → Int} {l : Int} (h : RestT S u l) (hhW : ∀ k, k < S.n → S.hi k ≤ S.W) {v : BX1} (hB : BndQ S v) {f j : Nat} (hj : j < S.n) (hf : fstI u j = f) (hn : ¬ (j + 1 < S.n ∧ u (j + 1) = u (j + 2))) (hG : gS S u l f < gS S u l (j + 1)) :
    (p1_highest v f).toInt * l = u (j + 1) := by
  have hp := fst_p h.toRowIn j hj
  rw [hf] at hp
  obtain ⟨h1, h2, h3⟩ := hp
  rcases Classical.em (∃ p, f ≤ p ∧ p < j + 1 ∧ S.hi p * l ≤ u (p + 1)) with ⟨p, p1, p2, p3⟩ | hn2
  · rw [high_hit h.toRowIn hB hj h2 p1 (by omega) p3]; exact h2
  · exfalso
    have hall : ∀ p, f ≤ p → p < j + 1 → u (p + 1) < S.hi p * l := by
      intro p p1 p2
      rcases Int.lt_or_le (u (p + 1)) (S.hi p * l) with q | q
      · exact q
      · exact absurd ⟨p, p1, p2, q⟩ hn2
    have h4 : u (j + 1) < u (j + 2) := by
      have hm := h.mono (j + 1) (by omega)
      rcases Nat.lt_or_ge (j + 1) S.n with q | q
      · have : u (j + 1) ≠ u (j + 2) := fun e => hn ⟨q, e⟩
        have e : j + 1 + 1 = j + 2 := rfl
        rw [e] at hm
        omega
      · have e : j + 1 = S.n := by omega
        have a1 := hall j (by omega) (by omega)
        have a2 := Int.mul_le_mul_of_nonneg_right (hhW j hj) (Int.le_of_lt h.pos)
        have a3 := h.w
        rw [← e] at a3
        have e : j + 1 + 1 = j + 2 := rfl
        rw [e] at a3
        omega
    have := h.right f (j + 1) (by omega) (by omega) h2 h4 hall
    omega
/-! places told by the next ones -/
def AR (v : BX1) (j : Nat) (C S D : Nat → Int) : Prop := ∀ i, i < j → p1_constants v i = nL (C i) ∧ p1_slopes v i = nL (S i) ∧ p1_divisors v i = nL (D i)
def up1 (f : Nat → Int) (j : Nat) (z : Int) : Nat → Int := fun i => if i = j then z else f i
theorem up1_s (f : Nat → Int) (j : Nat) (z : Int) : up1 f j z j = z := if_pos rfl
theorem up1_n (f : Nat → Int) (j : Nat) (z : Int) {k : Nat} (h : k < j) : up1 f j z k = f k := if_neg (by omega)
theorem put_ok (v : BX1) (j : Nat) (hj : j < 4) {C S D : Nat → Int} (h : AR v j C S D) (c s d : Int) : ∃ v', fX1_putPlate v (nI j) (nL c) (nL s) (nL d) = some v' ∧ SB v v' ∧ p1_holds v' = p1_holds v ∧ AR v' (j + 1) (up1 C j c) (up1 S j s) (up1 D j d) := by
  refine ⟨s1_divisors (s1_slopes (s1_constants v (vp_updL (p1_constants v) j (nL c))) (vp_updL (p1_slopes v) j (nL s))) (vp_updL (p1_divisors v) j (nL d)), ?_, ⟨rfl, rfl⟩, rfl, ?_⟩
  · unfold fX1_putPlate
    simp only [elet_eq, nI_clamp (show j < 2 ^ 31 by omega), inB_nI (show j < 4 by omega) (show 4 ≤ 2 ^ 31 by omega), if_true]
    rfl
  · intro i hi
    show vp_updL (p1_constants v) j (nL c) i = _ ∧ vp_updL (p1_slopes v) j (nL s) i = _ ∧ vp_updL (p1_divisors v) j (nL d) i = _
    rcases Nat.eq_or_lt_of_le (Nat.le_of_lt_succ hi) with rfl | hi
    · rw [pk_uLs, pk_uLs, pk_uLs, up1_s, up1_s, up1_s]; exact ⟨rfl, rfl, rfl⟩
    · have ne : i ≠ j := by omega
      rw [pk_uLn ne, pk_uLn ne, pk_uLn ne, up1_n _ _ _ hi, up1_n _ _ _ hi, up1_n _ _ _ hi]
      exact h i hi
theorem preS_bd {q : Nat → Int} {n : Nat} (h : ∀ k, k < n → -99 ≤ q k ∧ q k ≤ 99) (a : Nat) : ∀ d, a + d ≤ n → -(99 * (d : Int)) ≤ preS q (a + d) - preS q a ∧ preS q (a + d) - preS q a ≤ 99 * (d : Int) := by
  intro d
  induction d with
  | zero => intro _; simp
  | succ d ih =>
    intro hd
    have := ih (by omega)
    have := h (a + d) (by omega)
    rw [show a + (d + 1) = (a + d) + 1 by omega, preS]
    push_cast
    omega
/-- what the spring way puts in -/
def frC (S : Sy) (f j : Nat) : Int := preS S.q (j + 1) - preS S.q f + S.K f * S.L f - S.K (j + 1) * S.L (j + 1)
theorem frC_bd {L : BX0} {S : Sy} (hL : LaySy L S) {f j : Nat} (hf : f ≤ j) (hj : j < S.n) : -1296 ≤ frC S f j ∧ frC S f j ≤ 1296 := by
  have n4 := hL.n4
  have a := preS_bd hL.q0 f (j + 1 - f) (by omega)
  rw [show f + (j + 1 - f) = j + 1 by omega] at a
  have b1 := hL.K0 f (by omega)
  have b2 := hL.K0 (j + 1) (by omega)
  have c1 := hL.L0 f (by omega)
  have c2 := hL.L0 (j + 1) (by omega)
  have m : ∀ k l : Int, 1 ≤ k ∧ k ≤ 9 → 0 ≤ l ∧ l ≤ 50 → 0 ≤ k * l ∧ k * l ≤ 450 := by
    intro k l h1 h2
    refine ⟨Int.mul_nonneg (by omega) (by omega), ?_⟩
    have : k * l ≤ 9 * l := Int.mul_le_mul_of_nonneg_right h1.2 (by omega)
    omega
  have d1 := m _ _ b1 c1
  have d2 := m _ _ b2 c2
  unfold frC
  omega
theorem ep_u (k : Nat) : fX1_expressPlaces_13 (k + 1) = fX1_expressPlaces_13_b (fX1_expressPlaces_13 k) := rfl
theorem ep_end {L : BX0} {S : Sy} (hL : LaySy L S) (k : BX0 → BX1 → Int32 → Int64 → Int64 → Int64 → Int32 → Option BX1) (v : BX1) (x : Int32) (c s d : Int64) : fX1_expressPlaces_13_b k L v x c s d (nI S.n) = some v := by
  unfold fX1_expressPlaces_13_b
  rw [hL.pl, if_pos (Int32.le_refl _)]
theorem ep_3 {L : BX0} {S : Sy} (hL : LaySy L S) (k : BX0 → BX1 → Int32 → Int64 → Int64 → Int64 → Int32 → Option BX1) (v v' : BX1) (x : Int32) (c s d : Int64) (j : Nat) (hj : j < S.n) (hh : p1_holds v j = nI 3)
    (hp : fX1_putPlate v (nI j) (nL 0) (nL 1) (nL 1) = some v') : fX1_expressPlaces_13_b k L v x c s d (nI j) = k L v' x c s d (nI (j + 1)) := by
  have n4 := hL.n4
  unfold fX1_expressPlaces_13_b fX1_expressPlaces_204
  rw [hL.pl, if_neg (nlec (by omega) (by omega)), if_pos (inB_nI (by omega) (by omega)), nI_clamp (by omega), hh, if_pos (show nI 3 = (3 : Int32) from rfl)]
  show (fX1_putPlate v (nI j) (nL 0) (nL 1) (nL 1)).bind _ = _
  rw [hp, Option.bind_some, elet_eq, nI_1]
theorem ep_188 (k : BX0 → BX1 → Int32 → Int64 → Int64 → Int64 → Int32 → Option BX1) (L : BX0) (v v' : BX1) (c s d : Int64) (j : Nat) (hp : fX1_putPlate v (nI j) c s d = some v') : fX1_expressPlaces_188 k L v c s d (nI j) = k L v' (nI (j + 1)) c s d (nI (j + 1)) := by
  unfold fX1_expressPlaces_188 fX1_expressPlaces_204
  rw [hp, Option.bind_some]
  simp only [elet_eq, nI_1]
theorem ep_0 {L : BX0} {S : Sy} (hL : LaySy L S) (k : BX0 → BX1 → Int32 → Int64 → Int64 → Int64 → Int32 → Option BX1) (v v' : BX1) (f : Nat) (c s d : Int) (j : Nat) (hf : f ≤ j) (hj : j < S.n) (hh : p1_holds v j = nI 0)
    (hp : fX1_putPlate v (nI j) (nL (d * frC S f j + S.K f * c)) (nL (S.K (j + 1) * d)) (nL ((S.K f + S.K (j + 1)) * d - S.K f * s)) = some v') :
    fX1_expressPlaces_13_b k L v (nI f) (nL c) (nL s) (nL d) (nI j) = k L v' (nI (j + 1)) (nL (d * frC S f j + S.K f * c)) (nL (S.K (j + 1) * d)) (nL ((S.K f + S.K (j + 1)) * d - S.K f * s)) (nI (j + 1)) := by
  have n4 := hL.n4
  obtain ⟨y, y1, y2⟩ := hL.su f j hf hj
  unfold fX1_expressPlaces_13_b
  rw [hL.pl, if_neg (nlec (by omega) (by omega)), if_pos (inB_nI (by omega) (by omega)), nI_clamp (by omega), hh, if_neg (by decide), if_pos (inB_nI (by omega) (by omega)), if_pos (show nI 0 = (0 : Int32) from rfl), if_pos (inB_nI (by omega) (by omega)), nI_clamp (by omega)]
  simp only [elet_eq]
  rw [nI_1, if_pos (inB_nI (by omega) (by omega)), y1, Option.bind_some, if_pos (inB_nI (by omega) (by omega)), if_pos (inB_nI (by omega) (by omega)), nI_clamp (by omega)]
  simp only [nL_I]
  rw [hL.st f (by omega), hL.st (j + 1) (by omega), hL.le f (by omega), hL.le (j + 1) (by omega), y2]
  simp only [nL_add, nL_mul, nL_sub]
  exact ep_188 k L v v' _ _ _ j hp
theorem ep_12 {L : BX0} {S : Sy} (hL : LaySy L S) (k : BX0 → BX1 → Int32 → Int64 → Int64 → Int64 → Int32 → Option BX1) (v v' : BX1) (f : Nat) (c s d : Int64) (j h : Nat) (hf : f ≤ j) (hj : j < S.n) (hh : p1_holds v j = nI h) (h12 : h = 1 ∨ h = 2)
    (z : Int) (hz : z = (if h = 1 then (p1_lowest v j).toInt else (p1_highest v f).toInt)) (hp : fX1_putPlate v (nI j) (nL z) (nL 0) (nL 1) = some v') :
    fX1_expressPlaces_13_b k L v (nI f) c s d (nI j) = k L v' (nI (j + 1)) (nL z) (nL 0) (nL 1) (nI (j + 1)) := by
  have n4 := hL.n4
  have e : fX1_expressPlaces_181 k L v (nI j) (nL z) = k L v' (nI (j + 1)) (nL z) (nL 0) (nL 1) (nI (j + 1)) := ep_188 k L v v' (nL z) (nL 0) (nL 1) j hp
  unfold fX1_expressPlaces_13_b
  rw [hL.pl, if_neg (nlec (by omega) (by omega)), if_pos (inB_nI (by omega) (by omega)), nI_clamp (by omega), hh]
  rcases h12 with rfl | rfl
  · rw [if_neg (by decide), if_pos (inB_nI (by omega) (by omega)), if_neg (by decide), if_pos (inB_nI (by omega) (by omega)), if_pos (show nI 1 = (1 : Int32) from rfl), if_pos (inB_nI (by omega) (by omega)), nL_I, ← e]
    rw [if_pos rfl] at hz
    rw [hz]
  · rw [if_neg (by decide), if_pos (inB_nI (by omega) (by omega)), if_neg (by decide), if_pos (inB_nI (by omega) (by omega)), if_neg (by decide), if_pos (inB_nI (by omega) (by omega)), nI_clamp (by omega), nL_I, ← e]
    rw [if_neg (by decide)] at hz
    rw [hz]
