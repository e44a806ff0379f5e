/-! the reference's row -/
abbrev UpQ (S : Sy) (M : BX4) (u : Nat → Int) (l : Int) : Prop := p4_lower M = nL l ∧ (∀ p, p < S.n → p4_upper M p = nL (u (p + 1))) ∧ u 0 = 0 ∧ u (S.n + 1) = S.W * l
theorem at_v {s : Nat → Int32} {S : Sy} (hS : GdS s S) {M : BX4} (hM : p4_s M = s) {u : Nat → Int} {l : Int} (hv : UpQ S M u l) (p : Nat) (hp : p ≤ S.n) : fX4_at M (nI p) = some (nL (u (p + 1))) := by
  have n4 := hS.n4
  unfold fX4_at
  rw [if_pos (nI_pos' (by omega)), cl1, cl0, hM, hS.s1]
  by_cases q : p = S.n
  · subst q
    rw [if_pos rfl, nL_I, hS.s0, hv.1, nL_mul, hv.2.2.2]
  · rw [if_neg (fun e => q ((nI_eq (by omega) (by omega)).mp e)), if_pos (inB_nI (by omega) (by omega)), nI_clamp (by omega), hv.2.1 p (by omega)]
theorem at_m {s : Nat → Int32} {S : Sy} (hS : GdS s S) {M : BX4} (hM : p4_s M = s) {u : Nat → Int} {l : Int} (hv : UpQ S M u l) (k : Nat) (hk : k ≤ S.n) : fX4_at M (nI k - (1 : Int32)) = some (nL (u k)) := by
  have n4 := hS.n4
  rcases Nat.eq_zero_or_pos k with rfl | q
  · unfold fX4_at
    rw [if_neg (show ¬ 0 ≤ nI 0 - (1 : Int32) from by decide), hv.2.2.1]
    rfl
  · obtain ⟨k', rfl⟩ : ∃ k', k = k' + 1 := ⟨k - 1, by omega⟩
    rw [nI_pred]
    exact at_v hS hM hv k' (by omega)
theorem pullOf_v {s : Nat → Int32} {S : Sy} (hS : GdS s S) {M : BX4} (hM : p4_s M = s) {u : Nat → Int} {l : Int} (hv : UpQ S M u l) (k : Nat) (hk : k ≤ S.n) : fX4_pullOf M (nI k) = some (nL (tnS S u l k)) := by
  have n4 := hS.n4
  have e2 : (2 : Int32) + nI k = nI (2 + k) := nI_add 2 k
  have e7 : (7 : Int32) + nI k = nI (7 + k) := nI_add 7 k
  unfold fX4_pullOf
  rw [e2, e7, if_pos (inB_nI (by omega) (by omega)), at_v hS hM hv k hk, Option.bind_some, at_m hS hM hv k hk, Option.bind_some, if_pos (inB_nI (by omega) (by omega)), nI_clamp (by omega), nI_clamp (by omega), hM, nL_I, nL_I, hS.K k hk, hS.L k hk, hv.1, nL_sub, nL_mul, nL_sub, nL_mul]
  rfl
theorem force_v {s : Nat → Int32} {S : Sy} (hS : GdS s S) {M : BX4} (hM : p4_s M = s) {u : Nat → Int} {l : Int} (hv : UpQ S M u l) (p : Nat) (hp : p < S.n) : fX4_force M (nI p) = some (nL (gS S u l (p + 1) - gS S u l p)) := by
  have n4 := hS.n4
  have e12 : (12 : Int32) + nI p = nI (12 + p) := nI_add 12 p
  unfold fX4_force
  rw [nI_1, pullOf_v hS hM hv (p + 1) (by omega), Option.bind_some, pullOf_v hS hM hv p (by omega), Option.bind_some, e12, if_pos (inB_nI (by omega) (by omega)), nI_clamp (by omega), hM, nL_I, hS.q p hp, hv.1, nL_sub, nL_mul, nL_add]
  unfold gS
  congr 2
  simp only [preS]
  grind
/-- the row is allowed at the plate p -/
abbrev InP (S : Sy) (u : Nat → Int) (l : Int) (p : Nat) : Prop := S.lo p * l ≤ u (p + 1) ∧ u (p + 1) ≤ S.hi p * l ∧ (p = 0 ∨ u p ≤ u (p + 1))
theorem ii_u (k : Nat) : fX4_isIn_4 (k + 1) = fX4_isIn_4_b (fX4_isIn_4 k) := rfl
theorem ii_s {s : Nat → Int32} {S : Sy} (hS : GdS s S) {M : BX4} (hM : p4_s M = s) {u : Nat → Int} {l : Int} (hv : UpQ S M u l) (hl : 0 < l ∧ l ≤ 104976) (hu : ∀ i, i ≤ S.n → inL (u i)) (k : BX4 → Int32 → Int32 → Option Int32) (p : Nat) (hp : p < S.n) :
    (InP S u l p ∧ fX4_isIn_4_b k M 1 (nI p) = k M 1 (nI (p + 1))) ∨ (¬ InP S u l p ∧ fX4_isIn_4_b k M 1 (nI p) = k M 0 (nI (p + 1))) := by
  have n4 := hS.n4
  have W1 := hS.W1
  have lv := low_v hM p (by omega)
  have hvv := high_v hM p (by omega)
  have a1 := hS.lo0 p hp
  have a2 := hS.al p p (Nat.le_refl _) hp
  have a3 := hS.hiW p hp
  have b1 : 0 ≤ S.lo p * l := Int.mul_nonneg a1 (by omega)
  have b2 : S.lo p * l ≤ 99 * l := Int.mul_le_mul_of_nonneg_right (by omega) (by omega)
  have b3 : 0 ≤ S.hi p * l := Int.mul_nonneg (by omega) (by omega)
  have b4 : S.hi p * l ≤ 99 * l := Int.mul_le_mul_of_nonneg_right (by omega) (by omega)
  have i1 : inL (S.lo p * l) := ⟨by omega, by omega⟩
  have i2 : inL (S.hi p * l) := ⟨by omega, by omega⟩
  have iu := hu (p + 1) (by omega)
  have e86 : fX4_isIn_86 k M (nI p) = k M 0 (nI (p + 1)) := by
    unfold fX4_isIn_86 fX4_isIn_87; rw [elet_eq, nI_1]
  have e82 : fX4_isIn_82 k M (nI p) = k M 1 (nI (p + 1)) := by
    unfold fX4_isIn_82 fX4_isIn_87; rw [elet_eq, nI_1]
  unfold fX4_isIn_4_b
  rw [cl1, hM, hS.s1, if_neg (nlec (by omega) (by omega)), if_neg (show ¬ (1 : Int32) = 0 from by decide), if_pos (inB_nI (by omega) (by omega)), nI_clamp (by omega), lv, Option.bind_some, hv.2.1 p hp, hv.1, nL_I, hS.lo p hp, nL_mul]
  by_cases q1 : u (p + 1) < S.lo p * l
  · right
    rw [if_pos ((cmp_l0 iu i1).mpr q1), e86]
    exact ⟨fun h => by have := h.1; omega, rfl⟩
  rw [if_neg (fun h => q1 ((cmp_l0 iu i1).mp h)), if_pos (inB_nI (by omega) (by omega)), hvv, Option.bind_some, nL_I, hS.hi p hp, nL_mul]
  by_cases q2 : S.hi p * l < u (p + 1)
  · right
    rw [if_pos ((cmp_g0 iu i2).mpr q2), e86]
    exact ⟨fun h => by have := h.2.1; omega, rfl⟩
  rw [if_neg (fun h => q2 ((cmp_g0 iu i2).mp h))]
  rcases Nat.eq_zero_or_pos p with q3 | q3
  · left
    subst q3
    rw [if_pos (show nI 0 = 0 from rfl), e82]
    exact ⟨⟨by omega, by omega, Or.inl rfl⟩, rfl⟩
  · obtain ⟨p', rfl⟩ : ∃ p', p = p' + 1 := ⟨p - 1, by omega⟩
    have iu' := hu (p' + 1) (by omega)
    rw [if_neg (nI_ne0 (by omega) (by omega)), if_pos (inB_nI (by omega) (by omega)), nI_pred, if_pos (inB_nI (by omega) (by omega)), nI_clamp (by omega), hv.2.1 p' (by omega)]
    by_cases q4 : u (p' + 1 + 1) < u (p' + 1)
    · right
      rw [if_pos ((cmp_l0 iu iu').mpr q4), e86]
      exact ⟨fun h => by have := h.2.2; omega, rfl⟩
    · left
      rw [if_neg (fun h => q4 ((cmp_l0 iu iu').mp h)), e82]
      exact ⟨⟨by omega, by omega, Or.inr (by omega)⟩, rfl⟩
theorem ii_end {s : Nat → Int32} {S : Sy} (hS : GdS s S) {M : BX4} (hM : p4_s M = s) (k : BX4 → Int32 → Int32 → Option Int32) (x : Int32) (hx : x = 0 ∨ x = 1) : fX4_isIn_4_b k M x (nI S.n) = some x := by
  unfold fX4_isIn_4_b
  rw [cl1, hM, hS.s1, if_pos (Int32.le_refl _)]
  rcases hx with rfl | rfl <;> rfl
theorem ii_0 {s : Nat → Int32} {S : Sy} (hS : GdS s S) {M : BX4} (hM : p4_s M = s) (k : BX4 → Int32 → Int32 → Option Int32) (p : Nat) (hp : p < S.n) : fX4_isIn_4_b k M 0 (nI p) = k M 0 (nI (p + 1)) := by
  have n4 := hS.n4
  unfold fX4_isIn_4_b fX4_isIn_86 fX4_isIn_87
  rw [cl1, hM, hS.s1, if_neg (nlec (by omega) (by omega)), if_pos rfl, elet_eq, nI_1]
theorem ii_all {s : Nat → Int32} {S : Sy} (hS : GdS s S) {M : BX4} (hM : p4_s M = s) {u : Nat → Int} {l : Int} (hv : UpQ S M u l) (hl : 0 < l ∧ l ≤ 104976) (hu : ∀ i, i ≤ S.n → inL (u i)) :
    ∀ (d p n : Nat), p + d = S.n → fX4_isIn_4 (n + d + 1) M 0 (nI p) = some 0 ∧ ((fX4_isIn_4 (n + d + 1) M 1 (nI p) = some 1 ∧ ∀ i, p ≤ i → i < S.n → InP S u l i) ∨ (fX4_isIn_4 (n + d + 1) M 1 (nI p) = some 0 ∧ ¬ ∀ i, p ≤ i → i < S.n → InP S u l i)) := by
  intro d
  induction d with
  | zero =>
    intro p n hp
    obtain rfl : p = S.n := by omega
    rw [ii_u]
    exact ⟨ii_end hS hM _ 0 (Or.inl rfl), Or.inl ⟨ii_end hS hM _ 1 (Or.inr rfl), fun i h1 h2 => by omega⟩⟩
  | succ d ih =>
    intro p n hp
    obtain ⟨i1, i2⟩ := ih (p + 1) n (by omega)
    rw [show n + (d + 1) + 1 = (n + d + 1) + 1 by omega, ii_u]
    refine ⟨by rw [ii_0 hS hM _ p (by omega)]; exact i1, ?_⟩
    rcases ii_s hS hM hv hl hu (fX4_isIn_4 (n + d + 1)) p (by omega) with ⟨q1, q2⟩ | ⟨q1, q2⟩
    · rw [q2]
      rcases i2 with ⟨j1, j2⟩ | ⟨j1, j2⟩
      · left
        refine ⟨j1, fun i h1 h2 => ?_⟩
        rcases Nat.eq_or_lt_of_le h1 with rfl | h3
        · exact q1
        · exact j2 i h3 h2
      · right
        exact ⟨j1, fun h => j2 (fun i h1 h2 => h i (by omega) h2)⟩
    · right
      rw [q2]
      exact ⟨i1, fun h => q1 (h p (Nat.le_refl _) (by omega))⟩
theorem isIn_ok {s : Nat → Int32} {S : Sy} (hS : GdS s S) {M : BX4} (hM : p4_s M = s) {u : Nat → Int} {l : Int} (hv : UpQ S M u l) (hl : 0 < l ∧ l ≤ 104976) (hu : ∀ i, i ≤ S.n → inL (u i)) :
    (fX4_isIn M = some 1 ∧ RowIn S u l) ∨ (fX4_isIn M = some 0 ∧ ¬ RowIn S u l) := by
  have n4 := hS.n4
  obtain ⟨m, hm⟩ := FU_ex (S.n + 1) (by omega)
  unfold fX4_isIn
  rw [hm, show m + (S.n + 1) = m + S.n + 1 by omega]
  clear hm
  rcases (ii_all hS hM hv hl hu S.n 0 m (by omega)).2 with ⟨q1, q2⟩ | ⟨q1, q2⟩
  · left
    refine ⟨q1, hl.1, hv.2.2.1, hv.2.2.2, fun p hp => (q2 p (by omega) hp).1, fun p hp => (q2 p (by omega) hp).2.1, ?_⟩
    intro p hp
    have W0 := hS.W0
    rcases Nat.eq_or_lt_of_le hp with e | e
    · rcases Nat.eq_zero_or_pos S.n with z | z
      · have := Int.mul_nonneg (show 0 ≤ S.W by omega) (Int.le_of_lt hl.1)
        have h1 := hv.2.2.2
        rw [z] at h1
        rw [show p = 0 by omega, hv.2.2.1, h1]
        exact this
      · obtain ⟨p', rfl⟩ : ∃ p', p = p' + 1 := ⟨p - 1, by omega⟩
        have h1 := (q2 p' (by omega) (by omega)).2.1
        have h2 := Int.mul_le_mul_of_nonneg_right (hS.hiW p' (by omega)) (Int.le_of_lt hl.1)
        have h3 := hv.2.2.2
        rw [← e] at h3
        omega
    · rcases Nat.eq_zero_or_pos p with rfl | z
      · have h1 := (q2 0 (by omega) e).1
        have h2 := Int.mul_nonneg (hS.lo0 0 e) (Int.le_of_lt hl.1)
        rw [hv.2.2.1]
        omega
      · have h1 := (q2 p (by omega) e).2.2
        omega
  · right
    refine ⟨q1, fun h => q2 (fun i _ h2 => ⟨h.lo i h2, h.hi i h2, ?_⟩)⟩
    exact Or.inr (h.mono i (by omega))
