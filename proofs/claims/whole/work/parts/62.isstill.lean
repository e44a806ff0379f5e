/-! whether the reference's row is still -/
theorem gS_bd4 {s : Nat → Int32} {S : Sy} (hS : GdS s S) {u : Nat → Int} {l : Int} (hR : RowIn S u l) (hl : l ≤ 104976) (k : Nat) (hk : k ≤ S.n) : -1000000000 ≤ gS S u l k ∧ gS S u l k ≤ 1000000000 := by
  have n4 := hS.n4
  have l0 := hR.pos
  have a1 := row_bd hR k (by omega)
  have a2 := row_bd hR (k + 1) (by omega)
  have w : S.W * l ≤ 99 * l := Int.mul_le_mul_of_nonneg_right hS.W1 (by omega)
  have b1 := hS.K0 k hk
  have b2 := hS.L0 k hk
  have c1 : 0 ≤ S.L k * l := Int.mul_nonneg b2.1 (by omega)
  have c2 : S.L k * l ≤ 50 * l := Int.mul_le_mul_of_nonneg_right b2.2 (by omega)
  have p := preS_bd hS.q0 0 k (by omega)
  rw [Nat.zero_add] at p
  simp only [preS] at p
  have d1 : l * preS S.q k ≤ l * 396 := Int.mul_le_mul_of_nonneg_left (by omega) (by omega)
  have d2 : l * (-396) ≤ l * preS S.q k := Int.mul_le_mul_of_nonneg_left (by omega) (by omega)
  obtain ⟨t, ht⟩ : ∃ t, t = u (k + 1) - u k - S.L k * l := ⟨_, rfl⟩
  have t1 : -15641424 ≤ t := by omega
  have t2 : t ≤ 15641424 := by omega
  have e1 : S.K k * t ≤ S.K k * 15641424 := Int.mul_le_mul_of_nonneg_left t2 (by omega)
  have e2 : S.K k * (-15641424) ≤ S.K k * t := Int.mul_le_mul_of_nonneg_left t1 (by omega)
  unfold gS tnS
  rw [← ht]
  omega
/-- plates from a to the end of their group go on to the right -/
def RB (S : Sy) (u : Nat → Int) (l : Int) (a : Nat) : Prop := ∃ e, a < e ∧ e ≤ S.n ∧ (∀ i, a ≤ i → i < e → u (i + 1) = u (a + 1)) ∧ (e = S.n ∨ u e ≠ u (e + 1)) ∧ (∀ i, a ≤ i → i < e → u (i + 1) < S.hi i * l) ∧ gS S u l a < gS S u l e
def LB (S : Sy) (u : Nat → Int) (l : Int) (a : Nat) : Prop := ∃ e, e ≤ a ∧ (∀ i, e ≤ i → i ≤ a → u (i + 1) = u (a + 1)) ∧ (e = 0 ∨ u e ≠ u (e + 1)) ∧ (∀ i, e ≤ i → i ≤ a → S.lo i * l < u (i + 1)) ∧ gS S u l (a + 1) < gS S u l e
theorem rest_iff4 {s : Nat → Int32} {S : Sy} (hS : GdS s S) {u : Nat → Int} {l : Int} (hR : RowIn S u l) : RestT S u l ↔ ∀ a, a < S.n → ¬ RB S u l a ∧ ¬ LB S u l a := by
  have lp := hR.pos
  constructor
  · intro h a ha
    constructor
    · rintro ⟨e, e1, e2, e3, e4, e5, e6⟩
      have hx : u e < u (e + 1) := by
        have m := hR.mono e e2
        rcases e4 with e4 | e4
        · obtain ⟨e', rfl⟩ : ∃ e', e = e' + 1 := ⟨e - 1, by omega⟩
          have a1 := e5 e' (by omega) (by omega)
          have a2 := Int.mul_le_mul_of_nonneg_right (hS.hiW e' (by omega)) (Int.le_of_lt lp)
          have a3 := hR.w
          rw [← e4] at a3
          omega
        · omega
      have he : u (a + 1) = u e := by
        obtain ⟨e', rfl⟩ : ∃ e', e = e' + 1 := ⟨e - 1, by omega⟩
        exact (e3 e' (by omega) (by omega)).symm
      have := h.right a e e1 e2 he hx (fun p p1 p2 => e5 p p1 p2)
      omega
    · rintro ⟨e, e1, e3, e4, e5, e6⟩
      have hx : u e < u (e + 1) := by
        have m := hR.mono e (by omega)
        rcases e4 with e4 | e4
        · have a1 := e5 e (Nat.le_refl _) e1
          have a2 := Int.mul_nonneg (hS.lo0 e (by omega)) (Int.le_of_lt lp)
          have a3 := hR.z
          rw [e4] at *
          omega
        · omega
      have := h.left e (a + 1) (by omega) (by omega) (e3 e (Nat.le_refl _) e1) hx (fun p p1 p2 => e5 p p1 (by omega))
      omega
  · intro h
    refine ⟨hR, ?_, ?_⟩
    · intro a b hab hb e hx all
      obtain ⟨b', rfl⟩ : ∃ b', b = b' + 1 := ⟨b - 1, by omega⟩
      rcases Int.lt_or_le (gS S u l (b' + 1)) (gS S u l a) with q | q
      · exfalso
        refine (h b' (by omega)).2 ⟨a, by omega, fun i i1 i2 => grp hR e (by omega) i i1 i2, Or.inr (by omega), fun i i1 i2 => all i i1 (by omega), q⟩
      · exact q
    · intro a b hab hb e hx all
      obtain ⟨b', rfl⟩ : ∃ b', b = b' + 1 := ⟨b - 1, by omega⟩
      rcases Int.lt_or_le (gS S u l a) (gS S u l (b' + 1)) with q | q
      · exfalso
        refine (h a (by omega)).1 ⟨b' + 1, hab, hb, fun i i1 i2 => ?_, Or.inr (by omega), fun i i1 i2 => all i i1 i2, q⟩
        have := grp hR e (by omega) i i1 (by omega)
        omega
      · exact q
theorem t25_u (k4 : BX4 → Int32 → Int32 → Option Int32) (k : Nat) : fX4_isStill_25 k4 (k + 1) = fX4_isStill_25_b k4 (fX4_isStill_25 k4 k) := rfl
theorem t164_u (k4 : BX4 → Int32 → Int32 → Option Int32) (k : Nat) : fX4_isStill_164 k4 (k + 1) = fX4_isStill_164_b k4 (fX4_isStill_164 k4 k) := rfl
theorem t4_u (k : Nat) : fX4_isStill_4 (k + 1) = fX4_isStill_4_b (fX4_isStill_4 k) := rfl
theorem add0 (p : Nat) : nI p + (0 : Int32) = nI p := nI_add p 0
theorem sub0 (p : Nat) : nI p - (0 : Int32) = nI p := pk_sub (a := p) (b := 0) (by omega)
theorem t25_end (k4 : BX4 → Int32 → Int32 → Option Int32) (k : BX4 → Int32 → Int32 → Int64 → Int32 → Int32 → Int32 → Option Int32) (M : BX4) (x1 x2 x5 x6 : Int32) (z : Int) (hz : inL z) (h1 : x1 = 0 ∨ x1 = 1) (h5 : x5 = 0 ∨ x5 = 1) :
    ∃ st, fX4_isStill_25_b k4 k M x1 x2 (nL z) x5 x6 0 = fX4_isStill_152 k4 M x2 st ∧ ((st = 1 ∧ x1 = 1 ∧ ¬ (x5 = 1 ∧ 0 < z)) ∨ (st = 0 ∧ (x1 = 0 ∨ (x5 = 1 ∧ 0 < z)))) := by
  unfold fX4_isStill_25_b
  rw [if_pos rfl]
  rcases h1 with rfl | rfl
  · rw [if_pos rfl]; exact ⟨0, rfl, Or.inr ⟨rfl, Or.inl rfl⟩⟩
  · rw [if_neg (show ¬ (1 : Int32) = 0 from by decide)]
    rcases h5 with rfl | rfl
    · rw [if_pos rfl]; exact ⟨1, rfl, Or.inl ⟨rfl, rfl, fun h => absurd h.1 (by decide)⟩⟩
    · rw [if_neg (show ¬ (1 : Int32) = 0 from by decide)]
      by_cases q : 0 < z
      · rw [if_pos (show 0 < lg_cmp (nL z) 0 from (cmp_g0 hz inL_0).mpr q)]; exact ⟨0, rfl, Or.inr ⟨rfl, Or.inr ⟨rfl, q⟩⟩⟩
      · rw [if_neg (show ¬ 0 < lg_cmp (nL z) 0 from fun h => q ((cmp_g0 hz inL_0).mp h))]; exact ⟨1, rfl, Or.inl ⟨rfl, rfl, fun h => q h.2⟩⟩
theorem t164_end (k4 : BX4 → Int32 → Int32 → Option Int32) (k : BX4 → Int32 → Int32 → Int64 → Int32 → Int32 → Int32 → Option Int32) (M : BX4) (x1 : Int32) (a : Nat) (x5 x6 : Int32) (z : Int) (hz : inL z) (h1 : x1 = 0 ∨ x1 = 1) (h5 : x5 = 0 ∨ x5 = 1) :
    ∃ st, fX4_isStill_164_b k4 k M x1 (nI a) (nL z) x5 x6 0 = k4 M st (nI (a + 1)) ∧ ((st = 1 ∧ x1 = 1 ∧ ¬ (x5 = 1 ∧ z < 0)) ∨ (st = 0 ∧ (x1 = 0 ∨ (x5 = 1 ∧ z < 0)))) := by
  have e0 : fX4_isStill_282 k4 M (nI a) = k4 M 0 (nI (a + 1)) := by unfold fX4_isStill_282 fX4_isStill_283; rw [elet_eq, nI_1]
  have e1 : fX4_isStill_278 k4 M (nI a) = k4 M 1 (nI (a + 1)) := by unfold fX4_isStill_278 fX4_isStill_283; rw [elet_eq, nI_1]
  unfold fX4_isStill_164_b
  rw [if_pos rfl, e0, e1]
  rcases h1 with rfl | rfl
  · rw [if_pos rfl]; exact ⟨0, rfl, Or.inr ⟨rfl, Or.inl rfl⟩⟩
  · rw [if_neg (show ¬ (1 : Int32) = 0 from by decide)]
    rcases h5 with rfl | rfl
    · rw [if_pos rfl]; exact ⟨1, rfl, Or.inl ⟨rfl, rfl, fun h => absurd h.1 (by decide)⟩⟩
    · rw [if_neg (show ¬ (1 : Int32) = 0 from by decide)]
      by_cases q : z < 0
      · rw [if_pos (show lg_cmp (nL z) 0 < 0 from (cmp_l0 hz inL_0).mpr q)]; exact ⟨0, rfl, Or.inr ⟨rfl, Or.inr ⟨rfl, q⟩⟩⟩
      · rw [if_neg (show ¬ lg_cmp (nL z) 0 < 0 from fun h => q ((cmp_l0 hz inL_0).mp h))]; exact ⟨1, rfl, Or.inl ⟨rfl, rfl, fun h => q h.2⟩⟩
theorem t25_s {s : Nat → Int32} {S : Sy} (hS : GdS s S) {M : BX4} (hM : p4_s M = s) {u : Nat → Int} {l : Int} (hv : UpQ S M u l) (hl : 0 < l ∧ l ≤ 104976) (hu : ∀ i, i ≤ S.n → inL (u i)) (k4 : BX4 → Int32 → Int32 → Option Int32) (k : BX4 → Int32 → Int32 → Int64 → Int32 → Int32 → Int32 → Option Int32) (x1 x2 x5 : Int32) (z : Int) (p : Nat) (hp : p < S.n) (h5 : x5 = 0 ∨ x5 = 1) :
    ∃ x5' p' m, fX4_isStill_25_b k4 k M x1 x2 (nL z) x5 (nI p) 1 = k M x1 x2 (nL (z + (gS S u l (p + 1) - gS S u l p))) x5' (nI p') m ∧
      ((x5' = 1 ∧ x5 = 1 ∧ u (p + 1) < S.hi p * l) ∨ (x5' = 0 ∧ ¬ (x5 = 1 ∧ u (p + 1) < S.hi p * l))) ∧ ((m = 1 ∧ p' = p + 1 ∧ p + 1 < S.n ∧ u (p + 2) = u (p + 1)) ∨ (m = 0 ∧ ¬ (p + 1 < S.n ∧ u (p + 2) = u (p + 1)))) := by
  have n4 := hS.n4
  have W1 := hS.W1
  have hvv := high_v hM p (by omega)
  have a1 := hS.lo0 p hp
  have a2 := hS.al p p (Nat.le_refl _) hp
  have a3 := hS.hiW p hp
  have b3 : 0 ≤ S.hi p * l := Int.mul_nonneg (by omega) (by omega)
  have b4 : S.hi p * l ≤ 99 * l := Int.mul_le_mul_of_nonneg_right (by omega) (by omega)
  have i2 : inL (S.hi p * l) := ⟨by omega, by omega⟩
  have iu := hu (p + 1) (by omega)
  have e72 : ∀ (y : Int64) (x : Int32), ∃ p' m, fX4_isStill_72 k4 k M x1 x2 y (nI p) x = k M x1 x2 y x (nI p') m ∧ ((m = 1 ∧ p' = p + 1 ∧ p + 1 < S.n ∧ u (p + 2) = u (p + 1)) ∨ (m = 0 ∧ ¬ (p + 1 < S.n ∧ u (p + 2) = u (p + 1)))) := by
    intro y x
    have e0 : fX4_isStill_111 k4 k M x1 x2 y x (nI p) = k M x1 x2 y x (nI p) 0 := by
      unfold fX4_isStill_111 fX4_isStill_112 fX4_isStill_126
      rw [if_pos rfl, elet_eq, add0]
    have e1 : fX4_isStill_112 k4 k M x1 x2 y x (nI p) 1 = k M x1 x2 y x (nI (p + 1)) 1 := by
      unfold fX4_isStill_112 fX4_isStill_126
      rw [if_neg (by decide), elet_eq, nI_1]
    unfold fX4_isStill_72
    rw [cl1, hM, hS.s1, nI_1, e0, e1]
    by_cases q : S.n ≤ p + 1
    · rw [if_pos (lec q (by omega))]
      exact ⟨p, 0, rfl, Or.inr ⟨rfl, fun h => by omega⟩⟩
    · have iu2 := hu (p + 2) (by omega)
      rw [if_neg (nlec (by omega) (by omega)), if_pos (inB_nI (by omega) (by omega)), if_pos (inB_nI (by omega) (by omega)), nI_clamp (by omega), nI_clamp (by omega), hv.2.1 (p + 1) (by omega), hv.2.1 p hp]
      by_cases q2 : u (p + 2) = u (p + 1)
      · rw [if_pos ((cmp_e0 iu2 iu).mpr q2)]
        exact ⟨p + 1, 1, rfl, Or.inl ⟨rfl, rfl, by omega, q2⟩⟩
      · rw [if_neg (fun h => q2 ((cmp_e0 iu2 iu).mp h))]
        exact ⟨p, 0, rfl, Or.inr ⟨rfl, fun h => q2 h.2⟩⟩
  unfold fX4_isStill_25_b
  rw [if_neg (show ¬ (1 : Int32) = 0 from by decide), force_v hS hM hv p hp, Option.bind_some, elet_eq, nL_add]
  unfold fX4_isStill_71
  rcases h5 with rfl | rfl
  · rw [if_pos rfl]
    obtain ⟨p', m, q1, q2⟩ := e72 (nL (z + (gS S u l (p + 1) - gS S u l p))) 0
    exact ⟨0, p', m, q1, Or.inr ⟨rfl, fun h => absurd h.1 (by decide)⟩, q2⟩
  · rw [if_neg (show ¬ (1 : Int32) = 0 from by decide), if_pos (inB_nI (by omega) (by omega)), nI_clamp (by omega), hvv, Option.bind_some, hv.2.1 p hp, hv.1, nL_I, hS.hi p hp, nL_mul]
    by_cases q : S.hi p * l ≤ u (p + 1)
    · rw [if_pos ((cmp_ge0 iu i2).mpr q)]
      obtain ⟨p', m, q1, q2⟩ := e72 (nL (z + (gS S u l (p + 1) - gS S u l p))) 0
      exact ⟨0, p', m, q1, Or.inr ⟨rfl, fun h => by have := h.2; omega⟩, q2⟩
    · rw [if_neg (fun h => q ((cmp_ge0 iu i2).mp h))]
      obtain ⟨p', m, q1, q2⟩ := e72 (nL (z + (gS S u l (p + 1) - gS S u l p))) 1
      exact ⟨1, p', m, q1, Or.inl ⟨rfl, rfl, by omega⟩, q2⟩
theorem t164_s {s : Nat → Int32} {S : Sy} (hS : GdS s S) {M : BX4} (hM : p4_s M = s) {u : Nat → Int} {l : Int} (hv : UpQ S M u l) (hl : 0 < l ∧ l ≤ 104976) (hu : ∀ i, i ≤ S.n → inL (u i)) (k4 : BX4 → Int32 → Int32 → Option Int32) (k : BX4 → Int32 → Int32 → Int64 → Int32 → Int32 → Int32 → Option Int32) (x1 x2 x5 : Int32) (z : Int) (p : Nat) (hp : p < S.n) (h5 : x5 = 0 ∨ x5 = 1) :
    ∃ x5' p' m, fX4_isStill_164_b k4 k M x1 x2 (nL z) x5 (nI p) 1 = k M x1 x2 (nL (z + (gS S u l (p + 1) - gS S u l p))) x5' (nI p') m ∧
      ((x5' = 1 ∧ x5 = 1 ∧ S.lo p * l < u (p + 1)) ∨ (x5' = 0 ∧ ¬ (x5 = 1 ∧ S.lo p * l < u (p + 1)))) ∧ ((m = 1 ∧ p = p' + 1 ∧ u p = u (p + 1)) ∨ (m = 0 ∧ ¬ (0 < p ∧ u p = u (p + 1)))) := by
  have n4 := hS.n4
  have W1 := hS.W1
  have hvv := low_v hM p (by omega)
  have a1 := hS.lo0 p hp
  have a2 := hS.al p p (Nat.le_refl _) hp
  have a3 := hS.hiW p hp
  have b3 : 0 ≤ S.lo p * l := Int.mul_nonneg (by omega) (by omega)
  have b4 : S.lo p * l ≤ 99 * l := Int.mul_le_mul_of_nonneg_right (by omega) (by omega)
  have i2 : inL (S.lo p * l) := ⟨by omega, by omega⟩
  have iu := hu (p + 1) (by omega)
  have e211 : ∀ (y : Int64) (x : Int32), ∃ p' m, fX4_isStill_211 k4 k M x1 x2 y (nI p) x = k M x1 x2 y x (nI p') m ∧ ((m = 1 ∧ p = p' + 1 ∧ u p = u (p + 1)) ∨ (m = 0 ∧ ¬ (0 < p ∧ u p = u (p + 1)))) := by
    intro y x
    have e0 : fX4_isStill_242 k4 k M x1 x2 y x (nI p) = k M x1 x2 y x (nI p) 0 := by
      unfold fX4_isStill_242 fX4_isStill_243 fX4_isStill_257
      rw [if_pos rfl, elet_eq, sub0]
    unfold fX4_isStill_211
    rw [e0]
    rcases Nat.eq_zero_or_pos p with q | q
    · rw [if_pos (show nI p ≤ 0 by rw [q]; decide)]
      exact ⟨p, 0, rfl, Or.inr ⟨rfl, fun h => by omega⟩⟩
    · obtain ⟨p', rfl⟩ : ∃ p', p = p' + 1 := ⟨p - 1, by omega⟩
      have e1 : fX4_isStill_243 k4 k M x1 x2 y x (nI (p' + 1)) 1 = k M x1 x2 y x (nI p') 1 := by
        unfold fX4_isStill_243 fX4_isStill_257
        rw [if_neg (by decide), elet_eq, nI_pred]
      have iu2 := hu (p' + 1) (by omega)
      rw [if_neg (nI_nle (by omega) (by omega)), e1, nI_pred, if_pos (inB_nI (by omega) (by omega)), if_pos (inB_nI (by omega) (by omega)), nI_clamp (by omega), nI_clamp (by omega), hv.2.1 p' (by omega), hv.2.1 (p' + 1) hp]
      by_cases q2 : u (p' + 1) = u (p' + 1 + 1)
      · rw [if_pos ((cmp_e0 iu2 iu).mpr q2)]
        exact ⟨p', 1, rfl, Or.inl ⟨rfl, rfl, q2⟩⟩
      · rw [if_neg (fun h => q2 ((cmp_e0 iu2 iu).mp h))]
        exact ⟨p' + 1, 0, rfl, Or.inr ⟨rfl, fun h => q2 h.2⟩⟩
  unfold fX4_isStill_164_b
  rw [if_neg (show ¬ (1 : Int32) = 0 from by decide), force_v hS hM hv p hp, Option.bind_some, elet_eq, nL_add]
  unfold fX4_isStill_210
  rcases h5 with rfl | rfl
  · rw [if_pos rfl]
    obtain ⟨p', m, q1, q2⟩ := e211 (nL (z + (gS S u l (p + 1) - gS S u l p))) 0
    exact ⟨0, p', m, q1, Or.inr ⟨rfl, fun h => absurd h.1 (by decide)⟩, q2⟩
  · rw [if_neg (show ¬ (1 : Int32) = 0 from by decide), if_pos (inB_nI (by omega) (by omega)), nI_clamp (by omega), hvv, Option.bind_some, hv.2.1 p hp, hv.1, nL_I, hS.lo p hp, nL_mul]
    by_cases q : u (p + 1) ≤ S.lo p * l
    · rw [if_pos ((cmp_le0 iu i2).mpr q)]
      obtain ⟨p', m, q1, q2⟩ := e211 (nL (z + (gS S u l (p + 1) - gS S u l p))) 0
      exact ⟨0, p', m, q1, Or.inr ⟨rfl, fun h => by have := h.2; omega⟩, q2⟩
    · rw [if_neg (fun h => q ((cmp_le0 iu i2).mp h))]
      obtain ⟨p', m, q1, q2⟩ := e211 (nL (z + (gS S u l (p + 1) - gS S u l p))) 1
      exact ⟨1, p', m, q1, Or.inl ⟨rfl, rfl, by omega⟩, q2⟩
theorem t25_all {s : Nat → Int32} {S : Sy} (hS : GdS s S) {M : BX4} (hM : p4_s M = s) {u : Nat → Int} {l : Int} (hv : UpQ S M u l) (hR : RowIn S u l) (hl : 0 < l ∧ l ≤ 104976) (hu : ∀ i, i ≤ S.n → inL (u i)) (k4 : BX4 → Int32 → Int32 → Option Int32) (x1 : Int32) (h1 : x1 = 0 ∨ x1 = 1) (a : Nat) :
    ∀ (d p n : Nat) (x5 : Int32), p + d + 1 = S.n → a ≤ p → (x5 = 0 ∨ x5 = 1) → ∃ e st, p < e ∧ e ≤ S.n ∧ (∀ i, p ≤ i → i < e → u (i + 1) = u (p + 1)) ∧ (e = S.n ∨ u e ≠ u (e + 1)) ∧
      fX4_isStill_25 k4 (n + d + 2) M x1 (nI a) (nL (gS S u l p - gS S u l a)) x5 (nI p) 1 = fX4_isStill_152 k4 M (nI a) st ∧
      ((st = 1 ∧ x1 = 1 ∧ ¬ (x5 = 1 ∧ (∀ i, p ≤ i → i < e → u (i + 1) < S.hi i * l) ∧ gS S u l a < gS S u l e)) ∨ (st = 0 ∧ (x1 = 0 ∨ (x5 = 1 ∧ (∀ i, p ≤ i → i < e → u (i + 1) < S.hi i * l) ∧ gS S u l a < gS S u l e)))) := by
  have n4 := hS.n4
  intro d
  induction d with
  | zero =>
    intro p n x5 hp hap h5
    obtain ⟨x5', p', m, q1, q2, q3⟩ := t25_s hS hM hv hl hu k4 (fX4_isStill_25 k4 (n + 1)) x1 (nI a) x5 (gS S u l p - gS S u l a) p (by omega) h5
    have hm : m = 0 := q3.elim (fun q3 => by omega) (fun q3 => q3.1)
    have b1 := gS_bd4 hS hR hl.2 a (by omega)
    have b2 := gS_bd4 hS hR hl.2 (p + 1) (by omega)
    have ez : gS S u l p - gS S u l a + (gS S u l (p + 1) - gS S u l p) = gS S u l (p + 1) - gS S u l a := by omega
    have iz : inL (gS S u l (p + 1) - gS S u l a) := ⟨by omega, by omega⟩
    obtain ⟨st, r1, r2⟩ := t25_end k4 (fX4_isStill_25 k4 n) M x1 (nI a) x5' (nI p') (gS S u l (p + 1) - gS S u l a) iz h1 (q2.elim (fun q2 => Or.inr q2.1) (fun q2 => Or.inl q2.1))
    refine ⟨p + 1, st, by omega, by omega, fun i i1 i2 => by rw [show i = p by omega], Or.inl (by omega), ?_, ?_⟩
    · rw [show n + 0 + 2 = (n + 1) + 1 by omega, t25_u, q1, hm, ez, t25_u]
      exact r1
    · have hall : (∀ i, p ≤ i → i < p + 1 → u (i + 1) < S.hi i * l) ↔ u (p + 1) < S.hi p * l := ⟨fun h => h p (Nat.le_refl _) (by omega), fun h i i1 i2 => by rw [show i = p by omega]; exact h⟩
      rw [hall]
      rcases q2 with ⟨q2, q4, q5⟩ | ⟨q2, q4⟩
      · rw [q2] at r2
        rcases r2 with ⟨r2, r3, r4⟩ | ⟨r2, r3⟩
        · exact Or.inl ⟨r2, r3, fun h => r4 ⟨rfl, by omega⟩⟩
        · refine Or.inr ⟨r2, ?_⟩
          rcases r3 with r3 | r3
          · exact Or.inl r3
          · exact Or.inr ⟨q4, q5, by omega⟩
      · rw [q2] at r2
        rcases r2 with ⟨r2, r3, r4⟩ | ⟨r2, r3⟩
        · exact Or.inl ⟨r2, r3, fun h => q4 ⟨h.1, h.2.1⟩⟩
        · refine Or.inr ⟨r2, ?_⟩
          rcases r3 with r3 | r3
          · exact Or.inl r3
          · exact absurd r3.1 (by decide)
  | succ d ih =>
    intro p n x5 hp hap h5
    obtain ⟨x5', p', m, q1, q2, q3⟩ := t25_s hS hM hv hl hu k4 (fX4_isStill_25 k4 (n + d + 2)) x1 (nI a) x5 (gS S u l p - gS S u l a) p (by omega) h5
    have b1 := gS_bd4 hS hR hl.2 a (by omega)
    have b2 := gS_bd4 hS hR hl.2 (p + 1) (by omega)
    have ez : gS S u l p - gS S u l a + (gS S u l (p + 1) - gS S u l p) = gS S u l (p + 1) - gS S u l a := by omega
    have iz : inL (gS S u l (p + 1) - gS S u l a) := ⟨by omega, by omega⟩
    have h5' : x5' = 0 ∨ x5' = 1 := q2.elim (fun q2 => Or.inr q2.1) (fun q2 => Or.inl q2.1)
    rw [show n + (d + 1) + 2 = (n + d + 2) + 1 by omega, t25_u, q1, ez]
    rcases q3 with ⟨m1, m2, m3, m4⟩ | ⟨m1, m2⟩
    · subst m2
      rw [m1]
      obtain ⟨e, st, e1, e2, e3, e4, e5, e6⟩ := ih (p + 1) n x5' (by omega) (by omega) h5'
      refine ⟨e, st, by omega, e2, ?_, e4, e5, ?_⟩
      · intro i i1 i2
        rcases Nat.eq_or_lt_of_le i1 with rfl | i3
        · rfl
        · rw [e3 i i3 i2]; exact m4
      · have hall : (∀ i, p ≤ i → i < e → u (i + 1) < S.hi i * l) ↔ (u (p + 1) < S.hi p * l ∧ ∀ i, p + 1 ≤ i → i < e → u (i + 1) < S.hi i * l) := by
          constructor
          · intro h; exact ⟨h p (Nat.le_refl _) (by omega), fun i i1 i2 => h i (by omega) i2⟩
          · intro h i i1 i2
            rcases Nat.eq_or_lt_of_le i1 with rfl | i3
            · exact h.1
            · exact h.2 i i3 i2
        rw [hall]
        rcases q2 with ⟨q2, q4, q5⟩ | ⟨q2, q4⟩
        · rcases e6 with ⟨r2, r3, r4⟩ | ⟨r2, r3⟩
          · exact Or.inl ⟨r2, r3, fun h => r4 ⟨q2, h.2.1.2, h.2.2⟩⟩
          · refine Or.inr ⟨r2, ?_⟩
            rcases r3 with r3 | r3
            · exact Or.inl r3
            · exact Or.inr ⟨q4, ⟨q5, r3.2.1⟩, r3.2.2⟩
        · rw [q2] at e6
          rcases e6 with ⟨r2, r3, r4⟩ | ⟨r2, r3⟩
          · exact Or.inl ⟨r2, r3, fun h => q4 ⟨h.1, h.2.1.1⟩⟩
          · refine Or.inr ⟨r2, ?_⟩
            rcases r3 with r3 | r3
            · exact Or.inl r3
            · exact absurd r3.1 (by decide)
    · rw [m1, show n + d + 2 = (n + d + 1) + 1 by omega, t25_u]
      obtain ⟨st, r1, r2⟩ := t25_end k4 (fX4_isStill_25 k4 (n + d + 1)) M x1 (nI a) x5' (nI p') (gS S u l (p + 1) - gS S u l a) iz h1 h5'
      refine ⟨p + 1, st, by omega, by omega, fun i i1 i2 => by rw [show i = p by omega], Or.inr (fun z => m2 ⟨by omega, z.symm⟩), r1, ?_⟩
      have hall : (∀ i, p ≤ i → i < p + 1 → u (i + 1) < S.hi i * l) ↔ u (p + 1) < S.hi p * l := ⟨fun h => h p (Nat.le_refl _) (by omega), fun h i i1 i2 => by rw [show i = p by omega]; exact h⟩
      rw [hall]
      rcases q2 with ⟨q2, q4, q5⟩ | ⟨q2, q4⟩
      · rw [q2] at r2
        rcases r2 with ⟨r2, r3, r4⟩ | ⟨r2, r3⟩
        · exact Or.inl ⟨r2, r3, fun h => r4 ⟨rfl, by omega⟩⟩
        · refine Or.inr ⟨r2, ?_⟩
          rcases r3 with r3 | r3
          · exact Or.inl r3
          · exact Or.inr ⟨q4, q5, by omega⟩
      · rw [q2] at r2
        rcases r2 with ⟨r2, r3, r4⟩ | ⟨r2, r3⟩
        · exact Or.inl ⟨r2, r3, fun h => q4 ⟨h.1, h.2.1⟩⟩
        · refine Or.inr ⟨r2, ?_⟩
          rcases r3 with r3 | r3
          · exact Or.inl r3
          · exact absurd r3.1 (by decide)
theorem t164_all {s : Nat → Int32} {S : Sy} (hS : GdS s S) {M : BX4} (hM : p4_s M = s) {u : Nat → Int} {l : Int} (hv : UpQ S M u l) (hR : RowIn S u l) (hl : 0 < l ∧ l ≤ 104976) (hu : ∀ i, i ≤ S.n → inL (u i)) (k4 : BX4 → Int32 → Int32 → Option Int32) (x1 : Int32) (h1 : x1 = 0 ∨ x1 = 1) (a : Nat) (ha : a < S.n) :
    ∀ (p n : Nat) (x5 : Int32), p ≤ a → (x5 = 0 ∨ x5 = 1) → ∃ e st, e ≤ p ∧ (∀ i, e ≤ i → i ≤ p → u (i + 1) = u (p + 1)) ∧ (e = 0 ∨ u e ≠ u (e + 1)) ∧
      fX4_isStill_164 k4 (n + p + 2) M x1 (nI a) (nL (gS S u l (a + 1) - gS S u l (p + 1))) x5 (nI p) 1 = k4 M st (nI (a + 1)) ∧
      ((st = 1 ∧ x1 = 1 ∧ ¬ (x5 = 1 ∧ (∀ i, e ≤ i → i ≤ p → S.lo i * l < u (i + 1)) ∧ gS S u l (a + 1) < gS S u l e)) ∨ (st = 0 ∧ (x1 = 0 ∨ (x5 = 1 ∧ (∀ i, e ≤ i → i ≤ p → S.lo i * l < u (i + 1)) ∧ gS S u l (a + 1) < gS S u l e)))) := by
  have n4 := hS.n4
  have stop : ∀ (p n : Nat) (x5 x5' : Int32) (p' : Nat) (m : Int32), p ≤ a → (x5 = 0 ∨ x5 = 1) → ((x5' = 1 ∧ x5 = 1 ∧ S.lo p * l < u (p + 1)) ∨ (x5' = 0 ∧ ¬ (x5 = 1 ∧ S.lo p * l < u (p + 1)))) → m = 0 →
      fX4_isStill_164_b k4 (fX4_isStill_164 k4 (n + 1)) M x1 (nI a) (nL (gS S u l (a + 1) - gS S u l (p + 1))) x5 (nI p) 1 = fX4_isStill_164 k4 (n + 1) M x1 (nI a) (nL (gS S u l (a + 1) - gS S u l (p + 1) + (gS S u l (p + 1) - gS S u l p))) x5' (nI p') m →
      ∃ st, fX4_isStill_164_b k4 (fX4_isStill_164 k4 (n + 1)) M x1 (nI a) (nL (gS S u l (a + 1) - gS S u l (p + 1))) x5 (nI p) 1 = k4 M st (nI (a + 1)) ∧
      ((st = 1 ∧ x1 = 1 ∧ ¬ (x5 = 1 ∧ (∀ i, p ≤ i → i ≤ p → S.lo i * l < u (i + 1)) ∧ gS S u l (a + 1) < gS S u l p)) ∨ (st = 0 ∧ (x1 = 0 ∨ (x5 = 1 ∧ (∀ i, p ≤ i → i ≤ p → S.lo i * l < u (i + 1)) ∧ gS S u l (a + 1) < gS S u l p)))) := by
    intro p n x5 x5' p' m hpa h5 q2 hm q1
    have b1 := gS_bd4 hS hR hl.2 (a + 1) (by omega)
    have b2 := gS_bd4 hS hR hl.2 p (by omega)
    have ez : gS S u l (a + 1) - gS S u l (p + 1) + (gS S u l (p + 1) - gS S u l p) = gS S u l (a + 1) - gS S u l p := by omega
    have iz : inL (gS S u l (a + 1) - gS S u l p) := ⟨by omega, by omega⟩
    have h5' : x5' = 0 ∨ x5' = 1 := q2.elim (fun q2 => Or.inr q2.1) (fun q2 => Or.inl q2.1)
    obtain ⟨st, r1, r2⟩ := t164_end k4 (fX4_isStill_164 k4 n) M x1 a x5' (nI p') (gS S u l (a + 1) - gS S u l p) iz h1 h5'
    refine ⟨st, ?_, ?_⟩
    · rw [q1, hm, ez, t164_u]; exact r1
    · have hall : (∀ i, p ≤ i → i ≤ p → S.lo i * l < u (i + 1)) ↔ S.lo p * l < u (p + 1) := ⟨fun h => h p (Nat.le_refl _) (Nat.le_refl _), fun h i i1 i2 => by rw [show i = p by omega]; exact h⟩
      rw [hall]
      rcases q2 with ⟨q2, q4, q5⟩ | ⟨q2, q4⟩
      · rw [q2] at r2
        rcases r2 with ⟨r2, r3, r4⟩ | ⟨r2, r3⟩
        · exact Or.inl ⟨r2, r3, fun h => r4 ⟨rfl, by omega⟩⟩
        · refine Or.inr ⟨r2, ?_⟩
          rcases r3 with r3 | r3
          · exact Or.inl r3
          · exact Or.inr ⟨q4, q5, by omega⟩
      · rw [q2] at r2
        rcases r2 with ⟨r2, r3, r4⟩ | ⟨r2, r3⟩
        · exact Or.inl ⟨r2, r3, fun h => q4 ⟨h.1, h.2.1⟩⟩
        · refine Or.inr ⟨r2, ?_⟩
          rcases r3 with r3 | r3
          · exact Or.inl r3
          · exact absurd r3.1 (by decide)
  intro p
  induction p with
  | zero =>
    intro n x5 hpa h5
    obtain ⟨x5', p', m, q1, q2, q3⟩ := t164_s hS hM hv hl hu k4 (fX4_isStill_164 k4 (n + 1)) x1 (nI a) x5 (gS S u l (a + 1) - gS S u l (0 + 1)) 0 (by omega) h5
    have hm : m = 0 := q3.elim (fun q3 => by omega) (fun q3 => q3.1)
    obtain ⟨st, r1, r2⟩ := stop 0 n x5 x5' p' m hpa h5 q2 hm q1
    refine ⟨0, st, Nat.le_refl _, fun i i1 i2 => by rw [show i = 0 by omega], Or.inl rfl, ?_, r2⟩
    rw [show n + 0 + 2 = (n + 1) + 1 by omega, t164_u]
    exact r1
  | succ p ih =>
    intro n x5 hpa h5
    obtain ⟨x5', p', m, q1, q2, q3⟩ := t164_s hS hM hv hl hu k4 (fX4_isStill_164 k4 (n + p + 2)) x1 (nI a) x5 (gS S u l (a + 1) - gS S u l (p + 1 + 1)) (p + 1) (by omega) h5
    have h5' : x5' = 0 ∨ x5' = 1 := q2.elim (fun q2 => Or.inr q2.1) (fun q2 => Or.inl q2.1)
    rcases q3 with ⟨m1, m2, m3⟩ | ⟨m1, m2⟩
    · have ep : p' = p := by omega
      subst ep
      have ez : gS S u l (a + 1) - gS S u l (p' + 1 + 1) + (gS S u l (p' + 1 + 1) - gS S u l (p' + 1)) = gS S u l (a + 1) - gS S u l (p' + 1) := by omega
      rw [show n + (p' + 1) + 2 = (n + p' + 2) + 1 by omega, t164_u, q1, ez, m1]
      obtain ⟨e, st, e1, e3, e4, e5, e6⟩ := ih n x5' (by omega) h5'
      refine ⟨e, st, by omega, ?_, e4, e5, ?_⟩
      · intro i i1 i2
        rcases Nat.eq_or_lt_of_le i2 with rfl | i3
        · rfl
        · rw [e3 i i1 (by omega)]; exact m3
      · have hall : (∀ i, e ≤ i → i ≤ p' + 1 → S.lo i * l < u (i + 1)) ↔ (S.lo (p' + 1) * l < u (p' + 1 + 1) ∧ ∀ i, e ≤ i → i ≤ p' → S.lo i * l < u (i + 1)) := by
          constructor
          · intro h; exact ⟨h (p' + 1) (by omega) (Nat.le_refl _), fun i i1 i2 => h i i1 (by omega)⟩
          · intro h i i1 i2
            rcases Nat.eq_or_lt_of_le i2 with rfl | i3
            · exact h.1
            · exact h.2 i i1 (by omega)
        rw [hall]
        rcases q2 with ⟨q2, q4, q5⟩ | ⟨q2, q4⟩
        · rcases e6 with ⟨r2, r3, r4⟩ | ⟨r2, r3⟩
          · exact Or.inl ⟨r2, r3, fun h => r4 ⟨q2, h.2.1.2, h.2.2⟩⟩
          · refine Or.inr ⟨r2, ?_⟩
            rcases r3 with r3 | r3
            · exact Or.inl r3
            · exact Or.inr ⟨q4, ⟨q5, r3.2.1⟩, r3.2.2⟩
        · rw [q2] at e6
          rcases e6 with ⟨r2, r3, r4⟩ | ⟨r2, r3⟩
          · exact Or.inl ⟨r2, r3, fun h => q4 ⟨h.1, h.2.1.1⟩⟩
          · refine Or.inr ⟨r2, ?_⟩
            rcases r3 with r3 | r3
            · exact Or.inl r3
            · exact absurd r3.1 (by decide)
    · rw [show n + (p + 1) + 2 = (n + p + 1 + 1) + 1 by omega, t164_u]
      obtain ⟨st, r1, r2⟩ := stop (p + 1) (n + p + 1) x5 x5' p' m hpa h5 q2 m1 (by rw [show n + p + 1 + 1 = n + p + 2 by omega]; exact q1)
      refine ⟨p + 1, st, Nat.le_refl _, fun i i1 i2 => by rw [show i = p + 1 by omega], Or.inr (fun z => m2 ⟨by omega, z⟩), r1, r2⟩
theorem right_ok {s : Nat → Int32} {S : Sy} (hS : GdS s S) {M : BX4} (hM : p4_s M = s) {u : Nat → Int} {l : Int} (hv : UpQ S M u l) (hR : RowIn S u l) (hl : 0 < l ∧ l ≤ 104976) (hu : ∀ i, i ≤ S.n → inL (u i)) (k4 : BX4 → Int32 → Int32 → Option Int32) (x1 : Int32) (h1 : x1 = 0 ∨ x1 = 1) (a : Nat) (ha : a < S.n) :
    ∃ st, fX4_isStill_25 k4 FU M x1 (nI a) (nL 0) 1 (nI a) 1 = fX4_isStill_152 k4 M (nI a) st ∧ ((st = 1 ∧ x1 = 1 ∧ ¬ RB S u l a) ∨ (st = 0 ∧ (x1 = 0 ∨ RB S u l a))) := by
  have n4 := hS.n4
  obtain ⟨m, hm⟩ := FU_ex ((S.n - a - 1) + 2) (by omega)
  obtain ⟨e, st, e1, e2, e3, e4, e5, e6⟩ := t25_all hS hM hv hR hl hu k4 x1 h1 a (S.n - a - 1) a m 1 (by omega) (Nat.le_refl _) (Or.inr rfl)
  rw [Int.sub_self] at e5
  refine ⟨st, by rw [hm, show m + ((S.n - a - 1) + 2) = m + (S.n - a - 1) + 2 by omega]; exact e5, ?_⟩
  rcases e6 with ⟨r1, r2, r3⟩ | ⟨r1, r2⟩
  · refine Or.inl ⟨r1, r2, ?_⟩
    rintro ⟨f, f1, f2, f3, f4, f5, f6⟩
    have hfe : f = e := by
      rcases Nat.lt_trichotomy f e with h | h | h
      · exfalso
        obtain ⟨f', rfl⟩ : ∃ f', f = f' + 1 := ⟨f - 1, by omega⟩
        rcases f4 with f4 | f4
        · omega
        · exact f4 (by rw [e3 f' (by omega) (by omega), e3 (f' + 1) (by omega) h])
      · exact h
      · exfalso
        obtain ⟨e', rfl⟩ : ∃ e', e = e' + 1 := ⟨e - 1, by omega⟩
        rcases e4 with e4 | e4
        · omega
        · exact e4 (by rw [f3 e' (by omega) (by omega), f3 (e' + 1) (by omega) h])
    subst hfe
    exact r3 ⟨rfl, f5, f6⟩
  · refine Or.inr ⟨r1, ?_⟩
    rcases r2 with r2 | r2
    · exact Or.inl r2
    · exact Or.inr ⟨e, e1, e2, e3, e4, r2.2.1, r2.2.2⟩
theorem left_ok {s : Nat → Int32} {S : Sy} (hS : GdS s S) {M : BX4} (hM : p4_s M = s) {u : Nat → Int} {l : Int} (hv : UpQ S M u l) (hR : RowIn S u l) (hl : 0 < l ∧ l ≤ 104976) (hu : ∀ i, i ≤ S.n → inL (u i)) (k4 : BX4 → Int32 → Int32 → Option Int32) (x1 : Int32) (h1 : x1 = 0 ∨ x1 = 1) (a : Nat) (ha : a < S.n) :
    ∃ st, fX4_isStill_152 k4 M (nI a) x1 = k4 M st (nI (a + 1)) ∧ ((st = 1 ∧ x1 = 1 ∧ ¬ LB S u l a) ∨ (st = 0 ∧ (x1 = 0 ∨ LB S u l a))) := by
  have n4 := hS.n4
  obtain ⟨m, hm⟩ := FU_ex (a + 2) (by omega)
  obtain ⟨e, st, e1, e3, e4, e5, e6⟩ := t164_all hS hM hv hR hl hu k4 x1 h1 a ha a m 1 (Nat.le_refl _) (Or.inr rfl)
  rw [Int.sub_self] at e5
  refine ⟨st, ?_, ?_⟩
  · unfold fX4_isStill_152
    rw [hm, show m + (a + 2) = m + a + 2 by omega]; exact e5
  rcases e6 with ⟨r1, r2, r3⟩ | ⟨r1, r2⟩
  · refine Or.inl ⟨r1, r2, ?_⟩
    rintro ⟨f, f1, f3, f4, f5, f6⟩
    have hfe : f = e := by
      rcases Nat.lt_trichotomy f e with h | h | h
      · exfalso
        obtain ⟨e', rfl⟩ : ∃ e', e = e' + 1 := ⟨e - 1, by omega⟩
        rcases e4 with e4 | e4
        · omega
        · exact e4 (by rw [f3 e' (by omega) (by omega), f3 (e' + 1) (by omega) (by omega)])
      · exact h
      · exfalso
        obtain ⟨f', rfl⟩ : ∃ f', f = f' + 1 := ⟨f - 1, by omega⟩
        rcases f4 with f4 | f4
        · omega
        · exact f4 (by rw [e3 f' (by omega) (by omega), e3 (f' + 1) (by omega) (by omega)])
    subst hfe
    exact r3 ⟨rfl, f5, f6⟩
  · refine Or.inr ⟨r1, ?_⟩
    rcases r2 with r2 | r2
    · exact Or.inl r2
    · exact Or.inr ⟨e, e1, e3, e4, r2.2.1, r2.2.2⟩
theorem t4_all {s : Nat → Int32} {S : Sy} (hS : GdS s S) {M : BX4} (hM : p4_s M = s) {u : Nat → Int} {l : Int} (hv : UpQ S M u l) (hR : RowIn S u l) (hl : 0 < l ∧ l ≤ 104976) (hu : ∀ i, i ≤ S.n → inL (u i)) :
    ∀ (d a n : Nat) (x1 : Int32), a + d = S.n → (x1 = 0 ∨ x1 = 1) → (fX4_isStill_4 (n + d + 1) M x1 (nI a) = some 1 ∧ x1 = 1 ∧ ∀ b, a ≤ b → b < S.n → ¬ RB S u l b ∧ ¬ LB S u l b) ∨ (fX4_isStill_4 (n + d + 1) M x1 (nI a) = some 0 ∧ ¬ (x1 = 1 ∧ ∀ b, a ≤ b → b < S.n → ¬ RB S u l b ∧ ¬ LB S u l b)) := by
  have n4 := hS.n4
  intro d
  induction d with
  | zero =>
    intro a n x1 ha h1
    have ha' : a = S.n := by omega
    subst ha'
    have e : fX4_isStill_4 (n + 0 + 1) M x1 (nI S.n) = some x1 := by
      rw [t4_u]
      unfold fX4_isStill_4_b
      rw [cl1, hM, hS.s1, if_pos (Int32.le_refl _)]
      rcases h1 with rfl | rfl <;> rfl
    rw [e]
    rcases h1 with rfl | rfl
    · exact Or.inr ⟨rfl, fun h => absurd h.1 (by decide)⟩
    · exact Or.inl ⟨rfl, rfl, fun b b1 b2 => by omega⟩
  | succ d ih =>
    intro a n x1 ha h1
    have st : fX4_isStill_4 (n + (d + 1) + 1) M x1 (nI a) = fX4_isStill_25 (fX4_isStill_4 (n + d + 1)) FU M x1 (nI a) (nL 0) 1 (nI a) 1 := by
      rw [show n + (d + 1) + 1 = (n + d + 1) + 1 by omega, t4_u]
      generalize fX4_isStill_4 (n + d + 1) = kk
      unfold fX4_isStill_4_b
      rw [cl1, hM, hS.s1, if_neg (nlec (by omega) (by omega))]
      rfl
    obtain ⟨s1, r1, r2⟩ := right_ok hS hM hv hR hl hu (fX4_isStill_4 (n + d + 1)) x1 h1 a (by omega)
    have hs1 : s1 = 0 ∨ s1 = 1 := r2.elim (fun r2 => Or.inr r2.1) (fun r2 => Or.inl r2.1)
    obtain ⟨s2, l1, l2⟩ := left_ok hS hM hv hR hl hu (fX4_isStill_4 (n + d + 1)) s1 hs1 a (by omega)
    have hs2 : s2 = 0 ∨ s2 = 1 := l2.elim (fun l2 => Or.inr l2.1) (fun l2 => Or.inl l2.1)
    rw [st, r1, l1]
    rcases ih (a + 1) n s2 (by omega) hs2 with ⟨j1, j2, j3⟩ | ⟨j1, j2⟩
    · left
      rcases l2 with ⟨l3, l4, l5⟩ | ⟨l3, l4⟩
      · rcases r2 with ⟨r3, r4, r5⟩ | ⟨r3, r4⟩
        · refine ⟨j1, r4, fun b b1 b2 => ?_⟩
          rcases Nat.eq_or_lt_of_le b1 with rfl | b3
          · exact ⟨r5, l5⟩
          · exact j3 b b3 b2
        · rw [r3] at l4; exact absurd l4 (by decide)
      · rw [l3] at j2; exact absurd j2 (by decide)
    · right
      refine ⟨j1, fun h => ?_⟩
      rcases l2 with ⟨l3, l4, l5⟩ | ⟨l3, l4⟩
      · exact j2 ⟨l3, fun b b1 b2 => h.2 b (by omega) b2⟩
      · rcases l4 with l4 | l4
        · rcases r2 with ⟨r3, r4, r5⟩ | ⟨r3, r4⟩
          · rw [r3] at l4; exact absurd l4 (by decide)
          · rcases r4 with r4 | r4
            · rw [h.1] at r4; exact absurd r4 (by decide)
            · exact (h.2 a (Nat.le_refl _) (by omega)).1 r4
        · exact (h.2 a (Nat.le_refl _) (by omega)).2 l4
theorem isStill_ok {s : Nat → Int32} {S : Sy} (hS : GdS s S) {M : BX4} (hM : p4_s M = s) {u : Nat → Int} {l : Int} (hv : UpQ S M u l) (hR : RowIn S u l) (hl : l ≤ 104976) (hu : ∀ i, i ≤ S.n → inL (u i)) :
    (fX4_isStill M = some 1 ∧ RestT S u l) ∨ (fX4_isStill M = some 0 ∧ ¬ RestT S u l) := by
  have n4 := hS.n4
  obtain ⟨m, hm⟩ := FU_ex (S.n + 1) (by omega)
  unfold fX4_isStill
  rw [hm, show m + (S.n + 1) = m + S.n + 1 by omega, rest_iff4 hS hR]
  clear hm
  rcases t4_all hS hM hv hR ⟨hR.pos, hl⟩ hu S.n 0 m 1 (by omega) (Or.inr rfl) with ⟨q1, q2, q3⟩ | ⟨q1, q2⟩
  · exact Or.inl ⟨q1, fun a ha => q3 a (by omega) ha⟩
  · exact Or.inr ⟨q1, fun h => q2 ⟨rfl, fun b _ hb => h b hb⟩⟩
