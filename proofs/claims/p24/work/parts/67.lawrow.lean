/-! the law's row: what its own functions tell -/
abbrev LR (L : BX0) (s g k : Nat → Int32) (p : Nat) (vu : Nat → Int64) (y : Nat → Int) (D : Int) : Prop :=
  LaySy L (syO s) ∧ (syO s).n = p ∧ Liv s g k p ∧ s 1 = nI p ∧ (∀ i, i < p → vu i = nL (y (i + 1))) ∧ RestT (syO s) y D ∧ D ≤ 104976
section LR
variable {L : BX0} {s g k : Nat → Int32} {p : Nat} {vu : Nat → Int64} {y : Nat → Int} {D : Int}
theorem LR.ls (h : LR L s g k p vu y D) : LaySy L (syO s) := h.1
theorem LR.n (h : LR L s g k p vu y D) : (syO s).n = p := h.2.1
theorem LR.lv (h : LR L s g k p vu y D) : Liv s g k p := h.2.2.1
theorem LR.s1 (h : LR L s g k p vu y D) : s 1 = nI p := h.2.2.2.1
theorem LR.u (h : LR L s g k p vu y D) : ∀ i, i < p → vu i = nL (y (i + 1)) := h.2.2.2.2.1
theorem LR.re (h : LR L s g k p vu y D) : RestT (syO s) y D := h.2.2.2.2.2.1
theorem LR.D9 (h : LR L s g k p vu y D) : D ≤ 104976 := h.2.2.2.2.2.2
theorem LR.p4 (h : LR L s g k p vu y D) : p ≤ 4 := by have := h.ls.n4; rw [h.n] at this; exact this
theorem LR.D0 (h : LR L s g k p vu y D) : 0 < D := h.re.pos
theorem LR.iy (h : LR L s g k p vu y D) (i : Nat) (hi : i ≤ p + 1) : inL (y i) := row_inL h.ls h.re.toRowIn h.D9 i (by rw [h.n]; exact hi)
theorem LR.iD (h : LR L s g k p vu y D) : inL D := l_inL h.D0 h.D9
theorem LR.ix (h : LR L s g k p vu y D) (x : Int) (h1 : -1 ≤ x) (h2 : x ≤ 99) : inL (x * D) := by
  have d0 := h.D0
  have d9 := h.D9
  have a1 : x * D ≤ 99 * D := Int.mul_le_mul_of_nonneg_right h2 (by omega)
  have a2 : (-1) * D ≤ x * D := Int.mul_le_mul_of_nonneg_right h1 (by omega)
  exact ⟨by omega, by omega⟩
theorem LR.w (h : LR L s g k p vu y D) : y (p + 1) = (s 0).toInt * D := by
  have := h.re.w
  rw [h.n] at this
  exact this
theorem lplace (h : LR L s g k p vu y D) (i : Nat) (hi : i ≤ p) : fL_place g vu (nL D) (nI i) = some (nL (y (i + 1))) := by
  have p4 := h.p4
  unfold fL_place
  rw [if_pos (show (0 : Int32) ≤ nI i from nI_pos' (by omega)), cl1, h.lv.2.1, h.s1]
  by_cases e : i = p
  · subst e
    rw [if_pos rfl, cl0, h.lv.1, nL_I, nL_mul, h.w]
  · rw [if_neg (fun q => e ((nI_eq (by omega) (by omega)).mp q)), if_pos (inB_nI (by omega) (by omega)), nI_clamp (by omega), h.u i (by omega)]
theorem lplaceP (h : LR L s g k p vu y D) (i : Nat) (hi : i ≤ p) : fL_place g vu (nL D) (nI i - 1) = some (nL (y i)) := by
  match i, hi with
  | 0, hi =>
    unfold fL_place
    rw [if_neg (by decide), h.re.z]
    rfl
  | i + 1, hi => rw [nI_pred]; exact lplace h i (by omega)
theorem lpull (h : LR L s g k p vu y D) (i : Nat) (hi : i ≤ p) : fL_pull g k vu (nL D) (nI i) = some (nL (tnS (syO s) y D i)) := by
  have p4 := h.p4
  have e5 : (5 : Int32) + nI i = nI (5 + i) := nI_add 5 i
  obtain ⟨k1, k2⟩ := h.lv.2.2.1 i hi
  unfold fL_pull
  rw [if_pos (inB_nI (by omega) (by omega)), lplace h i hi, Option.bind_some, lplaceP h i hi, Option.bind_some, e5, if_pos (inB_nI (by omega) (by omega)), nI_clamp (by omega), nI_clamp (by omega), k1, k2, nL_I, nL_I, nL_sub, nL_mul, nL_sub, nL_mul]
  rfl
theorem lforce (h : LR L s g k p vu y D) (i : Nat) (hi : i < p) : fL_force g k vu (nL D) (nI i) = some (nL (gS (syO s) y D (i + 1) - gS (syO s) y D i)) := by
  have p4 := h.p4
  have e10 : (10 : Int32) + nI i = nI (10 + i) := nI_add 10 i
  unfold fL_force
  rw [nI_1, lpull h (i + 1) (by omega), Option.bind_some, lpull h i (by omega), Option.bind_some, e10, if_pos (inB_nI (by omega) (by omega)), nI_clamp (by omega), (h.lv.2.2.2 i hi).1, nL_I, nL_sub, nL_mul, nL_add, gS_d]
  rfl
theorem lo_b (h : LR L s g k p vu y D) (i : Nat) (hi : i < p) : 0 ≤ (syO s).lo i ∧ (syO s).lo i ≤ 99 := by
  have n := h.n
  have a := h.ls.lo0 i (by omega)
  have b := h.ls.al i i (Nat.le_refl _) (by omega)
  have c := h.ls.hiW i (by omega)
  have d := h.ls.W1
  exact ⟨a, by omega⟩
theorem hi_b (h : LR L s g k p vu y D) (i : Nat) (hi : i < p) : 0 ≤ (syO s).hi i ∧ (syO s).hi i ≤ 99 := by
  have n := h.n
  have a := h.ls.lo0 i (by omega)
  have b := h.ls.al i i (Nat.le_refl _) (by omega)
  have c := h.ls.hiW i (by omega)
  have d := h.ls.W1
  exact ⟨by omega, by omega⟩
/-! rest -/
theorem rest16 (h : LR L s g k p vu y D) : ∀ d j, j + d = p → ∀ n, fL_rest_16 (n + d + 1) g k vu (nL D) 1 (nI j) = fL_rest_99 FU g k vu (nL D) 1 (nI 0) := by
  have p4 := h.p4
  intro d
  induction d with
  | zero =>
    intro j hj n
    obtain rfl : j = p := by omega
    show fL_rest_16_b (fL_rest_16 (n + 0)) g k vu (nL D) 1 (nI j) = _
    unfold fL_rest_16_b
    rw [cl1, h.lv.2.1, h.s1, if_pos (lec (Nat.le_refl _) (by omega))]
    rfl
  | succ d ih =>
    intro j hj n
    have hjp : j < p := by omega
    have e83 : fL_rest_83 (fL_rest_16 (n + d + 1)) g k vu (nL D) (nI j) = fL_rest_99 FU g k vu (nL D) 1 (nI 0) := by
      unfold fL_rest_83 fL_rest_88
      rw [elet_eq, nI_1]
      exact ih (j + 1) (by omega) n
    have n' := h.n
    have ilo := h.ix _ (by have := lo_b h j hjp; omega) (lo_b h j hjp).2
    have ihi := h.ix _ (by have := hi_b h j hjp; omega) (hi_b h j hjp).2
    have iy := h.iy (j + 1) (by omega)
    have iy0 := h.iy j (by omega)
    show fL_rest_16_b (fL_rest_16 (n + d + 1)) g k vu (nL D) 1 (nI j) = _
    unfold fL_rest_16_b
    rw [cl1, h.lv.2.1, h.s1, if_neg (nlec (by omega) (by omega)), if_neg (by decide), if_pos (inB_nI (by omega) (by omega)), least_v h.lv p4 j hjp, Option.bind_some, nI_clamp (by omega), h.u j hjp, nL_I, nL_mul]
    rw [if_neg (show ¬ lg_cmp (nL (y (j + 1))) (nL ((lowB s j).toInt * D)) < 0 from fun q => by have q1 : y (j + 1) < (syO s).lo j * D := (cmp_l0 iy ilo).mp q; have q2 := h.re.lo j (by omega); omega)]
    rw [if_pos (inB_nI (by omega) (by omega)), most_v h.lv p4 j hjp, Option.bind_some, nL_I, nL_mul]
    rw [if_neg (show ¬ 0 < lg_cmp (nL (y (j + 1))) (nL ((highB s j).toInt * D)) from fun q => by have q1 : (syO s).hi j * D < y (j + 1) := (cmp_g0 iy ihi).mp q; have q2 := h.re.hi j (by omega); omega)]
    by_cases j0 : j = 0
    · subst j0
      rw [if_pos (show nI 0 = (0 : Int32) from rfl), e83]
    · obtain ⟨i, rfl⟩ : ∃ i, j = i + 1 := ⟨j - 1, by omega⟩
      rw [if_neg (nI_ne0 (by omega) (by omega)), if_pos (inB_nI (by omega) (by omega)), nI_pred, if_pos (inB_nI (by omega) (by omega)), nI_clamp (by omega), h.u i (by omega)]
      rw [if_neg (show ¬ lg_cmp (nL (y (i + 1 + 1))) (nL (y (i + 1))) < 0 from fun q => by have := (cmp_l0 iy iy0).mp q; have := h.re.mono (i + 1) (by omega); omega), e83]
abbrev RF (s : Nat → Int32) (p : Nat) (y : Nat → Int) (D : Int) (a b j : Nat) : Prop := y (a + 1) = y (b + 1) ∧ (b + 1 = p ∨ y (b + 1) < y (b + 2)) ∧ ∀ i, a ≤ i → i < j → y (i + 1) < (syO s).hi i * D
abbrev LF (s : Nat → Int32) (y : Nat → Int) (D : Int) (a b j : Nat) : Prop := y (a + 1) = y (b + 1) ∧ (a = 0 ∨ y a < y (a + 1)) ∧ ∀ i, a ≤ i → i < j → (syO s).lo i * D < y (i + 1)
theorem rest212 (h : LR L s g k p vu y D) (k99 : (Nat → Int32) → (Nat → Int32) → (Nat → Int64) → Int64 → Int32 → Int32 → Option Int32) (k111 : (Nat → Int32) → (Nat → Int32) → (Nat → Int64) → Int64 → Int32 → Int32 → Int32 → Option Int32) (a b : Nat) (hab : a ≤ b) (hb : b < p) : ∀ d j, j + d = b + 1 → a ≤ j → ∀ (x9 x10 : Int32) (n : Nat), (x9 = 0 ∨ (x9 = 1 ∧ RF s p y D a b j)) → (x10 = 0 ∨ (x10 = 1 ∧ LF s y D a b j)) →
    fL_rest_212 k99 k111 (n + d + 1) g k vu (nL D) 1 (nI a) (nI b) x9 x10 (nL (gS (syO s) y D j - gS (syO s) y D a)) (nI j) = k111 g k vu (nL D) 1 (nI a) (nI (b + 1)) := by
  have p4 := h.p4
  have np := h.n
  intro d
  induction d with
  | zero =>
    intro j hj haj x9 x10 n h9 h10
    obtain rfl : j = b + 1 := by omega
    have e327 : fL_rest_327 k99 k111 g k vu (nL D) (nI a) (nI b) = k111 g k vu (nL D) 1 (nI a) (nI (b + 1)) := by
      unfold fL_rest_327 fL_rest_332
      rw [elet_eq, nI_1]
    have gb1 := gS_bd h.ls h.re.toRowIn h.D9 (b + 1) (by omega)
    have gb2 := gS_bd h.ls h.re.toRowIn h.D9 a (by omega)
    have ig : inL (gS (syO s) y D (b + 1) - gS (syO s) y D a) := ⟨by omega, by omega⟩
    have e315 : fL_rest_315 k99 k111 g k vu (nL D) (nI a) (nI b) x10 (nL (gS (syO s) y D (b + 1) - gS (syO s) y D a)) = k111 g k vu (nL D) 1 (nI a) (nI (b + 1)) := by
      unfold fL_rest_315
      rcases h10 with rfl | ⟨rfl, q1, q2, q3⟩
      · rw [if_pos rfl, e327]
      · rw [if_neg (by decide), if_neg (show ¬ lg_cmp (nL (gS (syO s) y D (b + 1) - gS (syO s) y D a)) 0 < 0 from fun q => ?_), e327]
        have q := (cmp_l0 ig inL_0).mp q
        have z : y a < y (a + 1) := by
          rcases q2 with q2 | q2
          · subst q2
            have c1 := q3 0 (Nat.le_refl _) (by omega)
            have c2 := h.ls.lo0 0 (by omega)
            have c3 : 0 ≤ (syO s).lo 0 * D := Int.mul_nonneg c2 (Int.le_of_lt h.D0)
            have c4 := h.re.z
            omega
          · exact q2
        have := h.re.left a (b + 1) (by omega) (by omega) q1 z (fun i h1 h2 => q3 i h1 h2)
        omega
    show fL_rest_212_b k99 k111 (fL_rest_212 k99 k111 (n + 0)) g k vu (nL D) 1 (nI a) (nI b) x9 x10 _ (nI (b + 1)) = _
    unfold fL_rest_212_b
    rw [if_pos (ltc (by omega) (by omega)), if_neg (by decide)]
    rcases h9 with rfl | ⟨rfl, q1, q2, q3⟩
    · rw [if_pos rfl, e315]
    · rw [if_neg (by decide), if_neg (show ¬ 0 < lg_cmp (nL (gS (syO s) y D (b + 1) - gS (syO s) y D a)) 0 from fun q => ?_), e315]
      have q := (cmp_g0 ig inL_0).mp q
      have z : y (b + 1) < y (b + 1 + 1) := by
        rcases q2 with q2 | q2
        · have c1 := q3 b hab (by omega)
          have c2 := h.ls.hiW b (by omega)
          have c3 : (syO s).hi b * D ≤ (syO s).W * D := Int.mul_le_mul_of_nonneg_right c2 (Int.le_of_lt h.D0)
          have c4 := h.re.w
          rw [np, ← q2] at c4
          omega
        · exact q2
      have := h.re.right a (b + 1) (by omega) (by omega) q1 z (fun i h1 h2 => q3 i h1 h2)
      omega
  | succ d ih =>
    intro j hj haj x9 x10 n h9 h10
    have hjp : j < p := by omega
    have ilo := h.ix _ (by have := lo_b h j hjp; omega) (lo_b h j hjp).2
    have ihi := h.ix _ (by have := hi_b h j hjp; omega) (hi_b h j hjp).2
    have iy := h.iy (j + 1) (by omega)
    have rst : ∀ x9 x10 : Int32, (x9 = 0 ∨ (x9 = 1 ∧ RF s p y D a b (j + 1))) → (x10 = 0 ∨ (x10 = 1 ∧ LF s y D a b (j + 1))) → fL_rest_290 k99 k111 (fL_rest_212 k99 k111 (n + d + 1)) g k vu (nL D) 1 (nI a) (nI b) x9 (nL (gS (syO s) y D (j + 1) - gS (syO s) y D a)) (nI j) x10 = k111 g k vu (nL D) 1 (nI a) (nI (b + 1)) := by
      intro x9 x10 c9 c10
      unfold fL_rest_290
      rw [elet_eq, nI_1]
      exact ih (j + 1) (by omega) (by omega) x9 x10 n c9 c10
    have r261 : ∀ x9 : Int32, (x9 = 0 ∨ (x9 = 1 ∧ RF s p y D a b (j + 1))) → fL_rest_261 k99 k111 (fL_rest_212 k99 k111 (n + d + 1)) g k vu (nL D) 1 (nI a) (nI b) x10 (nL (gS (syO s) y D (j + 1) - gS (syO s) y D a)) (nI j) x9 = k111 g k vu (nL D) 1 (nI a) (nI (b + 1)) := by
      intro x9 c9
      unfold fL_rest_261 fL_rest_289
      rcases h10 with rfl | ⟨rfl, q1, q2, q3⟩
      · rw [if_pos rfl]
        exact rst x9 0 c9 (Or.inl rfl)
      · rw [if_neg (by decide), if_pos (inB_nI (by omega) (by omega)), least_v h.lv p4 j hjp, Option.bind_some, nI_clamp (by omega), h.u j hjp, nL_I, nL_mul]
        by_cases c : y (j + 1) ≤ (syO s).lo j * D
        · rw [if_pos (show lg_cmp (nL (y (j + 1))) (nL ((lowB s j).toInt * D)) ≤ 0 from (cmp_le0 iy ilo).mpr c)]
          exact rst x9 0 c9 (Or.inl rfl)
        · rw [if_neg (show ¬ lg_cmp (nL (y (j + 1))) (nL ((lowB s j).toInt * D)) ≤ 0 from fun q => c ((cmp_le0 iy ilo).mp q))]
          refine rst x9 1 c9 (Or.inr ⟨rfl, q1, q2, fun i h1 h2 => ?_⟩)
          by_cases e : i = j
          · subst e; omega
          · exact q3 i h1 (by omega)
    show fL_rest_212_b k99 k111 (fL_rest_212 k99 k111 (n + d + 1)) g k vu (nL D) 1 (nI a) (nI b) x9 x10 _ (nI j) = _
    unfold fL_rest_212_b fL_rest_260
    rw [if_neg (nltc (by omega) (by omega)), lforce h j hjp, Option.bind_some, elet_eq, nL_add, show gS (syO s) y D j - gS (syO s) y D a + (gS (syO s) y D (j + 1) - gS (syO s) y D j) = gS (syO s) y D (j + 1) - gS (syO s) y D a by omega]
    rcases h9 with rfl | ⟨rfl, q1, q2, q3⟩
    · rw [if_pos rfl]
      exact r261 0 (Or.inl rfl)
    · rw [if_neg (by decide), if_pos (inB_nI (by omega) (by omega)), most_v h.lv p4 j hjp, Option.bind_some, nI_clamp (by omega), h.u j hjp, nL_I, nL_mul]
      by_cases c : (syO s).hi j * D ≤ y (j + 1)
      · rw [if_pos (show 0 ≤ lg_cmp (nL (y (j + 1))) (nL ((highB s j).toInt * D)) from (cmp_ge0 iy ihi).mpr c)]
        exact r261 0 (Or.inl rfl)
      · rw [if_neg (show ¬ 0 ≤ lg_cmp (nL (y (j + 1))) (nL ((highB s j).toInt * D)) from fun q => c ((cmp_ge0 iy ihi).mp q))]
        refine r261 1 (Or.inr ⟨rfl, q1, q2, fun i h1 h2 => ?_⟩)
        by_cases e : i = j
        · subst e; omega
        · exact q3 i h1 (by omega)
theorem rest111 (h : LR L s g k p vu y D) (k99 : (Nat → Int32) → (Nat → Int32) → (Nat → Int64) → Int64 → Int32 → Int32 → Option Int32) (a : Nat) (ha : a < p) : ∀ d b, b + d = p → a ≤ b → ∀ (n : Nat), fL_rest_111 k99 (n + d + 1) g k vu (nL D) 1 (nI a) (nI b) = k99 g k vu (nL D) 1 (nI (a + 1)) := by
  have p4 := h.p4
  have np := h.n
  intro d
  induction d with
  | zero =>
    intro b hb hab n
    obtain rfl : b = p := by omega
    show fL_rest_111_b k99 (fL_rest_111 k99 (n + 0)) g k vu (nL D) 1 (nI a) (nI b) = _
    unfold fL_rest_111_b
    rw [cl1, h.lv.2.1, h.s1, if_pos (lec (Nat.le_refl _) (by omega)), elet_eq, nI_1]
  | succ d ih =>
    intro b hb hab n
    have hbp : b < p := by omega
    obtain ⟨m, hm⟩ := FU_ex (b + 1 - a + 1) (by omega)
    have ia := h.iy (a + 1) (by omega)
    have ib := h.iy (b + 1) (by omega)
    have ia0 := h.iy a (by omega)
    have ib2 := h.iy (b + 2) (by omega)
    have k203 : ∀ x9 x10 : Int32, (x9 = 0 ∨ (x9 = 1 ∧ RF s p y D a b a)) → (x10 = 0 ∨ (x10 = 1 ∧ LF s y D a b a)) → fL_rest_203 k99 (fL_rest_111 k99 (n + d + 1)) g k vu (nL D) 1 (nI a) (nI b) x9 x10 = k99 g k vu (nL D) 1 (nI (a + 1)) := by
      intro x9 x10 c9 c10
      unfold fL_rest_203
      have e := rest212 h k99 (fL_rest_111 k99 (n + d + 1)) a b hab hbp (b + 1 - a) a (by omega) (Nat.le_refl _) x9 x10 m c9 c10
      rw [Int.sub_self] at e
      rw [hm, ← Nat.add_assoc]
      exact e.trans (ih (b + 1) (by omega) (by omega) n)
    have k172 : ∀ x8 x9 : Int32, (x8 = 0 ∨ (x8 = 1 ∧ y (a + 1) = y (b + 1))) → (x9 = 0 ∨ (x9 = 1 ∧ RF s p y D a b a)) → fL_rest_172 k99 (fL_rest_111 k99 (n + d + 1)) g k vu (nL D) 1 (nI a) (nI b) x8 x9 = k99 g k vu (nL D) 1 (nI (a + 1)) := by
      intro x8 x9 c8 c9
      unfold fL_rest_172 fL_rest_202 fL_rest_198
      rcases c8 with rfl | ⟨rfl, c8⟩
      · rw [if_pos rfl]
        exact k203 x9 0 c9 (Or.inl rfl)
      · rw [if_neg (by decide)]
        by_cases a0 : a = 0
        · subst a0
          rw [if_pos (show nI 0 = (0 : Int32) from rfl)]
          exact k203 x9 1 c9 (Or.inr ⟨rfl, c8, Or.inl rfl, fun i h1 h2 => absurd h2 (by omega)⟩)
        · obtain ⟨i, rfl⟩ : ∃ i, a = i + 1 := ⟨a - 1, by omega⟩
          rw [if_neg (nI_ne0 (by omega) (by omega)), nI_pred, if_pos (inB_nI (by omega) (by omega)), if_pos (inB_nI (by omega) (by omega)), nI_clamp (by omega), nI_clamp (by omega), h.u i (by omega), h.u (i + 1) (by omega)]
          by_cases c : y (i + 1 + 1) ≤ y (i + 1)
          · rw [if_pos (show 0 ≤ lg_cmp (nL (y (i + 1))) (nL (y (i + 1 + 1))) from (cmp_ge0 ia0 ia).mpr c)]
            exact k203 x9 0 c9 (Or.inl rfl)
          · rw [if_neg (show ¬ 0 ≤ lg_cmp (nL (y (i + 1))) (nL (y (i + 1 + 1))) from fun q => c ((cmp_ge0 ia0 ia).mp q))]
            exact k203 x9 1 c9 (Or.inr ⟨rfl, c8, Or.inr (by omega), fun i h1 h2 => absurd h2 (by omega)⟩)
    have k136 : ∀ x8 : Int32, (x8 = 0 ∨ (x8 = 1 ∧ y (a + 1) = y (b + 1))) → fL_rest_136 k99 (fL_rest_111 k99 (n + d + 1)) g k vu (nL D) 1 (nI a) (nI b) x8 = k99 g k vu (nL D) 1 (nI (a + 1)) := by
      intro x8 c8
      unfold fL_rest_136 fL_rest_171 fL_rest_167
      rcases c8 with rfl | ⟨rfl, c8⟩
      · rw [if_pos rfl]
        exact k172 0 0 (Or.inl rfl) (Or.inl rfl)
      · obtain ⟨q, rfl⟩ : ∃ q, p = q + 1 := ⟨p - 1, by omega⟩
        rw [if_neg (by decide), cl1, h.lv.2.1, h.s1, nI_pred]
        by_cases e : b = q
        · subst e
          rw [if_pos rfl]
          exact k172 1 1 (Or.inr ⟨rfl, c8⟩) (Or.inr ⟨rfl, c8, Or.inl rfl, fun i h1 h2 => absurd h2 (by omega)⟩)
        · rw [if_neg (fun z => e ((nI_eq (by omega) (by omega)).mp z)), nI_1, if_pos (inB_nI (by omega) (by omega)), if_pos (inB_nI (by omega) (by omega)), nI_clamp (by omega), nI_clamp (by omega), h.u (b + 1) (by omega), h.u b (by omega)]
          by_cases c : y (b + 1 + 1) ≤ y (b + 1)
          · rw [if_pos (show lg_cmp (nL (y (b + 1 + 1))) (nL (y (b + 1))) ≤ 0 from (cmp_le0 ib2 ib).mpr c)]
            exact k172 1 0 (Or.inr ⟨rfl, c8⟩) (Or.inl rfl)
          · rw [if_neg (show ¬ lg_cmp (nL (y (b + 1 + 1))) (nL (y (b + 1))) ≤ 0 from fun z => c ((cmp_le0 ib2 ib).mp z))]
            exact k172 1 1 (Or.inr ⟨rfl, c8⟩) (Or.inr ⟨rfl, c8, Or.inr (Int.not_le.mp c), fun i h1 h2 => absurd h2 (by omega)⟩)
    show fL_rest_111_b k99 (fL_rest_111 k99 (n + d + 1)) g k vu (nL D) 1 (nI a) (nI b) = _
    unfold fL_rest_111_b
    rw [cl1, h.lv.2.1, h.s1, if_neg (nlec (by omega) (by omega)), if_pos (inB_nI (by omega) (by omega)), if_pos (inB_nI (by omega) (by omega)), nI_clamp (by omega), nI_clamp (by omega), h.u a ha, h.u b hbp]
    by_cases c : y (a + 1) = y (b + 1)
    · rw [if_pos ((cmp_e0 ia ib).mpr c)]
      exact k136 1 (Or.inr ⟨rfl, c⟩)
    · rw [if_neg (fun z => c ((cmp_e0 ia ib).mp z))]
      exact k136 0 (Or.inl rfl)
theorem rest99 (h : LR L s g k p vu y D) : ∀ d a, a + d = p → ∀ (n : Nat), fL_rest_99 (n + d + 1) g k vu (nL D) 1 (nI a) = some 1 := by
  have p4 := h.p4
  intro d
  induction d with
  | zero =>
    intro a ha n
    obtain rfl : a = p := by omega
    show fL_rest_99_b (fL_rest_99 (n + 0)) g k vu (nL D) 1 (nI a) = _
    unfold fL_rest_99_b
    generalize FU = F
    rw [cl1, h.lv.2.1, h.s1, if_pos (lec (Nat.le_refl _) (by omega)), if_pos (by decide)]
  | succ d ih =>
    intro a ha n
    obtain ⟨m, hm⟩ := FU_ex (d + 1 + 1) (by omega)
    have e := rest111 h (fL_rest_99 (n + d + 1)) a (by omega) (d + 1) a ha (Nat.le_refl _) m
    have hm' : FU = m + (d + 1) + 1 := hm
    rw [← hm'] at e
    show fL_rest_99_b (fL_rest_99 (n + d + 1)) g k vu (nL D) 1 (nI a) = _
    rw [← ih (a + 1) (by omega) n, ← e]
    unfold fL_rest_99_b
    generalize FU = F
    rw [cl1, h.lv.2.1, h.s1, if_neg (nlec (by omega) (by omega))]
theorem rest_one24 (h : LR L s g k p vu y D) : fL_rest g k vu (nL D) = some 1 := by
  have p4 := h.p4
  obtain ⟨m, hm⟩ := FU_ex (p + 1) (by omega)
  have d0 := h.D0
  have e1 := rest16 h p 0 (by omega) m
  have e2 := rest99 h p 0 (by omega) m
  rw [Nat.add_assoc, ← hm] at e1 e2
  unfold fL_rest fL_rest_11
  rw [if_neg (show ¬ lg_cmp (nL D) 0 ≤ 0 from fun q => by have := (cmp_le0 h.iD inL_0).mp q; omega)]
  exact e1.trans e2
end LR
