/-! nothing moves -/
abbrev SpQ (S : Sy) (v : BX1) (u : Nat → Int) (l : Int) : Prop := p1_lower v = nL l ∧ ∀ i, i ≤ S.n + 1 → p1_spots v i = nL (u i)
theorem tension_v {L : BX0} {S : Sy} (hL : LaySy L S) {v : BX1} {u : Nat → Int} {l : Int} (hv : SpQ S v u l) (k : Nat) (hk : k ≤ S.n) : fX1_tensionOf L v (nI k) = some (nL (tnS S u l k)) := by
  have n4 := hL.n4
  unfold fX1_tensionOf
  rw [nI_1, if_pos (inB_nI (by omega) (by omega)), if_pos (inB_nI (by omega) (by omega)), nI_clamp (by omega), nI_clamp (by omega)]
  simp only [elet_eq]
  rw [if_pos (inB_nI (by omega) (by omega)), if_pos (inB_nI (by omega) (by omega)), hv.2 _ (by omega), hv.2 _ (by omega), hv.1, nL_I, nL_I, hL.st k hk, hL.le k hk, nL_mul, nL_sub, nL_sub, nL_mul]
  rfl
theorem forceOn_v {L : BX0} {S : Sy} (hL : LaySy L S) {v : BX1} {u : Nat → Int} {l : Int} (hv : SpQ S v u l) (a b : Nat) (hab : a ≤ b) (hb : b < S.n) : fX1_forceOn L v (nI a) (nI b) = some (nL (gS S u l (b + 1) - gS S u l a)) := by
  have n4 := hL.n4
  obtain ⟨y, y1, y2⟩ := hL.su a b hab hb
  unfold fX1_forceOn
  rw [y1, Option.bind_some]
  simp only [elet_eq]
  rw [nI_1, tension_v hL hv (b + 1) (by omega), Option.bind_some, tension_v hL hv a (by omega), Option.bind_some, nL_I, y2, hv.1, nL_mul, nL_add, nL_sub]
  unfold gS
  congr 2
  grind
theorem touches_v {L : BX0} {S : Sy} (hL : LaySy L S) {v : BX1} {u : Nat → Int} {l : Int} (hv : SpQ S v u l) (hu : ∀ i, i ≤ S.n + 1 → inL (u i)) (a : Nat) (ha : a < S.n) : fX1_touchesNext v (nI a) = some (if u (a + 1) = u (a + 2) then 1 else 0) := by
  have n4 := hL.n4
  unfold fX1_touchesNext
  rw [nI_1, show nI a + 2 = nI (a + 2) from nI_add a 2, if_pos (inB_nI (by omega) (by omega)), if_pos (inB_nI (by omega) (by omega)), nI_clamp (by omega), nI_clamp (by omega), hv.2 _ (by omega), hv.2 _ (by omega)]
  by_cases q : u (a + 1) = u (a + 2)
  · rw [if_pos ((cmp_e0 (hu _ (by omega)) (hu _ (by omega))).mpr q), if_pos q]
  · rw [if_neg (fun h => q ((cmp_e0 (hu _ (by omega)) (hu _ (by omega))).mp h)), if_neg q]
theorem isAt_v {L : BX0} {S : Sy} (hL : LaySy L S) {v : BX1} {u : Nat → Int} {l : Int} (hv : SpQ S v u l) (hu : ∀ i, i ≤ S.n + 1 → inL (u i)) (hl : 0 ≤ l ∧ l ≤ 104976) (a : Nat) (ha : a < S.n) (x : Int32) (hx : -1 ≤ x.toInt ∧ x.toInt ≤ 99) : fX1_isAt v (nI a) x = some (if u (a + 1) = x.toInt * l then 1 else 0) := by
  have n4 := hL.n4
  have b1 : x.toInt * l ≤ 99 * l := Int.mul_le_mul_of_nonneg_right hx.2 hl.1
  have b2 : (-1) * l ≤ x.toInt * l := Int.mul_le_mul_of_nonneg_right hx.1 hl.1
  have i1 : inL (x.toInt * l) := ⟨by omega, by omega⟩
  unfold fX1_isAt
  rw [nI_1, if_pos (inB_nI (by omega) (by omega)), nI_clamp (by omega), hv.2 _ (by omega), hv.1, nL_I, nL_mul]
  by_cases q : u (a + 1) = x.toInt * l
  · rw [if_pos ((cmp_e0 (hu _ (by omega)) i1).mpr q), if_pos q]
  · rw [if_neg (fun h => q ((cmp_e0 (hu _ (by omega)) i1).mp h)), if_neg q]
/-- these plates move -/
abbrev MT (S : Sy) (u : Nat → Int) (l : Int) (lw hg : Nat → Int) (a b : Nat) : Prop :=
  (gS S u l a < gS S u l (b + 1) ∧ ¬ (b + 1 < S.n ∧ u (b + 1) = u (b + 2)) ∧ ¬ u (a + 1) = hg a * l) ∨
  (gS S u l (b + 1) < gS S u l a ∧ ¬ (0 < a ∧ u a = u (a + 1)) ∧ ¬ u (b + 1) = lw b * l)
theorem row_bd {S : Sy} {u : Nat → Int} {l : Int} (hR : RowIn S u l) (i : Nat) (hi : i ≤ S.n + 1) : 0 ≤ u i ∧ u i ≤ S.W * l := by
  have a := mono_le hR 0 i (by omega) hi
  have b := mono_le hR i (S.n + 1) hi (by omega)
  rw [hR.z] at a
  rw [hR.w] at b
  exact ⟨a, b⟩
theorem gS_bd {L : BX0} {S : Sy} (hL : LaySy L S) {u : Nat → Int} {l : Int} (hR : RowIn S u l) (hl : l ≤ 104976) (k : Nat) (hk : k ≤ S.n) : -1000000000 ≤ gS S u l k ∧ gS S u l k ≤ 1000000000 := by
  have n4 := hL.n4
  have l0 := hR.pos
  have a1 := row_bd hR k (by omega)
  have a2 := row_bd hR (k + 1) (by omega)
  have w : S.W * l ≤ 99 * l := Int.mul_le_mul_of_nonneg_right hL.W1 (by omega)
  have b1 := hL.K0 k hk
  have b2 := hL.L0 k hk
  have c1 : 0 ≤ S.L k * l := Int.mul_nonneg b2.1 (by omega)
  have c2 : S.L k * l ≤ 50 * l := Int.mul_le_mul_of_nonneg_right b2.2 (by omega)
  have p := preS_bd hL.q0 0 k (by omega)
  rw [Nat.zero_add] at p
  simp only [preS] at p
  have d1 : l * preS S.q k ≤ l * 396 := Int.mul_le_mul_of_nonneg_left (by omega) (by omega)
  have d2 : l * (-396) ≤ l * preS S.q k := Int.mul_le_mul_of_nonneg_left (by omega) (by omega)
  obtain ⟨t, ht⟩ : ∃ t, t = u (k + 1) - u k - S.L k * l := ⟨_, rfl⟩
  have t1 : -15641424 ≤ t := by omega
  have t2 : t ≤ 15641424 := by omega
  have e1 : S.K k * t ≤ S.K k * 15641424 := Int.mul_le_mul_of_nonneg_left t2 (by omega)
  have e2 : S.K k * (-15641424) ≤ S.K k * t := Int.mul_le_mul_of_nonneg_left t1 (by omega)
  unfold gS tnS
  rw [← ht]
  omega
theorem move_v {L : BX0} {S : Sy} (hL : LaySy L S) {v : BX1} {u : Nat → Int} {l : Int} (hB : BndQ S v) (hv : SpQ S v u l) (hR : RowIn S u l) (hl : l ≤ 104976) (a b : Nat) (hab : a ≤ b) (hb : b < S.n) :
    ∃ r, fX1_moveTogether L v (nI a) (nI b) = some r ∧ ((r = 1 ∧ MT S u l (fun i => (p1_lowest v i).toInt) (fun i => (p1_highest v i).toInt) a b) ∨ (r = 0 ∧ ¬ MT S u l (fun i => (p1_lowest v i).toInt) (fun i => (p1_highest v i).toInt) a b)) := by
  have n4 := hL.n4
  have W1 := hL.W1
  have l0 := hR.pos
  have w : S.W * l ≤ 99 * l := Int.mul_le_mul_of_nonneg_right hL.W1 (by omega)
  have hu : ∀ i, i ≤ S.n + 1 → inL (u i) := fun i hi => by have := row_bd hR i hi; exact ⟨by omega, by omega⟩
  have ba := SB_BndQ_ex hB hL.lo0 hL.al hL.hiW a (by omega)
  have bb := SB_BndQ_ex hB hL.lo0 hL.al hL.hiW b hb
  have g1 := gS_bd hL hR hl a (by omega)
  have g2 := gS_bd hL hR hl (b + 1) (by omega)
  have iF : inL (gS S u l (b + 1) - gS S u l a) := ⟨by omega, by omega⟩
  have m39 : ∀ st : Int32, fX1_moveTogether_39 L v (nI a) st = some (if st = 0 then (if u (a + 1) = (p1_highest v a).toInt * l then 0 else 1) else 0) := by
    intro st
    unfold fX1_moveTogether_39
    by_cases q : st = 0
    · rw [if_pos q, if_pos q, if_pos (inB_nI (by omega) (by omega)), nI_clamp (by omega), isAt_v hL hv hu ⟨by omega, hl⟩ a (by omega) _ (by omega), Option.bind_some]
      by_cases q2 : u (a + 1) = (p1_highest v a).toInt * l
      · rw [if_pos q2, if_pos q2, if_neg (by decide)]
      · rw [if_neg q2, if_neg q2, if_pos rfl]
    · rw [if_neg q, if_neg q]
  have m92 : ∀ st : Int32, fX1_moveTogether_92 L v (nI b) st = some (if st = 0 then (if u (b + 1) = (p1_lowest v b).toInt * l then 0 else 1) else 0) := by
    intro st
    unfold fX1_moveTogether_92
    by_cases q : st = 0
    · rw [if_pos q, if_pos q, if_pos (inB_nI (by omega) (by omega)), nI_clamp (by omega), isAt_v hL hv hu ⟨by omega, hl⟩ b (by omega) _ (by omega), Option.bind_some]
      by_cases q2 : u (b + 1) = (p1_lowest v b).toInt * l
      · rw [if_pos q2, if_pos q2, if_neg (by decide)]
      · rw [if_neg q2, if_neg q2, if_pos rfl]
    · rw [if_neg q, if_neg q]
  unfold fX1_moveTogether fX1_moveTogether_38 fX1_moveTogether_91
  rw [forceOn_v hL hv a b hab hb, Option.bind_some]
  have c1 := cmp_le0 iF inL_0
  have c2 := cmp_ge0 iF inL_0
  rw [nL_0]
  rcases Int.lt_trichotomy (gS S u l (b + 1)) (gS S u l a) with h | h | h
  · rw [if_pos (c1.mpr (by omega)), if_neg (fun q => by have := c2.mp q; omega)]
    by_cases q0 : a = 0
    · subst q0
      rw [if_pos (show nI 0 ≤ 0 from by decide), m92, if_pos rfl]
      by_cases q : u (b + 1) = (p1_lowest v b).toInt * l
      · rw [if_pos q]
        exact ⟨0, rfl, Or.inr ⟨rfl, fun h2 => h2.elim (fun h2 => by omega) (fun h2 => h2.2.2 q)⟩⟩
      · rw [if_neg q]
        exact ⟨1, rfl, Or.inl ⟨rfl, Or.inr ⟨h, by omega, q⟩⟩⟩
    · obtain ⟨a', rfl⟩ : ∃ a', a = a' + 1 := ⟨a - 1, by omega⟩
      have t := touches_v hL hv hu a' (by omega)
      rw [if_neg (nI_nle (by omega) (by omega)), nI_pred, t, Option.bind_some]
      by_cases q1 : u (a' + 1) = u (a' + 2)
      · rw [if_pos q1, if_neg (by decide), m92, if_neg (by decide)]
        exact ⟨0, rfl, Or.inr ⟨rfl, fun h2 => h2.elim (fun h2 => by omega) (fun h2 => h2.2.1 ⟨by omega, q1⟩)⟩⟩
      · rw [if_neg q1, if_pos rfl, m92, if_pos rfl]
        by_cases q : u (b + 1) = (p1_lowest v b).toInt * l
        · rw [if_pos q]
          exact ⟨0, rfl, Or.inr ⟨rfl, fun h2 => h2.elim (fun h2 => by omega) (fun h2 => h2.2.2 q)⟩⟩
        · rw [if_neg q]
          exact ⟨1, rfl, Or.inl ⟨rfl, Or.inr ⟨h, fun h3 => q1 h3.2, q⟩⟩⟩
  · rw [if_pos (c1.mpr (by omega)), if_pos (c2.mpr (by omega))]
    exact ⟨0, rfl, Or.inr ⟨rfl, fun h2 => by rcases h2 with h2 | h2 <;> omega⟩⟩
  · rw [if_neg (fun q => by have := c1.mp q; omega), hL.pl, nI_1]
    by_cases q0 : S.n ≤ b + 1
    · rw [if_pos (lec q0 (by omega)), m39, if_pos rfl]
      by_cases q : u (a + 1) = (p1_highest v a).toInt * l
      · rw [if_pos q]
        exact ⟨0, rfl, Or.inr ⟨rfl, fun h2 => h2.elim (fun h2 => h2.2.2 q) (fun h2 => by omega)⟩⟩
      · rw [if_neg q]
        exact ⟨1, rfl, Or.inl ⟨rfl, Or.inl ⟨h, fun h3 => by omega, q⟩⟩⟩
    · have t := touches_v hL hv hu b (by omega)
      rw [if_neg (nlec (by omega) (by omega)), t, Option.bind_some]
      by_cases q1 : u (b + 1) = u (b + 2)
      · rw [if_pos q1, if_neg (by decide), m39, if_neg (by decide)]
        exact ⟨0, rfl, Or.inr ⟨rfl, fun h2 => h2.elim (fun h2 => h2.2.1 ⟨by omega, q1⟩) (fun h2 => by omega)⟩⟩
      · rw [if_neg q1, if_pos rfl, m39, if_pos rfl]
        by_cases q : u (a + 1) = (p1_highest v a).toInt * l
        · rw [if_pos q]
          exact ⟨0, rfl, Or.inr ⟨rfl, fun h2 => h2.elim (fun h2 => h2.2.2 q) (fun h2 => by omega)⟩⟩
        · rw [if_neg q]
          exact ⟨1, rfl, Or.inl ⟨rfl, Or.inl ⟨h, fun h3 => q1 h3.2, q⟩⟩⟩
/-- a row in which none moves is at rest -/
theorem rest_iff {S : Sy} {v : BX1} {u : Nat → Int} {l : Int} (hB : BndQ S v) (hR : RowIn S u l) (hl0 : ∀ k, k < S.n → 0 ≤ S.lo k) (hhW : ∀ k, k < S.n → S.hi k ≤ S.W) :
    RestT S u l ↔ ∀ a b, a ≤ b → b < S.n → u (a + 1) = u (b + 1) → ¬ MT S u l (fun i => (p1_lowest v i).toInt) (fun i => (p1_highest v i).toInt) a b := by
  have lp := hR.pos
  constructor
  · intro h a b hab hb e hm
    rcases hm with ⟨m1, m2, m3⟩ | ⟨m1, m2, m3⟩
    · simp only at m3
      obtain ⟨k, k0, k1, k2⟩ := hB.h1 a (by omega)
      have x1 : u (a + 1) ≤ (p1_highest v a).toInt * l := by
        rw [k2]
        exact Int.le_trans (mono_le hR (a + 1) (k + 1) (by omega) (by omega)) (hR.hi k k1)
      have all : ∀ p, a ≤ p → p < b + 1 → u (p + 1) < S.hi p * l := by
        intro p p1 p2
        have g := grp hR e hb p p1 (by omega)
        have := Int.mul_le_mul_of_nonneg_right (hB.h2 a (by omega) p p1 (by omega)) (Int.le_of_lt lp)
        omega
      have x2 : u (b + 1) < u (b + 1 + 1) := by
        have hm := hR.mono (b + 1) (by omega)
        rcases Nat.lt_or_ge (b + 1) S.n with q | q
        · have : u (b + 1) ≠ u (b + 2) := fun z => m2 ⟨q, z⟩
          have e2 : b + 1 + 1 = b + 2 := rfl
          rw [e2] at hm ⊢
          omega
        · have a1 := all b hab (by omega)
          have a2 := Int.mul_le_mul_of_nonneg_right (hhW b hb) (Int.le_of_lt lp)
          have a3 := hR.w
          rw [show S.n = b + 1 by omega] at a3
          omega
      have := h.right a (b + 1) (by omega) (by omega) e x2 all
      omega
    · simp only at m3
      obtain ⟨k, k1, k2⟩ := hB.l1 b hb
      have x1 : (p1_lowest v b).toInt * l ≤ u (b + 1) := by
        rw [k2]
        exact Int.le_trans (hR.lo k (by omega)) (mono_le hR (k + 1) (b + 1) (by omega) (by omega))
      have all : ∀ p, a ≤ p → p < b + 1 → S.lo p * l < u (p + 1) := by
        intro p p1 p2
        have g := grp hR e hb p p1 (by omega)
        have := Int.mul_le_mul_of_nonneg_right (hB.l2 b hb p (by omega)) (Int.le_of_lt lp)
        omega
      have x2 : u a < u (a + 1) := by
        have hm := hR.mono a (by omega)
        rcases Nat.eq_zero_or_pos a with rfl | q
        · have a1 := all 0 (by omega) (by omega)
          have a2 := Int.mul_nonneg (hl0 0 (by omega)) (Int.le_of_lt lp)
          rw [hR.z]
          omega
        · have : u a ≠ u (a + 1) := fun z => m2 ⟨q, z⟩
          omega
      have := h.left a (b + 1) (by omega) (by omega) e x2 all
      omega
  · intro h
    refine ⟨hR, ?_, ?_⟩
    · intro a b hab hb e hx all
      obtain ⟨b', rfl⟩ : ∃ b', b = b' + 1 := ⟨b - 1, by omega⟩
      rcases Int.lt_or_le (gS S u l (b' + 1)) (gS S u l a) with q | q
      · exfalso
        refine h a b' (by omega) (by omega) e (Or.inr ⟨q, fun z => by omega, fun z => ?_⟩)
        obtain ⟨k, k1, k2⟩ := hB.l1 b' (by omega)
        simp only at z
        rw [k2] at z
        rcases Nat.lt_or_ge k a with q2 | q2
        · have := hR.lo k (by omega)
          have := mono_le hR (k + 1) a (by omega) (by omega)
          omega
        · have := all k q2 (by omega)
          have := grp hR e (by omega) k q2 k1
          omega
      · exact q
    · intro a b hab hb e hx all
      obtain ⟨b', rfl⟩ : ∃ b', b = b' + 1 := ⟨b - 1, by omega⟩
      rcases Int.lt_or_le (gS S u l a) (gS S u l (b' + 1)) with q | q
      · exfalso
        refine h a b' (by omega) (by omega) e (Or.inl ⟨q, fun z => ?_, fun z => ?_⟩)
        · have e2 : b' + 1 + 1 = b' + 2 := rfl
          rw [e2] at hx
          omega
        · obtain ⟨k, k0, k1, k2⟩ := hB.h1 a (by omega)
          simp only at z
          rw [k2] at z
          rcases Nat.lt_or_ge b' k with q2 | q2
          · have := hR.hi k (by omega)
            have := mono_le hR (b' + 1 + 1) (k + 1) (by omega) (by omega)
            omega
          · have := all k k0 (by omega)
            have := grp hR e (by omega) k k0 q2
            omega
      · exact q
theorem nm2_u (k : Nat) : fX1_nothingMoves_2 (k + 1) = fX1_nothingMoves_2_b (fX1_nothingMoves_2 k) := rfl
theorem nm12_u (k2 : BX0 → BX1 → Int32 → Option Int32) (k : Nat) : fX1_nothingMoves_12 k2 (k + 1) = fX1_nothingMoves_12_b k2 (fX1_nothingMoves_12 k2 k) := rfl
theorem nm12_all {L : BX0} {S : Sy} (hL : LaySy L S) {v : BX1} {u : Nat → Int} {l : Int} (hB : BndQ S v) (hv : SpQ S v u l) (hR : RowIn S u l) (hl : l ≤ 104976) (k2 : BX0 → BX1 → Int32 → Option Int32) (a : Nat) (ha : a < S.n) :
    ∀ (d b n : Nat), b + d = S.n → a ≤ b → (fX1_nothingMoves_12 k2 (n + d + 1) L v (nI a) (nI b) = k2 L v (nI (a + 1)) ∧ (∀ c, b ≤ c → c < S.n → u (a + 1) = u (c + 1) → ¬ MT S u l (fun i => (p1_lowest v i).toInt) (fun i => (p1_highest v i).toInt) a c)) ∨
      (fX1_nothingMoves_12 k2 (n + d + 1) L v (nI a) (nI b) = some 0 ∧ ∃ c, b ≤ c ∧ c < S.n ∧ u (a + 1) = u (c + 1) ∧ MT S u l (fun i => (p1_lowest v i).toInt) (fun i => (p1_highest v i).toInt) a c) := by
  have n4 := hL.n4
  have l0 := hR.pos
  have w : S.W * l ≤ 99 * l := Int.mul_le_mul_of_nonneg_right hL.W1 (by omega)
  have hu : ∀ i, i ≤ S.n + 1 → inL (u i) := fun i hi => by have := row_bd hR i hi; exact ⟨by omega, by omega⟩
  intro d
  induction d with
  | zero =>
    intro b n hb hab
    left
    refine ⟨?_, fun c h1 h2 => absurd h1 (by omega)⟩
    rw [nm12_u]
    unfold fX1_nothingMoves_12_b fX1_nothingMoves_61
    rw [hL.pl, if_pos (lec (by omega) (by omega)), elet_eq, nI_1]
  | succ d ih =>
    intro b n hb hab
    rw [show n + (d + 1) + 1 = (n + d + 1) + 1 by omega, nm12_u]
    have e0 : fX1_nothingMoves_12_b k2 (fX1_nothingMoves_12 k2 (n + d + 1)) L v (nI a) (nI b) = if u (b + 1) = u (a + 1) then ((fX1_moveTogether L v (nI a) (nI b)).bind (fun y6 => if y6 = 0 then fX1_nothingMoves_12 k2 (n + d + 1) L v (nI a) (nI (b + 1)) else some 0)) else k2 L v (nI (a + 1)) := by
      unfold fX1_nothingMoves_12_b fX1_nothingMoves_61
      rw [hL.pl, if_neg (nlec (by omega) (by omega)), nI_1, nI_1, if_pos (inB_nI (by omega) (by omega)), if_pos (inB_nI (by omega) (by omega)), nI_clamp (by omega), nI_clamp (by omega), hv.2 _ (by omega), hv.2 _ (by omega)]
      by_cases q : u (b + 1) = u (a + 1)
      · rw [if_pos ((cmp_e0 (hu _ (by omega)) (hu _ (by omega))).mpr q), if_pos q]
        rfl
      · rw [if_neg (fun h => q ((cmp_e0 (hu _ (by omega)) (hu _ (by omega))).mp h)), if_neg q]
        rfl
    rw [e0]
    by_cases q : u (b + 1) = u (a + 1)
    · rw [if_pos q]
      obtain ⟨r, r1, r2⟩ := move_v hL hB hv hR hl a b hab (by omega)
      rw [r1, Option.bind_some]
      rcases r2 with ⟨r2, r3⟩ | ⟨r2, r3⟩
      · right
        rw [r2, if_neg (by decide)]
        exact ⟨rfl, b, Nat.le_refl _, by omega, q.symm, r3⟩
      · rw [r2, if_pos rfl]
        rcases ih (b + 1) n (by omega) (by omega) with ⟨h1, h2⟩ | ⟨h1, c, c1, c2⟩
        · left
          refine ⟨h1, fun c c1 c2 c3 => ?_⟩
          rcases Nat.eq_or_lt_of_le c1 with rfl | c4
          · exact r3
          · exact h2 c c4 c2 c3
        · right
          exact ⟨h1, c, by omega, c2⟩
    · rw [if_neg q]
      left
      refine ⟨rfl, fun c c1 c2 c3 => ?_⟩
      exfalso
      have := mono_le hR (a + 1) (b + 1) (by omega) (by omega)
      have := mono_le hR (b + 1) (c + 1) (by omega) (by omega)
      omega
theorem nm2_all {L : BX0} {S : Sy} (hL : LaySy L S) {v : BX1} {u : Nat → Int} {l : Int} (hB : BndQ S v) (hv : SpQ S v u l) (hR : RowIn S u l) (hl : l ≤ 104976) :
    ∀ (d a n : Nat), a + d = S.n → (fX1_nothingMoves_2 (n + d + 1) L v (nI a) = some 1 ∧ (∀ b c, a ≤ b → b ≤ c → c < S.n → u (b + 1) = u (c + 1) → ¬ MT S u l (fun i => (p1_lowest v i).toInt) (fun i => (p1_highest v i).toInt) b c)) ∨
      (fX1_nothingMoves_2 (n + d + 1) L v (nI a) = some 0 ∧ ∃ b c, a ≤ b ∧ b ≤ c ∧ c < S.n ∧ u (b + 1) = u (c + 1) ∧ MT S u l (fun i => (p1_lowest v i).toInt) (fun i => (p1_highest v i).toInt) b c) := by
  have n4 := hL.n4
  intro d
  induction d with
  | zero =>
    intro a n ha
    left
    refine ⟨?_, fun b c h1 h2 h3 => absurd h1 (by omega)⟩
    rw [nm2_u]
    unfold fX1_nothingMoves_2_b
    rw [hL.pl, if_pos (lec (by omega) (by omega))]
  | succ d ih =>
    intro a n ha
    have e0 : fX1_nothingMoves_2 (n + (d + 1) + 1) L v (nI a) = fX1_nothingMoves_12 (fX1_nothingMoves_2 (n + d + 1)) FU L v (nI a) (nI a) := by
      rw [show n + (d + 1) + 1 = (n + d + 1) + 1 by omega, nm2_u]
      unfold fX1_nothingMoves_2_b
      rw [hL.pl, if_neg (nlec (by omega) (by omega))]
    obtain ⟨k, hk⟩ := FU_ex ((S.n - a) + 1) (by omega)
    rw [e0, hk, show k + ((S.n - a) + 1) = k + (S.n - a) + 1 by omega]
    clear hk
    rcases nm12_all hL hB hv hR hl (fX1_nothingMoves_2 (n + d + 1)) a (by omega) (S.n - a) a k (by omega) (Nat.le_refl _) with ⟨h1, h2⟩ | ⟨h1, c, c1, c2⟩
    · rw [h1]
      rcases ih (a + 1) n (by omega) with ⟨h3, h4⟩ | ⟨h3, b, c, c1, c2⟩
      · left
        refine ⟨h3, fun b c b1 b2 b3 b4 => ?_⟩
        rcases Nat.eq_or_lt_of_le b1 with rfl | b5
        · exact h2 c b2 b3 b4
        · exact h4 b c b5 b2 b3 b4
      · right
        exact ⟨h3, b, c, by omega, c2⟩
    · right
      exact ⟨h1, a, c, Nat.le_refl _, c1, c2⟩
theorem nothing_ok {L : BX0} {S : Sy} (hL : LaySy L S) {v : BX1} {u : Nat → Int} {l : Int} (hB : BndQ S v) (hv : SpQ S v u l) (hR : RowIn S u l) (hl : l ≤ 104976) :
    (fX1_nothingMoves L v = some 1 ∧ RestT S u l) ∨ (fX1_nothingMoves L v = some 0 ∧ ¬ RestT S u l) := by
  have n4 := hL.n4
  obtain ⟨k, hk⟩ := FU_ex (S.n + 1) (by omega)
  unfold fX1_nothingMoves
  rw [hk, show k + (S.n + 1) = k + S.n + 1 by omega, rest_iff hB hR hL.lo0 hL.hiW]
  rcases nm2_all hL hB hv hR hl S.n 0 k (by omega) with ⟨h1, h2⟩ | ⟨h1, b, c, c1, c2, c3, c4, c5⟩
  · exact Or.inl ⟨h1, fun a b h3 h4 => h2 a b (by omega) h3 h4⟩
  · exact Or.inr ⟨h1, fun h => h b c c2 c3 c4 c5⟩
