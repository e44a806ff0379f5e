/-! the law's own numbers beside what is laid -/
theorem low_v (v : Int32) (N : Nat) (h0 : 0 < N) (hN : N < 2 ^ 31) : ∃ k, k < N ∧ fL_low v (nI N) = some (nI k) := by
  refine ⟨(v.toBitVec.toNat % 2 ^ 31) % N, Nat.mod_lt _ h0, ?_⟩
  unfold fL_low
  have h31 : v.toBitVec.toNat % 2 ^ 31 < 2 ^ 31 := Nat.mod_lt _ (by decide)
  rw [if_neg (nI_ne0 h0 hN), pk_and v 31 (m := 2147483647) (by decide), pk_rem h31 h0 hN]
theorem St_low0 : St_low := fun v => low_v v 40 (by omega) (by omega)
def Liv (s g k : Nat → Int32) (p : Nat) : Prop := g 0 = s 0 ∧ g 1 = s 1 ∧ (∀ j, j ≤ p → k j = s (2 + j) ∧ k (5 + j) = s (7 + j)) ∧ ∀ j, j < p → k (10 + j) = s (12 + j) ∧ k (14 + j) = s (16 + j) ∧ k (18 + j) = s (20 + j)
theorem liv_load {s g k : Nat → Int32} {p : Nat} (h : Liv s g k p) (hp4 : p ≤ 4) (q : Nat) (hq : q < p) (v : Int32) : Liv (upd s (12 + q) v) g (upd k (10 + q) v) p := by
  obtain ⟨h1, h2, h3, h4⟩ := h
  refine ⟨by rw [pk_un (by omega)]; exact h1, by rw [pk_un (by omega)]; exact h2, fun j hj => ?_, fun j hj => ?_⟩
  · have := h3 j hj
    simp only [upd_e]
    grind
  · have := h4 j hj
    simp only [upd_e]
    grind
theorem liv_spring {s g k : Nat → Int32} {p : Nat} (h : Liv s g k p) (hp4 : p ≤ 4) (q : Nat) (hq : q ≤ p) (v x : Int32) : Liv (upd (upd s (2 + q) v) (7 + q) x) g (upd (upd k q v) (5 + q) x) p := by
  obtain ⟨h1, h2, h3, h4⟩ := h
  refine ⟨by rw [pk_un (by omega), pk_un (by omega)]; exact h1, by rw [pk_un (by omega), pk_un (by omega)]; exact h2, fun j hj => ?_, fun j hj => ?_⟩
  · have := h3 j hj
    simp only [upd_e]
    grind
  · have := h4 j hj
    simp only [upd_e]
    grind
theorem liv_stop {s g k : Nat → Int32} {p : Nat} (h : Liv s g k p) (hp4 : p ≤ 4) (q c : Nat) (hq : q < p) (hc : c < 2) (v : Int32) : Liv (upd s (16 + 4 * c + q) v) g (upd k (14 + 4 * c + q) v) p := by
  obtain ⟨h1, h2, h3, h4⟩ := h
  refine ⟨by rw [pk_un (by omega)]; exact h1, by rw [pk_un (by omega)]; exact h2, fun j hj => ?_, fun j hj => ?_⟩
  · have := h3 j hj
    simp only [upd_e]
    grind
  · have := h4 j hj
    simp only [upd_e]
    grind
theorem liv_width {s g k : Nat → Int32} {p : Nat} (h : Liv s g k p) (v : Int32) : Liv (upd s 0 v) (upd g 0 v) k p := by
  obtain ⟨h1, h2, h3, h4⟩ := h
  refine ⟨by rw [pk_us, pk_us], by rw [pk_un (by omega), pk_un (by omega)]; exact h2, fun j hj => ?_, fun j hj => ?_⟩
  · rw [pk_un (by omega), pk_un (by omega)]; exact h3 j hj
  · rw [pk_un (by omega), pk_un (by omega), pk_un (by omega)]; exact h4 j hj
theorem liv_plate {s g k : Nat → Int32} {p : Nat} (h : Liv s g k p) (hp4 : p < 4) : Liv (plS s p) (upd g 1 (nI (p + 1))) (upd (upd (upd (upd (upd k (p + 1) 1) (6 + p) 10) (10 + p) 0) (14 + p) (-1)) (18 + p) (-1)) (p + 1) := by
  obtain ⟨h1, h2, h3, h4⟩ := h
  unfold plS
  refine ⟨?_, ?_, fun j hj => ?_, fun j hj => ?_⟩
  · rw [pk_un (by omega), pk_un (by omega), pk_un (by omega), pk_un (by omega), pk_un (by omega), pk_un (by omega), pk_un (by omega)]; exact h1
  · rw [pk_us, pk_un (by omega), pk_un (by omega), pk_un (by omega), pk_un (by omega), pk_un (by omega), pk_us]
  · simp only [upd_e]
    by_cases e : j = p + 1
    · subst e
      grind
    · have := h3 j (by omega)
      grind
  · simp only [upd_e]
    by_cases e : j = p
    · subst e
      grind
    · have := h4 j (by omega)
      grind
/-- the law's numbers with one more plate dropped: places from r to the end moved down -/
def drK (k : Nat → Int32) (j : Nat) : Nat → Int32 := upd (upd (upd (upd (upd k (j + 1) (k (j + 2))) (6 + j) (k (7 + j))) (10 + j) (k (11 + j))) (14 + j) (k (15 + j))) (18 + j) (k (19 + j))
theorem drK_v (k : Nat → Int32) : ∀ d j, j + d = 3 → ∃ k', (∀ i, i ≤ 3 → k' i = (if i ≤ j then k i else k (i + 1)) ∧ k' (5 + i) = (if i ≤ j then k (5 + i) else k (5 + i + 1))) ∧ (∀ i, i ≤ 2 → k' (10 + i) = (if i < j then k (10 + i) else k (10 + i + 1)) ∧ k' (14 + i) = (if i < j then k (14 + i) else k (14 + i + 1)) ∧ k' (18 + i) = (if i < j then k (18 + i) else k (18 + i + 1))) ∧ ∀ (n : Nat) (vX : BX3) (nh : Nat) (pv : Nat → BX0) (vA vB : BX0) (g : Nat → Int32) (x : Int32), fL_acts_696 (n + d + 1) vX nh pv vA vB g k x (nI j) = fL_acts_696 (n + 1) vX nh pv vA vB g k' x (nI 3) := by
  intro d
  induction d generalizing k with
  | zero =>
    intro j hj
    obtain rfl : j = 3 := by omega
    exact ⟨k, fun i hi => ⟨by rw [if_pos hi], by rw [if_pos hi]⟩, fun i hi => ⟨by rw [if_pos (by omega)], by rw [if_pos (by omega)], by rw [if_pos (by omega)]⟩, fun n vX nh pv vA vB g x => rfl⟩
  | succ d ih =>
    intro j hj
    obtain ⟨k', r1, r2, r3⟩ := ih (drK k j) (j + 1) (by omega)
    refine ⟨k', fun i hi => ?_, fun i hi => ?_, fun n vX nh pv vA vB g x => ?_⟩
    · obtain ⟨x1, x2⟩ := r1 i hi
      rw [x1, x2]
      unfold drK
      simp only [upd_e]
      constructor <;> grind
    · obtain ⟨x1, x2, x3⟩ := r2 i hi
      rw [x1, x2, x3]
      unfold drK
      simp only [upd_e]
      refine ⟨?_, ?_, ?_⟩ <;> grind
    · rw [← r3 n vX nh pv vA vB g x, show n + (d + 1) + 1 = (n + d + 1) + 1 by omega]
      show fL_acts_696_b (fL_acts_696 (n + d + 1)) vX nh pv vA vB g k x (nI j) = _
      have a1 : ¬ (3 : Int32) ≤ nI j := show ¬ nI 3 ≤ nI j from nlec (by omega) (by omega)
      have e2 : nI j + (2 : Int32) = nI (j + 2) := nI_add j 2
      have e6 : (6 : Int32) + nI j = nI (6 + j) := nI_add 6 j
      have e7 : (7 : Int32) + nI j = nI (7 + j) := nI_add 7 j
      have e10 : (10 : Int32) + nI j = nI (10 + j) := nI_add 10 j
      have e11 : (11 : Int32) + nI j = nI (11 + j) := nI_add 11 j
      have e14 : (14 : Int32) + nI j = nI (14 + j) := nI_add 14 j
      have e15 : (15 : Int32) + nI j = nI (15 + j) := nI_add 15 j
      have e18 : (18 : Int32) + nI j = nI (18 + j) := nI_add 18 j
      have e19 : (19 : Int32) + nI j = nI (19 + j) := nI_add 19 j
      unfold fL_acts_696_b
      rw [if_neg a1, e2, nI_1, e6, e7, e10, e11, e14, e15, e18, e19, if_pos (inB_nI (by omega) (by omega)), if_pos (inB_nI (by omega) (by omega)), elet_eq, if_pos (inB_nI (by omega) (by omega)), if_pos (inB_nI (by omega) (by omega)), elet_eq, if_pos (inB_nI (by omega) (by omega)), if_pos (inB_nI (by omega) (by omega)), elet_eq, if_pos (inB_nI (by omega) (by omega)), if_pos (inB_nI (by omega) (by omega)), elet_eq, if_pos (inB_nI (by omega) (by omega)), if_pos (inB_nI (by omega) (by omega)), elet_eq, elet_eq]
      rw [nI_clamp (show j + 1 < 2 ^ 31 by omega), nI_clamp (show j + 2 < 2 ^ 31 by omega), nI_clamp (show 6 + j < 2 ^ 31 by omega), nI_clamp (show 7 + j < 2 ^ 31 by omega), nI_clamp (show 10 + j < 2 ^ 31 by omega), nI_clamp (show 11 + j < 2 ^ 31 by omega), nI_clamp (show 14 + j < 2 ^ 31 by omega), nI_clamp (show 15 + j < 2 ^ 31 by omega), nI_clamp (show 18 + j < 2 ^ 31 by omega), nI_clamp (show 19 + j < 2 ^ 31 by omega)]
      congr 1
      unfold drK
      rw [pk_un (show 7 + j ≠ j + 1 by omega)]
      rw [pk_un (show 11 + j ≠ 6 + j by omega), pk_un (show 11 + j ≠ j + 1 by omega)]
      rw [pk_un (show 15 + j ≠ 10 + j by omega), pk_un (show 15 + j ≠ 6 + j by omega), pk_un (show 15 + j ≠ j + 1 by omega)]
      rw [pk_un (show 19 + j ≠ 14 + j by omega), pk_un (show 19 + j ≠ 10 + j by omega), pk_un (show 19 + j ≠ 6 + j by omega), pk_un (show 19 + j ≠ j + 1 by omega)]
/-! the bounds, as the law tells them -/
theorem least_v {s g k : Nat → Int32} {p : Nat} (h : Liv s g k p) (hp4 : p ≤ 4) (j : Nat) (hj : j < p) : fL_least k (nI j) = some (lowB s j) := by
  have e : (14 : Int32) + nI j = nI (14 + j) := nI_add 14 j
  unfold fL_least lowB
  rw [e, if_pos (inB_nI (by omega) (by omega)), nI_clamp (by omega), (h.2.2.2 j hj).2.1]
  by_cases a : s (16 + j) < 0
  · rw [if_neg (Int32.not_le.mpr a), if_pos a]
  · rw [if_pos (Int32.not_lt.mp a), if_neg a, if_pos (inB_nI (by omega) (by omega))]
theorem most_v {s g k : Nat → Int32} {p : Nat} (h : Liv s g k p) (hp4 : p ≤ 4) (j : Nat) (hj : j < p) : fL_most g k (nI j) = some (highB s j) := by
  have e : (18 : Int32) + nI j = nI (18 + j) := nI_add 18 j
  unfold fL_most highB
  rw [e, if_pos (inB_nI (by omega) (by omega)), nI_clamp (by omega), (h.2.2.2 j hj).2.2, cl0, h.1]
  by_cases a : s (20 + j) < 0
  · rw [if_neg (Int32.not_le.mpr a), if_pos a]
  · rw [if_pos (Int32.not_lt.mp a), if_neg a, if_pos (inB_nI (by omega) (by omega))]
theorem al14 {s g k : Nat → Int32} {p : Nat} (h : Liv s g k p) (hp : s 1 = nI p) (hp4 : p ≤ 4) (k4 : (Nat → Int32) → (Nat → Int32) → Int32 → Int32 → Option Int32) (a : Nat) (ha : a < p) : ∀ d b, b + d = p → ∀ (x : Int32) (n : Nat), (x = 0 ∨ x = 1) → ∃ x', (x' = 0 ∨ x' = 1) ∧ (x' = 1 ↔ x = 1 ∧ ∀ j, b ≤ j → j < p → lowB s a ≤ highB s j) ∧ fL_allowed_14 k4 (n + d + 1) g k x (nI a) (nI b) = k4 g k x' (nI (a + 1)) := by
  intro d
  induction d with
  | zero =>
    intro b hb x n hx
    obtain rfl : b = p := by omega
    refine ⟨x, hx, ⟨fun e => ⟨e, fun j h1 h2 => absurd h2 (by omega)⟩, fun e => e.1⟩, ?_⟩
    show fL_allowed_14_b k4 (fL_allowed_14 k4 (n + 0)) g k x (nI a) (nI b) = _
    unfold fL_allowed_14_b
    rw [cl1, h.2.1, hp, if_pos (lec (Nat.le_refl _) (by omega)), elet_eq, nI_1]
  | succ d ih =>
    intro b hb x n hx
    have key : ∀ t : Int32, (t = 0 ∨ t = 1) → (t = 1 ↔ x = 1 ∧ lowB s a ≤ highB s b) → fL_allowed_14 k4 (n + (d + 1) + 1) g k x (nI a) (nI b) = fL_allowed_14 k4 (n + d + 1) g k t (nI a) (nI (b + 1)) → ∃ x', (x' = 0 ∨ x' = 1) ∧ (x' = 1 ↔ x = 1 ∧ ∀ j, b ≤ j → j < p → lowB s a ≤ highB s j) ∧ fL_allowed_14 k4 (n + (d + 1) + 1) g k x (nI a) (nI b) = k4 g k x' (nI (a + 1)) := by
      intro t ht ht2 e
      obtain ⟨x', q1, q2, q3⟩ := ih (b + 1) (by omega) t n ht
      refine ⟨x', q1, ?_, e.trans q3⟩
      rw [q2, ht2]
      constructor
      · rintro ⟨⟨c1, c2⟩, c3⟩
        refine ⟨c1, fun j h1 h2 => ?_⟩
        by_cases ej : j = b
        · subst ej; exact c2
        · exact c3 j (by omega) h2
      · rintro ⟨c1, c3⟩
        exact ⟨⟨c1, c3 b (Nat.le_refl _) (by omega)⟩, fun j h1 h2 => c3 j (by omega) h2⟩
    have un : fL_allowed_14 k4 (n + (d + 1) + 1) g k x (nI a) (nI b) = fL_allowed_14_b k4 (fL_allowed_14 k4 (n + d + 1)) g k x (nI a) (nI b) := rfl
    have e0 : ∀ t, fL_allowed_46 k4 (fL_allowed_14 k4 (n + d + 1)) g k (nI a) (nI b) t = fL_allowed_14 k4 (n + d + 1) g k t (nI a) (nI (b + 1)) := by
      intro t
      unfold fL_allowed_46
      rw [elet_eq, nI_1]
    rcases hx with rfl | rfl
    · refine key 0 (Or.inl rfl) ⟨fun e => absurd e (by decide), fun e => absurd e.1 (by decide)⟩ ?_
      rw [un]
      unfold fL_allowed_14_b fL_allowed_45
      rw [cl1, h.2.1, hp, if_neg (nlec (by omega) (by omega)), if_pos rfl, e0]
    · by_cases c : lowB s a ≤ highB s b
      · refine key 1 (Or.inr rfl) ⟨fun _ => ⟨rfl, c⟩, fun _ => rfl⟩ ?_
        rw [un]
        unfold fL_allowed_14_b
        rw [cl1, h.2.1, hp, if_neg (nlec (by omega) (by omega)), if_neg (by decide), least_v h hp4 a ha, Option.bind_some, most_v h hp4 b (by omega), Option.bind_some, if_neg (Int32.not_lt.mpr c), e0]
      · refine key 0 (Or.inl rfl) ⟨fun e => absurd e (by decide), fun e => absurd e.2 c⟩ ?_
        rw [un]
        unfold fL_allowed_14_b fL_allowed_45
        rw [cl1, h.2.1, hp, if_neg (nlec (by omega) (by omega)), if_neg (by decide), least_v h hp4 a ha, Option.bind_some, most_v h hp4 b (by omega), Option.bind_some, if_pos (Int32.not_le.mp c), e0]
theorem al4 {s g k : Nat → Int32} {p : Nat} (h : Liv s g k p) (hp : s 1 = nI p) (hp4 : p ≤ 4) : ∀ d a, a + d = p → ∀ (x : Int32) (n : Nat), (x = 0 ∨ x = 1) → ∃ x', (x' = 0 ∨ x' = 1) ∧ (x' = 1 ↔ x = 1 ∧ ∀ i j, a ≤ i → i ≤ j → j < p → lowB s i ≤ highB s j) ∧ fL_allowed_4 (n + d + 1) g k x (nI a) = some x' := by
  intro d
  induction d with
  | zero =>
    intro a ha x n hx
    obtain rfl : a = p := by omega
    refine ⟨x, hx, ⟨fun e => ⟨e, fun i j h1 h2 h3 => absurd h3 (by omega)⟩, fun e => e.1⟩, ?_⟩
    show fL_allowed_4_b (fL_allowed_4 (n + 0)) g k x (nI a) = _
    unfold fL_allowed_4_b
    generalize FU = F
    rw [cl1, h.2.1, hp, if_pos (lec (Nat.le_refl _) (by omega)), if_pos]
    rcases hx with rfl | rfl <;> decide
  | succ d ih =>
    intro a ha x n hx
    obtain ⟨m, hm⟩ := FU_ex (d + 1 + 1) (by omega)
    obtain ⟨x1, p1, p2, p3⟩ := al14 h hp hp4 (fL_allowed_4 (n + d + 1)) a (by omega) (d + 1) a ha x m hx
    obtain ⟨x2, q1, q2, q3⟩ := ih (a + 1) (by omega) x1 n p1
    refine ⟨x2, q1, ?_, ?_⟩
    · rw [q2, p2]
      constructor
      · rintro ⟨⟨c1, c2⟩, c3⟩
        refine ⟨c1, fun i j h1 h2 h3 => ?_⟩
        by_cases e : i = a
        · subst e; exact c2 j h2 h3
        · exact c3 i j (by omega) h2 h3
      · rintro ⟨c1, c3⟩
        exact ⟨⟨c1, fun j h1 h2 => c3 a j (Nat.le_refl _) h1 h2⟩, fun i j h1 h2 h3 => c3 i j (by omega) h2 h3⟩
    · rw [← q3]
      rw [show m + (d + 1 + 1) = m + (d + 1) + 1 by omega] at hm
      show fL_allowed_4_b (fL_allowed_4 (n + d + 1)) g k x (nI a) = _
      rw [← p3, ← hm]
      unfold fL_allowed_4_b
      generalize FU = F
      rw [cl1, h.2.1, hp, if_neg (nlec (by omega) (by omega))]
theorem alw_v {s g k : Nat → Int32} {p : Nat} (h : Liv s g k p) (hp : s 1 = nI p) (hp4 : p ≤ 4) : (AlwS s p ∧ fL_allowed g k = some 1) ∨ (¬ AlwS s p ∧ fL_allowed g k = some 0) := by
  obtain ⟨m, hm⟩ := FU_ex (p + 1) (by omega)
  obtain ⟨x, q1, q2, q3⟩ := al4 h hp hp4 p 0 (by omega) 1 m (Or.inr rfl)
  have e : fL_allowed g k = some x := by
    rw [← q3]
    unfold fL_allowed
    rw [hm]
    rfl
  have q2' : x = 1 ↔ AlwS s p := q2.trans ⟨fun c i j h1 h2 => c.2 i j (Nat.zero_le _) h1 h2, fun c => ⟨rfl, fun i j _ h1 h2 => c i j h1 h2⟩⟩
  rcases q1 with rfl | rfl
  · exact Or.inr ⟨fun c => absurd (q2'.mpr c) (by decide), e⟩
  · exact Or.inl ⟨q2'.mp rfl, e⟩
