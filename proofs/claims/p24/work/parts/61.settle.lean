/-! the class finds the row that is at rest -/
theorem rest_unscale {S : Sy} {u : Nat → Int} {l m : Int} (hm : 0 < m) (h : RestT S (fun p => m * u p) (m * l)) : RestT S u l := by
  have le : ∀ {a b : Int}, m * a ≤ m * b → a ≤ b := fun h => Int.le_of_mul_le_mul_left h hm
  have lt : ∀ {a b : Int}, a < b → m * a < m * b := fun h => Int.mul_lt_mul_of_pos_left h hm
  have eqb : ∀ {a b : Int}, m * a = m * b → a = b := fun h => Int.eq_of_mul_eq_mul_left (by omega) h
  have eg : ∀ k, gS S (fun p => m * u p) (m * l) k = m * gS S u l k := by
    intro k; simp only [gS, tnS]; grind
  have r1 : ∀ a, a * (m * l) = m * (a * l) := by intro a; grind
  have lp : 0 < l := by
    have h1 := h.pos
    rcases Int.lt_or_le 0 l with q | q
    · exact q
    · have := Int.mul_le_mul_of_nonneg_left q (Int.le_of_lt hm); omega
  refine ⟨⟨lp, ?_, ?_, ?_, ?_, ?_⟩, ?_, ?_⟩
  · have := h.z; exact eqb (this.trans (Int.mul_zero m).symm)
  · have := h.w; rw [r1] at this; exact eqb this
  · intro p hp; have := h.lo p hp; rw [r1] at this; exact le this
  · intro p hp; have := h.hi p hp; rw [r1] at this; exact le this
  · intro p hp; exact le (h.mono p hp)
  · intro a b h1 h2 h3 h4 h5
    have := h.left a b h1 h2 (by simp only [h3]) (lt h4) (fun p p1 p2 => by rw [r1]; exact lt (h5 p p1 p2))
    rw [eg, eg] at this
    exact le this
  · intro a b h1 h2 h3 h4 h5
    have := h.right a b h1 h2 (by simp only [h3]) (lt h4) (fun p p1 p2 => by rw [r1]; exact lt (h5 p p1 p2))
    rw [eg, eg] at this
    exact le this
theorem rest_congr {S : Sy} {u u' : Nat → Int} {l : Int} (e : ∀ i, i ≤ S.n + 1 → u' i = u i) (h : RestT S u l) : RestT S u' l := by
  have eg : ∀ k, k ≤ S.n → gS S u' l k = gS S u l k := by
    intro k hk
    simp only [gS, tnS]
    rw [e k (by omega), e (k + 1) (by omega)]
  refine ⟨⟨h.pos, ?_, ?_, ?_, ?_, ?_⟩, ?_, ?_⟩
  · rw [e 0 (by omega)]; exact h.z
  · rw [e _ (by omega)]; exact h.w
  · intro p hp; rw [e _ (by omega)]; exact h.lo p hp
  · intro p hp; rw [e _ (by omega)]; exact h.hi p hp
  · intro p hp; rw [e _ (by omega), e _ (by omega)]; exact h.mono p hp
  · intro a b h1 h2 h3 h4 h5
    rw [e _ (by omega), e _ (by omega)] at h3 h4
    rw [eg a (by omega), eg b h2]
    exact h.left a b h1 h2 h3 h4 (fun p p1 p2 => by have := h5 p p1 p2; rw [e _ (by omega)] at this; exact this)
  · intro a b h1 h2 h3 h4 h5
    rw [e _ (by omega), e _ (by omega)] at h3 h4
    rw [eg a (by omega), eg b h2]
    exact h.right a b h1 h2 h3 h4 (fun p p1 p2 => by have := h5 p p1 p2; rw [e _ (by omega)] at this; exact this)
/-- rows of one shape -/
theorem rest_prop {S : Sy} {u u' : Nat → Int} {l l' : Int} (hl' : 0 < l') (e : ∀ i, i ≤ S.n + 1 → u' i * l = u i * l') (h : RestT S u l) : RestT S u' l' := by
  refine rest_unscale h.pos ?_
  have h1 := rest_scale h l' hl'
  rw [Int.mul_comm l' l] at h1
  refine rest_congr (fun i hi => ?_) h1
  have := e i hi
  rw [Int.mul_comm l, this, Int.mul_comm]
def rmx (lo : Nat → Int) : Nat → Int
  | 0 => lo 0
  | p + 1 => if rmx lo p ≤ lo (p + 1) then lo (p + 1) else rmx lo p
theorem rmx_p (lo : Nat → Int) : ∀ p, (∃ i, i ≤ p ∧ rmx lo p = lo i) ∧ lo p ≤ rmx lo p := by
  intro p
  induction p with
  | zero => exact ⟨⟨0, Nat.le_refl _, rfl⟩, Int.le_refl _⟩
  | succ p ih =>
    obtain ⟨⟨i, i1, i2⟩, i3⟩ := ih
    unfold rmx
    by_cases q : rmx lo p ≤ lo (p + 1)
    · rw [if_pos q]; exact ⟨⟨p + 1, Nat.le_refl _, rfl⟩, Int.le_refl _⟩
    · rw [if_neg q]; exact ⟨⟨i, by omega, i2⟩, by omega⟩
theorem rest_there {L : BX0} {S : Sy} (hL : LaySy L S) : ∃ (u : Nat → Int) (l : Int), RestT S u l := by
  refine rest_ex S hL.n4 (fun k hk => by have := hL.K0 k hk; omega) hL.lo0 hL.hiW (by have := hL.W0; omega) (rmx S.lo) ?_ ?_
  · intro p hp
    obtain ⟨⟨i, i1, i2⟩, i3⟩ := rmx_p S.lo p
    exact ⟨i3, by rw [i2]; exact hL.al i p i1 hp⟩
  · intro p hp
    show rmx S.lo p ≤ if rmx S.lo p ≤ S.lo (p + 1) then S.lo (p + 1) else rmx S.lo p
    split
    · assumption
    · exact Int.le_refl _
def gsN (n : Nat) : Nat := if n = 0 then 1 else 3 * 4 ^ (n - 1)
theorem dig_lt (g i : Nat) : digG g i < 4 := Nat.mod_lt _ (by omega)
theorem hOf_b (S : Sy) (u : Nat → Int) (l : Int) (i : Nat) : hOf S u l i ≤ 3 ∧ (S.n = i + 1 → hOf S u l i ≤ 2) := by
  unfold hOf
  by_cases q : i + 1 < S.n ∧ u (i + 1) = u (i + 2)
  · rw [if_pos q]; exact ⟨by omega, fun h => by omega⟩
  · rw [if_neg q]
    by_cases q2 : gS S u l (i + 1) = gS S u l (fstI u i)
    · rw [if_pos q2]; exact ⟨by omega, fun h => by omega⟩
    · rw [if_neg q2]
      by_cases q3 : gS S u l (i + 1) < gS S u l (fstI u i)
      · rw [if_pos q3]; exact ⟨by omega, fun h => by omega⟩
      · rw [if_neg q3]; exact ⟨by omega, fun h => by omega⟩
theorem dg_v (g i p : Nat) (hp : 4 ^ i = p) : digG g i = g / p % 4 := by unfold digG; rw [hp]
theorem guess_ex (S : Sy) (n4 : S.n ≤ 4) (u : Nat → Int) (l : Int) : ∃ g, g < gsN S.n ∧ ∀ i, i < S.n → digG g i = hOf S u l i := by
  have b0 := hOf_b S u l 0
  have b1 := hOf_b S u l 1
  have b2 := hOf_b S u l 2
  have b3 := hOf_b S u l 3
  have d0 : ∀ g, digG g 0 = g / 1 % 4 := fun g => dg_v g 0 1 rfl
  have d1 : ∀ g, digG g 1 = g / 4 % 4 := fun g => dg_v g 1 4 rfl
  have d2 : ∀ g, digG g 2 = g / 16 % 4 := fun g => dg_v g 2 16 rfl
  have d3 : ∀ g, digG g 3 = g / 64 % 4 := fun g => dg_v g 3 64 rfl
  rcases (show S.n = 0 ∨ S.n = 1 ∨ S.n = 2 ∨ S.n = 3 ∨ S.n = 4 by omega) with e | e | e | e | e
  · exact ⟨0, by rw [e]; decide, fun i hi => absurd hi (by omega)⟩
  · refine ⟨hOf S u l 0, by rw [e, show gsN 1 = 3 from rfl]; omega, fun i hi => ?_⟩
    obtain rfl : i = 0 := by omega
    rw [d0]; omega
  · refine ⟨hOf S u l 0 + 4 * hOf S u l 1, by rw [e, show gsN 2 = 12 from rfl]; omega, fun i hi => ?_⟩
    rcases (show i = 0 ∨ i = 1 by omega) with rfl | rfl
    · rw [d0]; omega
    · rw [d1]; omega
  · refine ⟨hOf S u l 0 + 4 * hOf S u l 1 + 16 * hOf S u l 2, by rw [e, show gsN 3 = 48 from rfl]; omega, fun i hi => ?_⟩
    rcases (show i = 0 ∨ i = 1 ∨ i = 2 by omega) with rfl | rfl | rfl
    · rw [d0]; omega
    · rw [d1]; omega
    · rw [d2]; omega
  · refine ⟨hOf S u l 0 + 4 * hOf S u l 1 + 16 * hOf S u l 2 + 64 * hOf S u l 3, by rw [e, show gsN 4 = 192 from rfl]; omega, fun i hi => ?_⟩
    rcases (show i = 0 ∨ i = 1 ∨ i = 2 ∨ i = 3 by omega) with rfl | rfl | rfl | rfl
    · rw [d0]; omega
    · rw [d1]; omega
    · rw [d2]; omega
    · rw [d3]; omega
theorem gsN_le (n : Nat) (h : n ≤ 4) : gsN n ≤ 192 := by
  rcases (show n = 0 ∨ n = 1 ∨ n = 2 ∨ n = 3 ∨ n = 4 by omega) with rfl | rfl | rfl | rfl | rfl <;> decide
theorem s29_u (k : Nat) : fX1_settle_29 (k + 1) = fX1_settle_29_b (fX1_settle_29 k) := rfl
theorem settle_loop {L : BX0} {S : Sy} (hL : LaySy L S) {u : Nat → Int} {l : Int} (hR : RestT S u l) (gb : Nat) (hgb : gb < gsN S.n) (hdig : ∀ i, i < S.n → digG gb i = hOf S u l i) :
    ∀ (d g n : Nat) (v : BX1), g + d = gb → BndQ S v → ∃ (R : BX1) (l' : Int) (u' : Nat → Int), fX1_settle_29 (n + d + 1) L v (nI (gsN S.n)) (nI g) = some R ∧ SpQ S R u' l' ∧ RestT S u' l' ∧ l' ≤ 104976 := by
  have n4 := hL.n4
  have hG := gsN_le S.n n4
  intro d
  induction d using Nat.strongRecOn with
  | ind d ih =>
    intro g n v hg hB
    obtain ⟨v1, t1, t2, t3⟩ := take_ok hL g (by omega) v
    have hB1 := BndQ_SB hB t2
    obtain ⟨v2, C, D, Sl, p1, p2, p3, p4, ⟨E, E0, E1, p5⟩, p6⟩ := express_ok hL (digG g) (dig_lt g) v1 hB1 t3
    have hB2 := BndQ_SB hB1 p2
    obtain ⟨r, v3, r1, r2, r3⟩ := find_ok hL p4 E0 E1 p5 v2 hB2 p3
    have hB3 := BndQ_SB hB2 r2
    have head : ∀ n', fX1_settle_29 (n' + 1) L v (nI (gsN S.n)) (nI g) = if r = 0 then fX1_settle_29 n' L v3 (nI (gsN S.n)) (nI (g + 1)) else (fX1_shareLower L v3).bind (fun y6 => (fX1_nothingMoves L y6).bind (fun y7 => if y7 = 0 then fX1_settle_29 n' L y6 (nI (gsN S.n)) (nI (g + 1)) else some y6)) := by
      intro n'
      rw [s29_u]
      unfold fX1_settle_29_b fX1_settle_67
      rw [if_neg (nlec (by omega) (by omega)), t1, Option.bind_some, p1, Option.bind_some, r1, Option.bind_some]
      simp only [elet_eq, nI_1]
    have next : ∀ v', BndQ S v' → g < gb → ∃ (R : BX1) (l' : Int) (u' : Nat → Int), fX1_settle_29 (n + d) L v' (nI (gsN S.n)) (nI (g + 1)) = some R ∧ SpQ S R u' l' ∧ RestT S u' l' ∧ l' ≤ 104976 := by
      intro v' hB' hlt
      have := ih (d - 1) (by omega) (g + 1) n v' (by omega) hB'
      rw [show n + (d - 1) + 1 = n + d by omega] at this
      exact this
    rw [head]
    rcases r3 with ⟨r3, U, V, hF⟩ | ⟨r3, r4⟩
    · rw [r3, if_neg (by decide)]
      obtain ⟨v4, l', u', s1, s2, s3, s4, s5, s6, s7⟩ := share_ok hL E0 E1 v3 hB3 hF
      have hB4 := BndQ_SB hB3 s2
      rw [s1, Option.bind_some]
      rcases nothing_ok hL hB4 ⟨s3, s5⟩ s6 s4 with ⟨k1, k2⟩ | ⟨k1, k2⟩
      · rw [k1, Option.bind_some, if_neg (by decide)]
        exact ⟨v4, l', u', rfl, ⟨s3, s5⟩, k2, s4⟩
      · rw [k1, Option.bind_some, if_pos rfl]
        refine next v4 hB4 ?_
        rcases Nat.lt_or_ge g gb with q | q
        · exact q
        · exfalso
          have eg : g = gb := by omega
          subst eg
          have eqs := p6 u l hR hdig
          obtain ⟨f1, f2, f3⟩ := hF
          have Vp : ∀ i, i ≤ S.n → 0 < V i := by
            intro i hi
            rcases Nat.eq_or_lt_of_le hi with rfl | hi
            · rw [f2]; decide
            · exact (f3 i (by omega) hi).2.1.1
          have back : ∀ d i, i + d = S.n → U i * l = u (i + 1) * V i := by
            intro d
            induction d with
            | zero =>
              intro i hi
              obtain rfl : i = S.n := by omega
              rw [f1, f2, hR.w]; omega
            | succ d ih =>
              intro i hi
              have h1 := ih (i + 1) (by omega)
              have h2 := eqs i (by omega)
              obtain ⟨-, -, -, h3, -⟩ := f3 i (by omega) (by omega)
              have e5 : i + 1 + 1 = i + 2 := rfl
              rw [e5] at h1
              have d0 := (p4 i (by omega)).1
              have v1 := Vp (i + 1) (by omega)
              have z : (D i * V (i + 1)) * (U i * l - u (i + 1) * V i) = 0 := by grind
              have z0 := Int.mul_pos d0 v1
              rcases Int.mul_eq_zero.mp z with z | z <;> omega
          refine k2 (rest_prop s6.pos ?_ hR)
          intro i hi
          match i with
          | 0 => rw [s6.z, hR.z]; omega
          | i + 1 =>
            have h1 := back (S.n - i) i (by omega)
            have h2 := s7 i (by omega)
            have v0 := Vp i (by omega)
            have z : V i * (u' (i + 1) * l - u (i + 1) * l') = 0 := by grind
            rcases Int.mul_eq_zero.mp z with z | z <;> omega
    · rw [r3, if_pos rfl]
      refine next v3 hB3 ?_
      rcases Nat.lt_or_ge g gb with q | q
      · exact q
      · exfalso
        have eg : g = gb := by omega
        subst eg
        exact r4 u l hR (p6 u l hR hdig)
theorem settle_ok {L : BX0} {S : Sy} (hL : LaySy L S) (v : BX1) : ∃ (R : BX1) (l : Int) (u : Nat → Int), fX1_settle L v = some R ∧ SpQ S R u l ∧ RestT S u l ∧ l ≤ 104976 := by
  have n4 := hL.n4
  have hG := gsN_le S.n n4
  obtain ⟨u, l, hR⟩ := rest_there hL
  obtain ⟨g, g1, g2⟩ := guess_ex S n4 u l
  obtain ⟨v', b1, b2⟩ := bound_ok hL v
  obtain ⟨k, hk⟩ := FU_ex (g + 1) (by omega)
  obtain ⟨R, l', u', q1, q2⟩ := settle_loop hL hR g g1 g2 g 0 k v' (by omega) b2
  refine ⟨R, l', u', ?_, q2⟩
  have q3 : fX1_settle_29 FU L v' (nI (gsN S.n)) (nI 0) = some R := by
    rw [hk, show k + (g + 1) = k + g + 1 by omega]; exact q1
  unfold fX1_settle fX1_settle_26
  rw [b1, Option.bind_some, hL.pl]
  clear hk
  rcases Nat.eq_zero_or_pos S.n with e | e
  · rw [e] at q3 ⊢
    rw [if_pos (show nI 0 = 0 from rfl)]
    exact q3
  · have sh : (3 : Int32) <<< (((2 : Int32) * (nI S.n - (1 : Int32))) &&& 31) = nI (gsN S.n) := by
      rcases (show S.n = 1 ∨ S.n = 2 ∨ S.n = 3 ∨ S.n = 4 by omega) with e | e | e | e <;> rw [e] <;> decide
    rw [if_neg (nI_ne0 e (by omega)), sh]
    exact q3
