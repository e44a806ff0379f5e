/-! what the class answers at rest -/
theorem hom_eq {a b l m : Int} (l0 : 0 < l) (m0 : 0 < m) (e : m * a = l * b) (x : Int) : a = x * l ↔ b = x * m := by
  constructor
  · intro h
    have : l * (b - x * m) = 0 := by grind
    rcases Int.mul_eq_zero.mp this with z | z <;> omega
  · intro h
    have : m * (a - x * l) = 0 := by grind
    rcases Int.mul_eq_zero.mp this with z | z <;> omega
theorem hom_eq2 {a b c d l m : Int} (l0 : 0 < l) (m0 : 0 < m) (e : m * a = l * b) (e2 : m * c = l * d) : a = c ↔ b = d := by
  constructor
  · intro h
    have : l * (b - d) = 0 := by grind
    rcases Int.mul_eq_zero.mp this with z | z <;> omega
  · intro h
    have : m * (a - c) = 0 := by grind
    rcases Int.mul_eq_zero.mp this with z | z <;> omega

def lwU (a b : Int) : Int := a / ((Int.gcd a b : Nat) : Int)
def lwV (a b : Int) : Int := b / ((Int.gcd a b : Nat) : Int)
theorem lw_v {a b : Int} (hb : 0 < b) : a = ((Int.gcd a b : Nat) : Int) * lwU a b ∧ b = ((Int.gcd a b : Nat) : Int) * lwV a b ∧ 0 < ((Int.gcd a b : Nat) : Int) ∧ 0 < lwV a b ∧ Int.gcd (lwU a b) (lwV a b) = 1 := by
  obtain ⟨U, V, h1, h2, h3, h4, h5⟩ := gcd_split (PU := a) hb
  have h6 : ((Int.gcd a b : Nat) : Int) ≠ 0 := by omega
  have eU : lwU a b = U := by
    unfold lwU
    conv => lhs; arg 1; rw [h1]
    exact Int.mul_ediv_cancel_left U h6
  have eV : lwV a b = V := by
    unfold lwV
    conv => lhs; arg 1; rw [h2]
    exact Int.mul_ediv_cancel_left V h6
  rw [eU, eV]
  exact ⟨h1, h2, by omega, h3, h4⟩
theorem lw_b {a b : Int} (hb : 0 < b) : lwV a b ≤ b ∧ (lwU a b).natAbs ≤ a.natAbs := by
  obtain ⟨h1, h2, h3, h4, h5⟩ := lw_v (a := a) hb
  exact low_le h1 h2 h3 h4
theorem low_c {a b : Int} (ha : inL a) (hb : inL b) (b0 : 0 < b) (i : Int32) : fX3_inLowestTerms (nL a) (nL b) i = some (nL (if i = 0 then lwU a b else lwV a b)) := by
  obtain ⟨h1, h2, h3, h4, h5⟩ := lw_v (a := a) b0
  exact inLow_v ha hb h1 h2 rfl h3 h4 i
abbrev CT (s : Nat → Int32) (vA : BX0) (vS : BX2) (n : Nat) (X' : BX3) (R1 : BX1) (u : Nat → Int) (l : Int) : Prop :=
  LayEq vA s ∧ Good s ∧ SpQ (syO s) R1 u l ∧ RestT (syO s) u l ∧ l ≤ 104976 ∧ StC s X' n vA R1 vS ∧ p3_restKnown X' = 1
abbrev JJ (s : Nat → Int32) (vA : BX0) (vS : BX2) (n : Nat) (X' : BX3) (R1 : BX1) (X : BX3) (R : BX1) : Prop := fX3_settled X vA R = some (X', R1) ∧ StC s X n vA R vS
theorem ct_ex {s : Nat → Int32} {vX : BX3} {n : Nat} {vA : BX0} {vR : BX1} {vS : BX2} (h : StC s vX n vA vR vS) : ∃ (X' : BX3) (R1 : BX1) (u : Nat → Int) (l : Int), CT s vA vS n X' R1 u l ∧ JJ s vA vS n X' R1 vX vR := by
  obtain ⟨hL, hG, hH, hT, hk⟩ := id h
  have hLS := laySy_of hL hG
  rcases hk with hk | ⟨hk, R0, hR0⟩
  · obtain ⟨R, l, u, q1, q2, q3, q4⟩ := settle_ok hLS vR
    refine ⟨s3_restKnown vX 1, R, u, l, ⟨hL, hG, q2, q3, q4, ⟨hL, hG, ?_, hT, Or.inr ⟨rfl, vR, q1⟩⟩, rfl⟩, ?_, h⟩
    · obtain ⟨a, b, c, d⟩ := hH
      exact ⟨a, b, c, d⟩
    · unfold fX3_settled
      rw [if_pos hk, q1, Option.bind_some, elet_eq]
  · obtain ⟨R, l, u, q1, q2, q3, q4⟩ := settle_ok hLS R0
    have eR : vR = R := Option.some.inj (hR0.symm.trans q1)
    subst eR
    refine ⟨vX, vR, u, l, ⟨hL, hG, q2, q3, q4, h, hk⟩, ?_, h⟩
    unfold fX3_settled
    rw [if_neg (by rw [hk]; decide)]
theorem ct_self {s : Nat → Int32} {vA : BX0} {vS : BX2} {n : Nat} {X' : BX3} {R1 : BX1} {u : Nat → Int} {l : Int} (c : CT s vA vS n X' R1 u l) : JJ s vA vS n X' R1 X' R1 := by
  refine ⟨?_, c.2.2.2.2.2.1⟩
  unfold fX3_settled
  rw [if_neg (by rw [c.2.2.2.2.2.2]; decide)]
section CT
variable {s : Nat → Int32} {vA : BX0} {vS : BX2} {n : Nat} {X' : BX3} {R1 : BX1} {u : Nat → Int} {l : Int} {X : BX3} {R : BX1} {p : Nat}
theorem part01 (i : Int32) (h : i = 0 ∨ i = 1) : fX3_isPart i = some 1 := by rcases h with rfl | rfl <;> decide
theorem place_c (c : CT s vA vS n X' R1 u l) (j : JJ s vA vS n X' R1 X R) (hp : s 1 = nI p) (hp4 : p ≤ 4) (k : Nat) (hk : k < p) (i : Int32) (hi : i = 0 ∨ i = 1) : fX3_place X vA R (nI k) i = some ((nL (if i = 0 then lwU (u (k + 1)) l else lwV (u (k + 1)) l)).toInt32, X', R1) := by
  obtain ⟨hL, hG, s2, s3, s4, -, -⟩ := c
  have hLS := laySy_of hL hG
  have n4 := hLS.n4
  have hn : (syO s).n = p := syO_p hp hp4
  unfold fX3_place
  rw [plateC hL hp hp4 k hk, Option.bind_some, if_neg (by decide), if_neg (by rcases hi with rfl | rfl <;> decide), if_pos (by rcases hi with rfl | rfl <;> decide), j.1, Option.bind_some, if_neg (by rcases hi with rfl | rfl <;> decide), up_v (by omega) s2 k (by omega), Option.bind_some, s2.1, low_c (row_inL hLS s3.toRowIn s4 _ (by omega)) (l_inL s3.pos s4) s3.pos, Option.bind_some]
theorem place_2 (c : CT s vA vS n X' R1 u l) (j : JJ s vA vS n X' R1 X R) (hp : s 1 = nI p) (hp4 : p ≤ 4) (k : Nat) (hk : k < p) : fX3_place X vA R (nI k) 2 = some ((nL ((u (k + 1)).tdiv l)).toInt32, X', R1) := by
  obtain ⟨hL, hG, s2, s3, s4, -, -⟩ := c
  have hLS := laySy_of hL hG
  have hn : (syO s).n = p := syO_p hp hp4
  have iu := row_inL hLS s3.toRowIn s4 (k + 1) (by omega)
  have il := l_inL s3.pos s4
  have f1 : fX1_wholePlaceOf R1 (nI k) = some (nL ((u (k + 1)).tdiv l)).toInt32 := by
    unfold fX1_wholePlaceOf
    rw [s2.1, if_neg (show ¬ lg_cmp (nL l) 0 ≤ 0 from fun q => by have := (cmp_le0 il inL_0).mp q; have := s3.pos; omega), nI_1, if_pos (inB_nI (by omega) (by omega)), nI_clamp (by omega), s2.2 _ (by omega), fd_v iu il (row_bd s3.toRowIn (k + 1) (by omega)).1 s3.pos, Option.bind_some]
  unfold fX3_place
  rw [plateC hL hp hp4 k hk, Option.bind_some, if_neg (by decide), if_neg (by decide), if_pos (by decide), j.1, Option.bind_some, if_pos rfl, f1, Option.bind_some]
theorem place_3 (hL : LayEq vA s) (hp : s 1 = nI p) (hp4 : p ≤ 4) (k : Nat) (hk : k < p) : fX3_place X vA R (nI k) 3 = some (-1000001, X, R) := by
  unfold fX3_place
  rw [plateC hL hp hp4 k hk, Option.bind_some, if_neg (by decide), if_neg (by decide), if_neg (by decide)]
theorem place_n (hL : LayEq vA s) (hp : s 1 = nI p) (hp4 : p ≤ 4) (i : Int32) : fX3_place X vA R (nI p) i = some (-1000001, X, R) := by
  unfold fX3_place
  rw [plateN hL hp p (Nat.le_refl _) (by omega), Option.bind_some, if_pos rfl]
theorem pull_c (c : CT s vA vS n X' R1 u l) (j : JJ s vA vS n X' R1 X R) (hp : s 1 = nI p) (hp4 : p ≤ 4) (k : Nat) (hk : k ≤ p) (i : Int32) (hi : i = 0 ∨ i = 1) : fX3_pull X vA R (nI k) i = some ((if i = 0 then (nL (lwU (tnS (syO s) u l k) l)).toInt32 + 1000000000 else (nL (lwV (tnS (syO s) u l k) l)).toInt32), X', R1) := by
  obtain ⟨hL, hG, s2, s3, s4, -, -⟩ := c
  have hLS := laySy_of hL hG
  have hn : (syO s).n = p := syO_p hp hp4
  have b := tn_b hLS s3.toRowIn s4 k (by omega)
  unfold fX3_pull
  rw [springC hL hp hp4 k hk, Option.bind_some, if_neg (by decide), part01 i hi, Option.bind_some, if_neg (by decide), j.1, Option.bind_some, tension_v hLS s2 k (by omega), Option.bind_some, s2.1, forcePart_v (low_c ⟨by omega, by omega⟩ (l_inL s3.pos s4) s3.pos i), Option.bind_some]
  rcases hi with rfl | rfl
  · rw [if_pos rfl, if_pos rfl, if_pos rfl]
  · rw [if_neg (by decide), if_neg (by decide), if_neg (by decide)]
theorem pull_n (hL : LayEq vA s) (hp : s 1 = nI p) (hp4 : p ≤ 4) (i : Int32) : fX3_pull X vA R (nI (p + 1)) i = some (-1000001, X, R) := by
  unfold fX3_pull
  rw [springN hL hp (p + 1) (by omega) (by omega), Option.bind_some, if_pos rfl]
theorem pull_2 (hL : LayEq vA s) (hp : s 1 = nI p) (hp4 : p ≤ 4) : fX3_pull X vA R 0 2 = some (-1000001, X, R) := by
  have e : fX0_hasSpring vA 0 = some 1 := springC hL hp hp4 0 (Nat.zero_le _)
  have e2 : fX3_isPart 2 = some 0 := by decide
  unfold fX3_pull
  rw [e, Option.bind_some, if_neg (by decide), e2, Option.bind_some, if_pos rfl]
theorem push_c (c : CT s vA vS n X' R1 u l) (j : JJ s vA vS n X' R1 X R) (hp : s 1 = nI p) (hp4 : p ≤ 4) (k : Nat) (hk : k < p) (i : Int32) (hi : i = 0 ∨ i = 1) : fX3_push X vA R (nI k) i = some ((if i = 0 then (nL (lwU (-(gS (syO s) u l (k + 1) - gS (syO s) u l k)) l)).toInt32 + 1000000000 else (nL (lwV (-(gS (syO s) u l (k + 1) - gS (syO s) u l k)) l)).toInt32), X', R1) := by
  obtain ⟨hL, hG, s2, s3, s4, -, -⟩ := c
  have hLS := laySy_of hL hG
  have hn : (syO s).n = p := syO_p hp hp4
  have b := fo_b hLS s3.toRowIn s4 k (by omega)
  unfold fX3_push
  rw [plateC hL hp hp4 k hk, Option.bind_some, if_neg (by decide), part01 i hi, Option.bind_some, if_neg (by decide), j.1, Option.bind_some, forceOn_v hLS s2 k k (Nat.le_refl _) (by omega), Option.bind_some, s2.1, nL_neg, forcePart_v (low_c ⟨by omega, by omega⟩ (l_inL s3.pos s4) s3.pos i), Option.bind_some]
  rcases hi with rfl | rfl
  · rw [if_pos rfl, if_pos rfl, if_pos rfl]
  · rw [if_neg (by decide), if_neg (by decide), if_neg (by decide)]
theorem push_n (hL : LayEq vA s) (hp : s 1 = nI p) (hp4 : p ≤ 4) (i : Int32) : fX3_push X vA R (nI p) i = some (-1000001, X, R) := by
  unfold fX3_push
  rw [plateN hL hp p (Nat.le_refl _) (by omega), Option.bind_some, if_pos rfl]
/-! what is laid for a plate -/
theorem pof_0 (hL : LayEq vA s) (hp : s 1 = nI p) (hp4 : p ≤ 4) (k : Nat) (hk : k < p) : fX3_plateOf X vA (nI k) 0 = some (s (12 + k) + 1000) := by
  unfold fX3_plateOf
  rw [plateC hL hp hp4 k hk, Option.bind_some, if_neg (by decide), if_pos rfl, if_pos (inB_nI (by omega) (by omega)), nI_clamp (by omega), hL.2.2.2.2.1 k (by omega)]
theorem pof_s (hL : LayEq vA s) (hG : Good s) (hp : s 1 = nI p) (hp4 : p ≤ 4) (k c : Nat) (hk : k < p) (hc : c < 2) : fX3_plateOf X vA (nI k) (nI (1 + c)) = some (if s (16 + 4 * c + k) < 0 then -1000004 else s (16 + 4 * c + k)) := by
  obtain ⟨w, p', g1, g2, g3, g4, g5, g6, g7, g8⟩ := id hG
  obtain rfl : p = p' := (nI_eq (by omega) (by omega)).mp (hp.symm.trans g2)
  have e0 := stopOf_v vA k c (by omega) hc
  rw [stops_c hL k c (by omega) hc] at e0
  have hv : -1 ≤ (s (16 + 4 * c + k)).toInt := by
    obtain ⟨-, x1, x2⟩ := g7 k hk
    rcases (show c = 0 ∨ c = 1 by omega) with rfl | rfl
    · exact x1.1
    · exact x2.1
  unfold fX3_plateOf
  rcases (show c = 0 ∨ c = 1 by omega) with rfl | rfl
  · rw [plateC hL hp hp4 k hk, Option.bind_some, if_neg (by decide), if_neg (by decide), if_pos (show nI (1 + 0) = (1 : Int32) from rfl), show fX0_stopOf vA (nI k) 0 = _ from e0, Option.bind_some, pof_v _ hv, Option.bind_some]
  · rw [plateC hL hp hp4 k hk, Option.bind_some, if_neg (by decide), if_neg (by decide), if_neg (by decide), if_pos (show nI (1 + 1) = (2 : Int32) from rfl), show fX0_stopOf vA (nI k) 1 = _ from e0, Option.bind_some, pof_v _ hv, Option.bind_some]
theorem pof_3 (hL : LayEq vA s) (hp : s 1 = nI p) (hp4 : p ≤ 4) (k : Nat) (hk : k < p) : fX3_plateOf X vA (nI k) 3 = some (s (2 + k)) := by
  unfold fX3_plateOf
  rw [plateC hL hp hp4 k hk, Option.bind_some, if_neg (by decide), if_neg (by decide), if_neg (by decide), if_neg (by decide), if_pos rfl, if_pos (inB_nI (by omega) (by omega)), nI_clamp (by omega), hL.2.2.1 k (by omega)]
theorem pof_4 (hL : LayEq vA s) (hp : s 1 = nI p) (hp4 : p ≤ 4) (k : Nat) (hk : k < p) : fX3_plateOf X vA (nI k) 4 = some (s (7 + k)) := by
  unfold fX3_plateOf
  rw [plateC hL hp hp4 k hk, Option.bind_some, if_neg (by decide), if_neg (by decide), if_neg (by decide), if_neg (by decide), if_neg (by decide), if_pos rfl, if_pos (inB_nI (by omega) (by omega)), nI_clamp (by omega), hL.2.2.2.1 k (by omega)]
theorem pof_5 (hL : LayEq vA s) (hp : s 1 = nI p) (hp4 : p ≤ 4) (k : Nat) (hk : k < p) : fX3_plateOf X vA (nI k) 5 = some (s (2 + (k + 1))) := by
  unfold fX3_plateOf
  rw [plateC hL hp hp4 k hk, Option.bind_some, if_neg (by decide), if_neg (by decide), if_neg (by decide), if_neg (by decide), if_neg (by decide), if_neg (by decide), if_pos rfl, nI_1, if_pos (inB_nI (by omega) (by omega)), nI_clamp (by omega), hL.2.2.1 (k + 1) (by omega)]
theorem pof_6 (hL : LayEq vA s) (hp : s 1 = nI p) (hp4 : p ≤ 4) (k : Nat) (hk : k < p) : fX3_plateOf X vA (nI k) 6 = some (s (7 + (k + 1))) := by
  unfold fX3_plateOf
  rw [plateC hL hp hp4 k hk, Option.bind_some, if_neg (by decide), if_neg (by decide), if_neg (by decide), if_neg (by decide), if_neg (by decide), if_neg (by decide), if_neg (by decide), if_pos rfl, nI_1, if_pos (inB_nI (by omega) (by omega)), nI_clamp (by omega), hL.2.2.2.1 (k + 1) (by omega)]
theorem pof_7 (hL : LayEq vA s) (hp : s 1 = nI p) (hp4 : p ≤ 4) (k : Nat) (hk : k < p) : fX3_plateOf X vA (nI k) 7 = some (-1000001) := by
  unfold fX3_plateOf
  rw [plateC hL hp hp4 k hk, Option.bind_some, if_neg (by decide), if_neg (by decide), if_neg (by decide), if_neg (by decide), if_neg (by decide), if_neg (by decide), if_neg (by decide), if_neg (by decide)]
/-! numbers -/
theorem cnt_0 (hL : LayEq vA s) : fX3_count X vA vS 0 = some (s 1) := by unfold fX3_count; rw [if_pos rfl, hL.2.1]
theorem cnt_1 (hL : LayEq vA s) : fX3_count X vA vS 1 = some (s 0) := by unfold fX3_count; rw [if_neg (by decide), if_pos rfl, hL.1]
def accS (s : Nat → Int32) : Nat → Int32
  | 0 => 0
  | j + 1 => accS s j + (stB s (16 + j) + stB s (20 + j))
def accQ (s : Nat → Int32) : Nat → Int32
  | 0 => 0
  | j + 1 => accQ s j + s (12 + j)
theorem cs_all24 (hL : LayEq vA s) (hs : SaneS s p) (hp : s 1 = nI p) (hp4 : p ≤ 4) : ∀ d j, j + d = p → ∀ n : Nat, fX0_countStops_4 (n + 2 * d + 1) vA (accS s j) (nI (2 * j)) = some (accS s p) := by
  intro d
  induction d with
  | zero =>
    intro j hj n
    obtain rfl : j = p := by omega
    exact cs_e hL hp hp4 _ _
  | succ d ih =>
    intro j hj n
    rw [show n + 2 * (d + 1) + 1 = (n + 2 * d + 1) + 2 by omega, cs_s hL hs hp hp4 _ j (by omega)]
    exact ih (j + 1) (by omega) n
theorem cnt_2 (hL : LayEq vA s) (hG : Good s) (hp : s 1 = nI p) (hp4 : p ≤ 4) : fX3_count X vA vS 2 = some (accS s p) := by
  obtain ⟨w, p', g1, g2, g3, g4, g5, g6, g7, g8⟩ := id hG
  obtain rfl : p = p' := (nI_eq (by omega) (by omega)).mp (hp.symm.trans g2)
  have hs : SaneS s p := fun k hk => ⟨(g7 k hk).2.1.1, (g7 k hk).2.2.1⟩
  obtain ⟨m, hm⟩ := FU_ex (2 * p + 1) (by omega)
  have e := cs_all24 hL hs hp hp4 p 0 (by omega) m
  have e2 : fX0_countStops vA = some (accS s p) := by
    unfold fX0_countStops
    rw [hm]
    exact e
  unfold fX3_count
  rw [if_neg (by decide), if_neg (by decide), if_pos rfl, e2, Option.bind_some]
theorem sumF_acc (s : Nat → Int32) : ∀ d j, sumF s j d (accQ s j) = accQ s (j + d) := by
  intro d
  induction d with
  | zero => intro j; rfl
  | succ d ih =>
    intro j
    rw [show j + (d + 1) = (j + 1) + d by omega, ← ih (j + 1)]
    rfl
theorem cnt_3 (hL : LayEq vA s) (hp : s 1 = nI p) (hp4 : p ≤ 4) : fX3_count X vA vS 3 = some (accQ s p + 1000) := by
  obtain ⟨m, hm⟩ := FU_ex (p + 1) (by omega)
  have hy : (nI p - 1).toInt = (p : Int) - 1 := pk_sub_toInt (a := p) (b := 1) (by omega) (by omega)
  have e := sl_all hL (nI p - 1) p hp4 hy p 0 (by omega) 0 m
  have e2 : fX0_sumOfLoads vA 0 (nI p - 1) = some (accQ s p) := by
    unfold fX0_sumOfLoads
    rw [hm]
    refine e.trans ?_
    have := sumF_acc s p 0
    rw [Nat.zero_add] at this
    rw [← this]
    rfl
  unfold fX3_count
  rw [if_neg (by decide), if_neg (by decide), if_neg (by decide), if_pos rfl, hL.2.1, hp, e2, Option.bind_some]
theorem cnt_5 (h : p2_size vS = 0) : fX3_count X vA vS 5 = some 0 := by
  unfold fX3_count
  rw [if_neg (by decide), if_neg (by decide), if_neg (by decide), if_neg (by decide), if_neg (by decide), if_pos rfl, h]
theorem cnt_6 : fX3_count X vA vS 6 = some (-1000001) := by
  unfold fX3_count
  rw [if_neg (by decide), if_neg (by decide), if_neg (by decide), if_neg (by decide), if_neg (by decide), if_neg (by decide)]
theorem cnt_m : fX3_count X vA vS (-1) = some (-1000001) := by
  unfold fX3_count
  rw [if_neg (by decide), if_neg (by decide), if_neg (by decide), if_neg (by decide), if_neg (by decide), if_neg (by decide)]
end CT
/-! sets -/
noncomputable def bN (c : Prop) : Nat := @ite Nat c (Classical.propDecidable c) 1 0
theorem bN_t {c : Prop} (h : c) : bN c = 1 := by unfold bN; exact if_pos h
theorem bN_f {c : Prop} (h : ¬ c) : bN c = 0 := by unfold bN; exact if_neg h
noncomputable def setN (f : Nat → Prop) : Nat → Nat
  | 0 => 0
  | j + 1 => setN f j + bN (f j) * 2 ^ j
theorem setN_lt (f : Nat → Prop) : ∀ j, setN f j < 2 ^ j := by
  intro j
  induction j with
  | zero => show 0 < 2 ^ 0; decide
  | succ j ih =>
    show setN f j + bN (f j) * 2 ^ j < 2 ^ (j + 1)
    rw [Nat.pow_succ]
    by_cases c : f j
    · rw [bN_t c]; omega
    · rw [bN_f c]; omega
theorem setN_congr {f g : Nat → Prop} : ∀ j, (∀ i, i < j → (f i ↔ g i)) → setN f j = setN g j := by
  intro j
  induction j with
  | zero => intro _; rfl
  | succ j ih =>
    intro h
    show setN f j + bN (f j) * 2 ^ j = setN g j + bN (g j) * 2 ^ j
    rw [ih (fun i hi => h i (by omega))]
    have e := h j (by omega)
    by_cases c : f j
    · rw [bN_t c, bN_t (e.mp c)]
    · rw [bN_f c, bN_f (fun q => c (e.mpr q))]
theorem or_bit : ∀ j, j < 4 → ∀ a, a < 2 ^ j → nI a ||| ((1 : Int32) <<< (nI j &&& 31)) = nI (a + 2 ^ j) := by decide +kernel
theorem bit_v : ∀ j, j < 4 → (1 : Int32) <<< (nI j &&& 31) = nI (2 ^ j) := by decide +kernel
def bitP (S : Sy) (s : Nat → Int32) (u : Nat → Int) (l : Int) : Nat → Nat → Prop
  | 0, j => ¬ s (16 + j) < 0 ∧ u (j + 1) = (s (16 + j)).toInt * l
  | 1, j => ¬ s (20 + j) < 0 ∧ u (j + 1) = (s (20 + j)).toInt * l
  | 2, j => j + 1 < S.n ∧ u (j + 1) = u (j + 2)
  | 3, j => u (j + 1) = 0 ∨ u (j + 1) = S.W * l
  | _, j => ¬ gS S u l (j + 1) = gS S u l j
theorem bitP_hom {S : Sy} {s : Nat → Int32} {u y : Nat → Int} {l D : Int} (l0 : 0 < l) (D0 : 0 < D) (eq : ∀ i, i ≤ S.n + 1 → D * u i = l * y i) (w j : Nat) (hj : j < S.n) : bitP S s u l w j ↔ bitP S s y D w j := by
  have e1 := eq (j + 1) (by omega)
  have e2 := eq (j + 2) (by omega)
  match w with
  | 0 => exact ⟨fun q => ⟨q.1, (hom_eq l0 D0 e1 _).mp q.2⟩, fun q => ⟨q.1, (hom_eq l0 D0 e1 _).mpr q.2⟩⟩
  | 1 => exact ⟨fun q => ⟨q.1, (hom_eq l0 D0 e1 _).mp q.2⟩, fun q => ⟨q.1, (hom_eq l0 D0 e1 _).mpr q.2⟩⟩
  | 2 => exact ⟨fun q => ⟨q.1, (hom_eq2 l0 D0 e1 e2).mp q.2⟩, fun q => ⟨q.1, (hom_eq2 l0 D0 e1 e2).mpr q.2⟩⟩
  | 3 =>
    have z := hom_eq l0 D0 e1 0
    rw [Int.zero_mul, Int.zero_mul] at z
    have zW := hom_eq l0 D0 e1 S.W
    exact ⟨fun q => q.elim (fun c => Or.inl (z.mp c)) (fun c => Or.inr (zW.mp c)), fun q => q.elim (fun c => Or.inl (z.mpr c)) (fun c => Or.inr (zW.mpr c))⟩
  | w + 4 =>
    have f1 := gS_eq eq j (by omega)
    have f2 := gS_eq eq (j + 1) (by omega)
    have hh := hom_eq2 l0 D0 f2 f1
    exact ⟨fun q c => q (hh.mpr c), fun q c => q (hh.mp c)⟩
section CU
variable {s : Nat → Int32} {vA : BX0} {vS : BX2} {n : Nat} {X' : BX3} {R1 : BX1} {u : Nat → Int} {l : Int} {X : BX3} {R : BX1} {p : Nat}
theorem atStop_c (c : CT s vA vS n X' R1 u l) (hp : s 1 = nI p) (hp4 : p ≤ 4) (j b : Nat) (hj : j < p) (hb : b < 2) : ∃ z, (z = 0 ∨ z = 1) ∧ (z = 1 ↔ (¬ s (16 + 4 * b + j) < 0 ∧ u (j + 1) = (s (16 + 4 * b + j)).toInt * l)) ∧ fX3_isAtStop X vA R1 (nI j) (nI b) = some z := by
  obtain ⟨hL, hG, s2, s3, s4, -, -⟩ := c
  have hLS := laySy_of hL hG
  have hn : (syO s).n = p := syO_p hp hp4
  obtain ⟨w, p', g1, g2, g3, g4, g5, g6, g7, g8⟩ := id hG
  obtain rfl : p = p' := (nI_eq (by omega) (by omega)).mp (hp.symm.trans g2)
  have hu : ∀ i, i ≤ (syO s).n + 1 → inL (u i) := fun i hi => row_inL hLS s3.toRowIn s4 i hi
  have b0 : -1 ≤ (s (16 + 4 * b + j)).toInt ∧ (s (16 + 4 * b + j)).toInt ≤ w := by
    obtain ⟨-, x1, x2⟩ := g7 j hj
    rcases (show b = 0 ∨ b = 1 by omega) with rfl | rfl
    · exact x1
    · exact x2
  have st := stopOf_v vA j b (by omega) hb
  rw [stops_c hL j b (by omega) hb] at st
  unfold fX3_isAtStop
  rw [st, Option.bind_some]
  by_cases q : s (16 + 4 * b + j) < 0
  · rw [if_pos ((neg1 b0.1).mp q)]
    exact ⟨0, Or.inl rfl, ⟨fun e => absurd e (by decide), fun e => absurd q e.1⟩, rfl⟩
  · have l0 := s3.pos
    rw [if_neg (fun z => q ((neg1 b0.1).mpr z)), isAt_v hLS s2 hu ⟨by omega, s4⟩ j (by omega) _ (by omega), Option.bind_some]
    by_cases q2 : u (j + 1) = (s (16 + 4 * b + j)).toInt * l
    · rw [if_pos q2, if_neg (by decide)]
      exact ⟨1, Or.inr rfl, ⟨fun _ => ⟨q, q2⟩, fun _ => rfl⟩, rfl⟩
    · rw [if_neg q2, if_pos rfl]
      exact ⟨0, Or.inl rfl, ⟨fun e => absurd e (by decide), fun e => absurd e.2 q2⟩, rfl⟩
theorem among_c (c : CT s vA vS n X' R1 u l) (hp : s 1 = nI p) (hp4 : p ≤ 4) (w j : Nat) (hw : w < 5) (hj : j < p) : ∃ z, (z = 0 ∨ z = 1) ∧ (z = 1 ↔ bitP (syO s) s u l w j) ∧ fX3_isAmong X vA R1 (nI j) (nI w) = some z := by
  obtain ⟨hL, hG, s2, s3, s4, -, -⟩ := id c
  have hLS := laySy_of hL hG
  have hn : (syO s).n = p := syO_p hp hp4
  have hu : ∀ i, i ≤ (syO s).n + 1 → inL (u i) := fun i hi => row_inL hLS s3.toRowIn s4 i hi
  have l0 := s3.pos
  have W0 := hLS.W0
  have W1 := hLS.W1
  have bz : ∀ b : Int32, (b = 0 ∨ b = 1) → (if zB b = true then some b else none) = some b := by
    intro b hb; rcases hb with rfl | rfl <;> rfl
  unfold fX3_isAmong
  rcases (show w = 0 ∨ w = 1 ∨ w = 2 ∨ w = 3 ∨ w = 4 by omega) with rfl | rfl | rfl | rfl | rfl
  · obtain ⟨z, z1, z2, z3⟩ := atStop_c (X := X) c hp hp4 j 0 hj (by omega)
    refine ⟨z, z1, z2, ?_⟩
    rw [if_pos (show nI 0 = (0 : Int32) from rfl), show fX3_isAtStop X vA R1 (nI j) 0 = _ from z3, Option.bind_some, bz z z1]
  · obtain ⟨z, z1, z2, z3⟩ := atStop_c (X := X) c hp hp4 j 1 hj (by omega)
    refine ⟨z, z1, z2, ?_⟩
    rw [if_neg (by decide), if_pos (show nI 1 = (1 : Int32) from rfl), show fX3_isAtStop X vA R1 (nI j) 1 = _ from z3, Option.bind_some, bz z z1]
  · rw [if_neg (by decide), if_neg (by decide), if_pos (show nI 2 = (2 : Int32) from rfl), hLS.pl, hn, nI_1]
    by_cases q : p ≤ j + 1
    · rw [if_pos (lec q (by omega))]
      refine ⟨0, Or.inl rfl, ⟨fun e => absurd e (by decide), fun e => ?_⟩, rfl⟩
      have e1 : j + 1 < (syO s).n := e.1
      omega
    · rw [if_neg (nlec (by omega) (by omega)), touches_v hLS s2 hu j (by omega), Option.bind_some]
      by_cases q2 : u (j + 1) = u (j + 2)
      · rw [if_pos q2, if_neg (by decide)]
        exact ⟨1, Or.inr rfl, ⟨fun _ => ⟨by omega, q2⟩, fun _ => rfl⟩, rfl⟩
      · rw [if_neg q2, if_pos rfl]
        exact ⟨0, Or.inl rfl, ⟨fun e => absurd e (by decide), fun e => absurd e.2 q2⟩, rfl⟩
  · have a0 := isAt_v hLS s2 hu ⟨by omega, s4⟩ j (by omega) 0 (by decide)
    have aW := isAt_v hLS s2 hu ⟨by omega, s4⟩ j (by omega) (p0_width vA) (by rw [hLS.wd]; omega)
    have z : (0 : Int32).toInt = 0 := rfl
    rw [z, Int.zero_mul] at a0
    rw [hLS.wd] at aW
    rw [if_neg (by decide), if_neg (by decide), if_neg (by decide), if_pos (show nI 3 = (3 : Int32) from rfl), a0, aW, Option.bind_some, Option.bind_some]
    unfold fX3_isAmong_99
    by_cases q0 : u (j + 1) = 0
    · rw [if_pos q0, if_neg (by decide)]
      exact ⟨1, Or.inr rfl, ⟨fun _ => Or.inl q0, fun _ => rfl⟩, rfl⟩
    · rw [if_neg q0, if_pos rfl]
      by_cases qW : u (j + 1) = (syO s).W * l
      · rw [if_pos qW, if_neg (by decide)]
        exact ⟨1, Or.inr rfl, ⟨fun _ => Or.inr qW, fun _ => rfl⟩, rfl⟩
      · rw [if_neg qW, if_pos rfl]
        exact ⟨0, Or.inl rfl, ⟨fun e => absurd e (by decide), fun e => (e.elim q0 qW).elim⟩, rfl⟩
  · rw [if_neg (by decide), if_neg (by decide), if_neg (by decide), if_neg (by decide), forceOn_v hLS s2 j j (Nat.le_refl _) (by omega), Option.bind_some]
    have b := fo_b hLS s3.toRowIn s4 j (by omega)
    have j1 : inL (gS (syO s) u l (j + 1) - gS (syO s) u l j) := ⟨by omega, by omega⟩
    by_cases q : gS (syO s) u l (j + 1) = gS (syO s) u l j
    · rw [if_pos (show lg_cmp _ 0 = 0 from (cmp_e0 j1 inL_0).mpr (by omega))]
      exact ⟨0, Or.inl rfl, ⟨fun e => absurd e (by decide), fun e => absurd q e⟩, rfl⟩
    · rw [if_neg (show ¬ lg_cmp _ 0 = 0 from fun z => by have := (cmp_e0 j1 inL_0).mp z; omega)]
      exact ⟨1, Or.inr rfl, ⟨fun _ => q, fun _ => rfl⟩, rfl⟩
theorem p22_u (k : Nat) : fX3_plates_22 (k + 1) = fX3_plates_22_b (fX3_plates_22 k) := rfl
theorem plates_l (c : CT s vA vS n X' R1 u l) (hp : s 1 = nI p) (hp4 : p ≤ 4) (w : Nat) (hw : w < 5) : ∀ d j, j + d = p → ∀ m : Nat, fX3_plates_22 (m + d + 1) X vA R1 (nI w) (nI (setN (bitP (syO s) s u l w) j)) (nI j) = some (nI (setN (bitP (syO s) s u l w) p), X, R1) := by
  have hL := c.1
  intro d
  induction d with
  | zero =>
    intro j hj m
    obtain rfl : j = p := by omega
    rw [p22_u]
    unfold fX3_plates_22_b
    rw [hL.2.1, hp, if_pos (Int32.le_refl _)]
  | succ d ih =>
    intro j hj m
    obtain ⟨z, z1, z2, z3⟩ := among_c (X := X) c hp hp4 w j hw (by omega)
    have e := ih (j + 1) (by omega) m
    have lt := setN_lt (bitP (syO s) s u l w) j
    rw [show m + (d + 1) + 1 = (m + d + 1) + 1 by omega, p22_u]
    unfold fX3_plates_22_b fX3_plates_52
    rw [hL.2.1, hp, if_neg (nlec (by omega) (by omega)), z3, Option.bind_some]
    simp only [elet_eq, nI_1]
    rcases z1 with rfl | rfl
    · rw [if_pos rfl]
      have b : ¬ bitP (syO s) s u l w j := fun q => absurd (z2.mpr q) (by decide)
      have es : setN (bitP (syO s) s u l w) (j + 1) = setN (bitP (syO s) s u l w) j := by
        show _ + bN _ * 2 ^ j = _
        rw [bN_f b]; omega
      rw [es] at e
      exact e
    · rw [if_neg (by decide), or_bit j (by omega) _ lt]
      have b : bitP (syO s) s u l w j := z2.mp rfl
      have es : setN (bitP (syO s) s u l w) (j + 1) = setN (bitP (syO s) s u l w) j + 2 ^ j := by
        show _ + bN _ * 2 ^ j = _
        rw [bN_t b]; omega
      rw [es] at e
      exact e
theorem plates_c (c : CT s vA vS n X' R1 u l) (j : JJ s vA vS n X' R1 X R) (hp : s 1 = nI p) (hp4 : p ≤ 4) (w : Nat) (hw : w < 5) : fX3_plates X vA R (nI w) = some (nI (setN (bitP (syO s) s u l w) p), X', R1) := by
  obtain ⟨m, hm⟩ := FU_ex (p + 1) (by omega)
  have e := plates_l (X := X') c hp hp4 w hw p 0 (by omega) m
  unfold fX3_plates
  rw [if_neg (nI_pos (by omega)), if_pos (show nI w ≤ (4 : Int32) from show nI w ≤ nI 4 from lec (by omega) (by omega)), j.1, Option.bind_some, hm]
  exact e
theorem plates_5 : fX3_plates X vA R 5 = some (-1000001, X, R) := by
  unfold fX3_plates
  rw [if_neg (by decide), if_neg (by decide)]
end CU
