theorem upd_e (f : Nat → Int32) (k : Nat) (v : Int32) (j : Nat) : upd f k v j = if j = k then v else f j := rfl
theorem upd_back (s : Nat → Int32) (a : Nat) (v : Int32) : upd (upd s a v) a (s a) = s := by
  funext j
  rw [upd_e, upd_e]
  by_cases e : j = a
  · subst e; rw [if_pos rfl]
  · rw [if_neg e, if_neg e]
theorem lay_stop {L : BX0} {s : Nat → Int32} (h : LayEq L s) (k c : Nat) (hk : k < 4) (hc : c < 2) (v : Int32) : LayEq (s0_stops L (upd (p0_stops L) (2 * k + c) v)) (upd s (16 + 4 * c + k) v) := by
  obtain ⟨h1, h2, h3, h4, h5, h6, h7⟩ := h
  refine ⟨?_, ?_, fun j hj => ?_, fun j hj => ?_, fun j hj => ?_, fun j hj => ?_, fun j hj => ?_⟩
  · rw [gs0_width_stops, pk_un (by omega)]; exact h1
  · rw [gs0_plates_stops, pk_un (by omega)]; exact h2
  · rw [gs0_strengths_stops, pk_un (by omega)]; exact h3 j hj
  · rw [gs0_lengths_stops, pk_un (by omega)]; exact h4 j hj
  · rw [gs0_loads_stops, pk_un (by omega)]; exact h5 j hj
  · rw [gs0_stops_stops, upd_e, upd_e, h6 j hj]
    by_cases e : 2 * j = 2 * k + c
    · rw [if_pos e, if_pos (by omega)]
    · rw [if_neg e, if_neg (by omega)]
  · rw [gs0_stops_stops, upd_e, upd_e, h7 j hj]
    by_cases e : 2 * j + 1 = 2 * k + c
    · rw [if_pos e, if_pos (by omega)]
    · rw [if_neg e, if_neg (by omega)]
theorem side_or (i : Int32) : (¬ (∃ c, c < 2 ∧ i = nI c) ∧ fX3_isSide i = some 0 ∧ fX4_in i 0 1 = some 0) ∨ ∃ c, c < 2 ∧ i = nI c ∧ fX3_isSide i = some 1 ∧ fX4_in i 0 1 = some 1 := by
  unfold fX3_isSide fX3_isSide_9 fX4_in
  by_cases h0 : i = 0
  · subst h0
    exact Or.inr ⟨0, by omega, rfl, by decide, by decide⟩
  · by_cases h1 : i = 1
    · subst h1
      exact Or.inr ⟨1, by omega, rfl, by decide, by decide⟩
    · refine Or.inl ⟨?_, by rw [if_neg h0, if_neg h1], ?_⟩
      · rintro ⟨c, hc, rfl⟩
        rcases (show c = 0 ∨ c = 1 by omega) with rfl | rfl
        · exact h0 rfl
        · exact h1 rfl
      · by_cases h2 : i < 0
        · exact if_pos h2
        · rw [if_neg h2]
          by_cases h3 : 1 < i
          · exact if_pos h3
          · exfalso
            have a1 := i_le.mp (Int32.not_lt.mp h2)
            have a2 := i_le.mp (Int32.not_lt.mp h3)
            have a3 : i.toInt ≠ 0 := fun e => h0 (i_eq.mpr e)
            have a4 : i.toInt ≠ 1 := fun e => h1 (i_eq.mpr e)
            have b1 : (0 : Int32).toInt = 0 := rfl
            have b2 : (1 : Int32).toInt = 1 := rfl
            omega
theorem stopAt_v (M : BX4) (k c : Nat) (hk : k < 4) (hc : c < 2) : fX4_stopAt M (nI k) (nI c) = some (nI (16 + 4 * c + k)) := by
  unfold fX4_stopAt
  rcases (show c = 0 ∨ c = 1 by omega) with rfl | rfl
  · rw [if_pos (show nI 0 = 0 from rfl)]; exact congrArg some (nI_add 16 k)
  · rw [if_neg (by decide)]; exact congrArg some (nI_add 20 k)
theorem stopOf_v (L : BX0) (k c : Nat) (hk : k < 4) (hc : c < 2) : fX0_stopOf L (nI k) (nI c) = some (p0_stops L (2 * k + c)) := by
  have e1 : (2 : Int32) * nI k = nI (2 * k) := pk_mul 2 k
  unfold fX0_stopOf
  rw [e1, nI_add, if_pos (inB_nI (by omega) (by omega)), nI_clamp (by omega)]
theorem stops_c {L : BX0} {s : Nat → Int32} (h : LayEq L s) (k c : Nat) (hk : k < 4) (hc : c < 2) : p0_stops L (2 * k + c) = s (16 + 4 * c + k) := by
  rcases (show c = 0 ∨ c = 1 by omega) with rfl | rfl
  · exact h.2.2.2.2.2.1 k hk
  · exact h.2.2.2.2.2.2 k hk
/-- the row is allowed from the plate j on, r reached -/
def AllR (s : Nat → Int32) (p j : Nat) (r : Int32) : Prop := ∀ q, j ≤ q → q < p → r ≤ highB s q ∧ ∀ i, j ≤ i → i ≤ q → lowB s i ≤ highB s q
theorem mx_l (a b : Int32) : a ≤ (if a < b then b else a) := by
  split
  · exact Int32.le_of_lt (by assumption)
  · exact Int32.le_refl _
theorem mx_r (a b : Int32) : b ≤ (if a < b then b else a) := by
  split
  · exact Int32.le_refl _
  · exact Int32.not_lt.mp (by assumption)
theorem mx_e (a b c : Int32) (h1 : a ≤ c) (h2 : b ≤ c) : (if a < b then b else a) ≤ c := by
  split <;> assumption
theorem AllR_s (s : Nat → Int32) (p j : Nat) (r : Int32) (hj : j < p) : AllR s p j r ↔ ((if r < lowB s j then lowB s j else r) ≤ highB s j ∧ AllR s p (j + 1) (if r < lowB s j then lowB s j else r)) := by
  constructor
  · intro h
    refine ⟨mx_e _ _ _ (h j (Nat.le_refl _) hj).1 ((h j (Nat.le_refl _) hj).2 j (Nat.le_refl _) (Nat.le_refl _)), fun q hq hp => ⟨mx_e _ _ _ (h q (by omega) hp).1 ((h q (by omega) hp).2 j (Nat.le_refl _) (by omega)), fun i hi hiq => (h q (by omega) hp).2 i (by omega) hiq⟩⟩
  · rintro ⟨h1, h2⟩ q hq hp
    by_cases e : q = j
    · subst e
      refine ⟨Int32.le_trans (mx_l _ _) h1, fun i hi hiq => ?_⟩
      have e : i = q := by omega
      subst e
      exact Int32.le_trans (mx_r _ _) h1
    · refine ⟨Int32.le_trans (mx_l _ _) (h2 q (by omega) hp).1, fun i hi hiq => ?_⟩
      by_cases e2 : i = j
      · subst e2
        exact Int32.le_trans (mx_r _ _) (h2 q (by omega) hp).1
      · exact (h2 q (by omega) hp).2 i (by omega) hiq
def SaneS (s : Nat → Int32) (p : Nat) : Prop := ∀ k, k < p → -1 ≤ (s (16 + k)).toInt ∧ -1 ≤ (s (20 + k)).toInt
theorem neg1 {a : Int32} (h : -1 ≤ a.toInt) : a < 0 ↔ a = -1 := by
  have b1 : (0 : Int32).toInt = 0 := rfl
  have b2 : (-1 : Int32).toInt = -1 := rfl
  rw [i_lt, i_eq, b1, b2]
  omega
theorem left_v {L : BX0} {s : Nat → Int32} {p : Nat} (h : LayEq L s) (hs : SaneS s p) (hp4 : p ≤ 4) (k : Nat) (hk : k < p) : fX0_leftBoundOf L (nI k) = some (lowB s k) := by
  unfold fX0_leftBoundOf lowB
  have e := stopOf_v L k 0 (by omega) (by omega)
  rw [stops_c h k 0 (by omega) (by omega)] at e
  rw [show (0 : Int32) = nI 0 from rfl, e, Option.bind_some]
  show (if s (16 + k) = -1 then some (nI 0) else some (s (16 + k))) = _
  by_cases a : s (16 + k) < 0
  · rw [if_pos ((neg1 (hs k hk).1).mp a)]
    show _ = some (if s (16 + k) < 0 then 0 else s (16 + k))
    rw [if_pos a]; rfl
  · rw [if_neg (fun b => a ((neg1 (hs k hk).1).mpr b))]
    show _ = some (if s (16 + k) < 0 then 0 else s (16 + k))
    rw [if_neg a]
theorem right_v {L : BX0} {s : Nat → Int32} {p : Nat} (h : LayEq L s) (hs : SaneS s p) (hp4 : p ≤ 4) (k : Nat) (hk : k < p) : fX0_rightBoundOf L (nI k) = some (highB s k) := by
  unfold fX0_rightBoundOf highB
  have e := stopOf_v L k 1 (by omega) (by omega)
  rw [stops_c h k 1 (by omega) (by omega)] at e
  rw [show (1 : Int32) = nI 1 from rfl, e, Option.bind_some, h.1]
  show (if s (20 + k) = -1 then some (s 0) else some (s (20 + k))) = _
  by_cases a : s (20 + k) < 0
  · rw [if_pos ((neg1 (hs k hk).2).mp a), if_pos a]
  · rw [if_neg (fun b => a ((neg1 (hs k hk).2).mpr b)), if_neg a]
theorem ar_s {L : BX0} {s : Nat → Int32} {p : Nat} (h : LayEq L s) (hs : SaneS s p) (hp : s 1 = nI p) (hp4 : p ≤ 4) (n j : Nat) (hj : j < p) (r : Int32) : fX0_allowsRow_4 (n + 1) L r (nI j) = if (if r < lowB s j then lowB s j else r) ≤ highB s j then fX0_allowsRow_4 n L (if r < lowB s j then lowB s j else r) (nI (j + 1)) else some 0 := by
  show fX0_allowsRow_4_b (fX0_allowsRow_4 n) L r (nI j) = _
  unfold fX0_allowsRow_4_b
  rw [h.2.1, hp, if_neg (nlec hj (by omega)), left_v h hs hp4 j hj, Option.bind_some, elet_eq, right_v h hs hp4 j hj, Option.bind_some, elet_eq, nI_1]
theorem ar_e {L : BX0} {s : Nat → Int32} {p : Nat} (h : LayEq L s) (hp : s 1 = nI p) (hp4 : p ≤ 4) (n : Nat) (r : Int32) : fX0_allowsRow_4 (n + 1) L r (nI p) = some 1 := by
  show fX0_allowsRow_4_b (fX0_allowsRow_4 n) L r (nI p) = _
  unfold fX0_allowsRow_4_b
  rw [h.2.1, hp, if_pos (lec (Nat.le_refl _) (by omega))]
theorem ar_all {L : BX0} {s : Nat → Int32} {p : Nat} (h : LayEq L s) (hs : SaneS s p) (hp : s 1 = nI p) (hp4 : p ≤ 4) : ∀ d j, j + d = p → ∀ (r : Int32) (n : Nat), (AllR s p j r ∧ fX0_allowsRow_4 (n + d + 1) L r (nI j) = some 1) ∨ (¬ AllR s p j r ∧ fX0_allowsRow_4 (n + d + 1) L r (nI j) = some 0) := by
  intro d
  induction d with
  | zero =>
    intro j hj r n
    obtain rfl : j = p := by omega
    exact Or.inl ⟨fun q h1 h2 => absurd h2 (by omega), ar_e h hp hp4 _ r⟩
  | succ d ih =>
    intro j hj r n
    have hjp : j < p := by omega
    rw [show n + (d + 1) + 1 = (n + d + 1) + 1 by omega, ar_s h hs hp hp4 _ j hjp r]
    by_cases a : (if r < lowB s j then lowB s j else r) ≤ highB s j
    · rw [if_pos a]
      rcases ih (j + 1) (by omega) (if r < lowB s j then lowB s j else r) n with ⟨b1, b2⟩ | ⟨b1, b2⟩
      · exact Or.inl ⟨(AllR_s s p j r hjp).mpr ⟨a, b1⟩, b2⟩
      · exact Or.inr ⟨fun b => b1 ((AllR_s s p j r hjp).mp b).2, b2⟩
    · rw [if_neg a]
      exact Or.inr ⟨fun b => a ((AllR_s s p j r hjp).mp b).1, rfl⟩
theorem allows_v {L : BX0} {s : Nat → Int32} {p : Nat} (h : LayEq L s) (hs : SaneS s p) (hp : s 1 = nI p) (hp4 : p ≤ 4) : (AllR s p 0 0 ∧ fX0_allowsRow L = some 1) ∨ (¬ AllR s p 0 0 ∧ fX0_allowsRow L = some 0) := by
  obtain ⟨n, hn⟩ := FU_ex (p + 1) (by omega)
  have e := ar_all h hs hp hp4 p 0 (by omega) 0 n
  unfold fX0_allowsRow
  rw [hn]
  exact e
theorem low_v {M : BX4} {s : Nat → Int32} (hM : p4_s M = s) (k : Nat) (hk : k < 4) : fX4_low M (nI k) = some (lowB s k) := by
  have e3 : (16 : Int32) + nI k = nI (16 + k) := nI_add 16 k
  unfold fX4_low lowB
  rw [e3, if_pos (inB_nI (by omega) (by omega)), if_pos (inB_nI (by omega) (by omega)), nI_clamp (by omega), hM]
  by_cases a : s (16 + k) < 0
  · rw [if_neg (Int32.not_le.mpr a), if_pos a]
  · rw [if_pos (Int32.not_lt.mp a), if_neg a]
theorem high_v {M : BX4} {s : Nat → Int32} (hM : p4_s M = s) (k : Nat) (hk : k < 4) : fX4_high M (nI k) = some (highB s k) := by
  have e3 : (20 : Int32) + nI k = nI (20 + k) := nI_add 20 k
  unfold fX4_high highB
  rw [e3, if_pos (inB_nI (by omega) (by omega)), if_pos (inB_nI (by omega) (by omega)), nI_clamp (by omega), hM, cl0]
  by_cases a : s (20 + k) < 0
  · rw [if_neg (Int32.not_le.mpr a), if_pos a]
  · rw [if_pos (Int32.not_lt.mp a), if_neg a]
theorem ia_s {M : BX4} {s : Nat → Int32} {p : Nat} (hM : p4_s M = s) (hp : s 1 = nI p) (hp4 : p ≤ 4) (n j : Nat) (hj : j < p) (x r : Int32) : fX4_isAllowed_6 (n + 1) M x r (nI j) = fX4_isAllowed_6 n M (if x = 0 then 0 else if highB s j < (if r < lowB s j then lowB s j else r) then 0 else 1) (if r < lowB s j then lowB s j else r) (nI (j + 1)) := by
  show fX4_isAllowed_6_b (fX4_isAllowed_6 n) M x r (nI j) = _
  have key : ∀ t, fX4_isAllowed_34 (fX4_isAllowed_6 n) M x (nI j) t = fX4_isAllowed_6 n M (if x = 0 then 0 else if highB s j < t then 0 else 1) t (nI (j + 1)) := by
    intro t
    unfold fX4_isAllowed_34 fX4_isAllowed_52 fX4_isAllowed_53
    rw [elet_eq, elet_eq, high_v hM j (by omega), Option.bind_some, nI_1]
    by_cases a : x = 0
    · rw [if_pos a, if_pos a]
    · rw [if_neg a, if_neg a]
      by_cases b : highB s j < t
      · rw [if_pos b, if_pos b]
      · rw [if_neg b, if_neg b]
  unfold fX4_isAllowed_6_b
  rw [cl1, hM, hp, if_neg (nlec hj (by omega)), low_v hM j (by omega), Option.bind_some, Option.bind_some, key, key]
  by_cases a : r < lowB s j
  · rw [if_neg (Int32.not_le.mpr a), if_pos a]
  · rw [if_pos (Int32.not_lt.mp a), if_neg a]
theorem ia_e {M : BX4} {s : Nat → Int32} {p : Nat} (hM : p4_s M = s) (hp : s 1 = nI p) (hp4 : p ≤ 4) (n : Nat) (x r : Int32) (hx : x = 0 ∨ x = 1) : fX4_isAllowed_6 (n + 1) M x r (nI p) = some x := by
  show fX4_isAllowed_6_b (fX4_isAllowed_6 n) M x r (nI p) = _
  unfold fX4_isAllowed_6_b
  rw [cl1, hM, hp, if_pos (lec (Nat.le_refl _) (by omega)), if_pos]
  rcases hx with rfl | rfl <;> decide
theorem ia_all {M : BX4} {s : Nat → Int32} {p : Nat} (hM : p4_s M = s) (hp : s 1 = nI p) (hp4 : p ≤ 4) : ∀ d j, j + d = p → ∀ (x r : Int32) (n : Nat), (x = 0 ∨ x = 1) → ((x = 1 ∧ AllR s p j r) ∧ fX4_isAllowed_6 (n + d + 1) M x r (nI j) = some 1) ∨ (¬ (x = 1 ∧ AllR s p j r) ∧ fX4_isAllowed_6 (n + d + 1) M x r (nI j) = some 0) := by
  intro d
  induction d with
  | zero =>
    intro j hj x r n hx
    obtain rfl : j = p := by omega
    have e := ia_e hM hp hp4 (n + 0) x r hx
    rcases hx with rfl | rfl
    · exact Or.inr ⟨fun b => absurd b.1 (by decide), e⟩
    · exact Or.inl ⟨⟨rfl, fun q h1 h2 => absurd h2 (by omega)⟩, e⟩
  | succ d ih =>
    intro j hj x r n hx
    have hjp : j < p := by omega
    rw [show n + (d + 1) + 1 = (n + d + 1) + 1 by omega, ia_s hM hp hp4 _ j hjp x r]
    have hb := AllR_s s p j r hjp
    rcases hx with rfl | rfl
    · rw [if_pos rfl]
      rcases ih (j + 1) (by omega) 0 (if r < lowB s j then lowB s j else r) n (Or.inl rfl) with ⟨⟨b1, -⟩, b2⟩ | ⟨b1, b2⟩
      · exact absurd b1 (by decide)
      · exact Or.inr ⟨fun b => absurd b.1 (by decide), b2⟩
    · rw [if_neg (by decide)]
      by_cases a : highB s j < (if r < lowB s j then lowB s j else r)
      · rw [if_pos a]
        rcases ih (j + 1) (by omega) 0 (if r < lowB s j then lowB s j else r) n (Or.inl rfl) with ⟨⟨b1, -⟩, b2⟩ | ⟨b1, b2⟩
        · exact absurd b1 (by decide)
        · exact Or.inr ⟨fun b => absurd (hb.mp b.2).1 (Int32.not_le.mpr a), b2⟩
      · rw [if_neg a]
        rcases ih (j + 1) (by omega) 1 (if r < lowB s j then lowB s j else r) n (Or.inr rfl) with ⟨⟨-, b1⟩, b2⟩ | ⟨b1, b2⟩
        · exact Or.inl ⟨⟨rfl, hb.mpr ⟨Int32.not_lt.mp a, b1⟩⟩, b2⟩
        · exact Or.inr ⟨fun b => b1 ⟨rfl, (hb.mp b.2).2⟩, b2⟩
theorem allowed_v {M : BX4} {s : Nat → Int32} {p : Nat} (hM : p4_s M = s) (hp : s 1 = nI p) (hp4 : p ≤ 4) : (AllR s p 0 0 ∧ fX4_isAllowed M = some 1) ∨ (¬ AllR s p 0 0 ∧ fX4_isAllowed M = some 0) := by
  obtain ⟨n, hn⟩ := FU_ex (p + 1) (by omega)
  have e := ia_all hM hp hp4 p 0 (by omega) 1 0 n (Or.inr rfl)
  unfold fX4_isAllowed
  rw [hn]
  rcases e with ⟨⟨-, e1⟩, e2⟩ | ⟨e1, e2⟩
  · exact Or.inl ⟨e1, e2⟩
  · exact Or.inr ⟨fun b => e1 ⟨rfl, b⟩, e2⟩
