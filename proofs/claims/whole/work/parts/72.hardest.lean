/-! the stop that holds most -/
theorem isMore_i {U V X Y : Int} (hU : 0 ≤ U ∧ U < 10000000000000) (hV : 0 < V ∧ V < 10000000000000) (hX : 0 ≤ X ∧ X < 10000000000000) (hY : 0 < Y ∧ Y < 10000000000000) : fX4_isMore (nL U) (nL V) (nL X) (nL Y) = some (if X * V < U * Y then 1 else 0) := by
  obtain ⟨a, rfl⟩ := Int.eq_ofNat_of_zero_le hU.1
  obtain ⟨b, rfl⟩ := Int.eq_ofNat_of_zero_le (Int.le_of_lt hV.1)
  obtain ⟨c, rfl⟩ := Int.eq_ofNat_of_zero_le hX.1
  obtain ⟨d, rfl⟩ := Int.eq_ofNat_of_zero_le (Int.le_of_lt hY.1)
  rw [isMore_v (by omega) (by omega) (by omega) (by omega)]
  by_cases q : c * b < a * d
  · rw [if_pos q, if_pos (by rw [← Int.natCast_mul, ← Int.natCast_mul]; omega)]
  · rw [if_neg q, if_neg (by rw [← Int.natCast_mul, ← Int.natCast_mul]; omega)]
theorem h29_u (k : Nat) : fX3_hardest_29 (k + 1) = fX3_hardest_29_b (fX3_hardest_29 k) := rfl
theorem h61_u (k : Nat) : fX4_hardest_61 (k + 1) = fX4_hardest_61_b (fX4_hardest_61 k) := rfl
/-- what both have found so far -/
def HdR (l Db lb up dn : Int) (x3 x2 : Int32) : Prop :=
  ((x3 = -1 ∧ x2 = -1000004) ∨ ∃ b, b < 8 ∧ x3 = nI b ∧ x2 = nI b) ∧ Db * dn = up * (lb * l) ∧ (0 ≤ Db ∧ Db ≤ 5000000000000) ∧ (1 ≤ lb ∧ lb ≤ 104976) ∧ Int.gcd up dn = 1 ∧ (0 < dn ∧ dn < 10000000000000) ∧ (0 ≤ up ∧ up < 10000000000000)
theorem hd_end {s : Nat → Int32} {vA : BX0} {p : Nat} (hL : LayEq vA s) (g2 : s 1 = nI p) (g5 : p ≤ 4) {R : BX1} {l : Int} (hl : p1_lower R = nL l) (l0 : 0 < l) (l1 : l ≤ 104976) (kc : BX3 → BX0 → BX0 → BX1 → BX1 → Int32 → Int32 → Int64 → Int64 → Int32 → Option (Int64 × BX3 × BX0 × BX1 × BX1)) (kr : BX4 → Int32 → Int32 → Int64 → Int64 → Int32 → Option (Int64 × BX4)) (X : BX3) (vB : BX0) (vT : BX1) (M : BX4) (hM : p4_s M = s) (what : Nat) (hw : what < 4) (x3 x2 : Int32) (Db lb up dn : Int) (h : HdR l Db lb up dn x3 x2) :
    ∃ a, fX3_hardest_29_b kc X vA vB R vT (nI what) x3 (nL Db) (nL lb) (nI (2 * p)) = some (a, X, vB, R, vT) ∧ fX4_hardest_61_b kr M (nI what) x2 (nL up) (nL dn) (nI (2 * p)) = some (a, M) := by
  obtain ⟨h1, h2, h3, h4, h5, h6, h7⟩ := h
  have e2 : (2 : Int32) * nI p = nI (2 * p) := pk_mul 2 p
  unfold fX3_hardest_29_b fX4_hardest_61_b
  rw [cl1, hM, g2, hL.2.1, g2, e2, if_pos (Int32.le_refl _), if_pos (Int32.le_refl _)]
  rcases h1 with ⟨rfl, rfl⟩ | ⟨b, hb, rfl, rfl⟩
  · rw [if_neg (show ¬ (0 : Int32) ≤ -1 from by decide), if_neg (show ¬ (0 : Int32) ≤ -1000004 from by decide)]
    exact ⟨-1000004, rfl, rfl⟩
  · rw [if_pos (nI_pos' (by omega)), if_pos (nI_pos' (by omega))]
    by_cases w0 : what = 0
    · subst w0
      rw [if_neg (show ¬ (2 : Int32) ≤ nI 0 from by decide), if_pos (show nI 0 = 0 from rfl), if_pos (show nI 0 = 0 from rfl)]
      exact ⟨_, rfl, rfl⟩
    by_cases w1 : what = 1
    · subst w1
      rw [if_neg (show ¬ (2 : Int32) ≤ nI 1 from by decide), if_neg (show ¬ nI 1 = 0 from by decide), if_neg (show ¬ nI 1 = 0 from by decide), if_pos (show nI 1 = 1 from rfl)]
      exact ⟨_, rfl, rfl⟩
    have ll : 0 < lb * l := Int.mul_pos (by omega) l0
    have llb : lb * l ≤ 104976 * 104976 := Int.le_trans (Int.mul_le_mul_of_nonneg_right h4.2 (by omega)) (Int.mul_le_mul_of_nonneg_left l1 (by omega))
    obtain ⟨U, V, g, g', q1, q2, q3, q4, q5, q6, q7, q8, q9⟩ := low_same ll h6.1 h2
    rw [h5] at q6
    have eU : up = U := by rw [q3, q6]; show (1 : Int) * U = U; omega
    have eV : dn = V := by rw [q4, q6]; show (1 : Int) * V = V; omega
    have iD : inL Db := ⟨by omega, by omega⟩
    have iL : inL (lb * l) := ⟨by omega, by omega⟩
    rw [if_pos (show (2 : Int32) ≤ nI what from lec (a := 2) (b := what) (by omega) (by omega)), hl, nL_mul, inLow_v iD iL q1 q2 q5 q8 q7, Option.bind_some]
    rcases (show what = 2 ∨ what = 3 by omega) with rfl | rfl
    · rw [if_pos (show nI 2 - (2 : Int32) = 0 from by decide), if_neg (show ¬ nI 2 = 0 from by decide), if_neg (show ¬ nI 2 = 1 from by decide), if_pos (show nI 2 = 2 from rfl), eU]
      exact ⟨_, rfl, rfl⟩
    · rw [if_neg (show ¬ nI 3 - (2 : Int32) = 0 from by decide), if_neg (show ¬ nI 3 = 0 from by decide), if_neg (show ¬ nI 3 = 1 from by decide), if_neg (show ¬ nI 3 = 2 from by decide), eV]
      exact ⟨_, rfl, rfl⟩
theorem hd_all {s : Nat → Int32} {vA : BX0} {p : Nat} (hL : LayEq vA s) (hG : Good s) (g2 : s 1 = nI p) (g5 : p ≤ 4) {R : BX1} {u v : Nat → Int} {l m : Int} (s2 : SpQ (syO s) R u l) (s3 : RestT (syO s) u l) (s4 : l ≤ 104976) (r4 : RestT (syO s) v m) (r5 : m ≤ 104976) (eq : ∀ j, j ≤ (syO s).n + 1 → m * u j = l * v j) (X : BX3) (what : Nat) (hw : what < 4) (M0 : BX4) (hM0 : p4_s M0 = s) (kl : p4_keptLower M0 = nL m) (kk : ∀ j, j < p → p4_kept M0 j = nL (v (j + 1))) :
    ∀ (d i n : Nat) (vB : BX0) (vT : BX1) (M : BX4) (x3 x2 : Int32) (Db lb up dn : Int), i + d = 2 * p → rzk M = rzk M0 → HdR l Db lb up dn x3 x2 →
    ∃ a B' T' M', fX3_hardest_29 (n + d + 1) X vA vB R vT (nI what) x3 (nL Db) (nL lb) (nI i) = some (a, X, B', R, T') ∧ fX4_hardest_61 (n + d + 1) M (nI what) x2 (nL up) (nL dn) (nI i) = some (a, M') ∧ rzk M' = rzk M0 := by
  have hS := gdS_of hG
  have hn : (syO s).n = p := syO_p g2 g5
  have l0 := s3.pos
  have m0 := r4.pos
  intro d
  induction d with
  | zero =>
    intro i n vB vT M x3 x2 Db lb up dn hi hM hH
    obtain rfl : i = 2 * p := by omega
    obtain ⟨a, a1, a2⟩ := hd_end hL g2 g5 s2.1 l0 s4 (fX3_hardest_29 n) (fX4_hardest_61 n) X vB vT M ((rzk_s hM).trans hM0) what hw x3 x2 Db lb up dn hH
    exact ⟨a, vB, vT, M, by rw [show n + 0 + 1 = n + 1 by omega, h29_u]; exact a1, by rw [show n + 0 + 1 = n + 1 by omega, h61_u]; exact a2, hM⟩
  | succ d ih =>
    intro i n vB vT M x3 x2 Db lb up dn hi hM hH
    have hMs : p4_s M = s := (rzk_s hM).trans hM0
    obtain ⟨k, c, rfl, hc⟩ : ∃ k c, i = 2 * k + c ∧ c < 2 := ⟨i / 2, i % 2, by omega, by omega⟩
    have hk : k < p := by omega
    have hk4 : k < 4 := by omega
    have e2 : (2 : Int32) * nI p = nI (2 * p) := pk_mul 2 p
    have dk : nI (2 * k + c) / (2 : Int32) = nI k := by
      have := pk_div (a := 2 * k + c) (d := 2) (by omega) (by omega) (by omega)
      rw [show (2 * k + c) / 2 = k by omega] at this
      exact this
    have dc : nI (2 * k + c) - nI k * (2 : Int32) = nI c := by
      have := pk_rem (a := 2 * k + c) (d := 2) (by omega) (by omega) (by omega)
      rw [show (2 * k + c) % 2 = c by omega] at this
      rw [← dk]; exact this
    have i8 : inB (nI (2 * k + c)) 8 = true := inB_nI (by omega) (by omega)
    have c8 : (nI (2 * k + c)).toNatClampNeg = 2 * k + c := nI_clamp (by omega)
    have e4 : inB (nI (16 + 4 * c + k)) 24 = true := inB_nI (by omega) (by omega)
    have e5 : (nI (16 + 4 * c + k)).toNatClampNeg = 16 + 4 * c + k := nI_clamp (by omega)
    have st := stops_c hL k c hk4 hc
    have sa := stopAt_v M k c hk4 hc
    have hv : -1 ≤ (s (16 + 4 * c + k)).toInt := by
      obtain ⟨w, p', g1, g2', g3, g4, g5', g6, g7, g8⟩ := id hG
      obtain rfl : p = p' := (nI_eq (by omega) (by omega)).mp (g2.symm.trans g2')
      obtain ⟨-, x1, x2⟩ := g7 k hk
      rcases (show c = 0 ∨ c = 1 by omega) with rfl | rfl
      · exact x1.1
      · exact x2.1
    have c128 : ∀ (kc : BX3 → BX0 → BX0 → BX1 → BX1 → Int32 → Int32 → Int64 → Int64 → Int32 → Option (Int64 × BX3 × BX0 × BX1 × BX1)) (B : BX0) (T : BX1) (y : Int32) (a b : Int64), fX3_hardest_128 kc X vA B R T (nI what) y a b (nI (2 * k + c)) = kc X vA B R T (nI what) y a b (nI (2 * k + c + 1)) := by
      intro kc B T y a b; unfold fX3_hardest_128; rw [elet_eq, nI_1]
    have c112 : ∀ (kc : BX3 → BX0 → BX0 → BX1 → BX1 → Int32 → Int32 → Int64 → Int64 → Int32 → Option (Int64 × BX3 × BX0 × BX1 × BX1)) (B : BX0) (T : BX1) (a : Int64), fX3_hardest_112 kc X vA B R T (nI what) (nI (2 * k + c)) a = kc X vA B R T (nI what) (nI (2 * k + c)) a (p1_lower T) (nI (2 * k + c + 1)) := by
      intro kc B T a; unfold fX3_hardest_112; rw [elet_eq, c128]
    have r180 : ∀ (kr : BX4 → Int32 → Int32 → Int64 → Int64 → Int32 → Option (Int64 × BX4)) (M : BX4) (y : Int32) (a b : Int64), fX4_hardest_180 kr M (nI what) y a b (nI (2 * k + c)) = kr M (nI what) y a b (nI (2 * k + c + 1)) := by
      intro kr M y a b; unfold fX4_hardest_180; rw [elet_eq, nI_1]
    have r136 : ∀ (kr : BX4 → Int32 → Int32 → Int64 → Int64 → Int32 → Option (Int64 × BX4)) (M : BX4) (y : Int32) (a b : Int64), fX4_hardest_136 kr M (nI what) y a b (nI (2 * k + c)) 0 = kr M (nI what) y a b (nI (2 * k + c + 1)) := by
      intro kr M y a b; unfold fX4_hardest_136 fX4_hardest_149 fX4_hardest_163 fX4_hardest_178; rw [if_pos rfl, if_pos rfl, if_pos rfl, r180]
    have r131 : ∀ (kr : BX4 → Int32 → Int32 → Int64 → Int64 → Int32 → Option (Int64 × BX4)) (M : BX4) (y : Int32) (a b : Int64), fX4_hardest_131 kr M (nI what) y a b (nI (2 * k + c)) = kr M (nI what) (nI (2 * k + c)) (p4_farUp M) (p4_farDown M) (nI (2 * k + c + 1)) := by
      intro kr M y a b; unfold fX4_hardest_131 fX4_hardest_136 fX4_hardest_149 fX4_hardest_163 fX4_hardest_178; rw [if_neg (by decide), if_neg (by decide), if_neg (by decide), r180]
    rw [show n + (d + 1) + 1 = (n + d + 1) + 1 by omega, h29_u, h61_u]
    by_cases q : s (16 + 4 * c + k) < 0
    · have cs : ∀ kc, fX3_hardest_29_b kc X vA vB R vT (nI what) x3 (nL Db) (nL lb) (nI (2 * k + c)) = kc X vA vB R vT (nI what) x3 (nL Db) (nL lb) (nI (2 * k + c + 1)) := by
        intro kc
        unfold fX3_hardest_29_b
        rw [hL.2.1, g2, e2, if_neg (nlec (by omega) (by omega)), if_pos i8, c8, st, if_pos ((neg1 hv).mp q), c128]
      have rs : ∀ kr, fX4_hardest_61_b kr M (nI what) x2 (nL up) (nL dn) (nI (2 * k + c)) = kr M (nI what) x2 (nL up) (nL dn) (nI (2 * k + c + 1)) := by
        intro kr
        unfold fX4_hardest_61_b
        rw [cl1, hMs, g2, e2, if_neg (nlec (by omega) (by omega)), dk, dc, sa, Option.bind_some, if_pos e4, e5, if_pos q, r180]
      rw [cs, rs]
      exact ih (2 * k + c + 1) n vB vT M x3 x2 Db lb up dn (by omega) hM hH
    · have q1 : ¬ s (16 + 4 * c + k) = -1 := fun e => q ((neg1 hv).mpr e)
      obtain ⟨a0, L0, -, -, hG1⟩ := rem_ok hL hG g2 g5 k c hk hc q
      have hS1 := gdS_of hG1
      have hn1 : (syO (upd s (16 + 4 * c + k) (-1))).n = p := syO_p (by rw [pk_un (by omega)]; exact g2) g5
      obtain ⟨L1, R1, u1, l1, w1, w2, w3, w4⟩ := sw_ok hL hG g2 g5 X vB vT k c hk hc q
      obtain ⟨M1, v1, m1, U, V, g, y1, y2, y3, y4, y5, y6, y7, y8, y9, y10, y11, y12, y13, y14⟩ := moves_ok hG g2 g5 k c hk hc hG1 hMs r4 r5 ((rzk_kl hM).trans kl) (fun j hj => by rw [rzk_kept hM]; exact kk j hj)
      have hd : ∀ j, j ≤ p → ((u1 j * l - u j * l1).natAbs : Int) ≤ 1091001199999 := fun j hj => diff_bd w3.toRowIn s3.toRowIn hS1.W1 hS.W1 w4 s4 j (by omega) (by omega)
      have hiL : ∀ j, j ≤ p → inL (u1 j * l - u j * l1) := fun j hj => by have := hd j hj; exact ⟨by omega, by omega⟩
      have hD := dsum_le (fun j => u1 j * l - u j * l1) 1091001199999 p hd (by decide)
      have hD0 := dsum_nn (fun j => u1 j * l - u j * l1) p
      have hpp : (p : Int) * 1091001199999 ≤ 4 * 1091001199999 := Int.mul_le_mul_of_nonneg_right (by omega) (by decide)
      have dv := dist_v (R1 := R1) (R := R) (u1 := u1) (u := u) (l1 := l1) (l := l) g5 w2.1 s2.1 (fun j hj => w2.2 j (by omega)) (fun j hj => s2.2 j (by omega)) hiL
      have l10 := w3.pos
      have m10 := y3.pos
      have eq1 := rest_one w3 y3 (fun k hk => by have := hS1.K0 k hk; omega)
      have key : dsum (fun j => u1 j * l - u j * l1) p * (m1 * m) = dsum (fun j => v1 j * m - v j * m1) p * (l1 * l) := by
        refine dsum_eq (Int.mul_pos m10 m0) (Int.mul_pos l10 l0) p (fun j hj => ?_)
        have b1 := eq j (by omega)
        have b2 := eq1 j (by omega)
        show (u1 j * l - u j * l1) * (m1 * m) = (v1 j * m - v j * m1) * (l1 * l)
        have c1 : u1 j * l * (m1 * m) = v1 j * m * (l1 * l) := by
          have : u1 j * l * (m1 * m) = (m1 * u1 j) * (l * m) := by grind
          rw [this, b2]; grind
        have c2 : u j * l1 * (m1 * m) = v j * m1 * (l1 * l) := by
          have : u j * l1 * (m1 * m) = (m * u j) * (l1 * m1) := by grind
          rw [this, b1]; grind
        rw [Int.sub_mul, Int.sub_mul, c1, c2]
      generalize hDD : dsum (fun j => u1 j * l - u j * l1) p = D1 at *
      rw [y7, y8] at key
      have keyV : D1 * V = U * (l1 * l) := by
        have z : g * (D1 * V - U * (l1 * l)) = 0 := by grind
        rcases Int.mul_eq_zero.mp z with z | z <;> omega
      obtain ⟨h1, h2, h3, h4, h5, h6, h7⟩ := id hH
      have newH : HdR l D1 l1 U V (nI (2 * k + c)) (nI (2 * k + c)) := ⟨Or.inr ⟨2 * k + c, by omega, rfl, rfl⟩, keyV, ⟨hD0, by omega⟩, ⟨by omega, w4⟩, y9, ⟨y10, y14⟩, ⟨y12, y13⟩⟩
      have iA : inL (D1 * lb) := by
        have a1 : D1 * lb ≤ D1 * 104976 := Int.mul_le_mul_of_nonneg_left h4.2 hD0
        have a2 : 0 ≤ D1 * lb := Int.mul_nonneg hD0 (by omega)
        exact ⟨by omega, by omega⟩
      have iB : inL (Db * l1) := by
        have a1 : Db * l1 ≤ Db * 104976 := Int.mul_le_mul_of_nonneg_left w4 h3.1
        have a2 : 0 ≤ Db * l1 := Int.mul_nonneg h3.1 (by omega)
        exact ⟨by omega, by omega⟩
      have cmpE : up * V < U * dn ↔ Db * l1 < D1 * lb := by
        have P : 0 < V * dn := Int.mul_pos y10 h6.1
        have Q : 0 < l1 * l * lb := Int.mul_pos (Int.mul_pos l10 l0) (by omega)
        have f1 : (D1 * lb) * (V * dn) = (l1 * l * lb) * (U * dn) := by
          have : (D1 * lb) * (V * dn) = (D1 * V) * (lb * dn) := by grind
          rw [this, keyV]; grind
        have f2 : (Db * l1) * (V * dn) = (l1 * l * lb) * (up * V) := by
          have : (Db * l1) * (V * dn) = (Db * dn) * (l1 * V) := by grind
          rw [this, h2]; grind
        constructor
        · intro z
          have := Int.mul_lt_mul_of_pos_left z Q
          rw [← f1, ← f2] at this
          exact Int.lt_of_mul_lt_mul_right this (Int.le_of_lt P)
        · intro z
          have := Int.mul_lt_mul_of_pos_right z P
          rw [f1, f2] at this
          exact Int.lt_of_mul_lt_mul_left this (Int.le_of_lt Q)
      have cs : ∀ kc, fX3_hardest_29_b kc X vA vB R vT (nI what) x3 (nL Db) (nL lb) (nI (2 * k + c)) = if x3 < 0 then kc X vA L1 R R1 (nI what) (nI (2 * k + c)) (nL D1) (nL l1) (nI (2 * k + c + 1)) else (if lg_cmp (nL (D1 * lb)) (nL (Db * l1)) ≤ 0 then kc X vA L1 R R1 (nI what) x3 (nL Db) (nL lb) (nI (2 * k + c + 1)) else kc X vA L1 R R1 (nI what) (nI (2 * k + c)) (nL D1) (nL l1) (nI (2 * k + c + 1))) := by
        intro kc
        unfold fX3_hardest_29_b
        rw [hL.2.1, g2, e2, if_neg (nlec (by omega) (by omega)), if_pos i8, c8, st, if_neg q1, dk, dc, w1, Option.bind_some, dv, Option.bind_some, w2.1, nL_mul, nL_mul, c128, c112, w2.1]
      have rs : ∀ kr, fX4_hardest_61_b kr M (nI what) x2 (nL up) (nL dn) (nI (2 * k + c)) = if x2 < 0 then kr M1 (nI what) (nI (2 * k + c)) (nL U) (nL V) (nI (2 * k + c + 1)) else (if up * V < U * dn then kr M1 (nI what) (nI (2 * k + c)) (nL U) (nL V) (nI (2 * k + c + 1)) else kr M1 (nI what) x2 (nL up) (nL dn) (nI (2 * k + c + 1))) := by
        intro kr
        unfold fX4_hardest_61_b
        rw [cl1, hMs, g2, e2, if_neg (nlec (by omega) (by omega)), dk, dc, sa, Option.bind_some, if_pos e4, e5, if_neg q, Option.bind_some, y1, Option.bind_some, y5, y6, isMore_i ⟨y12, y13⟩ ⟨y10, y14⟩ h7 h6, Option.bind_some, r131, r136, y5, y6]
        by_cases z : up * V < U * dn
        · rw [if_pos z, if_pos z, if_neg (show ¬ (1 : Int32) = 0 from by decide)]
        · rw [if_neg z, if_neg z, if_pos (show (0 : Int32) = 0 from rfl)]
      rw [cs, rs]
      have go1 := ih (2 * k + c + 1) n L1 R1 M1 (nI (2 * k + c)) (nI (2 * k + c)) D1 l1 U V (by omega) (y2.trans hM) newH
      have go2 := ih (2 * k + c + 1) n L1 R1 M1 x3 x2 Db lb up dn (by omega) (y2.trans hM) hH
      rcases h1 with ⟨rfl, rfl⟩ | ⟨b, hb, rfl, rfl⟩
      · rw [if_pos (show (-1 : Int32) < 0 from by decide), if_pos (show (-1000004 : Int32) < 0 from by decide)]
        exact go1
      · rw [if_neg (nI_pos (by omega)), if_neg (nI_pos (by omega))]
        by_cases z : up * V < U * dn
        · have z2 := cmpE.mp z
          rw [if_pos z, if_neg (fun y => by have := (cmp_le0 iA iB).mp y; omega)]
          exact go1
        · have z2 : ¬ Db * l1 < D1 * lb := fun y => z (cmpE.mpr y)
          rw [if_neg z, if_pos ((cmp_le0 iA iB).mpr (by omega))]
          exact go2
theorem h27_u (k : Nat) : fX4_hardest_27 (k + 1) = fX4_hardest_27_b (fX4_hardest_27 k) := rfl
theorem rz6_kept (M : BX4) (z : Nat → Int64) : rz6 (s4_kept M z) = rz6 M := by
  unfold rz6
  simp only [gs4_s_kept, gs4_past_kept, gs4_pasts_kept, gs4_runs_kept, gs4_text_kept, gs4_typed_kept]
theorem rz6_kl (M : BX4) (z : Int64) : rz6 (s4_keptLower M z) = rz6 M := by
  unfold rz6
  simp only [gs4_s_keptLower, gs4_past_keptLower, gs4_pasts_keptLower, gs4_runs_keptLower, gs4_text_keptLower, gs4_typed_keptLower]
theorem h27_all (x : Int32) : ∀ (d j n : Nat) (M : BX4), j + d = 4 → (∀ i, i < j → p4_kept M i = p4_upper M i) → ∃ M', fX4_hardest_27 (n + d + 1) M x (nI j) = fX4_hardest_61 FU M' x (-1000004) 0 1 0 ∧ rz6 M' = rz6 M ∧ p4_keptLower M' = p4_keptLower M ∧ ∀ i, i < 4 → p4_kept M' i = p4_upper M i := by
  intro d
  induction d with
  | zero =>
    intro j n M hj hk
    obtain rfl : j = 4 := by omega
    refine ⟨M, ?_, rfl, rfl, hk⟩
    rw [h27_u]
    unfold fX4_hardest_27_b
    rw [if_pos (show (4 : Int32) ≤ nI 4 from by decide)]
  | succ d ih =>
    intro j n M hj hk
    have st : fX4_hardest_27 (n + (d + 1) + 1) M x (nI j) = fX4_hardest_27 (n + d + 1) (s4_kept M (vp_updL (p4_kept M) j (p4_upper M j))) x (nI (j + 1)) := by
      rw [show n + (d + 1) + 1 = (n + d + 1) + 1 by omega, h27_u]
      generalize fX4_hardest_27 (n + d + 1) = kk
      unfold fX4_hardest_27_b
      have a1 : ¬ (4 : Int32) ≤ nI j := nlec (b := j) (a := 4) (by omega) (by omega)
      rw [if_neg a1, if_pos (inB_nI (by omega) (by omega)), if_pos (inB_nI (by omega) (by omega)), nI_clamp (by omega)]
      simp only [elet_eq]
      rw [nI_1]
    obtain ⟨M', q1, q2, q3, q4⟩ := ih (j + 1) n (s4_kept M (vp_updL (p4_kept M) j (p4_upper M j))) (by omega) (by
      intro i hi
      rw [gs4_kept_kept, gs4_upper_kept]
      rcases Nat.eq_or_lt_of_le (Nat.le_of_lt_succ hi) with rfl | hi
      · rw [pk_uLs]
      · rw [pk_uLn (by omega)]; exact hk i hi)
    refine ⟨M', st.trans q1, q2.trans (rz6_kept _ _), q3.trans (gs4_keptLower_kept _ _), fun i hi => ?_⟩
    rw [q4 i hi, gs4_upper_kept]
theorem St_hardest0 : St_hardest Sim0 := by
  intro vX n pv vA vB vR vT vS vM i1 h
  have hL := h.1
  have hG := h.2.1
  obtain ⟨w, p, g1, g2, g3, g4, g5, g6, g7, g8⟩ := id hG
  have hn : (syO (p4_s vM)).n = p := syO_p g2 g5
  by_cases c1 : i1 < 0
  · refine ⟨(-1000001, vX, vB, vR, vT), (-1000001, vM), ?_, ?_, rfl, h⟩
    · unfold fX3_hardest; rw [if_pos c1]
    · unfold fX4_hardest; rw [in4_v, if_pos c1, Option.bind_some, if_pos rfl]
  by_cases c2 : 3 < i1
  · refine ⟨(-1000001, vX, vB, vR, vT), (-1000001, vM), ?_, ?_, rfl, h⟩
    · unfold fX3_hardest; rw [if_neg c1, if_neg (Int32.not_le.mpr c2)]
    · unfold fX4_hardest; rw [in4_v, if_neg c1, if_pos c2, Option.bind_some, if_pos rfl]
  obtain ⟨what, hw, rfl⟩ := nI_of c1
  have hw4 : what < 4 := by
    rcases Nat.lt_or_ge what 4 with q | q
    · exact q
    · exact absurd (ltc (a := 3) (b := what) (by omega) hw) c2
  obtain ⟨X', R, u, l, M', v, m, s1, s2, s3, s4, r1, r2, r3, r4, r5, eq, sim⟩ := both_ok h
  obtain ⟨f4, hf4⟩ := FU_ex (4 + 1) (by omega)
  obtain ⟨M0, k1, k2, k3, k4⟩ := h27_all (nI what) 4 0 f4 (s4_keptLower M' (p4_lower M')) (by omega) (fun i hi => absurd hi (by omega))
  rw [show f4 + 4 + 1 = FU by omega] at k1
  rw [gs4_keptLower_keptLower, r3.1] at k3
  have r6 : rz6 M' = rz6 vM := rz6_k (rzk_of r2)
  have k2' : rz6 M0 = rz6 vM := (k2.trans (rz6_kl _ _)).trans r6
  have hM0 : p4_s M0 = p4_s vM := congrArg (fun z => z.1) k2'
  have kk : ∀ j, j < p → p4_kept M0 j = nL (v (j + 1)) := fun j hj => by
    rw [k4 j (by omega), gs4_upper_keptLower]; exact r3.2.1 j (by omega)
  obtain ⟨f, hf⟩ := FU_ex (2 * p + 1) (by omega)
  obtain ⟨a, B', T', M2, a1, a2, a3⟩ := hd_all hL hG g2 g5 s2 s3 s4 r4 r5 eq X' what hw4 M0 hM0 k3 kk (2 * p) 0 f vB vT M0 (-1) (-1000004) 0 1 0 1 (by omega) rfl ⟨Or.inl ⟨rfl, rfl⟩, by omega, ⟨by decide, by decide⟩, ⟨by decide, by decide⟩, by decide, ⟨by decide, by decide⟩, ⟨by decide, by decide⟩⟩
  rw [show f + 2 * p + 1 = FU by omega] at a1 a2
  refine ⟨(a, X', B', R, T'), (a, M2), ?_, ?_, rfl, ?_⟩
  · unfold fX3_hardest
    rw [if_neg c1, if_pos (Int32.not_lt.mp c2), s1, Option.bind_some]
    exact a1
  · unfold fX4_hardest
    rw [in4_v, if_neg c1, if_neg c2, Option.bind_some, if_neg (by decide), r1, Option.bind_some, elet_eq]
    exact k1.trans a2
  · exact sim_6 (sim vM vB vT rfl) ((rz6_k a3).trans k2')
