/-! the places, from the right to the left -/
theorem up1_ne (f : Nat → Int) {j k : Nat} (z : Int) (h : k ≠ j) : up1 f j z k = f k := if_neg h
abbrev FP (S : Sy) (E : Int) (C Sl D : Nat → Int) (v : BX1) (U V : Nat → Int) (m : Nat) : Prop :=
  U S.n = S.W ∧ V S.n = 1 ∧ ∀ i, m ≤ i → i < S.n →
    (p1_uppers v i = nL (U i) ∧ p1_lowers v i = nL (V i)) ∧ (0 < V i ∧ V i ≤ 104976 ∧ V i ∣ E) ∧ Int.gcd (U i) (V i) = 1 ∧
    D i * U i * V (i + 1) = (C i * V (i + 1) + Sl i * U (i + 1)) * V i ∧
    ((p1_lowest v i).toInt * V i ≤ U i ∧ U i ≤ (p1_highest v i).toInt * V i) ∧ U i * V (i + 1) ≤ U (i + 1) * V i
theorem ne_rat {a : Int} (h : 0 < a) : (a : Rat) ≠ 0 := by
  intro e
  have := Rat.intCast_inj.mp (e.trans (by rfl : (0 : Rat) = ((0 : Int) : Rat)))
  omega
theorem eq_rat {D U V C Sl U' V' : Int} (hV : 0 < V) (hV' : 0 < V') (h : D * U * V' = (C * V' + Sl * U') * V) : (D : Rat) * ((U : Rat) / (V : Rat)) = (C : Rat) + (Sl : Rat) * ((U' : Rat) / (V' : Rat)) := by
  have a := ne_rat hV
  have a' := ne_rat hV'
  have b := Rat.div_mul_cancel (a := (U : Rat)) a
  have b' := Rat.div_mul_cancel (a := (U' : Rat)) a'
  have r := congrArg (fun z : Int => (z : Rat)) h
  simp only [Rat.intCast_mul, Rat.intCast_add] at r
  generalize (U : Rat) / (V : Rat) = x at *
  generalize (U' : Rat) / (V' : Rat) = x' at *
  have : (V : Rat) * ((V' : Rat) * ((D : Rat) * x - ((C : Rat) + (Sl : Rat) * x'))) = 0 := by grind
  rcases Rat.mul_eq_zero.mp this with z | z
  · exact absurd z a
  · rcases Rat.mul_eq_zero.mp z with z | z
    · exact absurd z a'
    · grind
theorem low_dvd {E U V t : Int} (hV : 0 < V) (hE : 0 < E) (hg : Int.gcd U V = 1) (h : (E : Rat) * ((U : Rat) / (V : Rat)) = (t : Rat)) : V ∣ E := by
  have a := ne_rat hV
  have b := Rat.div_mul_cancel (a := (U : Rat)) a
  generalize (U : Rat) / (V : Rat) = x at *
  have e : ((E * U : Int) : Rat) = ((t * V : Int) : Rat) := by
    rw [Rat.intCast_mul, Rat.intCast_mul]; grind
  have e2 := Rat.intCast_inj.mp e
  have d : V ∣ E * U := ⟨t, by rw [e2]; exact Int.mul_comm _ _⟩
  have d3 := Int.dvd_mul_gcd_iff_dvd_mul.mpr d
  rw [Int.gcd_comm, hg] at d3
  simpa using d3
theorem fp_u (k : Nat) : fX1_findPlaces_17 (k + 1) = fX1_findPlaces_17_b (fX1_findPlaces_17 k) := rfl
theorem fp_end (k : BX0 → BX1 → Int64 → Int64 → Int32 → Option (Int32 × BX1)) (L : BX0) (v : BX1) (a b : Int64) : fX1_findPlaces_17_b k L v a b (nI 0 + (-1)) = some (1, v) := by
  unfold fX1_findPlaces_17_b
  rw [if_pos (show nI 0 + (-1) < 0 from by decide)]
/-- a fraction and its greatest divisor -/
theorem gcd_split {PU PL : Int} (h : 0 < PL) : ∃ U V : Int, PU = ((Int.gcd PU PL : Nat) : Int) * U ∧ PL = ((Int.gcd PU PL : Nat) : Int) * V ∧ 0 < V ∧ Int.gcd U V = 1 ∧ 0 < Int.gcd PU PL := by
  have hg : 0 < Int.gcd PU PL := Int.gcd_pos_of_ne_zero_right _ (by omega)
  refine ⟨PU / Int.gcd PU PL, PL / Int.gcd PU PL, ?_, ?_, ?_, ?_, hg⟩
  · exact (Int.mul_ediv_cancel' (Int.gcd_dvd_left ..)).symm
  · exact (Int.mul_ediv_cancel' (Int.gcd_dvd_right ..)).symm
  · have e := Int.mul_ediv_cancel' (Int.gcd_dvd_right PU PL)
    rcases Int.lt_or_le 0 (PL / ((Int.gcd PU PL : Nat) : Int)) with q | q
    · exact q
    · have := Int.mul_le_mul_of_nonneg_left q (show 0 ≤ ((Int.gcd PU PL : Nat) : Int) by omega)
      omega
  · exact Int.gcd_ediv_gcd_ediv_gcd hg
theorem fp_s {L : BX0} {S : Sy} (hL : LaySy L S) (k : BX0 → BX1 → Int64 → Int64 → Int32 → Option (Int32 × BX1)) (v : BX1) (m : Nat) (hm : m < S.n) {C Sl D : Nat → Int} (hA : AR v S.n C Sl D) {N M U V g : Int}
    (eU : C m * M + Sl m * N = g * U) (eV : D m * M = g * V) (hg : g = ((Int.gcd (C m * M + Sl m * N) (D m * M) : Nat) : Int)) (g0 : 0 < g) (b1 : inL (C m * M + Sl m * N)) (b2 : inL (D m * M)) (b3 : inL g) :
    fX1_findPlaces_17_b k L v (nL N) (nL M) (nI m) = fX1_findPlaces_86 k L v (nL N) (nL M) (nI m) (nL U) (nL V) := by
  have n4 := hL.n4
  obtain ⟨a1, a2, a3⟩ := hA m hm
  unfold fX1_findPlaces_17_b
  rw [if_neg (nI_pos (by omega)), if_pos (inB_nI (by omega) (by omega)), if_pos (inB_nI (by omega) (by omega)), nI_clamp (by omega), a1, a2, a3]
  simp only [elet_eq]
  rw [if_pos (inB_nI (by omega) (by omega)), nL_mul, nL_mul, nL_mul, nL_add, gd_v b1 b2, Option.bind_some, ← hg]
  by_cases q : g ≤ 1
  · have g1 : g = 1 := by omega
    rw [if_pos (show lg_cmp (nL g) 1 ≤ 0 from (cmp_le0 b3 inL_1).mpr q)]
    rw [eU, eV, g1, Int.one_mul, Int.one_mul]
  · have e1 : ¬ nL g = 0 := fun h => by have := (nL_eq b3 inL_0).mp h; omega
    rw [if_neg (show ¬ lg_cmp (nL g) 1 ≤ 0 from fun h => q ((cmp_le0 b3 inL_1).mp h)), if_neg e1, if_neg e1]
    rw [eU] at b1 ⊢
    rw [eV] at b2 ⊢
    rw [nL_quot b1 b3 (by omega), nL_quot b2 b3 (by omega)]
theorem fp_86 {L : BX0} {S : Sy} (hL : LaySy L S) (k : BX0 → BX1 → Int64 → Int64 → Int32 → Option (Int32 × BX1)) (v : BX1) (m : Nat) (hm : m < S.n) {N M U V lw hg : Int} (hlw : (p1_lowest v m).toInt = lw) (hhg : (p1_highest v m).toInt = hg)
    (bU : inL U) (bV : 0 < V ∧ V ≤ 104976) (bl : 0 ≤ lw ∧ lw ≤ 99) (bh : 0 ≤ hg ∧ hg ≤ 99) (bM : 0 < M ∧ M ≤ 104976) (bN : 0 ≤ N ∧ N ≤ 99 * M) :
    (lw * V ≤ U ∧ U ≤ hg * V ∧ U * M ≤ N * V ∧ fX1_findPlaces_86 k L v (nL N) (nL M) (nI m) (nL U) (nL V) = k L (s1_lowers (s1_uppers v (vp_updL (p1_uppers v) m (nL U))) (vp_updL (p1_lowers v) m (nL V))) (nL U) (nL V) (nI m + (-1))) ∨
    (¬ (lw * V ≤ U ∧ U ≤ hg * V ∧ U * M ≤ N * V) ∧ fX1_findPlaces_86 k L v (nL N) (nL M) (nI m) (nL U) (nL V) = some (0, v)) := by
  have n4 := hL.n4
  have mb : ∀ z : Int, 0 ≤ z ∧ z ≤ 99 → 0 ≤ z * V ∧ z * V ≤ 99 * V := fun z hz => ⟨Int.mul_nonneg hz.1 (by omega), Int.mul_le_mul_of_nonneg_right hz.2 (by omega)⟩
  have m1 := mb lw bl
  have m2 := mb hg bh
  have i1 : inL (lw * V) := ⟨by omega, by omega⟩
  have i2 : inL (hg * V) := ⟨by omega, by omega⟩
  unfold fX1_findPlaces_86
  rw [if_pos (inB_nI (by omega) (by omega)), nI_clamp (by omega), nL_I, nL_I, hlw, hhg, nL_mul, nL_mul]
  by_cases q1 : U < lw * V
  · right
    refine ⟨fun h => by omega, ?_⟩
    rw [if_pos ((cmp_l0 bU i1).mpr q1)]
  rw [if_neg (fun h => q1 ((cmp_l0 bU i1).mp h)), if_pos (inB_nI (by omega) (by omega))]
  by_cases q2 : hg * V < U
  · right
    refine ⟨fun h => by omega, ?_⟩
    rw [if_pos ((cmp_g0 bU i2).mpr q2)]
  rw [if_neg (fun h => q2 ((cmp_g0 bU i2).mp h)), nL_mul, nL_mul]
  have m3 : 0 ≤ U * M := Int.mul_nonneg (by omega) (by omega)
  have m4 : U * M ≤ (99 * V) * M := Int.mul_le_mul_of_nonneg_right (by omega) (by omega)
  have m5 : V * M ≤ 104976 * 104976 := Int.le_trans (Int.mul_le_mul_of_nonneg_right bV.2 (by omega)) (Int.mul_le_mul_of_nonneg_left bM.2 (by omega))
  have m6 : 0 ≤ N * V := Int.mul_nonneg (by omega) (by omega)
  have m7 : N * V ≤ (99 * M) * V := Int.mul_le_mul_of_nonneg_right bN.2 (by omega)
  have e1 : (99 * V) * M = 99 * (V * M) := Int.mul_assoc _ _ _
  have e2 : (99 * M) * V = 99 * (V * M) := by rw [Int.mul_assoc, Int.mul_comm M V]
  have i3 : inL (U * M) := ⟨by omega, by omega⟩
  have i4 : inL (N * V) := ⟨by omega, by omega⟩
  by_cases q3 : U * M ≤ N * V
  · left
    refine ⟨by omega, by omega, q3, ?_⟩
    rw [if_pos ((cmp_le0 i3 i4).mpr q3), if_pos (inB_nI (by omega) (by omega))]
    simp only [elet_eq]
    rw [if_pos (inB_nI (by omega) (by omega))]
    rfl
  · right
    refine ⟨fun h => q3 h.2.2, ?_⟩
    rw [if_neg (fun h => q3 ((cmp_le0 i3 i4).mp h))]
theorem fp_all {L : BX0} {S : Sy} (hL : LaySy L S) {C Sl D : Nat → Int}
    (hb : ∀ i, i < S.n → 0 < D i ∧ D i ≤ 104976 ∧ 0 ≤ Sl i ∧ Sl i ≤ 104976 ∧ -544195584 ≤ C i ∧ C i ≤ 544195584)
    {E : Int} (E0 : 0 < E) (E1 : E ≤ 104976) (hE : ∀ (w : Int) (i : Nat) (x : Nat → Rat), i < S.n → x S.n = (w : Rat) → EqsR C Sl D i S.n x → ∃ t : Int, (E : Rat) * x i = (t : Rat)) :
    ∀ (m n : Nat) (v : BX1) (U V : Nat → Int), m ≤ S.n → BndQ S v → AR v S.n C Sl D → FP S E C Sl D v U V m →
    ∃ r v', fX1_findPlaces_17 (n + m + 1) L v (nL (U m)) (nL (V m)) (nI m + (-1)) = some (r, v') ∧ SB v v' ∧ ((r = 1 ∧ ∃ U' V', FP S E C Sl D v' U' V' 0) ∨
      (r = 0 ∧ ∀ u l, RestT S u l → (∀ i, i < S.n → D i * u (i + 1) = C i * l + Sl i * u (i + 2)) → ¬ U m * l = u (m + 1) * V m)) := by
  have n4 := hL.n4
  intro m
  induction m with
  | zero =>
    intro n v U V hm hB hA hF
    refine ⟨1, v, ?_, SB_r v, Or.inl ⟨rfl, U, V, hF⟩⟩
    rw [fp_u]
    exact fp_end _ L v _ _
  | succ m ih =>
    intro n v U V hm hB hA hF
    obtain ⟨f1, f2, f3⟩ := id hF
    have hmn : m < S.n := by omega
    have W0 := hL.W0
    have W1 := hL.W1
    have bb : (0 < V (m + 1) ∧ V (m + 1) ≤ 104976) ∧ (0 ≤ U (m + 1) ∧ U (m + 1) ≤ 99 * V (m + 1)) := by
      rcases Nat.eq_or_lt_of_le hm with e | e
      · rw [e, f1, f2]; omega
      · obtain ⟨-, g2, -, -, g5, -⟩ := f3 (m + 1) (Nat.le_refl _) e
        have b := SB_BndQ_ex hB hL.lo0 hL.al hL.hiW (m + 1) e
        have x1 : 0 ≤ (p1_lowest v (m + 1)).toInt * V (m + 1) := Int.mul_nonneg b.1 (Int.le_of_lt g2.1)
        obtain ⟨g21, g22, -⟩ := g2
        have x2 : (p1_highest v (m + 1)).toInt * V (m + 1) ≤ 99 * V (m + 1) := Int.mul_le_mul_of_nonneg_right (by omega) (by omega)
        omega
    obtain ⟨⟨bV1, bV2⟩, bU1, bU2⟩ := bb
    obtain ⟨d1, d2, d3, d4, d5, d6⟩ := hb m hmn
    have y1 : 0 < D m * V (m + 1) := Int.mul_pos d1 bV1
    have y2 : D m * V (m + 1) ≤ 104976 * 104976 := Int.le_trans (Int.mul_le_mul_of_nonneg_right d2 (by omega)) (Int.mul_le_mul_of_nonneg_left bV2 (by omega))
    have y3 : C m * V (m + 1) ≤ 544195584 * 104976 := Int.le_trans (Int.mul_le_mul_of_nonneg_right d6 (by omega)) (Int.mul_le_mul_of_nonneg_left bV2 (by omega))
    have y4 : (-544195584) * 104976 ≤ C m * V (m + 1) := by
      have : (-544195584) * V (m + 1) ≤ C m * V (m + 1) := Int.mul_le_mul_of_nonneg_right d5 (by omega)
      omega
    have y5 : 0 ≤ Sl m * U (m + 1) := Int.mul_nonneg d3 bU1
    have y6 : Sl m * U (m + 1) ≤ 104976 * (99 * 104976) := Int.le_trans (Int.mul_le_mul_of_nonneg_right d4 bU1) (Int.mul_le_mul_of_nonneg_left (by omega) (by omega))
    have i1 : inL (C m * V (m + 1) + Sl m * U (m + 1)) := ⟨by omega, by omega⟩
    have i2 : inL (D m * V (m + 1)) := ⟨by omega, by omega⟩
    obtain ⟨U1, V1, e1, e2, e3, e4, e5⟩ := gcd_split (PU := C m * V (m + 1) + Sl m * U (m + 1)) y1
    obtain ⟨g, hg⟩ : ∃ g, g = ((Int.gcd (C m * V (m + 1) + Sl m * U (m + 1)) (D m * V (m + 1)) : Nat) : Int) := ⟨_, rfl⟩
    rw [← hg] at e1 e2
    have g0 : 0 < g := by omega
    have gV : g ≤ g * V1 := by
      have := Int.mul_le_mul_of_nonneg_left (show 1 ≤ V1 by omega) (Int.le_of_lt g0)
      omega
    have i3 : inL g := ⟨by omega, by omega⟩
    have iU : inL U1 := by
      obtain ⟨i11, i12⟩ := i1
      rw [e1] at i11 i12
      constructor
      · rcases Int.lt_or_le U1 0 with q | q
        · have := Int.mul_le_mul_of_nonpos_right (show 1 ≤ g by omega) (Int.le_of_lt q); omega
        · omega
      · rcases Int.lt_or_le U1 0 with q | q
        · omega
        · have := Int.mul_le_mul_of_nonneg_right (show 1 ≤ g by omega) q; omega
    have eqn : D m * U1 * V (m + 1) = (C m * V (m + 1) + Sl m * U (m + 1)) * V1 := by
      have : g * (D m * U1 * V (m + 1) - (C m * V (m + 1) + Sl m * U (m + 1)) * V1) = 0 := by grind
      rcases Int.mul_eq_zero.mp this with z | z <;> omega
    have hVE : V1 ∣ E := by
      have hx : EqsR C Sl D m S.n (fun i => (up1 U m U1 i : Rat) / (up1 V m V1 i : Rat)) := by
        intro k k1 k2
        rcases Nat.eq_or_lt_of_le k1 with rfl | k3
        · simp only [up1_s, up1_ne _ _ (show m + 1 ≠ m by omega)]
          exact eq_rat e3 bV1 eqn
        · simp only [up1_ne _ _ (show k ≠ m by omega), up1_ne _ _ (show k + 1 ≠ m by omega)]
          obtain ⟨-, h2, -, h4, -⟩ := f3 k (by omega) k2
          refine eq_rat h2.1 ?_ h4
          rcases Nat.eq_or_lt_of_le (show k + 1 ≤ S.n by omega) with e | e
          · rw [e, f2]; decide
          · exact (f3 (k + 1) (by omega) e).2.1.1
      obtain ⟨t, ht⟩ := hE S.W m _ hmn (by
        simp only [up1_ne _ _ (show S.n ≠ m by omega), f1, f2]
        have : ((1 : Int) : Rat) = 1 := rfl
        rw [this]; grind) hx
      simp only [up1_s] at ht
      exact low_dvd e3 E0 e4 ht
    have hV1 : V1 ≤ 104976 := Int.le_trans (Int.le_of_dvd E0 hVE) E1
    have bL := SB_BndQ_ex hB hL.lo0 hL.al hL.hiW m hmn
    rw [show n + (m + 1) + 1 = (n + m + 1) + 1 by omega, fp_u, show nI (m + 1) + (-1) = nI m from pk_m1 m, fp_s hL _ v m hmn hA e1 e2 hg g0 i1 i2 i3]
    rcases fp_86 hL (fX1_findPlaces_17 (n + m + 1)) v m hmn rfl rfl iU ⟨e3, hV1⟩ (by omega) (by omega) ⟨bV1, bV2⟩ ⟨bU1, bU2⟩ with ⟨q1, q2, q3, q4⟩ | ⟨q1, q2⟩
    · rw [q4]
      have := ih n (s1_lowers (s1_uppers v (vp_updL (p1_uppers v) m (nL U1))) (vp_updL (p1_lowers v) m (nL V1))) (up1 U m U1) (up1 V m V1) (by omega) hB hA (by
        refine ⟨by rw [up1_ne _ _ (show S.n ≠ m by omega)]; exact f1, by rw [up1_ne _ _ (show S.n ≠ m by omega)]; exact f2, ?_⟩
        intro i i1 i2
        show (vp_updL (p1_uppers v) m (nL U1) i = _ ∧ vp_updL (p1_lowers v) m (nL V1) i = _) ∧ _
        rcases Nat.eq_or_lt_of_le i1 with rfl | i3
        · rw [pk_uLs, pk_uLs, up1_s, up1_s, up1_ne _ _ (show m + 1 ≠ m by omega), up1_ne _ _ (show m + 1 ≠ m by omega)]
          exact ⟨⟨rfl, rfl⟩, ⟨e3, hV1, hVE⟩, e4, eqn, ⟨q1, q2⟩, q3⟩
        · rw [pk_uLn (show i ≠ m by omega), pk_uLn (show i ≠ m by omega), up1_ne _ _ (show i ≠ m by omega), up1_ne _ _ (show i ≠ m by omega), up1_ne _ _ (show i + 1 ≠ m by omega), up1_ne _ _ (show i + 1 ≠ m by omega)]
          exact f3 i i3 i2)
      rw [up1_s, up1_s] at this
      obtain ⟨r, v', r1, r2, r3⟩ := this
      refine ⟨r, v', r1, r2, ?_⟩
      rcases r3 with r3 | ⟨r3, r4⟩
      · exact Or.inl r3
      · refine Or.inr ⟨r3, fun u l hR hq hu => r4 u l hR hq ?_⟩
        have := hq m hmn
        have e5 : m + 1 + 1 = m + 2 := rfl
        rw [e5] at hu
        have z : (D m * V (m + 1)) * (U1 * l - u (m + 1) * V1) = 0 := by grind
        rcases Int.mul_eq_zero.mp z with z | z <;> omega
    · refine ⟨0, v, q2, SB_r v, Or.inr ⟨rfl, fun u l hR hq hu => q1 ?_⟩⟩
      have hq' := hq m hmn
      have e5 : m + 1 + 1 = m + 2 := rfl
      rw [e5] at hu
      have z : (D m * V (m + 1)) * (U1 * l - u (m + 1) * V1) = 0 := by grind
      have z2 : U1 * l = u (m + 1) * V1 := by
        rcases Int.mul_eq_zero.mp z with z | z <;> omega
      have lp := hR.pos
      have cle : ∀ a b : Int, a * l ≤ b * l → a ≤ b := fun a b h => Int.le_of_mul_le_mul_right h lp
      refine ⟨cle _ _ ?_, cle _ _ ?_, cle _ _ ?_⟩
      · obtain ⟨k, k1, k2⟩ := hB.l1 m hmn
        rw [k2, z2]
        have a1 := hR.lo k (by omega)
        have a2 := mono_le hR.toRowIn (k + 1) (m + 1) (by omega) (by omega)
        have a3 := Int.mul_le_mul_of_nonneg_right (Int.le_trans a1 a2) (Int.le_of_lt e3)
        grind
      · obtain ⟨k, k0, k1, k2⟩ := hB.h1 m hmn
        rw [k2, z2]
        have a1 := hR.hi k (by omega)
        have a2 := mono_le hR.toRowIn (m + 1) (k + 1) (by omega) (by omega)
        have a3 := Int.mul_le_mul_of_nonneg_right (Int.le_trans a2 a1) (Int.le_of_lt e3)
        grind
      · have a1 := hR.mono (m + 1) (by omega)
        rw [e5] at a1
        have a2 := Int.mul_le_mul_of_nonneg_right a1 (show 0 ≤ V1 * V (m + 1) from Int.mul_nonneg (by omega) (by omega))
        have l1 : U1 * V (m + 1) * l = u (m + 1) * (V1 * V (m + 1)) := by
          rw [Int.mul_right_comm, z2, Int.mul_assoc]
        have l2 : U (m + 1) * V1 * l = u (m + 2) * (V1 * V (m + 1)) := by
          rw [Int.mul_right_comm, hu, Int.mul_assoc, Int.mul_comm (V (m + 1))]
        rw [l1, l2]
        exact a2
theorem find_ok {L : BX0} {S : Sy} (hL : LaySy L S) {C Sl D : Nat → Int}
    (hb : ∀ i, i < S.n → 0 < D i ∧ D i ≤ 104976 ∧ 0 ≤ Sl i ∧ Sl i ≤ 104976 ∧ -544195584 ≤ C i ∧ C i ≤ 544195584)
    {E : Int} (E0 : 0 < E) (E1 : E ≤ 104976) (hE : ∀ (w : Int) (i : Nat) (x : Nat → Rat), i < S.n → x S.n = (w : Rat) → EqsR C Sl D i S.n x → ∃ t : Int, (E : Rat) * x i = (t : Rat))
    (v : BX1) (hB : BndQ S v) (hA : AR v S.n C Sl D) :
    ∃ r v', fX1_findPlaces L v = some (r, v') ∧ SB v v' ∧ ((r = 1 ∧ ∃ U' V', FP S E C Sl D v' U' V' 0) ∨
      (r = 0 ∧ ∀ u l, RestT S u l → ¬ ∀ i, i < S.n → D i * u (i + 1) = C i * l + Sl i * u (i + 2))) := by
  have n4 := hL.n4
  obtain ⟨k, hk⟩ := FU_ex (S.n + 1) (by omega)
  obtain ⟨r, v', r1, r2, r3⟩ := fp_all hL hb E0 E1 hE S.n k v (fun _ => S.W) (fun i => 1) (Nat.le_refl _) hB hA ⟨rfl, rfl, fun i h1 h2 => absurd h1 (by omega)⟩
  refine ⟨r, v', ?_, r2, ?_⟩
  · unfold fX1_findPlaces
    simp only [elet_eq]
    rw [nL_I, hL.wd, hL.pl, hk, show k + (S.n + 1) = k + S.n + 1 by omega, Int32.sub_eq_add_neg]
    exact r1
  · rcases r3 with r3 | ⟨r3, r4⟩
    · exact Or.inl r3
    · refine Or.inr ⟨r3, fun u l hR hq => r4 u l hR hq ?_⟩
      rw [hR.w]; omega
