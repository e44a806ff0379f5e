/-! one lower part for all -/
theorem sl7_u (k : Nat) : fX1_shareLower_7 (k + 1) = fX1_shareLower_7_b (fX1_shareLower_7 k) := rfl
theorem sl67_u (k : Nat) : fX1_shareLower_67 (k + 1) = fX1_shareLower_67_b (fX1_shareLower_67 k) := rfl
theorem sl67_end {L : BX0} {S : Sy} (hL : LaySy L S) (k : BX0 → BX1 → Int32 → Option BX1) (v : BX1) {l : Int} (hl : p1_lower v = nL l) : fX1_shareLower_67_b k L v (nI S.n) = some (s1_spots v (vp_updL (p1_spots v) (S.n + 1) (nL (S.W * l)))) := by
  have n4 := hL.n4
  unfold fX1_shareLower_67_b
  rw [hL.pl, if_pos (Int32.le_refl _), nI_1, if_pos (inB_nI (by omega) (by omega)), nI_clamp (by omega), nL_I, hL.wd, hl, nL_mul, elet_eq]
theorem sl67_s {L : BX0} {S : Sy} (hL : LaySy L S) (k : BX0 → BX1 → Int32 → Option BX1) (v : BX1) (j : Nat) (hj : j < S.n) {l U V m : Int} (hl : p1_lower v = nL l) (hU : p1_uppers v j = nL U) (hV : p1_lowers v j = nL V) (V0 : 0 < V) (bV : inL V) (bl : inL l) (hm : l = V * m) :
    fX1_shareLower_67_b k L v (nI j) = k L (s1_spots v (vp_updL (p1_spots v) (j + 1) (nL (U * m)))) (nI (j + 1)) := by
  have n4 := hL.n4
  have e1 : ¬ nL V = 0 := fun h => by have := (nL_eq bV inL_0).mp h; omega
  have e2 : ¬ lg_cmp (nL V) 0 ≤ 0 := fun h => by have := (cmp_le0 bV inL_0).mp h; omega
  unfold fX1_shareLower_67_b fX1_shareLower_112
  rw [hL.pl, if_neg (nlec (by omega) (by omega)), if_pos (inB_nI (by omega) (by omega)), nI_clamp (by omega), hV, if_neg e2, if_pos (inB_nI (by omega) (by omega)), if_pos (inB_nI (by omega) (by omega)), if_neg e1, nI_1, if_pos (inB_nI (by omega) (by omega)), nI_clamp (by omega), hU, hl]
  rw [hm] at bl ⊢
  rw [nL_quot bl bV (by omega), nL_mul]
  rfl
theorem sl67_all {L : BX0} {S : Sy} (hL : LaySy L S) {l : Int} (bl : inL l) {U V m : Nat → Int} (hW : U S.n * m S.n = S.W * l) (hm : ∀ i, i < S.n → l = V i * m i) (V0 : ∀ i, i < S.n → 0 < V i ∧ inL (V i)) :
    ∀ (d j n : Nat) (v : BX1), j + d = S.n → p1_lower v = nL l → (∀ i, i < S.n → p1_uppers v i = nL (U i) ∧ p1_lowers v i = nL (V i)) → p1_spots v 0 = nL 0 → (∀ i, i < j → p1_spots v (i + 1) = nL (U i * m i)) →
    ∃ v', fX1_shareLower_67 (n + d + 1) L v (nI j) = some v' ∧ SB v v' ∧ p1_lower v' = nL l ∧ p1_spots v' 0 = nL 0 ∧ ∀ i, i ≤ S.n → p1_spots v' (i + 1) = nL (U i * m i) := by
  have n4 := hL.n4
  intro d
  induction d with
  | zero =>
    intro j n v hj hl hUV h0 hs
    have hj' : j = S.n := by omega
    subst hj'
    refine ⟨_, (congrFun (congrFun (congrFun (sl67_u (n + 0)) L) v) (nI S.n)).trans (sl67_end hL _ v hl), ⟨rfl, rfl⟩, hl, ?_, ?_⟩
    · show vp_updL (p1_spots v) (S.n + 1) (nL (S.W * l)) 0 = _
      rw [pk_uLn (by omega)]; exact h0
    · intro i hi
      show vp_updL (p1_spots v) (S.n + 1) (nL (S.W * l)) (i + 1) = _
      rcases Nat.eq_or_lt_of_le hi with rfl | hi
      · rw [pk_uLs, hW]
      · rw [pk_uLn (by omega)]; exact hs i hi
  | succ d ih =>
    intro j n v hj hl hUV h0 hs
    have hjn : j < S.n := by omega
    obtain ⟨a1, a2⟩ := hUV j hjn
    obtain ⟨v', q1, q2, q3, q4, q5⟩ := ih (j + 1) n (s1_spots v (vp_updL (p1_spots v) (j + 1) (nL (U j * m j)))) (by omega) hl hUV (by
      show vp_updL (p1_spots v) (j + 1) (nL (U j * m j)) 0 = _
      rw [pk_uLn (by omega)]; exact h0) (by
      intro i hi
      show vp_updL (p1_spots v) (j + 1) (nL (U j * m j)) (i + 1) = _
      rcases Nat.eq_or_lt_of_le (Nat.le_of_lt_succ hi) with rfl | hi
      · rw [pk_uLs]
      · rw [pk_uLn (by omega)]; exact hs i hi)
    refine ⟨v', ?_, q2, q3, q4, q5⟩
    rw [show n + (d + 1) + 1 = (n + d + 1) + 1 by omega, sl67_u, sl67_s hL _ v j hjn hl a1 a2 (V0 j hjn).1 (V0 j hjn).2 bl (hm j hjn)]
    exact q1
theorem sl7_end {L : BX0} {S : Sy} (hL : LaySy L S) (k : BX0 → BX1 → Int32 → Option BX1) (v : BX1) : fX1_shareLower_7_b k L v (nI S.n) = fX1_shareLower_67 FU L (s1_spots v (vp_updL (p1_spots v) 0 (nL 0))) (nI 0) := by
  unfold fX1_shareLower_7_b
  rw [hL.pl, if_pos (Int32.le_refl _), elet_eq]
  rfl
theorem sl7_s {L : BX0} {S : Sy} (hL : LaySy L S) (k : BX0 → BX1 → Int32 → Option BX1) (v : BX1) (j : Nat) (hj : j < S.n) {l V a g : Int} (hl : p1_lower v = nL l) (hV : p1_lowers v j = nL V) (bV : inL V) (bl : inL l) (bg : inL g) (g0 : 0 < g) (hg : g = ((Int.gcd l V : Nat) : Int)) (ha : l = g * a) :
    fX1_shareLower_7_b k L v (nI j) = k L (s1_lower v (nL (a * V))) (nI (j + 1)) := by
  have n4 := hL.n4
  have e1 : ¬ nL g = 0 := fun h => by have := (nL_eq bg inL_0).mp h; omega
  have e2 : ¬ lg_cmp (nL g) 0 ≤ 0 := fun h => by have := (cmp_le0 bg inL_0).mp h; omega
  unfold fX1_shareLower_7_b fX1_shareLower_52
  rw [hL.pl, if_neg (nlec (by omega) (by omega)), if_pos (inB_nI (by omega) (by omega)), nI_clamp (by omega), hV, hl, gd_v bl bV, Option.bind_some, ← hg, if_neg e2, if_neg e1, if_pos (inB_nI (by omega) (by omega))]
  rw [ha] at bl ⊢
  rw [nL_quot bl bg (by omega), nL_mul]
  simp only [elet_eq]
  rw [nI_1]
theorem sl7_all {L : BX0} {S : Sy} (hL : LaySy L S) {E : Int} (E0 : 0 < E) (E1 : E ≤ 104976) {U V : Nat → Int} (hW : U S.n = S.W) (hV1 : V S.n = 1) (V0 : ∀ i, i < S.n → 0 < V i ∧ V i ∣ E) :
    ∀ (d j n : Nat) (v : BX1) (l : Int), j + d = S.n → p1_lower v = nL l → 0 < l → l ∣ E → (∀ i, i < j → V i ∣ l) → (∀ i, i < S.n → p1_uppers v i = nL (U i) ∧ p1_lowers v i = nL (V i)) →
    ∃ (v' : BX1) (l' : Int) (u : Nat → Int), fX1_shareLower_7 (n + d + 1) L v (nI j) = some v' ∧ SB v v' ∧ p1_lower v' = nL l' ∧ 0 < l' ∧ l' ≤ 104976 ∧ u 0 = 0 ∧ (∀ i, i ≤ S.n + 1 → p1_spots v' i = nL (u i)) ∧ ∀ i, i ≤ S.n → u (i + 1) * V i = U i * l' := by
  have n4 := hL.n4
  have bE : ∀ z : Int, 0 < z → z ∣ E → inL z := fun z h1 h2 => by have := Int.le_of_dvd E0 h2; exact ⟨by omega, by omega⟩
  intro d
  induction d with
  | zero =>
    intro j n v l hj hl l0 lE hd hUV
    have hj' : j = S.n := by omega
    subst hj'
    have hmE : ∀ i, ∃ m : Int, i ≤ S.n → l = V i * m := by
      intro i
      by_cases h : i ≤ S.n
      · rcases Nat.eq_or_lt_of_le h with rfl | h
        · exact ⟨l, fun _ => by rw [hV1]; omega⟩
        · obtain ⟨m, hm⟩ := hd i h
          exact ⟨m, fun _ => hm⟩
      · exact ⟨0, fun q => absurd q h⟩
    obtain ⟨m, hm⟩ : ∃ m : Nat → Int, ∀ i, i ≤ S.n → l = V i * m i := ⟨fun i => (hmE i).choose, fun i => (hmE i).choose_spec⟩
    have hmn : m S.n = l := by have := hm S.n (Nat.le_refl _); rw [hV1] at this; omega
    obtain ⟨k, hk⟩ := FU_ex (S.n + 1) (by omega)
    obtain ⟨v', q1, q2, q3, q4, q5⟩ := sl67_all hL (bE l l0 lE) (U := U) (V := V) (m := m) (by rw [hmn, hW]) (fun i hi => hm i (by omega)) (fun i hi => ⟨(V0 i hi).1, bE _ (V0 i hi).1 (V0 i hi).2⟩) S.n 0 k (s1_spots v (vp_updL (p1_spots v) 0 (nL 0))) (by omega) hl hUV (show vp_updL (p1_spots v) 0 (nL 0) 0 = _ by rw [pk_uLs]) (fun i hi => absurd hi (by omega))
    refine ⟨v', l, fun i => match i with | 0 => 0 | i + 1 => U i * m i, ?_, q2, q3, l0, Int.le_trans (Int.le_of_dvd E0 lE) E1, rfl, ?_, ?_⟩
    · rw [sl7_u, sl7_end hL, hk, show k + (S.n + 1) = k + S.n + 1 by omega]
      exact q1
    · intro i hi
      match i with
      | 0 => exact q4
      | i + 1 => exact q5 i (by omega)
    · intro i hi
      show U i * m i * V i = U i * l
      rw [hm i hi]
      grind
  | succ d ih =>
    intro j n v l hj hl l0 lE hd hUV
    have hjn : j < S.n := by omega
    obtain ⟨Vj0, VjE⟩ := V0 j hjn
    obtain ⟨a, b, e1, e2, e3, e4, e5⟩ := gcd_split (PU := l) Vj0
    obtain ⟨g, hg⟩ : ∃ g, g = ((Int.gcd l (V j) : Nat) : Int) := ⟨_, rfl⟩
    rw [← hg] at e1 e2
    have g0 : 0 < g := by omega
    have a0 : 0 < a := by
      rcases Int.lt_or_le 0 a with q | q
      · exact q
      · have := Int.mul_le_mul_of_nonneg_left q (Int.le_of_lt g0); omega
    have gE : g ∣ E := Int.dvd_trans ⟨b, e2⟩ VjE
    have key : a * V j ∣ E := by
      obtain ⟨x, hx⟩ := lE
      obtain ⟨y, hy⟩ := VjE
      have h1 : a * x = b * y := by
        have : g * (a * x - b * y) = 0 := by grind
        rcases Int.mul_eq_zero.mp this with z | z <;> omega
      have h2 : b ∣ x * a := ⟨y, by rw [← h1]; exact Int.mul_comm _ _⟩
      have h3 := Int.dvd_mul_gcd_iff_dvd_mul.mpr h2
      rw [Int.gcd_comm, e4] at h3
      obtain ⟨z, hz⟩ : b ∣ x := by simpa using h3
      exact ⟨z, by rw [hx, hz, e1, e2]; grind⟩
    obtain ⟨v', l', u, q1, q2, q3, q4, q5, q6, q7, q8⟩ := ih (j + 1) n (s1_lower v (nL (a * V j))) (a * V j) (by omega) rfl (Int.mul_pos a0 Vj0) key (by
      intro i hi
      rcases Nat.eq_or_lt_of_le (Nat.le_of_lt_succ hi) with rfl | hi
      · exact ⟨a, Int.mul_comm _ _⟩
      · refine Int.dvd_trans (hd i hi) ⟨b, ?_⟩
        rw [e1]
        have : a * (g * b) = g * a * b := by grind
        rw [← this, ← e2]) hUV
    refine ⟨v', l', u, ?_, q2, q3, q4, q5, q6, q7, q8⟩
    rw [show n + (d + 1) + 1 = (n + d + 1) + 1 by omega, sl7_u, sl7_s hL _ v j hjn hl (hUV j hjn).2 (bE _ Vj0 VjE) (bE l l0 lE) (bE g g0 gE) g0 hg e1]
    exact q1
theorem share_ok {L : BX0} {S : Sy} (hL : LaySy L S) {E : Int} (E0 : 0 < E) (E1 : E ≤ 104976) {C Sl D U V : Nat → Int} (v : BX1) (hB : BndQ S v) (hF : FP S E C Sl D v U V 0) :
    ∃ (v' : BX1) (l : Int) (u : Nat → Int), fX1_shareLower L v = some v' ∧ SB v v' ∧ p1_lower v' = nL l ∧ l ≤ 104976 ∧ (∀ i, i ≤ S.n + 1 → p1_spots v' i = nL (u i)) ∧ RowIn S u l ∧ ∀ i, i ≤ S.n → u (i + 1) * V i = U i * l := by
  have n4 := hL.n4
  obtain ⟨f1, f2, f3⟩ := id hF
  obtain ⟨k, hk⟩ := FU_ex (S.n + 1) (by omega)
  obtain ⟨v', l, u, q1, q2, q3, q4, q5, q6, q7, q8⟩ := sl7_all hL E0 E1 f1 f2 (fun i hi => ⟨(f3 i (by omega) hi).2.1.1, (f3 i (by omega) hi).2.1.2.2⟩) S.n 0 k (s1_lower v (nL 1)) 1 (by omega) rfl (by decide) (Int.one_dvd _) (fun i hi => absurd hi (by omega)) (fun i hi => (f3 i (by omega) hi).1)
  have Vp : ∀ i, i ≤ S.n → 0 < V i := by
    intro i hi
    rcases Nat.eq_or_lt_of_le hi with rfl | hi
    · rw [f2]; decide
    · exact (f3 i (by omega) hi).2.1.1
  have lo' : ∀ p, p < S.n → S.lo p * l ≤ u (p + 1) := by
    intro p hp
    obtain ⟨-, -, -, -, g5, -⟩ := f3 p (by omega) hp
    have v0 := Vp p (by omega)
    have a1 := Int.mul_le_mul_of_nonneg_right (hB.l2 p hp p (Nat.le_refl _)) (Int.le_of_lt v0)
    have a2 := Int.mul_le_mul_of_nonneg_right (Int.le_trans a1 g5.1) (Int.le_of_lt q4)
    rw [← q8 p (by omega)] at a2
    exact Int.le_of_mul_le_mul_right (by rw [Int.mul_right_comm]; exact a2) v0
  have mono' : ∀ p, p < S.n → u (p + 1) ≤ u (p + 2) := by
    intro p hp
    obtain ⟨-, -, -, -, -, g6⟩ := f3 p (by omega) hp
    have v0 := Vp p (by omega)
    have v1 := Vp (p + 1) (by omega)
    have a2 := Int.mul_le_mul_of_nonneg_right g6 (Int.le_of_lt q4)
    have b1 := q8 p (by omega)
    have b2 : u (p + 2) * V (p + 1) = U (p + 1) * l := q8 (p + 1) (by omega)
    have c1 : U p * V (p + 1) * l = u (p + 1) * (V p * V (p + 1)) := by
      rw [Int.mul_right_comm, ← b1, Int.mul_assoc]
    have c2 : U (p + 1) * V p * l = u (p + 2) * (V p * V (p + 1)) := by
      rw [Int.mul_right_comm, ← b2, Int.mul_assoc, Int.mul_comm (V (p + 1))]
    rw [c1, c2] at a2
    exact Int.le_of_mul_le_mul_right a2 (Int.mul_pos v0 v1)
  have uw : u (S.n + 1) = S.W * l := by
    have := q8 S.n (Nat.le_refl _)
    rw [f1, f2, Int.mul_one] at this
    exact this
  refine ⟨v', l, u, ?_, q2, q3, q5, q7, ⟨q4, q6, uw, lo', ?_, ?_⟩, q8⟩
  · unfold fX1_shareLower
    rw [elet_eq, hk, show k + (S.n + 1) = k + S.n + 1 by omega]
    exact q1
  · intro p hp
    obtain ⟨-, -, -, -, g5, -⟩ := f3 p (by omega) hp
    have v0 := Vp p (by omega)
    have a1 := Int.mul_le_mul_of_nonneg_right (hB.h2 p hp p (Nat.le_refl _) hp) (Int.le_of_lt v0)
    have a2 := Int.mul_le_mul_of_nonneg_right (Int.le_trans g5.2 a1) (Int.le_of_lt q4)
    rw [← q8 p (by omega)] at a2
    refine Int.le_of_mul_le_mul_right ?_ v0
    rw [Int.mul_right_comm (S.hi p) l]; exact a2
  · intro p hp
    match p with
    | 0 =>
      rw [q6]
      rcases Nat.eq_zero_or_pos S.n with e | e
      · rw [e] at uw
        rw [uw]
        exact Int.mul_nonneg (by have := hL.W0; omega) (Int.le_of_lt q4)
      · have := lo' 0 e
        have := Int.mul_nonneg (hL.lo0 0 e) (Int.le_of_lt q4)
        omega
    | p + 1 => exact mono' p (by omega)
