/-! sets of plates -/
theorem hom_eq {a b l m : Int} (l0 : 0 < l) (m0 : 0 < m) (e : m * a = l * b) (x : Int) : a = x * l ↔ b = x * m := by
  constructor
  · intro h
    have : l * (b - x * m) = 0 := by grind
    rcases Int.mul_eq_zero.mp this with z | z <;> omega
  · intro h
    have : m * (a - x * l) = 0 := by grind
    rcases Int.mul_eq_zero.mp this with z | z <;> omega
theorem hom_eq2 {a b c d l m : Int} (l0 : 0 < l) (m0 : 0 < m) (e : m * a = l * b) (e2 : m * c = l * d) : a = c ↔ b = d := by
  constructor
  · intro h
    have : l * (b - d) = 0 := by grind
    rcases Int.mul_eq_zero.mp this with z | z <;> omega
  · intro h
    have : m * (a - c) = 0 := by grind
    rcases Int.mul_eq_zero.mp this with z | z <;> omega
def bI (c : Prop) [Decidable c] : Int32 := if c then 1 else 0
theorem bI_b (c : Prop) [Decidable c] : zB (bI c) = true := by unfold bI; split <;> rfl
theorem bI_0 (c : Prop) [Decidable c] : (if bI c = 0 then (some (0 : Int32)) else some 1) = some (bI c) := by
  unfold bI; split
  · rw [if_neg (by decide)]
  · rw [if_pos rfl]
theorem bI_iff {c d : Prop} [Decidable c] [Decidable d] (h : c ↔ d) : bI c = bI d := by
  unfold bI
  by_cases q : c
  · rw [if_pos q, if_pos (h.mp q)]
  · rw [if_neg q, if_neg (fun z => q (h.mpr z))]
theorem among_v {s : Nat → Int32} {L : BX0} (hL : LayEq L s) (hG : Good s) {R : BX1} {M' : BX4} {u v : Nat → Int} {l m : Int} (s2 : SpQ (syO s) R u l) (s3 : RestT (syO s) u l) (s4 : l ≤ 104976) (hM : p4_s M' = s) (r3 : UpQ (syO s) M' v m) (r4 : RestT (syO s) v m) (r5 : m ≤ 104976) (eq : ∀ p, p ≤ (syO s).n + 1 → m * u p = l * v p) (vX : BX3) (p : Nat) (hp : p < (syO s).n) (what : Int32) :
    ∃ b, (b = 0 ∨ b = 1) ∧ fX3_isAmong vX L R (nI p) what = some b ∧ fX4_isSo M' (nI p) what = some b := by
  have hS := gdS_of hG
  have hLS := laySy_of hL hG
  have n4 := hS.n4
  have W0 := hS.W0
  have W1 := hS.W1
  have l0 := s3.pos
  have m0 := r4.pos
  have hu : ∀ i, i ≤ (syO s).n + 1 → inL (u i) := fun i hi => row_inL hS s3.toRowIn s4 i hi
  have hvv : ∀ i, i ≤ (syO s).n + 1 → inL (v i) := fun i hi => row_inL hS r4.toRowIn r5 i hi
  obtain ⟨w, p', g1, g2, g3, g4, g5, g6, g7, g8⟩ := id hG
  have hn : (syO s).n = p' := syO_p g2 g5
  have e1 := eq (p + 1) (by omega)
  have k4 : inB (nI p) 4 = true := inB_nI (by omega) (by omega)
  have kc : (nI p).toNatClampNeg = p := nI_clamp (by omega)
  have rv : p4_upper M' p = nL (v (p + 1)) := r3.2.1 p hp
  have ml : ∀ x : Int, -1 ≤ x → x ≤ 99 → inL (x * m) := by
    intro x h1 h2
    have a1 : x * m ≤ 99 * m := Int.mul_le_mul_of_nonneg_right h2 (by omega)
    have a2 : (-1) * m ≤ x * m := Int.mul_le_mul_of_nonneg_right h1 (by omega)
    exact ⟨by omega, by omega⟩
  have atStop : ∀ c, c < 2 → ∃ b, (b = 0 ∨ b = 1) ∧ fX3_isAtStop vX L R (nI p) (nI c) = some b ∧
      (if inB (nI (16 + 4 * c + p)) 24 = true then (if (p4_s M' (nI (16 + 4 * c + p)).toNatClampNeg) < 0 then (some 0) else (if inB (nI p) 4 = true then (if inB (nI (16 + 4 * c + p)) 24 = true then (if (lg_cmp ((p4_upper M') (nI p).toNatClampNeg) ((((p4_s M') ((nI (16 + 4 * c + p))).toNatClampNeg)).toInt64 * (p4_lower M'))) = 0 then (some 1) else (some 0)) else none) else none)) else none) = some b := by
    intro c hc
    have b0 : -1 ≤ (s (16 + 4 * c + p)).toInt ∧ (s (16 + 4 * c + p)).toInt ≤ w := by
      obtain ⟨-, x1, x2⟩ := g7 p (by omega)
      rcases (show c = 0 ∨ c = 1 by omega) with rfl | rfl
      · exact x1
      · exact x2
    have st := stopOf_v L p c (by omega) hc
    rw [stops_c hL p c (by omega) hc] at st
    have i16 : inB (nI (16 + 4 * c + p)) 24 = true := inB_nI (by omega) (by omega)
    have c16 : (nI (16 + 4 * c + p)).toNatClampNeg = 16 + 4 * c + p := nI_clamp (by omega)
    unfold fX3_isAtStop
    rw [st, Option.bind_some, if_pos i16, c16, hM]
    by_cases q : s (16 + 4 * c + p) < 0
    · rw [if_pos ((neg1 b0.1).mp q), if_pos q]
      exact ⟨0, Or.inl rfl, rfl, rfl⟩
    · rw [if_neg (fun z => q ((neg1 b0.1).mpr z)), if_neg q, if_pos k4, if_pos i16, isAt_v hLS s2 hu ⟨by omega, s4⟩ p hp _ (by omega), Option.bind_some, kc, rv, r3.1, nL_I, nL_mul]
      have i1 := ml _ b0.1 (by omega)
      by_cases q2 : u (p + 1) = (s (16 + 4 * c + p)).toInt * l
      · rw [if_pos q2, if_neg (by decide), if_pos ((cmp_e0 (hvv _ (by omega)) i1).mpr ((hom_eq l0 m0 e1 _).mp q2))]
        exact ⟨1, Or.inr rfl, rfl, rfl⟩
      · rw [if_neg q2, if_pos rfl, if_neg (fun z => q2 ((hom_eq l0 m0 e1 _).mpr ((cmp_e0 (hvv _ (by omega)) i1).mp z)))]
        exact ⟨0, Or.inl rfl, rfl, rfl⟩
  have bz : ∀ b : Int32, (b = 0 ∨ b = 1) → (if zB b = true then some b else none) = some b := by
    intro b hb; rcases hb with rfl | rfl <;> rfl
  unfold fX3_isAmong fX4_isSo
  by_cases w0 : what = 0
  · obtain ⟨b, b1, b2, b3⟩ := atStop 0 (by omega)
    rw [if_pos w0, if_pos w0]
    refine ⟨b, b1, ?_, ?_⟩
    · show (fX3_isAtStop vX L R (nI p) (nI 0)).bind _ = _
      rw [b2, Option.bind_some, bz b b1]
    · rw [show (16 : Int32) + nI p = nI (16 + 4 * 0 + p) from nI_add 16 p]
      exact b3
  by_cases w1 : what = 1
  · obtain ⟨b, b1, b2, b3⟩ := atStop 1 (by omega)
    rw [if_neg w0, if_neg w0, if_pos w1, if_pos w1]
    refine ⟨b, b1, ?_, ?_⟩
    · show (fX3_isAtStop vX L R (nI p) (nI 1)).bind _ = _
      rw [b2, Option.bind_some, bz b b1]
    · rw [show (20 : Int32) + nI p = nI (16 + 4 * 1 + p) from nI_add 20 p]
      exact b3
  by_cases w2 : what = 2
  · rw [if_neg w0, if_neg w0, if_neg w1, if_neg w1, if_pos w2, if_pos w2, cl1, hM, hS.s1, hLS.pl, nI_1]
    by_cases q : (syO s).n ≤ p + 1
    · rw [if_pos (lec q (by omega)), if_pos (lec q (by omega))]
      exact ⟨0, Or.inl rfl, rfl, rfl⟩
    · have e2 := eq (p + 2) (by omega)
      rw [if_neg (nlec (by omega) (by omega)), if_neg (nlec (by omega) (by omega)), touches_v hLS s2 hu p hp, Option.bind_some, if_pos k4, if_pos (inB_nI (by omega) (by omega)), kc, nI_clamp (by omega), rv, r3.2.1 (p + 1) (by omega)]
      have hh := hom_eq2 l0 m0 e1 e2
      by_cases q2 : u (p + 1) = u (p + 2)
      · rw [if_pos q2, if_neg (by decide), if_pos ((cmp_e0 (hvv _ (by omega)) (hvv _ (by omega))).mpr (hh.mp q2))]
        exact ⟨1, Or.inr rfl, rfl, rfl⟩
      · rw [if_neg q2, if_pos rfl, if_neg (fun z => q2 (hh.mpr ((cmp_e0 (hvv _ (by omega)) (hvv _ (by omega))).mp z)))]
        exact ⟨0, Or.inl rfl, rfl, rfl⟩
  by_cases w3 : what = 3
  · rw [if_neg w0, if_neg w0, if_neg w1, if_neg w1, if_neg w2, if_neg w2, if_pos w3, if_pos w3]
    have a0 := isAt_v hLS s2 hu ⟨by omega, s4⟩ p hp 0 (by decide)
    have aW := isAt_v hLS s2 hu ⟨by omega, s4⟩ p hp (p0_width L) (by rw [hLS.wd]; omega)
    have z : (0 : Int32).toInt = 0 := rfl
    rw [z, Int.zero_mul] at a0
    rw [hLS.wd] at aW
    rw [a0, aW, Option.bind_some, Option.bind_some, if_pos k4, kc, rv, hM, cl0, nL_I, hS.s0, r3.1, nL_mul]
    have h0 := hom_eq l0 m0 e1 0
    rw [Int.zero_mul, Int.zero_mul] at h0
    have hW := hom_eq l0 m0 e1 (syO s).W
    unfold fX3_isAmong_99 fX4_isSo_187
    by_cases q0 : u (p + 1) = 0
    · rw [if_pos q0, if_neg (by decide), if_pos (show lg_cmp (nL (v (p + 1))) 0 = 0 from (cmp_e0 (hvv _ (by omega)) inL_0).mpr (h0.mp q0))]
      exact ⟨1, Or.inr rfl, rfl, rfl⟩
    · rw [if_neg q0, if_pos rfl, if_neg (show ¬ lg_cmp (nL (v (p + 1))) 0 = 0 from fun z => q0 (h0.mpr ((cmp_e0 (hvv _ (by omega)) inL_0).mp z))), if_pos k4]
      have i1 := ml (syO s).W (by omega) (by omega)
      by_cases qW : u (p + 1) = (syO s).W * l
      · rw [if_pos qW, if_neg (by decide), if_pos ((cmp_e0 (hvv _ (by omega)) i1).mpr (hW.mp qW))]
        exact ⟨1, Or.inr rfl, rfl, rfl⟩
      · rw [if_neg qW, if_pos rfl, if_neg (fun z => qW (hW.mpr ((cmp_e0 (hvv _ (by omega)) i1).mp z)))]
        exact ⟨0, Or.inl rfl, rfl, rfl⟩
  · rw [if_neg w0, if_neg w0, if_neg w1, if_neg w1, if_neg w2, if_neg w2, if_neg w3, if_neg w3, forceOn_v hLS s2 p p (Nat.le_refl _) hp, Option.bind_some, force_v hS hM r3 p hp, Option.bind_some]
    have f1 := gS_eq eq p (by omega)
    have f2 := gS_eq eq (p + 1) (by omega)
    have b1 := gS_bd4 hS s3.toRowIn s4 p (by omega)
    have b2 := gS_bd4 hS s3.toRowIn s4 (p + 1) (by omega)
    have b3 := gS_bd4 hS r4.toRowIn r5 p (by omega)
    have b4 := gS_bd4 hS r4.toRowIn r5 (p + 1) (by omega)
    have hh := hom_eq2 l0 m0 f2 f1
    have j1 : inL (gS (syO s) u l (p + 1) - gS (syO s) u l p) := ⟨by omega, by omega⟩
    have j2 : inL (gS (syO s) v m (p + 1) - gS (syO s) v m p) := ⟨by omega, by omega⟩
    by_cases q : gS (syO s) u l (p + 1) = gS (syO s) u l p
    · have q' := hh.mp q
      rw [if_pos (show lg_cmp _ 0 = 0 from (cmp_e0 j1 inL_0).mpr (by omega)), if_pos (show lg_cmp _ 0 = 0 from (cmp_e0 j2 inL_0).mpr (by omega))]
      exact ⟨0, Or.inl rfl, rfl, rfl⟩
    · have q' : ¬ gS (syO s) v m (p + 1) = gS (syO s) v m p := fun z => q (hh.mpr z)
      rw [if_neg (show ¬ lg_cmp _ 0 = 0 from fun z => by have := (cmp_e0 j1 inL_0).mp z; omega), if_neg (show ¬ lg_cmp _ 0 = 0 from fun z => by have := (cmp_e0 j2 inL_0).mp z; omega)]
      exact ⟨1, Or.inr rfl, rfl, rfl⟩
theorem p22_u (k : Nat) : fX3_plates_22 (k + 1) = fX3_plates_22_b (fX3_plates_22 k) := rfl
theorem p20_u (k : Nat) : fX4_plates_20 (k + 1) = fX4_plates_20_b (fX4_plates_20 k) := rfl
theorem plates_all {s : Nat → Int32} {L : BX0} (hL : LayEq L s) (hG : Good s) {R : BX1} {M' : BX4} {u v : Nat → Int} {l m : Int} (s2 : SpQ (syO s) R u l) (s3 : RestT (syO s) u l) (s4 : l ≤ 104976) (hM : p4_s M' = s) (r3 : UpQ (syO s) M' v m) (r4 : RestT (syO s) v m) (r5 : m ≤ 104976) (eq : ∀ p, p ≤ (syO s).n + 1 → m * u p = l * v p) (vX : BX3) (what : Int32) :
    ∀ (d p n : Nat) (acc : Int32), p + d = (syO s).n → ∃ a, fX3_plates_22 (n + d + 1) vX L R what acc (nI p) = some (a, vX, R) ∧ fX4_plates_20 (n + d + 1) M' what acc (nI p) = some (a, M') := by
  have hS := gdS_of hG
  have hLS := laySy_of hL hG
  have n4 := hS.n4
  intro d
  induction d with
  | zero =>
    intro p n acc hp
    obtain rfl : p = (syO s).n := by omega
    refine ⟨acc, ?_, ?_⟩
    · rw [p22_u]
      unfold fX3_plates_22_b
      rw [hLS.pl, if_pos (Int32.le_refl _)]
    · rw [p20_u]
      unfold fX4_plates_20_b
      rw [cl1, hM, hS.s1, if_pos (Int32.le_refl _)]
  | succ d ih =>
    intro p n acc hp
    obtain ⟨b, b1, b2, b3⟩ := among_v hL hG s2 s3 s4 hM r3 r4 r5 eq vX p (by omega) what
    rw [show n + (d + 1) + 1 = (n + d + 1) + 1 by omega, p22_u, p20_u]
    unfold fX3_plates_22_b fX4_plates_20_b fX3_plates_52 fX4_plates_47
    rw [hLS.pl, if_neg (nlec (by omega) (by omega)), b2, Option.bind_some, cl1, hM, hS.s1, if_neg (nlec (by omega) (by omega)), b3, Option.bind_some]
    simp only [elet_eq, nI_1]
    rcases b1 with rfl | rfl
    · rw [if_pos rfl, if_pos rfl, Int32.or_zero]
      exact ih (p + 1) n acc (by omega)
    · rw [if_neg (by decide), if_neg (by decide)]
      exact ih (p + 1) n _ (by omega)
theorem St_plates0 : St_plates Sim0 := by
  intro vX n pv vA vB vR vT vS vM i1 h
  have hS := gdS_of h.2.1
  have n4 := hS.n4
  by_cases c1 : i1 < 0
  · refine ⟨(-1000001, vX, vR), (-1000001, vM), ?_, ?_, rfl, h⟩
    · unfold fX3_plates; rw [if_pos c1]
    · unfold fX4_plates; rw [in4_v, if_pos c1, Option.bind_some, if_pos rfl]
  by_cases c2 : 4 < i1
  · refine ⟨(-1000001, vX, vR), (-1000001, vM), ?_, ?_, rfl, h⟩
    · unfold fX3_plates; rw [if_neg c1, if_neg (Int32.not_le.mpr c2)]
    · unfold fX4_plates; rw [in4_v, if_neg c1, if_pos c2, Option.bind_some, if_pos rfl]
  obtain ⟨X', R, u, l, M', v, m, s1, s2, s3, s4, r1, r2, r3, r4, r5, eq, sim⟩ := both_ok h
  obtain ⟨k, hk⟩ := FU_ex ((syO (p4_s vM)).n + 1) (by omega)
  obtain ⟨a, a1, a2⟩ := plates_all h.1 h.2.1 s2 s3 s4 (rz_s r2) r3 r4 r5 eq X' i1 (syO (p4_s vM)).n 0 k 0 (by omega)
  rw [show k + (syO (p4_s vM)).n + 1 = FU by omega] at a1 a2
  refine ⟨(a, X', R), (a, M'), ?_, ?_, rfl, sim M' _ _ r2⟩
  · unfold fX3_plates; rw [if_neg c1, if_pos (Int32.not_lt.mp c2), s1, Option.bind_some]; exact a1
  · unfold fX4_plates; rw [in4_v, if_neg c1, if_neg c2, Option.bind_some, if_neg (by decide), r1, Option.bind_some]; exact a2
