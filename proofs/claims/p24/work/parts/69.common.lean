/-! the law lays the places over one lower part -/
theorem lcm_step {D v l : Nat} (hD : 0 < D) (hDl : D ∣ l) (hv : 0 < v) (hvl : v ∣ l) : 0 < D / Nat.gcd D v * v ∧ D / Nat.gcd D v * v ∣ l ∧ v ∣ D / Nat.gcd D v * v ∧ D ∣ D / Nat.gcd D v * v ∧ D = Nat.gcd D v * (D / Nat.gcd D v) ∧ 0 < Nat.gcd D v := by
  have g0 : 0 < Nat.gcd D v := Nat.gcd_pos_of_pos_left v hD
  have e1 : D = Nat.gcd D v * (D / Nat.gcd D v) := (Nat.mul_div_cancel' (Nat.gcd_dvd_left D v)).symm
  have el : Nat.lcm D v = D / Nat.gcd D v * v := by
    have e2 : D * v = Nat.gcd D v * (D / Nat.gcd D v * v) := by
      rw [← Nat.mul_assoc, ← e1]
    show D * v / Nat.gcd D v = _
    rw [e2]
    exact Nat.mul_div_cancel_left _ g0
  refine ⟨?_, ?_, ⟨_, Nat.mul_comm _ _⟩, ?_, e1, g0⟩
  · rw [← el]; exact Nat.lcm_pos hD hv
  · rw [← el]; exact Nat.lcm_dvd hDl hvl
  · rw [← el]; exact Nat.dvd_lcm_left D v
section CM
variable {p l : Nat} {a v : Nat → Nat} {vp vw : Nat → Int64}
theorem com98 (hp4 : p ≤ 4) (hl : l ≤ 104976) (hl0 : 0 < l) (hvp : ∀ j, j < p → vp j = nL (a j)) (hvw : ∀ j, j < p → vw j = nL (v j)) (hv : ∀ j, j < p → 0 < v j) (D : Nat) (hDl : D ∣ l) (hD0 : 0 < D) (hvD : ∀ j, j < p → v j ∣ D) : ∀ d j, j + d = p → ∀ (m : Nat) (vu : Nat → Int64), (∀ i, i < j → vu i = nL ((a i * (D / v i) : Nat) : Int)) → ∃ vu', fL_common_98 (m + d + 1) vu vp vw (nI p) (nL D) 1 (nI j) = some (nL D, vu') ∧ ∀ i, i < p → vu' i = nL ((a i * (D / v i) : Nat) : Int) := by
  intro d
  induction d with
  | zero =>
    intro j hj m vu hu
    obtain rfl : j = p := by omega
    refine ⟨vu, ?_, hu⟩
    show fL_common_98_b (fL_common_98 (m + 0)) vu vp vw (nI j) (nL D) 1 (nI j) = _
    unfold fL_common_98_b
    rw [if_pos (Int32.le_refl _), if_neg (by decide)]
  | succ d ih =>
    intro j hj m vu hu
    have hjp : j < p := by omega
    have hD9 : D ≤ l := Nat.le_of_dvd hl0 hDl
    obtain ⟨w, hw⟩ := hvD j hjp
    have hv0 := hv j hjp
    have ew : D / v j = w := by rw [hw]; exact Nat.mul_div_cancel_left w hv0
    have v9 : v j ≤ D := Nat.le_of_dvd hD0 (hvD j hjp)
    have hq : nL D / nL (v j) = nL ((D / v j : Nat) : Int) := by
      rw [ew]
      have : ((D : Nat) : Int) = (v j : Int) * (w : Int) := by rw [hw]; push_cast; rfl
      rw [this]
      exact nL_quot (b := (v j : Int)) (c := (w : Int)) (by rw [← this]; exact ⟨by omega, by omega⟩) ⟨by omega, by omega⟩ (by omega)
    obtain ⟨vu', r1, r2⟩ := ih (j + 1) (by omega) m (vp_updL vu j (nL ((a j * (D / v j) : Nat) : Int))) (fun i hi => by
      by_cases e : i = j
      · subst e; rw [pk_uLs]
      · rw [pk_uLn e]; exact hu i (by omega))
    refine ⟨vu', ?_, r2⟩
    rw [← r1]
    show fL_common_98_b (fL_common_98 (m + d + 1)) vu vp vw (nI p) (nL D) 1 (nI j) = _
    unfold fL_common_98_b
    rw [if_neg (nlec (by omega) (by omega)), if_neg (by decide), if_pos (inB_nI (by omega) (by omega)), if_pos (inB_nI (by omega) (by omega)), nI_clamp (by omega), hvw j hjp, if_neg (fun q => by have := (nL_eq (a := (v j : Int)) ⟨by omega, by omega⟩ inL_0).mp q; omega), if_pos (inB_nI (by omega) (by omega)), elet_eq, elet_eq, nI_1, hvp j hjp, hq, nL_mul]
    push_cast
    rfl
theorem com9 (hp4 : p ≤ 4) (hl : l ≤ 104976) (hl0 : 0 < l) (hvp : ∀ j, j < p → vp j = nL (a j)) (hvw : ∀ j, j < p → vw j = nL (v j)) (hv : ∀ j, j < p → 0 < v j) (ha : ∀ j, j < p → a j < 2 ^ 62) (hvl : ∀ j, j < p → v j ∣ l) (hg : ∀ j, j < p → Nat.gcd (a j) (v j) = 1) : ∀ d j, j + d = p → ∀ (m : Nat) (vu : Nat → Int64) (D : Nat), 0 < D → D ∣ l → (∀ i, i < j → v i ∣ D) → ∃ D' vu', fL_common_9 (m + d + 1) vu vp vw (nI p) (nL D) 1 (nI j) = some (nL ((D' : Nat) : Int), vu') ∧ 0 < D' ∧ D' ∣ l ∧ ∀ i, i < p → v i ∣ D' ∧ vu' i = nL ((a i * (D' / v i) : Nat) : Int) := by
  intro d
  induction d with
  | zero =>
    intro j hj m vu D hD0 hDl hvD
    obtain rfl : j = p := by omega
    obtain ⟨m2, hm⟩ := FU_ex (j + 1) (by omega)
    obtain ⟨vu', r1, r2⟩ := com98 hp4 hl hl0 hvp hvw hv D hDl hD0 hvD j 0 (by omega) m2 vu (fun i hi => absurd hi (by omega))
    refine ⟨D, vu', ?_, hD0, hDl, fun i hi => ⟨hvD i hi, r2 i hi⟩⟩
    rw [← r1]
    have hm' : FU = m2 + j + 1 := hm
    rw [← hm']
    show fL_common_9_b (fL_common_9 (m + 0)) vu vp vw (nI j) (nL D) 1 (nI j) = _
    unfold fL_common_9_b
    rw [if_pos (Int32.le_refl _)]
    rfl
  | succ d ih =>
    intro j hj m vu D hD0 hDl hvD
    have hjp : j < p := by omega
    have hD9 : D ≤ l := Nat.le_of_dvd hl0 hDl
    have v0 := hv j hjp
    have v9 : v j ≤ l := Nat.le_of_dvd hl0 (hvl j hjp)
    have a9 := ha j hjp
    obtain ⟨s1, s2, s3, s4, s5, s6⟩ := lcm_step hD0 hDl v0 (hvl j hjp)
    obtain ⟨D', vu', r1, r2, r3, r4⟩ := ih (j + 1) (by omega) m vu (D / Nat.gcd D (v j) * v j) s1 s2 (fun i hi => by
      by_cases e : i = j
      · subst e; exact s3
      · exact Nat.dvd_trans (hvD i (by omega)) s4)
    refine ⟨D', vu', ?_, r2, r3, r4⟩
    rw [← r1]
    have iv : inL (v j : Int) := ⟨by omega, by omega⟩
    have ia : inL (a j : Int) := ⟨by omega, by omega⟩
    have g9 : Nat.gcd D (v j) ≤ D := Nat.gcd_le_left _ hD0
    have ig : inL ((Nat.gcd D (v j) : Nat) : Int) := ⟨by omega, by omega⟩
    have hq : nL (D : Int) / nL ((Nat.gcd D (v j) : Nat) : Int) = nL ((D / Nat.gcd D (v j) : Nat) : Int) := by
      generalize hG : Nat.gcd D (v j) = G at *
      generalize hQ : D / G = Q at *
      have : ((D : Nat) : Int) = (G : Int) * (Q : Int) := by rw [s5]; push_cast; rfl
      rw [this]
      exact nL_quot (b := (G : Int)) (c := (Q : Int)) (by rw [← this]; exact ⟨by omega, by omega⟩) ig (by omega)
    show fL_common_9_b (fL_common_9 (m + d + 1)) vu vp vw (nI p) (nL D) 1 (nI j) = _
    unfold fL_common_9_b fL_common_59 fL_common_87
    rw [if_neg (nlec (by omega) (by omega)), if_neg (by decide), if_pos (inB_nI (by omega) (by omega)), nI_clamp (by omega), hvw j hjp, hvp j hjp]
    rw [if_neg (show ¬ lg_cmp (nL (v j : Int)) 0 ≤ 0 from fun q => by have := (cmp_le0 iv inL_0).mp q; omega), if_pos (inB_nI (by omega) (by omega))]
    rw [if_neg (show ¬ lg_cmp (nL (a j : Int)) 0 < 0 from fun q => by have := (cmp_l0 ia inL_0).mp q; omega), if_pos (inB_nI (by omega) (by omega)), if_pos (inB_nI (by omega) (by omega)), dvL_v (a j) (v j) (by omega) (by omega), Option.bind_some, hg j hjp]
    rw [if_pos (show lg_cmp (nL ((1 : Nat) : Int)) 1 = 0 from (cmp_e0 inL_1 inL_1).mpr rfl), if_neg (by decide), if_pos (inB_nI (by omega) (by omega)), dvL_v D (v j) (by omega) (by omega), Option.bind_some]
    rw [if_neg (fun q => by have := (nL_eq ig inL_0).mp q; omega), if_pos (inB_nI (by omega) (by omega)), elet_eq, nI_1, hq, nL_mul]
    push_cast
    rfl
theorem common_v (hp4 : p ≤ 4) (hl : l ≤ 104976) (hl0 : 0 < l) (hvp : ∀ j, j < p → vp j = nL (a j)) (hvw : ∀ j, j < p → vw j = nL (v j)) (hv : ∀ j, j < p → 0 < v j) (ha : ∀ j, j < p → a j < 2 ^ 62) (hvl : ∀ j, j < p → v j ∣ l) (hg : ∀ j, j < p → Nat.gcd (a j) (v j) = 1) (vu : Nat → Int64) : ∃ (D' : Nat) (vu' : Nat → Int64), fL_common vu vp vw (nI p) = some (nL (D' : Int), vu') ∧ 0 < D' ∧ D' ∣ l ∧ ∀ i, i < p → v i ∣ D' ∧ vu' i = nL ((a i * (D' / v i) : Nat) : Int) := by
  obtain ⟨m, hm⟩ := FU_ex (p + 1) (by omega)
  obtain ⟨D', vu', r1, r2⟩ := com9 hp4 hl hl0 hvp hvw hv ha hvl hg p 0 (by omega) m vu 1 (by omega) ⟨l, (Nat.one_mul l).symm⟩ (fun i hi => absurd hi (by omega))
  refine ⟨D', vu', ?_, r2⟩
  rw [← r1]
  have hm' : FU = m + p + 1 := hm
  rw [← hm']
  rfl
end CM
theorem lw_n {a l : Int} (a0 : 0 ≤ a) (l0 : 0 < l) : ∃ A V G : Nat, lwU a l = (A : Int) ∧ lwV a l = (V : Int) ∧ a.toNat = G * A ∧ l.toNat = G * V ∧ 0 < V ∧ 0 < G ∧ Nat.gcd A V = 1 ∧ A ≤ a.toNat := by
  obtain ⟨h1, h2, h3, h4, h5⟩ := lw_v (a := a) l0
  have u0 : 0 ≤ lwU a l := by
    rcases Int.lt_or_le (lwU a l) 0 with q | q
    · have := Int.mul_neg_of_pos_of_neg h3 q
      omega
    · exact q
  obtain ⟨A, hA⟩ := Int.eq_ofNat_of_zero_le u0
  obtain ⟨V, hV⟩ := Int.eq_ofNat_of_zero_le (Int.le_of_lt h4)
  refine ⟨A, V, Int.gcd a l, hA, hV, ?_, ?_, by omega, by omega, ?_, ?_⟩
  · have : a = ((Int.gcd a l * A : Nat) : Int) := by rw [Int.natCast_mul, ← hA]; exact h1
    omega
  · have : l = ((Int.gcd a l * V : Nat) : Int) := by rw [Int.natCast_mul, ← hV]; exact h2
    omega
  · rw [hA, hV] at h5
    exact h5
  · have := (lw_b (a := a) l0).2
    rw [hA] at this
    omega
def yR (p : Nat) (A V : Nat → Nat) (D' : Nat) (W : Int) : Nat → Int
  | 0 => 0
  | i + 1 => if i < p then ((A i * (D' / V i) : Nat) : Int) else W * (D' : Int)
section RS
variable {s : Nat → Int32} {vA : BX0} {vS : BX2} {n : Nat} {X' : BX3} {R1 : BX1} {u : Nat → Int} {l : Int} {p : Nat}
theorem rests12 (c : CT s vA vS n X' R1 u l) (hp : s 1 = nI p) (hp4 : p ≤ 4) (vu : Nat → Int64) : ∀ d j, j + d = p → ∀ (m : Nat) (X : BX3) (R : BX1) (vp vw : Nat → Int64), JJ s vA vS n X' R1 X R → (∀ i, i < j → vp i = nL (lwU (u (i + 1)) l) ∧ vw i = nL (lwV (u (i + 1)) l)) → ∃ (X2 : BX3) (R2 : BX1) (vp' vw' : Nat → Int64), JJ s vA vS n X' R1 X2 R2 ∧ (∀ i, i < p → vp' i = nL (lwU (u (i + 1)) l) ∧ vw' i = nL (lwV (u (i + 1)) l)) ∧ fL_rests_12 (m + d + 1) X vA R vu vp vw (nI p) (nI j) = (fL_common vu vp' vw' (nI p)).bind (fun y2 => some (y2.1, X2, R2, y2.2)) := by
  have cc := c
  obtain ⟨hL, hG, s2, s3, s4, -, -⟩ := c
  have hLS := laySy_of hL hG
  have hn : (syO s).n = p := syO_p hp hp4
  have l0 := s3.pos
  intro d
  induction d with
  | zero =>
    intro j hj m X R vp vw hJ hu
    obtain rfl : j = p := by omega
    refine ⟨X, R, vp, vw, hJ, hu, ?_⟩
    show fL_rests_12_b (fL_rests_12 (m + 0)) X vA R vu vp vw (nI j) (nI j) = _
    unfold fL_rests_12_b
    rw [if_pos (Int32.le_refl _)]
  | succ d ih =>
    intro j hj m X R vp vw hJ hu
    have hjp : j < p := by omega
    have ub := row_bd s3.toRowIn (j + 1) (by omega)
    have w : (syO s).W * l ≤ 99 * l := Int.mul_le_mul_of_nonneg_right hLS.W1 (by omega)
    obtain ⟨b1, b2⟩ := lw_b (a := u (j + 1)) l0
    obtain ⟨-, -, -, V0, -⟩ := lw_v (a := u (j + 1)) l0
    have hU : ((nL (lwU (u (j + 1)) l)).toInt32).toInt64 = nL (lwU (u (j + 1)) l) := by rw [nL_I, toI32 (by omega) (by omega)]
    have hV : ((nL (lwV (u (j + 1)) l)).toInt32).toInt64 = nL (lwV (u (j + 1)) l) := by rw [nL_I, toI32 (by omega) (by omega)]
    obtain ⟨X2, R2, vp', vw', r1, r2, r3⟩ := ih (j + 1) (by omega) m X' R1 (vp_updL vp j (nL (lwU (u (j + 1)) l))) (vp_updL vw j (nL (lwV (u (j + 1)) l))) (ct_self cc) (fun i hi => by
      by_cases e : i = j
      · subst e; rw [pk_uLs, pk_uLs]; exact ⟨rfl, rfl⟩
      · rw [pk_uLn e, pk_uLn e]; exact hu i (by omega))
    refine ⟨X2, R2, vp', vw', r1, r2, ?_⟩
    rw [← r3]
    show fL_rests_12_b (fL_rests_12 (m + d + 1)) X vA R vu vp vw (nI p) (nI j) = _
    unfold fL_rests_12_b
    rw [if_neg (nlec (by omega) (by omega)), place_c cc hJ hp hp4 j hjp 0 (Or.inl rfl), Option.bind_some, if_pos (inB_nI (by omega) (by omega)), elet_eq]
    show ((fX3_place X' vA R1 (nI j) 1).bind _) = _
    rw [place_c cc (ct_self cc) hp hp4 j hjp 1 (Or.inr rfl), Option.bind_some, if_pos (inB_nI (by omega) (by omega)), elet_eq, elet_eq, nI_1, nI_clamp (by omega), if_pos rfl, if_neg (by decide), hU, hV]
theorem rests_v (c : CT s vA vS n X' R1 u l) (g k : Nat → Int32) (hv : Liv s g k p) (hp : s 1 = nI p) (hp4 : p ≤ 4) (vu : Nat → Int64) {X : BX3} {R : BX1} (hJ : JJ s vA vS n X' R1 X R) : ∃ (D : Int) (y : Nat → Int) (vu' : Nat → Int64) (X2 : BX3) (R2 : BX1), fL_rests X vA R vu (nI p) = some (nL D, X2, R2, vu') ∧ JJ s vA vS n X' R1 X2 R2 ∧ LR vA s g k p vu' y D ∧ ∀ i, i ≤ p + 1 → D * u i = l * y i := by
  have cc := c
  obtain ⟨hL, hG, s2, s3, s4, -, -⟩ := c
  have hLS := laySy_of hL hG
  have hn : (syO s).n = p := syO_p hp hp4
  have l0 := s3.pos
  have w : (syO s).W * l ≤ 99 * l := Int.mul_le_mul_of_nonneg_right hLS.W1 (by omega)
  obtain ⟨m, hm⟩ := FU_ex (p + 1) (by omega)
  obtain ⟨X2, R2, vp', vw', r1, r2, r3⟩ := rests12 cc hp hp4 vu p 0 (by omega) m X R (fun _ => 0) (fun _ => 0) hJ (fun i hi => absurd hi (by omega))
  have key : ∀ i : Nat, i < p → ∃ A V G : Nat, lwU (u (i + 1)) l = (A : Int) ∧ lwV (u (i + 1)) l = (V : Int) ∧ (u (i + 1)).toNat = G * A ∧ l.toNat = G * V ∧ 0 < V ∧ 0 < G ∧ Nat.gcd A V = 1 ∧ A ≤ (u (i + 1)).toNat := fun i hi => lw_n (row_bd s3.toRowIn (i + 1) (by omega)).1 l0
  have kU : ∀ i, i < p → lwU (u (i + 1)) l = (((lwU (u (i + 1)) l).toNat : Nat) : Int) := fun i hi => by obtain ⟨A, V, G, e1, e2, e3⟩ := key i hi; omega
  have kV : ∀ i, i < p → lwV (u (i + 1)) l = (((lwV (u (i + 1)) l).toNat : Nat) : Int) := fun i hi => by obtain ⟨A, V, G, e1, e2, e3⟩ := key i hi; omega
  obtain ⟨D', vu', q1, q2, q3, q4⟩ := common_v (p := p) (l := l.toNat) (a := fun i => (lwU (u (i + 1)) l).toNat) (v := fun i => (lwV (u (i + 1)) l).toNat) (vp := vp') (vw := vw') hp4 (by omega) (by omega)
    (fun j hj => by rw [(r2 j hj).1]; exact congrArg nL (kU j hj)) (fun j hj => by rw [(r2 j hj).2]; exact congrArg nL (kV j hj))
    (fun j hj => by obtain ⟨A, V, G, e1, e2, e3, e4, e5, e6, e7, e8⟩ := key j hj; show 0 < (lwV (u (j + 1)) l).toNat; omega)
    (fun j hj => by
      obtain ⟨A, V, G, e1, e2, e3, e4, e5, e6, e7, e8⟩ := key j hj
      have := row_bd s3.toRowIn (j + 1) (by omega)
      show (lwU (u (j + 1)) l).toNat < 2 ^ 62
      omega)
    (fun j hj => by
      obtain ⟨A, V, G, e1, e2, e3, e4, e5, e6, e7, e8⟩ := key j hj
      show (lwV (u (j + 1)) l).toNat ∣ l.toNat
      rw [e2, e4]
      exact ⟨G, Nat.mul_comm _ _⟩)
    (fun j hj => by
      obtain ⟨A, V, G, e1, e2, e3, e4, e5, e6, e7, e8⟩ := key j hj
      show Nat.gcd (lwU (u (j + 1)) l).toNat (lwV (u (j + 1)) l).toNat = 1
      rw [e1, e2]
      exact e7) vu
  have D9 : D' ≤ l.toNat := Nat.le_of_dvd (by omega) q3
  have heq : ∀ i, i ≤ p + 1 → yR p (fun i => (lwU (u (i + 1)) l).toNat) (fun i => (lwV (u (i + 1)) l).toNat) D' (syO s).W i * l = u i * (D' : Int) := by
    intro i hi
    match i, hi with
    | 0, _ => show 0 * l = _; rw [s3.z, Int.zero_mul, Int.zero_mul]
    | i + 1, hi =>
      by_cases e : i < p
      · obtain ⟨A, V, G, e1, e2, e3, e4, e5, e6, e7, e8⟩ := key i e
        show (if i < p then (((lwU (u (i + 1)) l).toNat * (D' / (lwV (u (i + 1)) l).toNat) : Nat) : Int) else (syO s).W * (D' : Int)) * l = _
        have d := (q4 i e).1
        rw [if_pos e]
        have d : (lwV (u (i + 1)) l).toNat ∣ D' := d
        have u0 := (row_bd s3.toRowIn (i + 1) (by omega)).1
        have f1 : u (i + 1) = (G : Int) * (A : Int) := by have : ((u (i + 1)).toNat : Int) = ((G * A : Nat) : Int) := by rw [e3]
                                                          push_cast at this; omega
        have f2 : l = (G : Int) * (V : Int) := by have : (l.toNat : Int) = ((G * V : Nat) : Int) := by rw [e4]
                                                  push_cast at this; omega
        have g1 : (lwU (u (i + 1)) l).toNat = A := by omega
        have g2 : (lwV (u (i + 1)) l).toNat = V := by omega
        rw [g2] at d
        obtain ⟨Q, hQ⟩ := d
        have g3 : D' / V = Q := by rw [hQ]; exact Nat.mul_div_cancel_left Q e5
        rw [g1, g2, g3, hQ, f1]
        conv => lhs; rw [f2]
        push_cast
        grind
      · obtain rfl : i = p := by omega
        show (if i < i then _ else (syO s).W * (D' : Int)) * l = _
        have := s3.w
        rw [hn] at this
        rw [if_neg (Nat.lt_irrefl _), this]
        grind
  refine ⟨(D' : Int), yR p (fun i => (lwU (u (i + 1)) l).toNat) (fun i => (lwV (u (i + 1)) l).toNat) D' (syO s).W, vu', X2, R2, ?_, r1, ⟨hLS, hn, hv, hp, fun i hi => ?_, ?_, by omega⟩, ?_⟩
  · unfold fL_rests
    rw [elet_eq, elet_eq]
    have hm' : FU = m + p + 1 := hm
    rw [hm']
    exact r3.trans (by rw [q1, Option.bind_some])
  · rw [(q4 i hi).2]
    show _ = nL (if i < p then _ else _)
    rw [if_pos hi]
  · exact rest_prop (by omega) (fun i hi => heq i (by omega)) s3
  · intro i hi
    have := heq i hi
    rw [Int.mul_comm (D' : Int), ← this, Int.mul_comm]
end RS
