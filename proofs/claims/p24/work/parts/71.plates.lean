/-! isSo's loop over the plates -/
theorem tdiv_hom {a b l D : Int} (a0 : 0 ≤ a) (b0 : 0 ≤ b) (l0 : 0 < l) (D0 : 0 < D) (e : D * a = l * b) : a.tdiv l = b.tdiv D := by
  rw [Int.tdiv_eq_ediv_of_nonneg a0, Int.tdiv_eq_ediv_of_nonneg b0]
  have h1 : a / l = (D * a) / (D * l) := (Int.mul_ediv_mul_of_pos _ _ D0).symm
  have h2 : b / D = (l * b) / (l * D) := (Int.mul_ediv_mul_of_pos _ _ l0).symm
  rw [h1, h2, e, Int.mul_comm D l]
abbrev KT : Type := BX3 → BX0 → BX1 → BX2 → (Nat → Int32) → (Nat → Int32) → (Nat → Int64) → (Nat → Int32) → Int32 → Int32 → Int32 → Int64 → Int32 → Int32 → Option (Int32 × BX3 × BX1)
section IP
variable {s g k : Nat → Int32} {vA : BX0} {vS : BX2} {n : Nat} {X' : BX3} {R1 : BX1} {u y : Nat → Int} {l D : Int} {p : Nat} {vu : Nat → Int64}
def EV (S : Sy) (s : Nat → Int32) (y : Nat → Int) (D : Int) (j t : Nat) (ve : Nat → Int32) : Prop := ∀ w, w < 5 → ve w = nI (setN (bitP S s y D w) (if w < t then j + 1 else j))
def BT (S : Sy) (s : Nat → Int32) (y : Nat → Int) (D : Int) (j w : Nat) (st : Int32) : Prop := (bitP S s y D w j ∧ st = (1 : Int32) <<< (nI j &&& 31)) ∨ (¬ bitP S s y D w j ∧ st = 0)
theorem ev_step {S : Sy} {j t : Nat} {ve : Nat → Int32} {st : Int32} (hj : j < 4) (h : EV S s y D j t ve) (ht : t < 5) (hb : BT S s y D j t st) : EV S s y D j (t + 1) (upd ve t (ve t + st)) := by
  intro w hw
  by_cases e : w = t
  · subst e
    rw [pk_us, if_pos (by omega), h w hw, if_neg (by omega)]
    show _ = nI (setN _ j + bN _ * 2 ^ j)
    rcases hb with ⟨b1, b2⟩ | ⟨b1, b2⟩
    · rw [bN_t b1, b2, bit_v j hj, nI_add, Nat.one_mul]
    · rw [bN_f b1, b2, Nat.zero_mul]
      exact Int32.add_zero _
  · rw [pk_un e, h w hw]
    by_cases q : w < t
    · rw [if_pos q, if_pos (by omega)]
    · rw [if_neg q, if_neg (by omega)]
theorem cl2 : ((2 : Int32)).toNatClampNeg = 2 := rfl
theorem cl3 : ((3 : Int32)).toNatClampNeg = 3 := rfl
theorem cl4 : ((4 : Int32)).toNatClampNeg = 4 := rfl
abbrev HK (s g k : Nat → Int32) (vA : BX0) (vS : BX2) (n : Nat) (X' : BX3) (R1 : BX1) (vu : Nat → Int64) (y : Nat → Int) (D : Int) (p j : Nat) (x5 x6 : Int32) (K : KT) (P : Option (Int32 × BX3 × BX1) → Prop) : Prop :=
  ∀ (X : BX3) (R : BX1) (ve : Nat → Int32), JJ s vA vS n X' R1 X R → EV (syO s) s y D j 5 ve → P (K X vA R vS g k vu ve (nI p) x5 x6 (nL D) 1 (nI (j + 1)))
theorem iso493 (c : CT s vA vS n X' R1 u l) (h : LR vA s g k p vu y D) {j : Nat} (hj : j < p) {x5 x6 : Int32} {K : KT} {P : Option (Int32 × BX3 × BX1) → Prop} (hK : HK s g k vA vS n X' R1 vu y D p j x5 x6 K P) {X : BX3} {R : BX1} {ve : Nat → Int32} (hJ : JJ s vA vS n X' R1 X R) (hE : EV (syO s) s y D j 5 ve) (a : Int32) : P (fL_isSo_493 K X vA R vS g k vu ve (nI p) x5 x6 (nL D) (nI j) a a) := by
  have hL := c.1
  have p4 := h.p4
  have e5 : (5 : Int32) + nI j = nI (5 + j) := nI_add 5 j
  have e6 : (6 : Int32) + nI j = nI (6 + j) := nI_add 6 j
  obtain ⟨k1, k2⟩ := h.lv.2.2.1 j (by omega)
  obtain ⟨k3, k4⟩ := h.lv.2.2.1 (j + 1) (by omega)
  rw [show 5 + (j + 1) = 6 + j by omega] at k4
  unfold fL_isSo_493
  rw [if_pos rfl, pof_3 hL h.s1 p4 j hj, Option.bind_some, if_pos (inB_nI (by omega) (by omega)), nI_clamp (by omega), k1, if_pos rfl, pof_4 hL h.s1 p4 j hj, Option.bind_some, e5, if_pos (inB_nI (by omega) (by omega)), nI_clamp (by omega), k2, if_pos rfl, pof_5 hL h.s1 p4 j hj, Option.bind_some, nI_1, if_pos (inB_nI (by omega) (by omega)), nI_clamp (by omega), k3, if_pos rfl, pof_6 hL h.s1 p4 j hj, Option.bind_some, e6, if_pos (inB_nI (by omega) (by omega)), nI_clamp (by omega), k4, if_pos rfl, pof_7 hL h.s1 p4 j hj, Option.bind_some, if_pos rfl]
  unfold fL_isSo_578
  rw [elet_eq, nI_1]
  exact hK X R ve hJ hE
theorem iso461 (c : CT s vA vS n X' R1 u l) (h : LR vA s g k p vu y D) {j : Nat} (hj : j < p) {x5 x6 : Int32} {K : KT} {P : Option (Int32 × BX3 × BX1) → Prop} (hK : HK s g k vA vS n X' R1 vu y D p j x5 x6 K P) {X : BX3} {R : BX1} {ve : Nat → Int32} (hJ : JJ s vA vS n X' R1 X R) (hE : EV (syO s) s y D j 5 ve) (a : Int32) : P (fL_isSo_461 K X vA R vS g k vu ve (nI p) x5 x6 (nL D) (nI j) a a) := by
  have hL := c.1
  have p4 := h.p4
  have e18 : (18 : Int32) + nI j = nI (18 + j) := nI_add 18 j
  obtain ⟨-, -, k3⟩ := h.lv.2.2.2 j hj
  have e2 : fX3_plateOf X vA (nI j) 2 = some (if s (20 + j) < 0 then -1000004 else s (20 + j)) := by
    have := pof_s (X := X) hL c.2.1 h.s1 p4 j 1 hj (by omega)
    exact this
  unfold fL_isSo_461
  rw [if_pos rfl, e2, Option.bind_some, e18, if_pos (inB_nI (by omega) (by omega)), nI_clamp (by omega), k3]
  by_cases q : s (20 + j) < 0
  · rw [if_neg (Int32.not_le.mpr q), if_pos q]
    exact iso493 c h hj hK hJ hE _
  · rw [if_pos (Int32.not_lt.mp q), if_neg q, if_pos (inB_nI (by omega) (by omega))]
    exact iso493 c h hj hK hJ hE _
theorem iso353 (c : CT s vA vS n X' R1 u l) (h : LR vA s g k p vu y D) (eq : ∀ i, i ≤ p + 1 → D * u i = l * y i) {j : Nat} (hj : j < p) {x5 x6 : Int32} {K : KT} {P : Option (Int32 × BX3 × BX1) → Prop} (hK : HK s g k vA vS n X' R1 vu y D p j x5 x6 K P) {X : BX3} {R : BX1} {ve : Nat → Int32} (hJ : JJ s vA vS n X' R1 X R) (hE : EV (syO s) s y D j 4 ve) (st : Int32) (hb : BT (syO s) s y D j 4 st) : P (fL_isSo_353 K X vA R vS g k vu ve (nI p) x5 x6 (nL D) (nI j) (nL (gS (syO s) y D (j + 1) - gS (syO s) y D j)) 4 (ve 4) st) := by
  have hL := c.1
  have s3 := c.2.2.2.1
  have s4 := c.2.2.2.2.1
  have hLS := h.ls
  have hn := h.n
  have p4 := h.p4
  have D0 := h.D0
  have D9 := h.D9
  have l0 := s3.pos
  have e10 : (10 : Int32) + nI j = nI (10 + j) := nI_add 10 j
  have e14 : (14 : Int32) + nI j = nI (14 + j) := nI_add 14 j
  have hE5 := ev_step (by omega) hE (by omega) hb
  have b1 := fo_b hLS s3.toRowIn s4 j (by omega)
  have b2 := fo_b hLS h.re.toRowIn D9 j (by omega)
  have f1 := gS_eq (S := syO s) (m := D) (l := l) (u := u) (v := y) (fun i hi => eq i (by omega)) j (by omega)
  have f2 := gS_eq (S := syO s) (m := D) (l := l) (u := u) (v := y) (fun i hi => eq i (by omega)) (j + 1) (by omega)
  have f := isF_low (a := -(gS (syO s) u l (j + 1) - gS (syO s) u l j)) (T := -(gS (syO s) y D (j + 1) - gS (syO s) y D j)) (l := l) (D := D) ⟨by omega, by omega⟩ ⟨l0, s4⟩ ⟨by omega, by omega⟩ ⟨D0, D9⟩ (by grind)
  have u0 := (row_bd s3.toRowIn (j + 1) (by omega)).1
  have y0 := (row_bd h.re.toRowIn (j + 1) (by omega)).1
  have ub := (row_bd s3.toRowIn (j + 1) (by omega)).2
  have w : (syO s).W * l ≤ 99 * l := Int.mul_le_mul_of_nonneg_right hLS.W1 (by omega)
  have et := tdiv_hom u0 y0 l0 D0 (eq (j + 1) (by omega))
  have tb : 0 ≤ (u (j + 1)).tdiv l ∧ (u (j + 1)).tdiv l ≤ u (j + 1) := by
    rw [Int.tdiv_eq_ediv_of_nonneg u0]
    exact ⟨Int.ediv_nonneg u0 (Int.le_of_lt l0), Int.ediv_le_self _ u0⟩
  have it : inL ((u (j + 1)).tdiv l) := ⟨by omega, by omega⟩
  obtain ⟨k1, k2, -⟩ := h.lv.2.2.2 j hj
  unfold fL_isSo_353
  rw [if_pos (by decide), elet_eq, cl4, push_c c hJ h.s1 p4 j hj 0 (Or.inl rfl), Option.bind_some]
  show P ((fX3_push X' vA R1 (nI j) 1).bind _)
  rw [push_c c (ct_self c) h.s1 p4 j hj 1 (Or.inr rfl), Option.bind_some, nL_neg, if_pos rfl, if_neg (by decide), f, Option.bind_some, if_neg (by decide)]
  show P ((fX3_place X' vA R1 (nI j) 2).bind _)
  rw [place_2 c (ct_self c) h.s1 p4 j hj, Option.bind_some, if_pos (inB_nI (by omega) (by omega)), if_neg (fun q => by have := (nL_eq h.iD inL_0).mp q; omega), nI_clamp (by omega), h.u j hj, nL_div (h.iy (j + 1) (by omega)) h.iD, nL_I, toI32 (by omega) (by omega), et]
  rw [et] at it
  rw [if_pos ((cmp_e0 it it).mpr rfl)]
  show P ((fX3_place X' vA R1 (nI j) 3).bind _)
  rw [place_3 hL h.s1 p4 j hj, Option.bind_some, if_pos rfl]
  show P ((fX3_plateOf X' vA (nI j) 0).bind _)
  rw [pof_0 hL h.s1 p4 j hj, Option.bind_some, e10, if_pos (inB_nI (by omega) (by omega)), nI_clamp (by omega), k1, if_pos (Int32.add_comm _ _)]
  have e1 : fX3_plateOf X' vA (nI j) 1 = some (if s (16 + j) < 0 then -1000004 else s (16 + j)) := by
    have := pof_s (X := X') hL c.2.1 h.s1 p4 j 0 hj (by omega)
    exact this
  rw [e1, Option.bind_some, e14, if_pos (inB_nI (by omega) (by omega)), nI_clamp (by omega), k2]
  by_cases q : s (16 + j) < 0
  · rw [if_neg (Int32.not_le.mpr q), if_pos q]
    exact iso461 c h hj hK (ct_self c) hE5 _
  · rw [if_pos (Int32.not_lt.mp q), if_neg q, if_pos (inB_nI (by omega) (by omega))]
    exact iso461 c h hj hK (ct_self c) hE5 _
theorem iso331 (c : CT s vA vS n X' R1 u l) (h : LR vA s g k p vu y D) (eq : ∀ i, i ≤ p + 1 → D * u i = l * y i) {j : Nat} (hj : j < p) {x5 x6 : Int32} {K : KT} {P : Option (Int32 × BX3 × BX1) → Prop} (hK : HK s g k vA vS n X' R1 vu y D p j x5 x6 K P) {X : BX3} {R : BX1} {ve : Nat → Int32} (hJ : JJ s vA vS n X' R1 X R) (hE : EV (syO s) s y D j 3 ve) (st : Int32) (hb : BT (syO s) s y D j 3 st) : P (fL_isSo_331 K X vA R vS g k vu ve (nI p) x5 x6 (nL D) (nI j) (nL (gS (syO s) y D (j + 1) - gS (syO s) y D j)) 3 (ve 3) st) := by
  have p4 := h.p4
  have hn := h.n
  have hE4 := ev_step (by omega) hE (by omega) hb
  have b2 := fo_b h.ls h.re.toRowIn h.D9 j (by omega)
  have ig : inL (gS (syO s) y D (j + 1) - gS (syO s) y D j) := ⟨by omega, by omega⟩
  unfold fL_isSo_331
  rw [if_pos (by decide), elet_eq, cl3, cl4]
  by_cases q : gS (syO s) y D (j + 1) = gS (syO s) y D j
  · rw [if_pos (show lg_cmp (nL (gS (syO s) y D (j + 1) - gS (syO s) y D j)) 0 = 0 from (cmp_e0 ig inL_0).mpr (by omega))]
    exact iso353 c h eq hj hK hJ hE4 0 (Or.inr ⟨fun z => z q, rfl⟩)
  · rw [if_neg (show ¬ lg_cmp (nL (gS (syO s) y D (j + 1) - gS (syO s) y D j)) 0 = 0 from fun z => by have := (cmp_e0 ig inL_0).mp z; omega)]
    exact iso353 c h eq hj hK hJ hE4 _ (Or.inl ⟨q, rfl⟩)
theorem iso292 (c : CT s vA vS n X' R1 u l) (h : LR vA s g k p vu y D) (eq : ∀ i, i ≤ p + 1 → D * u i = l * y i) {j : Nat} (hj : j < p) {x5 x6 : Int32} {K : KT} {P : Option (Int32 × BX3 × BX1) → Prop} (hK : HK s g k vA vS n X' R1 vu y D p j x5 x6 K P) {X : BX3} {R : BX1} {ve : Nat → Int32} (hJ : JJ s vA vS n X' R1 X R) (hE : EV (syO s) s y D j 2 ve) (st : Int32) (hb : BT (syO s) s y D j 2 st) : P (fL_isSo_292 K X vA R vS g k vu ve (nI p) x5 x6 (nL D) (nI j) (nL (gS (syO s) y D (j + 1) - gS (syO s) y D j)) 2 (ve 2) st) := by
  have p4 := h.p4
  have hn := h.n
  have hE3 := ev_step (by omega) hE (by omega) hb
  have iy := h.iy (j + 1) (by omega)
  have W0 := h.ls.W0
  have W1 := h.ls.W1
  have iW := h.ix (s 0).toInt (by have : (syO s).W = (s 0).toInt := rfl; omega) (by have : (syO s).W = (s 0).toInt := rfl; omega)
  unfold fL_isSo_292 fL_isSo_323
  rw [if_pos (by decide), elet_eq, cl2, cl3, if_pos (inB_nI (by omega) (by omega)), nI_clamp (by omega), h.u j hj, cl0, h.lv.1, nL_I, nL_mul]
  by_cases q : y (j + 1) = 0
  · rw [if_pos (show lg_cmp (nL (y (j + 1))) 0 = 0 from (cmp_e0 iy inL_0).mpr q)]
    exact iso331 c h eq hj hK hJ hE3 _ (Or.inl ⟨Or.inl q, rfl⟩)
  · rw [if_neg (show ¬ lg_cmp (nL (y (j + 1))) 0 = 0 from fun z => q ((cmp_e0 iy inL_0).mp z)), if_pos (inB_nI (by omega) (by omega))]
    by_cases q2 : y (j + 1) = (s 0).toInt * D
    · rw [if_pos ((cmp_e0 iy iW).mpr q2)]
      exact iso331 c h eq hj hK hJ hE3 _ (Or.inl ⟨Or.inr q2, rfl⟩)
    · rw [if_neg (fun z => q2 ((cmp_e0 iy iW).mp z))]
      exact iso331 c h eq hj hK hJ hE3 _ (Or.inr ⟨fun z => z.elim q q2, rfl⟩)
theorem iso254 (c : CT s vA vS n X' R1 u l) (h : LR vA s g k p vu y D) (eq : ∀ i, i ≤ p + 1 → D * u i = l * y i) {j : Nat} (hj : j < p) {x5 x6 : Int32} {K : KT} {P : Option (Int32 × BX3 × BX1) → Prop} (hK : HK s g k vA vS n X' R1 vu y D p j x5 x6 K P) {X : BX3} {R : BX1} {ve : Nat → Int32} (hJ : JJ s vA vS n X' R1 X R) (hE : EV (syO s) s y D j 1 ve) (st : Int32) (hb : BT (syO s) s y D j 1 st) : P (fL_isSo_254 K X vA R vS g k vu ve (nI p) x5 x6 (nL D) (nI j) (nL (gS (syO s) y D (j + 1) - gS (syO s) y D j)) 1 (ve 1) st) := by
  have p4 := h.p4
  have hn := h.n
  have hE2 := ev_step (by omega) hE (by omega) hb
  have iy := h.iy (j + 1) (by omega)
  have iy2 := h.iy (j + 2) (by omega)
  unfold fL_isSo_254 fL_isSo_291
  rw [if_pos (by decide), elet_eq, cl1, cl2]
  obtain ⟨q, hq⟩ : ∃ q, p = q + 1 := ⟨p - 1, by omega⟩
  have ep : nI p - (1 : Int32) = nI q := by rw [hq]; exact nI_pred q
  rw [ep]
  by_cases e : q ≤ j
  · rw [if_pos (lec e (by omega))]
    refine iso292 c h eq hj hK hJ hE2 0 (Or.inr ⟨fun z => ?_, rfl⟩)
    have z1 : j + 1 < (syO s).n := z.1
    omega
  · rw [if_neg (nlec (by omega) (by omega)), nI_1, if_pos (inB_nI (by omega) (by omega)), if_pos (inB_nI (by omega) (by omega)), nI_clamp (by omega), nI_clamp (by omega), h.u j hj, h.u (j + 1) (by omega)]
    by_cases z : y (j + 1) = y (j + 1 + 1)
    · rw [if_pos ((cmp_e0 iy iy2).mpr z)]
      exact iso292 c h eq hj hK hJ hE2 _ (Or.inl ⟨⟨by omega, z⟩, rfl⟩)
    · rw [if_neg (fun w => z ((cmp_e0 iy iy2).mp w))]
      exact iso292 c h eq hj hK hJ hE2 0 (Or.inr ⟨fun w => z w.2, rfl⟩)
theorem iso210 (c : CT s vA vS n X' R1 u l) (h : LR vA s g k p vu y D) (eq : ∀ i, i ≤ p + 1 → D * u i = l * y i) {j : Nat} (hj : j < p) {x5 x6 : Int32} {K : KT} {P : Option (Int32 × BX3 × BX1) → Prop} (hK : HK s g k vA vS n X' R1 vu y D p j x5 x6 K P) {X : BX3} {R : BX1} {ve : Nat → Int32} (hJ : JJ s vA vS n X' R1 X R) (hE : EV (syO s) s y D j 0 ve) (st : Int32) (hb : BT (syO s) s y D j 0 st) : P (fL_isSo_210 K X vA R vS g k vu ve (nI p) x5 x6 (nL D) (nI j) (nL (gS (syO s) y D (j + 1) - gS (syO s) y D j)) 0 (ve 0) st) := by
  have p4 := h.p4
  have hn := h.n
  have e18 : (18 : Int32) + nI j = nI (18 + j) := nI_add 18 j
  have hE1 := ev_step (by omega) hE (by omega) hb
  have iy := h.iy (j + 1) (by omega)
  obtain ⟨W, p', g1, g2, g3, g4, g5, g6, g7, g8⟩ := id c.2.1
  obtain rfl : p = p' := (nI_eq (by omega) (by omega)).mp (h.s1.symm.trans g2)
  obtain ⟨-, -, b3⟩ := g7 j hj
  have ix := h.ix (s (20 + j)).toInt b3.1 (by omega)
  obtain ⟨-, -, k3⟩ := h.lv.2.2.2 j hj
  unfold fL_isSo_210 fL_isSo_253
  rw [if_pos (by decide), elet_eq, cl0, cl1, e18, if_pos (inB_nI (by omega) (by omega)), nI_clamp (by omega), k3]
  by_cases q : s (20 + j) < 0
  · rw [if_pos q]
    exact iso254 c h eq hj hK hJ hE1 0 (Or.inr ⟨fun z => z.1 q, rfl⟩)
  · rw [if_neg q, if_pos (inB_nI (by omega) (by omega)), if_pos (inB_nI (by omega) (by omega)), nI_clamp (by omega), h.u j hj, nL_I, nL_mul]
    by_cases z : y (j + 1) = (s (20 + j)).toInt * D
    · rw [if_pos ((cmp_e0 iy ix).mpr z)]
      exact iso254 c h eq hj hK hJ hE1 _ (Or.inl ⟨⟨q, z⟩, rfl⟩)
    · rw [if_neg (fun w => z ((cmp_e0 iy ix).mp w))]
      exact iso254 c h eq hj hK hJ hE1 0 (Or.inr ⟨fun w => z w.2, rfl⟩)
theorem iso152 (c : CT s vA vS n X' R1 u l) (h : LR vA s g k p vu y D) (eq : ∀ i, i ≤ p + 1 → D * u i = l * y i) {j : Nat} (hj : j < p) {K : KT} {P : Option (Int32 × BX3 × BX1) → Prop} (x6 a b d : Int32) (hK : HK s g k vA vS n X' R1 vu y D p j (a + (b + d)) (x6 + s (12 + j)) K P) {X : BX3} {R : BX1} {ve : Nat → Int32} (hJ : JJ s vA vS n X' R1 X R) (hE : EV (syO s) s y D j 0 ve) : P (fL_isSo_152 K X vA R vS g k vu ve (nI p) x6 (nL D) (nI j) (nL (gS (syO s) y D (j + 1) - gS (syO s) y D j)) a b d) := by
  have p4 := h.p4
  have hn := h.n
  have e10 : (10 : Int32) + nI j = nI (10 + j) := nI_add 10 j
  have e14 : (14 : Int32) + nI j = nI (14 + j) := nI_add 14 j
  have iy := h.iy (j + 1) (by omega)
  obtain ⟨W, p', g1, g2, g3, g4, g5, g6, g7, g8⟩ := id c.2.1
  obtain rfl : p = p' := (nI_eq (by omega) (by omega)).mp (h.s1.symm.trans g2)
  obtain ⟨-, b2, -⟩ := g7 j hj
  have ix := h.ix (s (16 + j)).toInt b2.1 (by omega)
  obtain ⟨k1, k2, -⟩ := h.lv.2.2.2 j hj
  unfold fL_isSo_152 fL_isSo_209
  rw [elet_eq, e10, if_pos (inB_nI (by omega) (by omega)), elet_eq, nI_clamp (by omega), k1, e14, if_pos (inB_nI (by omega) (by omega)), nI_clamp (by omega), k2, cl0]
  by_cases q : s (16 + j) < 0
  · rw [if_pos q]
    exact iso210 c h eq hj hK hJ hE 0 (Or.inr ⟨fun z => z.1 q, rfl⟩)
  · rw [if_neg q, if_pos (inB_nI (by omega) (by omega)), if_pos (inB_nI (by omega) (by omega)), nI_clamp (by omega), h.u j hj, nL_I, nL_mul]
    by_cases z : y (j + 1) = (s (16 + j)).toInt * D
    · rw [if_pos ((cmp_e0 iy ix).mpr z)]
      exact iso210 c h eq hj hK hJ hE _ (Or.inl ⟨⟨q, z⟩, rfl⟩)
    · rw [if_neg (fun w => z ((cmp_e0 iy ix).mp w))]
      exact iso210 c h eq hj hK hJ hE 0 (Or.inr ⟨fun w => z w.2, rfl⟩)
theorem stB_n {s : Nat → Int32} {a : Nat} (h : s a < 0) : stB s a = 0 := if_pos h
theorem stB_p {s : Nat → Int32} {a : Nat} (h : ¬ s a < 0) : stB s a = 1 := if_neg h
theorem iso137 (c : CT s vA vS n X' R1 u l) (h : LR vA s g k p vu y D) (eq : ∀ i, i ≤ p + 1 → D * u i = l * y i) {j : Nat} (hj : j < p) {K : KT} {P : Option (Int32 × BX3 × BX1) → Prop} (x6 a b : Int32) (hK : HK s g k vA vS n X' R1 vu y D p j (a + (b + stB s (20 + j))) (x6 + s (12 + j)) K P) {X : BX3} {R : BX1} {ve : Nat → Int32} (hJ : JJ s vA vS n X' R1 X R) (hE : EV (syO s) s y D j 0 ve) : P (fL_isSo_137 K X vA R vS g k vu ve (nI p) x6 (nL D) (nI j) (nL (gS (syO s) y D (j + 1) - gS (syO s) y D j)) a b) := by
  have p4 := h.p4
  have e18 : (18 : Int32) + nI j = nI (18 + j) := nI_add 18 j
  obtain ⟨-, -, k3⟩ := h.lv.2.2.2 j hj
  unfold fL_isSo_137
  rw [e18, if_pos (inB_nI (by omega) (by omega)), nI_clamp (by omega), k3]
  by_cases q : s (20 + j) < 0
  · rw [stB_n q] at hK
    rw [if_neg (Int32.not_le.mpr q)]
    exact iso152 c h eq hj x6 a b 0 hK hJ hE
  · rw [stB_p q] at hK
    rw [if_pos (Int32.not_lt.mp q)]
    exact iso152 c h eq hj x6 a b 1 hK hJ hE
theorem iso96 (c : CT s vA vS n X' R1 u l) (h : LR vA s g k p vu y D) (eq : ∀ i, i ≤ p + 1 → D * u i = l * y i) {P : Option (Int32 × BX3 × BX1) → Prop} (hF : ∀ (X : BX3) (R : BX1) (ve : Nat → Int32), JJ s vA vS n X' R1 X R → EV (syO s) s y D p 0 ve → P (fL_isSo_586 X vA R vS g k vu ve (nI p) (accS s p) (accQ s p + 1000) 1)) : ∀ d j, j + d = p → ∀ (m : Nat) (X : BX3) (R : BX1) (ve : Nat → Int32), JJ s vA vS n X' R1 X R → EV (syO s) s y D j 0 ve → P (fL_isSo_96 (m + d + 1) X vA R vS g k vu ve (nI p) (accS s j) (accQ s j + 1000) (nL D) 1 (nI j)) := by
  have p4 := h.p4
  intro d
  induction d with
  | zero =>
    intro j hj m X R ve hJ hE
    obtain rfl : j = p := by omega
    show P (fL_isSo_96_b (fL_isSo_96 (m + 0)) X vA R vS g k vu ve (nI j) (accS s j) (accQ s j + 1000) (nL D) 1 (nI j))
    unfold fL_isSo_96_b
    rw [if_pos (Int32.le_refl _)]
    exact hF X R ve hJ hE
  | succ d ih =>
    intro j hj m X R ve hJ hE
    have hjp : j < p := by omega
    have e14 : (14 : Int32) + nI j = nI (14 + j) := nI_add 14 j
    obtain ⟨-, k2, -⟩ := h.lv.2.2.2 j hjp
    have hK : HK s g k vA vS n X' R1 vu y D p j (accS s j + (stB s (16 + j) + stB s (20 + j))) (accQ s j + 1000 + s (12 + j)) (fL_isSo_96 (m + d + 1)) P := by
      intro X2 R2 ve2 hJ2 hE2
      have e := ih (j + 1) (by omega) m X2 R2 ve2 hJ2 (fun w hw => by rw [hE2 w hw, if_pos hw, if_neg (by omega)])
      have ea : accQ s (j + 1) + 1000 = accQ s j + 1000 + s (12 + j) := by
        show accQ s j + s (12 + j) + 1000 = _
        rw [Int32.add_assoc, Int32.add_comm (s (12 + j)), ← Int32.add_assoc]
      rw [ea] at e
      exact e
    show P (fL_isSo_96_b (fL_isSo_96 (m + d + 1)) X vA R vS g k vu ve (nI p) (accS s j) (accQ s j + 1000) (nL D) 1 (nI j))
    unfold fL_isSo_96_b
    rw [if_neg (nlec (by omega) (by omega)), if_neg (by decide), lforce h j hjp, Option.bind_some, e14, if_pos (inB_nI (by omega) (by omega)), nI_clamp (by omega), k2]
    by_cases q : s (16 + j) < 0
    · rw [stB_n q] at hK
      rw [if_neg (Int32.not_le.mpr q)]
      exact iso137 c h eq hjp _ _ 0 hK hJ hE
    · rw [stB_p q] at hK
      rw [if_pos (Int32.not_lt.mp q)]
      exact iso137 c h eq hjp _ _ 1 hK hJ hE
end IP
