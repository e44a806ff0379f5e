/-! settings of the form -/
theorem c38_u (sx k : Nat) : fX2_isOfForm_38 sx (k + 1) = fX2_isOfForm_38_b sx (fX2_isOfForm_38 sx k) := rfl
theorem f43_u (k : Nat) : fX4_isForm_43 (k + 1) = fX4_isForm_43_b (fX4_isForm_43 k) := rfl
def negB (c : Int32) (k : Nat) : Prop := c = 102 ∧ k = 1
theorem c38_s (sx i : Nat) (hl : i < lenT.getD sx 0) (hl8 : lenT.getD sx 0 < 100) (kk : BX2 → Int32 → Option (Int32 × BX2)) (vS vS' : BX2) (b : Int32) (h : fX2_readPart vS (scC sx (nI i)) = some (b, vS')) :
    fX2_isOfForm_38_b sx kk vS (nI i) = if b = 0 then some (0, vS') else kk vS' (nI (i + 1)) := by
  unfold fX2_isOfForm_38_b
  rw [if_neg (nlec hl (by omega)), if_pos (inB_nI hl (by omega)), h, Option.bind_some]
  simp only [elet_eq]
  rw [nI_1]
theorem zb (b : Int32) (h : b = 0 ∨ b = 1) : zB b = true := by rcases h with rfl | rfl <;> rfl
/-- a character that has to follow -/
theorem part_c {vS : BX2} {t : Nat} {ch : Nat → Int32} (h : TxC vS t ch) (ht : t ≤ 60) (p : Nat) (hp : p < 500) (hn : p2_next vS = nI p) (x : Int32) (hx : x = 44 ∨ x = 59) :
    (p < t ∧ ch p = x ∧ fX2_readPart vS x = some (1, s2_next vS (nI (p + 1)))) ∨ (¬ (p < t ∧ ch p = x) ∧ fX2_readPart vS x = some (0, vS)) := by
  have n1 : ¬ x = 48 := by rcases hx with rfl | rfl <;> decide
  have n2 : ¬ x = 45 := by rcases hx with rfl | rfl <;> decide
  have n3 : x ≠ -1 := by rcases hx with rfl | rfl <;> decide
  unfold fX2_readPart
  rw [if_neg n1, if_neg n2]
  rcases rch_v h ht p (by omega) hn x n3 with ⟨a1, a2, a3⟩ | ⟨a1, a2⟩
  · left; rw [a3, Option.bind_some]; exact ⟨a1, a2, rfl⟩
  · right; rw [a2, Option.bind_some]; exact ⟨a1, rfl⟩
/-- a number that has to follow, perhaps below 0 -/
theorem part_n {vS : BX2} {t : Nat} {ch : Nat → Int32} (h : TxC vS t ch) (ht : t ≤ 60) (p : Nat) (hp : p < 400) (hn : p2_next vS = nI p) (k : Nat) (hk : k < 3) (hc : p2_numberCount vS = nI k) (x : Int32) (hx : x = 48 ∨ x = 45) :
    ∃ (p1 : Nat) (sg : Int32), ((x = 45 ∧ p < t ∧ ch p = 45 ∧ p1 = p + 1 ∧ sg = -1) ∨ (¬ (x = 45 ∧ p < t ∧ ch p = 45) ∧ p1 = p ∧ sg = 1)) ∧
      ((¬ digQ t ch p1 ∧ ∃ vS', fX2_readPart vS x = some (0, vS') ∧ fS vS' = fS vS ∧ p2_next vS' = nI p1) ∨
       ∃ q v vS', rdP t ch p1 q v ∧ v ≤ 99 ∧ p1 < q ∧ q ≤ t ∧ fX2_readPart vS x = some (1, vS') ∧ fS vS' = fS vS ∧ p2_next vS' = nI q ∧ p2_numberCount vS' = nI (k + 1) ∧ p2_numbers vS' = upd (p2_numbers vS) k (sg * nI v)) := by
  have one : ∀ (w : BX2) (p1 : Nat) (sg : Int32), p1 < 500 → TxC w t ch → p2_next w = nI p1 → p2_numberCount w = nI k →
      ((¬ digQ t ch p1 ∧ fX2_readPart_33 w sg = some (0, w)) ∨ ∃ q v vS', rdP t ch p1 q v ∧ v ≤ 99 ∧ p1 < q ∧ q ≤ t ∧ fX2_readPart_33 w sg = some (1, vS') ∧ fS vS' = fS w ∧ p2_next vS' = nI q ∧ p2_numberCount vS' = nI (k + 1) ∧ p2_numbers vS' = upd (p2_numbers w) k (sg * nI v)) := by
    intro w p1 sg hp1 hw hwn hwc
    unfold fX2_readPart_33
    rcases rnum_v hw ht p1 hp1 hwn k hk hwc sg with ⟨a1, a2⟩ | ⟨q, v, vS', a1, a2, a3, a4, a5, a6, a7, a8, a9⟩
    · left; rw [a2, Option.bind_some]; exact ⟨a1, rfl⟩
    · right; refine ⟨q, v, vS', a1, a2, a3, a4, ?_, a6, a7, a8, a9⟩
      rw [a5, Option.bind_some]; rfl
  rcases hx with rfl | rfl
  · refine ⟨p, 1, Or.inr ⟨fun z => absurd z.1 (by decide), rfl, rfl⟩, ?_⟩
    have e : fX2_readPart vS 48 = fX2_readPart_33 vS 1 := by
      unfold fX2_readPart fX2_readPart_33; rw [if_pos rfl]
    rw [e]
    rcases one vS p 1 (by omega) h hn hc with ⟨a1, a2⟩ | a1
    · exact Or.inl ⟨a1, vS, a2, rfl, hn⟩
    · exact Or.inr a1
  · rcases rch_v h ht p (by omega) hn 45 (by decide) with ⟨a1, a2, a3⟩ | ⟨a1, a2⟩
    · refine ⟨p + 1, -1, Or.inl ⟨rfl, a1, a2, rfl, rfl⟩, ?_⟩
      have e : fX2_readPart vS 45 = fX2_readPart_33 (s2_next vS (nI (p + 1))) (-1) := by
        unfold fX2_readPart; rw [if_neg (by decide), if_pos rfl, a3, Option.bind_some, if_neg (show ¬ (1 : Int32) = 0 from by decide)]
      rw [e]
      rcases one (s2_next vS (nI (p + 1))) (p + 1) (-1) (by omega) h rfl hc with ⟨b1, b2⟩ | b1
      · exact Or.inl ⟨b1, _, b2, rfl, rfl⟩
      · exact Or.inr b1
    · refine ⟨p, 1, Or.inr ⟨fun z => a1 z.2, rfl, rfl⟩, ?_⟩
      have e : fX2_readPart vS 45 = fX2_readPart_33 vS 1 := by
        unfold fX2_readPart; rw [if_neg (by decide), if_pos rfl, a2, Option.bind_some, if_pos (show (0 : Int32) = 0 from rfl)]
      rw [e]
      rcases one vS p 1 (by omega) h hn hc with ⟨b1, b2⟩ | b1
      · exact Or.inl ⟨b1, vS, b2, rfl, hn⟩
      · exact Or.inr b1
theorem one_mul32 (z : Int32) : (1 : Int32) * z = z := Int32.one_mul z
theorem neg_mul32 (z : Int32) : (-1 : Int32) * z = -z := by
  have := Int32.neg_mul (a := 1) (b := z)
  rw [this, Int32.one_mul]
/-- both read a number and what stands behind it -/
theorem pair_ok {vS : BX2} {M : BX4} {t : Nat} {ch : Nat → Int32} (h : TxC vS t ch) (hR : TxR M t ch) (ht : t ≤ 60) (sx : Nat) (c : Int32) (many k p n m : Nat) (hk : k < many) (hm : many ≤ 3) (hl : 2 * k + 1 < lenT.getD sx 0) (hl8 : lenT.getD sx 0 < 100)
    (ha : scC sx (nI (2 * k)) = (if c = 102 then (if k = 1 then 45 else 48) else 48)) (hb : scC sx (nI (2 * k + 1)) = (if k + 1 = many then 59 else 44)) (hp : p < 300) (hn : p2_next vS = nI p) (hs : p4_spot M = nI p) (hc : p2_numberCount vS = nI k) :
    (∃ vS' M' e, fX2_isOfForm_38 sx (n + 2) vS (nI (2 * k)) = some (0, vS') ∧ fX4_isForm_43 (m + 2) M c (nI many) 1 (nI k) = some (0, M') ∧ fS vS' = fS vS ∧ iM M' = iM M ∧ p2_next vS' = nI e ∧ p4_spot M' = nI e ∧ p ≤ e ∧ (p ≤ t → e ≤ t)) ∨
    (∃ vS' M' e z v, fX2_isOfForm_38 sx (n + 2) vS (nI (2 * k)) = fX2_isOfForm_38 sx n vS' (nI (2 * (k + 1))) ∧ fX4_isForm_43 (m + 2) M c (nI many) 1 (nI k) = fX4_isForm_43 (m + 1) M' c (nI many) 1 (nI (k + 1)) ∧ fS vS' = fS vS ∧ iM M' = iM M ∧ p2_next vS' = nI e ∧ p4_spot M' = nI e ∧ p < e ∧ e ≤ t ∧
      p2_numberCount vS' = nI (k + 1) ∧ p2_numbers vS' = upd (p2_numbers vS) k z ∧ p4_told M' k = z ∧ (∀ i, i ≠ k → p4_told M' i = p4_told M i) ∧ v ≤ 99 ∧ (z = nI v ∨ (negB c k ∧ z = -nI v))) := by
  have hx48 : scC sx (nI (2 * k)) = 48 ∨ scC sx (nI (2 * k)) = 45 := by
    rw [ha]
    by_cases q : c = 102
    · rw [if_pos q]
      by_cases q2 : k = 1
      · rw [if_pos q2]; exact Or.inr rfl
      · rw [if_neg q2]; exact Or.inl rfl
    · rw [if_neg q]; exact Or.inl rfl
  have hneg : scC sx (nI (2 * k)) = 45 ↔ negB c k := by
    rw [ha]
    unfold negB
    by_cases q : c = 102
    · rw [if_pos q]
      by_cases q2 : k = 1
      · rw [if_pos q2]; exact ⟨fun _ => ⟨q, q2⟩, fun _ => rfl⟩
      · rw [if_neg q2]; exact ⟨fun z => absurd z (by decide), fun z => absurd z.2 q2⟩
    · rw [if_neg q]; exact ⟨fun z => absurd z (by decide), fun z => absurd z.1 q⟩
  have hsep : scC sx (nI (2 * k + 1)) = 44 ∨ scC sx (nI (2 * k + 1)) = 59 := by
    rw [hb]
    split
    · exact Or.inr rfl
    · exact Or.inl rfl
  obtain ⟨x, hx⟩ : ∃ x, x = scC sx (nI (2 * k + 1)) := ⟨_, rfl⟩
  rw [← hx] at hsep hb
  have i3 : inB (nI k) 3 = true := inB_nI (by omega) (by omega)
  have kc : (nI k).toNatClampNeg = k := nI_clamp (by omega)
  -- the reference from p1 on
  have ref99 : ∀ (W : BX4) (st : Int32) (kk : BX4 → Int32 → Int32 → Int32 → Int32 → Option (Int32 × BX4)), fX4_isForm_79 kk W c (nI many) (nI k) st = fX4_isForm_99 kk W c (nI many) (nI k) st (nI k) x := by
    intro W st kk
    unfold fX4_isForm_79
    obtain ⟨m', rfl⟩ : ∃ m', many = m' + 1 := ⟨many - 1, by omega⟩
    rw [nI_pred]
    by_cases q : k = m'
    · rw [if_pos (by rw [q]), hb, if_pos (by omega)]
    · rw [if_neg (fun z => q ((nI_eq (by omega) (by omega)).mp z)), hb, if_neg (by omega)]
  have refgo : ∀ (W : BX4) (p1 : Nat) (st : Int32), p1 < 400 → TxR W t ch → p4_spot W = nI p1 → (st = 0 ∨ st = 1) →
      (¬ digQ t ch p1 ∧ ∃ M', fX4_isForm_79 (fX4_isForm_43 (m + 1)) W c (nI many) (nI k) st = some (0, M') ∧ iM M' = iM W ∧ p4_spot M' = nI p1) ∨
      ∃ q v, rdP t ch p1 q v ∧ ((¬ (q < t ∧ ch q = x) ∧ ∃ M', fX4_isForm_79 (fX4_isForm_43 (m + 1)) W c (nI many) (nI k) st = some (0, M') ∧ iM M' = iM W ∧ p4_spot M' = nI q) ∨
        (q < t ∧ ch q = x ∧ ∃ M', fX4_isForm_79 (fX4_isForm_43 (m + 1)) W c (nI many) (nI k) st = fX4_isForm_43 (m + 1) M' c (nI many) 1 (nI (k + 1)) ∧ iM M' = iM W ∧ p4_spot M' = nI (q + 1) ∧ p4_told M' k = (if st = 0 then nI v else -nI v) ∧ ∀ i, i ≠ k → p4_told M' i = p4_told W i)) := by
    intro W p1 st hp1 hW hWs hst
    have fin : ∀ (b : Int32) (N : BX4), (b = 0 ∨ b = 1) → fX4_number W (nI k) x = some (b, N) → ∃ N', fX4_isForm_79 (fX4_isForm_43 (m + 1)) W c (nI many) (nI k) st = fX4_isForm_43 (m + 1) N' c (nI many) b (nI (k + 1)) ∧ N' = s4_told N (upd (p4_told N) k (if st = 0 then p4_told N k else -(p4_told N k))) := by
      intro b N hb1 hN
      refine ⟨_, ?_, rfl⟩
      rw [ref99]
      unfold fX4_isForm_99 fX4_isForm_132
      rw [hN, Option.bind_some, elet_eq, if_pos i3, if_pos i3, kc, if_pos i3]
      simp only [elet_eq]
      rw [nI_1]
      rcases hst with rfl | rfl
      · rw [if_pos rfl, if_pos rfl]
      · rw [if_neg (show ¬ (1 : Int32) = 0 from by decide), if_neg (show ¬ (1 : Int32) = 0 from by decide), if_pos i3]
    have stop : ∀ N' : BX4, fX4_isForm_43 (m + 1) N' c (nI many) 0 (nI (k + 1)) = some (0, N') := by
      intro N'
      rw [f43_u]
      unfold fX4_isForm_43_b
      by_cases q : nI many ≤ nI (k + 1)
      · rw [if_pos q]; rfl
      · rw [if_neg q, if_pos rfl]; rfl
    rcases num_v hW ht p1 (by omega) hWs k (by omega) x with ⟨a1, N, a2, a3, a4⟩ | ⟨q, v, a1, a2⟩
    · left
      obtain ⟨N', b1, b2⟩ := fin 0 N (Or.inl rfl) a2
      refine ⟨a1, N', by rw [b1, stop], by rw [b2, iM_told]; exact a3, by rw [b2, gs4_spot_told]; exact a4⟩
    · right
      refine ⟨q, v, a1, ?_⟩
      rcases a2 with ⟨a2, N, a3, a4, a5⟩ | ⟨a2, a3, N, a4, a5, a6, a7, a8⟩
      · left
        obtain ⟨N', b1, b2⟩ := fin 0 N (Or.inl rfl) a3
        exact ⟨a2, N', by rw [b1, stop], by rw [b2, iM_told]; exact a4, by rw [b2, gs4_spot_told]; exact a5⟩
      · right
        obtain ⟨N', b1, b2⟩ := fin 1 N (Or.inr rfl) a4
        refine ⟨a2, a3, N', b1, by rw [b2, iM_told]; exact a5, by rw [b2, gs4_spot_told]; exact a6, ?_, ?_⟩
        · rw [b2, gs4_told_told, pk_us, a7]
        · intro i hi; rw [b2, gs4_told_told, pk_un hi]; exact a8 i hi
  -- the reference up to p1
  have refhead : ∀ p1 : Nat, ((negB c k ∧ p < t ∧ ch p = 45 ∧ p1 = p + 1) ∨ (¬ (negB c k ∧ p < t ∧ ch p = 45) ∧ p1 = p)) → ∃ W st, (st = 0 ∨ st = 1) ∧ (st = 0 ↔ p1 = p) ∧ fX4_isForm_43 (m + 2) M c (nI many) 1 (nI k) = fX4_isForm_79 (fX4_isForm_43 (m + 1)) W c (nI many) (nI k) st ∧ iM W = iM M ∧ p4_spot W = nI p1 ∧ p4_told W = p4_told M := by
    intro p1 hp1
    have h0 : fX4_isForm_43 (m + 2) M c (nI many) 1 (nI k) = (if c = (102 : Int32) then (if nI k = (1 : Int32) then ((fX4_passes M (45 : Int32)).bind (fun y7 => if y7.1 = 0 then (fX4_isForm_78 (fX4_isForm_43 (m + 1)) y7.2 c (nI many) (nI k)) else (fX4_isForm_79 (fX4_isForm_43 (m + 1)) y7.2 c (nI many) (nI k) (1 : Int32)))) else (fX4_isForm_78 (fX4_isForm_43 (m + 1)) M c (nI many) (nI k))) else (fX4_isForm_78 (fX4_isForm_43 (m + 1)) M c (nI many) (nI k))) := by
      rw [show m + 2 = (m + 1) + 1 by omega, f43_u]
      generalize fX4_isForm_43 (m + 1) = kk
      unfold fX4_isForm_43_b
      rw [if_neg (nlec hk (by omega)), if_neg (show ¬ (1 : Int32) = 0 from by decide)]
    rw [h0]
    unfold fX4_isForm_78
    by_cases q : negB c k
    · obtain ⟨q1, q2⟩ := q
      rw [if_pos q1, if_pos (show nI k = 1 by rw [q2]; rfl)]
      rcases pass_v hR ht p (by omega) hs 45 with ⟨a1, a2, a3⟩ | ⟨a1, a2⟩
      · have : p1 = p + 1 := by
          rcases hp1 with z | z
          · exact z.2.2.2
          · exact absurd ⟨⟨q1, q2⟩, a1, a2⟩ z.1
        rw [a3, Option.bind_some, if_neg (show ¬ (1 : Int32) = 0 from by decide)]
        exact ⟨_, 1, Or.inr rfl, ⟨fun z => absurd z (by decide), fun z => by omega⟩, rfl, iM_spot _ _, by rw [gs4_spot_spot, this], gs4_told_spot _ _⟩
      · have : p1 = p := by
          rcases hp1 with z | z
          · exact absurd ⟨z.2.1, z.2.2.1⟩ a1
          · exact z.2
        rw [a2, Option.bind_some, if_pos (show (0 : Int32) = 0 from rfl)]
        exact ⟨_, 0, Or.inl rfl, ⟨fun _ => this, fun _ => rfl⟩, rfl, iM_spot _ _, by rw [gs4_spot_spot, this], gs4_told_spot _ _⟩
    · have : p1 = p := by
        rcases hp1 with z | z
        · exact absurd z.1 q
        · exact z.2
      have e : (if c = (102 : Int32) then (if nI k = (1 : Int32) then ((fX4_passes M (45 : Int32)).bind (fun y7 => if y7.1 = 0 then (fX4_isForm_79 (fX4_isForm_43 (m + 1)) y7.2 c (nI many) (nI k) 0) else (fX4_isForm_79 (fX4_isForm_43 (m + 1)) y7.2 c (nI many) (nI k) (1 : Int32)))) else (fX4_isForm_79 (fX4_isForm_43 (m + 1)) M c (nI many) (nI k) 0)) else (fX4_isForm_79 (fX4_isForm_43 (m + 1)) M c (nI many) (nI k) 0)) = fX4_isForm_79 (fX4_isForm_43 (m + 1)) M c (nI many) (nI k) 0 := by
        by_cases q1 : c = 102
        · rw [if_pos q1, if_neg (show ¬ nI k = (1 : Int32) from fun z => q ⟨q1, (nI_eq (by omega) (by omega)).mp (show nI k = nI 1 from z)⟩)]
        · rw [if_neg q1]
      rw [e]
      exact ⟨M, 0, Or.inl rfl, ⟨fun _ => this, fun _ => rfl⟩, rfl, rfl, by rw [hs, this], rfl⟩
  obtain ⟨p1, sg, hsg, hcl⟩ := part_n h ht p (by omega) hn k (by omega) hc _ hx48
  have hp1 : (negB c k ∧ p < t ∧ ch p = 45 ∧ p1 = p + 1) ∨ (¬ (negB c k ∧ p < t ∧ ch p = 45) ∧ p1 = p) := by
    rcases hsg with ⟨z1, z2, z3, z4, -⟩ | ⟨z1, z2, -⟩
    · exact Or.inl ⟨hneg.mp z1, z2, z3, z4⟩
    · exact Or.inr ⟨fun y => z1 ⟨hneg.mpr y.1, y.2⟩, z2⟩
  have pp1 : p ≤ p1 ∧ p1 ≤ p + 1 ∧ (p ≤ t → p1 ≤ t) := by
    rcases hp1 with z | z
    · have := z.2.2.2; have := z.2.1; omega
    · have := z.2; omega
  obtain ⟨W, st, w1, w2, w3, w4, w5, w6⟩ := refhead p1 hp1
  have hW : TxR W t ch := iM_tx w4 hR
  have rg := refgo W p1 st (by omega) hW w5 w1
  rw [w3]
  rcases hcl with ⟨d0, vS', r1, r2, r3⟩ | ⟨q, v, vS', r0, rv, rq, rt, r1, r2, r3, r4, r5⟩
  · left
    rcases rg with ⟨-, M', g1, g2, g3⟩ | ⟨q, v, g1, -⟩
    · refine ⟨vS', M', p1, ?_, g1, r2, g2.trans w4, r3, g3, by omega, pp1.2.2⟩
      rw [show n + 2 = (n + 1) + 1 by omega, c38_u, c38_s sx (2 * k) (by omega) hl8 _ vS vS' 0 r1, if_pos rfl]
    · exfalso
      rcases g1 with g1 | g1
      · exact d0 g1.1
      · exact d0 g1.1
  · rcases rg with ⟨g0, -⟩ | ⟨q', v', g1, g2⟩
    · exfalso
      rcases r0 with r0 | r0
      · exact g0 r0.1
      · exact g0 r0.1
    · obtain ⟨eq1, ev1⟩ := rd_one r0 g1
      subst eq1 ev1
      have hC : TxC vS' t ch := fS_tx r2 h
      have e1 : ∀ n', fX2_isOfForm_38 sx (n' + 1) vS (nI (2 * k)) = fX2_isOfForm_38 sx n' vS' (nI (2 * k + 1)) := by
        intro n'
        rw [c38_u, c38_s sx (2 * k) (by omega) hl8 _ vS vS' 1 r1, if_neg (by decide)]
      rcases part_c hC ht q (by omega) r3 x hsep with ⟨c1, c2, c3⟩ | ⟨c1, c2⟩
      · right
        rcases g2 with ⟨g2, -⟩ | ⟨-, -, M', g3, g4, g5, g6, g7⟩
        · exact absurd ⟨c1, c2⟩ g2
        · refine ⟨s2_next vS' (nI (q + 1)), M', q + 1, sg * nI v, v, ?_, g3, r2, g4.trans w4, rfl, g5, by omega, by omega, r4, r5, ?_, ?_, rv, ?_⟩
          · rw [show n + 2 = (n + 1) + 1 by omega, e1, c38_u, c38_s sx (2 * k + 1) hl hl8 _ vS' (s2_next vS' (nI (q + 1))) 1 (by rw [← hx]; exact c3), if_neg (by decide)]
            rfl
          · rw [g6]
            rcases hsg with ⟨-, -, -, z4, z5⟩ | ⟨-, z4, z5⟩
            · rw [if_neg (fun y => by have := w2.mp y; omega), z5, neg_mul32]
            · rw [if_pos (w2.mpr z4), z5, one_mul32]
          · intro i hi; rw [g7 i hi, w6]
          · rcases hsg with ⟨z1, -, -, -, z5⟩ | ⟨-, -, z5⟩
            · exact Or.inr ⟨hneg.mp z1, by rw [z5, neg_mul32]⟩
            · exact Or.inl (by rw [z5, one_mul32])
      · left
        rcases g2 with ⟨-, M', g3, g4, g5⟩ | ⟨g2, g3, -⟩
        · refine ⟨vS', M', q, ?_, g3, r2, g4.trans w4, r3, g5, by omega, fun _ => rt⟩
          rw [show n + 2 = (n + 1) + 1 by omega, e1, c38_u, c38_s sx (2 * k + 1) hl hl8 _ vS' vS' 0 (by rw [← hx]; exact c2), if_pos rfl]
        · exact absurd ⟨g2, g3⟩ c1
