/-! isSo holds of the row at rest -/
section IE
variable {s g k : Nat → Int32} {vA : BX0} {vS : BX2} {n : Nat} {X' : BX3} {R1 : BX1} {u y : Nat → Int} {l D : Int} {p : Nat} {vu : Nat → Int64}
theorem iso627 (c : CT s vA vS n X' R1 u l) (hv : Liv s g k p) (hp : s 1 = nI p) (hp4 : p ≤ 4) (vu : Nat → Int64) (ve : Nat → Int32) {X : BX3} {R : BX1} (hJ : JJ s vA vS n X' R1 X R) : fL_isSo_627 X vA R vS g k vu ve (nI p) (accS s p) (accQ s p + 1000) 1 = some (1, X, R) := by
  have hL := c.1
  have hS0 : p2_size vS = 0 := hJ.2.2.2.2.1
  unfold fL_isSo_627
  rw [if_neg (by decide), plates_5, Option.bind_some, if_pos rfl]
  show (fX3_count X vA vS 0).bind _ = _
  rw [cnt_0 hL, Option.bind_some, if_pos hp, cnt_1 hL, Option.bind_some, cl0, if_pos hv.1.symm, cnt_2 hL c.2.1 hp hp4, Option.bind_some, if_pos rfl, cnt_3 hL hp hp4, Option.bind_some, if_pos rfl, cnt_5 hS0, Option.bind_some, if_pos rfl, place_n hL hp hp4, Option.bind_some, if_pos rfl]
  show (fX3_push X vA R (nI p) 0).bind _ = _
  rw [push_n hL hp hp4, Option.bind_some, if_pos rfl, nI_1]
  show (fX3_pull X vA R (nI (p + 1)) 0).bind _ = _
  rw [pull_n hL hp hp4, Option.bind_some, if_pos rfl]
  show (fX3_pull X vA R 0 2).bind _ = _
  rw [pull_2 hL hp hp4, Option.bind_some, if_pos rfl]
theorem iso589 (c : CT s vA vS n X' R1 u l) (h : LR vA s g k p vu y D) (eq : ∀ i, i ≤ p + 1 → D * u i = l * y i) (ve : Nat → Int32) (hE : EV (syO s) s y D p 0 ve) : ∀ d j, j + d = 5 → ∀ (m : Nat) (X : BX3) (R : BX1), JJ s vA vS n X' R1 X R → ∃ X2 R2, fL_isSo_589 (m + d + 1) X vA R vS g k vu ve (nI p) (accS s p) (accQ s p + 1000) 1 (nI j) = some (1, X2, R2) ∧ JJ s vA vS n X' R1 X2 R2 := by
  have p4 := h.p4
  have hn := h.n
  intro d
  induction d with
  | zero =>
    intro j hj m X R hJ
    obtain rfl : j = 5 := by omega
    refine ⟨X, R, ?_, hJ⟩
    show fL_isSo_589_b (fL_isSo_589 (m + 0)) X vA R vS g k vu ve (nI p) (accS s p) (accQ s p + 1000) 1 (nI 5) = _
    unfold fL_isSo_589_b
    rw [if_pos (show (5 : Int32) ≤ nI 5 from Int32.le_refl _)]
    exact iso627 c h.lv h.s1 p4 vu ve hJ
  | succ d ih =>
    intro j hj m X R hJ
    obtain ⟨X2, R2, r1, r2⟩ := ih (j + 1) (by omega) m X' R1 (ct_self c)
    refine ⟨X2, R2, ?_, r2⟩
    rw [← r1]
    have ee : setN (bitP (syO s) s u l j) p = setN (bitP (syO s) s y D j) p := setN_congr p (fun i hi => bitP_hom c.2.2.2.1.pos h.D0 (fun a ha => eq a (by omega)) j i (by omega))
    have ev := hE j (by omega)
    rw [if_neg (by omega)] at ev
    show fL_isSo_589_b (fL_isSo_589 (m + d + 1)) X vA R vS g k vu ve (nI p) (accS s p) (accQ s p + 1000) 1 (nI j) = _
    unfold fL_isSo_589_b fL_isSo_619
    rw [if_neg (show ¬ (5 : Int32) ≤ nI j from show ¬ nI 5 ≤ nI j from nlec (by omega) (by omega)), if_neg (by decide), plates_c c hJ h.s1 p4 j (by omega), Option.bind_some, if_pos (inB_nI (by omega) (by omega)), nI_clamp (by omega), ev, ee, if_pos rfl, elet_eq, nI_1]
end IE
theorem St_isSo0 : St_isSo Sim24 := by
  intro vX n pv vA vB vR vS g k hs
  obtain ⟨s, h, p, hp, hp4, hl⟩ := hs
  obtain ⟨X', R1, u, l, c, hJ⟩ := ct_ex h
  obtain ⟨D, y, vu', X2, R2, q1, q2, q3, q4⟩ := rests_v c g k hl hp hp4 (fun _ => 0) hJ
  obtain ⟨m1, hm1⟩ := FU_ex (p + 1 + 1) (by omega)
  obtain ⟨m2, hm2⟩ := FU_ex (p + 1) (by omega)
  obtain ⟨m3, hm3⟩ := FU_ex (5 + 1) (by omega)
  have e586 : ∀ (X : BX3) (R : BX1) (ve : Nat → Int32), JJ s vA vS n X' R1 X R → EV (syO s) s y D p 0 ve → ∃ X3 R3, fL_isSo_586 X vA R vS g k vu' ve (nI p) (accS s p) (accQ s p + 1000) 1 = some (1, X3, R3) ∧ JJ s vA vS n X' R1 X3 R3 := by
    intro X R ve h1 h2
    obtain ⟨X3, R3, r1, r2⟩ := iso589 c q3 q4 ve h2 5 0 (by omega) m3 X R h1
    refine ⟨X3, R3, ?_, r2⟩
    rw [← r1]
    unfold fL_isSo_586
    rw [hm3]
    rfl
  have hE0 : EV (syO s) s y D 0 0 (fun _ => (0 : Int32)) := fun w hw => rfl
  have e93 : ∀ (X : BX3) (R : BX1), JJ s vA vS n X' R1 X R → ∃ X3 R3, fL_isSo_93 X vA R vS g k vu' (fun _ => 0) (nI p) 0 1000 (nL D) 1 = some (1, X3, R3) ∧ JJ s vA vS n X' R1 X3 R3 := by
    intro X R h1
    have e := iso96 (P := fun r => ∃ X3 R3, r = some (1, X3, R3) ∧ JJ s vA vS n X' R1 X3 R3) c q3 q4 e586 p 0 (by omega) m2 X R (fun _ => 0) h1 hE0
    have hm2' : FU = m2 + p + 1 := hm2
    rw [← hm2'] at e
    exact e
  obtain ⟨X4, R4, r1, r2⟩ := iso44 c q3 q4 (fun _ => 0) (p + 1) 0 (by omega) m1 X2 R2 q2
  obtain ⟨X5, R5, t1, t2⟩ := e93 X4 R4 r1
  have hm1' : FU = m1 + (p + 1) + 1 := hm1
  rw [← hm1'] at r2
  have e : fL_isSo vX vA vR vS g k = some (1, X5, R5) := by
    unfold fL_isSo
    rw [elet_eq, elet_eq, elet_eq, cl1, hl.2.1, hp, q1, Option.bind_some, elet_eq]
    show (fL_rest g k vu' (nL D)).bind _ = _
    rw [rest_one24 q3, Option.bind_some]
    exact r2.trans t1
  exact ⟨_, e, rfl, s, t2.2, p, hp, hp4, hl⟩
theorem St_count0 : St_count Sim24 := fun _ _ _ _ _ _ _ _ _ _ => ⟨cnt_6, cnt_m⟩
theorem hSn24 : ∀ (vX : BX3) (n : Nat) (pv : Nat → BX0) (vA vB : BX0) (vR : BX1) (vS : BX2) (vg vk : Nat → Int32), Sim24 vX n pv vA vB vR vS vg vk → n ≤ 4 := by
  intro vX n pv vA vB vR vS vg vk h
  obtain ⟨s, h, -⟩ := h
  exact h.n4
def s0S : Nat → Int32 := upd (upd (upd (fun _ => 0) 0 60) 2 1) 7 10
theorem hInit24 : ∃ y, fX3_init = some y ∧ ∀ pv : Nat → BX0, Sim24 y.1 0 pv y.2.1 y.2.2.1 y.2.2.2.1 y.2.2.2.2.2 (upd (fun _ => 0) 0 60) (upd (upd (fun _ => 0) 0 1) 5 10) := by
  refine ⟨_, rfl, fun pv => ⟨s0S, ⟨⟨rfl, rfl, ?_, ?_, ?_, ?_, ?_⟩, ⟨60, 0, rfl, rfl, by omega, by omega, by omega, ?_, fun k hk => by omega, fun i j _ hj => by omega⟩, ⟨0, by omega, by omega, rfl⟩, rfl, Or.inl rfl⟩, 0, rfl, by omega, rfl, rfl, ?_, fun j hj => by omega⟩⟩
  · intro k hk
    rcases (show k = 0 ∨ k = 1 ∨ k = 2 ∨ k = 3 ∨ k = 4 by omega) with rfl | rfl | rfl | rfl | rfl <;> rfl
  · intro k hk
    rcases (show k = 0 ∨ k = 1 ∨ k = 2 ∨ k = 3 ∨ k = 4 by omega) with rfl | rfl | rfl | rfl | rfl <;> rfl
  · intro k hk
    rcases (show k = 0 ∨ k = 1 ∨ k = 2 ∨ k = 3 by omega) with rfl | rfl | rfl | rfl <;> rfl
  · intro k hk
    rcases (show k = 0 ∨ k = 1 ∨ k = 2 ∨ k = 3 by omega) with rfl | rfl | rfl | rfl <;> rfl
  · intro k hk
    rcases (show k = 0 ∨ k = 1 ∨ k = 2 ∨ k = 3 by omega) with rfl | rfl | rfl | rfl <;> rfl
  · intro k hk
    obtain rfl : k = 0 := by omega
    exact ⟨by decide, by decide, by decide, by decide⟩
  · intro j hj
    obtain rfl : j = 0 := by omega
    exact ⟨rfl, rfl⟩
