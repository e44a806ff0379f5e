/-! how far all plates move -/
def dsum (f : Nat → Int) : Nat → Int
  | 0 => 0
  | k + 1 => dsum f k + ((f (k + 1)).natAbs : Int)
theorem dsum_nn (f : Nat → Int) : ∀ n, 0 ≤ dsum f n := by
  intro n
  induction n with
  | zero => exact Int.le_refl 0
  | succ n ih => simp only [dsum]; omega
theorem dsum_le (f : Nat → Int) (b : Int) (n : Nat) (h : ∀ j, j ≤ n → ((f j).natAbs : Int) ≤ b) (b0 : 0 ≤ b) : dsum f n ≤ n * b := by
  induction n with
  | zero => simp [dsum]
  | succ n ih =>
    have := ih (fun j hj => h j (by omega))
    have := h (n + 1) (Nat.le_refl _)
    simp only [dsum]
    push_cast
    rw [Int.add_mul, Int.one_mul]
    omega
theorem dsum_eq {f g : Nat → Int} {x y : Int} (x0 : 0 < x) (y0 : 0 < y) (n : Nat) (h : ∀ j, j ≤ n → f j * x = g j * y) : dsum f n * x = dsum g n * y := by
  induction n with
  | zero => simp [dsum]
  | succ n ih =>
    have h1 := ih (fun j hj => h j (by omega))
    have h2 := h (n + 1) (Nat.le_refl _)
    have h3 : ((f (n + 1)).natAbs : Int) * x = ((g (n + 1)).natAbs : Int) * y := by
      rcases Int.le_total 0 (f (n + 1)) with q | q
      · have g0 : 0 ≤ g (n + 1) := by
          rcases Int.lt_or_le (g (n + 1)) 0 with z | z
          · have a1 := Int.mul_nonneg q (Int.le_of_lt x0)
            have a2 := Int.mul_neg_of_neg_of_pos z y0
            omega
          · exact z
        rw [Int.natAbs_of_nonneg q, Int.natAbs_of_nonneg g0]; exact h2
      · have g0 : g (n + 1) ≤ 0 := by
          rcases Int.lt_or_le 0 (g (n + 1)) with z | z
          · have a1 := Int.mul_pos z y0
            have a2 := Int.mul_nonneg (show 0 ≤ -(f (n + 1)) by omega) (Int.le_of_lt x0)
            rw [Int.neg_mul] at a2
            omega
          · exact z
        rw [show ((f (n + 1)).natAbs : Int) = -(f (n + 1)) by omega, show ((g (n + 1)).natAbs : Int) = -(g (n + 1)) by omega, Int.neg_mul, Int.neg_mul, h2]
    simp only [dsum]
    rw [Int.add_mul, Int.add_mul, h1, h3]
theorem df_u (k : Nat) : fX1_distanceFrom_5 (k + 1) = fX1_distanceFrom_5_b (fX1_distanceFrom_5 k) := rfl
theorem df_all {R1 R : BX1} {u1 u : Nat → Int} {l1 l : Int} {N : Nat} (hN : N ≤ 4) (a1 : p1_lower R1 = nL l1) (a2 : p1_lower R = nL l) (b1 : ∀ j, j ≤ N → p1_spots R1 j = nL (u1 j)) (b2 : ∀ j, j ≤ N → p1_spots R j = nL (u j)) (hi : ∀ j, j ≤ N → inL (u1 j * l - u j * l1)) :
    ∀ (d j n : Nat), j + d = N → fX1_distanceFrom_5 (n + d + 1) R1 R (nI N) (nL (dsum (fun j => u1 j * l - u j * l1) j)) (nI (j + 1)) = some (nL (dsum (fun j => u1 j * l - u j * l1) N)) := by
  intro d
  induction d with
  | zero =>
    intro j n hj
    obtain rfl : j = N := by omega
    rw [df_u]
    unfold fX1_distanceFrom_5_b
    rw [if_pos (ltc (by omega) (by omega))]
  | succ d ih =>
    intro j n hj
    have h := hi (j + 1) (by omega)
    rw [show n + (d + 1) + 1 = (n + d + 1) + 1 by omega, df_u]
    unfold fX1_distanceFrom_5_b
    rw [if_neg (nltc (by omega) (by omega)), if_pos (inB_nI (by omega) (by omega)), if_pos (inB_nI (by omega) (by omega)), nI_clamp (by omega), b1 (j + 1) (by omega), b2 (j + 1) (by omega), a1, a2, nL_mul, nL_mul, nL_sub, nL_abs h, nL_add]
    simp only [elet_eq]
    rw [nI_1]
    exact ih (j + 1) n (by omega)
theorem dist_v {R1 R : BX1} {u1 u : Nat → Int} {l1 l : Int} {N : Nat} (hN : N ≤ 4) (a1 : p1_lower R1 = nL l1) (a2 : p1_lower R = nL l) (b1 : ∀ j, j ≤ N → p1_spots R1 j = nL (u1 j)) (b2 : ∀ j, j ≤ N → p1_spots R j = nL (u j)) (hi : ∀ j, j ≤ N → inL (u1 j * l - u j * l1)) :
    fX1_distanceFrom R1 R (nI N) = some (nL (dsum (fun j => u1 j * l - u j * l1) N)) := by
  obtain ⟨k, hk⟩ := FU_ex (N + 1) (by omega)
  unfold fX1_distanceFrom
  rw [hk, show k + (N + 1) = k + N + 1 by omega]
  exact df_all hN a1 a2 b1 b2 hi N 0 k (by omega)
/-- rows of two states of one width -/
theorem diff_bd {S1 S : Sy} {u1 u : Nat → Int} {l1 l : Int} (h1 : RowIn S1 u1 l1) (h : RowIn S u l) (w1 : S1.W ≤ 99) (w : S.W ≤ 99) (b1 : l1 ≤ 104976) (b : l ≤ 104976) (j : Nat) (j1 : j ≤ S1.n + 1) (j2 : j ≤ S.n + 1) : ((u1 j * l - u j * l1).natAbs : Int) ≤ 1091001199999 := by
  have p1 := h1.pos
  have p := h.pos
  obtain ⟨c1, c2⟩ := row_bd h1 j j1
  obtain ⟨d1, d2⟩ := row_bd h j j2
  have e1 : S1.W * l1 ≤ 99 * l1 := Int.mul_le_mul_of_nonneg_right w1 (by omega)
  have e2 : S.W * l ≤ 99 * l := Int.mul_le_mul_of_nonneg_right w (by omega)
  have ll : l1 * l ≤ 104976 * 104976 := Int.le_trans (Int.mul_le_mul_of_nonneg_right b1 (by omega)) (Int.mul_le_mul_of_nonneg_left b (by omega))
  have f1 : u1 j * l ≤ (99 * l1) * l := Int.mul_le_mul_of_nonneg_right (by omega) (by omega)
  have f2 : u j * l1 ≤ (99 * l) * l1 := Int.mul_le_mul_of_nonneg_right (by omega) (by omega)
  have f3 : 0 ≤ u1 j * l := Int.mul_nonneg c1 (by omega)
  have f4 : 0 ≤ u j * l1 := Int.mul_nonneg d1 (by omega)
  have g1 : (99 * l1) * l = 99 * (l1 * l) := Int.mul_assoc _ _ _
  have g2 : (99 * l) * l1 = 99 * (l1 * l) := by rw [Int.mul_assoc, Int.mul_comm l l1]
  omega
def rzk (M : BX4) := (p4_s M, p4_past M, p4_pasts M, p4_runs M, p4_text M, p4_typed M, p4_kept M, p4_keptLower M)
theorem rzk_of {M M' : BX4} (h : rz M' = rz M) : rzk M' = rzk M := congrArg (fun z => (z.1, z.2.1, z.2.2.2.1, z.2.2.2.2.1, z.2.2.2.2.2.1, z.2.2.2.2.2.2.1, z.2.2.2.2.2.2.2.1, z.2.2.2.2.2.2.2.2.1)) h
theorem rzk_s {M M' : BX4} (h : rzk M' = rzk M) : p4_s M' = p4_s M := congrArg (fun z => z.1) h
theorem rzk_kept {M M' : BX4} (h : rzk M' = rzk M) : p4_kept M' = p4_kept M := congrArg (fun z => z.2.2.2.2.2.2.1) h
theorem rzk_kl {M M' : BX4} (h : rzk M' = rzk M) : p4_keptLower M' = p4_keptLower M := congrArg (fun z => z.2.2.2.2.2.2.2) h
def rz6 (M : BX4) := (p4_s M, p4_past M, p4_pasts M, p4_runs M, p4_text M, p4_typed M)
theorem rz6_k {M M' : BX4} (h : rzk M' = rzk M) : rz6 M' = rz6 M := congrArg (fun z => (z.1, z.2.1, z.2.2.1, z.2.2.2.1, z.2.2.2.2.1, z.2.2.2.2.2.1)) h
theorem sim_6 {vX : BX3} {n : Nat} {pv : Nat → BX0} {vA vB vB' : BX0} {vR vT vT' : BX1} {vS : BX2} {vM M' : BX4} (h : Sim0 vX n pv vA vB vR vT vS vM) (e : rz6 M' = rz6 vM) : Sim0 vX n pv vA vB' vR vT' vS M' := by
  have e1 : p4_s M' = p4_s vM := congrArg (fun z => z.1) e
  have e2 : p4_past M' = p4_past vM := congrArg (fun z => z.2.1) e
  have e3 : p4_pasts M' = p4_pasts vM := congrArg (fun z => z.2.2.1) e
  have e4 : p4_runs M' = p4_runs vM := congrArg (fun z => z.2.2.2.1) e
  have e5 : p4_text M' = p4_text vM := congrArg (fun z => z.2.2.2.2.1) e
  have e6 : p4_typed M' = p4_typed vM := congrArg (fun z => z.2.2.2.2.2) e
  unfold Sim0 at h ⊢
  rw [e1, e2, e3, e4, e5, e6]
  exact h
theorem m30_u (k : Nat) : fX4_moves_30 (k + 1) = fX4_moves_30_b (fX4_moves_30 k) := rfl
theorem m30_all {s : Nat → Int32} {N : Nat} (hs : s 1 = nI N) (hN : N ≤ 4) {M : BX4} (hM : p4_s M = s) {v1 v : Nat → Int} {m1 m : Int} (a1 : p4_lower M = nL m1) (a2 : p4_keptLower M = nL m) (b1 : ∀ p, p < N → p4_upper M p = nL (v1 (p + 1))) (b2 : ∀ p, p < N → p4_kept M p = nL (v (p + 1))) (hi : ∀ j, j ≤ N → inL (v1 j * m - v j * m1)) :
    ∀ (d j n : Nat), j + d = N → fX4_moves_30 (n + d + 1) M (nL (dsum (fun j => v1 j * m - v j * m1) j)) (nI j) = fX4_moves_30_b (fX4_moves_30 n) M (nL (dsum (fun j => v1 j * m - v j * m1) N)) (nI N) := by
  intro d
  induction d with
  | zero =>
    intro j n hj
    obtain rfl : j = N := by omega
    rw [show n + 0 + 1 = n + 1 by omega, m30_u]
  | succ d ih =>
    intro j n hj
    have h := hi (j + 1) (by omega)
    have st : fX4_moves_30 (n + (d + 1) + 1) M (nL (dsum (fun j => v1 j * m - v j * m1) j)) (nI j) = fX4_moves_30 (n + d + 1) M (nL (dsum (fun j => v1 j * m - v j * m1) (j + 1))) (nI (j + 1)) := by
      rw [show n + (d + 1) + 1 = (n + d + 1) + 1 by omega, m30_u]
      generalize fX4_moves_30 (n + d + 1) = kk
      unfold fX4_moves_30_b fX4_moves_84
      rw [cl1, hM, hs, if_neg (nlec (by omega) (by omega)), if_pos (inB_nI (by omega) (by omega)), if_pos (inB_nI (by omega) (by omega)), nI_clamp (by omega), b1 j (by omega), b2 j (by omega), a1, a2, nL_mul, nL_mul, nL_sub]
      simp only [elet_eq]
      rw [nI_1]
      simp only [dsum]
      by_cases q : 0 ≤ v1 (j + 1) * m - v (j + 1) * m1
      · rw [if_pos (show 0 ≤ lg_cmp (nL (v1 (j + 1) * m - v (j + 1) * m1)) 0 from (cmp_ge0 h inL_0).mpr q), nL_add, Int.natAbs_of_nonneg q]
      · rw [if_neg (show ¬ 0 ≤ lg_cmp (nL (v1 (j + 1) * m - v (j + 1) * m1)) 0 from fun z => q ((cmp_ge0 h inL_0).mp z)), nL_neg, nL_add, show ((v1 (j + 1) * m - v (j + 1) * m1).natAbs : Int) = -(v1 (j + 1) * m - v (j + 1) * m1) by omega]
    rw [st]
    exact ih (j + 1) n (by omega)
theorem rzk_far (M : BX4) (a b : Int64) : rzk (s4_farDown (s4_farUp M a) b) = rzk M := by
  unfold rzk
  simp only [gs4_s_farDown, gs4_s_farUp, gs4_past_farDown, gs4_past_farUp, gs4_pasts_farDown, gs4_pasts_farUp, gs4_runs_farDown, gs4_runs_farUp, gs4_text_farDown, gs4_text_farUp, gs4_typed_farDown, gs4_typed_farUp, gs4_kept_farDown, gs4_kept_farUp, gs4_keptLower_farDown, gs4_keptLower_farUp]
theorem moves_ok {s : Nat → Int32} (hG : Good s) {p : Nat} (g2 : s 1 = nI p) (g5 : p ≤ 4) (k c : Nat) (hk : k < p) (hc : c < 2) (hG1 : Good (upd s (16 + 4 * c + k) (-1))) {M : BX4} (hM : p4_s M = s) {v : Nat → Int} {m : Int} (hv : RestT (syO s) v m) (hm : m ≤ 104976) (a2 : p4_keptLower M = nL m) (b2 : ∀ j, j < p → p4_kept M j = nL (v (j + 1))) :
    ∃ (M' : BX4) (v1 : Nat → Int) (m1 U V g : Int), fX4_moves M (nI (16 + 4 * c + k)) = some M' ∧ rzk M' = rzk M ∧ RestT (syO (upd s (16 + 4 * c + k) (-1))) v1 m1 ∧ m1 ≤ 104976 ∧ p4_farUp M' = nL U ∧ p4_farDown M' = nL V ∧
      dsum (fun j => v1 j * m - v j * m1) p = g * U ∧ m1 * m = g * V ∧ Int.gcd U V = 1 ∧ 0 < V ∧ 0 < g ∧ 0 ≤ U ∧ U < 10000000000000 ∧ V < 10000000000000 := by
  obtain ⟨M1, v1, m1, r1, r2, r3, r4, r5, r6⟩ := rw_ok (M := M) hG1
  have hS := gdS_of hG
  have hS1 := gdS_of hG1
  have hn : (syO s).n = p := syO_p g2 g5
  have hn1 : (syO (upd s (16 + 4 * c + k) (-1))).n = p := syO_p (by rw [pk_un (by omega)]; exact g2) g5
  have e4 : inB (nI (16 + 4 * c + k)) 24 = true := inB_nI (by omega) (by omega)
  have e5 : (nI (16 + 4 * c + k)).toNatClampNeg = 16 + 4 * c + k := nI_clamp (by omega)
  have hb : upd (p4_s M1) (16 + 4 * c + k) (s (16 + 4 * c + k)) = s := by rw [r2]; exact upd_back _ _ _
  have hz : rz (s4_s M1 s) = rz M := by have := rz_back r3; rw [hM] at this; exact this
  have hd : ∀ j, j ≤ p → ((v1 j * m - v j * m1).natAbs : Int) ≤ 1091001199999 := fun j hj => diff_bd r5.toRowIn hv.toRowIn hS1.W1 hS.W1 r6 hm j (by omega) (by omega)
  have hi : ∀ j, j ≤ p → inL (v1 j * m - v j * m1) := fun j hj => by have := hd j hj; exact ⟨by omega, by omega⟩
  have hE := dsum_le (fun j => v1 j * m - v j * m1) 1091001199999 p hd (by decide)
  have hE0 := dsum_nn (fun j => v1 j * m - v j * m1) p
  have hE1 : dsum (fun j => v1 j * m - v j * m1) p ≤ 4364004799996 := by
    have : (p : Int) * 1091001199999 ≤ 4 * 1091001199999 := Int.mul_le_mul_of_nonneg_right (by omega) (by decide)
    omega
  have m0 := hv.pos
  have m10 := r5.pos
  have mm0 : 0 < m1 * m := Int.mul_pos m10 m0
  have mm : m1 * m ≤ 104976 * 104976 := Int.le_trans (Int.mul_le_mul_of_nonneg_right r6 (by omega)) (Int.mul_le_mul_of_nonneg_left hm (by omega))
  obtain ⟨E, hEE⟩ : ∃ E, E = dsum (fun j => v1 j * m - v j * m1) p := ⟨_, rfl⟩
  rw [← hEE] at hE0 hE1
  obtain ⟨U, V, s1, s2, s3, s4, s5⟩ := gcd_split (PU := E) mm0
  obtain ⟨g, hg⟩ : ∃ g, g = ((Int.gcd E (m1 * m) : Nat) : Int) := ⟨_, rfl⟩
  rw [← hg] at s1 s2
  have g0 : 0 < g := by omega
  have U0 : 0 ≤ U := by
    rcases Int.lt_or_le U 0 with q | q
    · have := Int.mul_neg_of_pos_of_neg g0 q; omega
    · exact q
  have gU : U ≤ g * U := by
    have := Int.mul_le_mul_of_nonneg_right (show 1 ≤ g by omega) U0; omega
  have gV : V ≤ g * V := by
    have := Int.mul_le_mul_of_nonneg_right (show 1 ≤ g by omega) (Int.le_of_lt s3); omega
  have gg : g ≤ g * V := by
    have := Int.mul_le_mul_of_nonneg_left (show 1 ≤ V by omega) (Int.le_of_lt g0); omega
  have iE : inL E := ⟨by omega, by omega⟩
  have iM : inL (m1 * m) := ⟨by omega, by omega⟩
  have ig : inL g := ⟨by omega, by omega⟩
  have gn : ¬ nL g = 0 := fun h => by have := (nL_eq ig inL_0).mp h; omega
  have fu : p4_farUp (s4_farDown (s4_farUp (s4_s M1 s) (nL U)) (nL V)) = nL U := by rw [gs4_farUp_farDown, gs4_farUp_farUp]
  have fd : p4_farDown (s4_farDown (s4_farUp (s4_s M1 s) (nL U)) (nL V)) = nL V := gs4_farDown_farDown _ _
  obtain ⟨f, hf⟩ := FU_ex (p + 1) (by omega)
  refine ⟨s4_farDown (s4_farUp (s4_s M1 s) (nL U)) (nL V), v1, m1, U, V, g, ?_, ?_, r5, r6, fu, fd, by rw [← hEE]; exact s1, s2, s4, s3, g0, U0, by omega, by omega⟩
  · have st : fX4_moves M (nI (16 + 4 * c + k)) = fX4_moves_30 FU (s4_s M1 s) (nL 0) (nI 0) := by
      unfold fX4_moves
      rw [if_pos e4, e5, hM]
      simp only [elet_eq]
      rw [if_pos e4, r1, Option.bind_some, if_pos e4, hb, nL_0, show (0 : Int32) = nI 0 from rfl]
    have kk : p4_kept (s4_s M1 s) = p4_kept M := rzk_kept (rzk_of hz)
    have kl : p4_keptLower (s4_s M1 s) = p4_keptLower M := rzk_kl (rzk_of hz)
    have al := m30_all (M := s4_s M1 s) g2 g5 rfl (v1 := v1) (v := v) (m1 := m1) (m := m) r4.1 (by rw [kl]; exact a2) (fun j hj => r4.2.1 j (by omega)) (fun j hj => by rw [kk]; exact b2 j hj) hi p 0 f (by omega)
    have d0 : dsum (fun j => v1 j * m - v j * m1) 0 = 0 := rfl
    rw [d0] at al
    rw [st, hf, show f + (p + 1) = f + p + 1 by omega, al, ← hEE]
    generalize fX4_moves_30 f = kk2
    unfold fX4_moves_30_b
    have qE : nL E / nL g = nL U := by rw [s1] at iE ⊢; exact nL_quot iE ig (by omega)
    have qM : nL (m1 * m) / nL g = nL V := by rw [s2] at iM ⊢; exact nL_quot iM ig (by omega)
    rw [cl1, gs4_s_s, g2, if_pos (Int32.le_refl _), gs4_lower_s, r4.1, kl, a2, nL_mul, dv_v iE iM (by omega), Option.bind_some, ← hg, if_neg gn]
    simp only [elet_eq]
    rw [if_neg gn, qE, gs4_lower_farUp, gs4_lower_s, r4.1, gs4_keptLower_farUp, kl, a2, nL_mul, qM]
  · rw [rzk_far]; exact rzk_of hz
