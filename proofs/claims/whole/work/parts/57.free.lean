def frR (S : Sy) (B b f e : Nat) : Int := if b + 1 < B then S.K e else 0
def frF (S : Sy) (B b f e : Nat) : Int := S.K f * S.L f - S.K e * S.L e + (preS S.q e - preS S.q f) + (if b + 1 < B then 0 else S.K e * S.W)
theorem row_eq {M M' : BX4} {b : Nat} {f g : Nat → Int} (h : RowQ M M' b f) (e : ∀ c, c < 5 → f c = g c) : RowQ M M' b g := ⟨h.1, fun c hc => by rw [← e c hc]; exact h.2.1 c hc, h.2.2⟩
theorem lf197_v {M M' : BX4} {b : Nat} {f : Nat → Int} (hb : b < 4) (h : RowQ M M' b f) (z : Int) : ∃ M2, fX4_laysFree_197 M' (nI b) (nL z) = some M2 ∧ RowQ M M2 b (up1 f 4 z) := by
  have e5 : (5 : Int32) * nI b = nI (5 * b) := pk_mul 5 b
  refine ⟨_, ?_, row_up h 4 (by omega) z⟩
  unfold fX4_laysFree_197
  rw [e5, show nI (5 * b) + (4 : Int32) = nI (5 * b + 4) from nI_add _ 4, if_pos (inB_nI (by omega) (by omega)), nI_clamp (by omega), elet_eq]
theorem Kint {s : Nat → Int32} {S : Sy} (hS : GdS s S) (k : Nat) (hk : k ≤ S.n) : (s (2 + k)).toInt = S.K k ∧ 1 ≤ S.K k ∧ S.K k ≤ 9 := ⟨hS.K k hk, hS.K0 k hk⟩
theorem free_ok {s : Nat → Int32} {S : Sy} (hS : GdS s S) (M0 M : BX4) (hM : p4_s M = s) {B : Nat} {FB : Nat → Nat} (hB : Blk S M B FB) (b : Nat) (hb : b < B) (h : RowQ M0 M b (fun _ => 0)) :
    ∃ M2, fX4_laysFree M (nI b) = some M2 ∧ RowQ M0 M2 b (orig (S.K (FB b) + S.K (FB (b + 1))) (S.K (FB b)) (frR S B b (FB b) (FB (b + 1))) (frF S B b (FB b) (FB (b + 1))) b) := by
  have n4 := hS.n4
  have b4 := hB.b4
  have W0 := hS.W0
  have W1 := hS.W1
  have hfb := fb_le hB (B - (b + 1)) (b + 1) (by omega)
  have hup := hB.up b hb
  have e5 : (5 : Int32) * nI b = nI (5 * b) := pk_mul 5 b
  have ff := hB.fi b (by omega)
  have fe := hB.fi (b + 1) (by omega)
  have hbl := hB.bl
  generalize FB b = f at *
  generalize FB (b + 1) = e at *
  have e2f : (2 : Int32) + nI f = nI (2 + f) := nI_add 2 f
  have e2e : (2 : Int32) + nI e = nI (2 + e) := nI_add 2 e
  have e7f : (7 : Int32) + nI f = nI (7 + f) := nI_add 7 f
  have e7e : (7 : Int32) + nI e = nI (7 + e) := nI_add 7 e
  obtain ⟨kf, kf1, kf2⟩ := Kint hS f (by omega)
  obtain ⟨ke, ke1, ke2⟩ := Kint hS e (by omega)
  have lf := hS.L f (by omega)
  have le := hS.L e (by omega)
  have lf0 := hS.L0 f (by omega)
  have le0 := hS.L0 e (by omega)
  have mb : ∀ k l : Int, 1 ≤ k → k ≤ 9 → 0 ≤ l ∧ l ≤ 50 → 0 ≤ k * l ∧ k * l ≤ 450 := by
    intro k l h1 h1' h2
    refine ⟨Int.mul_nonneg (by omega) (by omega), ?_⟩
    have : k * l ≤ 9 * l := Int.mul_le_mul_of_nonneg_right h1' (by omega)
    omega
  have mf := mb _ _ kf1 kf2 lf0
  have me := mb _ _ ke1 ke2 le0
  have t1 : (s (2 + f) * s (7 + f)).toInt = S.K f * S.L f := by rw [i_mul (by rw [kf, lf]; omega) (by rw [kf, lf]; omega), kf, lf]
  have t2 : (s (2 + e) * s (7 + e)).toInt = S.K e * S.L e := by rw [i_mul (by rw [ke, le]; omega) (by rw [ke, le]; omega), ke, le]
  have t3 : (s (2 + f) * s (7 + f) - s (2 + e) * s (7 + e)).toInt = S.K f * S.L f - S.K e * S.L e := by rw [i_sub (by rw [t1, t2]; omega) (by rw [t1, t2]; omega), t1, t2]
  have t4 : (s (2 + f) + s (2 + e)).toInt = S.K f + S.K e := by rw [i_add (by rw [kf, ke]; omega) (by rw [kf, ke]; omega), kf, ke]
  have t5 : (-(s (2 + f))).toInt = -S.K f := by rw [i_neg (by rw [kf]; omega), kf]
  have t6 : (-(s (2 + e))).toInt = -S.K e := by rw [i_neg (by rw [ke]; omega), ke]
  have mw : 0 ≤ S.K e * S.W ∧ S.K e * S.W ≤ 891 := by
    refine ⟨Int.mul_nonneg (by omega) (by omega), ?_⟩
    have h1 : S.K e * S.W ≤ 9 * S.W := Int.mul_le_mul_of_nonneg_right ke2 (by omega)
    omega
  have t7 : (s (2 + e) * s 0).toInt = S.K e * S.W := by rw [i_mul (by rw [ke, hS.s0]; omega) (by rw [ke, hS.s0]; omega), ke, hS.s0]
  have r1 := row_up h b (by omega) (S.K f + S.K e)
  obtain ⟨M1, hM1⟩ : ∃ M1, M1 = s4_grid M (vp_updL (p4_grid M) (5 * b + b) (nL (S.K f + S.K e))) := ⟨_, rfl⟩
  rw [← hM1] at r1
  have hs1 : p4_s M1 = s := by rw [hM1]; exact hM
  have hb1 : p4_blocks M1 = nI B := by rw [hM1]; exact hbl
  have hg1 : ∀ z, s4_grid M1 z = s4_grid M z := fun z => by rw [hM1]; rfl
  obtain ⟨z0, hz0⟩ : ∃ z0 : Int, z0 = S.K f * S.L f - S.K e * S.L e + (preS S.q e - preS S.q f) := ⟨_, rfl⟩
  -- the end, from a row
  have e141 : ∀ (M2 : BX4) (g : Nat → Int), RowQ M0 M2 b g → p4_s M2 = s → p4_blocks M2 = nI B → ∃ M3, fX4_laysFree_141 M2 (nI b) (nI e) (nL z0) = some M3 ∧ RowQ M0 M3 b (if b + 1 < B then up1 (up1 g (b + 1) (-S.K e)) 4 z0 else up1 g 4 (z0 + S.K e * S.W)) := by
    intro M2 g hg hs2 hb2
    unfold fX4_laysFree_141
    obtain ⟨B', rfl⟩ : ∃ B', B = B' + 1 := ⟨B - 1, by omega⟩
    rw [hb2, nI_pred, e2e]
    by_cases q : b + 1 < B' + 1
    · rw [if_neg (nlec (by omega) (by omega)), if_pos (inB_nI (by omega) (by omega)), e5, nI_add, nI_1, if_pos (inB_nI (by omega) (by omega)), nI_clamp (by omega), nI_clamp (by omega), hs2, nL_I, t6, elet_eq, if_pos q]
      exact lf197_v (by omega) (row_up hg (b + 1) (by omega) (-S.K e)) z0
    · rw [if_pos (lec (by omega) (by omega)), if_pos (inB_nI (by omega) (by omega)), nI_clamp (by omega), hs2, cl0, nL_I, t7, nL_add, elet_eq, if_neg q]
      exact lf197_v (by omega) hg (z0 + S.K e * S.W)
  have e87 : ∀ k, ∃ M3, fX4_laysFree_87_b k M1 (nI b) (nI f) (nI e) (nL z0) (nI e) = some M3 ∧ RowQ M0 M3 b (orig (S.K f + S.K e) (S.K f) (frR S B b f e) (frF S B b f e) b) := by
    intro k
    unfold fX4_laysFree_87_b
    rw [if_pos (Int32.le_refl _)]
    rcases Nat.eq_zero_or_pos b with rfl | hb0
    · rw [if_pos (show nI 0 ≤ 0 from by decide)]
      obtain ⟨M3, m1, m2⟩ := e141 M1 _ r1 hs1 hb1
      refine ⟨M3, m1, row_eq m2 ?_⟩
      intro c hc
      unfold frR frF
      rw [← hz0]
      by_cases q : 0 + 1 < B
      · rw [if_pos q, if_pos q, if_pos q]
        rcases (show c = 0 ∨ c = 1 ∨ c = 2 ∨ c = 3 ∨ c = 4 by omega) with rfl | rfl | rfl | rfl | rfl <;> simp [up1, orig]
      · rw [if_neg q, if_neg q, if_neg q]
        rcases (show c = 0 ∨ c = 1 ∨ c = 2 ∨ c = 3 ∨ c = 4 by omega) with rfl | rfl | rfl | rfl | rfl <;> simp [up1, orig]
    · obtain ⟨b', rfl⟩ : ∃ b', b = b' + 1 := ⟨b - 1, by omega⟩
      have e9 : nI (5 * (b' + 1) + (b' + 1)) - (1 : Int32) = nI (5 * (b' + 1) + b') := nI_pred (5 * (b' + 1) + b')
      rw [if_neg (nI_nle (by omega) (by omega)), e2f, if_pos (inB_nI (by omega) (by omega)), e5, nI_add, e9, if_pos (inB_nI (by omega) (by omega)), nI_clamp (by omega), nI_clamp (by omega), hs1, nL_I, t5, elet_eq]
      obtain ⟨M3, m1, m2⟩ := e141 _ _ (row_up r1 b' (by omega) (-S.K f)) hs1 hb1
      refine ⟨M3, m1, row_eq m2 ?_⟩
      intro c hc
      unfold frR frF
      rw [← hz0]
      have hb3 : b' = 0 ∨ b' = 1 ∨ b' = 2 := by omega
      by_cases q : b' + 1 + 1 < B
      · rw [if_pos q, if_pos q, if_pos q]
        have hb3 : b' = 0 ∨ b' = 1 := by omega
        rcases hb3 with rfl | rfl <;> rcases (show c = 0 ∨ c = 1 ∨ c = 2 ∨ c = 3 ∨ c = 4 by omega) with rfl | rfl | rfl | rfl | rfl <;> simp [up1, orig]
      · rw [if_neg q, if_neg q, if_neg q]
        rcases hb3 with rfl | rfl | rfl <;> rcases (show c = 0 ∨ c = 1 ∨ c = 2 ∨ c = 3 ∨ c = 4 by omega) with rfl | rfl | rfl | rfl | rfl <;> simp [up1, orig]
  obtain ⟨n, hF⟩ := FU_ex ((e - f) + 1) (by omega)
  obtain ⟨M3, m1, m2⟩ := e87 (fX4_laysFree_87 n)
  refine ⟨M3, ?_, m2⟩
  unfold fX4_laysFree
  rw [if_pos (inB_nI (by omega) (by omega)), nI_clamp (by omega), ff]
  simp only [elet_eq]
  rw [nI_1, if_pos (inB_nI (by omega) (by omega)), nI_clamp (by omega), fe, e2f, e2e, e7f, e7e, if_pos (inB_nI (by omega) (by omega)), if_pos (inB_nI (by omega) (by omega)), e5, nI_add, if_pos (inB_nI (by omega) (by omega)), if_pos (inB_nI (by omega) (by omega)), if_pos (inB_nI (by omega) (by omega)), if_pos (inB_nI (by omega) (by omega)), if_pos (inB_nI (by omega) (by omega))]
  rw [nI_clamp (show 2 + f < 2 ^ 31 by omega), nI_clamp (show 2 + e < 2 ^ 31 by omega), nI_clamp (show 7 + f < 2 ^ 31 by omega), nI_clamp (show 7 + e < 2 ^ 31 by omega), nI_clamp (show 5 * b + b < 2 ^ 31 by omega), gs4_s_grid, hM, nL_I, t4, nL_I, t3, ← hM1]
  rw [hF, show n + ((e - f) + 1) = n + (e - f) + 1 by omega, lf87_all hS M1 hs1 b f e (by omega) (e - f) f n _ (by omega) (Nat.le_refl _), ← hz0]
  exact m1
