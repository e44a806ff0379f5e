/-! the reference finds the row that is at rest -/
theorem rowS_b {s : Nat → Int32} {S : Sy} (hS : GdS s S) {M : BX4} {B : Nat} {FB : Nat → Nat} (hB : Blk S M B FB) {way b : Nat} (hb : b < B) {D l r F : Int} (h : RowS S B FB way b D l r F) : RwB D l r F ∧ (b + 1 = B → r = 0) := by
  have n4 := hS.n4
  have b4 := hB.b4
  have W0 := hS.W0
  have W1 := hS.W1
  have hfb := fb_le hB (B - (b + 1)) (b + 1) (by omega)
  have hup := hB.up b hb
  rcases h with ⟨-, h1, h2, h3, h4⟩ | ⟨-, h1, h2, h3, h4⟩
  · have kf := hS.K0 (FB b) (by omega)
    have ke := hS.K0 (FB (b + 1)) (by omega)
    have lf := hS.L0 (FB b) (by omega)
    have le := hS.L0 (FB (b + 1)) (by omega)
    have q := preS_bd hS.q0 (FB b) (FB (b + 1) - FB b) (by omega)
    rw [show FB b + (FB (b + 1) - FB b) = FB (b + 1) by omega] at q
    have mb : ∀ k z : Int, 1 ≤ k ∧ k ≤ 9 → 0 ≤ z ∧ z ≤ 99 → 0 ≤ k * z ∧ k * z ≤ 891 := by
      intro k z h1 h2
      refine ⟨Int.mul_nonneg (by omega) (by omega), ?_⟩
      have : k * z ≤ 9 * z := Int.mul_le_mul_of_nonneg_right h1.2 (by omega)
      omega
    have m1 := mb _ _ kf ⟨lf.1, by omega⟩
    have m2 := mb _ _ ke ⟨le.1, by omega⟩
    have m3 := mb _ _ ke ⟨show 0 ≤ S.W by omega, W1⟩
    unfold frR at h3
    unfold frF at h4
    by_cases e : b + 1 < B
    · rw [if_pos e] at h3 h4
      refine ⟨?_, fun z => by omega⟩
      unfold RwB
      omega
    · rw [if_neg e] at h3 h4
      refine ⟨?_, fun _ => h3⟩
      unfold RwB
      omega
  · have hF := bdp_in hS hfb hup h4
    refine ⟨?_, fun _ => h3⟩
    unfold RwB
    omega
theorem blk_find {S : Sy} {M : BX4} {B : Nat} {FB : Nat → Nat} (hB : Blk S M B FB) (p : Nat) (hp : p < S.n) : ∃ i, i < B ∧ FB i ≤ p ∧ p < FB (i + 1) := by
  have z := hB.z (by omega)
  obtain ⟨i, i1, i2, i3, i4⟩ := run_up (fun i => FB i ≤ p) B 0 B (by omega) (by rw [z.2]; omega) (by rw [hB.en]; omega)
  exact ⟨i, i2, i3 i i1 (Nat.le_refl _), by omega⟩
/-- the blocks and their ways are a row's own -/
abbrev PatR (S : Sy) (v : Nat → Int) (m : Int) (B : Nat) (FB : Nat → Nat) (how : Nat) : Prop :=
  ∀ i, i < B → v (FB i + 1) = v (FB (i + 1)) ∧ (0 < i → v (FB i) < v (FB i + 1)) ∧
    digT how i = (if gS S v m (FB (i + 1)) = gS S v m (FB i) then 0 else if gS S v m (FB (i + 1)) < gS S v m (FB i) then 1 else 2)
theorem pat_eq {s : Nat → Int32} {S : Sy} (hS : GdS s S) {M : BX4} {B : Nat} {FB : Nat → Nat} (hB : Blk S M B FB) {v : Nat → Int} {m : Int} (hR : RestT S v m) {how : Nat} (hP : PatR S v m B FB how) {i : Nat} (hi : i < B) {D l r F : Int} (hr : RowS S B FB (digT how i) i D l r F) :
    D * v (FB i + 1) = (if i = 0 then 0 else l * v (FB (i - 1) + 1)) + r * v (FB (i + 1) + 1) + F * m := by
  have n4 := hS.n4
  have b4 := hB.b4
  have mp := hR.pos
  have hfb := fb_le hB (B - (i + 1)) (i + 1) (by omega)
  have hup := hB.up i hi
  obtain ⟨p1, p2, p3⟩ := hP i hi
  have z0 := hB.z (by omega)
  obtain ⟨e', he'⟩ : ∃ e', FB (i + 1) = e' + 1 := ⟨FB (i + 1) - 1, by omega⟩
  have hgrp : ∀ p, FB i ≤ p → p < FB (i + 1) → v (p + 1) = v (FB i + 1) := by
    intro p q1 q2
    rw [he'] at p1
    have := grp hR.toRowIn p1 (by omega) p q1 (by omega)
    omega
  have lo_ex : gS S v m (FB (i + 1)) < gS S v m (FB i) → ∃ p, FB i ≤ p ∧ p < FB (i + 1) ∧ v (p + 1) ≤ S.lo p * m := by
    intro hG
    rcases Classical.em (∃ p, FB i ≤ p ∧ p < FB (i + 1) ∧ v (p + 1) ≤ S.lo p * m) with h | hn
    · exact h
    · exfalso
      have all : ∀ p, FB i ≤ p → p < FB (i + 1) → S.lo p * m < v (p + 1) := by
        intro p q1 q2
        rcases Int.lt_or_le (S.lo p * m) (v (p + 1)) with q | q
        · exact q
        · exact absurd ⟨p, q1, q2, q⟩ hn
      have hx : v (FB i) < v (FB i + 1) := by
        rcases Nat.eq_zero_or_pos i with e | e
        · have a1 := all (FB i) (Nat.le_refl _) hup
          have a2 := Int.mul_nonneg (hS.lo0 (FB i) (by omega)) (Int.le_of_lt mp)
          rw [e, z0.2] at a1 a2 ⊢
          rw [hR.z]
          omega
        · exact p2 e
      have := hR.left (FB i) (FB (i + 1)) hup hfb p1 hx all
      omega
  have hi_ex : gS S v m (FB i) < gS S v m (FB (i + 1)) → ∃ p, FB i ≤ p ∧ p < FB (i + 1) ∧ S.hi p * m ≤ v (p + 1) := by
    intro hG
    rcases Classical.em (∃ p, FB i ≤ p ∧ p < FB (i + 1) ∧ S.hi p * m ≤ v (p + 1)) with h | hn
    · exact h
    · exfalso
      have all : ∀ p, FB i ≤ p → p < FB (i + 1) → v (p + 1) < S.hi p * m := by
        intro p q1 q2
        rcases Int.lt_or_le (v (p + 1)) (S.hi p * m) with q | q
        · exact q
        · exact absurd ⟨p, q1, q2, q⟩ hn
      have hx : v (FB (i + 1)) < v (FB (i + 1) + 1) := by
        rcases Nat.eq_or_lt_of_le (show i + 1 ≤ B by omega) with e | e
        · have a1 := all e' (by omega) (by omega)
          have a2 := Int.mul_le_mul_of_nonneg_right (hS.hiW e' (by omega)) (Int.le_of_lt mp)
          have a3 := hR.w
          have a4 := hB.en
          rw [← e] at a4
          rw [← a4] at a3
          rw [a3, he']
          omega
        · exact (hP (i + 1) e).2.1 (by omega)
      have := hR.right (FB i) (FB (i + 1)) hup hfb p1 hx all
      omega
  rcases hr with ⟨h0, h1, h2, h3, h4⟩ | ⟨h0, h1, h2, h3, h4⟩
  · have hG : gS S v m (FB (i + 1)) = gS S v m (FB i) := by
      rw [h0] at p3
      split at p3
      · assumption
      · split at p3 <;> omega
    have hl : v (FB i) = if i = 0 then 0 else v (FB (i - 1) + 1) := by
      rcases Nat.eq_zero_or_pos i with e | e
      · rw [if_pos e, e, z0.2]; exact hR.z
      · obtain ⟨j, rfl⟩ : ∃ j, i = j + 1 := ⟨i - 1, by omega⟩
        rw [if_neg (by omega), Nat.add_sub_cancel]
        exact ((hP j (by omega)).1).symm
    simp only [gS, tnS] at hG
    rw [← p1] at hG
    rw [h1, h2, h3, h4]
    unfold frR frF
    by_cases e : i + 1 < B
    · rw [if_pos e, if_pos e]
      by_cases e0 : i = 0
      · rw [if_pos e0] at hl ⊢
        rw [hl] at hG
        grind
      · rw [if_neg e0] at hl ⊢
        rw [hl] at hG
        grind
    · rw [if_neg e, if_neg e]
      have a3 := hR.w
      have a4 := hB.en
      rw [← show i + 1 = B by omega] at a4
      rw [← a4] at a3
      rw [a3] at hG
      by_cases e0 : i = 0
      · rw [if_pos e0] at hl ⊢
        rw [hl] at hG
        grind
      · rw [if_neg e0] at hl ⊢
        rw [hl] at hG
        grind
  · have key : v (FB i + 1) = F * m := by
      unfold BdP at h4
      rcases h0 with h0 | h0
      · have hG : gS S v m (FB (i + 1)) < gS S v m (FB i) := by
          rw [h0] at p3
          split at p3
          · omega
          · split at p3
            · assumption
            · omega
        obtain ⟨p, q1, q2, q3⟩ := lo_ex hG
        rw [h0, if_pos rfl] at h4
        obtain ⟨b1, b2⟩ := h4
        have c1 := Int.mul_le_mul_of_nonneg_right (b1 p q1 q2) (Int.le_of_lt mp)
        have c2 := hgrp p q1 q2
        rcases b2 with b2 | ⟨p', r1, r2, r3⟩
        · have c3 := hS.lo0 p (by omega)
          have c4 := b1 p q1 q2
          have c5 := hR.lo p (by omega)
          have c6 := Int.mul_nonneg c3 (Int.le_of_lt mp)
          rw [b2] at c1 ⊢
          omega
        · have c3 := hR.lo p' (by omega)
          have c4 := hgrp p' r1 r2
          rw [r3] at c1 ⊢
          omega
      · have hG : gS S v m (FB i) < gS S v m (FB (i + 1)) := by
          rw [h0] at p3
          split at p3
          · omega
          · split at p3 <;> omega
        obtain ⟨p, q1, q2, q3⟩ := hi_ex hG
        rw [h0, if_neg (by decide)] at h4
        obtain ⟨b1, b2⟩ := h4
        have c1 := Int.mul_le_mul_of_nonneg_right (b1 p q1 q2) (Int.le_of_lt mp)
        have c2 := hgrp p q1 q2
        rcases b2 with b2 | ⟨p', r1, r2, r3⟩
        · have c3 := (row_bd hR.toRowIn (FB i + 1) (by omega)).2
          rw [b2] at c1 ⊢
          omega
        · have c3 := hR.hi p' (by omega)
          have c4 := hgrp p' r1 r2
          rw [r3] at c1 ⊢
          omega
    rw [h1, h2, h3, key]
    by_cases e0 : i = 0
    · rw [if_pos e0]; omega
    · rw [if_neg e0]; omega
theorem try_ok {s : Nat → Int32} {S : Sy} (hS : GdS s S) (how : Nat) (hh : how < 100) {B : Nat} {FB : Nat → Nat} (M : BX4) (hM : p4_s M = s) (hB : Blk S M B FB) :
    ∃ y M2, fX4_lays M (nI how) = some y ∧ fX4_solves y = some M2 ∧ rzB M2 = rzB M ∧
      ((fX4_isIn M2 = some 1 ∧ fX4_isStill M2 = some 1 ∧ ∃ (u : Nat → Int) (l : Int), UpQ S M2 u l ∧ RestT S u l ∧ l ≤ 104976) ∨
       ((fX4_isIn M2 = some 0 ∨ (fX4_isIn M2 = some 1 ∧ fX4_isStill M2 = some 0)) ∧ ∀ v m, RestT S v m → ¬ PatR S v m B FB how)) := by
  have n4 := hS.n4
  have b4 := hB.b4
  obtain ⟨y, D, lf, r, F, y1, y2, y3⟩ := lays_ok hS how hh M hM hB
  have hB1 := rzB_Blk hB y2
  have hw : ∀ i, i < B → RwB (D i) (lf i) (r i) (F i) := fun i hi => (rowS_b hS hB hi (y3 i hi).1).1
  obtain ⟨M2, s1, s2, s3, s4⟩ := solves_ok n4 hw y hB1 (fun i hi => (y3 i hi).2)
  have hM2 : p4_s M2 = s := (rzB_s s2).trans ((rzB_s y2).trans hM)
  obtain ⟨l, hl⟩ : ∃ l, l = ddN D lf r F B := ⟨_, rfl⟩
  rw [← hl] at s3
  have ld := dd_bd hw B (Nat.le_refl _)
  rw [← hl] at ld
  have p18' := p18 B (by omega)
  have l1 : 0 < l := by omega
  have l2 : l ≤ 104976 := by omega
  obtain ⟨u, hu⟩ : ∃ u : Nat → Int, u = fun k => if k = 0 then 0 else if k = S.n + 1 then S.W * l else (p4_upper M2 (k - 1)).toInt := ⟨_, rfl⟩
  have u0 : u 0 = 0 := by rw [hu]; rfl
  have uw : u (S.n + 1) = S.W * l := by rw [hu]; simp
  have up : ∀ p, p < S.n → u (p + 1) = (p4_upper M2 p).toInt := by
    intro p hp
    rw [hu]
    simp only [if_neg (show ¬ p + 1 = 0 by omega), if_neg (show ¬ p + 1 = S.n + 1 by omega), Nat.add_sub_cancel]
  have ub : ∀ i, i < B → ∀ q, FB i ≤ q → q < FB (i + 1) → u (q + 1) = aN D lf r F B i ∧ inL (u (q + 1)) := by
    intro i hi q q1 q2
    have hfb := fb_le hB (B - (i + 1)) (i + 1) (by omega)
    have p404' := p404 B (by omega)
    obtain ⟨⟨a1, a2⟩, -⟩ := ab_bd hw B (Nat.le_refl _) i hi
    have ia : inL (aN D lf r F B i) := ⟨by omega, by omega⟩
    have e : u (q + 1) = aN D lf r F B i := by
      rw [up q (by omega), s4 i hi q q1 q2, nL_toInt ia]
    exact ⟨e, by rw [e]; exact ia⟩
  have hv : UpQ S M2 u l := ⟨s3, fun p hp => by rw [up p hp]; exact (Int64.ofInt_toInt _).symm, u0, uw⟩
  have hul : ∀ i, i ≤ S.n → inL (u i) := by
    intro i hi
    rcases Nat.eq_zero_or_pos i with rfl | e
    · rw [u0]; exact inL_0
    · obtain ⟨p, rfl⟩ : ∃ p, i = p + 1 := ⟨i - 1, by omega⟩
      obtain ⟨j, j1, j2, j3⟩ := blk_find hB p (by omega)
      exact (ub j j1 p j2 j3).2
  have compl : ¬ RestT S u l → ∀ v m, RestT S v m → ¬ PatR S v m B FB how := by
    intro hn v m hR hP
    apply hn
    refine rest_prop l1 ?_ hR
    have hsol := (ch_sol hw m (fun i => v (FB i + 1)) (fun i hi => pat_eq hS hB hR hP hi (y3 i hi).1) B (Nat.le_refl _)).2
    intro i hi
    rcases Nat.eq_zero_or_pos i with rfl | e
    · rw [u0, hR.z]; omega
    · obtain ⟨p, rfl⟩ : ∃ p, i = p + 1 := ⟨i - 1, by omega⟩
      rcases Nat.eq_or_lt_of_le hi with e2 | e2
      · rw [e2, uw, hR.w]; grind
      · obtain ⟨j, j1, j2, j3⟩ := blk_find hB p (by omega)
        rw [(ub j j1 p j2 j3).1]
        have h1 := hsol j j1
        have hfb := fb_le hB (B - (j + 1)) (j + 1) (by omega)
        obtain ⟨p1, -, -⟩ := hP j j1
        obtain ⟨e', he'⟩ : ∃ e', FB (j + 1) = e' + 1 := ⟨FB (j + 1) - 1, by omega⟩
        rw [he'] at p1
        have g1 := grp hR.toRowIn p1 (by omega) p j2 (by omega)
        have bz : bN D lf r F B j = 0 := by
          obtain ⟨B', rfl⟩ : ∃ B', B = B' + 1 := ⟨B - 1, by omega⟩
          have r0 : r B' = 0 := (rowS_b hS hB (show B' < B' + 1 by omega) (y3 B' (by omega)).1).2 rfl
          rcases Nat.eq_or_lt_of_le (show j ≤ B' by omega) with rfl | e3
          · rw [(chA_k D lf r F j).2.1, ssN_s, r0, Int.zero_mul]
          · rw [(chA_j D lf r F B' j (by omega)).2.1, r0, Int.zero_mul]
        rw [bz, Int.zero_mul, Int.add_zero, ← hl] at h1
        rw [g1, ← p1, ← h1, Int.mul_comm]
  refine ⟨y, M2, y1, s1, s2.trans y2, ?_⟩
  rcases isIn_ok hS hM2 hv ⟨l1, l2⟩ hul with ⟨a1, a2⟩ | ⟨a1, a2⟩
  · rcases isStill_ok hS hM2 hv a2 l2 hul with ⟨b1, b2⟩ | ⟨b1, b2⟩
    · exact Or.inl ⟨a1, b1, u, l, hv, b2, l2⟩
    · exact Or.inr ⟨Or.inr ⟨a1, b1⟩, compl b2⟩
  · exact Or.inr ⟨Or.inl a1, compl (fun h => a2 h.toRowIn)⟩
