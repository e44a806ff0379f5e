theorem r64_u (k22 : BX4 → Int32 → Int32 → Option BX4) (k : Nat) : fX4_rests_64 k22 (k + 1) = fX4_rests_64_b k22 (fX4_rests_64 k22 k) := rfl
theorem r42_u (k22 : BX4 → Int32 → Int32 → Option BX4) (k : Nat) : fX4_rests_42 k22 (k + 1) = fX4_rests_42_b k22 (fX4_rests_42 k22 k) := rfl
theorem r22_u (k : Nat) : fX4_rests_22 (k + 1) = fX4_rests_22_b (fX4_rests_22 k) := rfl
/-- the reference has found it -/
abbrev Fnd (S : Sy) (M : BX4) : Prop := ∃ (u : Nat → Int) (l : Int), UpQ S M u l ∧ RestT S u l ∧ l ≤ 104976
theorem rzB_rz {M M' : BX4} (h : rzB M' = rzB M) : rz M' = rz M := congrArg (fun z => z.1) h
theorem r64_all {s : Nat → Int32} {S : Sy} (hS : GdS s S) {B : Nat} {FB : Nat → Nat} (k22 : BX4 → Int32 → Int32 → Option BX4) (bits : Nat) (hk : ∀ M, k22 M 1 (nI (bits + 1)) = some M) (ways : Nat) (hw : ways ≤ 81) :
    ∀ (d how n : Nat) (M : BX4), how + d = ways → p4_s M = s → Blk S M B FB → ∃ M', rzB M' = rzB M ∧
      ((fX4_rests_64 k22 (n + d + 2) M 0 (nI bits) (nI ways) (nI how) = some M' ∧ Fnd S M') ∨
       (fX4_rests_64 k22 (n + d + 2) M 0 (nI bits) (nI ways) (nI how) = k22 M' 0 (nI (bits + 1)) ∧ ∀ h, how ≤ h → h < ways → ∀ v m, RestT S v m → ¬ PatR S v m B FB h)) := by
  intro d
  induction d with
  | zero =>
    intro how n M hd hM hB
    refine ⟨M, rfl, Or.inr ⟨?_, fun h h1 h2 => by omega⟩⟩
    rw [show n + 0 + 2 = (n + 1) + 1 by omega, r64_u]
    unfold fX4_rests_64_b fX4_rests_110
    rw [if_pos (lec (by omega) (by omega)), elet_eq, nI_1]
  | succ d ih =>
    intro how n M hd hM hB
    obtain ⟨y, M2, t1, t2, t3, t4⟩ := try_ok hS how (by omega) M hM hB
    have c0 : ∀ kk, fX4_rests_102 k22 kk M2 (nI bits) (nI ways) (nI how) = kk M2 0 (nI bits) (nI ways) (nI (how + 1)) := by
      intro kk
      unfold fX4_rests_102 fX4_rests_103
      rw [elet_eq, nI_1]
    have c1 : ∀ kk, fX4_rests_103 k22 kk M2 (nI bits) (nI ways) (nI how) 1 = kk M2 1 (nI bits) (nI ways) (nI (how + 1)) := by
      intro kk
      unfold fX4_rests_103
      rw [elet_eq, nI_1]
    have head : ∀ kk, fX4_rests_64_b k22 kk M 0 (nI bits) (nI ways) (nI how) = (fX4_isIn M2).bind (fun y11 => if y11 = 0 then kk M2 0 (nI bits) (nI ways) (nI (how + 1)) else ((fX4_isStill M2).bind (fun y13 => if y13 = 0 then kk M2 0 (nI bits) (nI ways) (nI (how + 1)) else kk M2 1 (nI bits) (nI ways) (nI (how + 1))))) := by
      intro kk
      unfold fX4_rests_64_b
      rw [if_neg (nlec (by omega) (by omega)), if_pos rfl, t1, Option.bind_some, t2, Option.bind_some]
      simp only [c0, c1]
    rw [show n + (d + 1) + 2 = (n + d + 2) + 1 by omega, r64_u, head]
    rcases t4 with ⟨a1, a2, a3⟩ | ⟨a1, a2⟩
    · refine ⟨M2, t3, Or.inl ⟨?_, a3⟩⟩
      rw [a1, Option.bind_some, if_neg (by decide), a2, Option.bind_some, if_neg (by decide), show n + d + 2 = (n + d + 1) + 1 by omega, r64_u]
      unfold fX4_rests_64_b fX4_rests_110
      rw [elet_eq, nI_1, hk]
      by_cases q : nI ways ≤ nI (how + 1)
      · rw [if_pos q]
      · rw [if_neg q, if_neg (by decide)]
    · have hz : ((fX4_isIn M2).bind (fun y11 => if y11 = 0 then fX4_rests_64 k22 (n + d + 2) M2 0 (nI bits) (nI ways) (nI (how + 1)) else ((fX4_isStill M2).bind (fun y13 => if y13 = 0 then fX4_rests_64 k22 (n + d + 2) M2 0 (nI bits) (nI ways) (nI (how + 1)) else fX4_rests_64 k22 (n + d + 2) M2 1 (nI bits) (nI ways) (nI (how + 1)))))) = fX4_rests_64 k22 (n + d + 2) M2 0 (nI bits) (nI ways) (nI (how + 1)) := by
        rcases a1 with a1 | ⟨a1, a3⟩
        · rw [a1, Option.bind_some, if_pos rfl]
        · rw [a1, Option.bind_some, if_neg (by decide), a3, Option.bind_some, if_pos rfl]
      rw [hz]
      obtain ⟨M', m1, m2⟩ := ih (how + 1) n M2 (by omega) ((rzB_s t3).trans hM) (rzB_Blk hB t3)
      refine ⟨M', m1.trans t3, ?_⟩
      rcases m2 with m2 | ⟨m2, m3⟩
      · exact Or.inl m2
      · refine Or.inr ⟨m2, fun h h1 h2 => ?_⟩
        rcases Nat.eq_or_lt_of_le h1 with rfl | h3
        · exact a2
        · exact m3 h h3 h2
theorem r42_all {S : Sy} {B : Nat} {FB : Nat → Nat} (hn : S.n ≤ 4) (k22 : BX4 → Int32 → Int32 → Option BX4) (M : BX4) (hB : Blk S M B FB) (x1 x2 : Int32) : ∀ (d i n : Nat), i + d = B → fX4_rests_42 k22 (n + d + 1) M x1 x2 (nI (3 ^ i)) (nI i) = fX4_rests_64 k22 FU M x1 x2 (nI (3 ^ B)) (nI 0) := by
  have b4 := hB.b4
  intro d
  induction d with
  | zero =>
    intro i n hi
    obtain rfl : i = B := by omega
    rw [r42_u]
    unfold fX4_rests_42_b
    rw [hB.bl, if_pos (Int32.le_refl _)]
    rfl
  | succ d ih =>
    intro i n hi
    have st : fX4_rests_42 k22 (n + (d + 1) + 1) M x1 x2 (nI (3 ^ i)) (nI i) = fX4_rests_42 k22 (n + d + 1) M x1 x2 (nI (3 ^ (i + 1))) (nI (i + 1)) := by
      rw [show n + (d + 1) + 1 = (n + d + 1) + 1 by omega, r42_u]
      generalize fX4_rests_42 k22 (n + d + 1) = kk
      unfold fX4_rests_42_b
      rw [hB.bl, if_neg (nlec (by omega) (by omega))]
      simp only [elet_eq]
      rw [nI_1, show nI (3 ^ i) * (3 : Int32) = nI (3 ^ i * 3) from pk_mul _ 3, ← Nat.pow_succ]
    rw [st]
    exact ih (i + 1) n (by omega)
theorem digT_lt (g i : Nat) : digT g i < 3 := Nat.mod_lt _ (by omega)
theorem dt_v (g i p : Nat) (hp : 3 ^ i = p) : digT g i = g / p % 3 := by unfold digT; rw [hp]
theorem how_ex (w : Nat → Nat) (hw : ∀ i, w i < 3) (B : Nat) (hB : B ≤ 4) : ∃ h, h < 3 ^ B ∧ ∀ i, i < B → digT h i = w i := by
  have b0 := hw 0
  have b1 := hw 1
  have b2 := hw 2
  have b3 := hw 3
  have d0 : ∀ g, digT g 0 = g / 1 % 3 := fun g => dt_v g 0 1 rfl
  have d1 : ∀ g, digT g 1 = g / 3 % 3 := fun g => dt_v g 1 3 rfl
  have d2 : ∀ g, digT g 2 = g / 9 % 3 := fun g => dt_v g 2 9 rfl
  have d3 : ∀ g, digT g 3 = g / 27 % 3 := fun g => dt_v g 3 27 rfl
  rcases (show B = 0 ∨ B = 1 ∨ B = 2 ∨ B = 3 ∨ B = 4 by omega) with rfl | rfl | rfl | rfl | rfl
  · exact ⟨0, by decide, fun i hi => by omega⟩
  · refine ⟨w 0, by rw [show 3 ^ 1 = 3 from rfl]; omega, fun i hi => ?_⟩
    obtain rfl : i = 0 := by omega
    rw [d0]; omega
  · refine ⟨w 0 + 3 * w 1, by rw [show 3 ^ 2 = 9 from rfl]; omega, fun i hi => ?_⟩
    rcases (show i = 0 ∨ i = 1 by omega) with rfl | rfl
    · rw [d0]; omega
    · rw [d1]; omega
  · refine ⟨w 0 + 3 * w 1 + 9 * w 2, by rw [show 3 ^ 3 = 27 from rfl]; omega, fun i hi => ?_⟩
    rcases (show i = 0 ∨ i = 1 ∨ i = 2 by omega) with rfl | rfl | rfl
    · rw [d0]; omega
    · rw [d1]; omega
    · rw [d2]; omega
  · refine ⟨w 0 + 3 * w 1 + 9 * w 2 + 27 * w 3, by rw [show 3 ^ 4 = 81 from rfl]; omega, fun i hi => ?_⟩
    rcases (show i = 0 ∨ i = 1 ∨ i = 2 ∨ i = 3 by omega) with rfl | rfl | rfl | rfl
    · rw [d0]; omega
    · rw [d1]; omega
    · rw [d2]; omega
    · rw [d3]; omega
theorem bits_ex (w : Nat → Nat) (hw : ∀ i, w i < 2) : ∃ g, g < 8 ∧ ∀ i, i < 3 → bitN g i = w i := by
  have b0 := hw 0
  have b1 := hw 1
  have b2 := hw 2
  have d0 : ∀ g, bitN g 0 = g / 1 % 2 := fun g => rfl
  have d1 : ∀ g, bitN g 1 = g / 2 % 2 := fun g => rfl
  have d2 : ∀ g, bitN g 2 = g / 4 % 2 := fun g => rfl
  refine ⟨w 0 + 2 * w 1 + 4 * w 2, by omega, fun i hi => ?_⟩
  rcases (show i = 0 ∨ i = 1 ∨ i = 2 by omega) with rfl | rfl | rfl
  · rw [d0]; omega
  · rw [d1]; omega
  · rw [d2]; omega
theorem r22_one (n : Nat) (M : BX4) (b : Nat) : fX4_rests_22 (n + 1) M 1 (nI b) = some M := by
  rw [r22_u]
  unfold fX4_rests_22_b
  by_cases q : (8 : Int32) ≤ nI b
  · rw [if_pos q]
  · rw [if_neg q, if_neg (by decide)]
theorem r22_all {s : Nat → Int32} {S : Sy} (hS : GdS s S) {v : Nat → Int} {m : Int} (hR : RestT S v m) (g : Nat) (hg : g < 8) (hbit : ∀ k, k + 1 < S.n → (bitN g k = 1 ↔ v (k + 1) = v (k + 2))) :
    ∀ (d b n : Nat) (M : BX4), b + d = g → p4_s M = s → ∃ M', fX4_rests_22 (n + d + 2) M 0 (nI b) = some M' ∧ rz M' = rz M ∧ Fnd S M' := by
  have n4 := hS.n4
  intro d
  induction d using Nat.strongRecOn with
  | ind d ih =>
    intro b n M hb hM
    obtain ⟨M1, B, FB, p1, p2, p3, p4, p5⟩ := parts_ok hS b (by omega) M hM
    have hM1 : p4_s M1 = s := (rz_s p2).trans hM
    have b4 := p3.b4
    have hw : 3 ^ B ≤ 81 := by
      rcases (show B = 0 ∨ B = 1 ∨ B = 2 ∨ B = 3 ∨ B = 4 by omega) with rfl | rfl | rfl | rfl | rfl <;> decide
    obtain ⟨k1, hk1⟩ := FU_ex (B + 1) (by omega)
    obtain ⟨k2, hk2⟩ := FU_ex (3 ^ B + 2) (by omega)
    have head : fX4_rests_22 (n + d + 2) M 0 (nI b) = fX4_rests_64 (fX4_rests_22 (n + d + 1)) FU M1 0 (nI b) (nI (3 ^ B)) (nI 0) := by
      have e42 := r42_all n4 (fX4_rests_22 (n + d + 1)) M1 p3 0 (nI b) B 0 k1 (by omega)
      rw [show n + d + 2 = (n + d + 1) + 1 by omega, r22_u]
      rw [← e42, show k1 + B + 1 = FU by omega]
      generalize fX4_rests_22 (n + d + 1) = kk
      unfold fX4_rests_22_b
      have a1 : ¬ (8 : Int32) ≤ nI b := nlec (b := b) (a := 8) (by omega) (by omega)
      rw [if_neg a1, if_pos rfl, p1, Option.bind_some]
      rfl
    rw [head, hk2, show k2 + (3 ^ B + 2) = k2 + 3 ^ B + 2 by omega]
    obtain ⟨M', m1, m2⟩ := r64_all hS (fX4_rests_22 (n + d + 1)) b (fun M => r22_one (n + d) M (b + 1)) (3 ^ B) hw (3 ^ B) 0 k2 M1 (by omega) hM1 p3
    clear hk1 hk2 head
    have hrz : rz M' = rz M := (rzB_rz m1).trans p2
    rcases m2 with ⟨m2, m3⟩ | ⟨m2, m3⟩
    · exact ⟨M', m2, hrz, m3⟩
    · rcases Nat.lt_or_ge b g with q | q
      · obtain ⟨M3, j1, j2, j3⟩ := ih (d - 1) (by omega) (b + 1) n M' (by omega) ((rz_s hrz).trans hM)
        rw [show n + (d - 1) + 2 = n + d + 1 by omega] at j1
        exact ⟨M3, m2.trans j1, j2.trans hrz, j3⟩
      · exfalso
        have eb : b = g := by omega
        subst eb
        obtain ⟨how, h1, h2⟩ := how_ex (fun i => if gS S v m (FB (i + 1)) = gS S v m (FB i) then 0 else if gS S v m (FB (i + 1)) < gS S v m (FB i) then 1 else 2) (fun i => by
          show (if gS S v m (FB (i + 1)) = gS S v m (FB i) then 0 else if gS S v m (FB (i + 1)) < gS S v m (FB i) then 1 else 2) < 3
          split
          · omega
          · split <;> omega) B (by omega)
        refine m3 how (by omega) h1 v m hR ?_
        intro i hi
        have hup := p3.up i hi
        have hfb := fb_le p3 (B - (i + 1)) (i + 1) (by omega)
        refine ⟨?_, ?_, h2 i hi⟩
        · have step : ∀ q, FB i ≤ q → q < FB (i + 1) → v (q + 1) = v (FB i + 1) := by
            intro q
            induction q with
            | zero => intro q1 q2; rw [show FB i = 0 by omega]
            | succ q ihq =>
              intro q1 q2
              rcases Nat.eq_or_lt_of_le q1 with e | e
              · rw [e]
              · have e1 := p4 i (q + 1) hi (by omega) q2
                rw [Nat.add_sub_cancel] at e1
                have e2 := (hbit q (by omega)).mp e1
                have e3 := ihq (by omega) (by omega)
                have e4 : q + 1 + 1 = q + 2 := rfl
                rw [e4, ← e2, e3]
          obtain ⟨e', he'⟩ : ∃ e', FB (i + 1) = e' + 1 := ⟨FB (i + 1) - 1, by omega⟩
          have := step e' (by omega) (by omega)
          rw [he', this]
        · intro h0
          have e1 := p5 i h0 hi
          have f1 : 0 < FB i := by
            obtain ⟨j, rfl⟩ : ∃ j, i = j + 1 := ⟨i - 1, by omega⟩
            have := p3.up j (by omega)
            omega
          obtain ⟨f', hf'⟩ : ∃ f', FB i = f' + 1 := ⟨FB i - 1, by omega⟩
          rw [hf', Nat.add_sub_cancel] at e1
          have e2 := hbit f' (by omega)
          have e3 : v (f' + 1) ≠ v (f' + 2) := fun z => by have := e2.mpr z; omega
          have e4 := hR.mono (f' + 1) (by omega)
          rw [hf']
          have e5 : f' + 1 + 1 = f' + 2 := rfl
          rw [e5] at e4 ⊢
          omega
theorem rests_ok {s : Nat → Int32} (hG : Good s) (M : BX4) (hM : p4_s M = s) : ∃ M', fX4_rests M = some M' ∧ rz M' = rz M ∧ Fnd (syO s) M' := by
  have hS := gdS_of hG
  have n4 := hS.n4
  have W0 := hS.W0
  generalize syO s = S at *
  unfold fX4_rests fX4_rests_19
  rw [elet_eq, cl1, gs4_s_lower, hM, hS.s1]
  rcases Nat.eq_zero_or_pos S.n with e | e
  · rw [e, if_pos (show nI 0 = 0 from rfl)]
    obtain ⟨k, hk⟩ := FU_ex 1 (by omega)
    refine ⟨s4_lower M 1, ?_, rfl, fun k => if k = 0 then 0 else S.W, 1, ⟨rfl, fun p hp => by omega, rfl, ?_⟩, ⟨⟨by decide, rfl, ?_, fun p hp => by omega, fun p hp => by omega, ?_⟩, fun a b h1 h2 => by omega, fun a b h1 h2 => by omega⟩, by decide⟩
    · rw [hk]; exact r22_one k _ 0
    · simp
    · simp
    · intro p hp
      obtain rfl : p = 0 := by omega
      show (0 : Int) ≤ S.W
      omega
  · rw [if_neg (nI_ne0 e (by omega))]
    obtain ⟨v, m, hR⟩ : ∃ (v : Nat → Int) (m : Int), RestT S v m := by
      refine rest_ex S hS.n4 (fun k hk => by have := hS.K0 k hk; omega) hS.lo0 hS.hiW (by omega) (rmx S.lo) ?_ ?_
      · intro p hp
        obtain ⟨⟨i, i1, i2⟩, i3⟩ := rmx_p S.lo p
        exact ⟨i3, by rw [i2]; exact hS.al i p i1 hp⟩
      · intro p hp
        show rmx S.lo p ≤ if rmx S.lo p ≤ S.lo (p + 1) then S.lo (p + 1) else rmx S.lo p
        split
        · assumption
        · exact Int.le_refl _
    obtain ⟨g, g1, g2⟩ := bits_ex (fun k => if v (k + 1) = v (k + 2) then 1 else 0) (fun i => by
      show (if v (i + 1) = v (i + 2) then 1 else 0) < 2
      split <;> omega)
    obtain ⟨k, hk⟩ := FU_ex (g + 2) (by omega)
    obtain ⟨M', m1, m2, m3⟩ := r22_all hS hR g g1 (fun k hk => by
      rw [g2 k (by omega)]
      show (if v (k + 1) = v (k + 2) then 1 else 0) = 1 ↔ _
      split
      · exact ⟨fun _ => by assumption, fun _ => rfl⟩
      · exact ⟨fun h => by omega, fun h => absurd h (by assumption)⟩) g 0 k (s4_lower M 1) (by omega) hM
    refine ⟨M', ?_, m2, m3⟩
    rw [hk, show k + (g + 2) = k + g + 2 by omega]
    exact m1
