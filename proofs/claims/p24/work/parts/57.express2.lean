theorem SB_BndQ_ex {S : Sy} {v : BX1} (h : BndQ S v) (hlo : ∀ k, k < S.n → 0 ≤ S.lo k) (hal : ∀ i j, i ≤ j → j < S.n → S.lo i ≤ S.hi j) (hW : ∀ k, k < S.n → S.hi k ≤ S.W) (i : Nat) (hi : i < S.n) : 0 ≤ (p1_lowest v i).toInt ∧ (p1_lowest v i).toInt ≤ S.W ∧ 0 ≤ (p1_highest v i).toInt ∧ (p1_highest v i).toInt ≤ S.W := by
  obtain ⟨k, k1, k2⟩ := h.l1 i hi
  obtain ⟨m, m0, m1, m2⟩ := h.h1 i hi
  have a1 := hlo k (by omega)
  have a2 := hal k i k1 hi
  have a3 := hW i hi
  have a4 := hlo i hi
  have a5 := hal i m m0 m1
  have a6 := hW m m1
  omega
theorem ep_all {L : BX0} {S : Sy} (hL : LaySy L S) (h : Nat → Nat) (hh4 : ∀ i, h i < 4) : ∀ (d j n : Nat) (v : BX1) (f : Nat) (c s dd E : Int) (C Sl D : Nat → Int), j + d = S.n → BndQ S v → (∀ i, i < S.n → p1_holds v i = nI (h i)) → AR v j C Sl D → Fw C Sl D j f c s dd E →
    ∃ v' C' S' D' f' c' s' d' E', fX1_expressPlaces_13 (n + d + 1) L v (nI f) (nL c) (nL s) (nL dd) (nI j) = some v' ∧ SB v v' ∧ AR v' S.n C' S' D' ∧ Fw C' S' D' S.n f' c' s' d' E' ∧
      ∀ u l, RestT S u l → (∀ i, j ≤ i → i < S.n → h i = hOf S u l i) → (j < S.n → fstI u j = f) → dd * u f = c * l + s * u (f + 1) → (∀ i, i < j → D i * u (i + 1) = C i * l + Sl i * u (i + 2)) → ∀ i, i < S.n → D' i * u (i + 1) = C' i * l + S' i * u (i + 2) := by
  have n4 := hL.n4
  intro d
  induction d with
  | zero =>
    intro j n v f c s dd E C Sl D hj hB hh hA hF
    have hj' : j = S.n := by omega
    subst hj'
    refine ⟨v, C, Sl, D, f, c, s, dd, E, ?_, SB_r v, hA, hF, fun u l _ _ _ _ h5 => h5⟩
    rw [ep_u]
    exact ep_end hL _ v _ _ _ _
  | succ d ih =>
    intro j n v f c s dd E C Sl D hj hB hh hA hF
    have hjn : j < S.n := by omega
    have hj4 : j < 4 := by omega
    have hfj := hF.fj
    rw [show n + (d + 1) + 1 = (n + d + 1) + 1 by omega, ep_u]
    rcases (show h j = 3 ∨ h j = 0 ∨ h j = 1 ∨ h j = 2 by have := hh4 j; omega) with e | e | e | e
    · obtain ⟨v1, p1, p2, p3, p4⟩ := put_ok v j hj4 hA 0 1 1
      have hF1 : Fw (up1 C j 0) (up1 Sl j 1) (up1 D j 1) (j + 1) f c s dd E := fw_next hF (fun k hk => ⟨up1_n _ _ _ hk, up1_n _ _ _ hk, up1_n _ _ _ hk⟩) (up1_s _ _ _) (up1_s _ _ _) (up1_s _ _ _)
      obtain ⟨v', C', S', D', f', c', s', d', E', q1, q2, q3, q4, q5⟩ := ih (j + 1) n v1 f c s dd E _ _ _ (by omega) (BndQ_SB hB p2) (fun i hi => by rw [p3]; exact hh i hi) p4 hF1
      refine ⟨v', C', S', D', f', c', s', d', E', ?_, SB_t p2 q2, q3, q4, ?_⟩
      · rw [ep_3 hL _ v v1 _ _ _ _ j hjn (by rw [hh j hjn, e]) p1]; exact q1
      · intro u l hR hg hfu hd hq
        have e3 : hOf S u l j = 3 := by rw [← hg j (Nat.le_refl _) hjn, e]
        have e4 : j + 1 < S.n ∧ u (j + 1) = u (j + 2) := by
          unfold hOf at e3
          by_cases q : j + 1 < S.n ∧ u (j + 1) = u (j + 2)
          · exact q
          · rw [if_neg q] at e3
            split at e3
            · omega
            · split at e3 <;> omega
        refine q5 u l hR (fun i h1 h2 => hg i (by omega) h2) (fun _ => ?_) hd ?_
        · show (if u (j + 1) = u (j + 2) then fstI u j else j + 1) = f
          rw [if_pos e4.2]; exact hfu hjn
        · intro i hi
          rcases Nat.eq_or_lt_of_le (Nat.le_of_lt_succ hi) with rfl | hi
          · rw [up1_s, up1_s, up1_s, e4.2]; omega
          · rw [up1_n _ _ _ hi, up1_n _ _ _ hi, up1_n _ _ _ hi]; exact hq i hi
    · obtain ⟨v1, p1, p2, p3, p4⟩ := put_ok v j hj4 hA (dd * frC S f j + S.K f * c) (S.K (j + 1) * dd) ((S.K f + S.K (j + 1)) * dd - S.K f * s)
      have hF1 := fw_spring hF hj4 (C' := up1 C j (dd * frC S f j + S.K f * c)) (S' := up1 Sl j (S.K (j + 1) * dd)) (D' := up1 D j ((S.K f + S.K (j + 1)) * dd - S.K f * s)) (fun k hk => ⟨up1_n _ _ _ hk, up1_n _ _ _ hk, up1_n _ _ _ hk⟩) (hL.K0 f (by omega)) (hL.K0 (j + 1) (by omega)) (frC_bd hL hfj hjn) (up1_s _ _ _) (up1_s _ _ _) (up1_s _ _ _)
      obtain ⟨v', C', S', D', f', c', s', d', E', q1, q2, q3, q4, q5⟩ := ih (j + 1) n v1 (j + 1) _ _ _ E _ _ _ (by omega) (BndQ_SB hB p2) (fun i hi => by rw [p3]; exact hh i hi) p4 hF1
      refine ⟨v', C', S', D', f', c', s', d', E', ?_, SB_t p2 q2, q3, q4, ?_⟩
      · rw [ep_0 hL _ v v1 f c s dd j hfj hjn (by rw [hh j hjn, e]) p1]; exact q1
      · intro u l hR hg hfu hd hq
        have e3 : hOf S u l j = 0 := by rw [← hg j (Nat.le_refl _) hjn, e]
        have hfu' := hfu hjn
        have e4 : ¬ (j + 1 < S.n ∧ u (j + 1) = u (j + 2)) ∧ gS S u l (j + 1) = gS S u l f := by
          unfold hOf at e3
          by_cases q : j + 1 < S.n ∧ u (j + 1) = u (j + 2)
          · rw [if_pos q] at e3; omega
          · rw [if_neg q] at e3
            refine ⟨q, ?_⟩
            rw [hfu'] at e3
            split at e3
            · assumption
            · split at e3 <;> omega
        have hfp := fst_p hR.toRowIn j hjn
        rw [hfu'] at hfp
        have hX := hfp.2.1
        have key : ((S.K f + S.K (j + 1)) * dd - S.K f * s) * u (j + 1) = (dd * frC S f j + S.K f * c) * l + S.K (j + 1) * dd * u (j + 2) := by
          have g := e4.2
          simp only [gS, tnS] at g
          have e5 : j + 1 + 1 = j + 2 := rfl
          rw [hX] at g hd
          rw [e5] at g
          unfold frC
          grind
        refine q5 u l hR (fun i h1 h2 => hg i (by omega) h2) (fun hlt => ?_) key ?_
        · show (if u (j + 1) = u (j + 2) then fstI u j else j + 1) = j + 1
          rw [if_neg (fun q => e4.1 ⟨hlt, q⟩)]
        · intro i hi
          rcases Nat.eq_or_lt_of_le (Nat.le_of_lt_succ hi) with rfl | hi
          · rw [up1_s, up1_s, up1_s]; exact key
          · rw [up1_n _ _ _ hi, up1_n _ _ _ hi, up1_n _ _ _ hi]; exact hq i hi
    all_goals
      obtain ⟨z, hz⟩ : ∃ z, z = (if h j = 1 then (p1_lowest v j).toInt else (p1_highest v f).toInt) := ⟨_, rfl⟩
      obtain ⟨v1, p1, p2, p3, p4⟩ := put_ok v j hj4 hA z 0 1
      have b1 := SB_BndQ_ex hB hL.lo0 hL.al hL.hiW j hjn
      have b2 := SB_BndQ_ex hB hL.lo0 hL.al hL.hiW f (by omega)
      have hW := hL.W1
      have hzb : 0 ≤ z ∧ z ≤ 99 := by
        rw [hz]
        split <;> omega
      have hF1 := fw_pin hF (C' := up1 C j z) (S' := up1 Sl j 0) (D' := up1 D j 1) (fun k hk => ⟨up1_n _ _ _ hk, up1_n _ _ _ hk, up1_n _ _ _ hk⟩) hzb (up1_s _ _ _) (up1_s _ _ _) (up1_s _ _ _)
      obtain ⟨v', C', S', D', f', c', s', d', E', q1, q2, q3, q4, q5⟩ := ih (j + 1) n v1 (j + 1) _ _ _ _ _ _ _ (by omega) (BndQ_SB hB p2) (fun i hi => by rw [p3]; exact hh i hi) p4 hF1
      refine ⟨v', C', S', D', f', c', s', d', E', ?_, SB_t p2 q2, q3, q4, ?_⟩
      · rw [ep_12 hL _ v v1 f _ _ _ j (h j) hfj hjn (hh j hjn) (by omega) z hz p1]; exact q1
      · intro u l hR hg hfu hd hq
        have e3 : hOf S u l j = h j := by rw [← hg j (Nat.le_refl _) hjn]
        have hfu' := hfu hjn
        have e4 : ¬ (j + 1 < S.n ∧ u (j + 1) = u (j + 2)) ∧ (h j = 1 → gS S u l (j + 1) < gS S u l f) ∧ (h j = 2 → gS S u l f < gS S u l (j + 1)) := by
          unfold hOf at e3
          by_cases q : j + 1 < S.n ∧ u (j + 1) = u (j + 2)
          · rw [if_pos q] at e3; omega
          · rw [if_neg q] at e3
            refine ⟨q, ?_⟩
            rw [hfu'] at e3
            split at e3
            · omega
            · split at e3 <;> omega
        have key : z * l = u (j + 1) := by
          rw [hz]
          by_cases h1 : h j = 1
          · rw [if_pos h1]
            exact pin_low hR hL.lo0 hB hjn hfu' (e4.2.1 h1)
          · rw [if_neg h1]
            exact pin_high hR hL.hiW hB hjn hfu' e4.1 (e4.2.2 (by omega))
        refine q5 u l hR (fun i h1 h2 => hg i (by omega) h2) (fun hlt => ?_) (by rw [key]; omega) ?_
        · show (if u (j + 1) = u (j + 2) then fstI u j else j + 1) = j + 1
          rw [if_neg (fun q => e4.1 ⟨hlt, q⟩)]
        · intro i hi
          rcases Nat.eq_or_lt_of_le (Nat.le_of_lt_succ hi) with rfl | hi
          · rw [up1_s, up1_s, up1_s, key]; omega
          · rw [up1_n _ _ _ hi, up1_n _ _ _ hi, up1_n _ _ _ hi]; exact hq i hi
/-- all places are told by the next ones -/
theorem express_ok {L : BX0} {S : Sy} (hL : LaySy L S) (h : Nat → Nat) (hh4 : ∀ i, h i < 4) (v : BX1) (hB : BndQ S v) (hh : ∀ i, i < S.n → p1_holds v i = nI (h i)) :
    ∃ v' C D Sl, fX1_expressPlaces L v = some v' ∧ SB v v' ∧ AR v' S.n C Sl D ∧
      (∀ i, i < S.n → 0 < D i ∧ D i ≤ 104976 ∧ 0 ≤ Sl i ∧ Sl i ≤ 104976 ∧ -544195584 ≤ C i ∧ C i ≤ 544195584) ∧
      (∃ E : Int, 0 < E ∧ E ≤ 104976 ∧ ∀ (w : Int) (i : Nat) (x : Nat → Rat), i < S.n → x S.n = (w : Rat) → EqsR C Sl D i S.n x → ∃ t : Int, (E : Rat) * x i = (t : Rat)) ∧
      ∀ u l, RestT S u l → (∀ i, i < S.n → h i = hOf S u l i) → ∀ i, i < S.n → D i * u (i + 1) = C i * l + Sl i * u (i + 2) := by
  have n4 := hL.n4
  obtain ⟨k, hk⟩ := FU_ex (S.n + 1) (by omega)
  obtain ⟨v', C', S', D', f', c', s', d', E', q1, q2, q3, q4, q5⟩ := ep_all hL h hh4 S.n 0 k v 0 0 0 1 1 _ _ _ (by omega) hB hh (fun i hi => absurd hi (by omega)) fw_0
  refine ⟨v', C', D', S', ?_, q2, q3, q4.arr, ⟨E' * d', Int.mul_pos q4.E0 q4.d0, Int.le_trans q4.Ed (p18 _ n4), fun w i x hi hx hq => fw_wall q4 w i hi x hx hq⟩, ?_⟩
  · unfold fX1_expressPlaces
    rw [hk, show k + (S.n + 1) = k + S.n + 1 by omega]
    exact q1
  · intro u l hR hg
    refine q5 u l hR (fun i _ h2 => hg i h2) (fun _ => rfl) ?_ (fun i hi => absurd hi (by omega))
    have := hR.z
    rw [this]; omega
