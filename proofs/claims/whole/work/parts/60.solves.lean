/-! the reference solves its equations -/
def GrM (M : BX4) (B : Nat) (g : Nat → Nat → Int) : Prop := ∀ i, i < B → ∀ c, c < 5 → p4_grid M (5 * i + c) = nL (g i c)
def mixG (D l r F : Nat → Int) (k r0 c0 i c : Nat) : Int := if i < r0 ∨ (i = r0 ∧ c < c0) then gN D l r F (k + 1) i c else gN D l r F k i c
theorem mix_same {D l r F : Nat → Int} {k r0 c0 r1 c1 i c : Nat} (h : (i < r0 ∨ (i = r0 ∧ c < c0)) ↔ (i < r1 ∨ (i = r1 ∧ c < c1))) : mixG D l r F k r0 c0 i c = mixG D l r F k r1 c1 i c := by
  unfold mixG
  by_cases q : i < r0 ∨ (i = r0 ∧ c < c0)
  · rw [if_pos q, if_pos (h.mp q)]
  · rw [if_neg q, if_neg (fun z => q (h.mpr z))]
theorem mix_k {D l r F : Nat → Int} {k r0 c0 c : Nat} : mixG D l r F k r0 c0 k c = gN D l r F k k c := by
  unfold mixG
  split
  · exact gN_kk D l r F k c
  · rfl
theorem mix_hi {D l r F : Nat → Int} {k r0 c0 i c : Nat} (h : ¬ (i < r0 ∨ (i = r0 ∧ c < c0))) : mixG D l r F k r0 c0 i c = gN D l r F k i c := if_neg h
theorem s52_u (k4 : BX4 → Int64 → Int32 → Option BX4) (k27 : BX4 → Int64 → Int32 → Int64 → Int32 → Option BX4) (k : Nat) : fX4_solves_52 k4 k27 (k + 1) = fX4_solves_52_b k4 k27 (fX4_solves_52 k4 k27 k) := rfl
theorem s27_u (k4 : BX4 → Int64 → Int32 → Option BX4) (k : Nat) : fX4_solves_27 k4 (k + 1) = fX4_solves_27_b k4 (fX4_solves_27 k4 k) := rfl
theorem s4_u (k : Nat) : fX4_solves_4 (k + 1) = fX4_solves_4_b (fX4_solves_4 k) := rfl
theorem s52_all {D l r F : Nat → Int} {B : Nat} (h : ∀ i, i < B → RwB (D i) (l i) (r i) (F i)) (hB : B ≤ 4) (k4 : BX4 → Int64 → Int32 → Option BX4) (k27 : BX4 → Int64 → Int32 → Int64 → Int32 → Option BX4) (k r0 : Nat) (hk : k < B) (hr : r0 < B) (hrk : r0 ≠ k) :
    ∀ (d c n : Nat) (M : BX4), c + d = 5 → GrM M B (mixG D l r F k r0 c) → ∃ M', fX4_solves_52 k4 k27 (n + d + 1) M (nL (ddN D l r F k)) (nI k) (nL (ddN D l r F (k + 1))) (nI r0) (nL (gN D l r F k r0 k)) (nI c) = k27 M' (nL (ddN D l r F k)) (nI k) (nL (ddN D l r F (k + 1))) (nI (r0 + 1)) ∧ rzB M' = rzB M ∧ GrM M' B (mixG D l r F k (r0 + 1) 0) := by
  intro d
  induction d with
  | zero =>
    intro c n M hc hG
    obtain rfl : c = 5 := by omega
    refine ⟨M, ?_, rfl, fun i hi c hc => ?_⟩
    · rw [s52_u]
      unfold fX4_solves_52_b fX4_solves_114
      rw [if_pos (show (5 : Int32) ≤ nI 5 from by decide), elet_eq, nI_1]
    · rw [hG i hi c hc]
      congr 1
      exact mix_same ⟨by omega, by omega⟩
  | succ d ih =>
    intro c n M hc hG
    have e5 : (5 : Int32) * nI r0 = nI (5 * r0) := pk_mul 5 r0
    have e5k : (5 : Int32) * nI k = nI (5 * k) := pk_mul 5 k
    have a1 : ¬ (5 : Int32) ≤ nI c := nlec (b := c) (a := 5) (by omega) (by omega)
    have a2 : ¬ nI r0 = nI k := fun e => hrk ((nI_eq (by omega) (by omega)).mp e)
    have g1 := hG r0 hr c (by omega)
    have g2 := hG k hk c (by omega)
    rw [mix_k] at g2
    rw [mix_hi (by omega)] at g1
    obtain ⟨d1, d2, -, -⟩ := dd_bd h k (by omega)
    have p2 := p18 k (by omega)
    have iD : inL (ddN D l r F k) := ⟨by omega, by omega⟩
    have e0 : ¬ nL (ddN D l r F k) = 0 := fun e => by have := (nL_eq iD inL_0).mp e; omega
    have key := gN_s D l r F k r0 c (by omega) (by omega) hrk
    have b1 := gN_bd h hB (k + 1) r0 c (by omega) hr
    have m1 : ddN D l r F k * gN D l r F (k + 1) r0 c ≤ ddN D l r F k * 10240000000 := Int.mul_le_mul_of_nonneg_left b1.2 (by omega)
    have m2 : ddN D l r F k * (-10240000000) ≤ ddN D l r F k * gN D l r F (k + 1) r0 c := Int.mul_le_mul_of_nonneg_left b1.1 (by omega)
    have iX : inL (ddN D l r F k * gN D l r F (k + 1) r0 c) := ⟨by omega, by omega⟩
    have st : fX4_solves_52 k4 k27 (n + (d + 1) + 1) M (nL (ddN D l r F k)) (nI k) (nL (ddN D l r F (k + 1))) (nI r0) (nL (gN D l r F k r0 k)) (nI c) = fX4_solves_52 k4 k27 (n + d + 1) (s4_grid M (vp_updL (p4_grid M) (5 * r0 + c) (nL (gN D l r F (k + 1) r0 c)))) (nL (ddN D l r F k)) (nI k) (nL (ddN D l r F (k + 1))) (nI r0) (nL (gN D l r F k r0 k)) (nI (c + 1)) := by
      rw [show n + (d + 1) + 1 = (n + d + 1) + 1 by omega, s52_u]
      generalize fX4_solves_52 k4 k27 (n + d + 1) = kk
      unfold fX4_solves_52_b
      rw [if_neg a1, if_neg a2, e5, e5k, nI_add, nI_add, if_pos (inB_nI (by omega) (by omega)), if_pos (inB_nI (by omega) (by omega)), if_neg e0, if_pos (inB_nI (by omega) (by omega)), nI_clamp (by omega), nI_clamp (by omega), g1, g2, nL_mul, nL_mul, nL_sub, key, nL_quot iX iD (by omega)]
      simp only [elet_eq]
      rw [nI_1]
    obtain ⟨M', q1, q2, q3⟩ := ih (c + 1) n (s4_grid M (vp_updL (p4_grid M) (5 * r0 + c) (nL (gN D l r F (k + 1) r0 c)))) (by omega) (by
      intro i hi c' hc'
      show vp_updL (p4_grid M) (5 * r0 + c) (nL (gN D l r F (k + 1) r0 c)) (5 * i + c') = _
      by_cases q : i = r0 ∧ c' = c
      · obtain ⟨rfl, rfl⟩ := q
        rw [pk_uLs]
        congr 1
        unfold mixG
        rw [if_pos (by omega)]
      · rw [pk_uLn (by omega), hG i hi c' hc']
        congr 1
        exact mix_same ⟨by omega, by omega⟩)
    exact ⟨M', st.trans q1, q2, q3⟩
theorem s27_all {D l r F : Nat → Int} {B : Nat} (h : ∀ i, i < B → RwB (D i) (l i) (r i) (F i)) (hB : B ≤ 4) (k4 : BX4 → Int64 → Int32 → Option BX4) (k : Nat) (hk : k < B) :
    ∀ (d r0 n : Nat) (M : BX4), r0 + d = B → p4_blocks M = nI B → GrM M B (mixG D l r F k r0 0) → ∃ M', fX4_solves_27 k4 (n + d + 1) M (nL (ddN D l r F k)) (nI k) (nL (ddN D l r F (k + 1))) (nI r0) = k4 M' (nL (ddN D l r F (k + 1))) (nI (k + 1)) ∧ rzB M' = rzB M ∧ GrM M' B (gN D l r F (k + 1)) := by
  intro d
  induction d with
  | zero =>
    intro r0 n M hr hb hG
    have hr' : r0 = B := by omega
    subst hr'
    refine ⟨M, ?_, rfl, fun i hi c hc => ?_⟩
    · rw [s27_u]
      unfold fX4_solves_27_b
      rw [hb, if_pos (Int32.le_refl _), elet_eq, nI_1]
    · rw [hG i hi c hc]
      congr 1
      unfold mixG
      rw [if_pos (Or.inl hi)]
  | succ d ih =>
    intro r0 n M hr hb hG
    have e5 : (5 : Int32) * nI r0 = nI (5 * r0) := pk_mul 5 r0
    have g1 := hG r0 (by omega) k (by omega)
    rw [mix_hi (by omega)] at g1
    have st : fX4_solves_27 k4 (n + (d + 1) + 1) M (nL (ddN D l r F k)) (nI k) (nL (ddN D l r F (k + 1))) (nI r0) = fX4_solves_52 k4 (fX4_solves_27 k4 (n + d + 1)) FU M (nL (ddN D l r F k)) (nI k) (nL (ddN D l r F (k + 1))) (nI r0) (nL (gN D l r F k r0 k)) (nI 0) := by
      rw [show n + (d + 1) + 1 = (n + d + 1) + 1 by omega, s27_u]
      generalize fX4_solves_27 k4 (n + d + 1) = kk
      unfold fX4_solves_27_b
      rw [hb, if_neg (nlec (by omega) (by omega)), e5, nI_add, if_pos (inB_nI (by omega) (by omega)), nI_clamp (by omega), g1, elet_eq]
      rfl
    rw [st]
    obtain ⟨M1, q1, q2, q3⟩ : ∃ M', fX4_solves_52 k4 (fX4_solves_27 k4 (n + d + 1)) FU M (nL (ddN D l r F k)) (nI k) (nL (ddN D l r F (k + 1))) (nI r0) (nL (gN D l r F k r0 k)) (nI 0) = fX4_solves_27 k4 (n + d + 1) M' (nL (ddN D l r F k)) (nI k) (nL (ddN D l r F (k + 1))) (nI (r0 + 1)) ∧ rzB M' = rzB M ∧ GrM M' B (mixG D l r F k (r0 + 1) 0) := by
      by_cases q : r0 = k
      · subst q
        obtain ⟨m, hm⟩ := FU_ex 1 (by omega)
        refine ⟨M, ?_, rfl, fun i hi c hc => ?_⟩
        · rw [hm, s52_u]
          clear hm
          generalize fX4_solves_27 k4 (n + d + 1) = kk
          unfold fX4_solves_52_b fX4_solves_114
          rw [if_neg (show ¬ (5 : Int32) ≤ nI 0 from by decide), if_pos rfl, elet_eq, nI_1]
        · rw [hG i hi c hc]
          congr 1
          by_cases e : i = r0
          · subst e; rw [mix_k, mix_k]
          · exact mix_same ⟨by omega, by omega⟩
      · obtain ⟨m, hm⟩ := FU_ex 6 (by omega)
        rw [hm, show m + 6 = m + 5 + 1 by omega]
        exact s52_all h hB k4 _ k r0 hk (by omega) q 5 0 m M (by omega) hG
    rw [q1]
    obtain ⟨M2, j1, j2, j3⟩ := ih (r0 + 1) n M1 (by omega) ((congrArg (fun z => z.2.1) q2 : p4_blocks M1 = p4_blocks M).trans hb) q3
    exact ⟨M2, j1, j2.trans q2, j3⟩
theorem s136_u (k : Nat) : fX4_solves_136 (k + 1) = fX4_solves_136_b (fX4_solves_136 k) := rfl
theorem s152_u (k1 : BX4 → Int32 → Option BX4) (k : Nat) : fX4_solves_152 k1 (k + 1) = fX4_solves_152_b k1 (fX4_solves_152 k1 k) := rfl
/-- all of a block are at one place -/
theorem s152_all {S : Sy} {B : Nat} {FB : Nat → Nat} (hn : S.n ≤ 4) (k1 : BX4 → Int32 → Option BX4) (b : Nat) (hb : b < B) (z : Int) : ∀ (d p n : Nat) (M : BX4), p + d = FB (b + 1) → Blk S M B FB → p4_grid M (5 * b + 4) = nL z →
    ∃ M', fX4_solves_152 k1 (n + d + 1) M (nI b) (nI p) = k1 M' (nI (b + 1)) ∧ rzB M' = rzB M ∧ p4_grid M' = p4_grid M ∧ p4_lower M' = p4_lower M ∧ (∀ q, p ≤ q → q < FB (b + 1) → p4_upper M' q = nL z) ∧ ∀ q, q < p → p4_upper M' q = p4_upper M q := by
  intro d
  induction d with
  | zero =>
    intro p n M hp hB hg
    have b4 := hB.b4
    have hfb := fb_le hB (B - (b + 1)) (b + 1) (by omega)
    refine ⟨M, ?_, rfl, rfl, rfl, fun q h1 h2 => by omega, fun q _ => rfl⟩
    rw [s152_u]
    unfold fX4_solves_152_b
    rw [nI_1, if_pos (inB_nI (by omega) (by omega)), nI_clamp (by omega), hB.fi (b + 1) (by omega), if_pos (lec (by omega) (by omega)), elet_eq]
  | succ d ih =>
    intro p n M hp hB hg
    have b4 := hB.b4
    have hfb := fb_le hB (B - (b + 1)) (b + 1) (by omega)
    have e5 : (5 : Int32) * nI b = nI (5 * b) := pk_mul 5 b
    have e54 : nI (5 * b) + (4 : Int32) = nI (5 * b + 4) := nI_add _ 4
    have st : fX4_solves_152 k1 (n + (d + 1) + 1) M (nI b) (nI p) = fX4_solves_152 k1 (n + d + 1) (s4_upper M (vp_updL (p4_upper M) p (nL z))) (nI b) (nI (p + 1)) := by
      rw [show n + (d + 1) + 1 = (n + d + 1) + 1 by omega, s152_u]
      generalize fX4_solves_152 k1 (n + d + 1) = kk
      unfold fX4_solves_152_b
      rw [nI_1, if_pos (inB_nI (by omega) (by omega)), nI_clamp (by omega), hB.fi (b + 1) (by omega), if_neg (nlec (by omega) (by omega)), e5, e54, if_pos (inB_nI (by omega) (by omega)), if_pos (inB_nI (by omega) (by omega)), nI_clamp (by omega), nI_clamp (by omega), hg]
      simp only [elet_eq]
      rw [nI_1]
    obtain ⟨M', q1, q2, q3, q4, q5, q6⟩ := ih (p + 1) n (s4_upper M (vp_updL (p4_upper M) p (nL z))) (by omega) (rzB_Blk hB rfl) hg
    refine ⟨M', st.trans q1, q2, q3, q4, ?_, ?_⟩
    · intro q h1 h2
      rcases Nat.eq_or_lt_of_le h1 with rfl | h1
      · rw [q6 _ (by omega)]
        show vp_updL (p4_upper M) p (nL z) p = _
        rw [pk_uLs]
      · exact q5 q h1 h2
    · intro q h1
      rw [q6 q (by omega)]
      show vp_updL (p4_upper M) p (nL z) q = _
      rw [pk_uLn (by omega)]
theorem s136_all {S : Sy} {B : Nat} {FB : Nat → Nat} (hn : S.n ≤ 4) (z : Nat → Int) : ∀ (d b n : Nat) (M : BX4), b + d = B → Blk S M B FB → (∀ i, i < B → p4_grid M (5 * i + 4) = nL (z i)) → (∀ i, i < b → ∀ q, FB i ≤ q → q < FB (i + 1) → p4_upper M q = nL (z i)) →
    ∃ M', fX4_solves_136 (n + d + 1) M (nI b) = some M' ∧ rzB M' = rzB M ∧ p4_lower M' = p4_lower M ∧ ∀ i, i < B → ∀ q, FB i ≤ q → q < FB (i + 1) → p4_upper M' q = nL (z i) := by
  intro d
  induction d with
  | zero =>
    intro b n M hb hB hg hu
    have hb' : b = B := by omega
    subst hb'
    refine ⟨M, ?_, rfl, rfl, hu⟩
    rw [s136_u]
    unfold fX4_solves_136_b
    rw [hB.bl, if_pos (Int32.le_refl _)]
  | succ d ih =>
    intro b n M hb hB hg hu
    have b4 := hB.b4
    have hfb := fb_le hB (B - (b + 1)) (b + 1) (by omega)
    have hup := hB.up b (by omega)
    obtain ⟨m, hm⟩ := FU_ex ((FB (b + 1) - FB b) + 1) (by omega)
    have st : fX4_solves_136 (n + (d + 1) + 1) M (nI b) = fX4_solves_152 (fX4_solves_136 (n + d + 1)) FU M (nI b) (nI (FB b)) := by
      rw [show n + (d + 1) + 1 = (n + d + 1) + 1 by omega, s136_u]
      generalize fX4_solves_136 (n + d + 1) = kk
      unfold fX4_solves_136_b
      rw [hB.bl, if_neg (nlec (by omega) (by omega)), if_pos (inB_nI (by omega) (by omega)), nI_clamp (by omega), hB.fi b (by omega), elet_eq]
    rw [st, hm, show m + ((FB (b + 1) - FB b) + 1) = m + (FB (b + 1) - FB b) + 1 by omega]
    clear hm
    obtain ⟨M1, q1, q2, q3, q4, q5, q6⟩ := s152_all hn (fX4_solves_136 (n + d + 1)) b (by omega) (z b) (FB (b + 1) - FB b) (FB b) m M (by omega) hB (hg b (by omega))
    rw [q1]
    have mono : ∀ i j, i ≤ j → j ≤ B → FB i ≤ FB j := by
      intro i j hij
      induction j with
      | zero => intro _; rw [show i = 0 by omega]; exact Nat.le_refl _
      | succ j ihj =>
        intro hj
        rcases Nat.eq_or_lt_of_le hij with rfl | h
        · exact Nat.le_refl _
        · have := ihj (by omega) (by omega); have := hB.up j (by omega); omega
    obtain ⟨M2, j1, j2, j3, j4⟩ := ih (b + 1) n M1 (by omega) (rzB_Blk hB q2) (fun i hi => by rw [q3]; exact hg i hi) (by
      intro i hi q h1 h2
      rcases Nat.eq_or_lt_of_le (Nat.le_of_lt_succ hi) with rfl | hi
      · exact q5 q h1 h2
      · have := mono (i + 1) b (by omega) (by omega)
        rw [q6 q (by omega)]; exact hu i hi q h1 h2)
    exact ⟨M2, j1, j2.trans q2, j3.trans q4, j4⟩
theorem s4_all {S : Sy} {B : Nat} {FB : Nat → Nat} (hn : S.n ≤ 4) {D l r F : Nat → Int} (h : ∀ i, i < B → RwB (D i) (l i) (r i) (F i)) :
    ∀ (d k n : Nat) (M : BX4), k + d = B → Blk S M B FB → GrM M B (gN D l r F k) → ∃ M', fX4_solves_4 (n + d + 1) M (nL (ddN D l r F k)) (nI k) = some M' ∧ rzB M' = rzB M ∧ p4_lower M' = nL (ddN D l r F B) ∧ ∀ i, i < B → ∀ q, FB i ≤ q → q < FB (i + 1) → p4_upper M' q = nL (aN D l r F B i) := by
  intro d
  induction d with
  | zero =>
    intro k n M hk hB hG
    have hk' : k = B := by omega
    subst hk'
    have b4 := hB.b4
    obtain ⟨m, hm⟩ := FU_ex (k + 1) (by omega)
    have st : fX4_solves_4 (n + 0 + 1) M (nL (ddN D l r F k)) (nI k) = fX4_solves_136 FU (s4_lower M (nL (ddN D l r F k))) (nI 0) := by
      rw [s4_u]
      unfold fX4_solves_4_b
      rw [hB.bl, if_pos (Int32.le_refl _), elet_eq]
      rfl
    rw [st, hm, show m + (k + 1) = m + k + 1 by omega]
    exact s136_all hn (aN D l r F k) k 0 m (s4_lower M (nL (ddN D l r F k))) (by omega) (rzB_Blk hB rfl) (by
      intro i hi
      have := hG i hi 4 (by omega)
      unfold gN at this
      rw [if_pos hi, if_pos rfl] at this
      exact this) (fun i hi => absurd hi (by omega))
  | succ d ih =>
    intro k n M hk hB hG
    have b4 := hB.b4
    have e5 : (5 : Int32) * nI k = nI (5 * k) := pk_mul 5 k
    have g1 := hG k (by omega) k (by omega)
    have g2 : gN D l r F k k k = ddN D l r F (k + 1) := by
      unfold gN
      rw [if_neg (Nat.lt_irrefl _), if_pos rfl, if_neg (by omega), if_pos rfl]
    rw [g2] at g1
    obtain ⟨m, hm⟩ := FU_ex (B + 1) (by omega)
    have st : fX4_solves_4 (n + (d + 1) + 1) M (nL (ddN D l r F k)) (nI k) = fX4_solves_27 (fX4_solves_4 (n + d + 1)) FU M (nL (ddN D l r F k)) (nI k) (nL (ddN D l r F (k + 1))) (nI 0) := by
      rw [show n + (d + 1) + 1 = (n + d + 1) + 1 by omega, s4_u]
      generalize fX4_solves_4 (n + d + 1) = kk
      unfold fX4_solves_4_b
      rw [hB.bl, if_neg (nlec (by omega) (by omega)), e5, nI_add, if_pos (inB_nI (by omega) (by omega)), nI_clamp (by omega), g1, elet_eq]
      rfl
    rw [st, hm, show m + (B + 1) = m + B + 1 by omega]
    clear hm
    obtain ⟨M1, q1, q2, q3⟩ := s27_all h (by omega) (fX4_solves_4 (n + d + 1)) k (by omega) B 0 m M (by omega) hB.bl (fun i hi c hc => by rw [hG i hi c hc, mix_hi (by omega)])
    rw [q1]
    obtain ⟨M2, j1, j2, j3, j4⟩ := ih (k + 1) n M1 (by omega) (rzB_Blk hB q2) q3
    exact ⟨M2, j1, j2.trans q2, j3, j4⟩
theorem solves_ok {S : Sy} {B : Nat} {FB : Nat → Nat} (hn : S.n ≤ 4) {D l r F : Nat → Int} (h : ∀ i, i < B → RwB (D i) (l i) (r i) (F i)) (M : BX4) (hB : Blk S M B FB) (hG : ∀ i, i < B → ∀ c, c < 5 → p4_grid M (5 * i + c) = nL (orig (D i) (l i) (r i) (F i) i c)) :
    ∃ M', fX4_solves M = some M' ∧ rzB M' = rzB M ∧ p4_lower M' = nL (ddN D l r F B) ∧ ∀ i, i < B → ∀ q, FB i ≤ q → q < FB (i + 1) → p4_upper M' q = nL (aN D l r F B i) := by
  have b4 := hB.b4
  obtain ⟨m, hm⟩ := FU_ex (B + 1) (by omega)
  unfold fX4_solves
  rw [hm, show m + (B + 1) = m + B + 1 by omega]
  exact s4_all hn h B 0 m M (by omega) hB (fun i hi c hc => by rw [hG i hi c hc, gN_0])
