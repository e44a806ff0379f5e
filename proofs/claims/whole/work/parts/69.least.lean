/-! the least load -/
theorem preS_congr {q q' : Nat → Int} {n : Nat} (h : ∀ k, k < n → q' k = q k) : ∀ k, k ≤ n → preS q' k = preS q k := by
  intro k
  induction k with
  | zero => intro _; rfl
  | succ k ih => intro hk; simp only [preS]; rw [ih (by omega), h k (by omega)]
theorem rest_sy {S S' : Sy} {u : Nat → Int} {l : Int} (hn : S'.n = S.n) (hW : S'.W = S.W) (hK : ∀ k, k ≤ S.n → S'.K k = S.K k) (hL : ∀ k, k ≤ S.n → S'.L k = S.L k) (hq : ∀ k, k < S.n → S'.q k = S.q k) (hlo : ∀ k, k < S.n → S'.lo k = S.lo k) (hhi : ∀ k, k < S.n → S'.hi k = S.hi k) (h : RestT S u l) : RestT S' u l := by
  have eg : ∀ k, k ≤ S.n → gS S' u l k = gS S u l k := by
    intro k hk
    simp only [gS, tnS]
    rw [hK k hk, hL k hk, preS_congr hq k hk]
  refine ⟨⟨h.pos, h.z, by rw [hn, hW]; exact h.w, ?_, ?_, ?_⟩, ?_, ?_⟩
  · intro p hp; rw [hn] at hp; rw [hlo p hp]; exact h.lo p hp
  · intro p hp; rw [hn] at hp; rw [hhi p hp]; exact h.hi p hp
  · intro p hp; rw [hn] at hp; exact h.mono p hp
  · intro a b h1 h2 h3 h4 h5
    rw [hn] at h2
    rw [eg a (by omega), eg b h2]
    exact h.left a b h1 h2 h3 h4 (fun p p1 p2 => by have := h5 p p1 p2; rw [hlo p (by omega)] at this; exact this)
  · intro a b h1 h2 h3 h4 h5
    rw [hn] at h2
    rw [eg a (by omega), eg b h2]
    exact h.right a b h1 h2 h3 h4 (fun p p1 p2 => by have := h5 p p1 p2; rw [hhi p (by omega)] at this; exact this)
theorem preS_mono {q q' : Nat → Int} {n : Nat} (h : ∀ k, k < n → q k ≤ q' k) (a : Nat) : ∀ d, a + d ≤ n → preS q (a + d) - preS q a ≤ preS q' (a + d) - preS q' a := by
  intro d
  induction d with
  | zero => intro _; simp
  | succ d ih =>
    intro hd
    have := ih (by omega)
    have := h (a + d) (by omega)
    rw [show a + (d + 1) = (a + d) + 1 by omega]
    simp only [preS]
    omega
/-- the state with a load -/
def sG (s : Nat → Int32) (k : Nat) (g : Int) : Nat → Int32 := upd s (12 + k) (Int32.ofInt g)
theorem sG_n (s : Nat → Int32) (k : Nat) (g : Int) {j : Nat} (h : j ≠ 12 + k) : sG s k g j = s j := pk_un h
theorem sG_s (s : Nat → Int32) (k : Nat) (g : Int) : sG s k g (12 + k) = Int32.ofInt g := pk_us
theorem sG_up (s : Nat → Int32) (k : Nat) (g g' : Int) : upd (sG s k g) (12 + k) (Int32.ofInt g') = sG s k g' := by
  funext j
  unfold sG
  rw [upd_e, upd_e, upd_e]
  by_cases q : j = 12 + k
  · rw [if_pos q, if_pos q]
  · rw [if_neg q, if_neg q, if_neg q]
theorem o_add1 (g : Int) : Int32.ofInt g + 1 = Int32.ofInt (g + 1) := by
  rw [Int32.ofInt_add]; rfl
theorem o_add2 (g : Int) : Int32.ofInt g + 1000 = Int32.ofInt (g + 1000) := by
  rw [Int32.ofInt_add]; rfl
theorem o32 {g : Int} (h1 : -1000 ≤ g) (h2 : g ≤ 1000) : (Int32.ofInt g).toInt = g := Int32.toInt_ofInt_of_le (by omega) (by omega)
theorem good_sG {s : Nat → Int32} (hG : Good s) {k : Nat} (hk : k < 4) {g : Int} (h1 : -99 ≤ g) (h2 : g ≤ 99) : Good (sG s k g) := good_load hG k hk (Int32.ofInt g) (by rw [o32 (by omega) (by omega)]; exact h1) (by rw [o32 (by omega) (by omega)]; exact h2)
/-- the plate k reaches the place x by the load g -/
def Rch (s : Nat → Int32) (k : Nat) (x g : Int) : Prop := ∃ (u : Nat → Int) (l : Int), RestT (syO (sG s k g)) u l ∧ x * l ≤ u (k + 1)
theorem low_sG (s : Nat → Int32) (k j : Nat) (g : Int) (hk : k < 4) : lowB (sG s k g) j = lowB s j := by
  unfold lowB
  rw [sG_n s k g (by omega)]
theorem high_sG (s : Nat → Int32) (k j : Nat) (g : Int) (hk : k < 4) : highB (sG s k g) j = highB s j := by
  unfold highB
  rw [sG_n s k g (by omega), sG_n s k g (by omega)]
theorem rch_all {s : Nat → Int32} (hG : Good s) {p k : Nat} (g2 : s 1 = nI p) (g5 : p ≤ 4) (hk : k < p) {x g g' : Int} (h0 : -99 ≤ g) (h1 : g ≤ g') (h2 : g' ≤ 99) {u v : Nat → Int} {l m : Int} (hu : RestT (syO (sG s k g)) u l) (hv : RestT (syO (sG s k g')) v m) : m * u (k + 1) ≤ l * v (k + 1) := by
  have hS := gdS_of (good_sG hG (show k < 4 by omega) h0 (by omega))
  have hn : (syO (sG s k g)).n = p := syO_p (by rw [sG_n s k g (by omega)]; exact g2) g5
  have hn' : (syO (sG s k g')).n = p := syO_p (by rw [sG_n s k g' (by omega)]; exact g2) g5
  refine rest_mono (q' := (syO (sG s k g')).q) hu ?_ (fun j hj => by have := hS.K0 j hj; omega) ?_ (k + 1) (by omega)
  · refine rest_sy (S := syO (sG s k g')) (by rw [wq_n, hn, hn']) ?_ ?_ ?_ ?_ ?_ ?_ hv
    · rw [wq_W, syO_W, syO_W, sG_n s k g (by omega), sG_n s k g' (by omega)]
    · intro j hj; rw [wq_K, syO_K, syO_K, sG_n s k g (by omega), sG_n s k g' (by omega)]
    · intro j hj; rw [wq_L, syO_L, syO_L, sG_n s k g (by omega), sG_n s k g' (by omega)]
    · intro j hj; rw [wq_q]
    · intro j hj; rw [wq_lo, syO_lo, syO_lo, low_sG s k j g (by omega), low_sG s k j g' (by omega)]
    · intro j hj; rw [wq_hi, syO_hi, syO_hi, high_sG s k j g (by omega), high_sG s k j g' (by omega)]
  · intro a b hab hb
    have := preS_mono (q := (syO (sG s k g)).q) (q' := (syO (sG s k g')).q) (n := (syO (sG s k g)).n) (fun j hj => by
      rw [syO_q, syO_q]
      by_cases e : j = k
      · subst e
        rw [sG_s, sG_s, o32 (by omega) (by omega), o32 (by omega) (by omega)]; exact h1
      · rw [sG_n s k g (by omega), sG_n s k g' (by omega)]; exact Int.le_refl _) a (b - a) (by omega)
    rw [show a + (b - a) = b by omega] at this
    exact this
theorem rch_iff {s : Nat → Int32} (hG : Good s) {p k : Nat} (g2 : s 1 = nI p) (g5 : p ≤ 4) (hk : k < p) {x g : Int} (h0 : -99 ≤ g) (h2 : g ≤ 99) {u : Nat → Int} {l : Int} (hu : RestT (syO (sG s k g)) u l) : Rch s k x g ↔ x * l ≤ u (k + 1) := by
  constructor
  · rintro ⟨v, m, hv, hx⟩
    have h1 := rch_all hG g2 g5 hk (x := x) h0 (Int.le_refl _) h2 hv hu
    have lp := hu.pos
    have mp := hv.pos
    have h3 := Int.mul_le_mul_of_nonneg_left hx (Int.le_of_lt lp)
    have h4 : m * (x * l) ≤ m * u (k + 1) := by
      have : m * (x * l) = l * (x * m) := by grind
      rw [this]
      exact Int.le_trans h3 h1
    exact Int.le_of_mul_le_mul_left h4 mp
  · intro h; exact ⟨u, l, hu, h⟩
theorem rch_mono {s : Nat → Int32} (hG : Good s) {p k : Nat} (g2 : s 1 = nI p) (g5 : p ≤ 4) (hk : k < p) {x g g' : Int} (h0 : -99 ≤ g) (h1 : g ≤ g') (h2 : g' ≤ 99) (h : Rch s k x g) : Rch s k x g' := by
  obtain ⟨u, l, hu, hx⟩ := h
  obtain ⟨M', -, -, v, m, -, hv, -⟩ := rests_ok (good_sG hG (show k < 4 by omega) (show -99 ≤ g' by omega) h2) (s4_s (default, default, default, 0, 0, default, 0, default, 0, default, default, 0, default, 0, 0, 0, 0, 0, 0, 0, default) (sG s k g')) rfl
  refine ⟨v, m, hv, ?_⟩
  have h3 := rch_all hG g2 g5 hk (x := x) h0 h1 h2 hu hv
  have lp := hu.pos
  have mp := hv.pos
  have h4 := Int.mul_le_mul_of_nonneg_left hx (Int.le_of_lt mp)
  have h5 : l * (x * m) ≤ l * v (k + 1) := by
    have : l * (x * m) = m * (x * l) := by grind
    rw [this]
    exact Int.le_trans h4 h3
  exact Int.le_of_mul_le_mul_left h5 lp
theorem tr_ok {L : BX0} {s : Nat → Int32} (hG : Good s) {p k : Nat} (g2 : s 1 = nI p) (g5 : p ≤ 4) (hk : k < p) {s1 : Nat → Int32} (hL : LayEq L s1) (hs1 : ∀ g, upd s1 (12 + k) (Int32.ofInt g) = sG s k g) (h1 : s1 1 = nI p) (vX : BX3) (vT : BX1) {y : Int} (y0 : -99 ≤ y) (y1 : y ≤ 99) (x : Int32) (x0 : 0 ≤ x.toInt) (x1 : x.toInt ≤ 99) :
    ∃ b L' R', fX3_trialReaches vX L vT (nI k) (Int32.ofInt y) x = some (b, L', R') ∧ LayEq L' (sG s k y) ∧ ((b = 1 ∧ Rch s k x.toInt y) ∨ (b = 0 ∧ ¬ Rch s k x.toInt y)) := by
  have hk4 : k < 4 := by omega
  have hG1 := good_sG hG hk4 y0 y1
  have e1 : inB (nI k) 4 = true := inB_nI hk4 (by omega)
  have e2 : (nI k).toNatClampNeg = k := nI_clamp (by omega)
  have a1 : fX0_hasPlate L (nI k) = some 1 := by
    rcases plate_or2 hL h1 g5 (nI k) with ⟨a0, -, -⟩ | ⟨k', -, -, a1, -⟩
    · exact absurd ⟨k, hk, rfl⟩ a0
    · exact a1
  have hL' := lay_load hL k hk4 (Int32.ofInt y)
  rw [hs1 y] at hL'
  have st : fX0_setLoad L (nI k) (Int32.ofInt y) = some (p0_loads L k + 1000, s0_loads L (upd (p0_loads L) k (Int32.ofInt y))) := by
    unfold fX0_setLoad
    have b1 : ¬ Int32.ofInt y < -99 := by rw [i_lt, o32 (by omega) (by omega)]; show ¬ y < -99; omega
    have b2 : Int32.ofInt y ≤ 99 := by rw [i_le, o32 (by omega) (by omega)]; exact y1
    rw [a1, Option.bind_some, if_neg (by decide), if_neg b1, if_pos b2, if_pos e1]
    simp only [elet_eq]
    rw [if_pos e1, e2]
  obtain ⟨R, l, u, q1, q2, q3, q4⟩ := settle_ok (laySy_of hL' hG1) vT
  have hS := gdS_of hG1
  have hn : (syO (sG s k y)).n = p := syO_p (by rw [sG_n s k y (by omega)]; exact g2) g5
  have l0 := q3.pos
  have iu := row_inL hS q3.toRowIn q4 (k + 1) (by omega)
  have b1 : 0 ≤ x.toInt * l := Int.mul_nonneg x0 (by omega)
  have b2 : x.toInt * l ≤ 99 * l := Int.mul_le_mul_of_nonneg_right x1 (by omega)
  have ix : inL (x.toInt * l) := ⟨by omega, by omega⟩
  have hi := rch_iff hG g2 g5 hk (x := x.toInt) y0 y1 q3
  have hd : fX3_trialReaches vX L vT (nI k) (Int32.ofInt y) x = if lg_cmp (nL (u (k + 1))) (nL (x.toInt * l)) < 0 then some (0, s0_loads L (upd (p0_loads L) k (Int32.ofInt y)), R) else some (1, s0_loads L (upd (p0_loads L) k (Int32.ofInt y)), R) := by
    unfold fX3_trialReaches
    rw [st, Option.bind_some, q1, Option.bind_some, up_v (by omega) q2 k (by omega), Option.bind_some, nL_I, q2.1, nL_mul]
  rw [hd]
  by_cases q : u (k + 1) < x.toInt * l
  · rw [if_pos ((cmp_l0 iu ix).mpr q)]
    exact ⟨0, _, _, rfl, hL', Or.inr ⟨rfl, fun z => by have := hi.mp z; omega⟩⟩
  · rw [if_neg (fun z => q ((cmp_l0 iu ix).mp z))]
    exact ⟨1, _, _, rfl, hL', Or.inl ⟨rfl, hi.mpr (by omega)⟩⟩
theorem fd7_all : ∀ a : Fin 397, fJ9_floorDiv_7cf53 (Int32.ofInt ((a.val : Int) - 198)) 2 = some (Int32.ofInt (((a.val : Int) - 198) / 2)) := by decide +kernel
theorem fd7 {a : Int} (h1 : -198 ≤ a) (h2 : a ≤ 198) : fJ9_floorDiv_7cf53 (Int32.ofInt a) 2 = some (Int32.ofInt (a / 2)) := by
  have := fd7_all ⟨(a + 198).toNat, by omega⟩
  have e : (((a + 198).toNat : Nat) : Int) - 198 = a := by omega
  simp only [e] at this
  exact this
theorem l59_u (k : Nat) : fX3_leastLoad_59 (k + 1) = fX3_leastLoad_59_b (fX3_leastLoad_59 k) := rfl
theorem ll_all2 {s : Nat → Int32} (hG : Good s) {p k : Nat} (g2 : s 1 = nI p) (g5 : p ≤ 4) (hk : k < p) (vX : BX3) (vA : BX0) (x : Int32) (x0 : 0 ≤ x.toInt) (x1 : x.toInt ≤ 99) :
    ∀ (j i n : Nat) (L : BX0) (T : BX1) (lo hi y : Int), i + j ≤ 20 → hi - lo < 2 ^ j → lo ≤ hi → -99 ≤ lo → hi ≤ 99 → LayEq L (sG s k y) → Rch s k x.toInt hi → (∀ z, -99 ≤ z → z < lo → ¬ Rch s k x.toInt z) →
    ∃ L' T' h, fX3_leastLoad_59 (n + j + 1) vX vA L T (nI k) x (Int32.ofInt lo) (Int32.ofInt hi) (nI i) = some (Int32.ofInt h + 1000, L', T') ∧ -99 ≤ h ∧ h ≤ 99 ∧ Rch s k x.toInt h ∧ ∀ z, -99 ≤ z → z < h → ¬ Rch s k x.toInt z := by
  intro j
  induction j with
  | zero =>
    intro i n L T lo hi y hij hd hlh hl0 hh0 hL hr hnr
    have e : hi = lo := by have : (2 : Int) ^ 0 = 1 := rfl; omega
    refine ⟨L, T, hi, ?_, by omega, hh0, hr, fun z z1 z2 => hnr z z1 (by omega)⟩
    rw [l59_u]
    unfold fX3_leastLoad_59_b fX3_leastLoad_111
    have c2 : Int32.ofInt hi ≤ Int32.ofInt lo := by rw [e]; exact Int32.le_refl _
    by_cases c : (20 : Int32) ≤ nI i
    · rw [if_pos c]
    · rw [if_neg c, if_pos c2]
  | succ j ih =>
    intro i n L T lo hi y hij hd hlh hl0 hh0 hL hr hnr
    have c1 : ¬ (20 : Int32) ≤ nI i := nlec (b := i) (a := 20) (by omega) (by omega)
    rw [show n + (j + 1) + 1 = (n + j + 1) + 1 by omega, l59_u]
    unfold fX3_leastLoad_59_b fX3_leastLoad_111 fX3_leastLoad_105
    rw [if_neg c1]
    rcases Int.lt_or_le lo hi with q | q
    · have c2 : ¬ Int32.ofInt hi ≤ Int32.ofInt lo := by rw [i_le, o32 (by omega) (by omega), o32 (by omega) (by omega)]; omega
      rw [if_neg c2, ← Int32.ofInt_add, fd7 (by omega) (by omega), Option.bind_some]
      have hp : (2 : Int) ^ (j + 1) = 2 ^ j * 2 := Int.pow_succ _ _
      have m1 : lo ≤ (lo + hi) / 2 := by omega
      have m2 : (lo + hi) / 2 < hi := by omega
      obtain ⟨b, L', R', t1, t2, t3⟩ := tr_ok hG g2 g5 hk hL (fun g => sG_up s k y g) (by rw [sG_n s k y (by omega)]; exact g2) vX T (y := (lo + hi) / 2) (by omega) (by omega) x x0 x1
      rw [t1, Option.bind_some]
      simp only [elet_eq, nI_1]
      rcases t3 with ⟨t3, t4⟩ | ⟨t3, t4⟩
      · rw [t3, if_neg (by decide)]
        exact ih (i + 1) n L' R' lo ((lo + hi) / 2) _ (by omega) (by omega) (by omega) hl0 (by omega) t2 t4 hnr
      · rw [t3, if_pos rfl, o_add1 ((lo + hi) / 2)]
        exact ih (i + 1) n L' R' ((lo + hi) / 2 + 1) hi _ (by omega) (by omega) (by omega) (by omega) hh0 t2 hr (fun z z1 z2 h => t4 (rch_mono hG g2 g5 hk z1 (by omega) (by omega) h))
    · have e : hi = lo := by omega
      have c2 : Int32.ofInt hi ≤ Int32.ofInt lo := by rw [e]; exact Int32.le_refl _
      rw [if_pos c2]
      exact ⟨L, T, hi, rfl, by omega, hh0, hr, fun z z1 z2 => hnr z z1 (by omega)⟩
theorem l39_u (k : Nat) : fX4_leastLoad_39 (k + 1) = fX4_leastLoad_39_b (fX4_leastLoad_39 k) := rfl
theorem l39_end {vM M : BX4} {k : Nat} (hk : k < 4) {g : Int} (hs : p4_s M = sG (p4_s vM) k g ∨ p4_s M = p4_s vM) (h2 : (rz M).2 = (rz vM).2) (ans : Int32) : ∃ M', fX4_leastLoad_102 M (nI k) (p4_s vM (12 + k)) ans = some (ans, M') ∧ rz M' = rz vM := by
  have e3 : (12 : Int32) + nI k = nI (12 + k) := nI_add 12 k
  have hb : upd (p4_s M) (12 + k) (p4_s vM (12 + k)) = p4_s vM := by
    rcases hs with hs | hs
    · rw [hs]
      funext j
      unfold sG
      rw [upd_e, upd_e]
      by_cases q : j = 12 + k
      · rw [if_pos q, q]
      · rw [if_neg q, if_neg q]
    · rw [hs]
      funext j
      rw [upd_e]
      by_cases q : j = 12 + k
      · rw [if_pos q, q]
      · rw [if_neg q]
  refine ⟨s4_s M (p4_s vM), ?_, rz_back h2⟩
  unfold fX4_leastLoad_102
  rw [e3, if_pos (inB_nI (by omega) (by omega)), nI_clamp (by omega), elet_eq, hb]
theorem l39_all {vM : BX4} (hG : Good (p4_s vM)) {p k : Nat} (g2 : p4_s vM 1 = nI p) (g5 : p ≤ 4) (hk : k < p) (x : Int32) (x0 : 0 ≤ x.toInt) (x1 : x.toInt ≤ 99) :
    ∀ (d n : Nat) (M : BX4) (g y : Int), g + d = 100 → -99 ≤ g → (p4_s M = sG (p4_s vM) k y ∨ p4_s M = p4_s vM) → (rz M).2 = (rz vM).2 →
    ∃ ans M', fX4_leastLoad_39 (n + d + 2) M (nI k) x (p4_s vM (12 + k)) (-1000004) (Int32.ofInt g) = some (ans, M') ∧ rz M' = rz vM ∧
      ((∃ h, g ≤ h ∧ h ≤ 99 ∧ Rch (p4_s vM) k x.toInt h ∧ (∀ z, g ≤ z → z < h → ¬ Rch (p4_s vM) k x.toInt z) ∧ ans = Int32.ofInt h + 1000) ∨ ((∀ z, g ≤ z → z ≤ 99 → ¬ Rch (p4_s vM) k x.toInt z) ∧ ans = -1000004)) := by
  intro d
  induction d with
  | zero =>
    intro n M g y hd hg hs h2
    obtain ⟨M', m1, m2⟩ := l39_end (show k < 4 by omega) hs h2 (-1000004)
    refine ⟨-1000004, M', ?_, m2, Or.inr ⟨fun z z1 z2 => by omega, rfl⟩⟩
    rw [show n + 0 + 2 = (n + 1) + 1 by omega, l39_u]
    unfold fX4_leastLoad_39_b
    rw [if_pos (show (99 : Int32) < Int32.ofInt g by rw [i_lt, o32 (by omega) (by omega)]; show (99 : Int) < g; omega)]
    exact m1
  | succ d ih =>
    intro n M g y hd hg hs h2
    have hk4 : k < 4 := by omega
    have hg99 : g ≤ 99 := by omega
    have hG1 := good_sG hG hk4 hg hg99
    have hS := gdS_of hG1
    have hn : (syO (sG (p4_s vM) k g)).n = p := syO_p (by rw [sG_n _ k g (by omega)]; exact g2) g5
    have e3 : (12 : Int32) + nI k = nI (12 + k) := nI_add 12 k
    have k4 : inB (nI k) 4 = true := inB_nI hk4 (by omega)
    have kc : (nI k).toNatClampNeg = k := nI_clamp (by omega)
    have hu1 : upd (p4_s M) (12 + k) (Int32.ofInt g) = sG (p4_s vM) k g := by
      rcases hs with hs | hs
      · rw [hs]; exact sG_up _ _ _ _
      · rw [hs]; rfl
    obtain ⟨M1, v, m, r1, r2, r3, r4, r5, r6⟩ := rw_ok (M := M) hG1
    have m0 := r5.pos
    have iv := row_inL hS r5.toRowIn r6 (k + 1) (by omega)
    have b1 : 0 ≤ x.toInt * m := Int.mul_nonneg x0 (by omega)
    have b2 : x.toInt * m ≤ 99 * m := Int.mul_le_mul_of_nonneg_right x1 (by omega)
    have ix : inL (x.toInt * m) := ⟨by omega, by omega⟩
    have hi := rch_iff hG g2 g5 hk (x := x.toInt) hg hg99 r5
    have hrz : (rz M1).2 = (rz vM).2 := r3.trans h2
    have head : ∀ kk, fX4_leastLoad_39_b kk M (nI k) x (p4_s vM (12 + k)) (-1000004) (Int32.ofInt g) = if lg_cmp (nL (v (k + 1))) (nL (x.toInt * m)) < 0 then kk M1 (nI k) x (p4_s vM (12 + k)) (-1000004) (Int32.ofInt (g + 1)) else kk M1 (nI k) x (p4_s vM (12 + k)) (Int32.ofInt g + 1000) (Int32.ofInt (g + 1)) := by
      intro kk
      unfold fX4_leastLoad_39_b fX4_leastLoad_94
      rw [if_neg (show ¬ (99 : Int32) < Int32.ofInt g by rw [i_lt, o32 (by omega) (by omega)]; show ¬ (99 : Int) < g; omega), if_neg (by decide), e3, if_pos (inB_nI (by omega) (by omega)), nI_clamp (by omega)]
      simp only [elet_eq]
      rw [hu1, r1, Option.bind_some, if_pos k4, kc, r4.2.1 k (by omega), nL_I, r4.1, nL_mul, o_add1 g]
    rw [show n + (d + 1) + 2 = (n + d + 2) + 1 by omega, l39_u, head]
    by_cases q : v (k + 1) < x.toInt * m
    · rw [if_pos ((cmp_l0 iv ix).mpr q)]
      obtain ⟨ans, M', a1, a2, a3⟩ := ih n M1 (g + 1) g (by omega) (by omega) (Or.inl r2) hrz
      refine ⟨ans, M', a1, a2, ?_⟩
      have hnr : ¬ Rch (p4_s vM) k x.toInt g := fun z => by have := hi.mp z; omega
      rcases a3 with ⟨h, c1, c2, c3, c4, c5⟩ | ⟨c1, c2⟩
      · refine Or.inl ⟨h, by omega, c2, c3, fun z z1 z2 => ?_, c5⟩
        rcases Int.lt_or_le g z with z3 | z3
        · exact c4 z (by omega) z2
        · rw [show z = g by omega]; exact hnr
      · refine Or.inr ⟨fun z z1 z2 => ?_, c2⟩
        rcases Int.lt_or_le g z with z3 | z3
        · exact c1 z (by omega) z2
        · rw [show z = g by omega]; exact hnr
    · rw [if_neg (fun z => q ((cmp_l0 iv ix).mp z))]
      obtain ⟨M', m1, m2⟩ := l39_end hk4 (Or.inl r2) hrz (Int32.ofInt g + 1000)
      refine ⟨Int32.ofInt g + 1000, M', ?_, m2, Or.inl ⟨g, Int.le_refl _, hg99, hi.mpr (by omega), fun z z1 z2 => by omega, rfl⟩⟩
      rw [show n + d + 2 = (n + d + 1) + 1 by omega, l39_u]
      unfold fX4_leastLoad_39_b
      by_cases c : (99 : Int32) < Int32.ofInt (g + 1)
      · rw [if_pos c]; exact m1
      · have c2 : 0 ≤ Int32.ofInt g + 1000 := by
          rw [o_add2 g, i_le, Int32.toInt_ofInt_of_le (by omega) (by omega)]
          show (0 : Int) ≤ g + 1000
          omega
        rw [if_neg c, if_pos c2]; exact m1
theorem St_leastLoad0 : St_leastLoad Sim0 := by
  intro vX n pv vA vB vR vT vS vM i1 i2 h
  have hL := h.1
  have hG := h.2.1
  obtain ⟨w, p, g1, g2, g3, g4, g5, g6, g7, g8⟩ := id hG
  rcases plate_or2 hL g2 g5 i1 with ⟨a0, a1, a2⟩ | ⟨k, hk, rfl, a1, a2⟩
  · refine ⟨(-1000001, vB, vT), (-1000001, vM), ?_, ?_, rfl, h⟩
    · unfold fX3_leastLoad; rw [a1, Option.bind_some, if_pos rfl]
    · unfold fX4_leastLoad; rw [a2 vM rfl, Option.bind_some, if_pos rfl]
  by_cases c1 : i2 < 0
  · refine ⟨(-1000001, vB, vT), (-1000001, vM), ?_, ?_, rfl, h⟩
    · unfold fX3_leastLoad; rw [a1, Option.bind_some, if_neg (by decide), if_pos c1]
    · unfold fX4_leastLoad; rw [a2 vM rfl, Option.bind_some, if_neg (by decide), in4_v, if_pos c1, Option.bind_some, if_pos rfl]
  by_cases c2 : 99 < i2
  · refine ⟨(-1000001, vB, vT), (-1000001, vM), ?_, ?_, rfl, h⟩
    · unfold fX3_leastLoad; rw [a1, Option.bind_some, if_neg (by decide), if_neg c1, if_neg (Int32.not_le.mpr c2)]
    · unfold fX4_leastLoad; rw [a2 vM rfl, Option.bind_some, if_neg (by decide), in4_v, if_neg c1, if_pos c2, Option.bind_some, if_pos rfl]
  have x0 : 0 ≤ i2.toInt := i_le.mp (Int32.not_lt.mp c1)
  have x1 : i2.toInt ≤ 99 := i_le.mp (Int32.not_lt.mp c2)
  have hk4 : k < 4 := by omega
  obtain ⟨b, L1, T1, t1, t2, t3⟩ := tr_ok hG g2 g5 hk (cfV_lay (L := vB) hL) (fun g => rfl) g2 vX vT (y := 99) (by decide) (by decide) i2 x0 x1
  obtain ⟨f, hf⟩ := FU_ex (199 + 2) (by omega)
  obtain ⟨ans, M', q1, q2, q3⟩ := l39_all hG g2 g5 hk i2 x0 x1 199 f vM (-99) 0 (by decide) (by decide) (Or.inr rfl) rfl
  have hr : fX4_leastLoad vM (nI k) i2 = some (ans, M') := by
    have e3 : (12 : Int32) + nI k = nI (12 + k) := nI_add 12 k
    unfold fX4_leastLoad
    rw [a2 vM rfl, Option.bind_some, if_neg (by decide), in4_v, if_neg c1, if_neg c2, Option.bind_some, if_neg (by decide), e3, if_pos (inB_nI (by omega) (by omega)), nI_clamp (by omega), elet_eq, hf]
    exact q1
  clear hf
  rcases t3 with ⟨t3, t4⟩ | ⟨t3, t4⟩
  · obtain ⟨f2, hf2⟩ := FU_ex (8 + 1) (by omega)
    obtain ⟨L2, T2, hh, j1, j2, j3, j4, j5⟩ := ll_all2 hG g2 g5 hk vX vA i2 x0 x1 8 0 f2 L1 T1 (-99) 99 99 (by decide) (by decide) (by decide) (by decide) (by decide) t2 t4 (fun z z1 z2 => by omega)
    have hc : fX3_leastLoad vX vA vB vT (nI k) i2 = some (Int32.ofInt hh + 1000, L2, T2) := by
      unfold fX3_leastLoad
      rw [a1, Option.bind_some, if_neg (by decide), if_neg c1, if_pos (Int32.not_lt.mp c2), copyFrom_v, Option.bind_some]
      rw [show (99 : Int32) = Int32.ofInt 99 from rfl, t1, Option.bind_some, t3, if_neg (show ¬ (1 : Int32) = 0 from by decide), hf2]
      exact j1
    clear hf2
    refine ⟨_, _, hc, hr, ?_, sim_rz h q2⟩
    show Int32.ofInt hh + 1000 = ans
    rcases q3 with ⟨h2, d1, d2, d3, d4, d5⟩ | ⟨d1, d2⟩
    · have e : hh = h2 := by
        rcases Int.lt_trichotomy hh h2 with z | z | z
        · exact absurd j4 (d4 hh j2 z)
        · exact z
        · exact absurd d3 (j5 h2 d1 z)
      rw [d5, e]
    · exact absurd j4 (d1 hh j2 j3)
  · have hc : fX3_leastLoad vX vA vB vT (nI k) i2 = some (-1000004, L1, T1) := by
      unfold fX3_leastLoad
      rw [a1, Option.bind_some, if_neg (by decide), if_neg c1, if_pos (Int32.not_lt.mp c2), copyFrom_v, Option.bind_some]
      rw [show (99 : Int32) = Int32.ofInt 99 from rfl, t1, Option.bind_some, t3, if_pos rfl]
    refine ⟨_, _, hc, hr, ?_, sim_rz h q2⟩
    show (-1000004 : Int32) = ans
    rcases q3 with ⟨h2, d1, d2, d3, d4, d5⟩ | ⟨d1, d2⟩
    · exact absurd (rch_mono hG g2 g5 hk d1 d2 (Int.le_refl 99) d3) t4
    · exact d2.symm
