/-! the reference's bounds and equations -/
theorem i_sub {a b : Int32} (h1 : -2147483648 ≤ a.toInt - b.toInt) (h2 : a.toInt - b.toInt < 2147483648) : (a - b).toInt = a.toInt - b.toInt := by
  rw [Int32.toInt_sub]
  exact Int.bmod_eq_of_le (by omega) (by omega)
theorem i_neg {a : Int32} (h1 : -2147483648 < a.toInt) : (-a).toInt = -a.toInt := by
  have h2 := a.toInt_lt
  rw [Int32.toInt_neg]
  exact Int.bmod_eq_of_le (by omega) (by omega)
/-- the bound of plates from f to e, to the left or to the right -/
def BdP (S : Sy) (h : Nat) (f e : Nat) (y : Int) : Prop :=
  if h = 0 then (∀ p, f ≤ p → p < e → S.lo p ≤ y) ∧ (y = 0 ∨ ∃ p, f ≤ p ∧ p < e ∧ y = S.lo p)
  else (∀ p, f ≤ p → p < e → y ≤ S.hi p) ∧ (y = S.W ∨ ∃ p, f ≤ p ∧ p < e ∧ y = S.hi p)
theorem bd_u (k : Nat) : fX4_bound_23 (k + 1) = fX4_bound_23_b (fX4_bound_23 k) := rfl
theorem fb_le {S : Sy} {M : BX4} {B : Nat} {FB : Nat → Nat} (hB : Blk S M B FB) : ∀ d i, i + d = B → FB i ≤ S.n := by
  intro d
  induction d with
  | zero => intro i hi; rw [show i = B by omega, hB.en]; exact Nat.le_refl _
  | succ d ih => intro i hi; have := ih (i + 1) (by omega); have := hB.up i (by omega); omega
theorem bd_s0 {s : Nat → Int32} {S : Sy} (hS : GdS s S) (k : BX4 → Int32 → Int32 → Int32 → Int32 → Option Int32) (M : BX4) (hM : p4_s M = s) {B : Nat} {FB : Nat → Nat} (hB : Blk S M B FB) (b p : Nat) (hb : b < B) (hp : p < FB (b + 1)) (hpn : p < S.n) (x : Int32) :
    fX4_bound_23_b k M (nI b) (nI 0) x (nI p) = k M (nI b) (nI 0) (if lowB s p ≤ x then x else lowB s p) (nI (p + 1)) := by
  have n4 := hS.n4
  have b4 := hB.b4
  have lv := low_v hM p (by omega)
  unfold fX4_bound_23_b fX4_bound_83
  rw [nI_1, if_pos (inB_nI (by omega) (by omega)), nI_clamp (by omega), hB.fi (b + 1) (by omega), if_neg (nlec hp (by have := fb_le hB (B - (b + 1)) (b + 1) (by omega); omega)), if_pos (show nI 0 = 0 from rfl), lv, Option.bind_some, Option.bind_some]
  simp only [elet_eq]
  rw [nI_1]
  by_cases q : lowB s p ≤ x
  · rw [if_pos q, if_pos q]
  · rw [if_neg q, if_neg q]
theorem bd_s1 {s : Nat → Int32} {S : Sy} (hS : GdS s S) (k : BX4 → Int32 → Int32 → Int32 → Int32 → Option Int32) (M : BX4) (hM : p4_s M = s) {B : Nat} {FB : Nat → Nat} (hB : Blk S M B FB) (b p : Nat) (hb : b < B) (hp : p < FB (b + 1)) (hpn : p < S.n) (x : Int32) :
    fX4_bound_23_b k M (nI b) (nI 1) x (nI p) = k M (nI b) (nI 1) (if x ≤ highB s p then x else highB s p) (nI (p + 1)) := by
  have n4 := hS.n4
  have b4 := hB.b4
  have lv := high_v hM p (by omega)
  unfold fX4_bound_23_b fX4_bound_83
  rw [nI_1, if_pos (inB_nI (by omega) (by omega)), nI_clamp (by omega), hB.fi (b + 1) (by omega), if_neg (nlec hp (by have := fb_le hB (B - (b + 1)) (b + 1) (by omega); omega)), if_neg (show ¬ nI 1 = 0 from by decide), lv, Option.bind_some, Option.bind_some]
  simp only [elet_eq]
  rw [nI_1]
  by_cases q : x ≤ highB s p
  · rw [if_pos q, if_pos q]
  · rw [if_neg q, if_neg q]
theorem bd_all {s : Nat → Int32} {S : Sy} (hS : GdS s S) (M : BX4) (hM : p4_s M = s) {B : Nat} {FB : Nat → Nat} (hB : Blk S M B FB) (b h : Nat) (hb : b < B) (hh : h = 0 ∨ h = 1) :
    ∀ (d p n : Nat) (x : Int32), p + d = FB (b + 1) → FB b ≤ p → BdP S h (FB b) p x.toInt → ∃ y, fX4_bound_23 (n + d + 1) M (nI b) (nI h) x (nI p) = some y ∧ BdP S h (FB b) (FB (b + 1)) y.toInt := by
  have n4 := hS.n4
  have b4 := hB.b4
  have hfb := fb_le hB (B - (b + 1)) (b + 1) (by omega)
  intro d
  induction d with
  | zero =>
    intro p n x hp hf hx
    rw [show p = FB (b + 1) by omega] at hx ⊢
    refine ⟨x, ?_, hx⟩
    rw [bd_u]
    unfold fX4_bound_23_b
    rw [nI_1, if_pos (inB_nI (by omega) (by omega)), nI_clamp (by omega), hB.fi (b + 1) (by omega), if_pos (Int32.le_refl _)]
  | succ d ih =>
    intro p n x hp hf hx
    rw [show n + (d + 1) + 1 = (n + d + 1) + 1 by omega, bd_u]
    rcases hh with rfl | rfl
    · rw [bd_s0 hS _ M hM hB b p hb (by omega) (by omega) x]
      refine ih (p + 1) n _ (by omega) (by omega) ?_
      unfold BdP at hx ⊢
      rw [if_pos rfl] at hx ⊢
      obtain ⟨x1, x2⟩ := hx
      have hl := hS.lo p (by omega)
      by_cases q : lowB s p ≤ x
      · rw [if_pos q]
        rw [i_le, hl] at q
        refine ⟨fun r r1 r2 => ?_, ?_⟩
        · rcases Nat.eq_or_lt_of_le (Nat.le_of_lt_succ r2) with rfl | r3
          · exact q
          · exact x1 r r1 r3
        · rcases x2 with x2 | ⟨r, r1, r2, r3⟩
          · exact Or.inl x2
          · exact Or.inr ⟨r, r1, by omega, r3⟩
      · rw [if_neg q, hl]
        rw [i_le, hl] at q
        refine ⟨fun r r1 r2 => ?_, Or.inr ⟨p, hf, by omega, rfl⟩⟩
        rcases Nat.eq_or_lt_of_le (Nat.le_of_lt_succ r2) with rfl | r3
        · exact Int.le_refl _
        · have := x1 r r1 r3; omega
    · rw [bd_s1 hS _ M hM hB b p hb (by omega) (by omega) x]
      refine ih (p + 1) n _ (by omega) (by omega) ?_
      unfold BdP at hx ⊢
      rw [if_neg (by decide)] at hx ⊢
      obtain ⟨x1, x2⟩ := hx
      have hl := hS.hi p (by omega)
      by_cases q : x ≤ highB s p
      · rw [if_pos q]
        rw [i_le, hl] at q
        refine ⟨fun r r1 r2 => ?_, ?_⟩
        · rcases Nat.eq_or_lt_of_le (Nat.le_of_lt_succ r2) with rfl | r3
          · exact q
          · exact x1 r r1 r3
        · rcases x2 with x2 | ⟨r, r1, r2, r3⟩
          · exact Or.inl x2
          · exact Or.inr ⟨r, r1, by omega, r3⟩
      · rw [if_neg q, hl]
        rw [i_le, hl] at q
        refine ⟨fun r r1 r2 => ?_, Or.inr ⟨p, hf, by omega, rfl⟩⟩
        rcases Nat.eq_or_lt_of_le (Nat.le_of_lt_succ r2) with rfl | r3
        · exact Int.le_refl _
        · have := x1 r r1 r3; omega
theorem bdp_in {s : Nat → Int32} {S : Sy} (hS : GdS s S) {h f e : Nat} {y : Int} (he : e ≤ S.n) (hf : f < e) (hy : BdP S h f e y) : 0 ≤ y ∧ y ≤ 99 := by
  have W0 := hS.W0
  have W1 := hS.W1
  unfold BdP at hy
  by_cases q : h = 0
  · rw [if_pos q] at hy
    obtain ⟨y1, y2⟩ := hy
    rcases y2 with y2 | ⟨p, p1, p2, p3⟩
    · omega
    · have := hS.lo0 p (by omega); have := hS.al p p (Nat.le_refl _) (by omega); have := hS.hiW p (by omega); omega
  · rw [if_neg q] at hy
    obtain ⟨y1, y2⟩ := hy
    rcases y2 with y2 | ⟨p, p1, p2, p3⟩
    · omega
    · have := hS.lo0 p (by omega); have := hS.al p p (Nat.le_refl _) (by omega); have := hS.hiW p (by omega); omega
theorem bound4_ok {s : Nat → Int32} {S : Sy} (hS : GdS s S) (M : BX4) (hM : p4_s M = s) {B : Nat} {FB : Nat → Nat} (hB : Blk S M B FB) (b h : Nat) (hb : b < B) (hh : h = 0 ∨ h = 1) :
    ∃ y, fX4_bound M (nI b) (nI h) = some y ∧ BdP S h (FB b) (FB (b + 1)) y.toInt := by
  have n4 := hS.n4
  have b4 := hB.b4
  have hfb := fb_le hB (B - (b + 1)) (b + 1) (by omega)
  have hup := hB.up b hb
  obtain ⟨n, hF⟩ := FU_ex ((FB (b + 1) - FB b) + 1) (by omega)
  have e14 : ∀ x : Int32, BdP S h (FB b) (FB b) x.toInt → ∃ y, fX4_bound_14 M (nI b) (nI h) x = some y ∧ BdP S h (FB b) (FB (b + 1)) y.toInt := by
    intro x hx
    obtain ⟨y, y1, y2⟩ := bd_all hS M hM hB b h hb hh (FB (b + 1) - FB b) (FB b) n x (by omega) (Nat.le_refl _) hx
    refine ⟨y, ?_, y2⟩
    unfold fX4_bound_14
    rw [if_pos (inB_nI (by omega) (by omega)), nI_clamp (by omega), hB.fi b (by omega), elet_eq, hF, show n + ((FB (b + 1) - FB b) + 1) = n + (FB (b + 1) - FB b) + 1 by omega]
    exact y1
  unfold fX4_bound
  rcases hh with rfl | rfl
  · rw [if_pos (show nI 0 = 0 from rfl)]
    refine e14 _ ?_
    unfold BdP
    rw [if_pos rfl]
    exact ⟨fun p p1 p2 => absurd p1 (by omega), Or.inl rfl⟩
  · rw [if_neg (show ¬ nI 1 = 0 from by decide), cl0]
    refine e14 _ ?_
    unfold BdP
    rw [if_neg (by decide), hM]
    exact ⟨fun p p1 p2 => absurd p1 (by omega), Or.inl hS.s0⟩
/-- one row of the equations -/
def orig (D l r F : Int) (b c : Nat) : Int := if c = 4 then F else if c = b then D else if c + 1 = b then -l else if c = b + 1 then -r else 0
def rzB (M : BX4) := (rz M, p4_blocks M, p4_first M)
theorem rzB_Blk {S : Sy} {M M' : BX4} {B : Nat} {FB : Nat → Nat} (hB : Blk S M B FB) (e : rzB M' = rzB M) : Blk S M' B FB := by
  have e1 : p4_blocks M' = p4_blocks M := congrArg (fun z => z.2.1) e
  have e2 : p4_first M' = p4_first M := congrArg (fun z => z.2.2) e
  exact ⟨e1.trans hB.bl, fun i hi => by rw [e2]; exact hB.fi i hi, hB.b4, hB.z, hB.en, hB.up⟩
theorem rzB_s {M M' : BX4} (e : rzB M' = rzB M) : p4_s M' = p4_s M := rz_s (congrArg (fun z => z.1) e)
/-- the row b is told, the others are as they were -/
def RowQ (M M' : BX4) (b : Nat) (f : Nat → Int) : Prop := rzB M' = rzB M ∧ (∀ c, c < 5 → p4_grid M' (5 * b + c) = nL (f c)) ∧ ∀ i, ¬ (5 * b ≤ i ∧ i < 5 * b + 5) → p4_grid M' i = p4_grid M i
theorem row_up {M M' : BX4} {b : Nat} {f : Nat → Int} (h : RowQ M M' b f) (c : Nat) (hc : c < 5) (z : Int) : RowQ M (s4_grid M' (vp_updL (p4_grid M') (5 * b + c) (nL z))) b (up1 f c z) := by
  refine ⟨h.1, ?_, ?_⟩
  · intro c' hc'
    show vp_updL (p4_grid M') (5 * b + c) (nL z) (5 * b + c') = _
    by_cases q : c' = c
    · subst q; rw [pk_uLs, up1_s]
    · rw [pk_uLn (by omega), up1_ne _ _ q]; exact h.2.1 c' hc'
  · intro i hi
    show vp_updL (p4_grid M') (5 * b + c) (nL z) i = _
    rw [pk_uLn (by omega)]; exact h.2.2 i hi
theorem l15_u (k4 : BX4 → Int32 → Int32 → Option BX4) (k : Nat) : fX4_lays_15 k4 (k + 1) = fX4_lays_15_b k4 (fX4_lays_15 k4 k) := rfl
theorem l15_s (k4 : BX4 → Int32 → Int32 → Option BX4) (k : BX4 → Int32 → Int32 → Int32 → Option BX4) (M : BX4) (x : Int32) (b c : Nat) (hb : b < 4) (hc : c < 5) : fX4_lays_15_b k4 k M x (nI b) (nI c) = k (s4_grid M (vp_updL (p4_grid M) (5 * b + c) (nL 0))) x (nI b) (nI (c + 1)) := by
  have e5 : (5 : Int32) * nI b = nI (5 * b) := pk_mul 5 b
  have a1 : ¬ (5 : Int32) ≤ nI c := nlec (b := c) (a := 5) (by omega) (by omega)
  unfold fX4_lays_15_b
  rw [if_neg a1, e5, nI_add, if_pos (inB_nI (by omega) (by omega)), nI_clamp (by omega)]
  simp only [elet_eq]
  rw [nI_1]
  rfl
theorem l15_zero (k4 : BX4 → Int32 → Int32 → Option BX4) (M0 : BX4) (x : Int32) (b : Nat) (hb : b < 4) : ∀ (d c n : Nat) (M : BX4), c + d = 5 → rzB M = rzB M0 → (∀ c', c' < c → p4_grid M (5 * b + c') = nL 0) → (∀ i, ¬ (5 * b ≤ i ∧ i < 5 * b + 5) → p4_grid M i = p4_grid M0 i) →
    ∃ M', fX4_lays_15 k4 (n + d + 1) M x (nI b) (nI c) = fX4_lays_15_b k4 (fX4_lays_15 k4 n) M' x (nI b) (nI 5) ∧ RowQ M0 M' b (fun _ => 0) := by
  intro d
  induction d with
  | zero =>
    intro c n M hc h0 h1 h2
    obtain rfl : c = 5 := by omega
    exact ⟨M, by rw [show n + 0 + 1 = n + 1 by omega, l15_u], h0, h1, h2⟩
  | succ d ih =>
    intro c n M hc h0 h1 h2
    rw [show n + (d + 1) + 1 = (n + d + 1) + 1 by omega, l15_u, l15_s k4 _ M x b c hb (by omega)]
    refine ih (c + 1) n _ (by omega) h0 ?_ ?_
    · intro c' hc'
      show vp_updL (p4_grid M) (5 * b + c) (nL 0) (5 * b + c') = _
      rcases Nat.eq_or_lt_of_le (Nat.le_of_lt_succ hc') with rfl | hc'
      · rw [pk_uLs]
      · rw [pk_uLn (by omega)]; exact h1 c' hc'
    · intro i hi
      show vp_updL (p4_grid M) (5 * b + c) (nL 0) i = _
      rw [pk_uLn (by omega)]; exact h2 i hi
/-! a free block -/
theorem lf87_u (k : Nat) : fX4_laysFree_87 (k + 1) = fX4_laysFree_87_b (fX4_laysFree_87 k) := rfl
theorem lf87_all {s : Nat → Int32} {S : Sy} (hS : GdS s S) (M : BX4) (hM : p4_s M = s) (b f e : Nat) (he : e ≤ S.n) : ∀ (d p n : Nat) (z : Int), p + d = e → f ≤ p → fX4_laysFree_87 (n + d + 1) M (nI b) (nI f) (nI e) (nL z) (nI p) = fX4_laysFree_87_b (fX4_laysFree_87 n) M (nI b) (nI f) (nI e) (nL (z + (preS S.q e - preS S.q p))) (nI e) := by
  have n4 := hS.n4
  intro d
  induction d with
  | zero =>
    intro p n z hp hf
    obtain rfl : p = e := by omega
    rw [show n + 0 + 1 = n + 1 by omega, lf87_u, Int.sub_self, Int.add_zero]
  | succ d ih =>
    intro p n z hp hf
    have e12 : (12 : Int32) + nI p = nI (12 + p) := nI_add 12 p
    have st : fX4_laysFree_87 (n + (d + 1) + 1) M (nI b) (nI f) (nI e) (nL z) (nI p) = fX4_laysFree_87 (n + d + 1) M (nI b) (nI f) (nI e) (nL (z + S.q p)) (nI (p + 1)) := by
      rw [show n + (d + 1) + 1 = (n + d + 1) + 1 by omega, lf87_u]
      generalize fX4_laysFree_87 (n + d + 1) = k
      unfold fX4_laysFree_87_b
      rw [if_neg (nlec (by omega) (by omega)), e12, if_pos (inB_nI (by omega) (by omega)), nI_clamp (by omega), hM, nL_I, hS.q p (by omega), nL_add]
      simp only [elet_eq]
      rw [nI_1]
    rw [st, ih (p + 1) n (z + S.q p) (by omega) (by omega)]
    congr 2
    simp only [preS]
    omega
