def digT (g i : Nat) : Nat := g / 3 ^ i % 3
def RowS (S : Sy) (B : Nat) (FB : Nat → Nat) (way b : Nat) (D l r F : Int) : Prop :=
  (way = 0 ∧ D = S.K (FB b) + S.K (FB (b + 1)) ∧ l = S.K (FB b) ∧ r = frR S B b (FB b) (FB (b + 1)) ∧ F = frF S B b (FB b) (FB (b + 1))) ∨
  ((way = 1 ∨ way = 2) ∧ D = 1 ∧ l = 0 ∧ r = 0 ∧ BdP S (way - 1) (FB b) (FB (b + 1)) F)
theorem l4_u (k : Nat) : fX4_lays_4 (k + 1) = fX4_lays_4_b (fX4_lays_4 k) := rfl
theorem row5 {s : Nat → Int32} {S : Sy} (hS : GdS s S) (k4 : BX4 → Int32 → Int32 → Option BX4) (k : BX4 → Int32 → Int32 → Int32 → Option BX4) (M0 M : BX4) (hM : p4_s M = s) {B : Nat} {FB : Nat → Nat} (hB : Blk S M B FB) (b h : Nat) (hb : b < B) (hh : h < 100) (hq : RowQ M0 M b (fun _ => 0)) :
    ∃ M2 D l r F, fX4_lays_15_b k4 k M (nI h) (nI b) (nI 5) = k4 M2 (nI (h / 3)) (nI (b + 1)) ∧ RowQ M0 M2 b (orig D l r F b) ∧ RowS S B FB (h % 3) b D l r F := by
  have n4 := hS.n4
  have b4 := hB.b4
  have e5 : (5 : Int32) * nI b = nI (5 * b) := pk_mul 5 b
  have z3 : nI h - nI h / (3 : Int32) * (3 : Int32) = nI (h % 3) := pk_rem (a := h) (d := 3) (by omega) (by omega) (by omega)
  have z4 : nI h / (3 : Int32) = nI (h / 3) := pk_div (a := h) (d := 3) (by omega) (by omega) (by omega)
  unfold fX4_lays_15_b fX4_lays_99
  rw [if_pos (show (5 : Int32) ≤ nI 5 from by decide), z3, z4]
  simp only [elet_eq]
  rcases Nat.eq_zero_or_pos (h % 3) with e | e
  · obtain ⟨M2, m1, m2⟩ := free_ok hS M0 M hM hB b hb hq
    rw [e, if_pos (show nI 0 ≤ 0 from by decide), m1, Option.bind_some, nI_1]
    exact ⟨M2, _, _, _, _, rfl, m2, Or.inl ⟨rfl, rfl, rfl, rfl, rfl⟩⟩
  · have r1 := row_up hq b (by omega) 1
    obtain ⟨M1, hM1⟩ : ∃ M1, M1 = s4_grid M (vp_updL (p4_grid M) (5 * b + b) (nL 1)) := ⟨_, rfl⟩
    rw [← hM1] at r1
    have hs1 : p4_s M1 = s := by rw [hM1]; exact hM
    have hB1 : Blk S M1 B FB := rzB_Blk hB (by rw [hM1]; rfl)
    have e86 : ∀ g, g = 0 ∨ g = 1 → ∃ M2 F, fX4_lays_86 k4 M1 (nI (h / 3)) (nI b) (nI (5 * b + 4)) (nI b) (nI g) = k4 M2 (nI (h / 3)) (nI (b + 1)) ∧ RowQ M0 M2 b (orig 1 0 0 F b) ∧ BdP S g (FB b) (FB (b + 1)) F := by
      intro g hg
      obtain ⟨y, y1, y2⟩ := bound4_ok hS M1 hs1 hB1 b g hb hg
      refine ⟨_, y.toInt, ?_, row_eq (row_up r1 4 (by omega) y.toInt) ?_, y2⟩
      · unfold fX4_lays_86 fX4_lays_99
        rw [y1, Option.bind_some, if_pos (inB_nI (by omega) (by omega)), nI_clamp (by omega), nL_I]
        simp only [elet_eq]
        rw [nI_1]
      · intro c hc
        have hb3 : b = 0 ∨ b = 1 ∨ b = 2 ∨ b = 3 := by omega
        rcases hb3 with rfl | rfl | rfl | rfl <;> rcases (show c = 0 ∨ c = 1 ∨ c = 2 ∨ c = 3 ∨ c = 4 by omega) with rfl | rfl | rfl | rfl | rfl <;> simp [up1, orig]
    have e54 : nI (5 * b) + (4 : Int32) = nI (5 * b + 4) := nI_add _ 4
    rw [if_neg (nI_nle e (by omega)), e5, nI_add, if_pos (inB_nI (by omega) (by omega)), nI_clamp (by omega), e54]
    have hgM : s4_grid M (vp_updL (p4_grid M) (5 * b + b) 1) = M1 := by rw [hM1]; rfl
    rw [hgM]
    by_cases q : h % 3 = 2
    · rw [if_pos (show nI (h % 3) = (2 : Int32) by rw [q]; rfl)]
      obtain ⟨M2, F, m1, m2, m3⟩ := e86 1 (Or.inr rfl)
      exact ⟨M2, 1, 0, 0, F, m1, m2, Or.inr ⟨Or.inr q, rfl, rfl, rfl, by rw [q]; exact m3⟩⟩
    · have q1 : h % 3 = 1 := by omega
      rw [if_neg (show ¬ nI (h % 3) = (2 : Int32) by rw [q1]; decide)]
      obtain ⟨M2, F, m1, m2, m3⟩ := e86 0 (Or.inl rfl)
      exact ⟨M2, 1, 0, 0, F, m1, m2, Or.inr ⟨Or.inl q1, rfl, rfl, rfl, by rw [q1]; exact m3⟩⟩
theorem lays_all {s : Nat → Int32} {S : Sy} (hS : GdS s S) (how : Nat) (hh : how < 100) {B : Nat} {FB : Nat → Nat} : ∀ (d b n : Nat) (M : BX4) (D l r F : Nat → Int), b + d = B → p4_s M = s → Blk S M B FB →
    (∀ i, i < b → RowS S B FB (digT how i) i (D i) (l i) (r i) (F i) ∧ ∀ c, c < 5 → p4_grid M (5 * i + c) = nL (orig (D i) (l i) (r i) (F i) i c)) →
    ∃ (M2 : BX4) (D' l' r' F' : Nat → Int), fX4_lays_4 (n + d + 1) M (nI (how / 3 ^ b)) (nI b) = some M2 ∧ rzB M2 = rzB M ∧
      (∀ i, i < B → RowS S B FB (digT how i) i (D' i) (l' i) (r' i) (F' i) ∧ ∀ c, c < 5 → p4_grid M2 (5 * i + c) = nL (orig (D' i) (l' i) (r' i) (F' i) i c)) := by
  have n4 := hS.n4
  intro d
  induction d with
  | zero =>
    intro b n M D l r F hb hM hB hr
    have hb' : b = B := by omega
    subst hb'
    have b4 := hB.b4
    refine ⟨M, D, l, r, F, ?_, rfl, hr⟩
    rw [l4_u]
    unfold fX4_lays_4_b
    rw [hB.bl, if_pos (Int32.le_refl _)]
  | succ d ih =>
    intro b n M D l r F hb hM hB hr
    have b4 := hB.b4
    have h1 : how / 3 ^ b < 100 := Nat.lt_of_le_of_lt (Nat.div_le_self _ _) hh
    obtain ⟨k, hk⟩ := FU_ex 6 (by omega)
    obtain ⟨M1, m1, m2⟩ := l15_zero (fX4_lays_4 (n + d + 1)) M (nI (how / 3 ^ b)) b (by omega) 5 0 k M (by omega) rfl (fun c hc => absurd hc (by omega)) (fun i _ => rfl)
    have hB1 : Blk S M1 B FB := rzB_Blk hB m2.1
    obtain ⟨M2, D1, l1, r1, F1, k1, k2, k3⟩ := row5 hS (fX4_lays_4 (n + d + 1)) (fX4_lays_15 (fX4_lays_4 (n + d + 1)) k) M M1 ((rzB_s m2.1).trans hM) hB1 b _ (by omega) h1 m2
    have st : fX4_lays_4 (n + (d + 1) + 1) M (nI (how / 3 ^ b)) (nI b) = fX4_lays_4 (n + d + 1) M2 (nI (how / 3 ^ (b + 1))) (nI (b + 1)) := by
      rw [show n + (d + 1) + 1 = (n + d + 1) + 1 by omega, l4_u]
      have e0 : fX4_lays_4_b (fX4_lays_4 (n + d + 1)) M (nI (how / 3 ^ b)) (nI b) = fX4_lays_15 (fX4_lays_4 (n + d + 1)) FU M (nI (how / 3 ^ b)) (nI b) (nI 0) := by
        generalize fX4_lays_4 (n + d + 1) = kk
        unfold fX4_lays_4_b
        rw [hB.bl, if_neg (nlec (by omega) (by omega))]
        rfl
      rw [e0, hk, show k + 6 = k + 5 + 1 by omega, m1, k1, Nat.div_div_eq_div_mul, ← Nat.pow_succ]
    clear hk
    rw [st]
    obtain ⟨M3, D', l', r', F', j1, j2, j3⟩ := ih (b + 1) n M2 (up1 D b D1) (up1 l b l1) (up1 r b r1) (up1 F b F1) (by omega) ((rzB_s k2.1).trans hM) (rzB_Blk hB k2.1) (by
      intro i hi
      rcases Nat.eq_or_lt_of_le (Nat.le_of_lt_succ hi) with rfl | hi
      · rw [up1_s, up1_s, up1_s, up1_s]
        exact ⟨k3, k2.2.1⟩
      · rw [up1_n _ _ _ hi, up1_n _ _ _ hi, up1_n _ _ _ hi, up1_n _ _ _ hi]
        refine ⟨(hr i hi).1, fun c hc => ?_⟩
        rw [k2.2.2 _ (by omega)]
        exact (hr i hi).2 c hc)
    exact ⟨M3, D', l', r', F', j1, j2.trans k2.1, j3⟩
theorem lays_ok {s : Nat → Int32} {S : Sy} (hS : GdS s S) (how : Nat) (hh : how < 100) {B : Nat} {FB : Nat → Nat} (M : BX4) (hM : p4_s M = s) (hB : Blk S M B FB) :
    ∃ (M2 : BX4) (D l r F : Nat → Int), fX4_lays M (nI how) = some M2 ∧ rzB M2 = rzB M ∧
      (∀ i, i < B → RowS S B FB (digT how i) i (D i) (l i) (r i) (F i) ∧ ∀ c, c < 5 → p4_grid M2 (5 * i + c) = nL (orig (D i) (l i) (r i) (F i) i c)) := by
  have n4 := hS.n4
  have b4 := hB.b4
  obtain ⟨n, hF⟩ := FU_ex (B + 1) (by omega)
  obtain ⟨M2, D, l, r, F, m1, m2⟩ := lays_all hS how hh B 0 n M (fun _ => 0) (fun _ => 0) (fun _ => 0) (fun _ => 0) (by omega) hM hB (fun i hi => absurd hi (by omega))
  refine ⟨M2, D, l, r, F, ?_, m2⟩
  unfold fX4_lays
  rw [hF, show n + (B + 1) = n + B + 1 by omega]
  rw [Nat.pow_zero, Nat.div_one] at m1
  exact m1
