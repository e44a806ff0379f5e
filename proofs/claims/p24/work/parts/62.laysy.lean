/-! what the state lays -/
def syO (s : Nat → Int32) : Sy := ((s 1).toInt.toNat, (s 0).toInt, fun k => (s (2 + k)).toInt, fun k => (s (7 + k)).toInt, fun k => (s (12 + k)).toInt, fun k => (lowB s k).toInt, fun k => (highB s k).toInt)
theorem syO_n (s : Nat → Int32) : (syO s).n = (s 1).toInt.toNat := rfl
theorem syO_W (s : Nat → Int32) : (syO s).W = (s 0).toInt := rfl
theorem syO_K (s : Nat → Int32) (k : Nat) : (syO s).K k = (s (2 + k)).toInt := rfl
theorem syO_L (s : Nat → Int32) (k : Nat) : (syO s).L k = (s (7 + k)).toInt := rfl
theorem syO_q (s : Nat → Int32) (k : Nat) : (syO s).q k = (s (12 + k)).toInt := rfl
theorem syO_lo (s : Nat → Int32) (k : Nat) : (syO s).lo k = (lowB s k).toInt := rfl
theorem syO_hi (s : Nat → Int32) (k : Nat) : (syO s).hi k = (highB s k).toInt := rfl
theorem syO_p {s : Nat → Int32} {p : Nat} (h : s 1 = nI p) (hp : p ≤ 4) : (syO s).n = p := by
  rw [syO_n, h, nI_toInt (by omega)]; omega
theorem sumF_v {s : Nat → Int32} {p : Nat} (hq : ∀ k, k < p → -99 ≤ (s (12 + k)).toInt ∧ (s (12 + k)).toInt ≤ 99) (hp : p ≤ 4) : ∀ (d j : Nat) (x : Int32), j + d ≤ p → -(99 * (j : Int)) ≤ x.toInt → x.toInt ≤ 99 * j → (sumF s j d x).toInt = x.toInt + preS (fun k => (s (12 + k)).toInt) (j + d) - preS (fun k => (s (12 + k)).toInt) j := by
  intro d
  induction d with
  | zero => intro j x _ _ _; show x.toInt = _; rw [Nat.add_zero]; omega
  | succ d ih =>
    intro j x hj h1 h2
    have hj' := hq j (by omega)
    have e : (x + s (12 + j)).toInt = x.toInt + (s (12 + j)).toInt := i_add (by omega) (by omega)
    show (sumF s (j + 1) d (x + s (12 + j))).toInt = _
    rw [ih (j + 1) _ (by omega) (by rw [e]; push_cast; omega) (by rw [e]; push_cast; omega), e, show j + 1 + d = j + (d + 1) by omega]
    simp only [preS]
    omega
theorem laySy_of {L : BX0} {s : Nat → Int32} (h : LayEq L s) (hG : Good s) : LaySy L (syO s) := by
  obtain ⟨w, p, g1, g2, g3, g4, g5, g6, g7, g8⟩ := hG
  have hn : (syO s).n = p := syO_p g2 g5
  have hw : (syO s).W = w := by rw [syO_W, g1, nI_toInt (by omega)]
  have hS : SaneS s p := fun k hk => ⟨(g7 k hk).2.1.1, (g7 k hk).2.2.1⟩
  refine ⟨by omega, ?_, ?_, by omega, by omega, ?_, ?_, ?_, ?_, ?_, ?_, ?_, ?_, ?_, ?_, ?_⟩
  · rw [hn, h.2.1, g2]
  · rw [h.1]; rfl
  · intro k hk; rw [h.2.2.1 k (by omega)]; rfl
  · intro k hk; have := g6 k (by omega); rw [syO_K]; omega
  · intro k hk; rw [h.2.2.2.1 k (by omega)]; rfl
  · intro k hk; have := g6 k (by omega); rw [syO_L]; omega
  · intro k hk; exact (g7 k (by omega)).1
  · intro a b hab hb
    rw [hn] at hb
    obtain ⟨n, hF⟩ := FU_ex ((b + 1 - a) + 1) (by omega)
    refine ⟨sumF s a (b + 1 - a) 0, ?_, ?_⟩
    · unfold fX0_sumOfLoads
      rw [hF, show n + ((b + 1 - a) + 1) = n + (b + 1 - a) + 1 by omega]
      exact sl_all h (nI b) (b + 1) (by omega) (by rw [nI_toInt (by omega)]; omega) (b + 1 - a) a (by omega) 0 n
    · have z : (0 : Int32).toInt = 0 := rfl
      rw [sumF_v (p := p) (fun k hk => (g7 k hk).1) g5 _ _ _ (by omega) (by rw [z]; omega) (by rw [z]; omega), z, show a + (b + 1 - a) = b + 1 by omega]
      show 0 + preS (syO s).q (b + 1) - preS (syO s).q a = _
      omega
  · intro k hk
    rw [hn] at hk
    exact ⟨_, left_v h hS g5 k hk, rfl⟩
  · intro k hk
    rw [hn] at hk
    exact ⟨_, right_v h hS g5 k hk, rfl⟩
  · intro k hk; exact (bounds_of g1 g4 g7 k (by omega)).1
  · intro k hk; rw [hw]; exact (bounds_of g1 g4 g7 k (by omega)).2.2.2
  · intro i j hij hj
    have := g8 i j hij (by omega)
    rw [i_le] at this
    exact this
