/-! the reference's parts of the row -/
abbrev GdS (s : Nat → Int32) (S : Sy) : Prop :=
  (S.n ≤ 4) ∧
  (s 1 = nI S.n) ∧
  ((s 0).toInt = S.W) ∧
  (10 ≤ S.W) ∧
  (S.W ≤ 99) ∧
  (∀ k, k ≤ S.n → (s (2 + k)).toInt = S.K k) ∧
  (∀ k, k ≤ S.n → 1 ≤ S.K k ∧ S.K k ≤ 9) ∧
  (∀ k, k ≤ S.n → (s (7 + k)).toInt = S.L k) ∧
  (∀ k, k ≤ S.n → 0 ≤ S.L k ∧ S.L k ≤ 50) ∧
  (∀ k, k < S.n → (s (12 + k)).toInt = S.q k) ∧
  (∀ k, k < S.n → -99 ≤ S.q k ∧ S.q k ≤ 99) ∧
  (∀ k, k < S.n → (lowB s k).toInt = S.lo k) ∧
  (∀ k, k < S.n → (highB s k).toInt = S.hi k) ∧
  (∀ k, k < S.n → 0 ≤ S.lo k) ∧
  (∀ k, k < S.n → S.hi k ≤ S.W) ∧
  (∀ i j, i ≤ j → j < S.n → S.lo i ≤ S.hi j)
theorem GdS.n4 {s : Nat → Int32} {S : Sy} (h : GdS s S) : S.n ≤ 4 := h.1
theorem GdS.s1 {s : Nat → Int32} {S : Sy} (h : GdS s S) : s 1 = nI S.n := h.2.1
theorem GdS.s0 {s : Nat → Int32} {S : Sy} (h : GdS s S) : (s 0).toInt = S.W := h.2.2.1
theorem GdS.W0 {s : Nat → Int32} {S : Sy} (h : GdS s S) : 10 ≤ S.W := h.2.2.2.1
theorem GdS.W1 {s : Nat → Int32} {S : Sy} (h : GdS s S) : S.W ≤ 99 := h.2.2.2.2.1
theorem GdS.K {s : Nat → Int32} {S : Sy} (h : GdS s S) : ∀ k, k ≤ S.n → (s (2 + k)).toInt = S.K k := h.2.2.2.2.2.1
theorem GdS.K0 {s : Nat → Int32} {S : Sy} (h : GdS s S) : ∀ k, k ≤ S.n → 1 ≤ S.K k ∧ S.K k ≤ 9 := h.2.2.2.2.2.2.1
theorem GdS.L {s : Nat → Int32} {S : Sy} (h : GdS s S) : ∀ k, k ≤ S.n → (s (7 + k)).toInt = S.L k := h.2.2.2.2.2.2.2.1
theorem GdS.L0 {s : Nat → Int32} {S : Sy} (h : GdS s S) : ∀ k, k ≤ S.n → 0 ≤ S.L k ∧ S.L k ≤ 50 := h.2.2.2.2.2.2.2.2.1
theorem GdS.q {s : Nat → Int32} {S : Sy} (h : GdS s S) : ∀ k, k < S.n → (s (12 + k)).toInt = S.q k := h.2.2.2.2.2.2.2.2.2.1
theorem GdS.q0 {s : Nat → Int32} {S : Sy} (h : GdS s S) : ∀ k, k < S.n → -99 ≤ S.q k ∧ S.q k ≤ 99 := h.2.2.2.2.2.2.2.2.2.2.1
theorem GdS.lo {s : Nat → Int32} {S : Sy} (h : GdS s S) : ∀ k, k < S.n → (lowB s k).toInt = S.lo k := h.2.2.2.2.2.2.2.2.2.2.2.1
theorem GdS.hi {s : Nat → Int32} {S : Sy} (h : GdS s S) : ∀ k, k < S.n → (highB s k).toInt = S.hi k := h.2.2.2.2.2.2.2.2.2.2.2.2.1
theorem GdS.lo0 {s : Nat → Int32} {S : Sy} (h : GdS s S) : ∀ k, k < S.n → 0 ≤ S.lo k := h.2.2.2.2.2.2.2.2.2.2.2.2.2.1
theorem GdS.hiW {s : Nat → Int32} {S : Sy} (h : GdS s S) : ∀ k, k < S.n → S.hi k ≤ S.W := h.2.2.2.2.2.2.2.2.2.2.2.2.2.2.1
theorem GdS.al {s : Nat → Int32} {S : Sy} (h : GdS s S) : ∀ i j, i ≤ j → j < S.n → S.lo i ≤ S.hi j := h.2.2.2.2.2.2.2.2.2.2.2.2.2.2.2
theorem gdS_of {s : Nat → Int32} (hG : Good s) : GdS s (syO s) := by
  obtain ⟨w, p, g1, g2, g3, g4, g5, g6, g7, g8⟩ := hG
  have hn : (syO s).n = p := syO_p g2 g5
  have hw : (syO s).W = w := by rw [syO_W, g1, nI_toInt (by omega)]
  refine ⟨by omega, by rw [hn, g2], rfl, by omega, by omega, fun k hk => rfl, ?_, fun k hk => rfl, ?_, fun k hk => rfl, ?_, fun k hk => rfl, fun k hk => rfl, ?_, ?_, ?_⟩
  · intro k hk; have := g6 k (by omega); rw [syO_K]; omega
  · intro k hk; have := g6 k (by omega); rw [syO_L]; omega
  · intro k hk; exact (g7 k (by omega)).1
  · intro k hk; exact (bounds_of g1 g4 g7 k (by omega)).1
  · intro k hk; rw [hw]; exact (bounds_of g1 g4 g7 k (by omega)).2.2.2
  · intro i j hij hj
    have := g8 i j hij (by omega)
    rw [i_le] at this
    exact this
/-- all but what the search writes -/
def rz (M : BX4) : (Nat → Int32) × (Nat → Int32) × (Nat → Int32) × Int32 × Int32 × (Nat → Int32) × Int32 × (Nat → Int64) × Int64 × Int64 × Int64 × Int32 × Int32 × Int32 × Int32 × (Nat → Int32) :=
  (p4_s M, p4_past M, p4_held M, p4_pasts M, p4_runs M, p4_text M, p4_typed M, p4_kept M, p4_keptLower M, p4_farUp M, p4_farDown M, p4_spot M, p4_reason M, p4_cause M, p4_settings M, p4_told M)
theorem rz_s {M M' : BX4} (h : rz M' = rz M) : p4_s M' = p4_s M := congrArg (fun z => z.1) h
theorem rz_first (M : BX4) (z : Nat → Int32) : rz (s4_first M z) = rz M := rfl
theorem rz_blocks (M : BX4) (z : Int32) : rz (s4_blocks M z) = rz M := rfl
theorem rz_grid (M : BX4) (z : Nat → Int64) : rz (s4_grid M z) = rz M := rfl
theorem rz_lower (M : BX4) (z : Int64) : rz (s4_lower M z) = rz M := rfl
theorem rz_upper (M : BX4) (z : Nat → Int64) : rz (s4_upper M z) = rz M := rfl
def bitN (g k : Nat) : Nat := g / 2 ^ k % 2
/-- the blocks ahead of the plate p -/
abbrev BlkP (S : Sy) (bits p B : Nat) (FB : Nat → Nat) : Prop :=
  (0 < p → 0 < B ∧ FB 0 = 0) ∧
  (∀ i, i < B → FB i < p) ∧
  (∀ i j, i < j → j < B → FB i < FB j) ∧
  (∀ i q, i < B → FB i < q → q < p → (∀ j, i < j → j < B → q < FB j) → bitN bits (q - 1) = 1) ∧
  (∀ i, 0 < i → i < B → bitN bits (FB i - 1) = 0)
theorem BlkP.z {S : Sy} {bits p B : Nat} {FB : Nat → Nat} (h : BlkP S bits p B FB) : 0 < p → 0 < B ∧ FB 0 = 0 := h.1
theorem BlkP.lt {S : Sy} {bits p B : Nat} {FB : Nat → Nat} (h : BlkP S bits p B FB) : ∀ i, i < B → FB i < p := h.2.1
theorem BlkP.up {S : Sy} {bits p B : Nat} {FB : Nat → Nat} (h : BlkP S bits p B FB) : ∀ i j, i < j → j < B → FB i < FB j := h.2.2.1
theorem BlkP.inn {S : Sy} {bits p B : Nat} {FB : Nat → Nat} (h : BlkP S bits p B FB) : ∀ i q, i < B → FB i < q → q < p → (∀ j, i < j → j < B → q < FB j) → bitN bits (q - 1) = 1 := h.2.2.2.1
theorem BlkP.out {S : Sy} {bits p B : Nat} {FB : Nat → Nat} (h : BlkP S bits p B FB) : ∀ i, 0 < i → i < B → bitN bits (FB i - 1) = 0 := h.2.2.2.2
def upN (f : Nat → Nat) (j z : Nat) : Nat → Nat := fun i => if i = j then z else f i
theorem upN_s (f : Nat → Nat) (j z : Nat) : upN f j z j = z := if_pos rfl
theorem upN_n (f : Nat → Nat) {j k : Nat} (z : Nat) (h : k ≠ j) : upN f j z k = f k := if_neg h
theorem blk_new {S : Sy} {bits p B : Nat} {FB : Nat → Nat} (h : BlkP S bits p B FB) (hb : p = 0 ∨ bitN bits (p - 1) = 0) : BlkP S bits (p + 1) (B + 1) (upN FB B p) := by
  have eq1 : ∀ i, i < B → upN FB B p i = FB i := fun i hi => upN_n FB p (by omega)
  have eqB : upN FB B p B = p := upN_s FB B p
  have B0 : p = 0 → B = 0 := by
    intro e
    rcases Nat.eq_zero_or_pos B with q | q
    · exact q
    · have := h.lt 0 q; omega
  refine ⟨fun _ => ⟨by omega, ?_⟩, ?_, ?_, ?_, ?_⟩
  · rcases Nat.eq_zero_or_pos p with e | e
    · have h' := eqB
      rw [B0 e] at h' ⊢
      rw [h']; exact e
    · rw [eq1 0 (h.z e).1]; exact (h.z e).2
  · intro i hi
    rcases Nat.eq_or_lt_of_le (Nat.le_of_lt_succ hi) with rfl | hi
    · rw [eqB]; omega
    · rw [eq1 i hi]; have := h.lt i hi; omega
  · intro i j hij hj
    rcases Nat.eq_or_lt_of_le (Nat.le_of_lt_succ hj) with rfl | hj
    · rw [eqB, eq1 i hij]; exact h.lt i hij
    · rw [eq1 i (by omega), eq1 j hj]; exact h.up i j hij hj
  · intro i q hi h1 h2 h3
    rcases Nat.eq_or_lt_of_le (Nat.le_of_lt_succ hi) with rfl | hi
    · rw [eqB] at h1; omega
    · rw [eq1 i hi] at h1
      have h4 := h3 B hi (by omega)
      rw [eqB] at h4
      exact h.inn i q hi h1 h4 (fun j j1 j2 => by have := h3 j j1 (by omega); rw [eq1 j j2] at this; exact this)
  · intro i h1 hi
    rcases Nat.eq_or_lt_of_le (Nat.le_of_lt_succ hi) with rfl | hi
    · rw [eqB]
      rcases hb with hb | hb
      · have := B0 hb; omega
      · exact hb
    · rw [eq1 i hi]; exact h.out i h1 hi
theorem blk_old {S : Sy} {bits p B : Nat} {FB : Nat → Nat} (h : BlkP S bits p B FB) (hp : 0 < p) (hb : bitN bits (p - 1) = 1) : BlkP S bits (p + 1) B FB := by
  refine ⟨fun _ => h.z hp, fun i hi => by have := h.lt i hi; omega, h.up, ?_, h.out⟩
  intro i q hi h1 h2 h3
  rcases Nat.eq_or_lt_of_le (Nat.le_of_lt_succ h2) with rfl | h2
  · exact hb
  · exact h.inn i q hi h1 h2 h3
theorem bit_v (g k : Nat) (hg : g < 8) (hk : k < 4) : ((nI g >>> (nI k &&& 31)) &&& (1 : Int32)) = nI (bitN g k) := by
  have h1 : (1 : Int32).toBitVec.toNat = 2 ^ 1 - 1 := by decide
  have key : ∀ s, (s.toBitVec.smod 32).toNat = k → ((nI g >>> s) &&& (1 : Int32)) = nI (bitN g k) := by
    intro s hs
    rw [pk_shrN (by omega) s k hs, pk_andN (Nat.lt_of_le_of_lt (Nat.div_le_self _ _) (by omega)) 1 h1]
    rfl
  rcases (show k = 0 ∨ k = 1 ∨ k = 2 ∨ k = 3 by omega) with rfl | rfl | rfl | rfl <;> exact key _ (by decide)
theorem bitN_b (g k : Nat) : bitN g k = 0 ∨ bitN g k = 1 := by
  have : bitN g k < 2 := Nat.mod_lt _ (by omega)
  omega
theorem pa_u (k : Nat) : fX4_parts_7 (k + 1) = fX4_parts_7_b (fX4_parts_7 k) := rfl
/-- the arrays of the blocks -/
def FsQ (M : BX4) (B : Nat) (FB : Nat → Nat) : Prop := p4_blocks M = nI B ∧ ∀ i, i < B → p4_first M i = nI (FB i)
theorem blk_le {S : Sy} {bits p B : Nat} {FB : Nat → Nat} (h : BlkP S bits p B FB) : B ≤ p := by
  have : ∀ i, i < B → i ≤ FB i := by
    intro i
    induction i with
    | zero => intro _; omega
    | succ i ih => intro hi; have := ih (by omega); have := h.up i (i + 1) (by omega) hi; omega
  rcases Nat.eq_zero_or_pos B with e | e
  · omega
  · have := this (B - 1) (by omega); have := h.lt (B - 1) (by omega); omega
theorem pa_new {s : Nat → Int32} {S : Sy} (hS : GdS s S) (k : BX4 → Int32 → Int32 → Option BX4) (M : BX4) (hM : p4_s M = s) (bits p B : Nat) (hb : bits < 8) (hp : p < S.n) (FB : Nat → Nat) (hB : B ≤ p) (hF : FsQ M B FB) (hbit : p = 0 ∨ bitN bits (p - 1) = 0) :
    fX4_parts_7_b k M (nI bits) (nI p) = k (s4_blocks (s4_first M (upd (p4_first M) B (nI p))) (nI (B + 1))) (nI bits) (nI (p + 1)) := by
  have n4 := hS.n4
  have e31 : fX4_parts_31 k M (nI bits) (nI p) = k (s4_blocks (s4_first M (upd (p4_first M) B (nI p))) (nI (B + 1))) (nI bits) (nI (p + 1)) := by
    unfold fX4_parts_31 fX4_parts_51
    rw [hF.1, if_pos (inB_nI (by omega) (by omega)), nI_clamp (by omega)]
    simp only [elet_eq]
    rw [gs4_blocks_first, hF.1, nI_1, nI_1]
  unfold fX4_parts_7_b
  rw [cl1, hM, hS.s1, if_neg (nlec (by omega) (by omega))]
  rcases Nat.eq_zero_or_pos p with e | e
  · rw [if_pos (show nI p = 0 by rw [e]; rfl)]
    exact e31
  · obtain ⟨p', rfl⟩ : ∃ p', p = p' + 1 := ⟨p - 1, by omega⟩
    rw [if_neg (nI_ne0 (by omega) (by omega)), nI_pred, bit_v bits p' hb (by omega)]
    rcases hbit with h | h
    · omega
    · rw [Nat.add_sub_cancel] at h
      rw [h, if_pos (show nI 0 = 0 from rfl)]
      exact e31
theorem pa_old {s : Nat → Int32} {S : Sy} (hS : GdS s S) (k : BX4 → Int32 → Int32 → Option BX4) (M : BX4) (hM : p4_s M = s) (bits p : Nat) (hb : bits < 8) (hp : p < S.n) (h0 : 0 < p) (hbit : bitN bits (p - 1) = 1) :
    fX4_parts_7_b k M (nI bits) (nI p) = k M (nI bits) (nI (p + 1)) := by
  have n4 := hS.n4
  unfold fX4_parts_7_b
  rw [cl1, hM, hS.s1, if_neg (nlec (by omega) (by omega))]
  obtain ⟨p', rfl⟩ : ∃ p', p = p' + 1 := ⟨p - 1, by omega⟩
  rw [Nat.add_sub_cancel] at hbit
  rw [if_neg (nI_ne0 (by omega) (by omega)), nI_pred, bit_v bits p' hb (by omega), hbit, if_neg (by decide)]
  unfold fX4_parts_51
  rw [elet_eq, nI_1]
theorem pa_all {s : Nat → Int32} {S : Sy} (hS : GdS s S) (bits : Nat) (hb : bits < 8) : ∀ (d p n : Nat) (M : BX4) (B : Nat) (FB : Nat → Nat), p + d = S.n → p4_s M = s → BlkP S bits p B FB → FsQ M B FB →
    ∃ M' B' FB', fX4_parts_7 (n + d + 1) M (nI bits) (nI p) = some M' ∧ rz M' = rz M ∧ BlkP S bits S.n B' FB' ∧ FsQ M' B' FB' ∧ p4_first M' B' = nI S.n := by
  have n4 := hS.n4
  intro d
  induction d with
  | zero =>
    intro p n M B FB hp hM hB hF
    have hp' : p = S.n := by omega
    subst hp'
    have hBn := blk_le hB
    refine ⟨s4_first M (upd (p4_first M) B (nI S.n)), B, FB, ?_, rfl, hB, ⟨hF.1, fun i hi => ?_⟩, ?_⟩
    · rw [pa_u]
      unfold fX4_parts_7_b
      rw [cl1, hM, hS.s1, if_pos (Int32.le_refl _), hF.1, if_pos (inB_nI (by omega) (by omega)), nI_clamp (by omega)]
      rfl
    · rw [gs4_first_first, pk_un (by omega)]; exact hF.2 i hi
    · rw [gs4_first_first, pk_us]
  | succ d ih =>
    intro p n M B FB hp hM hB hF
    have hBn := blk_le hB
    rw [show n + (d + 1) + 1 = (n + d + 1) + 1 by omega, pa_u]
    rcases Classical.em (p = 0 ∨ bitN bits (p - 1) = 0) with h | h
    · rw [pa_new hS _ M hM bits p B hb (by omega) FB hBn hF h]
      obtain ⟨M', B', FB', q1, q2, q3⟩ := ih (p + 1) n (s4_blocks (s4_first M (upd (p4_first M) B (nI p))) (nI (B + 1))) (B + 1) (upN FB B p) (by omega) hM (blk_new hB h) ⟨rfl, fun i hi => by
        rw [gs4_first_blocks, gs4_first_first]
        rcases Nat.eq_or_lt_of_le (Nat.le_of_lt_succ hi) with rfl | hi
        · rw [pk_us, upN_s]
        · rw [pk_un (by omega), upN_n _ _ (by omega)]; exact hF.2 i hi⟩
      exact ⟨M', B', FB', q1, q2, q3⟩
    · have h0 : 0 < p := by omega
      have h1 : bitN bits (p - 1) = 1 := by have := bitN_b bits (p - 1); omega
      rw [pa_old hS _ M hM bits p hb (by omega) h0 h1]
      exact ih (p + 1) n M B FB (by omega) hM (blk_old hB h0 h1) hF
/-- the parts of the row, the end behind them -/
abbrev Blk (S : Sy) (M : BX4) (B : Nat) (FB : Nat → Nat) : Prop :=
  (p4_blocks M = nI B) ∧
  (∀ i, i ≤ B → p4_first M i = nI (FB i)) ∧
  (B ≤ S.n) ∧
  (0 < S.n → 0 < B ∧ FB 0 = 0) ∧
  (FB B = S.n) ∧
  (∀ i, i < B → FB i < FB (i + 1))
theorem Blk.bl {S : Sy} {M : BX4} {B : Nat} {FB : Nat → Nat} (h : Blk S M B FB) : p4_blocks M = nI B := h.1
theorem Blk.fi {S : Sy} {M : BX4} {B : Nat} {FB : Nat → Nat} (h : Blk S M B FB) : ∀ i, i ≤ B → p4_first M i = nI (FB i) := h.2.1
theorem Blk.b4 {S : Sy} {M : BX4} {B : Nat} {FB : Nat → Nat} (h : Blk S M B FB) : B ≤ S.n := h.2.2.1
theorem Blk.z {S : Sy} {M : BX4} {B : Nat} {FB : Nat → Nat} (h : Blk S M B FB) : 0 < S.n → 0 < B ∧ FB 0 = 0 := h.2.2.2.1
theorem Blk.en {S : Sy} {M : BX4} {B : Nat} {FB : Nat → Nat} (h : Blk S M B FB) : FB B = S.n := h.2.2.2.2.1
theorem Blk.up {S : Sy} {M : BX4} {B : Nat} {FB : Nat → Nat} (h : Blk S M B FB) : ∀ i, i < B → FB i < FB (i + 1) := h.2.2.2.2.2
theorem parts_ok {s : Nat → Int32} {S : Sy} (hS : GdS s S) (bits : Nat) (hb : bits < 8) (M : BX4) (hM : p4_s M = s) : ∃ (M' : BX4) (B : Nat) (FB : Nat → Nat), fX4_parts M (nI bits) = some M' ∧ rz M' = rz M ∧ Blk S M' B FB ∧
    (∀ i q, i < B → FB i < q → q < FB (i + 1) → bitN bits (q - 1) = 1) ∧ ∀ i, 0 < i → i < B → bitN bits (FB i - 1) = 0 := by
  have n4 := hS.n4
  obtain ⟨n, hF⟩ := FU_ex (S.n + 1) (by omega)
  obtain ⟨M', B, FB, q1, q2, q3, q4, q5⟩ := pa_all hS bits hb S.n 0 n (s4_blocks M 0) 0 (fun _ => 0) (by omega) hM ⟨fun h => absurd h (by omega), fun i hi => absurd hi (by omega), fun i j _ hj => absurd hj (by omega), fun i q hi => absurd hi (by omega), fun i _ hi => absurd hi (by omega)⟩ ⟨rfl, fun i hi => absurd hi (by omega)⟩
  have eq1 : ∀ i, i < B → upN FB B S.n i = FB i := fun i hi => upN_n FB _ (by omega)
  have eqB : upN FB B S.n B = S.n := upN_s FB B S.n
  refine ⟨M', B, upN FB B S.n, ?_, q2, ⟨q4.1, ?_, blk_le q3, ?_, eqB, ?_⟩, ?_, ?_⟩
  · unfold fX4_parts
    rw [elet_eq, hF, show n + (S.n + 1) = n + S.n + 1 by omega]
    exact q1
  · intro i hi
    rcases Nat.eq_or_lt_of_le hi with rfl | hi
    · rw [eqB]; exact q5
    · rw [eq1 i hi]; exact q4.2 i hi
  · intro h
    have := q3.z h
    rw [eq1 0 this.1]; exact this
  · intro i hi
    rw [eq1 i hi]
    rcases Nat.eq_or_lt_of_le (show i + 1 ≤ B by omega) with e | e
    · rw [e, eqB]; exact q3.lt i hi
    · rw [eq1 (i + 1) e]; exact q3.up i (i + 1) (by omega) e
  · intro i q hi h1 h2
    rw [eq1 i hi] at h1
    refine q3.inn i q hi h1 ?_ ?_
    · rcases Nat.eq_or_lt_of_le (show i + 1 ≤ B by omega) with e | e
      · rw [e, eqB] at h2; exact h2
      · rw [eq1 (i + 1) e] at h2; have := q3.lt (i + 1) e; omega
    · intro j j1 j2
      rw [eq1 (i + 1) (by omega)] at h2
      rcases Nat.eq_or_lt_of_le j1 with rfl | j3
      · exact h2
      · have := q3.up (i + 1) j j3 j2; omega
  · intro i h1 h2
    rw [eq1 i h2]; exact q3.out i h1 h2
