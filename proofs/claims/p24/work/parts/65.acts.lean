/-! acts keeps the law's numbers beside the class's -/
def LivX (s g k : Nat → Int32) : Prop := ∃ p, s 1 = nI p ∧ p ≤ 4 ∧ Liv s g k p
def Sim24 : SimT := fun vX n _ vA _ vR vS vg vk => ∃ s, StC s vX n vA vR vS ∧ LivX s vg vk
abbrev T6 : Type := Int32 × BX3 × Nat × (Nat → BX0) × BX0 × BX0
abbrev T8 : Type := Int32 × BX3 × Nat × (Nat → BX0) × BX0 × BX0 × (Nat → Int32) × (Nat → Int32)
def AcOk (r : Option T8) (vR : BX1) (vS : BX2) : Prop := ∃ y, r = some y ∧ y.1 = 1 ∧ Sim24 y.2.1 y.2.2.1 y.2.2.2.1 y.2.2.2.2.1 y.2.2.2.2.2.1 vR vS y.2.2.2.2.2.2.1 y.2.2.2.2.2.2.2
def CaOk (C : Option T6) (a : Int32) (s : Nat → Int32) (vR : BX1) (vS : BX2) : Prop := ∃ y, C = some y ∧ y.1 = a ∧ StC s y.2.1 y.2.2.1 y.2.2.2.2.1 vR vS
theorem ca_fin {C : Option T6} {a : Int32} {s g k : Nat → Int32} {vR : BX1} {vS : BX2} (h : CaOk C a s vR vS) (hl : LivX s g k) : AcOk (C.bind (fun y => if y.2.2.1 ≤ 4 then (if y.1 = a then (some (1, y.2.1, (y.2.2.1), (y.2.2.2.1), y.2.2.2.2.1, y.2.2.2.2.2, g, k)) else (some (0, y.2.1, (y.2.2.1), (y.2.2.2.1), y.2.2.2.2.1, y.2.2.2.2.2, g, k))) else none)) vR vS := by
  obtain ⟨y, q1, q2, q3⟩ := h
  rw [q1, Option.bind_some, if_pos q3.n4, if_pos q2]
  exact ⟨_, rfl, rfl, s, q3, hl⟩
theorem ca_next {C : Option T6} {a : Int32} {s : Nat → Int32} {vR : BX1} {vS : BX2} (h : CaOk C a s vR vS) (K Z : T6 → Option T8) (hK : ∀ y, StC s y.2.1 y.2.2.1 y.2.2.2.2.1 vR vS → AcOk (K y) vR vS) : AcOk (C.bind (fun y => if y.2.2.1 ≤ 4 then (if y.1 = a then K y else Z y) else none)) vR vS := by
  obtain ⟨y, q1, q2, q3⟩ := h
  rw [q1, Option.bind_some, if_pos q3.n4, if_pos q2]
  exact hK y q3
section AC
variable {s : Nat → Int32} {vX : BX3} {n : Nat} {vA : BX0} {vR : BX1} {vS : BX2}
theorem x_plate (h : StC s vX n vA vR vS) (pv : Nat → BX0) (vB : BX0) (a : Int32) (s1 : Nat → Int32) (ho : OkC (fX0_addPlate (cfV vB vA)) a s1) : CaOk (fX3_plate vX n pv vA vB) a s1 vR vS := op_c h pv vB (fun L => fX0_addPlate L) a s1 ho
theorem x_plate_e (h : StC s vX n vA vR vS) (pv : Nat → BX0) (vB : BX0) (e : Int32) (ho : ErC (fX0_addPlate (cfV vB vA)) e) : CaOk (fX3_plate vX n pv vA vB) e s vR vS := op_e h pv vB (fun L => fX0_addPlate L) e ho
theorem x_load (h : StC s vX n vA vR vS) (pv : Nat → BX0) (vB : BX0) (i j : Int32) (a : Int32) (s1 : Nat → Int32) (ho : OkC (fX0_setLoad (cfV vB vA) i j) a s1) : CaOk (fX3_load vX n pv vA vB i j) a s1 vR vS := op_c h pv vB (fun L => fX0_setLoad L i j) a s1 ho
theorem x_load_e (h : StC s vX n vA vR vS) (pv : Nat → BX0) (vB : BX0) (i j : Int32) (e : Int32) (ho : ErC (fX0_setLoad (cfV vB vA) i j) e) : CaOk (fX3_load vX n pv vA vB i j) e s vR vS := op_e h pv vB (fun L => fX0_setLoad L i j) e ho
theorem x_spring (h : StC s vX n vA vR vS) (pv : Nat → BX0) (vB : BX0) (i j k : Int32) (a : Int32) (s1 : Nat → Int32) (ho : OkC (fX0_setSpring (cfV vB vA) i j k) a s1) : CaOk (fX3_spring vX n pv vA vB i j k) a s1 vR vS := op_c h pv vB (fun L => fX0_setSpring L i j k) a s1 ho
theorem x_spring_e (h : StC s vX n vA vR vS) (pv : Nat → BX0) (vB : BX0) (i j k : Int32) (e : Int32) (ho : ErC (fX0_setSpring (cfV vB vA) i j k) e) : CaOk (fX3_spring vX n pv vA vB i j k) e s vR vS := op_e h pv vB (fun L => fX0_setSpring L i j k) e ho
theorem x_width (h : StC s vX n vA vR vS) (pv : Nat → BX0) (vB : BX0) (i : Int32) (a : Int32) (s1 : Nat → Int32) (ho : OkC (fX0_setWidth (cfV vB vA) i) a s1) : CaOk (fX3_width vX n pv vA vB i) a s1 vR vS := op_c h pv vB (fun L => fX0_setWidth L i) a s1 ho
theorem x_width_e (h : StC s vX n vA vR vS) (pv : Nat → BX0) (vB : BX0) (i : Int32) (e : Int32) (ho : ErC (fX0_setWidth (cfV vB vA) i) e) : CaOk (fX3_width vX n pv vA vB i) e s vR vS := op_e h pv vB (fun L => fX0_setWidth L i) e ho
theorem x_stop (h : StC s vX n vA vR vS) (pv : Nat → BX0) (vB : BX0) (i j k : Int32) (a : Int32) (s1 : Nat → Int32) (ho : OkC (fX0_setStop (cfV vB vA) i j k) a s1) : CaOk (fX3_stop vX n pv vA vB i j k) a s1 vR vS := op_c h pv vB (fun L => fX0_setStop L i j k) a s1 ho
theorem x_stop_e (h : StC s vX n vA vR vS) (pv : Nat → BX0) (vB : BX0) (i j k : Int32) (e : Int32) (ho : ErC (fX0_setStop (cfV vB vA) i j k) e) : CaOk (fX3_stop vX n pv vA vB i j k) e s vR vS := op_e h pv vB (fun L => fX0_setStop L i j k) e ho
theorem x_unstop (h : StC s vX n vA vR vS) (pv : Nat → BX0) (vB : BX0) (i j : Int32) (a : Int32) (s1 : Nat → Int32) (ho : OkC (fX0_removeStop (cfV vB vA) i j) a s1) : CaOk (fX3_unstop vX n pv vA vB i j) a s1 vR vS := op_c h pv vB (fun L => fX0_removeStop L i j) a s1 ho
theorem x_unstop_e (h : StC s vX n vA vR vS) (pv : Nat → BX0) (vB : BX0) (i j : Int32) (e : Int32) (ho : ErC (fX0_removeStop (cfV vB vA) i j) e) : CaOk (fX3_unstop vX n pv vA vB i j) e s vR vS := op_e h pv vB (fun L => fX0_removeStop L i j) e ho
theorem x_drop (h : StC s vX n vA vR vS) (pv : Nat → BX0) (vB : BX0) (i : Int32) (a : Int32) (s1 : Nat → Int32) (ho : OkC (fX0_removePlate (cfV vB vA) i) a s1) : CaOk (fX3_drop vX n pv vA vB i) a s1 vR vS := op_c h pv vB (fun L => fX0_removePlate L i) a s1 ho
theorem x_drop_e (h : StC s vX n vA vR vS) (pv : Nat → BX0) (vB : BX0) (i : Int32) (e : Int32) (ho : ErC (fX0_removePlate (cfV vB vA) i) e) : CaOk (fX3_drop vX n pv vA vB i) e s vR vS := op_e h pv vB (fun L => fX0_removePlate L i) e ho
end AC
section AD
variable {s : Nat → Int32} {vX : BX3} {n : Nat} {vA : BX0} {vR : BX1} {vS : BX2} {g k : Nat → Int32} {p : Nat}
theorem plate_ac (h : StC s vX n vA vR vS) (pv : Nat → BX0) (vB : BX0) (hp : s 1 = nI p) (hp4 : p ≤ 4) (hl : Liv s g k p) : AcOk (fL_acts_40 vX n pv vA vB g k (nI p)) vR vS := by
  have hC : LayEq (cfV vB vA) s := cfV_lay h.1
  unfold fL_acts_40
  by_cases e4 : p = 4
  · subst e4
    rw [if_pos (show nI 4 = (4 : Int32) from rfl)]
    exact ca_fin (x_plate_e h pv vB _ (plate_er hC hp)) ⟨4, hp, hp4, hl⟩
  · have h4 : p < 4 := by omega
    have e1 : ¬ nI p = (4 : Int32) := fun e => e4 ((nI_eq (b := 4) (by omega) (by omega)).mp e)
    have e6 : (6 : Int32) + nI p = nI (6 + p) := nI_add 6 p
    have e10 : (10 : Int32) + nI p = nI (10 + p) := nI_add 10 p
    have e14 : (14 : Int32) + nI p = nI (14 + p) := nI_add 14 p
    have e18 : (18 : Int32) + nI p = nI (18 + p) := nI_add 18 p
    rw [if_neg e1, nI_1, e6, e10, e14, e18, if_pos (inB_nI (by omega) (by omega)), elet_eq, if_pos (inB_nI (by omega) (by omega)), elet_eq, if_pos (inB_nI (by omega) (by omega)), elet_eq, if_pos (inB_nI (by omega) (by omega)), elet_eq, if_pos (inB_nI (by omega) (by omega)), elet_eq, elet_eq, nI_clamp (by omega), nI_clamp (by omega), nI_clamp (by omega), nI_clamp (by omega), nI_clamp (by omega), cl1, hl.2.1, hp, nI_1]
    exact ca_fin (x_plate h pv vB _ _ (plate_c hC h.2.1 hp h4)) ⟨p + 1, by unfold plS; rw [pk_un (by omega), pk_un (by omega), pk_un (by omega), pk_un (by omega), pk_un (by omega), pk_us], by omega, liv_plate hl h4⟩
theorem spring_ac (h : StC s vX n vA vR vS) (pv : Nat → BX0) (vB : BX0) (hp : s 1 = nI p) (hp4 : p ≤ 4) (hl : Liv s g k p) (q v m t : Nat) (hq : q ≤ p) (v1 : 1 ≤ v) (v2 : v ≤ 9) (hm : m < 2 ^ 31) (t0 : 0 < t) (t1 : t ≤ 51) : AcOk (fL_acts_191 vX n pv vA vB g (upd k q (nI v)) (nI q) (100 * k q + k (5 + q)) (nI (5 + q)) (nI m) (nI t)) vR vS := by
  have hC : LayEq (cfV vB vA) s := cfV_lay h.1
  have e5 : (5 : Int32) + nI q = nI (5 + q) := nI_add 5 q
  have hmt := Nat.mod_lt m t0
  unfold fL_acts_191
  rw [if_neg (nI_ne0 t0 (by omega)), if_pos (inB_nI (by omega) (by omega)), elet_eq, pk_rem hm t0 (by omega), if_pos (inB_nI (by omega) (by omega)), e5, if_pos (inB_nI (by omega) (by omega)), nI_clamp (by omega), nI_clamp (by omega), pk_un (show q ≠ 5 + q by omega), pk_us, pk_us, (hl.2.2.1 q hq).1, (hl.2.2.1 q hq).2]
  refine ca_fin (x_spring h pv vB _ _ _ _ _ (spring_c hC h.2.1 hp hp4 q hq (nI v) (nI (m % t)) ?_ ?_ ?_ ?_)) ⟨p, ?_, hp4, liv_spring hl hp4 q hq (nI v) (nI (m % t))⟩
  · rw [nI_toInt (by omega)]; omega
  · rw [nI_toInt (by omega)]; omega
  · rw [nI_toInt (by omega)]; omega
  · rw [nI_toInt (by omega)]; omega
  · rw [pk_un (by omega), pk_un (by omega)]; exact hp
theorem load_ac (h : StC s vX n vA vR vS) (pv : Nat → BX0) (vB : BX0) (hp : s 1 = nI p) (hp4 : p ≤ 4) (hl : Liv s g k p) (q : Nat) (hq : q < p) (u v : Int32) (v1 : -99 ≤ v.toInt) (v2 : v.toInt ≤ 99) : AcOk (fL_acts_466 vX n pv vA vB g (upd k (10 + q) u) (nI q) (k (10 + q)) (nI (10 + q)) v) vR vS := by
  have hC : LayEq (cfV vB vA) s := cfV_lay h.1
  have e10 : (10 : Int32) + nI q = nI (10 + q) := nI_add 10 q
  have eu : upd (upd k (10 + q) u) (10 + q) v = upd k (10 + q) v := by
    funext j
    simp only [upd_e]
    split <;> rfl
  unfold fL_acts_466
  rw [if_pos (inB_nI (by omega) (by omega)), elet_eq, e10, if_pos (inB_nI (by omega) (by omega)), nI_clamp (by omega), eu, pk_us, (hl.2.2.2 q hq).1, Int32.add_comm 1000]
  exact ca_fin (x_load h pv vB _ _ _ _ (load_c hC h.2.1 hp hp4 q hq v v1 v2)) ⟨p, by rw [pk_un (by omega)]; exact hp, hp4, liv_load hl hp4 q hq v⟩
theorem width_ac (h : StC s vX n vA vR vS) (pv : Nat → BX0) (vB : BX0) (hp : s 1 = nI p) (hp4 : p ≤ 4) (hl : Liv s g k p) (v : Nat) (w1 : 10 ≤ v) (w2 : v ≤ 99) : ∀ d j, j + d = p → ∀ (x : Int32) (m : Nat), ((x = 0 ∧ BeyR s p 0 (nI v)) ∨ (x = 1 ∧ (BeyR s p 0 (nI v) ↔ BeyR s p j (nI v)))) → AcOk (fL_acts_242 (m + d + 1) vX n pv vA vB g k (nI p) (nI v) x (nI j)) vR vS := by
  have hC : LayEq (cfV vB vA) s := cfV_lay h.1
  intro d
  induction d with
  | zero =>
    intro j hj x m hx
    obtain rfl : j = p := by omega
    have nb : ¬ BeyR s j j (nI v) := fun ⟨q, q1, q2, _⟩ => absurd q2 (by omega)
    show AcOk (fL_acts_242_b (fL_acts_242 (m + 0)) vX n pv vA vB g k (nI j) (nI v) x (nI j)) vR vS
    unfold fL_acts_242_b fL_acts_310
    have e2 : inB (0 : Int32) 2 = true := by decide
    have eg : upd g 0 (g 0) = g := by
      funext i
      simp only [upd_e]
      split
      · rename_i e; rw [e]
      · rfl
    have ex0 : ∀ {α : Type} (A B : α), (if (0 : Int32) = 0 then A else B) = A := fun A B => if_pos rfl
    have ex1 : ∀ {α : Type} (A B : α), (if (1 : Int32) = 0 then A else B) = B := fun A B => if_neg (by decide)
    rcases width_c hC h.2.1 hp hp4 v w1 w2 with ⟨b1, b2⟩ | ⟨b1, b2⟩
    · rcases hx with ⟨rfl, -⟩ | ⟨-, hx⟩
      · rw [if_pos (lec (Nat.le_refl _) (by omega)), elet_eq, cl0, if_pos rfl, if_pos e2, elet_eq, eg]
        simp only [ex0]
        exact ca_fin (x_width_e h pv vB _ _ b2) ⟨j, hp, hp4, hl⟩
      · exact absurd (hx.mp b1) nb
    · rcases hx with ⟨-, hx⟩ | ⟨rfl, -⟩
      · exact absurd hx b1
      · rw [if_pos (lec (Nat.le_refl _) (by omega)), elet_eq, cl0, if_neg (by decide), if_pos e2, elet_eq, hl.1]
        simp only [ex1]
        exact ca_fin (x_width h pv vB _ _ _ b2) ⟨j, by rw [pk_un (by omega)]; exact hp, hp4, liv_width hl (nI v)⟩
  | succ d ih =>
    intro j hj x m hx
    have e14 : (14 : Int32) + nI j = nI (14 + j) := nI_add 14 j
    have e18 : (18 : Int32) + nI j = nI (18 + j) := nI_add 18 j
    have e0 : ∀ t, fL_acts_283 (fL_acts_242 (m + d + 1)) vX n pv vA vB g k (nI p) (nI v) (nI j) t = fL_acts_242 (m + d + 1) vX n pv vA vB g k (nI p) (nI v) t (nI (j + 1)) := by
      intro t
      unfold fL_acts_283
      rw [elet_eq, nI_1]
    have bs := BeyR_s s p j (nI v) (by omega)
    show AcOk (fL_acts_242_b (fL_acts_242 (m + d + 1)) vX n pv vA vB g k (nI p) (nI v) x (nI j)) vR vS
    unfold fL_acts_242_b fL_acts_282
    rw [if_neg (nlec (by omega) (by omega)), e14, e18, if_pos (inB_nI (by omega) (by omega)), if_pos (inB_nI (by omega) (by omega)), nI_clamp (by omega), nI_clamp (by omega), (hl.2.2.2 j (by omega)).2.1, (hl.2.2.2 j (by omega)).2.2, e0, e0]
    rcases hx with ⟨rfl, hx⟩ | ⟨rfl, hx⟩
    · rw [if_pos rfl]
      exact ih (j + 1) (by omega) 0 m (Or.inl ⟨rfl, hx⟩)
    · rw [if_neg (by decide)]
      by_cases c1 : nI v < s (16 + j)
      · rw [if_pos c1]
        exact ih (j + 1) (by omega) 0 m (Or.inl ⟨rfl, hx.mpr (bs.mpr (Or.inl (fun c => absurd c1 (Int32.not_lt.mpr c.1))))⟩)
      · rw [if_neg c1]
        by_cases c2 : nI v < s (20 + j)
        · rw [if_pos c2]
          exact ih (j + 1) (by omega) 0 m (Or.inl ⟨rfl, hx.mpr (bs.mpr (Or.inl (fun c => absurd c2 (Int32.not_lt.mpr c.2))))⟩)
        · rw [if_neg c2]
          refine ih (j + 1) (by omega) 1 m (Or.inr ⟨rfl, hx.trans (bs.trans ⟨fun c => ?_, Or.inr⟩)⟩)
          rcases c with c | c
          · exact absurd ⟨Int32.not_lt.mp c1, Int32.not_lt.mp c2⟩ c
          · exact c
theorem stop_ac (h : StC s vX n vA vR vS) (pv : Nat → BX0) (vB : BX0) (hp : s 1 = nI p) (hp4 : p ≤ 4) (hl : Liv s g k p) (q c v w : Nat) (hq : q < p) (hc : c < 2) (hw : s 0 = nI w) (hw9 : w ≤ 99) (hv : v ≤ w) : AcOk ((fL_allowed g (upd k (14 + 4 * c + q) (nI v))).bind (fun y45 => if inB (nI (14 + 4 * c + q)) 23 = true then (elet ((upd k (14 + 4 * c + q) (nI v)) (nI (14 + 4 * c + q)).toNatClampNeg) (fun z47 => if y45 = 0 then (fL_acts_571 vX n pv vA vB g (upd k (14 + 4 * c + q) (nI v)) (nI q) (nI c) (k (14 + 4 * c + q)) y45 z47 (nI (14 + 4 * c + q)) (k (14 + 4 * c + q))) else (fL_acts_571 vX n pv vA vB g (upd k (14 + 4 * c + q) (nI v)) (nI q) (nI c) (k (14 + 4 * c + q)) y45 z47 (nI (14 + 4 * c + q)) z47))) else none)) vR vS := by
  have hC : LayEq (cfV vB vA) s := cfV_lay h.1
  have hl1 := liv_stop hl hp4 q c hq hc (nI v)
  have hp1 : upd s (16 + 4 * c + q) (nI v) 1 = nI p := by rw [pk_un (by omega)]; exact hp
  have ek : k (14 + 4 * c + q) = s (16 + 4 * c + q) := by
    obtain ⟨-, x1, x2⟩ := hl.2.2.2 q hq
    rcases (show c = 0 ∨ c = 1 by omega) with rfl | rfl
    · exact x1
    · exact x2
  have ex0 : ∀ {α : Type} (A B : α), (if (0 : Int32) = 0 then A else B) = A := fun A B => if_pos rfl
  have ex1 : ∀ {α : Type} (A B : α), (if (1 : Int32) = 0 then A else B) = B := fun A B => if_neg (by decide)
  have ein : inB (nI (14 + 4 * c + q)) 23 = true := inB_nI (by omega) (by omega)
  have ecl : (nI (14 + 4 * c + q)).toNatClampNeg = 14 + 4 * c + q := nI_clamp (by omega)
  rcases stop_c hC h.2.1 hw hp hp4 q c v hq hc hv hw9 with ⟨b1, b2⟩ | ⟨b1, b2⟩ <;> rcases alw_v hl1 hp1 hp4 with ⟨c1, c2⟩ | ⟨c1, c2⟩
  · rw [c2, Option.bind_some, if_pos ein, elet_eq, ex1, ecl, pk_us]
    unfold fL_acts_571
    rw [if_pos ein, elet_eq, ecl, ek]
    simp only [ex1]
    have eu : upd (upd k (14 + 4 * c + q) (nI v)) (14 + 4 * c + q) (nI v) = upd k (14 + 4 * c + q) (nI v) := by
      funext j
      simp only [upd_e]
      split <;> rfl
    rw [eu]
    exact ca_fin (x_stop h pv vB _ _ _ _ _ b2) ⟨p, hp1, hp4, hl1⟩
  · exact absurd b1 c1
  · exact absurd c1 b1
  · rw [c2, Option.bind_some, if_pos ein, elet_eq, ex0, ecl, pk_us]
    unfold fL_acts_571
    rw [if_pos ein, elet_eq, ecl]
    simp only [ex0]
    rw [upd_back]
    exact ca_fin (x_stop_e h pv vB _ _ _ _ b2) ⟨p, hp, hp4, hl⟩
theorem unstop_ac (h : StC s vX n vA vR vS) (pv : Nat → BX0) (vB : BX0) (hp : s 1 = nI p) (hp4 : p ≤ 4) (hl : Liv s g k p) (q c : Nat) (hq : q < p) (hc : c < 2) : AcOk ((fX3_unstop vX n pv vA vB (nI q) (nI c)).bind (fun y36 => if y36.2.2.1 ≤ 4 then (if 0 ≤ k (14 + 4 * c + q) then (if y36.1 = k (14 + 4 * c + q) then (some (1, y36.2.1, (y36.2.2.1), (y36.2.2.2.1), y36.2.2.2.2.1, y36.2.2.2.2.2, g, upd k (14 + 4 * c + q) (-1))) else (some (0, y36.2.1, (y36.2.2.1), (y36.2.2.2.1), y36.2.2.2.2.1, y36.2.2.2.2.2, g, upd k (14 + 4 * c + q) (-1)))) else (if y36.1 = (-1000002 : Int32) then (some (1, y36.2.1, (y36.2.2.1), (y36.2.2.2.1), y36.2.2.2.2.1, y36.2.2.2.2.2, g, upd k (14 + 4 * c + q) (-1))) else (some (0, y36.2.1, (y36.2.2.1), (y36.2.2.2.1), y36.2.2.2.2.1, y36.2.2.2.2.2, g, upd k (14 + 4 * c + q) (-1))))) else none)) vR vS := by
  have hC : LayEq (cfV vB vA) s := cfV_lay h.1
  have hl1 := liv_stop hl hp4 q c hq hc (-1)
  have hp1 : upd s (16 + 4 * c + q) (-1) 1 = nI p := by rw [pk_un (by omega)]; exact hp
  have ek : k (14 + 4 * c + q) = s (16 + 4 * c + q) := by
    obtain ⟨-, x1, x2⟩ := hl.2.2.2 q hq
    rcases (show c = 0 ∨ c = 1 by omega) with rfl | rfl
    · exact x1
    · exact x2
  rcases unstop_c hC h.2.1 hp hp4 q c hq hc with ⟨b1, b0, b2⟩ | ⟨b1, b2⟩
  · have eu : upd k (14 + 4 * c + q) (-1) = k := by
      funext j
      simp only [upd_e]
      split
      · rename_i e; rw [e, ek, b0]
      · rfl
    rw [eu]
    have ez : ∀ {α : Type} (A B : α), (if 0 ≤ k (14 + 4 * c + q) then A else B) = B := fun A B => if_neg (by rw [ek]; exact Int32.not_le.mpr b1)
    simp only [ez]
    exact ca_fin (x_unstop_e h pv vB _ _ _ b2) ⟨p, hp, hp4, hl⟩
  · have ez : ∀ {α : Type} (A B : α), (if 0 ≤ k (14 + 4 * c + q) then A else B) = A := fun A B => if_pos (by rw [ek]; exact Int32.not_lt.mp b1)
    simp only [ez]
    rw [ek]
    exact ca_fin (x_unstop h pv vB _ _ _ _ b2) ⟨p, hp1, hp4, hl1⟩
theorem drop_ac {q : Nat} (h : StC s vX n vA vR vS) (pv : Nat → BX0) (vB : BX0) (hp : s 1 = nI (q + 1)) (hp4 : q + 1 ≤ 4) (hl : Liv s g k (q + 1)) (r : Nat) (hr : r < q + 1) : AcOk (fL_acts_696 FU vX n pv vA vB g k (nI r) (nI r)) vR vS := by
  have hC : LayEq (cfV vB vA) s := cfV_lay h.1
  obtain ⟨k', r1, r2, r3⟩ := drK_v k (3 - r) r (by omega)
  obtain ⟨m, hm⟩ := FU_ex (3 - r + 1) (by omega)
  rw [hm, ← Nat.add_assoc, r3]
  obtain ⟨s1, q1, q2, q3, q4, q5⟩ := drop_c24 hC h.2.1 hp hp4 r hr
  show AcOk (fL_acts_696_b (fL_acts_696 m) vX n pv vA vB g k' (nI r) (nI 3)) vR vS
  have a1 : (3 : Int32) ≤ nI 3 := show nI 3 ≤ nI 3 from lec (Nat.le_refl _) (by omega)
  unfold fL_acts_696_b
  rw [if_pos a1, elet_eq, cl1, hl.2.1, hp, nI_pred, pk_us]
  refine ca_fin (x_drop h pv vB _ _ _ q1) ⟨q, q3, by omega, ?_⟩
  refine ⟨?_, ?_, fun j hj => ?_, fun j hj => ?_⟩
  · rw [pk_un (by omega), q2]; exact hl.1
  · rw [pk_us, q3]
  · rw [(q4 j hj).1, (q4 j hj).2, (r1 j (by omega)).1, (r1 j (by omega)).2]
    by_cases e : j ≤ r
    · rw [if_pos e, if_pos e, if_pos e, if_pos e]; exact hl.2.2.1 j (by omega)
    · rw [if_neg e, if_neg e, if_neg e, if_neg e]; exact hl.2.2.1 (j + 1) (by omega)
  · rw [(q5 j hj).1, (q5 j hj).2.1, (q5 j hj).2.2, (r2 j (by omega)).1, (r2 j (by omega)).2.1, (r2 j (by omega)).2.2]
    by_cases e : j < r
    · rw [if_pos e, if_pos e, if_pos e, if_pos e, if_pos e, if_pos e]; exact hl.2.2.2 j (by omega)
    · rw [if_neg e, if_neg e, if_neg e, if_neg e, if_neg e, if_neg e]; exact hl.2.2.2 (j + 1) (by omega)
theorem loads_b : ∀ m : Nat, m < 199 → -99 ≤ ((nI m - 99)).toInt ∧ ((nI m - 99)).toInt ≤ 99 ∧ -99 ≤ ((nI m - 99) / 5).toInt ∧ ((nI m - 99) / 5).toInt ≤ 99 := by decide +kernel
theorem rest_ac (h : StC s vX n vA vR vS) (pv : Nat → BX0) (vB : BX0) (hp : s 1 = nI p) (hp4 : p ≤ 4) (hl : Liv s g k p) (a w : Nat) (ha : a < 10000000) (hw : w < 24) : AcOk (fL_acts_123 vX n pv vA vB g k (nI a) (nI w) (nI p)) vR vS := by
  have hC : LayEq (cfV vB vA) s := cfV_lay h.1
  obtain ⟨W, p', g1, g2, g3, g4, g5, g6, g7, g8⟩ := id h.2.1
  have lit : ∀ {A : Prop}, A → A := fun q => q
  unfold fL_acts_123
  by_cases w4 : w < 4
  · rw [if_neg (show ¬ (4 : Int32) ≤ nI w from show ¬ nI 4 ≤ nI w from nlec w4 (by omega)), nI_1, if_neg (nI_ne0 (by omega) (by omega)), elet_eq, pk_rem (by omega) (by omega) (by omega)]
    have hq := Nat.mod_lt a (show 0 < p + 1 by omega)
    have e5 : (5 : Int32) + nI (a % (p + 1)) = nI (5 + a % (p + 1)) := nI_add 5 _
    have e9 : (1 : Int32) + (nI a / (5 : Int32) - nI a / (5 : Int32) / (9 : Int32) * (9 : Int32)) = nI (1 + a / 5 % 9) := by
      rw [show nI a / (5 : Int32) = nI (a / 5) from pk_div (d := 5) (by omega) (by omega) (by omega), show nI (a / 5) - nI (a / 5) / (9 : Int32) * (9 : Int32) = nI (a / 5 % 9) from pk_rem (d := 9) (by omega) (by omega) (by omega)]
      exact nI_add 1 _
    have e45 : nI a / (45 : Int32) = nI (a / 45) := pk_div (d := 45) (by omega) (by omega) (by omega)
    have h9 := Nat.mod_lt (a / 5) (show 0 < 9 by omega)
    rw [if_pos (inB_nI (by omega) (by omega)), e5, if_pos (inB_nI (by omega) (by omega)), elet_eq, if_pos (inB_nI (by omega) (by omega)), elet_eq, e9, e45, nI_clamp (show a % (p + 1) < 2 ^ 31 by omega), nI_clamp (show 5 + a % (p + 1) < 2 ^ 31 by omega)]
    split
    · exact spring_ac h pv vB hp hp4 hl (a % (p + 1)) (1 + a / 5 % 9) (a / 45) 51 (by omega) (by omega) (by omega) (by omega) (by omega) (by omega)
    · exact spring_ac h pv vB hp hp4 hl (a % (p + 1)) (1 + a / 5 % 9) (a / 45) 25 (by omega) (by omega) (by omega) (by omega) (by omega) (by omega)
  · rw [if_pos (show (4 : Int32) ≤ nI w from show nI 4 ≤ nI w from lec (by omega) (by omega))]
    by_cases w5 : w = 4
    · rw [if_pos (show nI w = (4 : Int32) by rw [w5]; rfl), elet_eq]
      have e90 : (10 : Int32) + (nI a - nI a / (90 : Int32) * (90 : Int32)) = nI (10 + a % 90) := by
        rw [show nI a - nI a / (90 : Int32) * (90 : Int32) = nI (a % 90) from pk_rem (d := 90) (by omega) (by omega) (by omega)]
        exact nI_add 10 _
      have h9 := Nat.mod_lt a (show 0 < 90 by omega)
      obtain ⟨m, hm⟩ := FU_ex (p + 1) (by omega)
      rw [e90, hm, ← Nat.add_assoc]
      exact width_ac h pv vB hp hp4 hl (10 + a % 90) (by omega) (by omega) p 0 (by omega) 1 m (Or.inr ⟨rfl, Iff.rfl⟩)
    · rw [if_neg (show ¬ nI w = (4 : Int32) from fun e => w5 ((nI_eq (b := 4) (by omega) (by omega)).mp e))]
      by_cases p0 : p = 0
      · subst p0
        rw [if_pos (show nI 0 = (0 : Int32) from rfl)]
        refine ca_next (x_load_e h pv vB 0 0 _ (load_er hC hp 0 (Nat.le_refl _) (by omega) 0)) _ _ (fun y1 h1 => ?_)
        refine ca_next (x_stop_e h1 _ _ 0 0 0 _ (stop_er (cfV_lay h1.1) hp 0 (Nat.le_refl _) (by omega) 0 0)) _ _ (fun y2 h2 => ?_)
        refine ca_next (x_unstop_e h2 _ _ 0 0 _ (unstop_er (cfV_lay h2.1) hp 0 (Nat.le_refl _) (by omega) 0)) _ _ (fun y3 h3 => ?_)
        exact ca_fin (x_drop_e h3 _ _ 0 _ (drop_er (cfV_lay h3.1) hp 0 (Nat.le_refl _) (by omega))) ⟨0, hp, hp4, hl⟩
      · have hq := Nat.mod_lt a (show 0 < p by omega)
        rw [if_neg (show ¬ nI p = (0 : Int32) from nI_ne0 (by omega) (by omega)), if_neg (nI_ne0 (by omega) (by omega)), elet_eq, pk_rem (by omega) (by omega) (by omega)]
        by_cases w11 : w < 11
        · have e10 : (10 : Int32) + nI (a % p) = nI (10 + a % p) := nI_add 10 _
          have e199 : nI a / (4 : Int32) - nI a / (4 : Int32) / (199 : Int32) * (199 : Int32) = nI (a / 4 % 199) := by
            rw [show nI a / (4 : Int32) = nI (a / 4) from pk_div (d := 4) (by omega) (by omega) (by omega)]
            exact pk_rem (d := 199) (by omega) (by omega) (by omega)
          obtain ⟨b1, b2, b3, b4⟩ := loads_b (a / 4 % 199) (Nat.mod_lt _ (by omega))
          rw [if_neg (show ¬ (11 : Int32) ≤ nI w from show ¬ nI 11 ≤ nI w from nlec w11 (by omega)), e10, if_pos (inB_nI (by omega) (by omega)), elet_eq, if_pos (inB_nI (by omega) (by omega)), elet_eq, e199, if_pos (inB_nI (by omega) (by omega)), if_pos (inB_nI (by omega) (by omega)), nI_clamp (show 10 + a % p < 2 ^ 31 by omega), pk_us]
          split
          · exact load_ac h pv vB hp hp4 hl (a % p) hq _ _ b1 b2
          · exact load_ac h pv vB hp hp4 hl (a % p) hq _ _ b3 b4
        · have e2 : nI a / (4 : Int32) - nI a / (4 : Int32) / (2 : Int32) * (2 : Int32) = nI (a / 4 % 2) := by
            rw [show nI a / (4 : Int32) = nI (a / 4) from pk_div (d := 4) (by omega) (by omega) (by omega)]
            exact pk_rem (d := 2) (by omega) (by omega) (by omega)
          have hc := Nat.mod_lt (a / 4) (show 0 < 2 by omega)
          have e14 : ((14 : Int32) + ((4 : Int32) * nI (a / 4 % 2))) + nI (a % p) = nI (14 + 4 * (a / 4 % 2) + a % p) := by
            rw [show (4 : Int32) * nI (a / 4 % 2) = nI (4 * (a / 4 % 2)) from pk_mul 4 _, show (14 : Int32) + nI (4 * (a / 4 % 2)) = nI (14 + 4 * (a / 4 % 2)) from nI_add 14 _, nI_add]
          have e8 : nI a / (8 : Int32) = nI (a / 8) := pk_div (d := 8) (by omega) (by omega) (by omega)
          rw [if_pos (show (11 : Int32) ≤ nI w from show nI 11 ≤ nI w from lec (by omega) (by omega)), elet_eq, elet_eq, e2, e14, e8]
          by_cases w20 : w < 20
          · rw [if_neg (show ¬ (20 : Int32) ≤ nI w from show ¬ nI 20 ≤ nI w from nlec w20 (by omega)), if_pos (inB_nI (by omega) (by omega)), elet_eq, cl0, hl.1, g1, nI_1, if_neg (nI_ne0 (by omega) (by omega)), if_pos (inB_nI (by omega) (by omega)), elet_eq, pk_rem (by omega) (by omega) (by omega), nI_clamp (show 14 + 4 * (a / 4 % 2) + a % p < 2 ^ 31 by omega)]
            have hv := Nat.mod_lt (a / 8) (show 0 < W + 1 by omega)
            have := stop_ac h pv vB hp hp4 hl (a % p) (a / 4 % 2) (a / 8 % (W + 1)) W hq hc g1 g4 (by omega)
            rw [nI_clamp (show 14 + 4 * (a / 4 % 2) + a % p < 2 ^ 31 by omega)] at this
            exact this
          · rw [if_pos (show (20 : Int32) ≤ nI w from show nI 20 ≤ nI w from lec (by omega) (by omega))]
            by_cases w23 : w < 23
            · rw [if_neg (show ¬ (23 : Int32) ≤ nI w from show ¬ nI 23 ≤ nI w from nlec w23 (by omega)), if_pos (inB_nI (by omega) (by omega)), elet_eq, if_pos (inB_nI (by omega) (by omega)), elet_eq, nI_clamp (show 14 + 4 * (a / 4 % 2) + a % p < 2 ^ 31 by omega)]
              exact unstop_ac h pv vB hp hp4 hl (a % p) (a / 4 % 2) hq hc
            · rw [if_pos (show (23 : Int32) ≤ nI w from show nI 23 ≤ nI w from lec (by omega) (by omega)), show nI (a / 8) - nI (a / 8) / (3 : Int32) * (3 : Int32) = nI (a / 8 % 3) from pk_rem (d := 3) (by omega) (by omega) (by omega)]
              split
              · obtain ⟨q, rfl⟩ : ∃ q, p = q + 1 := ⟨p - 1, by omega⟩
                exact drop_ac h pv vB hp hp4 hl (a % (q + 1)) hq
              · refine ca_next (x_load_e h pv vB 4 0 _ (load_er hC hp 4 hp4 (by omega) 0)) _ _ (fun y1 h1 => ?_)
                rw [nI_1]
                exact ca_fin (x_spring_e h1 _ _ _ 1 1 _ (spring_er (cfV_lay h1.1) hp (p + 1) (by omega) (by omega) 1 1)) ⟨p, hp, hp4, hl⟩
end AD
theorem St_acts0 : St_acts Sim24 := by
  intro vX n pv vA vB vR vS g k i hs
  obtain ⟨s, h, p, hp, hp4, hl⟩ := hs
  obtain ⟨a, ha, e1⟩ := low_v (i >>> ((5 : Int32) &&& 31)) 10000000 (by omega) (by omega)
  obtain ⟨w, hw, e2⟩ := low_v i 24 (by omega) (by omega)
  show AcOk (fL_acts vX n pv vA vB g k i) vR vS
  unfold fL_acts
  rw [show fL_low (i >>> ((5 : Int32) &&& 31)) (10000000 : Int32) = some (nI a) from e1, Option.bind_some, show fL_low i (24 : Int32) = some (nI w) from e2, Option.bind_some, elet_eq, cl1, hl.2.1, hp]
  split
  · exact plate_ac h pv vB hp hp4 hl
  · split
    · split
      · exact rest_ac h pv vB hp hp4 hl a w ha hw
      · exact plate_ac h pv vB hp hp4 hl
    · exact rest_ac h pv vB hp hp4 hl a w ha hw
