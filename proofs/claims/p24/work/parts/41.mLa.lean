/-! an array of longs, alone -/
abbrev kA2 (cc : ClassId) (a : Nat) (n : Nat) (f : Nat → Int64) : Nat × va_E := (a, .inl (cc, n, .inr (.inl f)))
def fL_low (i0 : Int32) (i1 : Int32) : Option Int32 :=
  if i1 = 0 then none else (some ((i0 &&& (2147483647 : Int32)) - (i0 &&& (2147483647 : Int32)) / i1 * i1))
set_option maxHeartbeats 8000000 in
set_option maxRecDepth 100000 in
theorem mL_low (l : Launch) (dC : Nat → ClassId) (dI : Nat → Nat → Nat) (cI cJ : ClassId) (sz : Nat) (i0 : Int32) (i1 : Int32) (y : Int32) (hf : fL_low i0 i1 = some y) : Met l yL_low wsL_low ({ frames := 0, cells := 0, slots := 0, locals := 0 }) (cPc dC dI cI cJ [.int i0, .int i1] [] sz) (va_Qi (fun r (_ : Unit) => r = y) (fun _ t => cB dC dI (va_A [] sz) [] t) (va_A [] sz)) 0 0 (va_A [] sz) := by
  refine Met.ofW (cc := cL_low) (maxL := 2) (ret := (some .int)) (by decide) rfl ?_
  intro p e s m args below meth c s₁ B hml hv
  obtain ⟨rfl, hsz, hP, hK, hD0, hN⟩ := hv
  have hx := B.exec
  have hb := B.bytes
  have hr := B.returns
  have hts := atoms_spec (ws := wsL_low) B.pre
  have hown : s.vm.findClass RL = some m.cls := findClass_of_methodNamed B.named
  have hlocks := B.notSynchronized
  subst hsz
  have hD := hD0.self (sz := s.heap.size)
  generalize hAe : va_A [] s.heap.size = A at hD hN ⊢
  have hA : ∀ q : Nat, s.heap.size ≤ q → A q := fun q h => by rw [← hAe]; exact Or.inr h
  have hP : va_P (dC, dI) vwCl [] s.heap := hP
  have hl := lv_entry ([.int i0, .int i1]) (n := 2) (Nat.le_of_ble_eq_true rfl)
  rw [lg_entry_eq]
  generalize (lg_sl ([.int i0, .int i1]) ++ List.replicate (2 - (lg_sl ([.int i0, .int i1])).length) Slot.unset).toArray = ls at hl ⊢
  have hl : lv_has ls 2 [(0, .int i0), (1, .int i1)] := hl
  have hc8 := hts (.constant RL 8 2147483647) (by decide +kernel)
  refine nameH (fun H locs hHe hLe => ?_)
  have hP : va_P (dC, dI) vwCl [] H := by rw [hHe]; exact hP
  have hS : va_S A s.heap H locs := by rw [hHe, hLe]; exact va_S.rf
  unfold fL_low at hf
  refine lv_iload_n hx hb dL_low_0 rfl (lv_at hl 0 rfl) ?_
  refine lv_ldc (v := 2147483647) hx hb hown hc8 dL_low_1 ?_
  refine lv_iand hx hb dL_low_3 ?_
  refine lv_iload_n hx hb dL_low_4 rfl (lv_at hl 1 rfl) ?_
  obtain ⟨hd1, hf⟩ := odiv hf
  refine lv_irem hx hb dL_low_5 hd1 ?_
  obtain rfl := Option.some.inj hf
  exact W.iret (v := ((i0 &&& (2147483647 : Int32)) - (i0 &&& (2147483647 : Int32)) / i1 * i1)) hx hb hr (fun t ht hW => ⟨⟨((i0 &&& (2147483647 : Int32)) - (i0 &&& (2147483647 : Int32)) / i1 * i1), (), rfl, rfl, by rw [ht]; exact hP, hD⟩, hS.F ht⟩) hS.2.2 dL_low_6
def fL_divisor_6_b (k6 : Int64 → Int64 → Option Int64) (l4 : Int64) (l6 : Int64) : Option Int64 :=
  if (lg_cmp l6 (0 : Int64)) ≤ 0 then (some l4) else (if l6 = 0 then none else (elet (l4 - l4 / l6 * l6) (fun z3 => k6 l6 z3)))
def fL_divisor_6 : Nat → Int64 → Int64 → Option Int64
  | 0 => fun _ _ => none
  | n + 1 => fL_divisor_6_b (fL_divisor_6 n)
def fL_divisor (j0 : Int64) (j2 : Int64) : Option Int64 :=
  fL_divisor_6 FU j0 j2
set_option maxHeartbeats 8000000 in
set_option maxRecDepth 100000 in
theorem mL_divisor (l : Launch) (dC : Nat → ClassId) (dI : Nat → Nat → Nat) (cI cJ : ClassId) (sz : Nat) (j0 : Int64) (j2 : Int64) (y : Int64) (hf : fL_divisor j0 j2 = some y) : Met l yL_divisor wsL_divisor ({ frames := 0, cells := 0, slots := 0, locals := 0 }) (cPc dC dI cI cJ [.long j0, .long j2] [] sz) (va_Ql (fun r (_ : Unit) => r = y) (fun _ t => cB dC dI (va_A [] sz) [] t) (va_A [] sz)) 0 0 (va_A [] sz) := by
  refine Met.ofW (cc := cL_divisor) (maxL := 10) (ret := (some .long)) (by decide) rfl ?_
  intro p e s m args below meth c s₁ B hml hv
  obtain ⟨rfl, hsz, hP, hK, hD0, hN⟩ := hv
  have hx := B.exec
  have hb := B.bytes
  have hr := B.returns
  have hts := atoms_spec (ws := wsL_divisor) B.pre
  have hown : s.vm.findClass RL = some m.cls := findClass_of_methodNamed B.named
  have hlocks := B.notSynchronized
  subst hsz
  have hD := hD0.self (sz := s.heap.size)
  generalize hAe : va_A [] s.heap.size = A at hD hN ⊢
  have hA : ∀ q : Nat, s.heap.size ≤ q → A q := fun q h => by rw [← hAe]; exact Or.inr h
  have hP : va_P (dC, dI) vwCl [] s.heap := hP
  have hl := lv_entry ([.long j0, .long j2]) (n := 10) (Nat.le_of_ble_eq_true rfl)
  rw [lg_entry_eq]
  generalize (lg_sl ([.long j0, .long j2]) ++ List.replicate (10 - (lg_sl ([.long j0, .long j2])).length) Slot.unset).toArray = ls at hl ⊢
  have hl : lv_has ls 10 [(0, .long j0), (2, .long j2)] := hl
  refine nameH (fun H locs hHe hLe => ?_)
  have hP : va_P (dC, dI) vwCl [] H := by rw [hHe]; exact hP
  have hS : va_S A s.heap H locs := by rw [hHe, hLe]; exact va_S.rf
  refine withW (fun WW hWW => ?_)
  have L6 : ∀ (n : Nat) (l4 : Int64) (l6 : Int64) (H : Heap) (locs : List Loc) (ls : Array Slot), va_P (dC, dI) vwCl [] H → va_D A [] → va_S A s.heap H locs → lv_has ls 10 [(4, .long l4), (6, .long l6)] → fL_divisor_6 n l4 l6 = some y → WW H locs 0 0 ls 6 [] := by
    intro n
    induction n with
    | zero =>
      intro l4 l6 H locs ls hP hD hS hl hf
      exact onone hf
    | succ n ih =>
      intro l4 l6 H locs ls hP hD hS hl hf
      have hf : fL_divisor_6_b (fL_divisor_6 n) l4 l6 = some y := hf
      generalize fL_divisor_6 n = k6 at hf ih
      have hk6 := ih
      clear ih
      unfold fL_divisor_6_b at hf
      refine (hWW _ _ _ _ _ _ _).2 ?_
      refine lv_lload hx hb dL_divisor_6 (lv_at hl 1 rfl) ?_
      refine lv_lconst (v := 0) hx hb dL_divisor_8 (by decide) ?_
      refine W.lcmp hx hb dL_divisor_9 ?_
      refine lv_if_le (tgt := 31) hx hb dL_divisor_10 (by decide) (fun c1 => ?_) (fun c1 => ?_)
      · have hf := oif_t c1 hf
        refine lv_lload hx hb dL_divisor_31 (lv_at hl 0 rfl) ?_
        obtain rfl := Option.some.inj hf
        exact W.lret (v := l4) hx hb hr (fun t ht hW => ⟨⟨l4, (), rfl, rfl, by rw [ht]; exact hP, hD⟩, hS.F ht⟩) hS.2.2 dL_divisor_33
      · have hf := oif_f c1 hf
        refine lv_lload hx hb dL_divisor_13 (lv_at hl 0 rfl) ?_
        refine lv_lload hx hb dL_divisor_15 (lv_at hl 1 rfl) ?_
        obtain ⟨hd2, hf⟩ := odiv hf
        refine lv_lrem hx hb dL_divisor_17 hd2 ?_
        obtain ⟨z3, ez3, hf⟩ := elet_out hf
        refine lvn_l ez3 ?_
        refine lv_lstore (lv' := [(8, .long z3), (4, .long l4), (6, .long l6)]) hx hb dL_divisor_18 hl (by decide) rfl (fun ls hl => ?_)
        refine lv_lload hx hb dL_divisor_20 (lv_at hl 2 rfl) ?_
        refine lv_lstore (lv' := [(4, .long l6), (8, .long z3), (6, .long l6)]) hx hb dL_divisor_22 hl (by decide) rfl (fun ls hl => ?_)
        refine lv_lload hx hb dL_divisor_24 (lv_at hl 1 rfl) ?_
        refine lv_lstore (lv' := [(6, .long z3), (4, .long l6), (8, .long z3)]) hx hb dL_divisor_26 hl (by decide) rfl (fun ls hl => ?_)
        refine lv_goto (tgt := 6) hx hb dL_divisor_28 (by decide) ?_
        exact (hWW _ _ _ _ _ _ _).1 (hk6 l6 z3 H locs ls hP hD hS (lv_sub hl [1, 0] rfl) hf)
  refine (hWW _ _ _ _ _ _ _).2 ?_
  unfold fL_divisor at hf
  refine lv_lload_n hx hb dL_divisor_0 rfl (lv_at hl 0 rfl) ?_
  refine lv_lstore (lv' := [(4, .long j0), (0, .long j0), (2, .long j2)]) hx hb dL_divisor_1 hl (by decide) rfl (fun ls hl => ?_)
  refine lv_lload_n hx hb dL_divisor_3 rfl (lv_at hl 2 rfl) ?_
  refine lv_lstore (lv' := [(6, .long j2), (4, .long j0), (0, .long j0), (2, .long j2)]) hx hb dL_divisor_4 hl (by decide) rfl (fun ls hl => ?_)
  exact (hWW _ _ _ _ _ _ _).1 (L6 FU j0 j2 H locs ls hP hD hS (lv_sub hl [1, 0] rfl) hf)
def fL_place (vg : (Nat → Int32)) (vu : (Nat → Int64)) (j2 : Int64) (i4 : Int32) : Option Int64 :=
  if 0 ≤ i4 then (if i4 = (vg ((1 : Int32)).toNatClampNeg) then (some (((vg ((0 : Int32)).toNatClampNeg)).toInt64 * j2)) else (if inB i4 4 = true then (some (vu (i4).toNatClampNeg)) else none)) else (some 0)
set_option maxHeartbeats 8000000 in
set_option maxRecDepth 100000 in
theorem mL_place (l : Launch) (dC : Nat → ClassId) (dI : Nat → Nat → Nat) (cI cJ : ClassId) (ag : Nat) (au : Nat) (sz : Nat) (vg : (Nat → Int32)) (vu : (Nat → Int64)) (j2 : Int64) (i4 : Int32) (y : Int64) (hf : fL_place vg vu j2 i4 = some y) : Met l yL_place wsL_place ({ frames := 0, cells := 0, slots := 0, locals := 0 }) (cPc dC dI cI cJ [.ref ag, .ref au, .long j2, .int i4] [kA1 cI ag 2 vg, kA2 cJ au 4 vu] sz) (va_Ql (fun r (_ : Unit) => r = y) (fun _ t => cB dC dI (va_A [kA1 cI ag 2 vg, kA2 cJ au 4 vu] sz) [kA1 cI ag 2 vg, kA2 cJ au 4 vu] t) (va_A [kA1 cI ag 2 vg, kA2 cJ au 4 vu] sz)) 0 0 (va_A [kA1 cI ag 2 vg, kA2 cJ au 4 vu] sz) := by
  refine Met.ofW (cc := cL_place) (maxL := 5) (ret := (some .long)) (by decide) rfl ?_
  intro p e s m args below meth c s₁ B hml hv
  obtain ⟨rfl, hsz, hP, hK, hD0, hN⟩ := hv
  have hx := B.exec
  have hb := B.bytes
  have hr := B.returns
  have hts := atoms_spec (ws := wsL_place) B.pre
  have hown : s.vm.findClass RL = some m.cls := findClass_of_methodNamed B.named
  have hlocks := B.notSynchronized
  subst hsz
  have hD := hD0.self (sz := s.heap.size)
  generalize hAe : va_A [kA1 cI ag 2 vg, kA2 cJ au 4 vu] s.heap.size = A at hD hN ⊢
  have hA : ∀ q : Nat, s.heap.size ≤ q → A q := fun q h => by rw [← hAe]; exact Or.inr h
  have hP : va_P (dC, dI) vwCl [kA1 cI ag 2 vg, kA2 cJ au 4 vu] s.heap := hP
  have hl := lv_entry ([.ref ag, .ref au, .long j2, .int i4]) (n := 5) (Nat.le_of_ble_eq_true rfl)
  rw [lg_entry_eq]
  generalize (lg_sl ([.ref ag, .ref au, .long j2, .int i4]) ++ List.replicate (5 - (lg_sl ([.ref ag, .ref au, .long j2, .int i4])).length) Slot.unset).toArray = ls at hl ⊢
  have hl : lv_has ls 5 [(0, .ref ag), (1, .ref au), (2, .long j2), (4, .int i4)] := hl
  refine nameH (fun H locs hHe hLe => ?_)
  have hP : va_P (dC, dI) vwCl [kA1 cI ag 2 vg, kA2 cJ au 4 vu] H := by rw [hHe]; exact hP
  have hS : va_S A s.heap H locs := by rw [hHe, hLe]; exact va_S.rf
  unfold fL_place at hf
  refine lv_iload hx hb dL_place_0 (lv_at hl 3 rfl) ?_
  refine lv_if_ge (tgt := 9) hx hb dL_place_2 (by decide) (fun c1 => ?_) (fun c1 => ?_)
  · have hf := oif_t c1 hf
    refine lv_iload hx hb dL_place_9 (lv_at hl 3 rfl) ?_
    refine lv_aload_n hx hb dL_place_11 rfl (lv_at hl 0 rfl) ?_
    refine lv_iconst (v := 1) hx hb dL_place_12 (by decide) ?_
    refine va_iald hx hb hK hP 0 0 rfl rfl (vpc rfl) dL_place_13 ?_
    refine lv_icmp_ne (tgt := 26) hx hb dL_place_14 (by decide) (fun c2 => ?_) (fun c2 => ?_)
    · have hf := oif_f c2 hf
      refine lv_aload_n hx hb dL_place_26 rfl (lv_at hl 1 rfl) ?_
      refine lv_iload hx hb dL_place_27 (lv_at hl 3 rfl) ?_
      obtain ⟨hi3, hf⟩ := oinb rfl hf
      refine va_lald hx hb hK hP 1 1 rfl rfl hi3 dL_place_29 ?_
      obtain rfl := Option.some.inj hf
      exact W.lret (v := (vu (i4).toNatClampNeg)) hx hb hr (fun t ht hW => ⟨⟨(vu (i4).toNatClampNeg), (), rfl, rfl, by rw [ht]; exact hP, hD⟩, hS.F ht⟩) hS.2.2 dL_place_30
    · have hf := oif_t c2 hf
      refine lv_aload_n hx hb dL_place_17 rfl (lv_at hl 0 rfl) ?_
      refine lv_iconst (v := 0) hx hb dL_place_18 (by decide) ?_
      refine va_iald hx hb hK hP 0 0 rfl rfl (vpc rfl) dL_place_19 ?_
      refine lv_i2l (v := ((vg ((0 : Int32)).toNatClampNeg)).toInt64) hx hb dL_place_20 rfl ?_
      refine lv_lload_n hx hb dL_place_21 rfl (lv_at hl 2 rfl) ?_
      refine lv_lmul hx hb dL_place_22 ?_
      refine lv_goto (tgt := 30) hx hb dL_place_23 (by decide) ?_
      obtain rfl := Option.some.inj hf
      exact W.lret (v := (((vg ((0 : Int32)).toNatClampNeg)).toInt64 * j2)) hx hb hr (fun t ht hW => ⟨⟨(((vg ((0 : Int32)).toNatClampNeg)).toInt64 * j2), (), rfl, rfl, by rw [ht]; exact hP, hD⟩, hS.F ht⟩) hS.2.2 dL_place_30
  · have hf := oif_f c1 hf
    refine lv_lconst (v := 0) hx hb dL_place_5 (by decide) ?_
    refine lv_goto (tgt := 30) hx hb dL_place_6 (by decide) ?_
    obtain rfl := Option.some.inj hf
    exact W.lret (v := 0) hx hb hr (fun t ht hW => ⟨⟨0, (), rfl, rfl, by rw [ht]; exact hP, hD⟩, hS.F ht⟩) hS.2.2 dL_place_30
def fL_pull (vg : (Nat → Int32)) (vk : (Nat → Int32)) (vu : (Nat → Int64)) (j3 : Int64) (i5 : Int32) : Option Int64 :=
  if inB i5 23 = true then ((fL_place vg vu j3 i5).bind (fun y2 => (fL_place vg vu j3 (i5 - (1 : Int32))).bind (fun y3 => if inB ((5 : Int32) + i5) 23 = true then (some (((vk (i5).toNatClampNeg)).toInt64 * ((y2 - y3) - (((vk (((5 : Int32) + i5)).toNatClampNeg)).toInt64 * j3)))) else none))) else none
set_option maxHeartbeats 8000000 in
set_option maxRecDepth 100000 in
theorem mL_pull (l : Launch) (dC : Nat → ClassId) (dI : Nat → Nat → Nat) (cI cJ : ClassId) (ag : Nat) (ak : Nat) (au : Nat) (sz : Nat) (vg : (Nat → Int32)) (vk : (Nat → Int32)) (vu : (Nat → Int64)) (j3 : Int64) (i5 : Int32) (y : Int64) (hf : fL_pull vg vk vu j3 i5 = some y) : Met l yL_pull wsL_pull ({ frames := 1, cells := 0, slots := 0, locals := 24 }) (cPc dC dI cI cJ [.ref ag, .ref ak, .ref au, .long j3, .int i5] [kA1 cI ag 2 vg, kA1 cI ak 23 vk, kA2 cJ au 4 vu] sz) (va_Ql (fun r (_ : Unit) => r = y) (fun _ t => cB dC dI (va_A [kA1 cI ag 2 vg, kA1 cI ak 23 vk, kA2 cJ au 4 vu] sz) [kA1 cI ag 2 vg, kA1 cI ak 23 vk, kA2 cJ au 4 vu] t) (va_A [kA1 cI ag 2 vg, kA1 cI ak 23 vk, kA2 cJ au 4 vu] sz)) 0 0 (va_A [kA1 cI ag 2 vg, kA1 cI ak 23 vk, kA2 cJ au 4 vu] sz) := by
  refine Met.ofW (cc := cL_pull) (maxL := 6) (ret := (some .long)) (by decide) rfl ?_
  intro p e s m args below meth c s₁ B hml hv
  obtain ⟨rfl, hsz, hP, hK, hD0, hN⟩ := hv
  have hx := B.exec
  have hb := B.bytes
  have hr := B.returns
  have hts := atoms_spec (ws := wsL_pull) B.pre
  have hown : s.vm.findClass RL = some m.cls := findClass_of_methodNamed B.named
  have hlocks := B.notSynchronized
  subst hsz
  have hD := hD0.self (sz := s.heap.size)
  generalize hAe : va_A [kA1 cI ag 2 vg, kA1 cI ak 23 vk, kA2 cJ au 4 vu] s.heap.size = A at hD hN ⊢
  have hA : ∀ q : Nat, s.heap.size ≤ q → A q := fun q h => by rw [← hAe]; exact Or.inr h
  have hP : va_P (dC, dI) vwCl [kA1 cI ag 2 vg, kA1 cI ak 23 vk, kA2 cJ au 4 vu] s.heap := hP
  have hl := lv_entry ([.ref ag, .ref ak, .ref au, .long j3, .int i5]) (n := 6) (Nat.le_of_ble_eq_true rfl)
  rw [lg_entry_eq]
  generalize (lg_sl ([.ref ag, .ref ak, .ref au, .long j3, .int i5]) ++ List.replicate (6 - (lg_sl ([.ref ag, .ref ak, .ref au, .long j3, .int i5])).length) Slot.unset).toArray = ls at hl ⊢
  have hl : lv_has ls 6 [(0, .ref ag), (1, .ref ak), (2, .ref au), (3, .long j3), (5, .int i5)] := hl
  refine nameH (fun H locs hHe hLe => ?_)
  have hP : va_P (dC, dI) vwCl [kA1 cI ag 2 vg, kA1 cI ak 23 vk, kA2 cJ au 4 vu] H := by rw [hHe]; exact hP
  have hS : va_S A s.heap H locs := by rw [hHe, hLe]; exact va_S.rf
  unfold fL_pull at hf
  refine lv_aload_n hx hb dL_pull_0 rfl (lv_at hl 1 rfl) ?_
  refine lv_iload hx hb dL_pull_1 (lv_at hl 4 rfl) ?_
  obtain ⟨hi1, hf⟩ := oinb rfl hf
  refine va_iald hx hb hK hP 1 0 rfl rfl hi1 dL_pull_3 ?_
  refine lv_i2l (v := ((vk (i5).toNatClampNeg)).toInt64) hx hb dL_pull_4 rfl ?_
  refine lv_aload_n hx hb dL_pull_5 rfl (lv_at hl 0 rfl) ?_
  refine lv_aload_n hx hb dL_pull_6 rfl (lv_at hl 2 rfl) ?_
  refine lv_lload_n hx hb dL_pull_7 rfl (lv_at hl 3 rfl) ?_
  refine lv_iload hx hb dL_pull_8 (lv_at hl 4 rfl) ?_
  obtain ⟨y2, hy2, hf⟩ := obind hf
  refine cg_l (ws := [kA1 cI ag 2 vg, kA1 cI ak 23 vk, kA2 cJ au 4 vu]) (wc := [kA1 cI ag 2 vg, kA2 cJ au 4 vu]) (wr := [kA1 cI ak 23 vk]) (w1 := [kA1 cI ag 2 vg, kA2 cJ au 4 vu]) (wo := [kA1 cI ag 2 vg, kA1 cI ak 23 vk, kA2 cJ au 4 vu]) hP hD hS hA (va_runS (As := [.ref ag, .ref au, .long j3, .int i5]) (rest := [.long (((vk (i5).toNatClampNeg)).toInt64)]) ⟨hx, hb, hml, hown, hts⟩ (mL_place l dC dI cI cJ ag au H.size vg vu j3 i5 y2 hy2) (va_cwS 4 hts gL_pull_L_place rfl rfl rfl (by decide +kernel) ⟨Nat.le_of_ble_eq_true rfl, Nat.le_of_ble_eq_true rfl⟩) ⟨cFB, cPre hK hN hS (va_free (wc := [kA1 cI ag 2 vg, kA2 cJ au 4 vu]) hD hS hA [0, 2] rfl) (hP.sub [0, 2] rfl) (hD.sub [0, 2] rfl rfl)⟩ rfl rfl hl.1 rfl (lv_room (Nat.le_of_ble_eq_true rfl)) dL_pull_10 ⟨Nat.le_of_ble_eq_true rfl, Nat.le_of_ble_eq_true rfl⟩) [0, 2] [1] [1, 0, 2] rfl rfl rfl (by decide +kernel) rfl rfl (fun H locs hP hD hS => ?_)
  refine lv_aload_n hx hb dL_pull_13 rfl (lv_at hl 0 rfl) ?_
  refine lv_aload_n hx hb dL_pull_14 rfl (lv_at hl 2 rfl) ?_
  refine lv_lload_n hx hb dL_pull_15 rfl (lv_at hl 3 rfl) ?_
  refine lv_iload hx hb dL_pull_16 (lv_at hl 4 rfl) ?_
  refine lv_iconst (v := 1) hx hb dL_pull_18 (by decide) ?_
  refine lv_isub hx hb dL_pull_19 ?_
  obtain ⟨y3, hy3, hf⟩ := obind hf
  refine cg_l (ws := [kA1 cI ag 2 vg, kA1 cI ak 23 vk, kA2 cJ au 4 vu]) (wc := [kA1 cI ag 2 vg, kA2 cJ au 4 vu]) (wr := [kA1 cI ak 23 vk]) (w1 := [kA1 cI ag 2 vg, kA2 cJ au 4 vu]) (wo := [kA1 cI ag 2 vg, kA1 cI ak 23 vk, kA2 cJ au 4 vu]) hP hD hS hA (va_runS (As := [.ref ag, .ref au, .long j3, .int (i5 - (1 : Int32))]) (rest := [.long y2, .long (((vk (i5).toNatClampNeg)).toInt64)]) ⟨hx, hb, hml, hown, hts⟩ (mL_place l dC dI cI cJ ag au H.size vg vu j3 (i5 - (1 : Int32)) y3 hy3) (va_cwS 4 hts gL_pull_L_place rfl rfl rfl (by decide +kernel) ⟨Nat.le_of_ble_eq_true rfl, Nat.le_of_ble_eq_true rfl⟩) ⟨cFB, cPre hK hN hS (va_free (wc := [kA1 cI ag 2 vg, kA2 cJ au 4 vu]) hD hS hA [0, 2] rfl) (hP.sub [0, 2] rfl) (hD.sub [0, 2] rfl rfl)⟩ rfl rfl hl.1 rfl (lv_room (Nat.le_of_ble_eq_true rfl)) dL_pull_20 ⟨Nat.le_of_ble_eq_true rfl, Nat.le_of_ble_eq_true rfl⟩) [0, 2] [1] [1, 0, 2] rfl rfl rfl (by decide +kernel) rfl rfl (fun H locs hP hD hS => ?_)
  refine lv_lsub hx hb dL_pull_23 ?_
  refine lv_aload_n hx hb dL_pull_24 rfl (lv_at hl 1 rfl) ?_
  refine lv_iconst (v := 5) hx hb dL_pull_25 (by decide) ?_
  refine lv_iload hx hb dL_pull_26 (lv_at hl 4 rfl) ?_
  refine lv_iadd hx hb dL_pull_28 ?_
  obtain ⟨hi4, hf⟩ := oinb rfl hf
  refine va_iald hx hb hK hP 1 0 rfl rfl hi4 dL_pull_29 ?_
  refine lv_i2l (v := ((vk (((5 : Int32) + i5)).toNatClampNeg)).toInt64) hx hb dL_pull_30 rfl ?_
  refine lv_lload_n hx hb dL_pull_31 rfl (lv_at hl 3 rfl) ?_
  refine lv_lmul hx hb dL_pull_32 ?_
  refine lv_lsub hx hb dL_pull_33 ?_
  refine lv_lmul hx hb dL_pull_34 ?_
  obtain rfl := Option.some.inj hf
  exact W.lret (v := (((vk (i5).toNatClampNeg)).toInt64 * ((y2 - y3) - (((vk (((5 : Int32) + i5)).toNatClampNeg)).toInt64 * j3)))) hx hb hr (fun t ht hW => ⟨⟨(((vk (i5).toNatClampNeg)).toInt64 * ((y2 - y3) - (((vk (((5 : Int32) + i5)).toNatClampNeg)).toInt64 * j3))), (), rfl, rfl, by rw [ht]; exact hP, hD⟩, hS.F ht⟩) hS.2.2 dL_pull_35
def fL_force (vg : (Nat → Int32)) (vk : (Nat → Int32)) (vu : (Nat → Int64)) (j3 : Int64) (i5 : Int32) : Option Int64 :=
  (fL_pull vg vk vu j3 (i5 + (1 : Int32))).bind (fun y1 => (fL_pull vg vk vu j3 i5).bind (fun y2 => if inB ((10 : Int32) + i5) 23 = true then (some ((y1 - y2) + (((vk (((10 : Int32) + i5)).toNatClampNeg)).toInt64 * j3))) else none))
set_option maxHeartbeats 8000000 in
set_option maxRecDepth 100000 in
theorem mL_force (l : Launch) (dC : Nat → ClassId) (dI : Nat → Nat → Nat) (cI cJ : ClassId) (ag : Nat) (ak : Nat) (au : Nat) (sz : Nat) (vg : (Nat → Int32)) (vk : (Nat → Int32)) (vu : (Nat → Int64)) (j3 : Int64) (i5 : Int32) (y : Int64) (hf : fL_force vg vk vu j3 i5 = some y) : Met l yL_force wsL_force ({ frames := 2, cells := 0, slots := 0, locals := 49 }) (cPc dC dI cI cJ [.ref ag, .ref ak, .ref au, .long j3, .int i5] [kA1 cI ag 2 vg, kA1 cI ak 23 vk, kA2 cJ au 4 vu] sz) (va_Ql (fun r (_ : Unit) => r = y) (fun _ t => cB dC dI (va_A [kA1 cI ag 2 vg, kA1 cI ak 23 vk, kA2 cJ au 4 vu] sz) [kA1 cI ag 2 vg, kA1 cI ak 23 vk, kA2 cJ au 4 vu] t) (va_A [kA1 cI ag 2 vg, kA1 cI ak 23 vk, kA2 cJ au 4 vu] sz)) 0 0 (va_A [kA1 cI ag 2 vg, kA1 cI ak 23 vk, kA2 cJ au 4 vu] sz) := by
  refine Met.ofW (cc := cL_force) (maxL := 6) (ret := (some .long)) (by decide) rfl ?_
  intro p e s m args below meth c s₁ B hml hv
  obtain ⟨rfl, hsz, hP, hK, hD0, hN⟩ := hv
  have hx := B.exec
  have hb := B.bytes
  have hr := B.returns
  have hts := atoms_spec (ws := wsL_force) B.pre
  have hown : s.vm.findClass RL = some m.cls := findClass_of_methodNamed B.named
  have hlocks := B.notSynchronized
  subst hsz
  have hD := hD0.self (sz := s.heap.size)
  generalize hAe : va_A [kA1 cI ag 2 vg, kA1 cI ak 23 vk, kA2 cJ au 4 vu] s.heap.size = A at hD hN ⊢
  have hA : ∀ q : Nat, s.heap.size ≤ q → A q := fun q h => by rw [← hAe]; exact Or.inr h
  have hP : va_P (dC, dI) vwCl [kA1 cI ag 2 vg, kA1 cI ak 23 vk, kA2 cJ au 4 vu] s.heap := hP
  have hl := lv_entry ([.ref ag, .ref ak, .ref au, .long j3, .int i5]) (n := 6) (Nat.le_of_ble_eq_true rfl)
  rw [lg_entry_eq]
  generalize (lg_sl ([.ref ag, .ref ak, .ref au, .long j3, .int i5]) ++ List.replicate (6 - (lg_sl ([.ref ag, .ref ak, .ref au, .long j3, .int i5])).length) Slot.unset).toArray = ls at hl ⊢
  have hl : lv_has ls 6 [(0, .ref ag), (1, .ref ak), (2, .ref au), (3, .long j3), (5, .int i5)] := hl
  refine nameH (fun H locs hHe hLe => ?_)
  have hP : va_P (dC, dI) vwCl [kA1 cI ag 2 vg, kA1 cI ak 23 vk, kA2 cJ au 4 vu] H := by rw [hHe]; exact hP
  have hS : va_S A s.heap H locs := by rw [hHe, hLe]; exact va_S.rf
  unfold fL_force at hf
  refine lv_aload_n hx hb dL_force_0 rfl (lv_at hl 0 rfl) ?_
  refine lv_aload_n hx hb dL_force_1 rfl (lv_at hl 1 rfl) ?_
  refine lv_aload_n hx hb dL_force_2 rfl (lv_at hl 2 rfl) ?_
  refine lv_lload_n hx hb dL_force_3 rfl (lv_at hl 3 rfl) ?_
  refine lv_iload hx hb dL_force_4 (lv_at hl 4 rfl) ?_
  refine lv_iconst (v := 1) hx hb dL_force_6 (by decide) ?_
  refine lv_iadd hx hb dL_force_7 ?_
  obtain ⟨y1, hy1, hf⟩ := obind hf
  refine cg_l (ws := [kA1 cI ag 2 vg, kA1 cI ak 23 vk, kA2 cJ au 4 vu]) (wc := [kA1 cI ag 2 vg, kA1 cI ak 23 vk, kA2 cJ au 4 vu]) (wr := []) (w1 := [kA1 cI ag 2 vg, kA1 cI ak 23 vk, kA2 cJ au 4 vu]) (wo := [kA1 cI ag 2 vg, kA1 cI ak 23 vk, kA2 cJ au 4 vu]) hP hD hS hA (va_runS (As := [.ref ag, .ref ak, .ref au, .long j3, .int (i5 + (1 : Int32))]) (rest := []) ⟨hx, hb, hml, hown, hts⟩ (mL_pull l dC dI cI cJ ag ak au H.size vg vk vu j3 (i5 + (1 : Int32)) y1 hy1) (va_cwS 5 hts gL_force_L_pull rfl rfl rfl (by decide +kernel) ⟨Nat.le_of_ble_eq_true rfl, Nat.le_of_ble_eq_true rfl⟩) ⟨cFB, cPre hK hN hS (va_free (wc := [kA1 cI ag 2 vg, kA1 cI ak 23 vk, kA2 cJ au 4 vu]) hD hS hA [0, 1, 2] rfl) (hP.sub [0, 1, 2] rfl) (hD.sub [0, 1, 2] rfl rfl)⟩ rfl rfl hl.1 rfl (lv_room (Nat.le_of_ble_eq_true rfl)) dL_force_8 ⟨Nat.le_of_ble_eq_true rfl, Nat.le_of_ble_eq_true rfl⟩) [0, 1, 2] [] [0, 1, 2] rfl rfl rfl (by decide +kernel) rfl rfl (fun H locs hP hD hS => ?_)
  refine lv_aload_n hx hb dL_force_11 rfl (lv_at hl 0 rfl) ?_
  refine lv_aload_n hx hb dL_force_12 rfl (lv_at hl 1 rfl) ?_
  refine lv_aload_n hx hb dL_force_13 rfl (lv_at hl 2 rfl) ?_
  refine lv_lload_n hx hb dL_force_14 rfl (lv_at hl 3 rfl) ?_
  refine lv_iload hx hb dL_force_15 (lv_at hl 4 rfl) ?_
  obtain ⟨y2, hy2, hf⟩ := obind hf
  refine cg_l (ws := [kA1 cI ag 2 vg, kA1 cI ak 23 vk, kA2 cJ au 4 vu]) (wc := [kA1 cI ag 2 vg, kA1 cI ak 23 vk, kA2 cJ au 4 vu]) (wr := []) (w1 := [kA1 cI ag 2 vg, kA1 cI ak 23 vk, kA2 cJ au 4 vu]) (wo := [kA1 cI ag 2 vg, kA1 cI ak 23 vk, kA2 cJ au 4 vu]) hP hD hS hA (va_runS (As := [.ref ag, .ref ak, .ref au, .long j3, .int i5]) (rest := [.long y1]) ⟨hx, hb, hml, hown, hts⟩ (mL_pull l dC dI cI cJ ag ak au H.size vg vk vu j3 i5 y2 hy2) (va_cwS 5 hts gL_force_L_pull rfl rfl rfl (by decide +kernel) ⟨Nat.le_of_ble_eq_true rfl, Nat.le_of_ble_eq_true rfl⟩) ⟨cFB, cPre hK hN hS (va_free (wc := [kA1 cI ag 2 vg, kA1 cI ak 23 vk, kA2 cJ au 4 vu]) hD hS hA [0, 1, 2] rfl) (hP.sub [0, 1, 2] rfl) (hD.sub [0, 1, 2] rfl rfl)⟩ rfl rfl hl.1 rfl (lv_room (Nat.le_of_ble_eq_true rfl)) dL_force_17 ⟨Nat.le_of_ble_eq_true rfl, Nat.le_of_ble_eq_true rfl⟩) [0, 1, 2] [] [0, 1, 2] rfl rfl rfl (by decide +kernel) rfl rfl (fun H locs hP hD hS => ?_)
  refine lv_lsub hx hb dL_force_20 ?_
  refine lv_aload_n hx hb dL_force_21 rfl (lv_at hl 1 rfl) ?_
  refine lv_bipush (v := 10) hx hb dL_force_22 (by decide) ?_
  refine lv_iload hx hb dL_force_24 (lv_at hl 4 rfl) ?_
  refine lv_iadd hx hb dL_force_26 ?_
  obtain ⟨hi3, hf⟩ := oinb rfl hf
  refine va_iald hx hb hK hP 1 0 rfl rfl hi3 dL_force_27 ?_
  refine lv_i2l (v := ((vk (((10 : Int32) + i5)).toNatClampNeg)).toInt64) hx hb dL_force_28 rfl ?_
  refine lv_lload_n hx hb dL_force_29 rfl (lv_at hl 3 rfl) ?_
  refine lv_lmul hx hb dL_force_30 ?_
  refine lv_ladd hx hb dL_force_31 ?_
  obtain rfl := Option.some.inj hf
  exact W.lret (v := ((y1 - y2) + (((vk (((10 : Int32) + i5)).toNatClampNeg)).toInt64 * j3))) hx hb hr (fun t ht hW => ⟨⟨((y1 - y2) + (((vk (((10 : Int32) + i5)).toNatClampNeg)).toInt64 * j3)), (), rfl, rfl, by rw [ht]; exact hP, hD⟩, hS.F ht⟩) hS.2.2 dL_force_32
def fL_least (vk : (Nat → Int32)) (i1 : Int32) : Option Int32 :=
  if inB ((14 : Int32) + i1) 23 = true then (if 0 ≤ (vk (((14 : Int32) + i1)).toNatClampNeg) then (if inB ((14 : Int32) + i1) 23 = true then (some (vk (((14 : Int32) + i1)).toNatClampNeg)) else none) else (some 0)) else none
set_option maxHeartbeats 8000000 in
set_option maxRecDepth 100000 in
theorem mL_least (l : Launch) (dC : Nat → ClassId) (dI : Nat → Nat → Nat) (cI cJ : ClassId) (ak : Nat) (sz : Nat) (vk : (Nat → Int32)) (i1 : Int32) (y : Int32) (hf : fL_least vk i1 = some y) : Met l yL_least wsL_least ({ frames := 0, cells := 0, slots := 0, locals := 0 }) (cPc dC dI cI cJ [.ref ak, .int i1] [kA1 cI ak 23 vk] sz) (va_Qi (fun r (_ : Unit) => r = y) (fun _ t => cB dC dI (va_A [kA1 cI ak 23 vk] sz) [kA1 cI ak 23 vk] t) (va_A [kA1 cI ak 23 vk] sz)) 0 0 (va_A [kA1 cI ak 23 vk] sz) := by
  refine Met.ofW (cc := cL_least) (maxL := 2) (ret := (some .int)) (by decide) rfl ?_
  intro p e s m args below meth c s₁ B hml hv
  obtain ⟨rfl, hsz, hP, hK, hD0, hN⟩ := hv
  have hx := B.exec
  have hb := B.bytes
  have hr := B.returns
  have hts := atoms_spec (ws := wsL_least) B.pre
  have hown : s.vm.findClass RL = some m.cls := findClass_of_methodNamed B.named
  have hlocks := B.notSynchronized
  subst hsz
  have hD := hD0.self (sz := s.heap.size)
  generalize hAe : va_A [kA1 cI ak 23 vk] s.heap.size = A at hD hN ⊢
  have hA : ∀ q : Nat, s.heap.size ≤ q → A q := fun q h => by rw [← hAe]; exact Or.inr h
  have hP : va_P (dC, dI) vwCl [kA1 cI ak 23 vk] s.heap := hP
  have hl := lv_entry ([.ref ak, .int i1]) (n := 2) (Nat.le_of_ble_eq_true rfl)
  rw [lg_entry_eq]
  generalize (lg_sl ([.ref ak, .int i1]) ++ List.replicate (2 - (lg_sl ([.ref ak, .int i1])).length) Slot.unset).toArray = ls at hl ⊢
  have hl : lv_has ls 2 [(0, .ref ak), (1, .int i1)] := hl
  refine nameH (fun H locs hHe hLe => ?_)
  have hP : va_P (dC, dI) vwCl [kA1 cI ak 23 vk] H := by rw [hHe]; exact hP
  have hS : va_S A s.heap H locs := by rw [hHe, hLe]; exact va_S.rf
  unfold fL_least at hf
  refine lv_aload_n hx hb dL_least_0 rfl (lv_at hl 0 rfl) ?_
  refine lv_bipush (v := 14) hx hb dL_least_1 (by decide) ?_
  refine lv_iload_n hx hb dL_least_3 rfl (lv_at hl 1 rfl) ?_
  refine lv_iadd hx hb dL_least_4 ?_
  obtain ⟨hi1, hf⟩ := oinb rfl hf
  refine va_iald hx hb hK hP 0 0 rfl rfl hi1 dL_least_5 ?_
  refine lv_if_ge (tgt := 13) hx hb dL_least_6 (by decide) (fun c2 => ?_) (fun c2 => ?_)
  · have hf := oif_t c2 hf
    refine lv_aload_n hx hb dL_least_13 rfl (lv_at hl 0 rfl) ?_
    refine lv_bipush (v := 14) hx hb dL_least_14 (by decide) ?_
    refine lv_iload_n hx hb dL_least_16 rfl (lv_at hl 1 rfl) ?_
    refine lv_iadd hx hb dL_least_17 ?_
    obtain ⟨hi3, hf⟩ := oinb rfl hf
    refine va_iald hx hb hK hP 0 0 rfl rfl hi3 dL_least_18 ?_
    obtain rfl := Option.some.inj hf
    exact W.iret (v := (vk (((14 : Int32) + i1)).toNatClampNeg)) hx hb hr (fun t ht hW => ⟨⟨(vk (((14 : Int32) + i1)).toNatClampNeg), (), rfl, rfl, by rw [ht]; exact hP, hD⟩, hS.F ht⟩) hS.2.2 dL_least_19
  · have hf := oif_f c2 hf
    refine lv_iconst (v := 0) hx hb dL_least_9 (by decide) ?_
    refine lv_goto (tgt := 19) hx hb dL_least_10 (by decide) ?_
    obtain rfl := Option.some.inj hf
    exact W.iret (v := 0) hx hb hr (fun t ht hW => ⟨⟨0, (), rfl, rfl, by rw [ht]; exact hP, hD⟩, hS.F ht⟩) hS.2.2 dL_least_19
def fL_most (vg : (Nat → Int32)) (vk : (Nat → Int32)) (i2 : Int32) : Option Int32 :=
  if inB ((18 : Int32) + i2) 23 = true then (if 0 ≤ (vk (((18 : Int32) + i2)).toNatClampNeg) then (if inB ((18 : Int32) + i2) 23 = true then (some (vk (((18 : Int32) + i2)).toNatClampNeg)) else none) else (some (vg ((0 : Int32)).toNatClampNeg))) else none
set_option maxHeartbeats 8000000 in
set_option maxRecDepth 100000 in
theorem mL_most (l : Launch) (dC : Nat → ClassId) (dI : Nat → Nat → Nat) (cI cJ : ClassId) (ag : Nat) (ak : Nat) (sz : Nat) (vg : (Nat → Int32)) (vk : (Nat → Int32)) (i2 : Int32) (y : Int32) (hf : fL_most vg vk i2 = some y) : Met l yL_most wsL_most ({ frames := 0, cells := 0, slots := 0, locals := 0 }) (cPc dC dI cI cJ [.ref ag, .ref ak, .int i2] [kA1 cI ag 2 vg, kA1 cI ak 23 vk] sz) (va_Qi (fun r (_ : Unit) => r = y) (fun _ t => cB dC dI (va_A [kA1 cI ag 2 vg, kA1 cI ak 23 vk] sz) [kA1 cI ag 2 vg, kA1 cI ak 23 vk] t) (va_A [kA1 cI ag 2 vg, kA1 cI ak 23 vk] sz)) 0 0 (va_A [kA1 cI ag 2 vg, kA1 cI ak 23 vk] sz) := by
  refine Met.ofW (cc := cL_most) (maxL := 3) (ret := (some .int)) (by decide) rfl ?_
  intro p e s m args below meth c s₁ B hml hv
  obtain ⟨rfl, hsz, hP, hK, hD0, hN⟩ := hv
  have hx := B.exec
  have hb := B.bytes
  have hr := B.returns
  have hts := atoms_spec (ws := wsL_most) B.pre
  have hown : s.vm.findClass RL = some m.cls := findClass_of_methodNamed B.named
  have hlocks := B.notSynchronized
  subst hsz
  have hD := hD0.self (sz := s.heap.size)
  generalize hAe : va_A [kA1 cI ag 2 vg, kA1 cI ak 23 vk] s.heap.size = A at hD hN ⊢
  have hA : ∀ q : Nat, s.heap.size ≤ q → A q := fun q h => by rw [← hAe]; exact Or.inr h
  have hP : va_P (dC, dI) vwCl [kA1 cI ag 2 vg, kA1 cI ak 23 vk] s.heap := hP
  have hl := lv_entry ([.ref ag, .ref ak, .int i2]) (n := 3) (Nat.le_of_ble_eq_true rfl)
  rw [lg_entry_eq]
  generalize (lg_sl ([.ref ag, .ref ak, .int i2]) ++ List.replicate (3 - (lg_sl ([.ref ag, .ref ak, .int i2])).length) Slot.unset).toArray = ls at hl ⊢
  have hl : lv_has ls 3 [(0, .ref ag), (1, .ref ak), (2, .int i2)] := hl
  refine nameH (fun H locs hHe hLe => ?_)
  have hP : va_P (dC, dI) vwCl [kA1 cI ag 2 vg, kA1 cI ak 23 vk] H := by rw [hHe]; exact hP
  have hS : va_S A s.heap H locs := by rw [hHe, hLe]; exact va_S.rf
  unfold fL_most at hf
  refine lv_aload_n hx hb dL_most_0 rfl (lv_at hl 1 rfl) ?_
  refine lv_bipush (v := 18) hx hb dL_most_1 (by decide) ?_
  refine lv_iload_n hx hb dL_most_3 rfl (lv_at hl 2 rfl) ?_
  refine lv_iadd hx hb dL_most_4 ?_
  obtain ⟨hi1, hf⟩ := oinb rfl hf
  refine va_iald hx hb hK hP 1 0 rfl rfl hi1 dL_most_5 ?_
  refine lv_if_ge (tgt := 15) hx hb dL_most_6 (by decide) (fun c2 => ?_) (fun c2 => ?_)
  · have hf := oif_t c2 hf
    refine lv_aload_n hx hb dL_most_15 rfl (lv_at hl 1 rfl) ?_
    refine lv_bipush (v := 18) hx hb dL_most_16 (by decide) ?_
    refine lv_iload_n hx hb dL_most_18 rfl (lv_at hl 2 rfl) ?_
    refine lv_iadd hx hb dL_most_19 ?_
    obtain ⟨hi3, hf⟩ := oinb rfl hf
    refine va_iald hx hb hK hP 1 0 rfl rfl hi3 dL_most_20 ?_
    obtain rfl := Option.some.inj hf
    exact W.iret (v := (vk (((18 : Int32) + i2)).toNatClampNeg)) hx hb hr (fun t ht hW => ⟨⟨(vk (((18 : Int32) + i2)).toNatClampNeg), (), rfl, rfl, by rw [ht]; exact hP, hD⟩, hS.F ht⟩) hS.2.2 dL_most_21
  · have hf := oif_f c2 hf
    refine lv_aload_n hx hb dL_most_9 rfl (lv_at hl 0 rfl) ?_
    refine lv_iconst (v := 0) hx hb dL_most_10 (by decide) ?_
    refine va_iald hx hb hK hP 0 0 rfl rfl (vpc rfl) dL_most_11 ?_
    refine lv_goto (tgt := 21) hx hb dL_most_12 (by decide) ?_
    obtain rfl := Option.some.inj hf
    exact W.iret (v := (vg ((0 : Int32)).toNatClampNeg)) hx hb hr (fun t ht hW => ⟨⟨(vg ((0 : Int32)).toNatClampNeg), (), rfl, rfl, by rw [ht]; exact hP, hD⟩, hS.F ht⟩) hS.2.2 dL_most_21
def fL_allowed_46 (k4 : (Nat → Int32) → (Nat → Int32) → Int32 → Int32 → Option Int32) (k14 : (Nat → Int32) → (Nat → Int32) → Int32 → Int32 → Int32 → Option Int32) (vg : (Nat → Int32)) (vk : (Nat → Int32)) (x3 : Int32) (x4 : Int32) (st0 : Int32) : Option Int32 :=
  elet (x4 + 1) (fun z9 => k14 vg vk st0 x3 z9)
def fL_allowed_45 (k4 : (Nat → Int32) → (Nat → Int32) → Int32 → Int32 → Option Int32) (k14 : (Nat → Int32) → (Nat → Int32) → Int32 → Int32 → Int32 → Option Int32) (vg : (Nat → Int32)) (vk : (Nat → Int32)) (x3 : Int32) (x4 : Int32) : Option Int32 :=
  fL_allowed_46 k4 k14 vg vk x3 x4 (0 : Int32)
def fL_allowed_14_b (k4 : (Nat → Int32) → (Nat → Int32) → Int32 → Int32 → Option Int32) (k14 : (Nat → Int32) → (Nat → Int32) → Int32 → Int32 → Int32 → Option Int32) (vg : (Nat → Int32)) (vk : (Nat → Int32)) (x2 : Int32) (x3 : Int32) (x4 : Int32) : Option Int32 :=
  if (vg ((1 : Int32)).toNatClampNeg) ≤ x4 then (elet (x3 + 1) (fun z4 => k4 vg vk x2 z4)) else (if x2 = 0 then (fL_allowed_45 k4 k14 vg vk x3 x4) else ((fL_least vk x3).bind (fun y6 => (fL_most vg vk x4).bind (fun y7 => if y7 < y6 then (fL_allowed_45 k4 k14 vg vk x3 x4) else (fL_allowed_46 k4 k14 vg vk x3 x4 (1 : Int32))))))
def fL_allowed_14 (k4 : (Nat → Int32) → (Nat → Int32) → Int32 → Int32 → Option Int32) : Nat → (Nat → Int32) → (Nat → Int32) → Int32 → Int32 → Int32 → Option Int32
  | 0 => fun _ _ _ _ _ => none
  | n + 1 => fL_allowed_14_b k4 (fL_allowed_14 k4 n)
def fL_allowed_4_b (k4 : (Nat → Int32) → (Nat → Int32) → Int32 → Int32 → Option Int32) (vg : (Nat → Int32)) (vk : (Nat → Int32)) (x2 : Int32) (x3 : Int32) : Option Int32 :=
  if (vg ((1 : Int32)).toNatClampNeg) ≤ x3 then (if zB x2 = true then (some x2) else none) else (fL_allowed_14 k4 FU vg vk x2 x3 x3)
def fL_allowed_4 : Nat → (Nat → Int32) → (Nat → Int32) → Int32 → Int32 → Option Int32
  | 0 => fun _ _ _ _ => none
  | n + 1 => fL_allowed_4_b (fL_allowed_4 n)
def fL_allowed (vg : (Nat → Int32)) (vk : (Nat → Int32)) : Option Int32 :=
  fL_allowed_4 FU vg vk (1 : Int32) (0 : Int32)
set_option maxHeartbeats 8000000 in
set_option maxRecDepth 100000 in
theorem mL_allowed (l : Launch) (dC : Nat → ClassId) (dI : Nat → Nat → Nat) (cI cJ : ClassId) (ag : Nat) (ak : Nat) (sz : Nat) (vg : (Nat → Int32)) (vk : (Nat → Int32)) (y : Int32) (hf : fL_allowed vg vk = some y) : Met l yL_allowed wsL_allowed ({ frames := 1, cells := 0, slots := 0, locals := 22 }) (cPc dC dI cI cJ [.ref ag, .ref ak] [kA1 cI ag 2 vg, kA1 cI ak 23 vk] sz) (va_Qi (fun r (_ : Unit) => r = y) (fun _ t => cB dC dI (va_A [kA1 cI ag 2 vg, kA1 cI ak 23 vk] sz) [kA1 cI ag 2 vg, kA1 cI ak 23 vk] t) (va_A [kA1 cI ag 2 vg, kA1 cI ak 23 vk] sz)) 0 0 (va_A [kA1 cI ag 2 vg, kA1 cI ak 23 vk] sz) := by
  refine Met.ofW (cc := cL_allowed) (maxL := 5) (ret := (some .boolean)) (by decide) rfl ?_
  intro p e s m args below meth c s₁ B hml hv
  obtain ⟨rfl, hsz, hP, hK, hD0, hN⟩ := hv
  have hx := B.exec
  have hb := B.bytes
  have hr := B.returns
  have hts := atoms_spec (ws := wsL_allowed) B.pre
  have hown : s.vm.findClass RL = some m.cls := findClass_of_methodNamed B.named
  have hlocks := B.notSynchronized
  subst hsz
  have hD := hD0.self (sz := s.heap.size)
  generalize hAe : va_A [kA1 cI ag 2 vg, kA1 cI ak 23 vk] s.heap.size = A at hD hN ⊢
  have hA : ∀ q : Nat, s.heap.size ≤ q → A q := fun q h => by rw [← hAe]; exact Or.inr h
  have hP : va_P (dC, dI) vwCl [kA1 cI ag 2 vg, kA1 cI ak 23 vk] s.heap := hP
  have hl := lv_entry ([.ref ag, .ref ak]) (n := 5) (Nat.le_of_ble_eq_true rfl)
  rw [lg_entry_eq]
  generalize (lg_sl ([.ref ag, .ref ak]) ++ List.replicate (5 - (lg_sl ([.ref ag, .ref ak])).length) Slot.unset).toArray = ls at hl ⊢
  have hl : lv_has ls 5 [(0, .ref ag), (1, .ref ak)] := hl
  refine nameH (fun H locs hHe hLe => ?_)
  have hP : va_P (dC, dI) vwCl [kA1 cI ag 2 vg, kA1 cI ak 23 vk] H := by rw [hHe]; exact hP
  have hS : va_S A s.heap H locs := by rw [hHe, hLe]; exact va_S.rf
  refine withW (fun WW hWW => ?_)
  have J46 : ∀ (k4 : (Nat → Int32) → (Nat → Int32) → Int32 → Int32 → Option Int32) (hk4 : ∀ (x2 : Int32) (x3 : Int32) (H : Heap) (locs : List Loc) (ls : Array Slot), va_P (dC, dI) vwCl [kA1 cI ag 2 vg, kA1 cI ak 23 vk] H → va_D A [kA1 cI ag 2 vg, kA1 cI ak 23 vk] → va_S A s.heap H locs → lv_has ls 5 [(0, .ref ag), (1, .ref ak), (2, .int x2), (3, .int x3)] → k4 vg vk x2 x3 = some y → WW H locs 0 0 ls 4 []) (k14 : (Nat → Int32) → (Nat → Int32) → Int32 → Int32 → Int32 → Option Int32) (hk14 : ∀ (x2 : Int32) (x3 : Int32) (x4 : Int32) (H : Heap) (locs : List Loc) (ls : Array Slot), va_P (dC, dI) vwCl [kA1 cI ag 2 vg, kA1 cI ak 23 vk] H → va_D A [kA1 cI ag 2 vg, kA1 cI ak 23 vk] → va_S A s.heap H locs → lv_has ls 5 [(0, .ref ag), (1, .ref ak), (2, .int x2), (3, .int x3), (4, .int x4)] → k14 vg vk x2 x3 x4 = some y → WW H locs 0 0 ls 14 []) (x3 : Int32) (x4 : Int32) (st0 : Int32) (H : Heap) (locs : List Loc) (ls : Array Slot), va_P (dC, dI) vwCl [kA1 cI ag 2 vg, kA1 cI ak 23 vk] H → va_D A [kA1 cI ag 2 vg, kA1 cI ak 23 vk] → va_S A s.heap H locs → lv_has ls 5 [(0, .ref ag), (1, .ref ak), (3, .int x3), (4, .int x4)] → fL_allowed_46 k4 k14 vg vk x3 x4 st0 = some y → WW H locs 0 0 ls 46 [.int st0] := by
    intro k4 hk4 k14 hk14 x3 x4 st0 H locs ls hP hD hS hl hf
    unfold fL_allowed_46 at hf
    refine (hWW _ _ _ _ _ _ _).2 ?_
    refine lv_istore_n (lv' := [(2, .int st0), (0, .ref ag), (1, .ref ak), (3, .int x3), (4, .int x4)]) hx hb dL_allowed_46 rfl hl (by decide) rfl (fun ls hl => ?_)
    obtain ⟨z9, ez9, hf⟩ := elet_out hf
    refine lv_iinc (v := z9) (lv' := [(4, .int z9), (2, .int st0), (0, .ref ag), (1, .ref ak), (3, .int x3)]) hx hb dL_allowed_47 hl (k := 4) rfl (by rw [ez9]; rfl) (by decide) rfl (fun ls hl => ?_)
    refine lv_goto (tgt := 14) hx hb dL_allowed_50 (by decide) ?_
    exact (hWW _ _ _ _ _ _ _).1 (hk14 st0 x3 z9 H locs ls hP hD hS (lv_sub hl [2, 3, 1, 4, 0] rfl) hf)
  have J45 : ∀ (k4 : (Nat → Int32) → (Nat → Int32) → Int32 → Int32 → Option Int32) (hk4 : ∀ (x2 : Int32) (x3 : Int32) (H : Heap) (locs : List Loc) (ls : Array Slot), va_P (dC, dI) vwCl [kA1 cI ag 2 vg, kA1 cI ak 23 vk] H → va_D A [kA1 cI ag 2 vg, kA1 cI ak 23 vk] → va_S A s.heap H locs → lv_has ls 5 [(0, .ref ag), (1, .ref ak), (2, .int x2), (3, .int x3)] → k4 vg vk x2 x3 = some y → WW H locs 0 0 ls 4 []) (k14 : (Nat → Int32) → (Nat → Int32) → Int32 → Int32 → Int32 → Option Int32) (hk14 : ∀ (x2 : Int32) (x3 : Int32) (x4 : Int32) (H : Heap) (locs : List Loc) (ls : Array Slot), va_P (dC, dI) vwCl [kA1 cI ag 2 vg, kA1 cI ak 23 vk] H → va_D A [kA1 cI ag 2 vg, kA1 cI ak 23 vk] → va_S A s.heap H locs → lv_has ls 5 [(0, .ref ag), (1, .ref ak), (2, .int x2), (3, .int x3), (4, .int x4)] → k14 vg vk x2 x3 x4 = some y → WW H locs 0 0 ls 14 []) (x3 : Int32) (x4 : Int32) (H : Heap) (locs : List Loc) (ls : Array Slot), va_P (dC, dI) vwCl [kA1 cI ag 2 vg, kA1 cI ak 23 vk] H → va_D A [kA1 cI ag 2 vg, kA1 cI ak 23 vk] → va_S A s.heap H locs → lv_has ls 5 [(0, .ref ag), (1, .ref ak), (3, .int x3), (4, .int x4)] → fL_allowed_45 k4 k14 vg vk x3 x4 = some y → WW H locs 0 0 ls 45 [] := by
    intro k4 hk4 k14 hk14 x3 x4 H locs ls hP hD hS hl hf
    unfold fL_allowed_45 at hf
    refine (hWW _ _ _ _ _ _ _).2 ?_
    refine lv_iconst (v := 0) hx hb dL_allowed_45 (by decide) ?_
    exact (hWW _ _ _ _ _ _ _).1 (J46 k4 hk4 k14 hk14 x3 x4 (0 : Int32) H locs ls hP hD hS (lv_sub hl [0, 1, 2, 3] rfl) hf)
  have L14 : ∀ (k4 : (Nat → Int32) → (Nat → Int32) → Int32 → Int32 → Option Int32) (hk4 : ∀ (x2 : Int32) (x3 : Int32) (H : Heap) (locs : List Loc) (ls : Array Slot), va_P (dC, dI) vwCl [kA1 cI ag 2 vg, kA1 cI ak 23 vk] H → va_D A [kA1 cI ag 2 vg, kA1 cI ak 23 vk] → va_S A s.heap H locs → lv_has ls 5 [(0, .ref ag), (1, .ref ak), (2, .int x2), (3, .int x3)] → k4 vg vk x2 x3 = some y → WW H locs 0 0 ls 4 []) (n : Nat) (x2 : Int32) (x3 : Int32) (x4 : Int32) (H : Heap) (locs : List Loc) (ls : Array Slot), va_P (dC, dI) vwCl [kA1 cI ag 2 vg, kA1 cI ak 23 vk] H → va_D A [kA1 cI ag 2 vg, kA1 cI ak 23 vk] → va_S A s.heap H locs → lv_has ls 5 [(0, .ref ag), (1, .ref ak), (2, .int x2), (3, .int x3), (4, .int x4)] → fL_allowed_14 k4 n vg vk x2 x3 x4 = some y → WW H locs 0 0 ls 14 [] := by
    intro k4 hk4 n
    induction n with
    | zero =>
      intro x2 x3 x4 H locs ls hP hD hS hl hf
      exact onone hf
    | succ n ih =>
      intro x2 x3 x4 H locs ls hP hD hS hl hf
      have hf : fL_allowed_14_b k4 (fL_allowed_14 k4 n) vg vk x2 x3 x4 = some y := hf
      generalize fL_allowed_14 k4 n = k14 at hf ih
      have hk14 := ih
      clear ih
      unfold fL_allowed_14_b at hf
      refine (hWW _ _ _ _ _ _ _).2 ?_
      refine lv_iload hx hb dL_allowed_14 (lv_at hl 4 rfl) ?_
      refine lv_aload_n hx hb dL_allowed_16 rfl (lv_at hl 0 rfl) ?_
      refine lv_iconst (v := 1) hx hb dL_allowed_17 (by decide) ?_
      refine va_iald hx hb hK hP 0 0 rfl rfl (vpc rfl) dL_allowed_18 ?_
      refine lv_icmp_ge (tgt := 53) hx hb dL_allowed_19 (by decide) (fun c3 => ?_) (fun c3 => ?_)
      · have hf := oif_t c3 hf
        obtain ⟨z4, ez4, hf⟩ := elet_out hf
        refine lv_iinc (v := z4) (lv' := [(3, .int z4), (0, .ref ag), (1, .ref ak), (2, .int x2), (4, .int x4)]) hx hb dL_allowed_53 hl (k := 3) rfl (by rw [ez4]; rfl) (by decide) rfl (fun ls hl => ?_)
        refine lv_goto (tgt := 4) hx hb dL_allowed_56 (by decide) ?_
        exact (hWW _ _ _ _ _ _ _).1 (hk4 x2 z4 H locs ls hP hD hS (lv_sub hl [1, 2, 3, 0] rfl) hf)
      · have hf := oif_f c3 hf
        refine lv_iload_n hx hb dL_allowed_22 rfl (lv_at hl 2 rfl) ?_
        refine lv_if_eq (tgt := 45) hx hb dL_allowed_23 (by decide) (fun c5 => ?_) (fun c5 => ?_)
        · have hf := oif_t c5 hf
          exact (hWW _ _ _ _ _ _ _).1 (J45 k4 hk4 k14 hk14 x3 x4 H locs ls hP hD hS (lv_sub hl [0, 1, 3, 4] rfl) hf)
        · have hf := oif_f c5 hf
          refine lv_aload_n hx hb dL_allowed_26 rfl (lv_at hl 1 rfl) ?_
          refine lv_iload_n hx hb dL_allowed_27 rfl (lv_at hl 3 rfl) ?_
          obtain ⟨y6, hy6, hf⟩ := obind hf
          refine cg_i (ws := [kA1 cI ag 2 vg, kA1 cI ak 23 vk]) (wc := [kA1 cI ak 23 vk]) (wr := [kA1 cI ag 2 vg]) (w1 := [kA1 cI ak 23 vk]) (wo := [kA1 cI ag 2 vg, kA1 cI ak 23 vk]) hP hD hS hA (va_runS (As := [.ref ak, .int x3]) (rest := []) ⟨hx, hb, hml, hown, hts⟩ (mL_least l dC dI cI cJ ak H.size vk x3 y6 hy6) (va_cwS 2 hts gL_allowed_L_least rfl rfl rfl (by decide +kernel) ⟨Nat.le_of_ble_eq_true rfl, Nat.le_of_ble_eq_true rfl⟩) ⟨cFB, cPre hK hN hS (va_free (wc := [kA1 cI ak 23 vk]) hD hS hA [1] rfl) (hP.sub [1] rfl) (hD.sub [1] rfl rfl)⟩ rfl rfl hl.1 rfl (lv_room (Nat.le_of_ble_eq_true rfl)) dL_allowed_28 ⟨Nat.le_of_ble_eq_true rfl, Nat.le_of_ble_eq_true rfl⟩) [1] [0] [0, 1] rfl rfl rfl (by decide +kernel) rfl rfl (fun H locs hP hD hS => ?_)
          refine lv_aload_n hx hb dL_allowed_31 rfl (lv_at hl 0 rfl) ?_
          refine lv_aload_n hx hb dL_allowed_32 rfl (lv_at hl 1 rfl) ?_
          refine lv_iload hx hb dL_allowed_33 (lv_at hl 4 rfl) ?_
          obtain ⟨y7, hy7, hf⟩ := obind hf
          refine cg_i (ws := [kA1 cI ag 2 vg, kA1 cI ak 23 vk]) (wc := [kA1 cI ag 2 vg, kA1 cI ak 23 vk]) (wr := []) (w1 := [kA1 cI ag 2 vg, kA1 cI ak 23 vk]) (wo := [kA1 cI ag 2 vg, kA1 cI ak 23 vk]) hP hD hS hA (va_runS (As := [.ref ag, .ref ak, .int x4]) (rest := [.int y6]) ⟨hx, hb, hml, hown, hts⟩ (mL_most l dC dI cI cJ ag ak H.size vg vk x4 y7 hy7) (va_cwS 3 hts gL_allowed_L_most rfl rfl rfl (by decide +kernel) ⟨Nat.le_of_ble_eq_true rfl, Nat.le_of_ble_eq_true rfl⟩) ⟨cFB, cPre hK hN hS (va_free (wc := [kA1 cI ag 2 vg, kA1 cI ak 23 vk]) hD hS hA [0, 1] rfl) (hP.sub [0, 1] rfl) (hD.sub [0, 1] rfl rfl)⟩ rfl rfl hl.1 rfl (lv_room (Nat.le_of_ble_eq_true rfl)) dL_allowed_35 ⟨Nat.le_of_ble_eq_true rfl, Nat.le_of_ble_eq_true rfl⟩) [0, 1] [] [0, 1] rfl rfl rfl (by decide +kernel) rfl rfl (fun H locs hP hD hS => ?_)
          refine lv_icmp_gt (tgt := 45) hx hb dL_allowed_38 (by decide) (fun c8 => ?_) (fun c8 => ?_)
          · have hf := oif_t c8 hf
            exact (hWW _ _ _ _ _ _ _).1 (J45 k4 hk4 k14 hk14 x3 x4 H locs ls hP hD hS (lv_sub hl [0, 1, 3, 4] rfl) hf)
          · have hf := oif_f c8 hf
            refine lv_iconst (v := 1) hx hb dL_allowed_41 (by decide) ?_
            refine lv_goto (tgt := 46) hx hb dL_allowed_42 (by decide) ?_
            exact (hWW _ _ _ _ _ _ _).1 (J46 k4 hk4 k14 hk14 x3 x4 (1 : Int32) H locs ls hP hD hS (lv_sub hl [0, 1, 3, 4] rfl) hf)
  have L4 : ∀ (n : Nat) (x2 : Int32) (x3 : Int32) (H : Heap) (locs : List Loc) (ls : Array Slot), va_P (dC, dI) vwCl [kA1 cI ag 2 vg, kA1 cI ak 23 vk] H → va_D A [kA1 cI ag 2 vg, kA1 cI ak 23 vk] → va_S A s.heap H locs → lv_has ls 5 [(0, .ref ag), (1, .ref ak), (2, .int x2), (3, .int x3)] → fL_allowed_4 n vg vk x2 x3 = some y → WW H locs 0 0 ls 4 [] := by
    intro n
    induction n with
    | zero =>
      intro x2 x3 H locs ls hP hD hS hl hf
      exact onone hf
    | succ n ih =>
      intro x2 x3 H locs ls hP hD hS hl hf
      have hf : fL_allowed_4_b (fL_allowed_4 n) vg vk x2 x3 = some y := hf
      generalize fL_allowed_4 n = k4 at hf ih
      have hk4 := ih
      clear ih
      unfold fL_allowed_4_b at hf
      refine (hWW _ _ _ _ _ _ _).2 ?_
      refine lv_iload_n hx hb dL_allowed_4 rfl (lv_at hl 3 rfl) ?_
      refine lv_aload_n hx hb dL_allowed_5 rfl (lv_at hl 0 rfl) ?_
      refine lv_iconst (v := 1) hx hb dL_allowed_6 (by decide) ?_
      refine va_iald hx hb hK hP 0 0 rfl rfl (vpc rfl) dL_allowed_7 ?_
      refine lv_icmp_ge (tgt := 59) hx hb dL_allowed_8 (by decide) (fun c1 => ?_) (fun c1 => ?_)
      · have hf := oif_t c1 hf
        refine lv_iload_n hx hb dL_allowed_59 rfl (lv_at hl 2 rfl) ?_
        obtain ⟨hz2, hf⟩ := ozb hf
        obtain rfl := Option.some.inj hf
        exact W.zret (v := x2) hx hb hr hz2 (fun t ht hW => ⟨⟨x2, (), rfl, rfl, by rw [ht]; exact hP, hD⟩, hS.F ht⟩) hS.2.2 dL_allowed_60
      · have hf := oif_f c1 hf
        refine lv_iload_n hx hb dL_allowed_11 rfl (lv_at hl 3 rfl) ?_
        refine lv_istore (lv' := [(4, .int x3), (0, .ref ag), (1, .ref ak), (2, .int x2), (3, .int x3)]) hx hb dL_allowed_12 hl (by decide) rfl (fun ls hl => ?_)
        exact (hWW _ _ _ _ _ _ _).1 (L14 k4 hk4 FU x2 x3 x3 H locs ls hP hD hS (lv_sub hl [1, 2, 3, 4, 0] rfl) hf)
  refine (hWW _ _ _ _ _ _ _).2 ?_
  unfold fL_allowed at hf
  refine lv_iconst (v := 1) hx hb dL_allowed_0 (by decide) ?_
  refine lv_istore_n (lv' := [(2, .int 1), (0, .ref ag), (1, .ref ak)]) hx hb dL_allowed_1 rfl hl (by decide) rfl (fun ls hl => ?_)
  refine lv_iconst (v := 0) hx hb dL_allowed_2 (by decide) ?_
  refine lv_istore_n (lv' := [(3, .int 0), (2, .int 1), (0, .ref ag), (1, .ref ak)]) hx hb dL_allowed_3 rfl hl (by decide) rfl (fun ls hl => ?_)
  exact (hWW _ _ _ _ _ _ _).1 (L4 FU (1 : Int32) (0 : Int32) H locs ls hP hD hS (lv_sub hl [2, 3, 1, 0] rfl) hf)
def fL_isFraction_27 (x1 : Int32) (l2 : Int64) (l4 : Int64) (l6 : Int64) (st0 : Int64) : Option Int32 :=
  (fL_divisor st0 ((x1).toInt64)).bind (fun y1 => if (lg_cmp y1 (1 : Int64)) = 0 then (if (lg_cmp (l6 * l4) (l2 * (x1).toInt64)) = 0 then (some 1) else (some 0)) else (some 0))
def fL_isFraction (i0 : Int32) (i1 : Int32) (j2 : Int64) (j4 : Int64) : Option Int32 :=
  elet ((i0).toInt64 - (1000000000 : Int64)) (fun z4 => if i1 ≤ 0 then (some 0) else (if 0 ≤ (lg_cmp z4 (0 : Int64)) then (fL_isFraction_27 i1 j2 j4 z4 z4) else (fL_isFraction_27 i1 j2 j4 z4 (-z4))))
set_option maxHeartbeats 8000000 in
set_option maxRecDepth 100000 in
theorem mL_isFraction (l : Launch) (dC : Nat → ClassId) (dI : Nat → Nat → Nat) (cI cJ : ClassId) (sz : Nat) (i0 : Int32) (i1 : Int32) (j2 : Int64) (j4 : Int64) (y : Int32) (hf : fL_isFraction i0 i1 j2 j4 = some y) : Met l yL_isFraction wsL_isFraction ({ frames := 1, cells := 0, slots := 0, locals := 29 }) (cPc dC dI cI cJ [.int i0, .int i1, .long j2, .long j4] [] sz) (va_Qi (fun r (_ : Unit) => r = y) (fun _ t => cB dC dI (va_A [] sz) [] t) (va_A [] sz)) 0 0 (va_A [] sz) := by
  refine Met.ofW (cc := cL_isFraction) (maxL := 8) (ret := (some .boolean)) (by decide) rfl ?_
  intro p e s m args below meth c s₁ B hml hv
  obtain ⟨rfl, hsz, hP, hK, hD0, hN⟩ := hv
  have hx := B.exec
  have hb := B.bytes
  have hr := B.returns
  have hts := atoms_spec (ws := wsL_isFraction) B.pre
  have hown : s.vm.findClass RL = some m.cls := findClass_of_methodNamed B.named
  have hlocks := B.notSynchronized
  subst hsz
  have hD := hD0.self (sz := s.heap.size)
  generalize hAe : va_A [] s.heap.size = A at hD hN ⊢
  have hA : ∀ q : Nat, s.heap.size ≤ q → A q := fun q h => by rw [← hAe]; exact Or.inr h
  have hP : va_P (dC, dI) vwCl [] s.heap := hP
  have hl := lv_entry ([.int i0, .int i1, .long j2, .long j4]) (n := 8) (Nat.le_of_ble_eq_true rfl)
  rw [lg_entry_eq]
  generalize (lg_sl ([.int i0, .int i1, .long j2, .long j4]) ++ List.replicate (8 - (lg_sl ([.int i0, .int i1, .long j2, .long j4])).length) Slot.unset).toArray = ls at hl ⊢
  have hl : lv_has ls 8 [(0, .int i0), (1, .int i1), (2, .long j2), (4, .long j4)] := hl
  have hc78 := hts (.constantLong RL 78 1000000000) (by decide +kernel)
  refine nameH (fun H locs hHe hLe => ?_)
  have hP : va_P (dC, dI) vwCl [] H := by rw [hHe]; exact hP
  have hS : va_S A s.heap H locs := by rw [hHe, hLe]; exact va_S.rf
  refine withW (fun WW hWW => ?_)
  have J27 : ∀ (x1 : Int32) (l2 : Int64) (l4 : Int64) (l6 : Int64) (st0 : Int64) (H : Heap) (locs : List Loc) (ls : Array Slot), va_P (dC, dI) vwCl [] H → va_D A [] → va_S A s.heap H locs → lv_has ls 8 [(1, .int x1), (2, .long l2), (4, .long l4), (6, .long l6)] → fL_isFraction_27 x1 l2 l4 l6 st0 = some y → WW H locs 0 0 ls 27 [.long st0] := by
    intro x1 l2 l4 l6 st0 H locs ls hP hD hS hl hf
    unfold fL_isFraction_27 at hf
    refine (hWW _ _ _ _ _ _ _).2 ?_
    refine lv_iload_n hx hb dL_isFraction_27 rfl (lv_at hl 0 rfl) ?_
    refine lv_i2l (v := (x1).toInt64) hx hb dL_isFraction_28 rfl ?_
    obtain ⟨y1, hy1, hf⟩ := obind hf
    refine cg_l (ws := []) (wc := []) (wr := []) (w1 := []) (wo := []) hP hD hS hA (va_runS (As := [.long st0, .long ((x1).toInt64)]) (rest := []) ⟨hx, hb, hml, hown, hts⟩ (mL_divisor l dC dI cI cJ  H.size st0 ((x1).toInt64) y1 hy1) (va_cwS 2 hts gL_isFraction_L_divisor rfl rfl rfl (by decide +kernel) ⟨Nat.le_of_ble_eq_true rfl, Nat.le_of_ble_eq_true rfl⟩) ⟨cFB, cPre hK hN hS (va_free (wc := []) hD hS hA [] rfl) (hP.sub [] rfl) (hD.sub [] rfl rfl)⟩ rfl rfl hl.1 rfl (lv_room (Nat.le_of_ble_eq_true rfl)) dL_isFraction_29 ⟨Nat.le_of_ble_eq_true rfl, Nat.le_of_ble_eq_true rfl⟩) [] [] [] rfl rfl rfl (by decide +kernel) rfl rfl (fun H locs hP hD hS => ?_)
    refine lv_lconst (v := 1) hx hb dL_isFraction_32 (by decide) ?_
    refine W.lcmp hx hb dL_isFraction_33 ?_
    refine lv_if_ne (tgt := 54) hx hb dL_isFraction_34 (by decide) (fun c2 => ?_) (fun c2 => ?_)
    · have hf := oif_f c2 hf
      refine lv_iconst (v := 0) hx hb dL_isFraction_54 (by decide) ?_
      obtain rfl := Option.some.inj hf
      exact W.zret (v := 0) hx hb hr rfl (fun t ht hW => ⟨⟨0, (), rfl, rfl, by rw [ht]; exact hP, hD⟩, hS.F ht⟩) hS.2.2 dL_isFraction_55
    · have hf := oif_t c2 hf
      refine lv_lload hx hb dL_isFraction_37 (lv_at hl 3 rfl) ?_
      refine lv_lload hx hb dL_isFraction_39 (lv_at hl 2 rfl) ?_
      refine lv_lmul hx hb dL_isFraction_41 ?_
      refine lv_lload_n hx hb dL_isFraction_42 rfl (lv_at hl 1 rfl) ?_
      refine lv_iload_n hx hb dL_isFraction_43 rfl (lv_at hl 0 rfl) ?_
      refine lv_i2l (v := (x1).toInt64) hx hb dL_isFraction_44 rfl ?_
      refine lv_lmul hx hb dL_isFraction_45 ?_
      refine W.lcmp hx hb dL_isFraction_46 ?_
      refine lv_if_ne (tgt := 54) hx hb dL_isFraction_47 (by decide) (fun c3 => ?_) (fun c3 => ?_)
      · have hf := oif_f c3 hf
        refine lv_iconst (v := 0) hx hb dL_isFraction_54 (by decide) ?_
        obtain rfl := Option.some.inj hf
        exact W.zret (v := 0) hx hb hr rfl (fun t ht hW => ⟨⟨0, (), rfl, rfl, by rw [ht]; exact hP, hD⟩, hS.F ht⟩) hS.2.2 dL_isFraction_55
      · have hf := oif_t c3 hf
        refine lv_iconst (v := 1) hx hb dL_isFraction_50 (by decide) ?_
        refine lv_goto (tgt := 55) hx hb dL_isFraction_51 (by decide) ?_
        obtain rfl := Option.some.inj hf
        exact W.zret (v := 1) hx hb hr rfl (fun t ht hW => ⟨⟨1, (), rfl, rfl, by rw [ht]; exact hP, hD⟩, hS.F ht⟩) hS.2.2 dL_isFraction_55
  refine (hWW _ _ _ _ _ _ _).2 ?_
  unfold fL_isFraction at hf
  refine lv_iload_n hx hb dL_isFraction_0 rfl (lv_at hl 0 rfl) ?_
  refine lv_i2l (v := (i0).toInt64) hx hb dL_isFraction_1 rfl ?_
  refine lv_ldc2 (v := 1000000000) hx hb hown hc78 dL_isFraction_2 ?_
  refine lv_lsub hx hb dL_isFraction_5 ?_
  obtain ⟨z4, ez4, hf⟩ := elet_out hf
  refine lvn_l ez4 ?_
  refine lv_lstore (lv' := [(6, .long z4), (0, .int i0), (1, .int i1), (2, .long j2), (4, .long j4)]) hx hb dL_isFraction_6 hl (by decide) rfl (fun ls hl => ?_)
  refine lv_iload_n hx hb dL_isFraction_8 rfl (lv_at hl 2 rfl) ?_
  refine lv_if_le (tgt := 54) hx hb dL_isFraction_9 (by decide) (fun c5 => ?_) (fun c5 => ?_)
  · have hf := oif_t c5 hf
    refine lv_iconst (v := 0) hx hb dL_isFraction_54 (by decide) ?_
    obtain rfl := Option.some.inj hf
    exact W.zret (v := 0) hx hb hr rfl (fun t ht hW => ⟨⟨0, (), rfl, rfl, by rw [ht]; exact hP, hD⟩, hS.F ht⟩) hS.2.2 dL_isFraction_55
  · have hf := oif_f c5 hf
    refine lv_lload hx hb dL_isFraction_12 (lv_at hl 0 rfl) ?_
    refine lv_lconst (v := 0) hx hb dL_isFraction_14 (by decide) ?_
    refine W.lcmp hx hb dL_isFraction_15 ?_
    refine lv_if_ge (tgt := 25) hx hb dL_isFraction_16 (by decide) (fun c6 => ?_) (fun c6 => ?_)
    · have hf := oif_t c6 hf
      refine lv_lload hx hb dL_isFraction_25 (lv_at hl 0 rfl) ?_
      exact (hWW _ _ _ _ _ _ _).1 (J27 i1 j2 j4 z4 z4 H locs ls hP hD hS (lv_sub hl [2, 3, 4, 0] rfl) hf)
    · have hf := oif_f c6 hf
      refine lv_lload hx hb dL_isFraction_19 (lv_at hl 0 rfl) ?_
      refine lv_lneg hx hb dL_isFraction_21 ?_
      refine lv_goto (tgt := 27) hx hb dL_isFraction_22 (by decide) ?_
      exact (hWW _ _ _ _ _ _ _).1 (J27 i1 j2 j4 z4 (-z4) H locs ls hP hD hS (lv_sub hl [2, 3, 4, 0] rfl) hf)
def fL_common_87 (k9 : (Nat → Int64) → (Nat → Int64) → (Nat → Int64) → Int32 → Int64 → Int32 → Int32 → Option (Int64 × (Nat → Int64))) (vu : (Nat → Int64)) (vp : (Nat → Int64)) (vw : (Nat → Int64)) (x0 : Int32) (x6 : Int32) (x7 : Int32) (st0 : Int64) : Option (Int64 × (Nat → Int64)) :=
  elet (x7 + 1) (fun z16 => k9 vu vp vw x0 st0 x6 z16)
def fL_common_59 (k9 : (Nat → Int64) → (Nat → Int64) → (Nat → Int64) → Int32 → Int64 → Int32 → Int32 → Option (Int64 × (Nat → Int64))) (vu : (Nat → Int64)) (vp : (Nat → Int64)) (vw : (Nat → Int64)) (x0 : Int32) (l4 : Int64) (x7 : Int32) (st0 : Int32) : Option (Int64 × (Nat → Int64)) :=
  if st0 = 0 then (fL_common_87 k9 vu vp vw x0 st0 x7 (1 : Int64)) else (if inB x7 4 = true then ((fL_divisor l4 (vw (x7).toNatClampNeg)).bind (fun y13 => if y13 = 0 then none else (if inB x7 4 = true then (fL_common_87 k9 vu vp vw x0 st0 x7 ((l4 / y13) * (vw (x7).toNatClampNeg))) else none))) else none)
def fL_common_58 (k9 : (Nat → Int64) → (Nat → Int64) → (Nat → Int64) → Int32 → Int64 → Int32 → Int32 → Option (Int64 × (Nat → Int64))) (vu : (Nat → Int64)) (vp : (Nat → Int64)) (vw : (Nat → Int64)) (x0 : Int32) (l4 : Int64) (x7 : Int32) : Option (Int64 × (Nat → Int64)) :=
  fL_common_59 k9 vu vp vw x0 l4 x7 (0 : Int32)
def fL_common_98_b (k98 : (Nat → Int64) → (Nat → Int64) → (Nat → Int64) → Int32 → Int64 → Int32 → Int32 → Option (Int64 × (Nat → Int64))) (vu : (Nat → Int64)) (vp : (Nat → Int64)) (vw : (Nat → Int64)) (x0 : Int32) (l4 : Int64) (x6 : Int32) (x7 : Int32) : Option (Int64 × (Nat → Int64)) :=
  if x0 ≤ x7 then (if x6 = 0 then (some (0, vu)) else (some (l4, vu))) else (if x6 = 0 then (if x6 = 0 then (some (0, vu)) else (some (l4, vu))) else (if inB x7 4 = true then (if inB x7 4 = true then (if (vw (x7).toNatClampNeg) = 0 then none else (if inB x7 4 = true then (elet (vp_updL vu (x7).toNatClampNeg ((vp (x7).toNatClampNeg) * (l4 / (vw (x7).toNatClampNeg)))) (fun b25 => elet (x7 + 1) (fun z26 => k98 b25 vp vw x0 l4 x6 z26))) else none)) else none) else none))
def fL_common_98 : Nat → (Nat → Int64) → (Nat → Int64) → (Nat → Int64) → Int32 → Int64 → Int32 → Int32 → Option (Int64 × (Nat → Int64))
  | 0 => fun _ _ _ _ _ _ _ => none
  | n + 1 => fL_common_98_b (fL_common_98 n)
def fL_common_9_b (k9 : (Nat → Int64) → (Nat → Int64) → (Nat → Int64) → Int32 → Int64 → Int32 → Int32 → Option (Int64 × (Nat → Int64))) (vu : (Nat → Int64)) (vp : (Nat → Int64)) (vw : (Nat → Int64)) (x0 : Int32) (l4 : Int64) (x6 : Int32) (x7 : Int32) : Option (Int64 × (Nat → Int64)) :=
  if x0 ≤ x7 then (fL_common_98 FU vu vp vw x0 l4 x6 (0 : Int32)) else (if x6 = 0 then (fL_common_58 k9 vu vp vw x0 l4 x7) else (if inB x7 4 = true then (if (lg_cmp (vw (x7).toNatClampNeg) (0 : Int64)) ≤ 0 then (fL_common_58 k9 vu vp vw x0 l4 x7) else (if inB x7 4 = true then (if (lg_cmp (vp (x7).toNatClampNeg) (0 : Int64)) < 0 then (fL_common_58 k9 vu vp vw x0 l4 x7) else (if inB x7 4 = true then (if inB x7 4 = true then ((fL_divisor (vp (x7).toNatClampNeg) (vw (x7).toNatClampNeg)).bind (fun y9 => if (lg_cmp y9 (1 : Int64)) = 0 then (fL_common_59 k9 vu vp vw x0 l4 x7 (1 : Int32)) else (fL_common_58 k9 vu vp vw x0 l4 x7))) else none) else none)) else none)) else none))
def fL_common_9 : Nat → (Nat → Int64) → (Nat → Int64) → (Nat → Int64) → Int32 → Int64 → Int32 → Int32 → Option (Int64 × (Nat → Int64))
  | 0 => fun _ _ _ _ _ _ _ => none
  | n + 1 => fL_common_9_b (fL_common_9 n)
def fL_common (vu : (Nat → Int64)) (vp : (Nat → Int64)) (vw : (Nat → Int64)) (i0 : Int32) : Option (Int64 × (Nat → Int64)) :=
  fL_common_9 FU vu vp vw i0 (1 : Int64) (1 : Int32) (0 : Int32)
set_option maxHeartbeats 8000000 in
set_option maxRecDepth 100000 in
theorem mL_common (l : Launch) (dC : Nat → ClassId) (dI : Nat → Nat → Nat) (cI cJ : ClassId) (au : Nat) (ap : Nat) (aw : Nat) (sz : Nat) (vu : (Nat → Int64)) (vp : (Nat → Int64)) (vw : (Nat → Int64)) (i0 : Int32) (y : (Int64 × (Nat → Int64))) (hf : fL_common vu vp vw i0 = some y) : Met l yL_common wsL_common ({ frames := 1, cells := 0, slots := 0, locals := 29 }) (cPc dC dI cI cJ [.int i0, .ref ap, .ref aw, .ref au] [kA2 cJ au 4 vu, kA2 cJ ap 4 vp, kA2 cJ aw 4 vw] sz) (va_Ql (fun r (_ : Unit) => r = y.1) (fun _ t => cB dC dI (va_A [kA2 cJ au 4 vu, kA2 cJ ap 4 vp, kA2 cJ aw 4 vw] sz) [kA2 cJ au 4 y.2, kA2 cJ ap 4 vp, kA2 cJ aw 4 vw] t) (va_A [kA2 cJ au 4 vu, kA2 cJ ap 4 vp, kA2 cJ aw 4 vw] sz)) 0 0 (va_A [kA2 cJ au 4 vu, kA2 cJ ap 4 vp, kA2 cJ aw 4 vw] sz) := by
  refine Met.ofW (cc := cL_common) (maxL := 8) (ret := (some .long)) (by decide) rfl ?_
  intro p e s m args below meth c s₁ B hml hv
  obtain ⟨rfl, hsz, hP, hK, hD0, hN⟩ := hv
  have hx := B.exec
  have hb := B.bytes
  have hr := B.returns
  have hts := atoms_spec (ws := wsL_common) B.pre
  have hown : s.vm.findClass RL = some m.cls := findClass_of_methodNamed B.named
  have hlocks := B.notSynchronized
  subst hsz
  have hD := hD0.self (sz := s.heap.size)
  generalize hAe : va_A [kA2 cJ au 4 vu, kA2 cJ ap 4 vp, kA2 cJ aw 4 vw] s.heap.size = A at hD hN ⊢
  have hA : ∀ q : Nat, s.heap.size ≤ q → A q := fun q h => by rw [← hAe]; exact Or.inr h
  have hP : va_P (dC, dI) vwCl [kA2 cJ au 4 vu, kA2 cJ ap 4 vp, kA2 cJ aw 4 vw] s.heap := hP
  have hl := lv_entry ([.int i0, .ref ap, .ref aw, .ref au]) (n := 8) (Nat.le_of_ble_eq_true rfl)
  rw [lg_entry_eq]
  generalize (lg_sl ([.int i0, .ref ap, .ref aw, .ref au]) ++ List.replicate (8 - (lg_sl ([.int i0, .ref ap, .ref aw, .ref au])).length) Slot.unset).toArray = ls at hl ⊢
  have hl : lv_has ls 8 [(0, .int i0), (1, .ref ap), (2, .ref aw), (3, .ref au)] := hl
  refine nameH (fun H locs hHe hLe => ?_)
  have hP : va_P (dC, dI) vwCl [kA2 cJ au 4 vu, kA2 cJ ap 4 vp, kA2 cJ aw 4 vw] H := by rw [hHe]; exact hP
  have hS : va_S A s.heap H locs := by rw [hHe, hLe]; exact va_S.rf
  refine withW (fun WW hWW => ?_)
  have J87 : ∀ (k9 : (Nat → Int64) → (Nat → Int64) → (Nat → Int64) → Int32 → Int64 → Int32 → Int32 → Option (Int64 × (Nat → Int64))) (hk9 : ∀ (vu : (Nat → Int64)) (x0 : Int32) (l4 : Int64) (x6 : Int32) (x7 : Int32) (H : Heap) (locs : List Loc) (ls : Array Slot), va_P (dC, dI) vwCl [kA2 cJ au 4 vu, kA2 cJ ap 4 vp, kA2 cJ aw 4 vw] H → va_D A [kA2 cJ au 4 vu, kA2 cJ ap 4 vp, kA2 cJ aw 4 vw] → va_S A s.heap H locs → lv_has ls 8 [(0, .int x0), (1, .ref ap), (2, .ref aw), (3, .ref au), (4, .long l4), (6, .int x6), (7, .int x7)] → k9 vu vp vw x0 l4 x6 x7 = some y → WW H locs 0 0 ls 9 []) (vu : (Nat → Int64)) (x0 : Int32) (x6 : Int32) (x7 : Int32) (st0 : Int64) (H : Heap) (locs : List Loc) (ls : Array Slot), va_P (dC, dI) vwCl [kA2 cJ au 4 vu, kA2 cJ ap 4 vp, kA2 cJ aw 4 vw] H → va_D A [kA2 cJ au 4 vu, kA2 cJ ap 4 vp, kA2 cJ aw 4 vw] → va_S A s.heap H locs → lv_has ls 8 [(0, .int x0), (1, .ref ap), (2, .ref aw), (3, .ref au), (6, .int x6), (7, .int x7)] → fL_common_87 k9 vu vp vw x0 x6 x7 st0 = some y → WW H locs 0 0 ls 87 [.long st0] := by
    intro k9 hk9 vu x0 x6 x7 st0 H locs ls hP hD hS hl hf
    unfold fL_common_87 at hf
    refine (hWW _ _ _ _ _ _ _).2 ?_
    refine lv_lstore (lv' := [(4, .long st0), (0, .int x0), (1, .ref ap), (2, .ref aw), (3, .ref au), (6, .int x6), (7, .int x7)]) hx hb dL_common_87 hl (by decide) rfl (fun ls hl => ?_)
    obtain ⟨z16, ez16, hf⟩ := elet_out hf
    refine lv_iinc (v := z16) (lv' := [(7, .int z16), (4, .long st0), (0, .int x0), (1, .ref ap), (2, .ref aw), (3, .ref au), (6, .int x6)]) hx hb dL_common_89 hl (k := 6) rfl (by rw [ez16]; rfl) (by decide) rfl (fun ls hl => ?_)
    refine lv_goto (tgt := 9) hx hb dL_common_92 (by decide) ?_
    exact (hWW _ _ _ _ _ _ _).1 (hk9 vu x0 st0 x6 z16 H locs ls hP hD hS (lv_sub hl [2, 3, 4, 5, 1, 6, 0] rfl) hf)
  have J59 : ∀ (k9 : (Nat → Int64) → (Nat → Int64) → (Nat → Int64) → Int32 → Int64 → Int32 → Int32 → Option (Int64 × (Nat → Int64))) (hk9 : ∀ (vu : (Nat → Int64)) (x0 : Int32) (l4 : Int64) (x6 : Int32) (x7 : Int32) (H : Heap) (locs : List Loc) (ls : Array Slot), va_P (dC, dI) vwCl [kA2 cJ au 4 vu, kA2 cJ ap 4 vp, kA2 cJ aw 4 vw] H → va_D A [kA2 cJ au 4 vu, kA2 cJ ap 4 vp, kA2 cJ aw 4 vw] → va_S A s.heap H locs → lv_has ls 8 [(0, .int x0), (1, .ref ap), (2, .ref aw), (3, .ref au), (4, .long l4), (6, .int x6), (7, .int x7)] → k9 vu vp vw x0 l4 x6 x7 = some y → WW H locs 0 0 ls 9 []) (vu : (Nat → Int64)) (x0 : Int32) (l4 : Int64) (x7 : Int32) (st0 : Int32) (H : Heap) (locs : List Loc) (ls : Array Slot), va_P (dC, dI) vwCl [kA2 cJ au 4 vu, kA2 cJ ap 4 vp, kA2 cJ aw 4 vw] H → va_D A [kA2 cJ au 4 vu, kA2 cJ ap 4 vp, kA2 cJ aw 4 vw] → va_S A s.heap H locs → lv_has ls 8 [(0, .int x0), (1, .ref ap), (2, .ref aw), (3, .ref au), (4, .long l4), (7, .int x7)] → fL_common_59 k9 vu vp vw x0 l4 x7 st0 = some y → WW H locs 0 0 ls 59 [.int st0] := by
    intro k9 hk9 vu x0 l4 x7 st0 H locs ls hP hD hS hl hf
    unfold fL_common_59 at hf
    refine (hWW _ _ _ _ _ _ _).2 ?_
    refine lv_istore (lv' := [(6, .int st0), (0, .int x0), (1, .ref ap), (2, .ref aw), (3, .ref au), (4, .long l4), (7, .int x7)]) hx hb dL_common_59 hl (by decide) rfl (fun ls hl => ?_)
    refine lv_iload hx hb dL_common_61 (lv_at hl 0 rfl) ?_
    refine lv_if_eq (tgt := 86) hx hb dL_common_63 (by decide) (fun c11 => ?_) (fun c11 => ?_)
    · have hf := oif_t c11 hf
      refine lv_lconst (v := 1) hx hb dL_common_86 (by decide) ?_
      exact (hWW _ _ _ _ _ _ _).1 (J87 k9 hk9 vu x0 st0 x7 (1 : Int64) H locs ls hP hD hS (lv_sub hl [1, 2, 3, 4, 0, 6] rfl) hf)
    · have hf := oif_f c11 hf
      refine lv_lload hx hb dL_common_66 (lv_at hl 5 rfl) ?_
      refine lv_lload hx hb dL_common_68 (lv_at hl 5 rfl) ?_
      refine lv_aload_n hx hb dL_common_70 rfl (lv_at hl 3 rfl) ?_
      refine lv_iload hx hb dL_common_71 (lv_at hl 6 rfl) ?_
      obtain ⟨hi12, hf⟩ := oinb rfl hf
      refine va_lald hx hb hK hP 2 1 rfl rfl hi12 dL_common_73 ?_
      obtain ⟨y13, hy13, hf⟩ := obind hf
      refine cg_l (ws := [kA2 cJ au 4 vu, kA2 cJ ap 4 vp, kA2 cJ aw 4 vw]) (wc := []) (wr := [kA2 cJ au 4 vu, kA2 cJ ap 4 vp, kA2 cJ aw 4 vw]) (w1 := []) (wo := [kA2 cJ au 4 vu, kA2 cJ ap 4 vp, kA2 cJ aw 4 vw]) hP hD hS hA (va_runS (As := [.long l4, .long (vw (x7).toNatClampNeg)]) (rest := [.long l4]) ⟨hx, hb, hml, hown, hts⟩ (mL_divisor l dC dI cI cJ  H.size l4 (vw (x7).toNatClampNeg) y13 hy13) (va_cwS 2 hts gL_common_L_divisor rfl rfl rfl (by decide +kernel) ⟨Nat.le_of_ble_eq_true rfl, Nat.le_of_ble_eq_true rfl⟩) ⟨cFB, cPre hK hN hS (va_free (wc := []) hD hS hA [] rfl) (hP.sub [] rfl) (hD.sub [] rfl rfl)⟩ rfl rfl hl.1 rfl (lv_room (Nat.le_of_ble_eq_true rfl)) dL_common_74 ⟨Nat.le_of_ble_eq_true rfl, Nat.le_of_ble_eq_true rfl⟩) [] [0, 1, 2] [0, 1, 2] rfl rfl rfl (by decide +kernel) rfl rfl (fun H locs hP hD hS => ?_)
      obtain ⟨hd14, hf⟩ := odiv hf
      refine lv_ldiv hx hb dL_common_77 hd14 ?_
      refine lv_aload_n hx hb dL_common_78 rfl (lv_at hl 3 rfl) ?_
      refine lv_iload hx hb dL_common_79 (lv_at hl 6 rfl) ?_
      obtain ⟨hi15, hf⟩ := oinb rfl hf
      refine va_lald hx hb hK hP 2 1 rfl rfl hi15 dL_common_81 ?_
      refine lv_lmul hx hb dL_common_82 ?_
      refine lv_goto (tgt := 87) hx hb dL_common_83 (by decide) ?_
      exact (hWW _ _ _ _ _ _ _).1 (J87 k9 hk9 vu x0 st0 x7 ((l4 / y13) * (vw (x7).toNatClampNeg)) H locs ls hP hD hS (lv_sub hl [1, 2, 3, 4, 0, 6] rfl) hf)
  have J58 : ∀ (k9 : (Nat → Int64) → (Nat → Int64) → (Nat → Int64) → Int32 → Int64 → Int32 → Int32 → Option (Int64 × (Nat → Int64))) (hk9 : ∀ (vu : (Nat → Int64)) (x0 : Int32) (l4 : Int64) (x6 : Int32) (x7 : Int32) (H : Heap) (locs : List Loc) (ls : Array Slot), va_P (dC, dI) vwCl [kA2 cJ au 4 vu, kA2 cJ ap 4 vp, kA2 cJ aw 4 vw] H → va_D A [kA2 cJ au 4 vu, kA2 cJ ap 4 vp, kA2 cJ aw 4 vw] → va_S A s.heap H locs → lv_has ls 8 [(0, .int x0), (1, .ref ap), (2, .ref aw), (3, .ref au), (4, .long l4), (6, .int x6), (7, .int x7)] → k9 vu vp vw x0 l4 x6 x7 = some y → WW H locs 0 0 ls 9 []) (vu : (Nat → Int64)) (x0 : Int32) (l4 : Int64) (x7 : Int32) (H : Heap) (locs : List Loc) (ls : Array Slot), va_P (dC, dI) vwCl [kA2 cJ au 4 vu, kA2 cJ ap 4 vp, kA2 cJ aw 4 vw] H → va_D A [kA2 cJ au 4 vu, kA2 cJ ap 4 vp, kA2 cJ aw 4 vw] → va_S A s.heap H locs → lv_has ls 8 [(0, .int x0), (1, .ref ap), (2, .ref aw), (3, .ref au), (4, .long l4), (7, .int x7)] → fL_common_58 k9 vu vp vw x0 l4 x7 = some y → WW H locs 0 0 ls 58 [] := by
    intro k9 hk9 vu x0 l4 x7 H locs ls hP hD hS hl hf
    unfold fL_common_58 at hf
    refine (hWW _ _ _ _ _ _ _).2 ?_
    refine lv_iconst (v := 0) hx hb dL_common_58 (by decide) ?_
    exact (hWW _ _ _ _ _ _ _).1 (J59 k9 hk9 vu x0 l4 x7 (0 : Int32) H locs ls hP hD hS (lv_sub hl [0, 1, 2, 3, 4, 5] rfl) hf)
  have L98 : ∀ (n : Nat) (vu : (Nat → Int64)) (x0 : Int32) (l4 : Int64) (x6 : Int32) (x7 : Int32) (H : Heap) (locs : List Loc) (ls : Array Slot), va_P (dC, dI) vwCl [kA2 cJ au 4 vu, kA2 cJ ap 4 vp, kA2 cJ aw 4 vw] H → va_D A [kA2 cJ au 4 vu, kA2 cJ ap 4 vp, kA2 cJ aw 4 vw] → va_S A s.heap H locs → lv_has ls 8 [(0, .int x0), (1, .ref ap), (2, .ref aw), (3, .ref au), (4, .long l4), (6, .int x6), (7, .int x7)] → fL_common_98 n vu vp vw x0 l4 x6 x7 = some y → WW H locs 0 0 ls 98 [] := by
    intro n
    induction n with
    | zero =>
      intro vu x0 l4 x6 x7 H locs ls hP hD hS hl hf
      exact onone hf
    | succ n ih =>
      intro vu x0 l4 x6 x7 H locs ls hP hD hS hl hf
      have hf : fL_common_98_b (fL_common_98 n) vu vp vw x0 l4 x6 x7 = some y := hf
      generalize fL_common_98 n = k98 at hf ih
      have hk98 := ih
      clear ih
      unfold fL_common_98_b at hf
      refine (hWW _ _ _ _ _ _ _).2 ?_
      refine lv_iload hx hb dL_common_98 (lv_at hl 6 rfl) ?_
      refine lv_iload_n hx hb dL_common_100 rfl (lv_at hl 0 rfl) ?_
      refine lv_icmp_ge (tgt := 131) hx hb dL_common_101 (by decide) (fun c17 => ?_) (fun c17 => ?_)
      · have hf := oif_t c17 hf
        refine lv_iload hx hb dL_common_131 (lv_at hl 5 rfl) ?_
        refine lv_if_eq (tgt := 141) hx hb dL_common_133 (by decide) (fun c18 => ?_) (fun c18 => ?_)
        · have hf := oif_t c18 hf
          refine lv_lconst (v := 0) hx hb dL_common_141 (by decide) ?_
          obtain rfl := Option.some.inj hf
          exact W.lret (v := 0) hx hb hr (fun t ht hW => ⟨⟨0, (), rfl, rfl, by rw [ht]; exact hP, hD⟩, hS.F ht⟩) hS.2.2 dL_common_142
        · have hf := oif_f c18 hf
          refine lv_lload hx hb dL_common_136 (lv_at hl 4 rfl) ?_
          refine lv_goto (tgt := 142) hx hb dL_common_138 (by decide) ?_
          obtain rfl := Option.some.inj hf
          exact W.lret (v := l4) hx hb hr (fun t ht hW => ⟨⟨l4, (), rfl, rfl, by rw [ht]; exact hP, hD⟩, hS.F ht⟩) hS.2.2 dL_common_142
      · have hf := oif_f c17 hf
        refine lv_iload hx hb dL_common_104 (lv_at hl 5 rfl) ?_
        refine lv_if_eq (tgt := 131) hx hb dL_common_106 (by decide) (fun c19 => ?_) (fun c19 => ?_)
        · have hf := oif_t c19 hf
          refine lv_iload hx hb dL_common_131 (lv_at hl 5 rfl) ?_
          refine lv_if_eq (tgt := 141) hx hb dL_common_133 (by decide) (fun c20 => ?_) (fun c20 => ?_)
          · have hf := oif_t c20 hf
            refine lv_lconst (v := 0) hx hb dL_common_141 (by decide) ?_
            obtain rfl := Option.some.inj hf
            exact W.lret (v := 0) hx hb hr (fun t ht hW => ⟨⟨0, (), rfl, rfl, by rw [ht]; exact hP, hD⟩, hS.F ht⟩) hS.2.2 dL_common_142
          · have hf := oif_f c20 hf
            refine lv_lload hx hb dL_common_136 (lv_at hl 4 rfl) ?_
            refine lv_goto (tgt := 142) hx hb dL_common_138 (by decide) ?_
            obtain rfl := Option.some.inj hf
            exact W.lret (v := l4) hx hb hr (fun t ht hW => ⟨⟨l4, (), rfl, rfl, by rw [ht]; exact hP, hD⟩, hS.F ht⟩) hS.2.2 dL_common_142
        · have hf := oif_f c19 hf
          refine lv_aload_n hx hb dL_common_109 rfl (lv_at hl 3 rfl) ?_
          refine lv_iload hx hb dL_common_110 (lv_at hl 6 rfl) ?_
          refine lv_aload_n hx hb dL_common_112 rfl (lv_at hl 1 rfl) ?_
          refine lv_iload hx hb dL_common_113 (lv_at hl 6 rfl) ?_
          obtain ⟨hi21, hf⟩ := oinb rfl hf
          refine va_lald hx hb hK hP 1 1 rfl rfl hi21 dL_common_115 ?_
          refine lv_lload hx hb dL_common_116 (lv_at hl 4 rfl) ?_
          refine lv_aload_n hx hb dL_common_118 rfl (lv_at hl 2 rfl) ?_
          refine lv_iload hx hb dL_common_119 (lv_at hl 6 rfl) ?_
          obtain ⟨hi22, hf⟩ := oinb rfl hf
          refine va_lald hx hb hK hP 2 1 rfl rfl hi22 dL_common_121 ?_
          obtain ⟨hd23, hf⟩ := odiv hf
          refine lv_ldiv hx hb dL_common_122 hd23 ?_
          refine lv_lmul hx hb dL_common_123 ?_
          obtain ⟨hi24, hf⟩ := oinb rfl hf
          obtain ⟨b25, eb25, hf⟩ := elet_out hf
          refine va_last hx hb hK hP hD hS 0 1 rfl rfl hi24 dL_common_124 (fun H locs hP hD hS => ?_)
          have hP : va_P (dC, dI) vwCl [kA2 cJ au 4 b25, kA2 cJ ap 4 vp, kA2 cJ aw 4 vw] H := by rw [eb25]; exact hP
          have hD : va_D A [kA2 cJ au 4 b25, kA2 cJ ap 4 vp, kA2 cJ aw 4 vw] := by rw [eb25]; exact hD
          obtain ⟨z26, ez26, hf⟩ := elet_out hf
          refine lv_iinc (v := z26) (lv' := [(7, .int z26), (0, .int x0), (1, .ref ap), (2, .ref aw), (3, .ref au), (4, .long l4), (6, .int x6)]) hx hb dL_common_125 hl (k := 6) rfl (by rw [ez26]; rfl) (by decide) rfl (fun ls hl => ?_)
          refine lv_goto (tgt := 98) hx hb dL_common_128 (by decide) ?_
          exact (hWW _ _ _ _ _ _ _).1 (hk98 b25 x0 l4 x6 z26 H locs ls hP hD hS (lv_sub hl [1, 2, 3, 4, 5, 6, 0] rfl) hf)
  have L9 : ∀ (n : Nat) (vu : (Nat → Int64)) (x0 : Int32) (l4 : Int64) (x6 : Int32) (x7 : Int32) (H : Heap) (locs : List Loc) (ls : Array Slot), va_P (dC, dI) vwCl [kA2 cJ au 4 vu, kA2 cJ ap 4 vp, kA2 cJ aw 4 vw] H → va_D A [kA2 cJ au 4 vu, kA2 cJ ap 4 vp, kA2 cJ aw 4 vw] → va_S A s.heap H locs → lv_has ls 8 [(0, .int x0), (1, .ref ap), (2, .ref aw), (3, .ref au), (4, .long l4), (6, .int x6), (7, .int x7)] → fL_common_9 n vu vp vw x0 l4 x6 x7 = some y → WW H locs 0 0 ls 9 [] := by
    intro n
    induction n with
    | zero =>
      intro vu x0 l4 x6 x7 H locs ls hP hD hS hl hf
      exact onone hf
    | succ n ih =>
      intro vu x0 l4 x6 x7 H locs ls hP hD hS hl hf
      have hf : fL_common_9_b (fL_common_9 n) vu vp vw x0 l4 x6 x7 = some y := hf
      generalize fL_common_9 n = k9 at hf ih
      have hk9 := ih
      clear ih
      unfold fL_common_9_b at hf
      refine (hWW _ _ _ _ _ _ _).2 ?_
      refine lv_iload hx hb dL_common_9 (lv_at hl 6 rfl) ?_
      refine lv_iload_n hx hb dL_common_11 rfl (lv_at hl 0 rfl) ?_
      refine lv_icmp_ge (tgt := 95) hx hb dL_common_12 (by decide) (fun c1 => ?_) (fun c1 => ?_)
      · have hf := oif_t c1 hf
        refine lv_iconst (v := 0) hx hb dL_common_95 (by decide) ?_
        refine lv_istore (lv' := [(7, .int 0), (0, .int x0), (1, .ref ap), (2, .ref aw), (3, .ref au), (4, .long l4), (6, .int x6)]) hx hb dL_common_96 hl (by decide) rfl (fun ls hl => ?_)
        exact (hWW _ _ _ _ _ _ _).1 (L98 FU vu x0 l4 x6 (0 : Int32) H locs ls hP hD hS (lv_sub hl [1, 2, 3, 4, 5, 6, 0] rfl) hf)
      · have hf := oif_f c1 hf
        refine lv_iload hx hb dL_common_15 (lv_at hl 5 rfl) ?_
        refine lv_if_eq (tgt := 58) hx hb dL_common_17 (by decide) (fun c2 => ?_) (fun c2 => ?_)
        · have hf := oif_t c2 hf
          exact (hWW _ _ _ _ _ _ _).1 (J58 k9 hk9 vu x0 l4 x7 H locs ls hP hD hS (lv_sub hl [0, 1, 2, 3, 4, 6] rfl) hf)
        · have hf := oif_f c2 hf
          refine lv_aload_n hx hb dL_common_20 rfl (lv_at hl 2 rfl) ?_
          refine lv_iload hx hb dL_common_21 (lv_at hl 6 rfl) ?_
          obtain ⟨hi3, hf⟩ := oinb rfl hf
          refine va_lald hx hb hK hP 2 1 rfl rfl hi3 dL_common_23 ?_
          refine lv_lconst (v := 0) hx hb dL_common_24 (by decide) ?_
          refine W.lcmp hx hb dL_common_25 ?_
          refine lv_if_le (tgt := 58) hx hb dL_common_26 (by decide) (fun c4 => ?_) (fun c4 => ?_)
          · have hf := oif_t c4 hf
            exact (hWW _ _ _ _ _ _ _).1 (J58 k9 hk9 vu x0 l4 x7 H locs ls hP hD hS (lv_sub hl [0, 1, 2, 3, 4, 6] rfl) hf)
          · have hf := oif_f c4 hf
            refine lv_aload_n hx hb dL_common_29 rfl (lv_at hl 1 rfl) ?_
            refine lv_iload hx hb dL_common_30 (lv_at hl 6 rfl) ?_
            obtain ⟨hi5, hf⟩ := oinb rfl hf
            refine va_lald hx hb hK hP 1 1 rfl rfl hi5 dL_common_32 ?_
            refine lv_lconst (v := 0) hx hb dL_common_33 (by decide) ?_
            refine W.lcmp hx hb dL_common_34 ?_
            refine lv_if_lt (tgt := 58) hx hb dL_common_35 (by decide) (fun c6 => ?_) (fun c6 => ?_)
            · have hf := oif_t c6 hf
              exact (hWW _ _ _ _ _ _ _).1 (J58 k9 hk9 vu x0 l4 x7 H locs ls hP hD hS (lv_sub hl [0, 1, 2, 3, 4, 6] rfl) hf)
            · have hf := oif_f c6 hf
              refine lv_aload_n hx hb dL_common_38 rfl (lv_at hl 1 rfl) ?_
              refine lv_iload hx hb dL_common_39 (lv_at hl 6 rfl) ?_
              obtain ⟨hi7, hf⟩ := oinb rfl hf
              refine va_lald hx hb hK hP 1 1 rfl rfl hi7 dL_common_41 ?_
              refine lv_aload_n hx hb dL_common_42 rfl (lv_at hl 2 rfl) ?_
              refine lv_iload hx hb dL_common_43 (lv_at hl 6 rfl) ?_
              obtain ⟨hi8, hf⟩ := oinb rfl hf
              refine va_lald hx hb hK hP 2 1 rfl rfl hi8 dL_common_45 ?_
              obtain ⟨y9, hy9, hf⟩ := obind hf
              refine cg_l (ws := [kA2 cJ au 4 vu, kA2 cJ ap 4 vp, kA2 cJ aw 4 vw]) (wc := []) (wr := [kA2 cJ au 4 vu, kA2 cJ ap 4 vp, kA2 cJ aw 4 vw]) (w1 := []) (wo := [kA2 cJ au 4 vu, kA2 cJ ap 4 vp, kA2 cJ aw 4 vw]) hP hD hS hA (va_runS (As := [.long (vp (x7).toNatClampNeg), .long (vw (x7).toNatClampNeg)]) (rest := []) ⟨hx, hb, hml, hown, hts⟩ (mL_divisor l dC dI cI cJ  H.size (vp (x7).toNatClampNeg) (vw (x7).toNatClampNeg) y9 hy9) (va_cwS 2 hts gL_common_L_divisor rfl rfl rfl (by decide +kernel) ⟨Nat.le_of_ble_eq_true rfl, Nat.le_of_ble_eq_true rfl⟩) ⟨cFB, cPre hK hN hS (va_free (wc := []) hD hS hA [] rfl) (hP.sub [] rfl) (hD.sub [] rfl rfl)⟩ rfl rfl hl.1 rfl (lv_room (Nat.le_of_ble_eq_true rfl)) dL_common_46 ⟨Nat.le_of_ble_eq_true rfl, Nat.le_of_ble_eq_true rfl⟩) [] [0, 1, 2] [0, 1, 2] rfl rfl rfl (by decide +kernel) rfl rfl (fun H locs hP hD hS => ?_)
              refine lv_lconst (v := 1) hx hb dL_common_49 (by decide) ?_
              refine W.lcmp hx hb dL_common_50 ?_
              refine lv_if_ne (tgt := 58) hx hb dL_common_51 (by decide) (fun c10 => ?_) (fun c10 => ?_)
              · have hf := oif_f c10 hf
                exact (hWW _ _ _ _ _ _ _).1 (J58 k9 hk9 vu x0 l4 x7 H locs ls hP hD hS (lv_sub hl [0, 1, 2, 3, 4, 6] rfl) hf)
              · have hf := oif_t c10 hf
                refine lv_iconst (v := 1) hx hb dL_common_54 (by decide) ?_
                refine lv_goto (tgt := 59) hx hb dL_common_55 (by decide) ?_
                exact (hWW _ _ _ _ _ _ _).1 (J59 k9 hk9 vu x0 l4 x7 (1 : Int32) H locs ls hP hD hS (lv_sub hl [0, 1, 2, 3, 4, 6] rfl) hf)
  refine (hWW _ _ _ _ _ _ _).2 ?_
  unfold fL_common at hf
  refine lv_lconst (v := 1) hx hb dL_common_0 (by decide) ?_
  refine lv_lstore (lv' := [(4, .long 1), (0, .int i0), (1, .ref ap), (2, .ref aw), (3, .ref au)]) hx hb dL_common_1 hl (by decide) rfl (fun ls hl => ?_)
  refine lv_iconst (v := 1) hx hb dL_common_3 (by decide) ?_
  refine lv_istore (lv' := [(6, .int 1), (4, .long 1), (0, .int i0), (1, .ref ap), (2, .ref aw), (3, .ref au)]) hx hb dL_common_4 hl (by decide) rfl (fun ls hl => ?_)
  refine lv_iconst (v := 0) hx hb dL_common_6 (by decide) ?_
  refine lv_istore (lv' := [(7, .int 0), (6, .int 1), (4, .long 1), (0, .int i0), (1, .ref ap), (2, .ref aw), (3, .ref au)]) hx hb dL_common_7 hl (by decide) rfl (fun ls hl => ?_)
  exact (hWW _ _ _ _ _ _ _).1 (L9 FU vu i0 (1 : Int64) (1 : Int32) (0 : Int32) H locs ls hP hD hS (lv_sub hl [3, 4, 5, 6, 2, 1, 0] rfl) hf)
