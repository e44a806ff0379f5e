def fX0_hasPlate (vL : BX0) (i1 : Int32) : Option Int32 :=
  if i1 < 0 then (some 0) else (if (p0_plates vL) ≤ i1 then (some 0) else (some 1))
set_option maxHeartbeats 8000000 in
set_option maxRecDepth 100000 in
theorem mX0_hasPlate (l : Launch) (dC : Nat → ClassId) (dI : Nat → Nat → Nat) (cI cJ : ClassId) (aL : Nat → Nat) (sz : Nat) (vL : BX0) (i1 : Int32) (y : Int32) (hf : fX0_hasPlate vL i1 = some y) : Met l yX0_hasPlate wsX0_hasPlate ({ frames := 0, cells := 0, slots := 0, locals := 0 }) (cPc dC dI cI cJ [.ref (aL 0), .int i1] [k0_0 aL vL, k0_1 cI aL vL, k0_2 cI aL vL, k0_3 cI aL vL, k0_4 cI aL vL] sz) (va_Qi (fun r (_ : Unit) => r = y) (fun _ t => cB dC dI (va_A [k0_0 aL vL, k0_1 cI aL vL, k0_2 cI aL vL, k0_3 cI aL vL, k0_4 cI aL vL] sz) [k0_0 aL vL, k0_1 cI aL vL, k0_2 cI aL vL, k0_3 cI aL vL, k0_4 cI aL vL] t) (va_A [k0_0 aL vL, k0_1 cI aL vL, k0_2 cI aL vL, k0_3 cI aL vL, k0_4 cI aL vL] sz)) 0 0 (va_A [k0_0 aL vL, k0_1 cI aL vL, k0_2 cI aL vL, k0_3 cI aL vL, k0_4 cI aL vL] sz) := by
  refine Met.ofW (cc := cX0_hasPlate) (maxL := 2) (ret := (some .boolean)) (by decide) rfl ?_
  intro p e s m args below meth c s₁ B hml hv
  obtain ⟨rfl, hsz, hP, hK, hD0, hN⟩ := hv
  have hx := B.exec
  have hb := B.bytes
  have hr := B.returns
  have hts := atoms_spec (ws := wsX0_hasPlate) B.pre
  have hown : s.vm.findClass RX0 = some m.cls := findClass_of_methodNamed B.named
  have hlocks := B.notSynchronized
  subst hsz
  have hD := hD0.self (sz := s.heap.size)
  generalize hAe : va_A [k0_0 aL vL, k0_1 cI aL vL, k0_2 cI aL vL, k0_3 cI aL vL, k0_4 cI aL vL] s.heap.size = A at hD hN ⊢
  have hA : ∀ q : Nat, s.heap.size ≤ q → A q := fun q h => by rw [← hAe]; exact Or.inr h
  have hP : va_P (dC, dI) vwCl [k0_0 aL vL, k0_1 cI aL vL, k0_2 cI aL vL, k0_3 cI aL vL, k0_4 cI aL vL] s.heap := hP
  have hl := lv_entry ([.ref (aL 0), .int i1]) (n := 2) (Nat.le_of_ble_eq_true rfl)
  rw [lg_entry_eq]
  generalize (lg_sl ([.ref (aL 0), .int i1]) ++ List.replicate (2 - (lg_sl ([.ref (aL 0), .int i1])).length) Slot.unset).toArray = ls at hl ⊢
  have hl : lv_has ls 2 [(0, .ref (aL 0)), (1, .int i1)] := hl
  have hiX0 : ∀ w ∈ u_ws RX0 TX0 6, w ∈ wsX0_hasPlate := by decide +kernel
  have hgX0_15 := hts (.fieldLink RX0 15 "SpringPlates$Layout" "plates" "I") (by decide +kernel)
  refine nameH (fun H locs hHe hLe => ?_)
  have hP : va_P (dC, dI) vwCl [k0_0 aL vL, k0_1 cI aL vL, k0_2 cI aL vL, k0_3 cI aL vL, k0_4 cI aL vL] H := by rw [hHe]; exact hP
  have hS : va_S A s.heap H locs := by rw [hHe, hLe]; exact va_S.rf
  unfold fX0_hasPlate at hf
  refine lv_iload_n hx hb dX0_hasPlate_0 rfl (lv_at hl 1 rfl) ?_
  refine lv_if_lt (tgt := 16) hx hb dX0_hasPlate_1 (by decide) (fun c1 => ?_) (fun c1 => ?_)
  · have hf := oif_t c1 hf
    refine lv_iconst (v := 0) hx hb dX0_hasPlate_16 (by decide) ?_
    obtain rfl := Option.some.inj hf
    exact W.zret (v := 0) hx hb hr rfl (fun t ht hW => ⟨⟨0, (), rfl, by rw [ht]; exact hP, hD⟩, hS.F ht⟩) hS.2.2 dX0_hasPlate_17
  · have hf := oif_f c1 hf
    refine lv_iload_n hx hb dX0_hasPlate_4 rfl (lv_at hl 1 rfl) ?_
    refine lv_aload_n hx hb dX0_hasPlate_5 rfl (lv_at hl 0 rfl) ?_
    refine va_get (D := (dC, dI)) (ci := 0) (v := .int (p0_plates vL)) (C := RX0) (T := TX0) (N := 6) hx hb hts hiX0 hown hK hP 0 rfl rfl 1 (by decide) hgX0_15 (fun _ h9 => h9) rfl dX0_hasPlate_6 ?_
    refine lv_icmp_ge (tgt := 16) hx hb dX0_hasPlate_9 (by decide) (fun c2 => ?_) (fun c2 => ?_)
    · have hf := oif_t c2 hf
      refine lv_iconst (v := 0) hx hb dX0_hasPlate_16 (by decide) ?_
      obtain rfl := Option.some.inj hf
      exact W.zret (v := 0) hx hb hr rfl (fun t ht hW => ⟨⟨0, (), rfl, by rw [ht]; exact hP, hD⟩, hS.F ht⟩) hS.2.2 dX0_hasPlate_17
    · have hf := oif_f c2 hf
      refine lv_iconst (v := 1) hx hb dX0_hasPlate_12 (by decide) ?_
      refine lv_goto (tgt := 17) hx hb dX0_hasPlate_13 (by decide) ?_
      obtain rfl := Option.some.inj hf
      exact W.zret (v := 1) hx hb hr rfl (fun t ht hW => ⟨⟨1, (), rfl, by rw [ht]; exact hP, hD⟩, hS.F ht⟩) hS.2.2 dX0_hasPlate_17
def fX0_hasSpring (vL : BX0) (i1 : Int32) : Option Int32 :=
  if i1 < 0 then (some 0) else (if (p0_plates vL) < i1 then (some 0) else (some 1))
set_option maxHeartbeats 8000000 in
set_option maxRecDepth 100000 in
theorem mX0_hasSpring (l : Launch) (dC : Nat → ClassId) (dI : Nat → Nat → Nat) (cI cJ : ClassId) (aL : Nat → Nat) (sz : Nat) (vL : BX0) (i1 : Int32) (y : Int32) (hf : fX0_hasSpring vL i1 = some y) : Met l yX0_hasSpring wsX0_hasSpring ({ frames := 0, cells := 0, slots := 0, locals := 0 }) (cPc dC dI cI cJ [.ref (aL 0), .int i1] [k0_0 aL vL, k0_1 cI aL vL, k0_2 cI aL vL, k0_3 cI aL vL, k0_4 cI aL vL] sz) (va_Qi (fun r (_ : Unit) => r = y) (fun _ t => cB dC dI (va_A [k0_0 aL vL, k0_1 cI aL vL, k0_2 cI aL vL, k0_3 cI aL vL, k0_4 cI aL vL] sz) [k0_0 aL vL, k0_1 cI aL vL, k0_2 cI aL vL, k0_3 cI aL vL, k0_4 cI aL vL] t) (va_A [k0_0 aL vL, k0_1 cI aL vL, k0_2 cI aL vL, k0_3 cI aL vL, k0_4 cI aL vL] sz)) 0 0 (va_A [k0_0 aL vL, k0_1 cI aL vL, k0_2 cI aL vL, k0_3 cI aL vL, k0_4 cI aL vL] sz) := by
  refine Met.ofW (cc := cX0_hasSpring) (maxL := 2) (ret := (some .boolean)) (by decide) rfl ?_
  intro p e s m args below meth c s₁ B hml hv
  obtain ⟨rfl, hsz, hP, hK, hD0, hN⟩ := hv
  have hx := B.exec
  have hb := B.bytes
  have hr := B.returns
  have hts := atoms_spec (ws := wsX0_hasSpring) B.pre
  have hown : s.vm.findClass RX0 = some m.cls := findClass_of_methodNamed B.named
  have hlocks := B.notSynchronized
  subst hsz
  have hD := hD0.self (sz := s.heap.size)
  generalize hAe : va_A [k0_0 aL vL, k0_1 cI aL vL, k0_2 cI aL vL, k0_3 cI aL vL, k0_4 cI aL vL] s.heap.size = A at hD hN ⊢
  have hA : ∀ q : Nat, s.heap.size ≤ q → A q := fun q h => by rw [← hAe]; exact Or.inr h
  have hP : va_P (dC, dI) vwCl [k0_0 aL vL, k0_1 cI aL vL, k0_2 cI aL vL, k0_3 cI aL vL, k0_4 cI aL vL] s.heap := hP
  have hl := lv_entry ([.ref (aL 0), .int i1]) (n := 2) (Nat.le_of_ble_eq_true rfl)
  rw [lg_entry_eq]
  generalize (lg_sl ([.ref (aL 0), .int i1]) ++ List.replicate (2 - (lg_sl ([.ref (aL 0), .int i1])).length) Slot.unset).toArray = ls at hl ⊢
  have hl : lv_has ls 2 [(0, .ref (aL 0)), (1, .int i1)] := hl
  have hiX0 : ∀ w ∈ u_ws RX0 TX0 6, w ∈ wsX0_hasSpring := by decide +kernel
  have hgX0_15 := hts (.fieldLink RX0 15 "SpringPlates$Layout" "plates" "I") (by decide +kernel)
  refine nameH (fun H locs hHe hLe => ?_)
  have hP : va_P (dC, dI) vwCl [k0_0 aL vL, k0_1 cI aL vL, k0_2 cI aL vL, k0_3 cI aL vL, k0_4 cI aL vL] H := by rw [hHe]; exact hP
  have hS : va_S A s.heap H locs := by rw [hHe, hLe]; exact va_S.rf
  unfold fX0_hasSpring at hf
  refine lv_iload_n hx hb dX0_hasSpring_0 rfl (lv_at hl 1 rfl) ?_
  refine lv_if_lt (tgt := 16) hx hb dX0_hasSpring_1 (by decide) (fun c1 => ?_) (fun c1 => ?_)
  · have hf := oif_t c1 hf
    refine lv_iconst (v := 0) hx hb dX0_hasSpring_16 (by decide) ?_
    obtain rfl := Option.some.inj hf
    exact W.zret (v := 0) hx hb hr rfl (fun t ht hW => ⟨⟨0, (), rfl, by rw [ht]; exact hP, hD⟩, hS.F ht⟩) hS.2.2 dX0_hasSpring_17
  · have hf := oif_f c1 hf
    refine lv_iload_n hx hb dX0_hasSpring_4 rfl (lv_at hl 1 rfl) ?_
    refine lv_aload_n hx hb dX0_hasSpring_5 rfl (lv_at hl 0 rfl) ?_
    refine va_get (D := (dC, dI)) (ci := 0) (v := .int (p0_plates vL)) (C := RX0) (T := TX0) (N := 6) hx hb hts hiX0 hown hK hP 0 rfl rfl 1 (by decide) hgX0_15 (fun _ h9 => h9) rfl dX0_hasSpring_6 ?_
    refine lv_icmp_gt (tgt := 16) hx hb dX0_hasSpring_9 (by decide) (fun c2 => ?_) (fun c2 => ?_)
    · have hf := oif_t c2 hf
      refine lv_iconst (v := 0) hx hb dX0_hasSpring_16 (by decide) ?_
      obtain rfl := Option.some.inj hf
      exact W.zret (v := 0) hx hb hr rfl (fun t ht hW => ⟨⟨0, (), rfl, by rw [ht]; exact hP, hD⟩, hS.F ht⟩) hS.2.2 dX0_hasSpring_17
    · have hf := oif_f c2 hf
      refine lv_iconst (v := 1) hx hb dX0_hasSpring_12 (by decide) ?_
      refine lv_goto (tgt := 17) hx hb dX0_hasSpring_13 (by decide) ?_
      obtain rfl := Option.some.inj hf
      exact W.zret (v := 1) hx hb hr rfl (fun t ht hW => ⟨⟨1, (), rfl, by rw [ht]; exact hP, hD⟩, hS.F ht⟩) hS.2.2 dX0_hasSpring_17
def fX0_stopOf (vL : BX0) (i1 : Int32) (i2 : Int32) : Option Int32 :=
  if inB (((2 : Int32) * i1) + i2) 8 = true then (some ((p0_stops vL) ((((2 : Int32) * i1) + i2)).toNatClampNeg)) else none
set_option maxHeartbeats 8000000 in
set_option maxRecDepth 100000 in
theorem mX0_stopOf (l : Launch) (dC : Nat → ClassId) (dI : Nat → Nat → Nat) (cI cJ : ClassId) (aL : Nat → Nat) (sz : Nat) (vL : BX0) (i1 : Int32) (i2 : Int32) (y : Int32) (hf : fX0_stopOf vL i1 i2 = some y) : Met l yX0_stopOf wsX0_stopOf ({ frames := 0, cells := 0, slots := 0, locals := 0 }) (cPc dC dI cI cJ [.ref (aL 0), .int i1, .int i2] [k0_0 aL vL, k0_1 cI aL vL, k0_2 cI aL vL, k0_3 cI aL vL, k0_4 cI aL vL] sz) (va_Qi (fun r (_ : Unit) => r = y) (fun _ t => cB dC dI (va_A [k0_0 aL vL, k0_1 cI aL vL, k0_2 cI aL vL, k0_3 cI aL vL, k0_4 cI aL vL] sz) [k0_0 aL vL, k0_1 cI aL vL, k0_2 cI aL vL, k0_3 cI aL vL, k0_4 cI aL vL] t) (va_A [k0_0 aL vL, k0_1 cI aL vL, k0_2 cI aL vL, k0_3 cI aL vL, k0_4 cI aL vL] sz)) 0 0 (va_A [k0_0 aL vL, k0_1 cI aL vL, k0_2 cI aL vL, k0_3 cI aL vL, k0_4 cI aL vL] sz) := by
  refine Met.ofW (cc := cX0_stopOf) (maxL := 3) (ret := (some .int)) (by decide) rfl ?_
  intro p e s m args below meth c s₁ B hml hv
  obtain ⟨rfl, hsz, hP, hK, hD0, hN⟩ := hv
  have hx := B.exec
  have hb := B.bytes
  have hr := B.returns
  have hts := atoms_spec (ws := wsX0_stopOf) B.pre
  have hown : s.vm.findClass RX0 = some m.cls := findClass_of_methodNamed B.named
  have hlocks := B.notSynchronized
  subst hsz
  have hD := hD0.self (sz := s.heap.size)
  generalize hAe : va_A [k0_0 aL vL, k0_1 cI aL vL, k0_2 cI aL vL, k0_3 cI aL vL, k0_4 cI aL vL] s.heap.size = A at hD hN ⊢
  have hA : ∀ q : Nat, s.heap.size ≤ q → A q := fun q h => by rw [← hAe]; exact Or.inr h
  have hP : va_P (dC, dI) vwCl [k0_0 aL vL, k0_1 cI aL vL, k0_2 cI aL vL, k0_3 cI aL vL, k0_4 cI aL vL] s.heap := hP
  have hl := lv_entry ([.ref (aL 0), .int i1, .int i2]) (n := 3) (Nat.le_of_ble_eq_true rfl)
  rw [lg_entry_eq]
  generalize (lg_sl ([.ref (aL 0), .int i1, .int i2]) ++ List.replicate (3 - (lg_sl ([.ref (aL 0), .int i1, .int i2])).length) Slot.unset).toArray = ls at hl ⊢
  have hl : lv_has ls 3 [(0, .ref (aL 0)), (1, .int i1), (2, .int i2)] := hl
  have hiX0 : ∀ w ∈ u_ws RX0 TX0 6, w ∈ wsX0_stopOf := by decide +kernel
  have hgX0_28 := hts (.fieldLink RX0 28 "SpringPlates$Layout" "stops" "[I") (by decide +kernel)
  refine nameH (fun H locs hHe hLe => ?_)
  have hP : va_P (dC, dI) vwCl [k0_0 aL vL, k0_1 cI aL vL, k0_2 cI aL vL, k0_3 cI aL vL, k0_4 cI aL vL] H := by rw [hHe]; exact hP
  have hS : va_S A s.heap H locs := by rw [hHe, hLe]; exact va_S.rf
  unfold fX0_stopOf at hf
  refine lv_aload_n hx hb dX0_stopOf_0 rfl (lv_at hl 0 rfl) ?_
  refine va_get (D := (dC, dI)) (ci := 0) (v := .ref (aL 4)) (C := RX0) (T := TX0) (N := 6) hx hb hts hiX0 hown hK hP 0 rfl rfl 5 (by decide) hgX0_28 (fun _ h9 => h9) rfl dX0_stopOf_1 ?_
  refine lv_iconst (v := 2) hx hb dX0_stopOf_4 (by decide) ?_
  refine lv_iload_n hx hb dX0_stopOf_5 rfl (lv_at hl 1 rfl) ?_
  refine lv_imul hx hb dX0_stopOf_6 ?_
  refine lv_iload_n hx hb dX0_stopOf_7 rfl (lv_at hl 2 rfl) ?_
  refine lv_iadd hx hb dX0_stopOf_8 ?_
  obtain ⟨hi1, hf⟩ := oinb rfl hf
  refine va_iald hx hb hK hP 4 0 rfl rfl hi1 dX0_stopOf_9 ?_
  obtain rfl := Option.some.inj hf
  exact W.iret (v := ((p0_stops vL) ((((2 : Int32) * i1) + i2)).toNatClampNeg)) hx hb hr (fun t ht hW => ⟨⟨((p0_stops vL) ((((2 : Int32) * i1) + i2)).toNatClampNeg), (), rfl, rfl, by rw [ht]; exact hP, hD⟩, hS.F ht⟩) hS.2.2 dX0_stopOf_10
def fX0_putNewSpring (vL : BX0) (i1 : Int32) : Option BX0 :=
  if inB i1 5 = true then (elet (s0_strengths vL (upd (p0_strengths vL) (i1).toNatClampNeg 1)) (fun b2 => if inB i1 5 = true then (elet (s0_lengths b2 (upd (p0_lengths b2) (i1).toNatClampNeg 10)) (fun b4 => some b4)) else none)) else none
set_option maxHeartbeats 8000000 in
set_option maxRecDepth 100000 in
theorem mX0_putNewSpring (l : Launch) (dC : Nat → ClassId) (dI : Nat → Nat → Nat) (cI cJ : ClassId) (aL : Nat → Nat) (sz : Nat) (vL : BX0) (i1 : Int32) (y : BX0) (hf : fX0_putNewSpring vL i1 = some y) : Met l yX0_putNewSpring wsX0_putNewSpring ({ frames := 0, cells := 0, slots := 0, locals := 0 }) (cPc dC dI cI cJ [.ref (aL 0), .int i1] [k0_0 aL vL, k0_1 cI aL vL, k0_2 cI aL vL, k0_3 cI aL vL, k0_4 cI aL vL] sz) (va_Qv (fun (_ : Unit) => True) (fun _ t => cB dC dI (va_A [k0_0 aL vL, k0_1 cI aL vL, k0_2 cI aL vL, k0_3 cI aL vL, k0_4 cI aL vL] sz) [k0_0 aL y, k0_1 cI aL y, k0_2 cI aL y, k0_3 cI aL y, k0_4 cI aL y] t) (va_A [k0_0 aL vL, k0_1 cI aL vL, k0_2 cI aL vL, k0_3 cI aL vL, k0_4 cI aL vL] sz)) 0 0 (va_A [k0_0 aL vL, k0_1 cI aL vL, k0_2 cI aL vL, k0_3 cI aL vL, k0_4 cI aL vL] sz) := by
  refine Met.ofW (cc := cX0_putNewSpring) (maxL := 2) (ret := none) (by decide) rfl ?_
  intro p e s m args below meth c s₁ B hml hv
  obtain ⟨rfl, hsz, hP, hK, hD0, hN⟩ := hv
  have hx := B.exec
  have hb := B.bytes
  have hr := B.returns
  have hts := atoms_spec (ws := wsX0_putNewSpring) B.pre
  have hown : s.vm.findClass RX0 = some m.cls := findClass_of_methodNamed B.named
  have hlocks := B.notSynchronized
  subst hsz
  have hD := hD0.self (sz := s.heap.size)
  generalize hAe : va_A [k0_0 aL vL, k0_1 cI aL vL, k0_2 cI aL vL, k0_3 cI aL vL, k0_4 cI aL vL] s.heap.size = A at hD hN ⊢
  have hA : ∀ q : Nat, s.heap.size ≤ q → A q := fun q h => by rw [← hAe]; exact Or.inr h
  have hP : va_P (dC, dI) vwCl [k0_0 aL vL, k0_1 cI aL vL, k0_2 cI aL vL, k0_3 cI aL vL, k0_4 cI aL vL] s.heap := hP
  have hl := lv_entry ([.ref (aL 0), .int i1]) (n := 2) (Nat.le_of_ble_eq_true rfl)
  rw [lg_entry_eq]
  generalize (lg_sl ([.ref (aL 0), .int i1]) ++ List.replicate (2 - (lg_sl ([.ref (aL 0), .int i1])).length) Slot.unset).toArray = ls at hl ⊢
  have hl : lv_has ls 2 [(0, .ref (aL 0)), (1, .int i1)] := hl
  have hiX0 : ∀ w ∈ u_ws RX0 TX0 6, w ∈ wsX0_putNewSpring := by decide +kernel
  have hgX0_18 := hts (.fieldLink RX0 18 "SpringPlates$Layout" "strengths" "[I") (by decide +kernel)
  have hgX0_22 := hts (.fieldLink RX0 22 "SpringPlates$Layout" "lengths" "[I") (by decide +kernel)
  refine nameH (fun H locs hHe hLe => ?_)
  have hP : va_P (dC, dI) vwCl [k0_0 aL vL, k0_1 cI aL vL, k0_2 cI aL vL, k0_3 cI aL vL, k0_4 cI aL vL] H := by rw [hHe]; exact hP
  have hS : va_S A s.heap H locs := by rw [hHe, hLe]; exact va_S.rf
  unfold fX0_putNewSpring at hf
  refine lv_aload_n hx hb dX0_putNewSpring_0 rfl (lv_at hl 0 rfl) ?_
  refine va_get (D := (dC, dI)) (ci := 0) (v := .ref (aL 1)) (C := RX0) (T := TX0) (N := 6) hx hb hts hiX0 hown hK hP 0 rfl rfl 2 (by decide) hgX0_18 (fun _ h9 => h9) rfl dX0_putNewSpring_1 ?_
  refine lv_iload_n hx hb dX0_putNewSpring_4 rfl (lv_at hl 1 rfl) ?_
  refine lv_iconst (v := 1) hx hb dX0_putNewSpring_5 (by decide) ?_
  obtain ⟨hi1, hf⟩ := oinb rfl hf
  obtain ⟨b2, eb2, hf⟩ := elet_out hf
  refine va_iast hx hb hK hP hD hS 1 0 rfl rfl hi1 dX0_putNewSpring_6 (fun H locs hP hD hS => ?_)
  have hP : va_P (dC, dI) vwCl [k0_0 aL b2, k0_1 cI aL b2, k0_2 cI aL b2, k0_3 cI aL b2, k0_4 cI aL b2] H := by rw [eb2]; exact hP
  have hD : va_D A [k0_0 aL b2, k0_1 cI aL b2, k0_2 cI aL b2, k0_3 cI aL b2, k0_4 cI aL b2] := by rw [eb2]; exact hD
  refine lv_aload_n hx hb dX0_putNewSpring_7 rfl (lv_at hl 0 rfl) ?_
  refine va_get (D := (dC, dI)) (ci := 0) (v := .ref (aL 2)) (C := RX0) (T := TX0) (N := 6) hx hb hts hiX0 hown hK hP 0 rfl rfl 3 (by decide) hgX0_22 (fun _ h9 => h9) rfl dX0_putNewSpring_8 ?_
  refine lv_iload_n hx hb dX0_putNewSpring_11 rfl (lv_at hl 1 rfl) ?_
  refine lv_bipush (v := 10) hx hb dX0_putNewSpring_12 (by decide) ?_
  obtain ⟨hi3, hf⟩ := oinb rfl hf
  obtain ⟨b4, eb4, hf⟩ := elet_out hf
  refine va_iast hx hb hK hP hD hS 2 0 rfl rfl hi3 dX0_putNewSpring_14 (fun H locs hP hD hS => ?_)
  have hP : va_P (dC, dI) vwCl [k0_0 aL b4, k0_1 cI aL b4, k0_2 cI aL b4, k0_3 cI aL b4, k0_4 cI aL b4] H := by rw [eb4]; exact hP
  have hD : va_D A [k0_0 aL b4, k0_1 cI aL b4, k0_2 cI aL b4, k0_3 cI aL b4, k0_4 cI aL b4] := by rw [eb4]; exact hD
  obtain rfl := Option.some.inj hf
  exact W.vret hx hb hr (fun t ht hW => ⟨⟨(), rfl, trivial, by rw [ht]; exact hP, hD⟩, hS.F ht⟩) hS.2.2 dX0_putNewSpring_15
def fX0_setLoad (vL : BX0) (i1 : Int32) (i2 : Int32) : Option (Int32 × BX0) :=
  (fX0_hasPlate vL i1).bind (fun y1 => if y1 = 0 then (some ((-1000001), vL)) else (if i2 < (-99 : Int32) then (some ((-1000001), vL)) else (if i2 ≤ (99 : Int32) then (if inB i1 4 = true then (elet ((p0_loads vL) (i1).toNatClampNeg) (fun z6 => if inB i1 4 = true then (elet (s0_loads vL (upd (p0_loads vL) (i1).toNatClampNeg i2)) (fun b8 => some ((z6 + (1000 : Int32)), b8))) else none)) else none) else (some ((-1000001), vL)))))
set_option maxHeartbeats 8000000 in
set_option maxRecDepth 100000 in
theorem mX0_setLoad (l : Launch) (dC : Nat → ClassId) (dI : Nat → Nat → Nat) (cI cJ : ClassId) (aL : Nat → Nat) (sz : Nat) (vL : BX0) (i1 : Int32) (i2 : Int32) (y : (Int32 × BX0)) (hf : fX0_setLoad vL i1 i2 = some y) : Met l yX0_setLoad wsX0_setLoad ({ frames := 1, cells := 0, slots := 0, locals := 21 }) (cPc dC dI cI cJ [.ref (aL 0), .int i1, .int i2] [k0_0 aL vL, k0_1 cI aL vL, k0_2 cI aL vL, k0_3 cI aL vL, k0_4 cI aL vL] sz) (va_Qi (fun r (_ : Unit) => r = y.1) (fun _ t => cB dC dI (va_A [k0_0 aL vL, k0_1 cI aL vL, k0_2 cI aL vL, k0_3 cI aL vL, k0_4 cI aL vL] sz) [k0_0 aL y.2, k0_1 cI aL y.2, k0_2 cI aL y.2, k0_3 cI aL y.2, k0_4 cI aL y.2] t) (va_A [k0_0 aL vL, k0_1 cI aL vL, k0_2 cI aL vL, k0_3 cI aL vL, k0_4 cI aL vL] sz)) 0 0 (va_A [k0_0 aL vL, k0_1 cI aL vL, k0_2 cI aL vL, k0_3 cI aL vL, k0_4 cI aL vL] sz) := by
  refine Met.ofW (cc := cX0_setLoad) (maxL := 4) (ret := (some .int)) (by decide) rfl ?_
  intro p e s m args below meth c s₁ B hml hv
  obtain ⟨rfl, hsz, hP, hK, hD0, hN⟩ := hv
  have hx := B.exec
  have hb := B.bytes
  have hr := B.returns
  have hts := atoms_spec (ws := wsX0_setLoad) B.pre
  have hown : s.vm.findClass RX0 = some m.cls := findClass_of_methodNamed B.named
  have hlocks := B.notSynchronized
  subst hsz
  have hD := hD0.self (sz := s.heap.size)
  generalize hAe : va_A [k0_0 aL vL, k0_1 cI aL vL, k0_2 cI aL vL, k0_3 cI aL vL, k0_4 cI aL vL] s.heap.size = A at hD hN ⊢
  have hA : ∀ q : Nat, s.heap.size ≤ q → A q := fun q h => by rw [← hAe]; exact Or.inr h
  have hP : va_P (dC, dI) vwCl [k0_0 aL vL, k0_1 cI aL vL, k0_2 cI aL vL, k0_3 cI aL vL, k0_4 cI aL vL] s.heap := hP
  have hl := lv_entry ([.ref (aL 0), .int i1, .int i2]) (n := 4) (Nat.le_of_ble_eq_true rfl)
  rw [lg_entry_eq]
  generalize (lg_sl ([.ref (aL 0), .int i1, .int i2]) ++ List.replicate (4 - (lg_sl ([.ref (aL 0), .int i1, .int i2])).length) Slot.unset).toArray = ls at hl ⊢
  have hl : lv_has ls 4 [(0, .ref (aL 0)), (1, .int i1), (2, .int i2)] := hl
  have hc55 := hts (.constant RX0 55 (-1000001)) (by decide +kernel)
  have hiX0 : ∀ w ∈ u_ws RX0 TX0 6, w ∈ wsX0_setLoad := by decide +kernel
  have hgX0_25 := hts (.fieldLink RX0 25 "SpringPlates$Layout" "loads" "[I") (by decide +kernel)
  refine nameH (fun H locs hHe hLe => ?_)
  have hP : va_P (dC, dI) vwCl [k0_0 aL vL, k0_1 cI aL vL, k0_2 cI aL vL, k0_3 cI aL vL, k0_4 cI aL vL] H := by rw [hHe]; exact hP
  have hS : va_S A s.heap H locs := by rw [hHe, hLe]; exact va_S.rf
  unfold fX0_setLoad at hf
  refine lv_aload_n hx hb dX0_setLoad_0 rfl (lv_at hl 0 rfl) ?_
  refine lv_iload_n hx hb dX0_setLoad_1 rfl (lv_at hl 1 rfl) ?_
  obtain ⟨y1, hy1, hf⟩ := obind hf
  refine cg_i (ws := [k0_0 aL vL, k0_1 cI aL vL, k0_2 cI aL vL, k0_3 cI aL vL, k0_4 cI aL vL]) (wc := [k0_0 aL vL, k0_1 cI aL vL, k0_2 cI aL vL, k0_3 cI aL vL, k0_4 cI aL vL]) (wr := []) (w1 := [k0_0 aL vL, k0_1 cI aL vL, k0_2 cI aL vL, k0_3 cI aL vL, k0_4 cI aL vL]) (wo := [k0_0 aL vL, k0_1 cI aL vL, k0_2 cI aL vL, k0_3 cI aL vL, k0_4 cI aL vL]) hP hD hS hA (va_runV (As := [.int i1]) (rest := []) ⟨hx, hb, hml, hown, hts⟩ (mX0_hasPlate l dC dI cI cJ aL H.size vL i1 y1 hy1) (cwV 1 hts gX0_setLoad_X0_hasPlate rfl rfl rfl (by decide +kernel) ⟨Nat.le_of_ble_eq_true rfl, Nat.le_of_ble_eq_true rfl⟩) ⟨cFB, va_recv hK hP (ci := 0) (q0 := 0) rfl rfl, cPre hK hN hS (va_free (wc := [k0_0 aL vL, k0_1 cI aL vL, k0_2 cI aL vL, k0_3 cI aL vL, k0_4 cI aL vL]) hD hS hA [0, 1, 2, 3, 4] rfl) (hP.sub [0, 1, 2, 3, 4] rfl) (hD.sub [0, 1, 2, 3, 4] rfl rfl)⟩ rfl rfl hl.1 rfl (lv_room (Nat.le_of_ble_eq_true rfl)) dX0_setLoad_2 ⟨Nat.le_of_ble_eq_true rfl, Nat.le_of_ble_eq_true rfl⟩) [0, 1, 2, 3, 4] [] [0, 1, 2, 3, 4] rfl rfl rfl (by decide +kernel) rfl rfl (fun H locs hP hD hS => ?_)
  refine lv_if_eq (tgt := 20) hx hb dX0_setLoad_5 (by decide) (fun c2 => ?_) (fun c2 => ?_)
  · have hf := oif_t c2 hf
    refine lv_ldc (v := (-1000001)) hx hb hown hc55 dX0_setLoad_20 ?_
    obtain rfl := Option.some.inj hf
    exact W.iret (v := (-1000001)) hx hb hr (fun t ht hW => ⟨⟨(-1000001), (), rfl, rfl, by rw [ht]; exact hP, hD⟩, hS.F ht⟩) hS.2.2 dX0_setLoad_22
  · have hf := oif_f c2 hf
    refine lv_iload_n hx hb dX0_setLoad_8 rfl (lv_at hl 2 rfl) ?_
    refine lv_bipush (v := (-99)) hx hb dX0_setLoad_9 (by decide) ?_
    refine lv_icmp_lt (tgt := 20) hx hb dX0_setLoad_11 (by decide) (fun c3 => ?_) (fun c3 => ?_)
    · have hf := oif_t c3 hf
      refine lv_ldc (v := (-1000001)) hx hb hown hc55 dX0_setLoad_20 ?_
      obtain rfl := Option.some.inj hf
      exact W.iret (v := (-1000001)) hx hb hr (fun t ht hW => ⟨⟨(-1000001), (), rfl, rfl, by rw [ht]; exact hP, hD⟩, hS.F ht⟩) hS.2.2 dX0_setLoad_22
    · have hf := oif_f c3 hf
      refine lv_iload_n hx hb dX0_setLoad_14 rfl (lv_at hl 2 rfl) ?_
      refine lv_bipush (v := 99) hx hb dX0_setLoad_15 (by decide) ?_
      refine lv_icmp_le (tgt := 23) hx hb dX0_setLoad_17 (by decide) (fun c4 => ?_) (fun c4 => ?_)
      · have hf := oif_t c4 hf
        refine lv_aload_n hx hb dX0_setLoad_23 rfl (lv_at hl 0 rfl) ?_
        refine va_get (D := (dC, dI)) (ci := 0) (v := .ref (aL 3)) (C := RX0) (T := TX0) (N := 6) hx hb hts hiX0 hown hK hP 0 rfl rfl 4 (by decide) hgX0_25 (fun _ h9 => h9) rfl dX0_setLoad_24 ?_
        refine lv_iload_n hx hb dX0_setLoad_27 rfl (lv_at hl 1 rfl) ?_
        obtain ⟨hi5, hf⟩ := oinb rfl hf
        refine va_iald hx hb hK hP 3 0 rfl rfl hi5 dX0_setLoad_28 ?_
        obtain ⟨z6, ez6, hf⟩ := elet_out hf
        refine lvn_i ez6 ?_
        refine lv_istore_n (lv' := [(3, .int z6), (0, .ref (aL 0)), (1, .int i1), (2, .int i2)]) hx hb dX0_setLoad_29 rfl hl (by decide) rfl (fun ls hl => ?_)
        refine lv_aload_n hx hb dX0_setLoad_30 rfl (lv_at hl 1 rfl) ?_
        refine va_get (D := (dC, dI)) (ci := 0) (v := .ref (aL 3)) (C := RX0) (T := TX0) (N := 6) hx hb hts hiX0 hown hK hP 0 rfl rfl 4 (by decide) hgX0_25 (fun _ h9 => h9) rfl dX0_setLoad_31 ?_
        refine lv_iload_n hx hb dX0_setLoad_34 rfl (lv_at hl 2 rfl) ?_
        refine lv_iload_n hx hb dX0_setLoad_35 rfl (lv_at hl 3 rfl) ?_
        obtain ⟨hi7, hf⟩ := oinb rfl hf
        obtain ⟨b8, eb8, hf⟩ := elet_out hf
        refine va_iast hx hb hK hP hD hS 3 0 rfl rfl hi7 dX0_setLoad_36 (fun H locs hP hD hS => ?_)
        have hP : va_P (dC, dI) vwCl [k0_0 aL b8, k0_1 cI aL b8, k0_2 cI aL b8, k0_3 cI aL b8, k0_4 cI aL b8] H := by rw [eb8]; exact hP
        have hD : va_D A [k0_0 aL b8, k0_1 cI aL b8, k0_2 cI aL b8, k0_3 cI aL b8, k0_4 cI aL b8] := by rw [eb8]; exact hD
        refine lv_iload_n hx hb dX0_setLoad_37 rfl (lv_at hl 0 rfl) ?_
        refine lv_sipush (v := 1000) hx hb dX0_setLoad_38 (by decide) ?_
        refine lv_iadd hx hb dX0_setLoad_41 ?_
        obtain rfl := Option.some.inj hf
        exact W.iret (v := (z6 + (1000 : Int32))) hx hb hr (fun t ht hW => ⟨⟨(z6 + (1000 : Int32)), (), rfl, rfl, by rw [ht]; exact hP, hD⟩, hS.F ht⟩) hS.2.2 dX0_setLoad_42
      · have hf := oif_f c4 hf
        refine lv_ldc (v := (-1000001)) hx hb hown hc55 dX0_setLoad_20 ?_
        obtain rfl := Option.some.inj hf
        exact W.iret (v := (-1000001)) hx hb hr (fun t ht hW => ⟨⟨(-1000001), (), rfl, rfl, by rw [ht]; exact hP, hD⟩, hS.F ht⟩) hS.2.2 dX0_setLoad_22
def fX0_copyPlate (vL : BX0) (vO : BX0) (i2 : Int32) (i3 : Int32) : Option BX0 :=
  if inB i2 4 = true then (if inB i3 4 = true then (elet (s0_loads vL (upd (p0_loads vL) (i3).toNatClampNeg ((p0_loads vO) (i2).toNatClampNeg))) (fun b3 => if inB ((2 : Int32) * i2) 8 = true then (if inB ((2 : Int32) * i3) 8 = true then (elet (s0_stops b3 (upd (p0_stops b3) (((2 : Int32) * i3)).toNatClampNeg ((p0_stops vO) (((2 : Int32) * i2)).toNatClampNeg))) (fun b6 => if inB (((2 : Int32) * i2) + (1 : Int32)) 8 = true then (if inB (((2 : Int32) * i3) + (1 : Int32)) 8 = true then (elet (s0_stops b6 (upd (p0_stops b6) ((((2 : Int32) * i3) + (1 : Int32))).toNatClampNeg ((p0_stops vO) ((((2 : Int32) * i2) + (1 : Int32))).toNatClampNeg))) (fun b9 => some b9)) else none) else none)) else none) else none)) else none) else none
set_option maxHeartbeats 8000000 in
set_option maxRecDepth 100000 in
theorem mX0_copyPlate (l : Launch) (dC : Nat → ClassId) (dI : Nat → Nat → Nat) (cI cJ : ClassId) (aL : Nat → Nat) (aO : Nat → Nat) (sz : Nat) (vL : BX0) (vO : BX0) (i2 : Int32) (i3 : Int32) (y : BX0) (hf : fX0_copyPlate vL vO i2 i3 = some y) : Met l yX0_copyPlate wsX0_copyPlate ({ frames := 0, cells := 0, slots := 0, locals := 0 }) (cPc dC dI cI cJ [.ref (aL 0), .ref (aO 0), .int i2, .int i3] [k0_0 aL vL, k0_1 cI aL vL, k0_2 cI aL vL, k0_3 cI aL vL, k0_4 cI aL vL, k0_0 aO vO, k0_1 cI aO vO, k0_2 cI aO vO, k0_3 cI aO vO, k0_4 cI aO vO] sz) (va_Qv (fun (_ : Unit) => True) (fun _ t => cB dC dI (va_A [k0_0 aL vL, k0_1 cI aL vL, k0_2 cI aL vL, k0_3 cI aL vL, k0_4 cI aL vL, k0_0 aO vO, k0_1 cI aO vO, k0_2 cI aO vO, k0_3 cI aO vO, k0_4 cI aO vO] sz) [k0_0 aL y, k0_1 cI aL y, k0_2 cI aL y, k0_3 cI aL y, k0_4 cI aL y, k0_0 aO vO, k0_1 cI aO vO, k0_2 cI aO vO, k0_3 cI aO vO, k0_4 cI aO vO] t) (va_A [k0_0 aL vL, k0_1 cI aL vL, k0_2 cI aL vL, k0_3 cI aL vL, k0_4 cI aL vL, k0_0 aO vO, k0_1 cI aO vO, k0_2 cI aO vO, k0_3 cI aO vO, k0_4 cI aO vO] sz)) 0 0 (va_A [k0_0 aL vL, k0_1 cI aL vL, k0_2 cI aL vL, k0_3 cI aL vL, k0_4 cI aL vL, k0_0 aO vO, k0_1 cI aO vO, k0_2 cI aO vO, k0_3 cI aO vO, k0_4 cI aO vO] sz) := by
  refine Met.ofW (cc := cX0_copyPlate) (maxL := 4) (ret := none) (by decide) rfl ?_
  intro p e s m args below meth c s₁ B hml hv
  obtain ⟨rfl, hsz, hP, hK, hD0, hN⟩ := hv
  have hx := B.exec
  have hb := B.bytes
  have hr := B.returns
  have hts := atoms_spec (ws := wsX0_copyPlate) B.pre
  have hown : s.vm.findClass RX0 = some m.cls := findClass_of_methodNamed B.named
  have hlocks := B.notSynchronized
  subst hsz
  have hD := hD0.self (sz := s.heap.size)
  generalize hAe : va_A [k0_0 aL vL, k0_1 cI aL vL, k0_2 cI aL vL, k0_3 cI aL vL, k0_4 cI aL vL, k0_0 aO vO, k0_1 cI aO vO, k0_2 cI aO vO, k0_3 cI aO vO, k0_4 cI aO vO] s.heap.size = A at hD hN ⊢
  have hA : ∀ q : Nat, s.heap.size ≤ q → A q := fun q h => by rw [← hAe]; exact Or.inr h
  have hP : va_P (dC, dI) vwCl [k0_0 aL vL, k0_1 cI aL vL, k0_2 cI aL vL, k0_3 cI aL vL, k0_4 cI aL vL, k0_0 aO vO, k0_1 cI aO vO, k0_2 cI aO vO, k0_3 cI aO vO, k0_4 cI aO vO] s.heap := hP
  have hl := lv_entry ([.ref (aL 0), .ref (aO 0), .int i2, .int i3]) (n := 4) (Nat.le_of_ble_eq_true rfl)
  rw [lg_entry_eq]
  generalize (lg_sl ([.ref (aL 0), .ref (aO 0), .int i2, .int i3]) ++ List.replicate (4 - (lg_sl ([.ref (aL 0), .ref (aO 0), .int i2, .int i3])).length) Slot.unset).toArray = ls at hl ⊢
  have hl : lv_has ls 4 [(0, .ref (aL 0)), (1, .ref (aO 0)), (2, .int i2), (3, .int i3)] := hl
  have hiX0 : ∀ w ∈ u_ws RX0 TX0 6, w ∈ wsX0_copyPlate := by decide +kernel
  have hgX0_25 := hts (.fieldLink RX0 25 "SpringPlates$Layout" "loads" "[I") (by decide +kernel)
  have hgX0_28 := hts (.fieldLink RX0 28 "SpringPlates$Layout" "stops" "[I") (by decide +kernel)
  refine nameH (fun H locs hHe hLe => ?_)
  have hP : va_P (dC, dI) vwCl [k0_0 aL vL, k0_1 cI aL vL, k0_2 cI aL vL, k0_3 cI aL vL, k0_4 cI aL vL, k0_0 aO vO, k0_1 cI aO vO, k0_2 cI aO vO, k0_3 cI aO vO, k0_4 cI aO vO] H := by rw [hHe]; exact hP
  have hS : va_S A s.heap H locs := by rw [hHe, hLe]; exact va_S.rf
  unfold fX0_copyPlate at hf
  refine lv_aload_n hx hb dX0_copyPlate_0 rfl (lv_at hl 0 rfl) ?_
  refine va_get (D := (dC, dI)) (ci := 0) (v := .ref (aL 3)) (C := RX0) (T := TX0) (N := 6) hx hb hts hiX0 hown hK hP 0 rfl rfl 4 (by decide) hgX0_25 (fun _ h9 => h9) rfl dX0_copyPlate_1 ?_
  refine lv_iload_n hx hb dX0_copyPlate_4 rfl (lv_at hl 3 rfl) ?_
  refine lv_aload_n hx hb dX0_copyPlate_5 rfl (lv_at hl 1 rfl) ?_
  refine va_get (D := (dC, dI)) (ci := 0) (v := .ref (aO 3)) (C := RX0) (T := TX0) (N := 6) hx hb hts hiX0 hown hK hP 5 rfl rfl 4 (by decide) hgX0_25 (fun _ h9 => h9) rfl dX0_copyPlate_6 ?_
  refine lv_iload_n hx hb dX0_copyPlate_9 rfl (lv_at hl 2 rfl) ?_
  obtain ⟨hi1, hf⟩ := oinb rfl hf
  refine va_iald hx hb hK hP 8 0 rfl rfl hi1 dX0_copyPlate_10 ?_
  obtain ⟨hi2, hf⟩ := oinb rfl hf
  obtain ⟨b3, eb3, hf⟩ := elet_out hf
  refine va_iast hx hb hK hP hD hS 3 0 rfl rfl hi2 dX0_copyPlate_11 (fun H locs hP hD hS => ?_)
  have hP : va_P (dC, dI) vwCl [k0_0 aL b3, k0_1 cI aL b3, k0_2 cI aL b3, k0_3 cI aL b3, k0_4 cI aL b3, k0_0 aO vO, k0_1 cI aO vO, k0_2 cI aO vO, k0_3 cI aO vO, k0_4 cI aO vO] H := by rw [eb3]; exact hP
  have hD : va_D A [k0_0 aL b3, k0_1 cI aL b3, k0_2 cI aL b3, k0_3 cI aL b3, k0_4 cI aL b3, k0_0 aO vO, k0_1 cI aO vO, k0_2 cI aO vO, k0_3 cI aO vO, k0_4 cI aO vO] := by rw [eb3]; exact hD
  refine lv_aload_n hx hb dX0_copyPlate_12 rfl (lv_at hl 0 rfl) ?_
  refine va_get (D := (dC, dI)) (ci := 0) (v := .ref (aL 4)) (C := RX0) (T := TX0) (N := 6) hx hb hts hiX0 hown hK hP 0 rfl rfl 5 (by decide) hgX0_28 (fun _ h9 => h9) rfl dX0_copyPlate_13 ?_
  refine lv_iconst (v := 2) hx hb dX0_copyPlate_16 (by decide) ?_
  refine lv_iload_n hx hb dX0_copyPlate_17 rfl (lv_at hl 3 rfl) ?_
  refine lv_imul hx hb dX0_copyPlate_18 ?_
  refine lv_aload_n hx hb dX0_copyPlate_19 rfl (lv_at hl 1 rfl) ?_
  refine va_get (D := (dC, dI)) (ci := 0) (v := .ref (aO 4)) (C := RX0) (T := TX0) (N := 6) hx hb hts hiX0 hown hK hP 5 rfl rfl 5 (by decide) hgX0_28 (fun _ h9 => h9) rfl dX0_copyPlate_20 ?_
  refine lv_iconst (v := 2) hx hb dX0_copyPlate_23 (by decide) ?_
  refine lv_iload_n hx hb dX0_copyPlate_24 rfl (lv_at hl 2 rfl) ?_
  refine lv_imul hx hb dX0_copyPlate_25 ?_
  obtain ⟨hi4, hf⟩ := oinb rfl hf
  refine va_iald hx hb hK hP 9 0 rfl rfl hi4 dX0_copyPlate_26 ?_
  obtain ⟨hi5, hf⟩ := oinb rfl hf
  obtain ⟨b6, eb6, hf⟩ := elet_out hf
  refine va_iast hx hb hK hP hD hS 4 0 rfl rfl hi5 dX0_copyPlate_27 (fun H locs hP hD hS => ?_)
  have hP : va_P (dC, dI) vwCl [k0_0 aL b6, k0_1 cI aL b6, k0_2 cI aL b6, k0_3 cI aL b6, k0_4 cI aL b6, k0_0 aO vO, k0_1 cI aO vO, k0_2 cI aO vO, k0_3 cI aO vO, k0_4 cI aO vO] H := by rw [eb6]; exact hP
  have hD : va_D A [k0_0 aL b6, k0_1 cI aL b6, k0_2 cI aL b6, k0_3 cI aL b6, k0_4 cI aL b6, k0_0 aO vO, k0_1 cI aO vO, k0_2 cI aO vO, k0_3 cI aO vO, k0_4 cI aO vO] := by rw [eb6]; exact hD
  refine lv_aload_n hx hb dX0_copyPlate_28 rfl (lv_at hl 0 rfl) ?_
  refine va_get (D := (dC, dI)) (ci := 0) (v := .ref (aL 4)) (C := RX0) (T := TX0) (N := 6) hx hb hts hiX0 hown hK hP 0 rfl rfl 5 (by decide) hgX0_28 (fun _ h9 => h9) rfl dX0_copyPlate_29 ?_
  refine lv_iconst (v := 2) hx hb dX0_copyPlate_32 (by decide) ?_
  refine lv_iload_n hx hb dX0_copyPlate_33 rfl (lv_at hl 3 rfl) ?_
  refine lv_imul hx hb dX0_copyPlate_34 ?_
  refine lv_iconst (v := 1) hx hb dX0_copyPlate_35 (by decide) ?_
  refine lv_iadd hx hb dX0_copyPlate_36 ?_
  refine lv_aload_n hx hb dX0_copyPlate_37 rfl (lv_at hl 1 rfl) ?_
  refine va_get (D := (dC, dI)) (ci := 0) (v := .ref (aO 4)) (C := RX0) (T := TX0) (N := 6) hx hb hts hiX0 hown hK hP 5 rfl rfl 5 (by decide) hgX0_28 (fun _ h9 => h9) rfl dX0_copyPlate_38 ?_
  refine lv_iconst (v := 2) hx hb dX0_copyPlate_41 (by decide) ?_
  refine lv_iload_n hx hb dX0_copyPlate_42 rfl (lv_at hl 2 rfl) ?_
  refine lv_imul hx hb dX0_copyPlate_43 ?_
  refine lv_iconst (v := 1) hx hb dX0_copyPlate_44 (by decide) ?_
  refine lv_iadd hx hb dX0_copyPlate_45 ?_
  obtain ⟨hi7, hf⟩ := oinb rfl hf
  refine va_iald hx hb hK hP 9 0 rfl rfl hi7 dX0_copyPlate_46 ?_
  obtain ⟨hi8, hf⟩ := oinb rfl hf
  obtain ⟨b9, eb9, hf⟩ := elet_out hf
  refine va_iast hx hb hK hP hD hS 4 0 rfl rfl hi8 dX0_copyPlate_47 (fun H locs hP hD hS => ?_)
  have hP : va_P (dC, dI) vwCl [k0_0 aL b9, k0_1 cI aL b9, k0_2 cI aL b9, k0_3 cI aL b9, k0_4 cI aL b9, k0_0 aO vO, k0_1 cI aO vO, k0_2 cI aO vO, k0_3 cI aO vO, k0_4 cI aO vO] H := by rw [eb9]; exact hP
  have hD : va_D A [k0_0 aL b9, k0_1 cI aL b9, k0_2 cI aL b9, k0_3 cI aL b9, k0_4 cI aL b9, k0_0 aO vO, k0_1 cI aO vO, k0_2 cI aO vO, k0_3 cI aO vO, k0_4 cI aO vO] := by rw [eb9]; exact hD
  obtain rfl := Option.some.inj hf
  exact W.vret hx hb hr (fun t ht hW => ⟨⟨(), rfl, trivial, by rw [ht]; exact hP, hD⟩, hS.F ht⟩) hS.2.2 dX0_copyPlate_48
def fX0_sumOfLoads_5_b (k5 : BX0 → Int32 → Int32 → Int32 → Option Int32) (vL : BX0) (x2 : Int32) (x3 : Int32) (x4 : Int32) : Option Int32 :=
  if x2 < x4 then (some x3) else (if inB x4 4 = true then (elet (x3 + ((p0_loads vL) (x4).toNatClampNeg)) (fun z3 => elet (x4 + 1) (fun z4 => k5 vL x2 z3 z4))) else none)
def fX0_sumOfLoads_5 : Nat → BX0 → Int32 → Int32 → Int32 → Option Int32
  | 0 => fun _ _ _ _ => none
  | n + 1 => fX0_sumOfLoads_5_b (fX0_sumOfLoads_5 n)
def fX0_sumOfLoads (vL : BX0) (i1 : Int32) (i2 : Int32) : Option Int32 :=
  fX0_sumOfLoads_5 FU vL i2 (0 : Int32) i1
set_option maxHeartbeats 8000000 in
set_option maxRecDepth 100000 in
theorem mX0_sumOfLoads (l : Launch) (dC : Nat → ClassId) (dI : Nat → Nat → Nat) (cI cJ : ClassId) (aL : Nat → Nat) (sz : Nat) (vL : BX0) (i1 : Int32) (i2 : Int32) (y : Int32) (hf : fX0_sumOfLoads vL i1 i2 = some y) : Met l yX0_sumOfLoads wsX0_sumOfLoads ({ frames := 0, cells := 0, slots := 0, locals := 0 }) (cPc dC dI cI cJ [.ref (aL 0), .int i1, .int i2] [k0_0 aL vL, k0_1 cI aL vL, k0_2 cI aL vL, k0_3 cI aL vL, k0_4 cI aL vL] sz) (va_Qi (fun r (_ : Unit) => r = y) (fun _ t => cB dC dI (va_A [k0_0 aL vL, k0_1 cI aL vL, k0_2 cI aL vL, k0_3 cI aL vL, k0_4 cI aL vL] sz) [k0_0 aL vL, k0_1 cI aL vL, k0_2 cI aL vL, k0_3 cI aL vL, k0_4 cI aL vL] t) (va_A [k0_0 aL vL, k0_1 cI aL vL, k0_2 cI aL vL, k0_3 cI aL vL, k0_4 cI aL vL] sz)) 0 0 (va_A [k0_0 aL vL, k0_1 cI aL vL, k0_2 cI aL vL, k0_3 cI aL vL, k0_4 cI aL vL] sz) := by
  refine Met.ofW (cc := cX0_sumOfLoads) (maxL := 5) (ret := (some .int)) (by decide) rfl ?_
  intro p e s m args below meth c s₁ B hml hv
  obtain ⟨rfl, hsz, hP, hK, hD0, hN⟩ := hv
  have hx := B.exec
  have hb := B.bytes
  have hr := B.returns
  have hts := atoms_spec (ws := wsX0_sumOfLoads) B.pre
  have hown : s.vm.findClass RX0 = some m.cls := findClass_of_methodNamed B.named
  have hlocks := B.notSynchronized
  subst hsz
  have hD := hD0.self (sz := s.heap.size)
  generalize hAe : va_A [k0_0 aL vL, k0_1 cI aL vL, k0_2 cI aL vL, k0_3 cI aL vL, k0_4 cI aL vL] s.heap.size = A at hD hN ⊢
  have hA : ∀ q : Nat, s.heap.size ≤ q → A q := fun q h => by rw [← hAe]; exact Or.inr h
  have hP : va_P (dC, dI) vwCl [k0_0 aL vL, k0_1 cI aL vL, k0_2 cI aL vL, k0_3 cI aL vL, k0_4 cI aL vL] s.heap := hP
  have hl := lv_entry ([.ref (aL 0), .int i1, .int i2]) (n := 5) (Nat.le_of_ble_eq_true rfl)
  rw [lg_entry_eq]
  generalize (lg_sl ([.ref (aL 0), .int i1, .int i2]) ++ List.replicate (5 - (lg_sl ([.ref (aL 0), .int i1, .int i2])).length) Slot.unset).toArray = ls at hl ⊢
  have hl : lv_has ls 5 [(0, .ref (aL 0)), (1, .int i1), (2, .int i2)] := hl
  have hiX0 : ∀ w ∈ u_ws RX0 TX0 6, w ∈ wsX0_sumOfLoads := by decide +kernel
  have hgX0_25 := hts (.fieldLink RX0 25 "SpringPlates$Layout" "loads" "[I") (by decide +kernel)
  refine nameH (fun H locs hHe hLe => ?_)
  have hP : va_P (dC, dI) vwCl [k0_0 aL vL, k0_1 cI aL vL, k0_2 cI aL vL, k0_3 cI aL vL, k0_4 cI aL vL] H := by rw [hHe]; exact hP
  have hS : va_S A s.heap H locs := by rw [hHe, hLe]; exact va_S.rf
  refine withW (fun WW hWW => ?_)
  have L5 : ∀ (n : Nat) (vL : BX0) (x2 : Int32) (x3 : Int32) (x4 : Int32) (H : Heap) (locs : List Loc) (ls : Array Slot), va_P (dC, dI) vwCl [k0_0 aL vL, k0_1 cI aL vL, k0_2 cI aL vL, k0_3 cI aL vL, k0_4 cI aL vL] H → va_D A [k0_0 aL vL, k0_1 cI aL vL, k0_2 cI aL vL, k0_3 cI aL vL, k0_4 cI aL vL] → va_S A s.heap H locs → lv_has ls 5 [(0, .ref (aL 0)), (2, .int x2), (3, .int x3), (4, .int x4)] → fX0_sumOfLoads_5 n vL x2 x3 x4 = some y → WW H locs 0 0 ls 5 [] := by
    intro n
    induction n with
    | zero =>
      intro vL x2 x3 x4 H locs ls hP hD hS hl hf
      exact onone hf
    | succ n ih =>
      intro vL x2 x3 x4 H locs ls hP hD hS hl hf
      have hf : fX0_sumOfLoads_5_b (fX0_sumOfLoads_5 n) vL x2 x3 x4 = some y := hf
      generalize fX0_sumOfLoads_5 n = k5 at hf ih
      have hk5 := ih
      clear ih
      unfold fX0_sumOfLoads_5_b at hf
      refine (hWW _ _ _ _ _ _ _).2 ?_
      refine lv_iload hx hb dX0_sumOfLoads_5 (lv_at hl 3 rfl) ?_
      refine lv_iload_n hx hb dX0_sumOfLoads_7 rfl (lv_at hl 1 rfl) ?_
      refine lv_icmp_gt (tgt := 27) hx hb dX0_sumOfLoads_8 (by decide) (fun c1 => ?_) (fun c1 => ?_)
      · have hf := oif_t c1 hf
        refine lv_iload_n hx hb dX0_sumOfLoads_27 rfl (lv_at hl 2 rfl) ?_
        obtain rfl := Option.some.inj hf
        exact W.iret (v := x3) hx hb hr (fun t ht hW => ⟨⟨x3, (), rfl, rfl, by rw [ht]; exact hP, hD⟩, hS.F ht⟩) hS.2.2 dX0_sumOfLoads_28
      · have hf := oif_f c1 hf
        refine lv_iload_n hx hb dX0_sumOfLoads_11 rfl (lv_at hl 2 rfl) ?_
        refine lv_aload_n hx hb dX0_sumOfLoads_12 rfl (lv_at hl 0 rfl) ?_
        refine va_get (D := (dC, dI)) (ci := 0) (v := .ref (aL 3)) (C := RX0) (T := TX0) (N := 6) hx hb hts hiX0 hown hK hP 0 rfl rfl 4 (by decide) hgX0_25 (fun _ h9 => h9) rfl dX0_sumOfLoads_13 ?_
        refine lv_iload hx hb dX0_sumOfLoads_16 (lv_at hl 3 rfl) ?_
        obtain ⟨hi2, hf⟩ := oinb rfl hf
        refine va_iald hx hb hK hP 3 0 rfl rfl hi2 dX0_sumOfLoads_18 ?_
        refine lv_iadd hx hb dX0_sumOfLoads_19 ?_
        obtain ⟨z3, ez3, hf⟩ := elet_out hf
        refine lvn_i ez3 ?_
        refine lv_istore_n (lv' := [(3, .int z3), (0, .ref (aL 0)), (2, .int x2), (4, .int x4)]) hx hb dX0_sumOfLoads_20 rfl hl (by decide) rfl (fun ls hl => ?_)
        obtain ⟨z4, ez4, hf⟩ := elet_out hf
        refine lv_iinc (v := z4) (lv' := [(4, .int z4), (3, .int z3), (0, .ref (aL 0)), (2, .int x2)]) hx hb dX0_sumOfLoads_21 hl (k := 3) rfl (by rw [ez4]; rfl) (by decide) rfl (fun ls hl => ?_)
        refine lv_goto (tgt := 5) hx hb dX0_sumOfLoads_24 (by decide) ?_
        exact (hWW _ _ _ _ _ _ _).1 (hk5 vL x2 z3 z4 H locs ls hP hD hS (lv_sub hl [2, 3, 1, 0] rfl) hf)
  refine (hWW _ _ _ _ _ _ _).2 ?_
  unfold fX0_sumOfLoads at hf
  refine lv_iconst (v := 0) hx hb dX0_sumOfLoads_0 (by decide) ?_
  refine lv_istore_n (lv' := [(3, .int 0), (0, .ref (aL 0)), (1, .int i1), (2, .int i2)]) hx hb dX0_sumOfLoads_1 rfl hl (by decide) rfl (fun ls hl => ?_)
  refine lv_iload_n hx hb dX0_sumOfLoads_2 rfl (lv_at hl 2 rfl) ?_
  refine lv_istore (lv' := [(4, .int i1), (3, .int 0), (0, .ref (aL 0)), (1, .int i1), (2, .int i2)]) hx hb dX0_sumOfLoads_3 hl (by decide) rfl (fun ls hl => ?_)
  exact (hWW _ _ _ _ _ _ _).1 (L5 FU vL i2 (0 : Int32) i1 H locs ls hP hD hS (lv_sub hl [2, 4, 1, 0] rfl) hf)
def fX0_leftBoundOf (vL : BX0) (i1 : Int32) : Option Int32 :=
  (fX0_stopOf vL i1 (0 : Int32)).bind (fun y1 => if y1 = (-1 : Int32) then (some 0) else (some y1))
set_option maxHeartbeats 8000000 in
set_option maxRecDepth 100000 in
theorem mX0_leftBoundOf (l : Launch) (dC : Nat → ClassId) (dI : Nat → Nat → Nat) (cI cJ : ClassId) (aL : Nat → Nat) (sz : Nat) (vL : BX0) (i1 : Int32) (y : Int32) (hf : fX0_leftBoundOf vL i1 = some y) : Met l yX0_leftBoundOf wsX0_leftBoundOf ({ frames := 1, cells := 0, slots := 0, locals := 22 }) (cPc dC dI cI cJ [.ref (aL 0), .int i1] [k0_0 aL vL, k0_1 cI aL vL, k0_2 cI aL vL, k0_3 cI aL vL, k0_4 cI aL vL] sz) (va_Qi (fun r (_ : Unit) => r = y) (fun _ t => cB dC dI (va_A [k0_0 aL vL, k0_1 cI aL vL, k0_2 cI aL vL, k0_3 cI aL vL, k0_4 cI aL vL] sz) [k0_0 aL vL, k0_1 cI aL vL, k0_2 cI aL vL, k0_3 cI aL vL, k0_4 cI aL vL] t) (va_A [k0_0 aL vL, k0_1 cI aL vL, k0_2 cI aL vL, k0_3 cI aL vL, k0_4 cI aL vL] sz)) 0 0 (va_A [k0_0 aL vL, k0_1 cI aL vL, k0_2 cI aL vL, k0_3 cI aL vL, k0_4 cI aL vL] sz) := by
  refine Met.ofW (cc := cX0_leftBoundOf) (maxL := 3) (ret := (some .int)) (by decide) rfl ?_
  intro p e s m args below meth c s₁ B hml hv
  obtain ⟨rfl, hsz, hP, hK, hD0, hN⟩ := hv
  have hx := B.exec
  have hb := B.bytes
  have hr := B.returns
  have hts := atoms_spec (ws := wsX0_leftBoundOf) B.pre
  have hown : s.vm.findClass RX0 = some m.cls := findClass_of_methodNamed B.named
  have hlocks := B.notSynchronized
  subst hsz
  have hD := hD0.self (sz := s.heap.size)
  generalize hAe : va_A [k0_0 aL vL, k0_1 cI aL vL, k0_2 cI aL vL, k0_3 cI aL vL, k0_4 cI aL vL] s.heap.size = A at hD hN ⊢
  have hA : ∀ q : Nat, s.heap.size ≤ q → A q := fun q h => by rw [← hAe]; exact Or.inr h
  have hP : va_P (dC, dI) vwCl [k0_0 aL vL, k0_1 cI aL vL, k0_2 cI aL vL, k0_3 cI aL vL, k0_4 cI aL vL] s.heap := hP
  have hl := lv_entry ([.ref (aL 0), .int i1]) (n := 3) (Nat.le_of_ble_eq_true rfl)
  rw [lg_entry_eq]
  generalize (lg_sl ([.ref (aL 0), .int i1]) ++ List.replicate (3 - (lg_sl ([.ref (aL 0), .int i1])).length) Slot.unset).toArray = ls at hl ⊢
  have hl : lv_has ls 3 [(0, .ref (aL 0)), (1, .int i1)] := hl
  refine nameH (fun H locs hHe hLe => ?_)
  have hP : va_P (dC, dI) vwCl [k0_0 aL vL, k0_1 cI aL vL, k0_2 cI aL vL, k0_3 cI aL vL, k0_4 cI aL vL] H := by rw [hHe]; exact hP
  have hS : va_S A s.heap H locs := by rw [hHe, hLe]; exact va_S.rf
  unfold fX0_leftBoundOf at hf
  refine lv_aload_n hx hb dX0_leftBoundOf_0 rfl (lv_at hl 0 rfl) ?_
  refine lv_iload_n hx hb dX0_leftBoundOf_1 rfl (lv_at hl 1 rfl) ?_
  refine lv_iconst (v := 0) hx hb dX0_leftBoundOf_2 (by decide) ?_
  obtain ⟨y1, hy1, hf⟩ := obind hf
  refine cg_i (ws := [k0_0 aL vL, k0_1 cI aL vL, k0_2 cI aL vL, k0_3 cI aL vL, k0_4 cI aL vL]) (wc := [k0_0 aL vL, k0_1 cI aL vL, k0_2 cI aL vL, k0_3 cI aL vL, k0_4 cI aL vL]) (wr := []) (w1 := [k0_0 aL vL, k0_1 cI aL vL, k0_2 cI aL vL, k0_3 cI aL vL, k0_4 cI aL vL]) (wo := [k0_0 aL vL, k0_1 cI aL vL, k0_2 cI aL vL, k0_3 cI aL vL, k0_4 cI aL vL]) hP hD hS hA (va_runV (As := [.int i1, .int 0]) (rest := []) ⟨hx, hb, hml, hown, hts⟩ (mX0_stopOf l dC dI cI cJ aL H.size vL i1 (0 : Int32) y1 hy1) (cwV 2 hts gX0_leftBoundOf_X0_stopOf rfl rfl rfl (by decide +kernel) ⟨Nat.le_of_ble_eq_true rfl, Nat.le_of_ble_eq_true rfl⟩) ⟨cFB, va_recv hK hP (ci := 0) (q0 := 0) rfl rfl, cPre hK hN hS (va_free (wc := [k0_0 aL vL, k0_1 cI aL vL, k0_2 cI aL vL, k0_3 cI aL vL, k0_4 cI aL vL]) hD hS hA [0, 1, 2, 3, 4] rfl) (hP.sub [0, 1, 2, 3, 4] rfl) (hD.sub [0, 1, 2, 3, 4] rfl rfl)⟩ rfl rfl hl.1 rfl (lv_room (Nat.le_of_ble_eq_true rfl)) dX0_leftBoundOf_3 ⟨Nat.le_of_ble_eq_true rfl, Nat.le_of_ble_eq_true rfl⟩) [0, 1, 2, 3, 4] [] [0, 1, 2, 3, 4] rfl rfl rfl (by decide +kernel) rfl rfl (fun H locs hP hD hS => ?_)
  refine lv_istore_n (lv' := [(2, .int y1), (0, .ref (aL 0)), (1, .int i1)]) hx hb dX0_leftBoundOf_6 rfl hl (by decide) rfl (fun ls hl => ?_)
  refine lv_iload_n hx hb dX0_leftBoundOf_7 rfl (lv_at hl 0 rfl) ?_
  refine lv_iconst (v := (-1)) hx hb dX0_leftBoundOf_8 (by decide) ?_
  refine lv_icmp_ne (tgt := 16) hx hb dX0_leftBoundOf_9 (by decide) (fun c2 => ?_) (fun c2 => ?_)
  · have hf := oif_f c2 hf
    refine lv_iload_n hx hb dX0_leftBoundOf_16 rfl (lv_at hl 0 rfl) ?_
    obtain rfl := Option.some.inj hf
    exact W.iret (v := y1) hx hb hr (fun t ht hW => ⟨⟨y1, (), rfl, rfl, by rw [ht]; exact hP, hD⟩, hS.F ht⟩) hS.2.2 dX0_leftBoundOf_17
  · have hf := oif_t c2 hf
    refine lv_iconst (v := 0) hx hb dX0_leftBoundOf_12 (by decide) ?_
    refine lv_goto (tgt := 17) hx hb dX0_leftBoundOf_13 (by decide) ?_
    obtain rfl := Option.some.inj hf
    exact W.iret (v := 0) hx hb hr (fun t ht hW => ⟨⟨0, (), rfl, rfl, by rw [ht]; exact hP, hD⟩, hS.F ht⟩) hS.2.2 dX0_leftBoundOf_17
def fX0_rightBoundOf (vL : BX0) (i1 : Int32) : Option Int32 :=
  (fX0_stopOf vL i1 (1 : Int32)).bind (fun y1 => if y1 = (-1 : Int32) then (some (p0_width vL)) else (some y1))
set_option maxHeartbeats 8000000 in
set_option maxRecDepth 100000 in
theorem mX0_rightBoundOf (l : Launch) (dC : Nat → ClassId) (dI : Nat → Nat → Nat) (cI cJ : ClassId) (aL : Nat → Nat) (sz : Nat) (vL : BX0) (i1 : Int32) (y : Int32) (hf : fX0_rightBoundOf vL i1 = some y) : Met l yX0_rightBoundOf wsX0_rightBoundOf ({ frames := 1, cells := 0, slots := 0, locals := 22 }) (cPc dC dI cI cJ [.ref (aL 0), .int i1] [k0_0 aL vL, k0_1 cI aL vL, k0_2 cI aL vL, k0_3 cI aL vL, k0_4 cI aL vL] sz) (va_Qi (fun r (_ : Unit) => r = y) (fun _ t => cB dC dI (va_A [k0_0 aL vL, k0_1 cI aL vL, k0_2 cI aL vL, k0_3 cI aL vL, k0_4 cI aL vL] sz) [k0_0 aL vL, k0_1 cI aL vL, k0_2 cI aL vL, k0_3 cI aL vL, k0_4 cI aL vL] t) (va_A [k0_0 aL vL, k0_1 cI aL vL, k0_2 cI aL vL, k0_3 cI aL vL, k0_4 cI aL vL] sz)) 0 0 (va_A [k0_0 aL vL, k0_1 cI aL vL, k0_2 cI aL vL, k0_3 cI aL vL, k0_4 cI aL vL] sz) := by
  refine Met.ofW (cc := cX0_rightBoundOf) (maxL := 3) (ret := (some .int)) (by decide) rfl ?_
  intro p e s m args below meth c s₁ B hml hv
  obtain ⟨rfl, hsz, hP, hK, hD0, hN⟩ := hv
  have hx := B.exec
  have hb := B.bytes
  have hr := B.returns
  have hts := atoms_spec (ws := wsX0_rightBoundOf) B.pre
  have hown : s.vm.findClass RX0 = some m.cls := findClass_of_methodNamed B.named
  have hlocks := B.notSynchronized
  subst hsz
  have hD := hD0.self (sz := s.heap.size)
  generalize hAe : va_A [k0_0 aL vL, k0_1 cI aL vL, k0_2 cI aL vL, k0_3 cI aL vL, k0_4 cI aL vL] s.heap.size = A at hD hN ⊢
  have hA : ∀ q : Nat, s.heap.size ≤ q → A q := fun q h => by rw [← hAe]; exact Or.inr h
  have hP : va_P (dC, dI) vwCl [k0_0 aL vL, k0_1 cI aL vL, k0_2 cI aL vL, k0_3 cI aL vL, k0_4 cI aL vL] s.heap := hP
  have hl := lv_entry ([.ref (aL 0), .int i1]) (n := 3) (Nat.le_of_ble_eq_true rfl)
  rw [lg_entry_eq]
  generalize (lg_sl ([.ref (aL 0), .int i1]) ++ List.replicate (3 - (lg_sl ([.ref (aL 0), .int i1])).length) Slot.unset).toArray = ls at hl ⊢
  have hl : lv_has ls 3 [(0, .ref (aL 0)), (1, .int i1)] := hl
  have hiX0 : ∀ w ∈ u_ws RX0 TX0 6, w ∈ wsX0_rightBoundOf := by decide +kernel
  have hgX0_9 := hts (.fieldLink RX0 9 "SpringPlates$Layout" "width" "I") (by decide +kernel)
  refine nameH (fun H locs hHe hLe => ?_)
  have hP : va_P (dC, dI) vwCl [k0_0 aL vL, k0_1 cI aL vL, k0_2 cI aL vL, k0_3 cI aL vL, k0_4 cI aL vL] H := by rw [hHe]; exact hP
  have hS : va_S A s.heap H locs := by rw [hHe, hLe]; exact va_S.rf
  unfold fX0_rightBoundOf at hf
  refine lv_aload_n hx hb dX0_rightBoundOf_0 rfl (lv_at hl 0 rfl) ?_
  refine lv_iload_n hx hb dX0_rightBoundOf_1 rfl (lv_at hl 1 rfl) ?_
  refine lv_iconst (v := 1) hx hb dX0_rightBoundOf_2 (by decide) ?_
  obtain ⟨y1, hy1, hf⟩ := obind hf
  refine cg_i (ws := [k0_0 aL vL, k0_1 cI aL vL, k0_2 cI aL vL, k0_3 cI aL vL, k0_4 cI aL vL]) (wc := [k0_0 aL vL, k0_1 cI aL vL, k0_2 cI aL vL, k0_3 cI aL vL, k0_4 cI aL vL]) (wr := []) (w1 := [k0_0 aL vL, k0_1 cI aL vL, k0_2 cI aL vL, k0_3 cI aL vL, k0_4 cI aL vL]) (wo := [k0_0 aL vL, k0_1 cI aL vL, k0_2 cI aL vL, k0_3 cI aL vL, k0_4 cI aL vL]) hP hD hS hA (va_runV (As := [.int i1, .int 1]) (rest := []) ⟨hx, hb, hml, hown, hts⟩ (mX0_stopOf l dC dI cI cJ aL H.size vL i1 (1 : Int32) y1 hy1) (cwV 2 hts gX0_rightBoundOf_X0_stopOf rfl rfl rfl (by decide +kernel) ⟨Nat.le_of_ble_eq_true rfl, Nat.le_of_ble_eq_true rfl⟩) ⟨cFB, va_recv hK hP (ci := 0) (q0 := 0) rfl rfl, cPre hK hN hS (va_free (wc := [k0_0 aL vL, k0_1 cI aL vL, k0_2 cI aL vL, k0_3 cI aL vL, k0_4 cI aL vL]) hD hS hA [0, 1, 2, 3, 4] rfl) (hP.sub [0, 1, 2, 3, 4] rfl) (hD.sub [0, 1, 2, 3, 4] rfl rfl)⟩ rfl rfl hl.1 rfl (lv_room (Nat.le_of_ble_eq_true rfl)) dX0_rightBoundOf_3 ⟨Nat.le_of_ble_eq_true rfl, Nat.le_of_ble_eq_true rfl⟩) [0, 1, 2, 3, 4] [] [0, 1, 2, 3, 4] rfl rfl rfl (by decide +kernel) rfl rfl (fun H locs hP hD hS => ?_)
  refine lv_istore_n (lv' := [(2, .int y1), (0, .ref (aL 0)), (1, .int i1)]) hx hb dX0_rightBoundOf_6 rfl hl (by decide) rfl (fun ls hl => ?_)
  refine lv_iload_n hx hb dX0_rightBoundOf_7 rfl (lv_at hl 0 rfl) ?_
  refine lv_iconst (v := (-1)) hx hb dX0_rightBoundOf_8 (by decide) ?_
  refine lv_icmp_ne (tgt := 19) hx hb dX0_rightBoundOf_9 (by decide) (fun c2 => ?_) (fun c2 => ?_)
  · have hf := oif_f c2 hf
    refine lv_iload_n hx hb dX0_rightBoundOf_19 rfl (lv_at hl 0 rfl) ?_
    obtain rfl := Option.some.inj hf
    exact W.iret (v := y1) hx hb hr (fun t ht hW => ⟨⟨y1, (), rfl, rfl, by rw [ht]; exact hP, hD⟩, hS.F ht⟩) hS.2.2 dX0_rightBoundOf_20
  · have hf := oif_t c2 hf
    refine lv_aload_n hx hb dX0_rightBoundOf_12 rfl (lv_at hl 1 rfl) ?_
    refine va_get (D := (dC, dI)) (ci := 0) (v := .int (p0_width vL)) (C := RX0) (T := TX0) (N := 6) hx hb hts hiX0 hown hK hP 0 rfl rfl 0 (by decide) hgX0_9 (fun _ h9 => h9) rfl dX0_rightBoundOf_13 ?_
    refine lv_goto (tgt := 20) hx hb dX0_rightBoundOf_16 (by decide) ?_
    obtain rfl := Option.some.inj hf
    exact W.iret (v := (p0_width vL)) hx hb hr (fun t ht hW => ⟨⟨(p0_width vL), (), rfl, rfl, by rw [ht]; exact hP, hD⟩, hS.F ht⟩) hS.2.2 dX0_rightBoundOf_20
def fX0_allowsRow_4_b (k4 : BX0 → Int32 → Int32 → Option Int32) (vL : BX0) (x1 : Int32) (x2 : Int32) : Option Int32 :=
  if (p0_plates vL) ≤ x2 then (some 1) else ((fX0_leftBoundOf vL x2).bind (fun y2 => elet (if x1 < y2 then y2 else x1) (fun z3 => (fX0_rightBoundOf vL x2).bind (fun y4 => if z3 ≤ y4 then (elet (x2 + 1) (fun z6 => k4 vL z3 z6)) else (some 0)))))
def fX0_allowsRow_4 : Nat → BX0 → Int32 → Int32 → Option Int32
  | 0 => fun _ _ _ => none
  | n + 1 => fX0_allowsRow_4_b (fX0_allowsRow_4 n)
def fX0_allowsRow (vL : BX0) : Option Int32 :=
  fX0_allowsRow_4 FU vL (0 : Int32) (0 : Int32)
set_option maxHeartbeats 8000000 in
set_option maxRecDepth 100000 in
theorem mX0_allowsRow (l : Launch) (dC : Nat → ClassId) (dI : Nat → Nat → Nat) (cI cJ : ClassId) (aL : Nat → Nat) (sz : Nat) (vL : BX0) (y : Int32) (hf : fX0_allowsRow vL = some y) : Met l yX0_allowsRow wsX0_allowsRow ({ frames := 2, cells := 0, slots := 0, locals := 44 }) (cPc dC dI cI cJ [.ref (aL 0)] [k0_0 aL vL, k0_1 cI aL vL, k0_2 cI aL vL, k0_3 cI aL vL, k0_4 cI aL vL] sz) (va_Qi (fun r (_ : Unit) => r = y) (fun _ t => cB dC dI (va_A [k0_0 aL vL, k0_1 cI aL vL, k0_2 cI aL vL, k0_3 cI aL vL, k0_4 cI aL vL] sz) [k0_0 aL vL, k0_1 cI aL vL, k0_2 cI aL vL, k0_3 cI aL vL, k0_4 cI aL vL] t) (va_A [k0_0 aL vL, k0_1 cI aL vL, k0_2 cI aL vL, k0_3 cI aL vL, k0_4 cI aL vL] sz)) 0 0 (va_A [k0_0 aL vL, k0_1 cI aL vL, k0_2 cI aL vL, k0_3 cI aL vL, k0_4 cI aL vL] sz) := by
  refine Met.ofW (cc := cX0_allowsRow) (maxL := 3) (ret := (some .boolean)) (by decide) rfl ?_
  intro p e s m args below meth c s₁ B hml hv
  obtain ⟨rfl, hsz, hP, hK, hD0, hN⟩ := hv
  have hx := B.exec
  have hb := B.bytes
  have hr := B.returns
  have hts := atoms_spec (ws := wsX0_allowsRow) B.pre
  have hown : s.vm.findClass RX0 = some m.cls := findClass_of_methodNamed B.named
  have hlocks := B.notSynchronized
  subst hsz
  have hD := hD0.self (sz := s.heap.size)
  generalize hAe : va_A [k0_0 aL vL, k0_1 cI aL vL, k0_2 cI aL vL, k0_3 cI aL vL, k0_4 cI aL vL] s.heap.size = A at hD hN ⊢
  have hA : ∀ q : Nat, s.heap.size ≤ q → A q := fun q h => by rw [← hAe]; exact Or.inr h
  have hP : va_P (dC, dI) vwCl [k0_0 aL vL, k0_1 cI aL vL, k0_2 cI aL vL, k0_3 cI aL vL, k0_4 cI aL vL] s.heap := hP
  have hl := lv_entry ([.ref (aL 0)]) (n := 3) (Nat.le_of_ble_eq_true rfl)
  rw [lg_entry_eq]
  generalize (lg_sl ([.ref (aL 0)]) ++ List.replicate (3 - (lg_sl ([.ref (aL 0)])).length) Slot.unset).toArray = ls at hl ⊢
  have hl : lv_has ls 3 [(0, .ref (aL 0))] := hl
  have hiX0 : ∀ w ∈ u_ws RX0 TX0 6, w ∈ wsX0_allowsRow := by decide +kernel
  have hgX0_15 := hts (.fieldLink RX0 15 "SpringPlates$Layout" "plates" "I") (by decide +kernel)
  refine nameH (fun H locs hHe hLe => ?_)
  have hP : va_P (dC, dI) vwCl [k0_0 aL vL, k0_1 cI aL vL, k0_2 cI aL vL, k0_3 cI aL vL, k0_4 cI aL vL] H := by rw [hHe]; exact hP
  have hS : va_S A s.heap H locs := by rw [hHe, hLe]; exact va_S.rf
  refine withW (fun WW hWW => ?_)
  have L4 : ∀ (n : Nat) (vL : BX0) (x1 : Int32) (x2 : Int32) (H : Heap) (locs : List Loc) (ls : Array Slot), va_P (dC, dI) vwCl [k0_0 aL vL, k0_1 cI aL vL, k0_2 cI aL vL, k0_3 cI aL vL, k0_4 cI aL vL] H → va_D A [k0_0 aL vL, k0_1 cI aL vL, k0_2 cI aL vL, k0_3 cI aL vL, k0_4 cI aL vL] → va_S A s.heap H locs → lv_has ls 3 [(0, .ref (aL 0)), (1, .int x1), (2, .int x2)] → fX0_allowsRow_4 n vL x1 x2 = some y → WW H locs 0 0 ls 4 [] := by
    intro n
    induction n with
    | zero =>
      intro vL x1 x2 H locs ls hP hD hS hl hf
      exact onone hf
    | succ n ih =>
      intro vL x1 x2 H locs ls hP hD hS hl hf
      have hf : fX0_allowsRow_4_b (fX0_allowsRow_4 n) vL x1 x2 = some y := hf
      generalize fX0_allowsRow_4 n = k4 at hf ih
      have hk4 := ih
      clear ih
      unfold fX0_allowsRow_4_b at hf
      refine (hWW _ _ _ _ _ _ _).2 ?_
      refine lv_iload_n hx hb dX0_allowsRow_4 rfl (lv_at hl 2 rfl) ?_
      refine lv_aload_n hx hb dX0_allowsRow_5 rfl (lv_at hl 0 rfl) ?_
      refine va_get (D := (dC, dI)) (ci := 0) (v := .int (p0_plates vL)) (C := RX0) (T := TX0) (N := 6) hx hb hts hiX0 hown hK hP 0 rfl rfl 1 (by decide) hgX0_15 (fun _ h9 => h9) rfl dX0_allowsRow_6 ?_
      refine lv_icmp_ge (tgt := 39) hx hb dX0_allowsRow_9 (by decide) (fun c1 => ?_) (fun c1 => ?_)
      · have hf := oif_t c1 hf
        refine lv_iconst (v := 1) hx hb dX0_allowsRow_39 (by decide) ?_
        obtain rfl := Option.some.inj hf
        exact W.zret (v := 1) hx hb hr rfl (fun t ht hW => ⟨⟨1, (), rfl, by rw [ht]; exact hP, hD⟩, hS.F ht⟩) hS.2.2 dX0_allowsRow_40
      · have hf := oif_f c1 hf
        refine lv_iload_n hx hb dX0_allowsRow_12 rfl (lv_at hl 1 rfl) ?_
        refine lv_aload_n hx hb dX0_allowsRow_13 rfl (lv_at hl 0 rfl) ?_
        refine lv_iload_n hx hb dX0_allowsRow_14 rfl (lv_at hl 2 rfl) ?_
        obtain ⟨y2, hy2, hf⟩ := obind hf
        refine cg_i (ws := [k0_0 aL vL, k0_1 cI aL vL, k0_2 cI aL vL, k0_3 cI aL vL, k0_4 cI aL vL]) (wc := [k0_0 aL vL, k0_1 cI aL vL, k0_2 cI aL vL, k0_3 cI aL vL, k0_4 cI aL vL]) (wr := []) (w1 := [k0_0 aL vL, k0_1 cI aL vL, k0_2 cI aL vL, k0_3 cI aL vL, k0_4 cI aL vL]) (wo := [k0_0 aL vL, k0_1 cI aL vL, k0_2 cI aL vL, k0_3 cI aL vL, k0_4 cI aL vL]) hP hD hS hA (va_runV (As := [.int x2]) (rest := [.int x1]) ⟨hx, hb, hml, hown, hts⟩ (mX0_leftBoundOf l dC dI cI cJ aL H.size vL x2 y2 hy2) (cwV 1 hts gX0_allowsRow_X0_leftBoundOf rfl rfl rfl (by decide +kernel) ⟨Nat.le_of_ble_eq_true rfl, Nat.le_of_ble_eq_true rfl⟩) ⟨cFB, va_recv hK hP (ci := 0) (q0 := 0) rfl rfl, cPre hK hN hS (va_free (wc := [k0_0 aL vL, k0_1 cI aL vL, k0_2 cI aL vL, k0_3 cI aL vL, k0_4 cI aL vL]) hD hS hA [0, 1, 2, 3, 4] rfl) (hP.sub [0, 1, 2, 3, 4] rfl) (hD.sub [0, 1, 2, 3, 4] rfl rfl)⟩ rfl rfl hl.1 rfl (lv_room (Nat.le_of_ble_eq_true rfl)) dX0_allowsRow_15 ⟨Nat.le_of_ble_eq_true rfl, Nat.le_of_ble_eq_true rfl⟩) [0, 1, 2, 3, 4] [] [0, 1, 2, 3, 4] rfl rfl rfl (by decide +kernel) rfl rfl (fun H locs hP hD hS => ?_)
        refine va_mmax hx hb (hml.trans hl.1.symm) hown (hts (.methodLink RX0 47 Lib.Math.max.name) (by decide +kernel)) (hts (.static Lib.Math.max.name) (by decide +kernel)) (hts (.initialized "java/lang/Math") (by decide +kernel)) (hts (.code Lib.Math.max.name Lib.Math.max.code 2 (some .int)) (by decide +kernel)) (Nat.le_of_ble_eq_true rfl) (Nat.le_of_ble_eq_true rfl) (Nat.le_of_ble_eq_true rfl) (Nat.le_of_ble_eq_true rfl) dX0_allowsRow_18 ?_
        obtain ⟨z3, ez3, hf⟩ := elet_out hf
        refine lvn_i ez3 ?_
        refine lv_istore_n (lv' := [(1, .int z3), (0, .ref (aL 0)), (2, .int x2)]) hx hb dX0_allowsRow_21 rfl hl (by decide) rfl (fun ls hl => ?_)
        refine lv_iload_n hx hb dX0_allowsRow_22 rfl (lv_at hl 0 rfl) ?_
        refine lv_aload_n hx hb dX0_allowsRow_23 rfl (lv_at hl 1 rfl) ?_
        refine lv_iload_n hx hb dX0_allowsRow_24 rfl (lv_at hl 2 rfl) ?_
        obtain ⟨y4, hy4, hf⟩ := obind hf
        refine cg_i (ws := [k0_0 aL vL, k0_1 cI aL vL, k0_2 cI aL vL, k0_3 cI aL vL, k0_4 cI aL vL]) (wc := [k0_0 aL vL, k0_1 cI aL vL, k0_2 cI aL vL, k0_3 cI aL vL, k0_4 cI aL vL]) (wr := []) (w1 := [k0_0 aL vL, k0_1 cI aL vL, k0_2 cI aL vL, k0_3 cI aL vL, k0_4 cI aL vL]) (wo := [k0_0 aL vL, k0_1 cI aL vL, k0_2 cI aL vL, k0_3 cI aL vL, k0_4 cI aL vL]) hP hD hS hA (va_runV (As := [.int x2]) (rest := [.int z3]) ⟨hx, hb, hml, hown, hts⟩ (mX0_rightBoundOf l dC dI cI cJ aL H.size vL x2 y4 hy4) (cwV 1 hts gX0_allowsRow_X0_rightBoundOf rfl rfl rfl (by decide +kernel) ⟨Nat.le_of_ble_eq_true rfl, Nat.le_of_ble_eq_true rfl⟩) ⟨cFB, va_recv hK hP (ci := 0) (q0 := 0) rfl rfl, cPre hK hN hS (va_free (wc := [k0_0 aL vL, k0_1 cI aL vL, k0_2 cI aL vL, k0_3 cI aL vL, k0_4 cI aL vL]) hD hS hA [0, 1, 2, 3, 4] rfl) (hP.sub [0, 1, 2, 3, 4] rfl) (hD.sub [0, 1, 2, 3, 4] rfl rfl)⟩ rfl rfl hl.1 rfl (lv_room (Nat.le_of_ble_eq_true rfl)) dX0_allowsRow_25 ⟨Nat.le_of_ble_eq_true rfl, Nat.le_of_ble_eq_true rfl⟩) [0, 1, 2, 3, 4] [] [0, 1, 2, 3, 4] rfl rfl rfl (by decide +kernel) rfl rfl (fun H locs hP hD hS => ?_)
        refine lv_icmp_le (tgt := 33) hx hb dX0_allowsRow_28 (by decide) (fun c5 => ?_) (fun c5 => ?_)
        · have hf := oif_t c5 hf
          obtain ⟨z6, ez6, hf⟩ := elet_out hf
          refine lv_iinc (v := z6) (lv' := [(2, .int z6), (1, .int z3), (0, .ref (aL 0))]) hx hb dX0_allowsRow_33 hl (k := 2) rfl (by rw [ez6]; rfl) (by decide) rfl (fun ls hl => ?_)
          refine lv_goto (tgt := 4) hx hb dX0_allowsRow_36 (by decide) ?_
          exact (hWW _ _ _ _ _ _ _).1 (hk4 vL z3 z6 H locs ls hP hD hS (lv_sub hl [2, 1, 0] rfl) hf)
        · have hf := oif_f c5 hf
          refine lv_iconst (v := 0) hx hb dX0_allowsRow_31 (by decide) ?_
          obtain rfl := Option.some.inj hf
          exact W.zret (v := 0) hx hb hr rfl (fun t ht hW => ⟨⟨0, (), rfl, by rw [ht]; exact hP, hD⟩, hS.F ht⟩) hS.2.2 dX0_allowsRow_32
  refine (hWW _ _ _ _ _ _ _).2 ?_
  unfold fX0_allowsRow at hf
  refine lv_iconst (v := 0) hx hb dX0_allowsRow_0 (by decide) ?_
  refine lv_istore_n (lv' := [(1, .int 0), (0, .ref (aL 0))]) hx hb dX0_allowsRow_1 rfl hl (by decide) rfl (fun ls hl => ?_)
  refine lv_iconst (v := 0) hx hb dX0_allowsRow_2 (by decide) ?_
  refine lv_istore_n (lv' := [(2, .int 0), (1, .int 0), (0, .ref (aL 0))]) hx hb dX0_allowsRow_3 rfl hl (by decide) rfl (fun ls hl => ?_)
  exact (hWW _ _ _ _ _ _ _).1 (L4 FU vL (0 : Int32) (0 : Int32) H locs ls hP hD hS (lv_sub hl [2, 1, 0] rfl) hf)
def fX0_copyPlateS (vL : BX0) (i2 : Int32) (i3 : Int32) : Option BX0 :=
  if inB i2 4 = true then (if inB i3 4 = true then (elet (s0_loads vL (upd (p0_loads vL) (i3).toNatClampNeg ((p0_loads vL) (i2).toNatClampNeg))) (fun b3 => if inB ((2 : Int32) * i2) 8 = true then (if inB ((2 : Int32) * i3) 8 = true then (elet (s0_stops b3 (upd (p0_stops b3) (((2 : Int32) * i3)).toNatClampNeg ((p0_stops b3) (((2 : Int32) * i2)).toNatClampNeg))) (fun b6 => if inB (((2 : Int32) * i2) + (1 : Int32)) 8 = true then (if inB (((2 : Int32) * i3) + (1 : Int32)) 8 = true then (elet (s0_stops b6 (upd (p0_stops b6) ((((2 : Int32) * i3) + (1 : Int32))).toNatClampNeg ((p0_stops b6) ((((2 : Int32) * i2) + (1 : Int32))).toNatClampNeg))) (fun b9 => some b9)) else none) else none)) else none) else none)) else none) else none
set_option maxHeartbeats 8000000 in
set_option maxRecDepth 100000 in
theorem mX0_copyPlateS (l : Launch) (dC : Nat → ClassId) (dI : Nat → Nat → Nat) (cI cJ : ClassId) (aL : Nat → Nat) (sz : Nat) (vL : BX0) (i2 : Int32) (i3 : Int32) (y : BX0) (hf : fX0_copyPlateS vL i2 i3 = some y) : Met l yX0_copyPlate wsX0_copyPlate ({ frames := 0, cells := 0, slots := 0, locals := 0 }) (cPc dC dI cI cJ [.ref (aL 0), .ref (aL 0), .int i2, .int i3] [k0_0 aL vL, k0_1 cI aL vL, k0_2 cI aL vL, k0_3 cI aL vL, k0_4 cI aL vL] sz) (va_Qv (fun (_ : Unit) => True) (fun _ t => cB dC dI (va_A [k0_0 aL vL, k0_1 cI aL vL, k0_2 cI aL vL, k0_3 cI aL vL, k0_4 cI aL vL] sz) [k0_0 aL y, k0_1 cI aL y, k0_2 cI aL y, k0_3 cI aL y, k0_4 cI aL y] t) (va_A [k0_0 aL vL, k0_1 cI aL vL, k0_2 cI aL vL, k0_3 cI aL vL, k0_4 cI aL vL] sz)) 0 0 (va_A [k0_0 aL vL, k0_1 cI aL vL, k0_2 cI aL vL, k0_3 cI aL vL, k0_4 cI aL vL] sz) := by
  refine Met.ofW (cc := cX0_copyPlate) (maxL := 4) (ret := none) (by decide) rfl ?_
  intro p e s m args below meth c s₁ B hml hv
  obtain ⟨rfl, hsz, hP, hK, hD0, hN⟩ := hv
  have hx := B.exec
  have hb := B.bytes
  have hr := B.returns
  have hts := atoms_spec (ws := wsX0_copyPlate) B.pre
  have hown : s.vm.findClass RX0 = some m.cls := findClass_of_methodNamed B.named
  have hlocks := B.notSynchronized
  subst hsz
  have hD := hD0.self (sz := s.heap.size)
  generalize hAe : va_A [k0_0 aL vL, k0_1 cI aL vL, k0_2 cI aL vL, k0_3 cI aL vL, k0_4 cI aL vL] s.heap.size = A at hD hN ⊢
  have hA : ∀ q : Nat, s.heap.size ≤ q → A q := fun q h => by rw [← hAe]; exact Or.inr h
  have hP : va_P (dC, dI) vwCl [k0_0 aL vL, k0_1 cI aL vL, k0_2 cI aL vL, k0_3 cI aL vL, k0_4 cI aL vL] s.heap := hP
  have hl := lv_entry ([.ref (aL 0), .ref (aL 0), .int i2, .int i3]) (n := 4) (Nat.le_of_ble_eq_true rfl)
  rw [lg_entry_eq]
  generalize (lg_sl ([.ref (aL 0), .ref (aL 0), .int i2, .int i3]) ++ List.replicate (4 - (lg_sl ([.ref (aL 0), .ref (aL 0), .int i2, .int i3])).length) Slot.unset).toArray = ls at hl ⊢
  have hl : lv_has ls 4 [(0, .ref (aL 0)), (1, .ref (aL 0)), (2, .int i2), (3, .int i3)] := hl
  have hiX0 : ∀ w ∈ u_ws RX0 TX0 6, w ∈ wsX0_copyPlate := by decide +kernel
  have hgX0_25 := hts (.fieldLink RX0 25 "SpringPlates$Layout" "loads" "[I") (by decide +kernel)
  have hgX0_28 := hts (.fieldLink RX0 28 "SpringPlates$Layout" "stops" "[I") (by decide +kernel)
  refine nameH (fun H locs hHe hLe => ?_)
  have hP : va_P (dC, dI) vwCl [k0_0 aL vL, k0_1 cI aL vL, k0_2 cI aL vL, k0_3 cI aL vL, k0_4 cI aL vL] H := by rw [hHe]; exact hP
  have hS : va_S A s.heap H locs := by rw [hHe, hLe]; exact va_S.rf
  unfold fX0_copyPlateS at hf
  refine lv_aload_n hx hb dX0_copyPlate_0 rfl (lv_at hl 0 rfl) ?_
  refine va_get (D := (dC, dI)) (ci := 0) (v := .ref (aL 3)) (C := RX0) (T := TX0) (N := 6) hx hb hts hiX0 hown hK hP 0 rfl rfl 4 (by decide) hgX0_25 (fun _ h9 => h9) rfl dX0_copyPlate_1 ?_
  refine lv_iload_n hx hb dX0_copyPlate_4 rfl (lv_at hl 3 rfl) ?_
  refine lv_aload_n hx hb dX0_copyPlate_5 rfl (lv_at hl 1 rfl) ?_
  refine va_get (D := (dC, dI)) (ci := 0) (v := .ref (aL 3)) (C := RX0) (T := TX0) (N := 6) hx hb hts hiX0 hown hK hP 0 rfl rfl 4 (by decide) hgX0_25 (fun _ h9 => h9) rfl dX0_copyPlate_6 ?_
  refine lv_iload_n hx hb dX0_copyPlate_9 rfl (lv_at hl 2 rfl) ?_
  obtain ⟨hi1, hf⟩ := oinb rfl hf
  refine va_iald hx hb hK hP 3 0 rfl rfl hi1 dX0_copyPlate_10 ?_
  obtain ⟨hi2, hf⟩ := oinb rfl hf
  obtain ⟨b3, eb3, hf⟩ := elet_out hf
  refine va_iast hx hb hK hP hD hS 3 0 rfl rfl hi2 dX0_copyPlate_11 (fun H locs hP hD hS => ?_)
  have hP : va_P (dC, dI) vwCl [k0_0 aL b3, k0_1 cI aL b3, k0_2 cI aL b3, k0_3 cI aL b3, k0_4 cI aL b3] H := by rw [eb3]; exact hP
  have hD : va_D A [k0_0 aL b3, k0_1 cI aL b3, k0_2 cI aL b3, k0_3 cI aL b3, k0_4 cI aL b3] := by rw [eb3]; exact hD
  refine lv_aload_n hx hb dX0_copyPlate_12 rfl (lv_at hl 0 rfl) ?_
  refine va_get (D := (dC, dI)) (ci := 0) (v := .ref (aL 4)) (C := RX0) (T := TX0) (N := 6) hx hb hts hiX0 hown hK hP 0 rfl rfl 5 (by decide) hgX0_28 (fun _ h9 => h9) rfl dX0_copyPlate_13 ?_
  refine lv_iconst (v := 2) hx hb dX0_copyPlate_16 (by decide) ?_
  refine lv_iload_n hx hb dX0_copyPlate_17 rfl (lv_at hl 3 rfl) ?_
  refine lv_imul hx hb dX0_copyPlate_18 ?_
  refine lv_aload_n hx hb dX0_copyPlate_19 rfl (lv_at hl 1 rfl) ?_
  refine va_get (D := (dC, dI)) (ci := 0) (v := .ref (aL 4)) (C := RX0) (T := TX0) (N := 6) hx hb hts hiX0 hown hK hP 0 rfl rfl 5 (by decide) hgX0_28 (fun _ h9 => h9) rfl dX0_copyPlate_20 ?_
  refine lv_iconst (v := 2) hx hb dX0_copyPlate_23 (by decide) ?_
  refine lv_iload_n hx hb dX0_copyPlate_24 rfl (lv_at hl 2 rfl) ?_
  refine lv_imul hx hb dX0_copyPlate_25 ?_
  obtain ⟨hi4, hf⟩ := oinb rfl hf
  refine va_iald hx hb hK hP 4 0 rfl rfl hi4 dX0_copyPlate_26 ?_
  obtain ⟨hi5, hf⟩ := oinb rfl hf
  obtain ⟨b6, eb6, hf⟩ := elet_out hf
  refine va_iast hx hb hK hP hD hS 4 0 rfl rfl hi5 dX0_copyPlate_27 (fun H locs hP hD hS => ?_)
  have hP : va_P (dC, dI) vwCl [k0_0 aL b6, k0_1 cI aL b6, k0_2 cI aL b6, k0_3 cI aL b6, k0_4 cI aL b6] H := by rw [eb6]; exact hP
  have hD : va_D A [k0_0 aL b6, k0_1 cI aL b6, k0_2 cI aL b6, k0_3 cI aL b6, k0_4 cI aL b6] := by rw [eb6]; exact hD
  refine lv_aload_n hx hb dX0_copyPlate_28 rfl (lv_at hl 0 rfl) ?_
  refine va_get (D := (dC, dI)) (ci := 0) (v := .ref (aL 4)) (C := RX0) (T := TX0) (N := 6) hx hb hts hiX0 hown hK hP 0 rfl rfl 5 (by decide) hgX0_28 (fun _ h9 => h9) rfl dX0_copyPlate_29 ?_
  refine lv_iconst (v := 2) hx hb dX0_copyPlate_32 (by decide) ?_
  refine lv_iload_n hx hb dX0_copyPlate_33 rfl (lv_at hl 3 rfl) ?_
  refine lv_imul hx hb dX0_copyPlate_34 ?_
  refine lv_iconst (v := 1) hx hb dX0_copyPlate_35 (by decide) ?_
  refine lv_iadd hx hb dX0_copyPlate_36 ?_
  refine lv_aload_n hx hb dX0_copyPlate_37 rfl (lv_at hl 1 rfl) ?_
  refine va_get (D := (dC, dI)) (ci := 0) (v := .ref (aL 4)) (C := RX0) (T := TX0) (N := 6) hx hb hts hiX0 hown hK hP 0 rfl rfl 5 (by decide) hgX0_28 (fun _ h9 => h9) rfl dX0_copyPlate_38 ?_
  refine lv_iconst (v := 2) hx hb dX0_copyPlate_41 (by decide) ?_
  refine lv_iload_n hx hb dX0_copyPlate_42 rfl (lv_at hl 2 rfl) ?_
  refine lv_imul hx hb dX0_copyPlate_43 ?_
  refine lv_iconst (v := 1) hx hb dX0_copyPlate_44 (by decide) ?_
  refine lv_iadd hx hb dX0_copyPlate_45 ?_
  obtain ⟨hi7, hf⟩ := oinb rfl hf
  refine va_iald hx hb hK hP 4 0 rfl rfl hi7 dX0_copyPlate_46 ?_
  obtain ⟨hi8, hf⟩ := oinb rfl hf
  obtain ⟨b9, eb9, hf⟩ := elet_out hf
  refine va_iast hx hb hK hP hD hS 4 0 rfl rfl hi8 dX0_copyPlate_47 (fun H locs hP hD hS => ?_)
  have hP : va_P (dC, dI) vwCl [k0_0 aL b9, k0_1 cI aL b9, k0_2 cI aL b9, k0_3 cI aL b9, k0_4 cI aL b9] H := by rw [eb9]; exact hP
  have hD : va_D A [k0_0 aL b9, k0_1 cI aL b9, k0_2 cI aL b9, k0_3 cI aL b9, k0_4 cI aL b9] := by rw [eb9]; exact hD
  obtain rfl := Option.some.inj hf
  exact W.vret hx hb hr (fun t ht hW => ⟨⟨(), rfl, trivial, by rw [ht]; exact hP, hD⟩, hS.F ht⟩) hS.2.2 dX0_copyPlate_48
