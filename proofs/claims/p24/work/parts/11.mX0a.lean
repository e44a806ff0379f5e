def fX0_hasPlate (vL : BX0) (i1 : Int32) : Option Int32 :=
  if i1 < 0 then (some 0) else (if (p0_plates vL) ≤ i1 then (some 0) else (some 1))
set_option maxHeartbeats 8000000 in
set_option maxRecDepth 100000 in
theorem mX0_hasPlate (l : Launch) (dC : Nat → ClassId) (dI : Nat → Nat → Nat) (cI cJ : ClassId) (aL : Nat → Nat) (sz : Nat) (vL : BX0) (i1 : Int32) (y : Int32) (hf : fX0_hasPlate vL i1 = some y) : Met l yX0_hasPlate wsX0_hasPlate ({ frames := 0, cells := 0, slots := 0, locals := 0 }) (cPc dC dI cI cJ [.ref (aL 0), .int i1] [k0_0 aL vL, k0_1 cI aL vL, k0_2 cI aL vL, k0_3 cI aL vL, k0_4 cI aL vL] sz) (va_Qi (fun r (_ : Unit) => r = y) (fun _ t => cB dC dI (va_A [k0_0 aL vL, k0_1 cI aL vL, k0_2 cI aL vL, k0_3 cI aL vL, k0_4 cI aL vL] sz) [k0_0 aL vL, k0_1 cI aL vL, k0_2 cI aL vL, k0_3 cI aL vL, k0_4 cI aL vL] t) (va_A [k0_0 aL vL, k0_1 cI aL vL, k0_2 cI aL vL, k0_3 cI aL vL, k0_4 cI aL vL] sz)) 0 0 (va_A [k0_0 aL vL, k0_1 cI aL vL, k0_2 cI aL vL, k0_3 cI aL vL, k0_4 cI aL vL] sz) := by
  refine Met.ofW (cc := cX0_hasPlate) (maxL := 2) (ret := (some .boolean)) (by decide) rfl ?_
  intro p e s m args below meth c s₁ B hml hv
  obtain ⟨rfl, hsz, hP, hK, hD0, hN⟩ := hv
  have hx := B.exec
  have hb := B.bytes
  have hr := B.returns
  have hts := atoms_spec (ws := wsX0_hasPlate) B.pre
  have hown : s.vm.findClass RX0 = some m.cls := findClass_of_methodNamed B.named
  have hlocks := B.notSynchronized
  subst hsz
  have hD := hD0.self (sz := s.heap.size)
  generalize hAe : va_A [k0_0 aL vL, k0_1 cI aL vL, k0_2 cI aL vL, k0_3 cI aL vL, k0_4 cI aL vL] s.heap.size = A at hD hN ⊢
  have hA : ∀ q : Nat, s.heap.size ≤ q → A q := fun q h => by rw [← hAe]; exact Or.inr h
  have hP : va_P (dC, dI) vwCl [k0_0 aL vL, k0_1 cI aL vL, k0_2 cI aL vL, k0_3 cI aL vL, k0_4 cI aL vL] s.heap := hP
  have hl := lv_entry ([.ref (aL 0), .int i1]) (n := 2) (Nat.le_of_ble_eq_true rfl)
  rw [lg_entry_eq]
  generalize (lg_sl ([.ref (aL 0), .int i1]) ++ List.replicate (2 - (lg_sl ([.ref (aL 0), .int i1])).length) Slot.unset).toArray = ls at hl ⊢
  have hl : lv_has ls 2 [(0, .ref (aL 0)), (1, .int i1)] := hl
  have hiX0 : ∀ w ∈ u_ws RX0 TX0 6, w ∈ wsX0_hasPlate := by decide +kernel
  have hgX0_15 := hts (.fieldLink RX0 15 "SpringPlates$Layout" "plates" "I") (by decide +kernel)
  refine nameH (fun H locs hHe hLe => ?_)
  have hP : va_P (dC, dI) vwCl [k0_0 aL vL, k0_1 cI aL vL, k0_2 cI aL vL, k0_3 cI aL vL, k0_4 cI aL vL] H := by rw [hHe]; exact hP
  have hS : va_S A s.heap H locs := by rw [hHe, hLe]; exact va_S.rf
  unfold fX0_hasPlate at hf
  refine lv_iload_n hx hb dX0_hasPlate_0 rfl (lv_at hl 1 rfl) ?_
  refine lv_if_lt (tgt := 16) hx hb dX0_hasPlate_1 (by decide) (fun c1 => ?_) (fun c1 => ?_)
  · have hf := oif_t c1 hf
    refine lv_iconst (v := 0) hx hb dX0_hasPlate_16 (by decide) ?_
    obtain rfl := Option.some.inj hf
    exact W.zret (v := 0) hx hb hr rfl (fun t ht hW => ⟨⟨0, (), rfl, rfl, by rw [ht]; exact hP, hD⟩, hS.F ht⟩) hS.2.2 dX0_hasPlate_17
  · have hf := oif_f c1 hf
    refine lv_iload_n hx hb dX0_hasPlate_4 rfl (lv_at hl 1 rfl) ?_
    refine lv_aload_n hx hb dX0_hasPlate_5 rfl (lv_at hl 0 rfl) ?_
    refine va_get (D := (dC, dI)) (ci := 0) (v := .int (p0_plates vL)) (C := RX0) (T := TX0) (N := 6) hx hb hts hiX0 hown hK hP 0 rfl rfl 1 (by decide) hgX0_15 (fun _ h9 => h9) rfl dX0_hasPlate_6 ?_
    refine lv_icmp_ge (tgt := 16) hx hb dX0_hasPlate_9 (by decide) (fun c2 => ?_) (fun c2 => ?_)
    · have hf := oif_t c2 hf
      refine lv_iconst (v := 0) hx hb dX0_hasPlate_16 (by decide) ?_
      obtain rfl := Option.some.inj hf
      exact W.zret (v := 0) hx hb hr rfl (fun t ht hW => ⟨⟨0, (), rfl, rfl, by rw [ht]; exact hP, hD⟩, hS.F ht⟩) hS.2.2 dX0_hasPlate_17
    · have hf := oif_f c2 hf
      refine lv_iconst (v := 1) hx hb dX0_hasPlate_12 (by decide) ?_
      refine lv_goto (tgt := 17) hx hb dX0_hasPlate_13 (by decide) ?_
      obtain rfl := Option.some.inj hf
      exact W.zret (v := 1) hx hb hr rfl (fun t ht hW => ⟨⟨1, (), rfl, rfl, by rw [ht]; exact hP, hD⟩, hS.F ht⟩) hS.2.2 dX0_hasPlate_17
def fX0_hasSpring (vL : BX0) (i1 : Int32) : Option Int32 :=
  if i1 < 0 then (some 0) else (if (p0_plates vL) < i1 then (some 0) else (some 1))
set_option maxHeartbeats 8000000 in
set_option maxRecDepth 100000 in
theorem mX0_hasSpring (l : Launch) (dC : Nat → ClassId) (dI : Nat → Nat → Nat) (cI cJ : ClassId) (aL : Nat → Nat) (sz : Nat) (vL : BX0) (i1 : Int32) (y : Int32) (hf : fX0_hasSpring vL i1 = some y) : Met l yX0_hasSpring wsX0_hasSpring ({ frames := 0, cells := 0, slots := 0, locals := 0 }) (cPc dC dI cI cJ [.ref (aL 0), .int i1] [k0_0 aL vL, k0_1 cI aL vL, k0_2 cI aL vL, k0_3 cI aL vL, k0_4 cI aL vL] sz) (va_Qi (fun r (_ : Unit) => r = y) (fun _ t => cB dC dI (va_A [k0_0 aL vL, k0_1 cI aL vL, k0_2 cI aL vL, k0_3 cI aL vL, k0_4 cI aL vL] sz) [k0_0 aL vL, k0_1 cI aL vL, k0_2 cI aL vL, k0_3 cI aL vL, k0_4 cI aL vL] t) (va_A [k0_0 aL vL, k0_1 cI aL vL, k0_2 cI aL vL, k0_3 cI aL vL, k0_4 cI aL vL] sz)) 0 0 (va_A [k0_0 aL vL, k0_1 cI aL vL, k0_2 cI aL vL, k0_3 cI aL vL, k0_4 cI aL vL] sz) := by
  refine Met.ofW (cc := cX0_hasSpring) (maxL := 2) (ret := (some .boolean)) (by decide) rfl ?_
  intro p e s m args below meth c s₁ B hml hv
  obtain ⟨rfl, hsz, hP, hK, hD0, hN⟩ := hv
  have hx := B.exec
  have hb := B.bytes
  have hr := B.returns
  have hts := atoms_spec (ws := wsX0_hasSpring) B.pre
  have hown : s.vm.findClass RX0 = some m.cls := findClass_of_methodNamed B.named
  have hlocks := B.notSynchronized
  subst hsz
  have hD := hD0.self (sz := s.heap.size)
  generalize hAe : va_A [k0_0 aL vL, k0_1 cI aL vL, k0_2 cI aL vL, k0_3 cI aL vL, k0_4 cI aL vL] s.heap.size = A at hD hN ⊢
  have hA : ∀ q : Nat, s.heap.size ≤ q → A q := fun q h => by rw [← hAe]; exact Or.inr h
  have hP : va_P (dC, dI) vwCl [k0_0 aL vL, k0_1 cI aL vL, k0_2 cI aL vL, k0_3 cI aL vL, k0_4 cI aL vL] s.heap := hP
  have hl := lv_entry ([.ref (aL 0), .int i1]) (n := 2) (Nat.le_of_ble_eq_true rfl)
  rw [lg_entry_eq]
  generalize (lg_sl ([.ref (aL 0), .int i1]) ++ List.replicate (2 - (lg_sl ([.ref (aL 0), .int i1])).length) Slot.unset).toArray = ls at hl ⊢
  have hl : lv_has ls 2 [(0, .ref (aL 0)), (1, .int i1)] := hl
  have hiX0 : ∀ w ∈ u_ws RX0 TX0 6, w ∈ wsX0_hasSpring := by decide +kernel
  have hgX0_15 := hts (.fieldLink RX0 15 "SpringPlates$Layout" "plates" "I") (by decide +kernel)
  refine nameH (fun H locs hHe hLe => ?_)
  have hP : va_P (dC, dI) vwCl [k0_0 aL vL, k0_1 cI aL vL, k0_2 cI aL vL, k0_3 cI aL vL, k0_4 cI aL vL] H := by rw [hHe]; exact hP
  have hS : va_S A s.heap H locs := by rw [hHe, hLe]; exact va_S.rf
  unfold fX0_hasSpring at hf
  refine lv_iload_n hx hb dX0_hasSpring_0 rfl (lv_at hl 1 rfl) ?_
  refine lv_if_lt (tgt := 16) hx hb dX0_hasSpring_1 (by decide) (fun c1 => ?_) (fun c1 => ?_)
  · have hf := oif_t c1 hf
    refine lv_iconst (v := 0) hx hb dX0_hasSpring_16 (by decide) ?_
    obtain rfl := Option.some.inj hf
    exact W.zret (v := 0) hx hb hr rfl (fun t ht hW => ⟨⟨0, (), rfl, rfl, by rw [ht]; exact hP, hD⟩, hS.F ht⟩) hS.2.2 dX0_hasSpring_17
  · have hf := oif_f c1 hf
    refine lv_iload_n hx hb dX0_hasSpring_4 rfl (lv_at hl 1 rfl) ?_
    refine lv_aload_n hx hb dX0_hasSpring_5 rfl (lv_at hl 0 rfl) ?_
    refine va_get (D := (dC, dI)) (ci := 0) (v := .int (p0_plates vL)) (C := RX0) (T := TX0) (N := 6) hx hb hts hiX0 hown hK hP 0 rfl rfl 1 (by decide) hgX0_15 (fun _ h9 => h9) rfl dX0_hasSpring_6 ?_
    refine lv_icmp_gt (tgt := 16) hx hb dX0_hasSpring_9 (by decide) (fun c2 => ?_) (fun c2 => ?_)
    · have hf := oif_t c2 hf
      refine lv_iconst (v := 0) hx hb dX0_hasSpring_16 (by decide) ?_
      obtain rfl := Option.some.inj hf
      exact W.zret (v := 0) hx hb hr rfl (fun t ht hW => ⟨⟨0, (), rfl, rfl, by rw [ht]; exact hP, hD⟩, hS.F ht⟩) hS.2.2 dX0_hasSpring_17
    · have hf := oif_f c2 hf
      refine lv_iconst (v := 1) hx hb dX0_hasSpring_12 (by decide) ?_
      refine lv_goto (tgt := 17) hx hb dX0_hasSpring_13 (by decide) ?_
      obtain rfl := Option.some.inj hf
      exact W.zret (v := 1) hx hb hr rfl (fun t ht hW => ⟨⟨1, (), rfl, rfl, by rw [ht]; exact hP, hD⟩, hS.F ht⟩) hS.2.2 dX0_hasSpring_17
def fX0_stopOf (vL : BX0) (i1 : Int32) (i2 : Int32) : Option Int32 :=
  if inB (((2 : Int32) * i1) + i2) 8 = true then (some ((p0_stops vL) ((((2 : Int32) * i1) + i2)).toNatClampNeg)) else none
set_option maxHeartbeats 8000000 in
set_option maxRecDepth 100000 in
theorem mX0_stopOf (l : Launch) (dC : Nat → ClassId) (dI : Nat → Nat → Nat) (cI cJ : ClassId) (aL : Nat → Nat) (sz : Nat) (vL : BX0) (i1 : Int32) (i2 : Int32) (y : Int32) (hf : fX0_stopOf vL i1 i2 = some y) : Met l yX0_stopOf wsX0_stopOf ({ frames := 0, cells := 0, slots := 0, locals := 0 }) (cPc dC dI cI cJ [.ref (aL 0), .int i1, .int i2] [k0_0 aL vL, k0_1 cI aL vL, k0_2 cI aL vL, k0_3 cI aL vL, k0_4 cI aL vL] sz) (va_Qi (fun r (_ : Unit) => r = y) (fun _ t => cB dC dI (va_A [k0_0 aL vL, k0_1 cI aL vL, k0_2 cI aL vL, k0_3 cI aL vL, k0_4 cI aL vL] sz) [k0_0 aL vL, k0_1 cI aL vL, k0_2 cI aL vL, k0_3 cI aL vL, k0_4 cI aL vL] t) (va_A [k0_0 aL vL, k0_1 cI aL vL, k0_2 cI aL vL, k0_3 cI aL vL, k0_4 cI aL vL] sz)) 0 0 (va_A [k0_0 aL vL, k0_1 cI aL vL, k0_2 cI aL vL, k0_3 cI aL vL, k0_4 cI aL vL] sz) := by
  refine Met.ofW (cc := cX0_stopOf) (maxL := 3) (ret := (some .int)) (by decide) rfl ?_
  intro p e s m args below meth c s₁ B hml hv
  obtain ⟨rfl, hsz, hP, hK, hD0, hN⟩ := hv
  have hx := B.exec
  have hb := B.bytes
  have hr := B.returns
  have hts := atoms_spec (ws := wsX0_stopOf) B.pre
  have hown : s.vm.findClass RX0 = some m.cls := findClass_of_methodNamed B.named
  have hlocks := B.notSynchronized
  subst hsz
  have hD := hD0.self (sz := s.heap.size)
  generalize hAe : va_A [k0_0 aL vL, k0_1 cI aL vL, k0_2 cI aL vL, k0_3 cI aL vL, k0_4 cI aL vL] s.heap.size = A at hD hN ⊢
  have hA : ∀ q : Nat, s.heap.size ≤ q → A q := fun q h => by rw [← hAe]; exact Or.inr h
  have hP : va_P (dC, dI) vwCl [k0_0 aL vL, k0_1 cI aL vL, k0_2 cI aL vL, k0_3 cI aL vL, k0_4 cI aL vL] s.heap := hP
  have hl := lv_entry ([.ref (aL 0), .int i1, .int i2]) (n := 3) (Nat.le_of_ble_eq_true rfl)
  rw [lg_entry_eq]
  generalize (lg_sl ([.ref (aL 0), .int i1, .int i2]) ++ List.replicate (3 - (lg_sl ([.ref (aL 0), .int i1, .int i2])).length) Slot.unset).toArray = ls at hl ⊢
  have hl : lv_has ls 3 [(0, .ref (aL 0)), (1, .int i1), (2, .int i2)] := hl
  have hiX0 : ∀ w ∈ u_ws RX0 TX0 6, w ∈ wsX0_stopOf := by decide +kernel
  have hgX0_28 := hts (.fieldLink RX0 28 "SpringPlates$Layout" "stops" "[I") (by decide +kernel)
  refine nameH (fun H locs hHe hLe => ?_)
  have hP : va_P (dC, dI) vwCl [k0_0 aL vL, k0_1 cI aL vL, k0_2 cI aL vL, k0_3 cI aL vL, k0_4 cI aL vL] H := by rw [hHe]; exact hP
  have hS : va_S A s.heap H locs := by rw [hHe, hLe]; exact va_S.rf
  unfold fX0_stopOf at hf
  refine lv_aload_n hx hb dX0_stopOf_0 rfl (lv_at hl 0 rfl) ?_
  refine va_get (D := (dC, dI)) (ci := 0) (v := .ref (aL 4)) (C := RX0) (T := TX0) (N := 6) hx hb hts hiX0 hown hK hP 0 rfl rfl 5 (by decide) hgX0_28 (fun _ h9 => h9) rfl dX0_stopOf_1 ?_
  refine lv_iconst (v := 2) hx hb dX0_stopOf_4 (by decide) ?_
  refine lv_iload_n hx hb dX0_stopOf_5 rfl (lv_at hl 1 rfl) ?_
  refine lv_imul hx hb dX0_stopOf_6 ?_
  refine lv_iload_n hx hb dX0_stopOf_7 rfl (lv_at hl 2 rfl) ?_
  refine lv_iadd hx hb dX0_stopOf_8 ?_
  obtain ⟨hi1, hf⟩ := oinb rfl hf
  refine va_iald hx hb hK hP 4 0 rfl rfl hi1 dX0_stopOf_9 ?_
  obtain rfl := Option.some.inj hf
  exact W.iret (v := ((p0_stops vL) ((((2 : Int32) * i1) + i2)).toNatClampNeg)) hx hb hr (fun t ht hW => ⟨⟨((p0_stops vL) ((((2 : Int32) * i1) + i2)).toNatClampNeg), (), rfl, rfl, by rw [ht]; exact hP, hD⟩, hS.F ht⟩) hS.2.2 dX0_stopOf_10
def fX0_putNewSpring (vL : BX0) (i1 : Int32) : Option BX0 :=
  if inB i1 5 = true then (elet (s0_strengths vL (upd (p0_strengths vL) (i1).toNatClampNeg 1)) (fun b2 => if inB i1 5 = true then (elet (s0_lengths b2 (upd (p0_lengths b2) (i1).toNatClampNeg 10)) (fun b4 => some b4)) else none)) else none
set_option maxHeartbeats 8000000 in
set_option maxRecDepth 100000 in
theorem mX0_putNewSpring (l : Launch) (dC : Nat → ClassId) (dI : Nat → Nat → Nat) (cI cJ : ClassId) (aL : Nat → Nat) (sz : Nat) (vL : BX0) (i1 : Int32) (y : BX0) (hf : fX0_putNewSpring vL i1 = some y) : Met l yX0_putNewSpring wsX0_putNewSpring ({ frames := 0, cells := 0, slots := 0, locals := 0 }) (cPc dC dI cI cJ [.ref (aL 0), .int i1] [k0_0 aL vL, k0_1 cI aL vL, k0_2 cI aL vL, k0_3 cI aL vL, k0_4 cI aL vL] sz) (va_Qv (fun (_ : Unit) => True) (fun _ t => cB dC dI (va_A [k0_0 aL vL, k0_1 cI aL vL, k0_2 cI aL vL, k0_3 cI aL vL, k0_4 cI aL vL] sz) [k0_0 aL y, k0_1 cI aL y, k0_2 cI aL y, k0_3 cI aL y, k0_4 cI aL y] t) (va_A [k0_0 aL vL, k0_1 cI aL vL, k0_2 cI aL vL, k0_3 cI aL vL, k0_4 cI aL vL] sz)) 0 0 (va_A [k0_0 aL vL, k0_1 cI aL vL, k0_2 cI aL vL, k0_3 cI aL vL, k0_4 cI aL vL] sz) := by
  refine Met.ofW (cc := cX0_putNewSpring) (maxL := 2) (ret := none) (by decide) rfl ?_
  intro p e s m args below meth c s₁ B hml hv
  obtain ⟨rfl, hsz, hP, hK, hD0, hN⟩ := hv
  have hx := B.exec
  have hb := B.bytes
  have hr := B.returns
  have hts := atoms_spec (ws := wsX0_putNewSpring) B.pre
  have hown : s.vm.findClass RX0 = some m.cls := findClass_of_methodNamed B.named
  have hlocks := B.notSynchronized
  subst hsz
  have hD := hD0.self (sz := s.heap.size)
  generalize hAe : va_A [k0_0 aL vL, k0_1 cI aL vL, k0_2 cI aL vL, k0_3 cI aL vL, k0_4 cI aL vL] s.heap.size = A at hD hN ⊢
  have hA : ∀ q : Nat, s.heap.size ≤ q → A q := fun q h => by rw [← hAe]; exact Or.inr h
  have hP : va_P (dC, dI) vwCl [k0_0 aL vL, k0_1 cI aL vL, k0_2 cI aL vL, k0_3 cI aL vL, k0_4 cI aL vL] s.heap := hP
  have hl := lv_entry ([.ref (aL 0), .int i1]) (n := 2) (Nat.le_of_ble_eq_true rfl)
  rw [lg_entry_eq]
  generalize (lg_sl ([.ref (aL 0), .int i1]) ++ List.replicate (2 - (lg_sl ([.ref (aL 0), .int i1])).length) Slot.unset).toArray = ls at hl ⊢
  have hl : lv_has ls 2 [(0, .ref (aL 0)), (1, .int i1)] := hl
  have hiX0 : ∀ w ∈ u_ws RX0 TX0 6, w ∈ wsX0_putNewSpring := by decide +kernel
  have hgX0_18 := hts (.fieldLink RX0 18 "SpringPlates$Layout" "strengths" "[I") (by decide +kernel)
  have hgX0_22 := hts (.fieldLink RX0 22 "SpringPlates$Layout" "lengths" "[I") (by decide +kernel)
  refine nameH (fun H locs hHe hLe => ?_)
  have hP : va_P (dC, dI) vwCl [k0_0 aL vL, k0_1 cI aL vL, k0_2 cI aL vL, k0_3 cI aL vL, k0_4 cI aL vL] H := by rw [hHe]; exact hP
  have hS : va_S A s.heap H locs := by rw [hHe, hLe]; exact va_S.rf
  unfold fX0_putNewSpring at hf
  refine lv_aload_n hx hb dX0_putNewSpring_0 rfl (lv_at hl 0 rfl) ?_
  refine va_get (D := (dC, dI)) (ci := 0) (v := .ref (aL 1)) (C := RX0) (T := TX0) (N := 6) hx hb hts hiX0 hown hK hP 0 rfl rfl 2 (by decide) hgX0_18 (fun _ h9 => h9) rfl dX0_putNewSpring_1 ?_
  refine lv_iload_n hx hb dX0_putNewSpring_4 rfl (lv_at hl 1 rfl) ?_
  refine lv_iconst (v := 1) hx hb dX0_putNewSpring_5 (by decide) ?_
  obtain ⟨hi1, hf⟩ := oinb rfl hf
  obtain ⟨b2, eb2, hf⟩ := elet_out hf
  refine va_iast hx hb hK hP hD hS 1 0 rfl rfl hi1 dX0_putNewSpring_6 (fun H locs hP hD hS => ?_)
  have hP : va_P (dC, dI) vwCl [k0_0 aL b2, k0_1 cI aL b2, k0_2 cI aL b2, k0_3 cI aL b2, k0_4 cI aL b2] H := by rw [eb2]; exact hP
  have hD : va_D A [k0_0 aL b2, k0_1 cI aL b2, k0_2 cI aL b2, k0_3 cI aL b2, k0_4 cI aL b2] := by rw [eb2]; exact hD
  refine lv_aload_n hx hb dX0_putNewSpring_7 rfl (lv_at hl 0 rfl) ?_
  refine va_get (D := (dC, dI)) (ci := 0) (v := .ref (aL 2)) (C := RX0) (T := TX0) (N := 6) hx hb hts hiX0 hown hK hP 0 rfl rfl 3 (by decide) hgX0_22 (fun _ h9 => h9) rfl dX0_putNewSpring_8 ?_
  refine lv_iload_n hx hb dX0_putNewSpring_11 rfl (lv_at hl 1 rfl) ?_
  refine lv_bipush (v := 10) hx hb dX0_putNewSpring_12 (by decide) ?_
  obtain ⟨hi3, hf⟩ := oinb rfl hf
  obtain ⟨b4, eb4, hf⟩ := elet_out hf
  refine va_iast hx hb hK hP hD hS 2 0 rfl rfl hi3 dX0_putNewSpring_14 (fun H locs hP hD hS => ?_)
  have hP : va_P (dC, dI) vwCl [k0_0 aL b4, k0_1 cI aL b4, k0_2 cI aL b4, k0_3 cI aL b4, k0_4 cI aL b4] H := by rw [eb4]; exact hP
  have hD : va_D A [k0_0 aL b4, k0_1 cI aL b4, k0_2 cI aL b4, k0_3 cI aL b4, k0_4 cI aL b4] := by rw [eb4]; exact hD
  obtain rfl := Option.some.inj hf
  exact W.vret hx hb hr (fun t ht hW => ⟨⟨(), rfl, trivial, by rw [ht]; exact hP, hD⟩, hS.F ht⟩) hS.2.2 dX0_putNewSpring_15
def fX0_setLoad (vL : BX0) (i1 : Int32) (i2 : Int32) : Option (Int32 × BX0) :=
  (fX0_hasPlate vL i1).bind (fun y1 => if y1 = 0 then (some ((-1000001), vL)) else (if i2 < (-99 : Int32) then (some ((-1000001), vL)) else (if i2 ≤ (99 : Int32) then (if inB i1 4 = true then (elet ((p0_loads vL) (i1).toNatClampNeg) (fun z6 => if inB i1 4 = true then (elet (s0_loads vL (upd (p0_loads vL) (i1).toNatClampNeg i2)) (fun b8 => some ((z6 + (1000 : Int32)), b8))) else none)) else none) else (some ((-1000001), vL)))))
set_option maxHeartbeats 8000000 in
set_option maxRecDepth 100000 in
theorem mX0_setLoad (l : Launch) (dC : Nat → ClassId) (dI : Nat → Nat → Nat) (cI cJ : ClassId) (aL : Nat → Nat) (sz : Nat) (vL : BX0) (i1 : Int32) (i2 : Int32) (y : (Int32 × BX0)) (hf : fX0_setLoad vL i1 i2 = some y) : Met l yX0_setLoad wsX0_setLoad ({ frames := 1, cells := 0, slots := 0, locals := 21 }) (cPc dC dI cI cJ [.ref (aL 0), .int i1, .int i2] [k0_0 aL vL, k0_1 cI aL vL, k0_2 cI aL vL, k0_3 cI aL vL, k0_4 cI aL vL] sz) (va_Qi (fun r (_ : Unit) => r = y.1) (fun _ t => cB dC dI (va_A [k0_0 aL vL, k0_1 cI aL vL, k0_2 cI aL vL, k0_3 cI aL vL, k0_4 cI aL vL] sz) [k0_0 aL y.2, k0_1 cI aL y.2, k0_2 cI aL y.2, k0_3 cI aL y.2, k0_4 cI aL y.2] t) (va_A [k0_0 aL vL, k0_1 cI aL vL, k0_2 cI aL vL, k0_3 cI aL vL, k0_4 cI aL vL] sz)) 0 0 (va_A [k0_0 aL vL, k0_1 cI aL vL, k0_2 cI aL vL, k0_3 cI aL vL, k0_4 cI aL vL] sz) := by
  refine Met.ofW (cc := cX0_setLoad) (maxL := 4) (ret := (some .int)) (by decide) rfl ?_
  intro p e s m args below meth c s₁ B hml hv
  obtain ⟨rfl, hsz, hP, hK, hD0, hN⟩ := hv
  have hx := B.exec
  have hb := B.bytes
  have hr := B.returns
  have hts := atoms_spec (ws := wsX0_setLoad) B.pre
  have hown : s.vm.findClass RX0 = some m.cls := findClass_of_methodNamed B.named
  have hlocks := B.notSynchronized
  subst hsz
  have hD := hD0.self (sz := s.heap.size)
  generalize hAe : va_A [k0_0 aL vL, k0_1 cI aL vL, k0_2 cI aL vL, k0_3 cI aL vL, k0_4 cI aL vL] s.heap.size = A at hD hN ⊢
  have hA : ∀ q : Nat, s.heap.size ≤ q → A q := fun q h => by rw [← hAe]; exact Or.inr h
  have hP : va_P (dC, dI) vwCl [k0_0 aL vL, k0_1 cI aL vL, k0_2 cI aL vL, k0_3 cI aL vL, k0_4 cI aL vL] s.heap := hP
  have hl := lv_entry ([.ref (aL 0), .int i1, .int i2]) (n := 4) (Nat.le_of_ble_eq_true rfl)
  rw [lg_entry_eq]
  generalize (lg_sl ([.ref (aL 0), .int i1, .int i2]) ++ List.replicate (4 - (lg_sl ([.ref (aL 0), .int i1, .int i2])).length) Slot.unset).toArray = ls at hl ⊢
  have hl : lv_has ls 4 [(0, .ref (aL 0)), (1, .int i1), (2, .int i2)] := hl
  have hc55 := hts (.constant RX0 55 (-1000001)) (by decide +kernel)
  have hiX0 : ∀ w ∈ u_ws RX0 TX0 6, w ∈ wsX0_setLoad := by decide +kernel
  have hgX0_25 := hts (.fieldLink RX0 25 "SpringPlates$Layout" "loads" "[I") (by decide +kernel)
  refine nameH (fun H locs hHe hLe => ?_)
  have hP : va_P (dC, dI) vwCl [k0_0 aL vL, k0_1 cI aL vL, k0_2 cI aL vL, k0_3 cI aL vL, k0_4 cI aL vL] H := by rw [hHe]; exact hP
  have hS : va_S A s.heap H locs := by rw [hHe, hLe]; exact va_S.rf
  unfold fX0_setLoad at hf
  refine lv_aload_n hx hb dX0_setLoad_0 rfl (lv_at hl 0 rfl) ?_
  refine lv_iload_n hx hb dX0_setLoad_1 rfl (lv_at hl 1 rfl) ?_
  obtain ⟨y1, hy1, hf⟩ := obind hf
  refine cg_i (ws := [k0_0 aL vL, k0_1 cI aL vL, k0_2 cI aL vL, k0_3 cI aL vL, k0_4 cI aL vL]) (wc := [k0_0 aL vL, k0_1 cI aL vL, k0_2 cI aL vL, k0_3 cI aL vL, k0_4 cI aL vL]) (wr := []) (w1 := [k0_0 aL vL, k0_1 cI aL vL, k0_2 cI aL vL, k0_3 cI aL vL, k0_4 cI aL vL]) (wo := [k0_0 aL vL, k0_1 cI aL vL, k0_2 cI aL vL, k0_3 cI aL vL, k0_4 cI aL vL]) hP hD hS hA (va_runV (As := [.int i1]) (rest := []) ⟨hx, hb, hml, hown, hts⟩ (mX0_hasPlate l dC dI cI cJ aL H.size vL i1 y1 hy1) (cwV 1 hts gX0_setLoad_X0_hasPlate rfl rfl rfl (by decide +kernel) ⟨Nat.le_of_ble_eq_true rfl, Nat.le_of_ble_eq_true rfl⟩) ⟨cFB, va_recv hK hP (ci := 0) (q0 := 0) rfl rfl, cPre hK hN hS (va_free (wc := [k0_0 aL vL, k0_1 cI aL vL, k0_2 cI aL vL, k0_3 cI aL vL, k0_4 cI aL vL]) hD hS hA [0, 1, 2, 3, 4] rfl) (hP.sub [0, 1, 2, 3, 4] rfl) (hD.sub [0, 1, 2, 3, 4] rfl rfl)⟩ rfl rfl hl.1 rfl (lv_room (Nat.le_of_ble_eq_true rfl)) dX0_setLoad_2 ⟨Nat.le_of_ble_eq_true rfl, Nat.le_of_ble_eq_true rfl⟩) [0, 1, 2, 3, 4] [] [0, 1, 2, 3, 4] rfl rfl rfl (by decide +kernel) rfl rfl (fun H locs hP hD hS => ?_)
  refine lv_if_eq (tgt := 20) hx hb dX0_setLoad_5 (by decide) (fun c2 => ?_) (fun c2 => ?_)
  · have hf := oif_t c2 hf
    refine lv_ldc (v := (-1000001)) hx hb hown hc55 dX0_setLoad_20 ?_
    obtain rfl := Option.some.inj hf
    exact W.iret (v := (-1000001)) hx hb hr (fun t ht hW => ⟨⟨(-1000001), (), rfl, rfl, by rw [ht]; exact hP, hD⟩, hS.F ht⟩) hS.2.2 dX0_setLoad_22
  · have hf := oif_f c2 hf
    refine lv_iload_n hx hb dX0_setLoad_8 rfl (lv_at hl 2 rfl) ?_
    refine lv_bipush (v := (-99)) hx hb dX0_setLoad_9 (by decide) ?_
    refine lv_icmp_lt (tgt := 20) hx hb dX0_setLoad_11 (by decide) (fun c3 => ?_) (fun c3 => ?_)
    · have hf := oif_t c3 hf
      refine lv_ldc (v := (-1000001)) hx hb hown hc55 dX0_setLoad_20 ?_
      obtain rfl := Option.some.inj hf
      exact W.iret (v := (-1000001)) hx hb hr (fun t ht hW => ⟨⟨(-1000001), (), rfl, rfl, by rw [ht]; exact hP, hD⟩, hS.F ht⟩) hS.2.2 dX0_setLoad_22
    · have hf := oif_f c3 hf
      refine lv_iload_n hx hb dX0_setLoad_14 rfl (lv_at hl 2 rfl) ?_
      refine lv_bipush (v := 99) hx hb dX0_setLoad_15 (by decide) ?_
      refine lv_icmp_le (tgt := 23) hx hb dX0_setLoad_17 (by decide) (fun c4 => ?_) (fun c4 => ?_)
      · have hf := oif_t c4 hf
        refine lv_aload_n hx hb dX0_setLoad_23 rfl (lv_at hl 0 rfl) ?_
        refine va_get (D := (dC, dI)) (ci := 0) (v := .ref (aL 3)) (C := RX0) (T := TX0) (N := 6) hx hb hts hiX0 hown hK hP 0 rfl rfl 4 (by decide) hgX0_25 (fun _ h9 => h9) rfl dX0_setLoad_24 ?_
        refine lv_iload_n hx hb dX0_setLoad_27 rfl (lv_at hl 1 rfl) ?_
        obtain ⟨hi5, hf⟩ := oinb rfl hf
        refine va_iald hx hb hK hP 3 0 rfl rfl hi5 dX0_setLoad_28 ?_
        obtain ⟨z6, ez6, hf⟩ := elet_out hf
        refine lvn_i ez6 ?_
        refine lv_istore_n (lv' := [(3, .int z6), (0, .ref (aL 0)), (1, .int i1), (2, .int i2)]) hx hb dX0_setLoad_29 rfl hl (by decide) rfl (fun ls hl => ?_)
        refine lv_aload_n hx hb dX0_setLoad_30 rfl (lv_at hl 1 rfl) ?_
        refine va_get (D := (dC, dI)) (ci := 0) (v := .ref (aL 3)) (C := RX0) (T := TX0) (N := 6) hx hb hts hiX0 hown hK hP 0 rfl rfl 4 (by decide) hgX0_25 (fun _ h9 => h9) rfl dX0_setLoad_31 ?_
        refine lv_iload_n hx hb dX0_setLoad_34 rfl (lv_at hl 2 rfl) ?_
        refine lv_iload_n hx hb dX0_setLoad_35 rfl (lv_at hl 3 rfl) ?_
        obtain ⟨hi7, hf⟩ := oinb rfl hf
        obtain ⟨b8, eb8, hf⟩ := elet_out hf
        refine va_iast hx hb hK hP hD hS 3 0 rfl rfl hi7 dX0_setLoad_36 (fun H locs hP hD hS => ?_)
        have hP : va_P (dC, dI) vwCl [k0_0 aL b8, k0_1 cI aL b8, k0_2 cI aL b8, k0_3 cI aL b8, k0_4 cI aL b8] H := by rw [eb8]; exact hP
        have hD : va_D A [k0_0 aL b8, k0_1 cI aL b8, k0_2 cI aL b8, k0_3 cI aL b8, k0_4 cI aL b8] := by rw [eb8]; exact hD
        refine lv_iload_n hx hb dX0_setLoad_37 rfl (lv_at hl 0 rfl) ?_
        refine lv_sipush (v := 1000) hx hb dX0_setLoad_38 (by decide) ?_
        refine lv_iadd hx hb dX0_setLoad_41 ?_
        obtain rfl := Option.some.inj hf
        exact W.iret (v := (z6 + (1000 : Int32))) hx hb hr (fun t ht hW => ⟨⟨(z6 + (1000 : Int32)), (), rfl, rfl, by rw [ht]; exact hP, hD⟩, hS.F ht⟩) hS.2.2 dX0_setLoad_42
      · have hf := oif_f c4 hf
        refine lv_ldc (v := (-1000001)) hx hb hown hc55 dX0_setLoad_20 ?_
        obtain rfl := Option.some.inj hf
        exact W.iret (v := (-1000001)) hx hb hr (fun t ht hW => ⟨⟨(-1000001), (), rfl, rfl, by rw [ht]; exact hP, hD⟩, hS.F ht⟩) hS.2.2 dX0_setLoad_22
def fX0_copyPlate (vL : BX0) (vO : BX0) (i2 : Int32) (i3 : Int32) : Option BX0 :=
  if inB i2 4 = true then (if inB i3 4 = true then (elet (s0_loads vL (upd (p0_loads vL) (i3).toNatClampNeg ((p0_loads vO) (i2).toNatClampNeg))) (fun b3 => if inB ((2 : Int32) * i2) 8 = true then (if inB ((2 : Int32) * i3) 8 = true then (elet (s0_stops b3 (upd (p0_stops b3) (((2 : Int32) * i3)).toNatClampNeg ((p0_stops vO) (((2 : Int32) * i2)).toNatClampNeg))) (fun b6 => if inB (((2 : Int32) * i2) + (1 : Int32)) 8 = true then (if inB (((2 : Int32) * i3) + (1 : Int32)) 8 = true then (elet (s0_stops b6 (upd (p0_stops b6) ((((2 : Int32) * i3) + (1 : Int32))).toNatClampNeg ((p0_stops vO) ((((2 : Int32) * i2) + (1 : Int32))).toNatClampNeg))) (fun b9 => some b9)) else none) else none)) else none) else none)) else none) else none
set_option maxHeartbeats 8000000 in
set_option maxRecDepth 100000 in
theorem mX0_copyPlate (l : Launch) (dC : Nat → ClassId) (dI : Nat → Nat → Nat) (cI cJ : ClassId) (aL : Nat → Nat) (aO : Nat → Nat) (sz : Nat) (vL : BX0) (vO : BX0) (i2 : Int32) (i3 : Int32) (y : BX0) (hf : fX0_copyPlate vL vO i2 i3 = some y) : Met l yX0_copyPlate wsX0_copyPlate ({ frames := 0, cells := 0, slots := 0, locals := 0 }) (cPc dC dI cI cJ [.ref (aL 0), .ref (aO 0), .int i2, .int i3] [k0_0 aL vL, k0_1 cI aL vL, k0_2 cI aL vL, k0_3 cI aL vL, k0_4 cI aL vL, k0_0 aO vO, k0_1 cI aO vO, k0_2 cI aO vO, k0_3 cI aO vO, k0_4 cI aO vO] sz) (va_Qv (fun (_ : Unit) => True) (fun _ t => cB dC dI (va_A [k0_0 aL vL, k0_1 cI aL vL, k0_2 cI aL vL, k0_3 cI aL vL, k0_4 cI aL vL, k0_0 aO vO, k0_1 cI aO vO, k0_2 cI aO vO, k0_3 cI aO vO, k0_4 cI aO vO] sz) [k0_0 aL y, k0_1 cI aL y, k0_2 cI aL y, k0_3 cI aL y, k0_4 cI aL y, k0_0 aO vO, k0_1 cI aO vO, k0_2 cI aO vO, k0_3 cI aO vO, k0_4 cI aO vO] t) (va_A [k0_0 aL vL, k0_1 cI aL vL, k0_2 cI aL vL, k0_3 cI aL vL, k0_4 cI aL vL, k0_0 aO vO, k0_1 cI aO vO, k0_2 cI aO vO, k0_3 cI aO vO, k0_4 cI aO vO] sz)) 0 0 (va_A [k0_0 aL vL, k0_1 cI aL vL, k0_2 cI aL vL, k0_3 cI aL vL, k0_4 cI aL vL, k0_0 aO vO, k0_1 cI aO vO, k0_2 cI aO vO, k0_3 cI aO vO, k0_4 cI aO vO] sz) := by
  refine Met.ofW (cc := cX0_copyPlate) (maxL := 4) (ret := none) (by decide) rfl ?_
  intro p e s m args below meth c s₁ B hml hv
  obtain ⟨rfl, hsz, hP, hK, hD0, hN⟩ := hv
  have hx := B.exec
  have hb := B.bytes
  have hr := B.returns
  have hts := atoms_spec (ws := wsX0_copyPlate) B.pre
  have hown : s.vm.findClass RX0 = some m.cls := findClass_of_methodNamed B.named
  have hlocks := B.notSynchronized
  subst hsz
  have hD := hD0.self (sz := s.heap.size)
  generalize hAe : va_A [k0_0 aL vL, k0_1 cI aL vL, k0_2 cI aL vL, k0_3 cI aL vL, k0_4 cI aL vL, k0_0 aO vO, k0_1 cI aO vO, k0_2 cI aO vO, k0_3 cI aO vO, k0_4 cI aO vO] s.heap.size = A at hD hN ⊢
  have hA : ∀ q : Nat, s.heap.size ≤ q → A q := fun q h => by rw [← hAe]; exact Or.inr h
  have hP : va_P (dC, dI) vwCl [k0_0 aL vL, k0_1 cI aL vL, k0_2 cI aL vL, k0_3 cI aL vL, k0_4 cI aL vL, k0_0 aO vO, k0_1 cI aO vO, k0_2 cI aO vO, k0_3 cI aO vO, k0_4 cI aO vO] s.heap := hP
  have hl := lv_entry ([.ref (aL 0), .ref (aO 0), .int i2, .int i3]) (n := 4) (Nat.le_of_ble_eq_true rfl)
  rw [lg_entry_eq]
  generalize (lg_sl ([.ref (aL 0), .ref (aO 0), .int i2, .int i3]) ++ List.replicate (4 - (lg_sl ([.ref (aL 0), .ref (aO 0), .int i2, .int i3])).length) Slot.unset).toArray = ls at hl ⊢
  have hl : lv_has ls 4 [(0, .ref (aL 0)), (1, .ref (aO 0)), (2, .int i2), (3, .int i3)] := hl
  have hiX0 : ∀ w ∈ u_ws RX0 TX0 6, w ∈ wsX0_copyPlate := by decide +kernel
  have hgX0_25 := hts (.fieldLink RX0 25 "SpringPlates$Layout" "loads" "[I") (by decide +kernel)
  have hgX0_28 := hts (.fieldLink RX0 28 "SpringPlates$Layout" "stops" "[I") (by decide +kernel)
  refine nameH (fun H locs hHe hLe => ?_)
  have hP : va_P (dC, dI) vwCl [k0_0 aL vL, k0_1 cI aL vL, k0_2 cI aL vL, k0_3 cI aL vL, k0_4 cI aL vL, k0_0 aO vO, k0_1 cI aO vO, k0_2 cI aO vO, k0_3 cI aO vO, k0_4 cI aO vO] H := by rw [hHe]; exact hP
  have hS : va_S A s.heap H locs := by rw [hHe, hLe]; exact va_S.rf
  unfold fX0_copyPlate at hf
  refine lv_aload_n hx hb dX0_copyPlate_0 rfl (lv_at hl 0 rfl) ?_
  refine va_get (D := (dC, dI)) (ci := 0) (v := .ref (aL 3)) (C := RX0) (T := TX0) (N := 6) hx hb hts hiX0 hown hK hP 0 rfl rfl 4 (by decide) hgX0_25 (fun _ h9 => h9) rfl dX0_copyPlate_1 ?_
  refine lv_iload_n hx hb dX0_copyPlate_4 rfl (lv_at hl 3 rfl) ?_
  refine lv_aload_n hx hb dX0_copyPlate_5 rfl (lv_at hl 1 rfl) ?_
  refine va_get (D := (dC, dI)) (ci := 0) (v := .ref (aO 3)) (C := RX0) (T := TX0) (N := 6) hx hb hts hiX0 hown hK hP 5 rfl rfl 4 (by decide) hgX0_25 (fun _ h9 => h9) rfl dX0_copyPlate_6 ?_
  refine lv_iload_n hx hb dX0_copyPlate_9 rfl (lv_at hl 2 rfl) ?_
  obtain ⟨hi1, hf⟩ := oinb rfl hf
  refine va_iald hx hb hK hP 8 0 rfl rfl hi1 dX0_copyPlate_10 ?_
  obtain ⟨hi2, hf⟩ := oinb rfl hf
  obtain ⟨b3, eb3, hf⟩ := elet_out hf
  refine va_iast hx hb hK hP hD hS 3 0 rfl rfl hi2 dX0_copyPlate_11 (fun H locs hP hD hS => ?_)
  have hP : va_P (dC, dI) vwCl [k0_0 aL b3, k0_1 cI aL b3, k0_2 cI aL b3, k0_3 cI aL b3, k0_4 cI aL b3, k0_0 aO vO, k0_1 cI aO vO, k0_2 cI aO vO, k0_3 cI aO vO, k0_4 cI aO vO] H := by rw [eb3]; exact hP
  have hD : va_D A [k0_0 aL b3, k0_1 cI aL b3, k0_2 cI aL b3, k0_3 cI aL b3, k0_4 cI aL b3, k0_0 aO vO, k0_1 cI aO vO, k0_2 cI aO vO, k0_3 cI aO vO, k0_4 cI aO vO] := by rw [eb3]; exact hD
  refine lv_aload_n hx hb dX0_copyPlate_12 rfl (lv_at hl 0 rfl) ?_
  refine va_get (D := (dC, dI)) (ci := 0) (v := .ref (aL 4)) (C := RX0) (T := TX0) (N := 6) hx hb hts hiX0 hown hK hP 0 rfl rfl 5 (by decide) hgX0_28 (fun _ h9 => h9) rfl dX0_copyPlate_13 ?_
  refine lv_iconst (v := 2) hx hb dX0_copyPlate_16 (by decide) ?_
  refine lv_iload_n hx hb dX0_copyPlate_17 rfl (lv_at hl 3 rfl) ?_
  refine lv_imul hx hb dX0_copyPlate_18 ?_
  refine lv_aload_n hx hb dX0_copyPlate_19 rfl (lv_at hl 1 rfl) ?_
  refine va_get (D := (dC, dI)) (ci := 0) (v := .ref (aO 4)) (C := RX0) (T := TX0) (N := 6) hx hb hts hiX0 hown hK hP 5 rfl rfl 5 (by decide) hgX0_28 (fun _ h9 => h9) rfl dX0_copyPlate_20 ?_
  refine lv_iconst (v := 2) hx hb dX0_copyPlate_23 (by decide) ?_
  refine lv_iload_n hx hb dX0_copyPlate_24 rfl (lv_at hl 2 rfl) ?_
  refine lv_imul hx hb dX0_copyPlate_25 ?_
  obtain ⟨hi4, hf⟩ := oinb rfl hf
  refine va_iald hx hb hK hP 9 0 rfl rfl hi4 dX0_copyPlate_26 ?_
  obtain ⟨hi5, hf⟩ := oinb rfl hf
  obtain ⟨b6, eb6, hf⟩ := elet_out hf
  refine va_iast hx hb hK hP hD hS 4 0 rfl rfl hi5 dX0_copyPlate_27 (fun H locs hP hD hS => ?_)
  have hP : va_P (dC, dI) vwCl [k0_0 aL b6, k0_1 cI aL b6, k0_2 cI aL b6, k0_3 cI aL b6, k0_4 cI aL b6, k0_0 aO vO, k0_1 cI aO vO, k0_2 cI aO vO, k0_3 cI aO vO, k0_4 cI aO vO] H := by rw [eb6]; exact hP
  have hD : va_D A [k0_0 aL b6, k0_1 cI aL b6, k0_2 cI aL b6, k0_3 cI aL b6, k0_4 cI aL b6, k0_0 aO vO, k0_1 cI aO vO, k0_2 cI aO vO, k0_3 cI aO vO, k0_4 cI aO vO] := by rw [eb6]; exact hD
  refine lv_aload_n hx hb dX0_copyPlate_28 rfl (lv_at hl 0 rfl) ?_
  refine va_get (D := (dC, dI)) (ci := 0) (v := .ref (aL 4)) (C := RX0) (T := TX0) (N := 6) hx hb hts hiX0 hown hK hP 0 rfl rfl 5 (by decide) hgX0_28 (fun _ h9 => h9) rfl dX0_copyPlate_29 ?_
  refine lv_iconst (v := 2) hx hb dX0_copyPlate_32 (by decide) ?_
  refine lv_iload_n hx hb dX0_copyPlate_33 rfl (lv_at hl 3 rfl) ?_
  refine lv_imul hx hb dX0_copyPlate_34 ?_
  refine lv_iconst (v := 1) hx hb dX0_copyPlate_35 (by decide) ?_
  refine lv_iadd hx hb dX0_copyPlate_36 ?_
  refine lv_aload_n hx hb dX0_copyPlate_37 rfl (lv_at hl 1 rfl) ?_
  refine va_get (D := (dC, dI)) (ci := 0) (v := .ref (aO 4)) (C := RX0) (T := TX0) (N := 6) hx hb hts hiX0 hown hK hP 5 rfl rfl 5 (by decide) hgX0_28 (fun _ h9 => h9) rfl dX0_copyPlate_38 ?_
  refine lv_iconst (v := 2) hx hb dX0_copyPlate_41 (by decide) ?_
  refine lv_iload_n hx hb dX0_copyPlate_42 rfl (lv_at hl 2 rfl) ?_
  refine lv_imul hx hb dX0_copyPlate_43 ?_
  refine lv_iconst (v := 1) hx hb dX0_copyPlate_44 (by decide) ?_
  refine lv_iadd hx hb dX0_copyPlate_45 ?_
  obtain ⟨hi7, hf⟩ := oinb rfl hf
  refine va_iald hx hb hK hP 9 0 rfl rfl hi7 dX0_copyPlate_46 ?_
  obtain ⟨hi8, hf⟩ := oinb rfl hf
  obtain ⟨b9, eb9, hf⟩ := elet_out hf
  refine va_iast hx hb hK hP hD hS 4 0 rfl rfl hi8 dX0_copyPlate_47 (fun H locs hP hD hS => ?_)
  have hP : va_P (dC, dI) vwCl [k0_0 aL b9, k0_1 cI aL b9, k0_2 cI aL b9, k0_3 cI aL b9, k0_4 cI aL b9, k0_0 aO vO, k0_1 cI aO vO, k0_2 cI aO vO, k0_3 cI aO vO, k0_4 cI aO vO] H := by rw [eb9]; exact hP
  have hD : va_D A [k0_0 aL b9, k0_1 cI aL b9, k0_2 cI aL b9, k0_3 cI aL b9, k0_4 cI aL b9, k0_0 aO vO, k0_1 cI aO vO, k0_2 cI aO vO, k0_3 cI aO vO, k0_4 cI aO vO] := by rw [eb9]; exact hD
  obtain rfl := Option.some.inj hf
  exact W.vret hx hb hr (fun t ht hW => ⟨⟨(), rfl, trivial, by rw [ht]; exact hP, hD⟩, hS.F ht⟩) hS.2.2 dX0_copyPlate_48
def fX0_sumOfLoads_5_b (k5 : BX0 → Int32 → Int32 → Int32 → Option Int32) (vL : BX0) (x2 : Int32) (x3 : Int32) (x4 : Int32) : Option Int32 :=
  if x2 < x4 then (some x3) else (if inB x4 4 = true then (elet (x3 + ((p0_loads vL) (x4).toNatClampNeg)) (fun z3 => elet (x4 + 1) (fun z4 => k5 vL x2 z3 z4))) else none)
def fX0_sumOfLoads_5 : Nat → BX0 → Int32 → Int32 → Int32 → Option Int32
  | 0 => fun _ _ _ _ => none
  | n + 1 => fX0_sumOfLoads_5_b (fX0_sumOfLoads_5 n)
def fX0_sumOfLoads (vL : BX0) (i1 : Int32) (i2 : Int32) : Option Int32 :=
  fX0_sumOfLoads_5 FU vL i2 (0 : Int32) i1
set_option maxHeartbeats 8000000 in
set_option maxRecDepth 100000 in
theorem mX0_sumOfLoads (l : Launch) (dC : Nat → ClassId) (dI : Nat → Nat → Nat) (cI cJ : ClassId) (aL : Nat → Nat) (sz : Nat) (vL : BX0) (i1 : Int32) (i2 : Int32) (y : Int32) (hf : fX0_sumOfLoads vL i1 i2 = some y) : Met l yX0_sumOfLoads wsX0_sumOfLoads ({ frames := 0, cells := 0, slots := 0, locals := 0 }) (cPc dC dI cI cJ [.ref (aL 0), .int i1, .int i2] [k0_0 aL vL, k0_1 cI aL vL, k0_2 cI aL vL, k0_3 cI aL vL, k0_4 cI aL vL] sz) (va_Qi (fun r (_ : Unit) => r = y) (fun _ t => cB dC dI (va_A [k0_0 aL vL, k0_1 cI aL vL, k0_2 cI aL vL, k0_3 cI aL vL, k0_4 cI aL vL] sz) [k0_0 aL vL, k0_1 cI aL vL, k0_2 cI aL vL, k0_3 cI aL vL, k0_4 cI aL vL] t) (va_A [k0_0 aL vL, k0_1 cI aL vL, k0_2 cI aL vL, k0_3 cI aL vL, k0_4 cI aL vL] sz)) 0 0 (va_A [k0_0 aL vL, k0_1 cI aL vL, k0_2 cI aL vL, k0_3 cI aL vL, k0_4 cI aL vL] sz) := by
  refine Met.ofW (cc := cX0_sumOfLoads) (maxL := 5) (ret := (some .int)) (by decide) rfl ?_
  intro p e s m args below meth c s₁ B hml hv
  obtain ⟨rfl, hsz, hP, hK, hD0, hN⟩ := hv
  have hx := B.exec
  have hb := B.bytes
  have hr := B.returns
  have hts := atoms_spec (ws := wsX0_sumOfLoads) B.pre
  have hown : s.vm.findClass RX0 = some m.cls := findClass_of_methodNamed B.named
  have hlocks := B.notSynchronized
  subst hsz
  have hD := hD0.self (sz := s.heap.size)
  generalize hAe : va_A [k0_0 aL vL, k0_1 cI aL vL, k0_2 cI aL vL, k0_3 cI aL vL, k0_4 cI aL vL] s.heap.size = A at hD hN ⊢
  have hA : ∀ q : Nat, s.heap.size ≤ q → A q := fun q h => by rw [← hAe]; exact Or.inr h
  have hP : va_P (dC, dI) vwCl [k0_0 aL vL, k0_1 cI aL vL, k0_2 cI aL vL, k0_3 cI aL vL, k0_4 cI aL vL] s.heap := hP
  have hl := lv_entry ([.ref (aL 0), .int i1, .int i2]) (n := 5) (Nat.le_of_ble_eq_true rfl)
  rw [lg_entry_eq]
  generalize (lg_sl ([.ref (aL 0), .int i1, .int i2]) ++ List.replicate (5 - (lg_sl ([.ref (aL 0), .int i1, .int i2])).length) Slot.unset).toArray = ls at hl ⊢
  have hl : lv_has ls 5 [(0, .ref (aL 0)), (1, .int i1), (2, .int i2)] := hl
  have hiX0 : ∀ w ∈ u_ws RX0 TX0 6, w ∈ wsX0_sumOfLoads := by decide +kernel
  have hgX0_25 := hts (.fieldLink RX0 25 "SpringPlates$Layout" "loads" "[I") (by decide +kernel)
  refine nameH (fun H locs hHe hLe => ?_)
  have hP : va_P (dC, dI) vwCl [k0_0 aL vL, k0_1 cI aL vL, k0_2 cI aL vL, k0_3 cI aL vL, k0_4 cI aL vL] H := by rw [hHe]; exact hP
  have hS : va_S A s.heap H locs := by rw [hHe, hLe]; exact va_S.rf
  refine withW (fun WW hWW => ?_)
  have L5 : ∀ (n : Nat) (x2 : Int32) (x3 : Int32) (x4 : Int32) (H : Heap) (locs : List Loc) (ls : Array Slot), va_P (dC, dI) vwCl [k0_0 aL vL, k0_1 cI aL vL, k0_2 cI aL vL, k0_3 cI aL vL, k0_4 cI aL vL] H → va_D A [k0_0 aL vL, k0_1 cI aL vL, k0_2 cI aL vL, k0_3 cI aL vL, k0_4 cI aL vL] → va_S A s.heap H locs → lv_has ls 5 [(0, .ref (aL 0)), (2, .int x2), (3, .int x3), (4, .int x4)] → fX0_sumOfLoads_5 n vL x2 x3 x4 = some y → WW H locs 0 0 ls 5 [] := by
    intro n
    induction n with
    | zero =>
      intro x2 x3 x4 H locs ls hP hD hS hl hf
      exact onone hf
    | succ n ih =>
      intro x2 x3 x4 H locs ls hP hD hS hl hf
      have hf : fX0_sumOfLoads_5_b (fX0_sumOfLoads_5 n) vL x2 x3 x4 = some y := hf
      generalize fX0_sumOfLoads_5 n = k5 at hf ih
      have hk5 := ih
      clear ih
      unfold fX0_sumOfLoads_5_b at hf
      refine (hWW _ _ _ _ _ _ _).2 ?_
      refine lv_iload hx hb dX0_sumOfLoads_5 (lv_at hl 3 rfl) ?_
      refine lv_iload_n hx hb dX0_sumOfLoads_7 rfl (lv_at hl 1 rfl) ?_
      refine lv_icmp_gt (tgt := 27) hx hb dX0_sumOfLoads_8 (by decide) (fun c1 => ?_) (fun c1 => ?_)
      · have hf := oif_t c1 hf
        refine lv_iload_n hx hb dX0_sumOfLoads_27 rfl (lv_at hl 2 rfl) ?_
        obtain rfl := Option.some.inj hf
        exact W.iret (v := x3) hx hb hr (fun t ht hW => ⟨⟨x3, (), rfl, rfl, by rw [ht]; exact hP, hD⟩, hS.F ht⟩) hS.2.2 dX0_sumOfLoads_28
      · have hf := oif_f c1 hf
        refine lv_iload_n hx hb dX0_sumOfLoads_11 rfl (lv_at hl 2 rfl) ?_
        refine lv_aload_n hx hb dX0_sumOfLoads_12 rfl (lv_at hl 0 rfl) ?_
        refine va_get (D := (dC, dI)) (ci := 0) (v := .ref (aL 3)) (C := RX0) (T := TX0) (N := 6) hx hb hts hiX0 hown hK hP 0 rfl rfl 4 (by decide) hgX0_25 (fun _ h9 => h9) rfl dX0_sumOfLoads_13 ?_
        refine lv_iload hx hb dX0_sumOfLoads_16 (lv_at hl 3 rfl) ?_
        obtain ⟨hi2, hf⟩ := oinb rfl hf
        refine va_iald hx hb hK hP 3 0 rfl rfl hi2 dX0_sumOfLoads_18 ?_
        refine lv_iadd hx hb dX0_sumOfLoads_19 ?_
        obtain ⟨z3, ez3, hf⟩ := elet_out hf
        refine lvn_i ez3 ?_
        refine lv_istore_n (lv' := [(3, .int z3), (0, .ref (aL 0)), (2, .int x2), (4, .int x4)]) hx hb dX0_sumOfLoads_20 rfl hl (by decide) rfl (fun ls hl => ?_)
        obtain ⟨z4, ez4, hf⟩ := elet_out hf
        refine lv_iinc (v := z4) (lv' := [(4, .int z4), (3, .int z3), (0, .ref (aL 0)), (2, .int x2)]) hx hb dX0_sumOfLoads_21 hl (k := 3) rfl (by rw [ez4]; rfl) (by decide) rfl (fun ls hl => ?_)
        refine lv_goto (tgt := 5) hx hb dX0_sumOfLoads_24 (by decide) ?_
        exact (hWW _ _ _ _ _ _ _).1 (hk5 x2 z3 z4 H locs ls hP hD hS (lv_sub hl [2, 3, 1, 0] rfl) hf)
  refine (hWW _ _ _ _ _ _ _).2 ?_
  unfold fX0_sumOfLoads at hf
  refine lv_iconst (v := 0) hx hb dX0_sumOfLoads_0 (by decide) ?_
  refine lv_istore_n (lv' := [(3, .int 0), (0, .ref (aL 0)), (1, .int i1), (2, .int i2)]) hx hb dX0_sumOfLoads_1 rfl hl (by decide) rfl (fun ls hl => ?_)
  refine lv_iload_n hx hb dX0_sumOfLoads_2 rfl (lv_at hl 2 rfl) ?_
  refine lv_istore (lv' := [(4, .int i1), (3, .int 0), (0, .ref (aL 0)), (1, .int i1), (2, .int i2)]) hx hb dX0_sumOfLoads_3 hl (by decide) rfl (fun ls hl => ?_)
  exact (hWW _ _ _ _ _ _ _).1 (L5 FU i2 (0 : Int32) i1 H locs ls hP hD hS (lv_sub hl [2, 4, 1, 0] rfl) hf)
def fX0_leftBoundOf (vL : BX0) (i1 : Int32) : Option Int32 :=
  (fX0_stopOf vL i1 (0 : Int32)).bind (fun y1 => if y1 = (-1 : Int32) then (some 0) else (some y1))
set_option maxHeartbeats 8000000 in
set_option maxRecDepth 100000 in
theorem mX0_leftBoundOf (l : Launch) (dC : Nat → ClassId) (dI : Nat → Nat → Nat) (cI cJ : ClassId) (aL : Nat → Nat) (sz : Nat) (vL : BX0) (i1 : Int32) (y : Int32) (hf : fX0_leftBoundOf vL i1 = some y) : Met l yX0_leftBoundOf wsX0_leftBoundOf ({ frames := 1, cells := 0, slots := 0, locals := 22 }) (cPc dC dI cI cJ [.ref (aL 0), .int i1] [k0_0 aL vL, k0_1 cI aL vL, k0_2 cI aL vL, k0_3 cI aL vL, k0_4 cI aL vL] sz) (va_Qi (fun r (_ : Unit) => r = y) (fun _ t => cB dC dI (va_A [k0_0 aL vL, k0_1 cI aL vL, k0_2 cI aL vL, k0_3 cI aL vL, k0_4 cI aL vL] sz) [k0_0 aL vL, k0_1 cI aL vL, k0_2 cI aL vL, k0_3 cI aL vL, k0_4 cI aL vL] t) (va_A [k0_0 aL vL, k0_1 cI aL vL, k0_2 cI aL vL, k0_3 cI aL vL, k0_4 cI aL vL] sz)) 0 0 (va_A [k0_0 aL vL, k0_1 cI aL vL, k0_2 cI aL vL, k0_3 cI aL vL, k0_4 cI aL vL] sz) := by
  refine Met.ofW (cc := cX0_leftBoundOf) (maxL := 3) (ret := (some .int)) (by decide) rfl ?_
  intro p e s m args below meth c s₁ B hml hv
  obtain ⟨rfl, hsz, hP, hK, hD0, hN⟩ := hv
  have hx := B.exec
  have hb := B.bytes
  have hr := B.returns
  have hts := atoms_spec (ws := wsX0_leftBoundOf) B.pre
  have hown : s.vm.findClass RX0 = some m.cls := findClass_of_methodNamed B.named
  have hlocks := B.notSynchronized
  subst hsz
  have hD := hD0.self (sz := s.heap.size)
  generalize hAe : va_A [k0_0 aL vL, k0_1 cI aL vL, k0_2 cI aL vL, k0_3 cI aL vL, k0_4 cI aL vL] s.heap.size = A at hD hN ⊢
  have hA : ∀ q : Nat, s.heap.size ≤ q → A q := fun q h => by rw [← hAe]; exact Or.inr h
  have hP : va_P (dC, dI) vwCl [k0_0 aL vL, k0_1 cI aL vL, k0_2 cI aL vL, k0_3 cI aL vL, k0_4 cI aL vL] s.heap := hP
  have hl := lv_entry ([.ref (aL 0), .int i1]) (n := 3) (Nat.le_of_ble_eq_true rfl)
  rw [lg_entry_eq]
  generalize (lg_sl ([.ref (aL 0), .int i1]) ++ List.replicate (3 - (lg_sl ([.ref (aL 0), .int i1])).length) Slot.unset).toArray = ls at hl ⊢
  have hl : lv_has ls 3 [(0, .ref (aL 0)), (1, .int i1)] := hl
  refine nameH (fun H locs hHe hLe => ?_)
  have hP : va_P (dC, dI) vwCl [k0_0 aL vL, k0_1 cI aL vL, k0_2 cI aL vL, k0_3 cI aL vL, k0_4 cI aL vL] H := by rw [hHe]; exact hP
  have hS : va_S A s.heap H locs := by rw [hHe, hLe]; exact va_S.rf
  unfold fX0_leftBoundOf at hf
  refine lv_aload_n hx hb dX0_leftBoundOf_0 rfl (lv_at hl 0 rfl) ?_
  refine lv_iload_n hx hb dX0_leftBoundOf_1 rfl (lv_at hl 1 rfl) ?_
  refine lv_iconst (v := 0) hx hb dX0_leftBoundOf_2 (by decide) ?_
  obtain ⟨y1, hy1, hf⟩ := obind hf
  refine cg_i (ws := [k0_0 aL vL, k0_1 cI aL vL, k0_2 cI aL vL, k0_3 cI aL vL, k0_4 cI aL vL]) (wc := [k0_0 aL vL, k0_1 cI aL vL, k0_2 cI aL vL, k0_3 cI aL vL, k0_4 cI aL vL]) (wr := []) (w1 := [k0_0 aL vL, k0_1 cI aL vL, k0_2 cI aL vL, k0_3 cI aL vL, k0_4 cI aL vL]) (wo := [k0_0 aL vL, k0_1 cI aL vL, k0_2 cI aL vL, k0_3 cI aL vL, k0_4 cI aL vL]) hP hD hS hA (va_runV (As := [.int i1, .int 0]) (rest := []) ⟨hx, hb, hml, hown, hts⟩ (mX0_stopOf l dC dI cI cJ aL H.size vL i1 (0 : Int32) y1 hy1) (cwV 2 hts gX0_leftBoundOf_X0_stopOf rfl rfl rfl (by decide +kernel) ⟨Nat.le_of_ble_eq_true rfl, Nat.le_of_ble_eq_true rfl⟩) ⟨cFB, va_recv hK hP (ci := 0) (q0 := 0) rfl rfl, cPre hK hN hS (va_free (wc := [k0_0 aL vL, k0_1 cI aL vL, k0_2 cI aL vL, k0_3 cI aL vL, k0_4 cI aL vL]) hD hS hA [0, 1, 2, 3, 4] rfl) (hP.sub [0, 1, 2, 3, 4] rfl) (hD.sub [0, 1, 2, 3, 4] rfl rfl)⟩ rfl rfl hl.1 rfl (lv_room (Nat.le_of_ble_eq_true rfl)) dX0_leftBoundOf_3 ⟨Nat.le_of_ble_eq_true rfl, Nat.le_of_ble_eq_true rfl⟩) [0, 1, 2, 3, 4] [] [0, 1, 2, 3, 4] rfl rfl rfl (by decide +kernel) rfl rfl (fun H locs hP hD hS => ?_)
  refine lv_istore_n (lv' := [(2, .int y1), (0, .ref (aL 0)), (1, .int i1)]) hx hb dX0_leftBoundOf_6 rfl hl (by decide) rfl (fun ls hl => ?_)
  refine lv_iload_n hx hb dX0_leftBoundOf_7 rfl (lv_at hl 0 rfl) ?_
  refine lv_iconst (v := (-1)) hx hb dX0_leftBoundOf_8 (by decide) ?_
  refine lv_icmp_ne (tgt := 16) hx hb dX0_leftBoundOf_9 (by decide) (fun c2 => ?_) (fun c2 => ?_)
  · have hf := oif_f c2 hf
    refine lv_iload_n hx hb dX0_leftBoundOf_16 rfl (lv_at hl 0 rfl) ?_
    obtain rfl := Option.some.inj hf
    exact W.iret (v := y1) hx hb hr (fun t ht hW => ⟨⟨y1, (), rfl, rfl, by rw [ht]; exact hP, hD⟩, hS.F ht⟩) hS.2.2 dX0_leftBoundOf_17
  · have hf := oif_t c2 hf
    refine lv_iconst (v := 0) hx hb dX0_leftBoundOf_12 (by decide) ?_
    refine lv_goto (tgt := 17) hx hb dX0_leftBoundOf_13 (by decide) ?_
    obtain rfl := Option.some.inj hf
    exact W.iret (v := 0) hx hb hr (fun t ht hW => ⟨⟨0, (), rfl, rfl, by rw [ht]; exact hP, hD⟩, hS.F ht⟩) hS.2.2 dX0_leftBoundOf_17
def fX0_rightBoundOf (vL : BX0) (i1 : Int32) : Option Int32 :=
  (fX0_stopOf vL i1 (1 : Int32)).bind (fun y1 => if y1 = (-1 : Int32) then (some (p0_width vL)) else (some y1))
set_option maxHeartbeats 8000000 in
set_option maxRecDepth 100000 in
theorem mX0_rightBoundOf (l : Launch) (dC : Nat → ClassId) (dI : Nat → Nat → Nat) (cI cJ : ClassId) (aL : Nat → Nat) (sz : Nat) (vL : BX0) (i1 : Int32) (y : Int32) (hf : fX0_rightBoundOf vL i1 = some y) : Met l yX0_rightBoundOf wsX0_rightBoundOf ({ frames := 1, cells := 0, slots := 0, locals := 22 }) (cPc dC dI cI cJ [.ref (aL 0), .int i1] [k0_0 aL vL, k0_1 cI aL vL, k0_2 cI aL vL, k0_3 cI aL vL, k0_4 cI aL vL] sz) (va_Qi (fun r (_ : Unit) => r = y) (fun _ t => cB dC dI (va_A [k0_0 aL vL, k0_1 cI aL vL, k0_2 cI aL vL, k0_3 cI aL vL, k0_4 cI aL vL] sz) [k0_0 aL vL, k0_1 cI aL vL, k0_2 cI aL vL, k0_3 cI aL vL, k0_4 cI aL vL] t) (va_A [k0_0 aL vL, k0_1 cI aL vL, k0_2 cI aL vL, k0_3 cI aL vL, k0_4 cI aL vL] sz)) 0 0 (va_A [k0_0 aL vL, k0_1 cI aL vL, k0_2 cI aL vL, k0_3 cI aL vL, k0_4 cI aL vL] sz) := by
  refine Met.ofW (cc := cX0_rightBoundOf) (maxL := 3) (ret := (some .int)) (by decide) rfl ?_
  intro p e s m args below meth c s₁ B hml hv
  obtain ⟨rfl, hsz, hP, hK, hD0, hN⟩ := hv
  have hx := B.exec
  have hb := B.bytes
  have hr := B.returns
  have hts := atoms_spec (ws := wsX0_rightBoundOf) B.pre
  have hown : s.vm.findClass RX0 = some m.cls := findClass_of_methodNamed B.named
  have hlocks := B.notSynchronized
  subst hsz
  have hD := hD0.self (sz := s.heap.size)
  generalize hAe : va_A [k0_0 aL vL, k0_1 cI aL vL, k0_2 cI aL vL, k0_3 cI aL vL, k0_4 cI aL vL] s.heap.size = A at hD hN ⊢
  have hA : ∀ q : Nat, s.heap.size ≤ q → A q := fun q h => by rw [← hAe]; exact Or.inr h
  have hP : va_P (dC, dI) vwCl [k0_0 aL vL, k0_1 cI aL vL, k0_2 cI aL vL, k0_3 cI aL vL, k0_4 cI aL vL] s.heap := hP
  have hl := lv_entry ([.ref (aL 0), .int i1]) (n := 3) (Nat.le_of_ble_eq_true rfl)
  rw [lg_entry_eq]
  generalize (lg_sl ([.ref (aL 0), .int i1]) ++ List.replicate (3 - (lg_sl ([.ref (aL 0), .int i1])).length) Slot.unset).toArray = ls at hl ⊢
  have hl : lv_has ls 3 [(0, .ref (aL 0)), (1, .int i1)] := hl
  have hiX0 : ∀ w ∈ u_ws RX0 TX0 6, w ∈ wsX0_rightBoundOf := by decide +kernel
  have hgX0_9 := hts (.fieldLink RX0 9 "SpringPlates$Layout" "width" "I") (by decide +kernel)
  refine nameH (fun H locs hHe hLe => ?_)
  have hP : va_P (dC, dI) vwCl [k0_0 aL vL, k0_1 cI aL vL, k0_2 cI aL vL, k0_3 cI aL vL, k0_4 cI aL vL] H := by rw [hHe]; exact hP
  have hS : va_S A s.heap H locs := by rw [hHe, hLe]; exact va_S.rf
  unfold fX0_rightBoundOf at hf
  refine lv_aload_n hx hb dX0_rightBoundOf_0 rfl (lv_at hl 0 rfl) ?_
  refine lv_iload_n hx hb dX0_rightBoundOf_1 rfl (lv_at hl 1 rfl) ?_
  refine lv_iconst (v := 1) hx hb dX0_rightBoundOf_2 (by decide) ?_
  obtain ⟨y1, hy1, hf⟩ := obind hf
  refine cg_i (ws := [k0_0 aL vL, k0_1 cI aL vL, k0_2 cI aL vL, k0_3 cI aL vL, k0_4 cI aL vL]) (wc := [k0_0 aL vL, k0_1 cI aL vL, k0_2 cI aL vL, k0_3 cI aL vL, k0_4 cI aL vL]) (wr := []) (w1 := [k0_0 aL vL, k0_1 cI aL vL, k0_2 cI aL vL, k0_3 cI aL vL, k0_4 cI aL vL]) (wo := [k0_0 aL vL, k0_1 cI aL vL, k0_2 cI aL vL, k0_3 cI aL vL, k0_4 cI aL vL]) hP hD hS hA (va_runV (As := [.int i1, .int 1]) (rest := []) ⟨hx, hb, hml, hown, hts⟩ (mX0_stopOf l dC dI cI cJ aL H.size vL i1 (1 : Int32) y1 hy1) (cwV 2 hts gX0_rightBoundOf_X0_stopOf rfl rfl rfl (by decide +kernel) ⟨Nat.le_of_ble_eq_true rfl, Nat.le_of_ble_eq_true rfl⟩) ⟨cFB, va_recv hK hP (ci := 0) (q0 := 0) rfl rfl, cPre hK hN hS (va_free (wc := [k0_0 aL vL, k0_1 cI aL vL, k0_2 cI aL vL, k0_3 cI aL vL, k0_4 cI aL vL]) hD hS hA [0, 1, 2, 3, 4] rfl) (hP.sub [0, 1, 2, 3, 4] rfl) (hD.sub [0, 1, 2, 3, 4] rfl rfl)⟩ rfl rfl hl.1 rfl (lv_room (Nat.le_of_ble_eq_true rfl)) dX0_rightBoundOf_3 ⟨Nat.le_of_ble_eq_true rfl, Nat.le_of_ble_eq_true rfl⟩) [0, 1, 2, 3, 4] [] [0, 1, 2, 3, 4] rfl rfl rfl (by decide +kernel) rfl rfl (fun H locs hP hD hS => ?_)
  refine lv_istore_n (lv' := [(2, .int y1), (0, .ref (aL 0)), (1, .int i1)]) hx hb dX0_rightBoundOf_6 rfl hl (by decide) rfl (fun ls hl => ?_)
  refine lv_iload_n hx hb dX0_rightBoundOf_7 rfl (lv_at hl 0 rfl) ?_
  refine lv_iconst (v := (-1)) hx hb dX0_rightBoundOf_8 (by decide) ?_
  refine lv_icmp_ne (tgt := 19) hx hb dX0_rightBoundOf_9 (by decide) (fun c2 => ?_) (fun c2 => ?_)
  · have hf := oif_f c2 hf
    refine lv_iload_n hx hb dX0_rightBoundOf_19 rfl (lv_at hl 0 rfl) ?_
    obtain rfl := Option.some.inj hf
    exact W.iret (v := y1) hx hb hr (fun t ht hW => ⟨⟨y1, (), rfl, rfl, by rw [ht]; exact hP, hD⟩, hS.F ht⟩) hS.2.2 dX0_rightBoundOf_20
  · have hf := oif_t c2 hf
    refine lv_aload_n hx hb dX0_rightBoundOf_12 rfl (lv_at hl 1 rfl) ?_
    refine va_get (D := (dC, dI)) (ci := 0) (v := .int (p0_width vL)) (C := RX0) (T := TX0) (N := 6) hx hb hts hiX0 hown hK hP 0 rfl rfl 0 (by decide) hgX0_9 (fun _ h9 => h9) rfl dX0_rightBoundOf_13 ?_
    refine lv_goto (tgt := 20) hx hb dX0_rightBoundOf_16 (by decide) ?_
    obtain rfl := Option.some.inj hf
    exact W.iret (v := (p0_width vL)) hx hb hr (fun t ht hW => ⟨⟨(p0_width vL), (), rfl, rfl, by rw [ht]; exact hP, hD⟩, hS.F ht⟩) hS.2.2 dX0_rightBoundOf_20
def fX0_allowsRow_4_b (k4 : BX0 → Int32 → Int32 → Option Int32) (vL : BX0) (x1 : Int32) (x2 : Int32) : Option Int32 :=
  if (p0_plates vL) ≤ x2 then (some 1) else ((fX0_leftBoundOf vL x2).bind (fun y2 => elet (if x1 < y2 then y2 else x1) (fun z3 => (fX0_rightBoundOf vL x2).bind (fun y4 => if z3 ≤ y4 then (elet (x2 + 1) (fun z6 => k4 vL z3 z6)) else (some 0)))))
def fX0_allowsRow_4 : Nat → BX0 → Int32 → Int32 → Option Int32
  | 0 => fun _ _ _ => none
  | n + 1 => fX0_allowsRow_4_b (fX0_allowsRow_4 n)
def fX0_allowsRow (vL : BX0) : Option Int32 :=
  fX0_allowsRow_4 FU vL (0 : Int32) (0 : Int32)
set_option maxHeartbeats 8000000 in
set_option maxRecDepth 100000 in
theorem mX0_allowsRow (l : Launch) (dC : Nat → ClassId) (dI : Nat → Nat → Nat) (cI cJ : ClassId) (aL : Nat → Nat) (sz : Nat) (vL : BX0) (y : Int32) (hf : fX0_allowsRow vL = some y) : Met l yX0_allowsRow wsX0_allowsRow ({ frames := 2, cells := 0, slots := 0, locals := 44 }) (cPc dC dI cI cJ [.ref (aL 0)] [k0_0 aL vL, k0_1 cI aL vL, k0_2 cI aL vL, k0_3 cI aL vL, k0_4 cI aL vL] sz) (va_Qi (fun r (_ : Unit) => r = y) (fun _ t => cB dC dI (va_A [k0_0 aL vL, k0_1 cI aL vL, k0_2 cI aL vL, k0_3 cI aL vL, k0_4 cI aL vL] sz) [k0_0 aL vL, k0_1 cI aL vL, k0_2 cI aL vL, k0_3 cI aL vL, k0_4 cI aL vL] t) (va_A [k0_0 aL vL, k0_1 cI aL vL, k0_2 cI aL vL, k0_3 cI aL vL, k0_4 cI aL vL] sz)) 0 0 (va_A [k0_0 aL vL, k0_1 cI aL vL, k0_2 cI aL vL, k0_3 cI aL vL, k0_4 cI aL vL] sz) := by
  refine Met.ofW (cc := cX0_allowsRow) (maxL := 3) (ret := (some .boolean)) (by decide) rfl ?_
  intro p e s m args below meth c s₁ B hml hv
  obtain ⟨rfl, hsz, hP, hK, hD0, hN⟩ := hv
  have hx := B.exec
  have hb := B.bytes
  have hr := B.returns
  have hts := atoms_spec (ws := wsX0_allowsRow) B.pre
  have hown : s.vm.findClass RX0 = some m.cls := findClass_of_methodNamed B.named
  have hlocks := B.notSynchronized
  subst hsz
  have hD := hD0.self (sz := s.heap.size)
  generalize hAe : va_A [k0_0 aL vL, k0_1 cI aL vL, k0_2 cI aL vL, k0_3 cI aL vL, k0_4 cI aL vL] s.heap.size = A at hD hN ⊢
  have hA : ∀ q : Nat, s.heap.size ≤ q → A q := fun q h => by rw [← hAe]; exact Or.inr h
  have hP : va_P (dC, dI) vwCl [k0_0 aL vL, k0_1 cI aL vL, k0_2 cI aL vL, k0_3 cI aL vL, k0_4 cI aL vL] s.heap := hP
  have hl := lv_entry ([.ref (aL 0)]) (n := 3) (Nat.le_of_ble_eq_true rfl)
  rw [lg_entry_eq]
  generalize (lg_sl ([.ref (aL 0)]) ++ List.replicate (3 - (lg_sl ([.ref (aL 0)])).length) Slot.unset).toArray = ls at hl ⊢
  have hl : lv_has ls 3 [(0, .ref (aL 0))] := hl
  have hiX0 : ∀ w ∈ u_ws RX0 TX0 6, w ∈ wsX0_allowsRow := by decide +kernel
  have hgX0_15 := hts (.fieldLink RX0 15 "SpringPlates$Layout" "plates" "I") (by decide +kernel)
  refine nameH (fun H locs hHe hLe => ?_)
  have hP : va_P (dC, dI) vwCl [k0_0 aL vL, k0_1 cI aL vL, k0_2 cI aL vL, k0_3 cI aL vL, k0_4 cI aL vL] H := by rw [hHe]; exact hP
  have hS : va_S A s.heap H locs := by rw [hHe, hLe]; exact va_S.rf
  refine withW (fun WW hWW => ?_)
  have L4 : ∀ (n : Nat) (x1 : Int32) (x2 : Int32) (H : Heap) (locs : List Loc) (ls : Array Slot), va_P (dC, dI) vwCl [k0_0 aL vL, k0_1 cI aL vL, k0_2 cI aL vL, k0_3 cI aL vL, k0_4 cI aL vL] H → va_D A [k0_0 aL vL, k0_1 cI aL vL, k0_2 cI aL vL, k0_3 cI aL vL, k0_4 cI aL vL] → va_S A s.heap H locs → lv_has ls 3 [(0, .ref (aL 0)), (1, .int x1), (2, .int x2)] → fX0_allowsRow_4 n vL x1 x2 = some y → WW H locs 0 0 ls 4 [] := by
    intro n
    induction n with
    | zero =>
      intro x1 x2 H locs ls hP hD hS hl hf
      exact onone hf
    | succ n ih =>
      intro x1 x2 H locs ls hP hD hS hl hf
      have hf : fX0_allowsRow_4_b (fX0_allowsRow_4 n) vL x1 x2 = some y := hf
      generalize fX0_allowsRow_4 n = k4 at hf ih
      have hk4 := ih
      clear ih
      unfold fX0_allowsRow_4_b at hf
      refine (hWW _ _ _ _ _ _ _).2 ?_
      refine lv_iload_n hx hb dX0_allowsRow_4 rfl (lv_at hl 2 rfl) ?_
      refine lv_aload_n hx hb dX0_allowsRow_5 rfl (lv_at hl 0 rfl) ?_
      refine va_get (D := (dC, dI)) (ci := 0) (v := .int (p0_plates vL)) (C := RX0) (T := TX0) (N := 6) hx hb hts hiX0 hown hK hP 0 rfl rfl 1 (by decide) hgX0_15 (fun _ h9 => h9) rfl dX0_allowsRow_6 ?_
      refine lv_icmp_ge (tgt := 39) hx hb dX0_allowsRow_9 (by decide) (fun c1 => ?_) (fun c1 => ?_)
      · have hf := oif_t c1 hf
        refine lv_iconst (v := 1) hx hb dX0_allowsRow_39 (by decide) ?_
        obtain rfl := Option.some.inj hf
        exact W.zret (v := 1) hx hb hr rfl (fun t ht hW => ⟨⟨1, (), rfl, rfl, by rw [ht]; exact hP, hD⟩, hS.F ht⟩) hS.2.2 dX0_allowsRow_40
      · have hf := oif_f c1 hf
        refine lv_iload_n hx hb dX0_allowsRow_12 rfl (lv_at hl 1 rfl) ?_
        refine lv_aload_n hx hb dX0_allowsRow_13 rfl (lv_at hl 0 rfl) ?_
        refine lv_iload_n hx hb dX0_allowsRow_14 rfl (lv_at hl 2 rfl) ?_
        obtain ⟨y2, hy2, hf⟩ := obind hf
        refine cg_i (ws := [k0_0 aL vL, k0_1 cI aL vL, k0_2 cI aL vL, k0_3 cI aL vL, k0_4 cI aL vL]) (wc := [k0_0 aL vL, k0_1 cI aL vL, k0_2 cI aL vL, k0_3 cI aL vL, k0_4 cI aL vL]) (wr := []) (w1 := [k0_0 aL vL, k0_1 cI aL vL, k0_2 cI aL vL, k0_3 cI aL vL, k0_4 cI aL vL]) (wo := [k0_0 aL vL, k0_1 cI aL vL, k0_2 cI aL vL, k0_3 cI aL vL, k0_4 cI aL vL]) hP hD hS hA (va_runV (As := [.int x2]) (rest := [.int x1]) ⟨hx, hb, hml, hown, hts⟩ (mX0_leftBoundOf l dC dI cI cJ aL H.size vL x2 y2 hy2) (cwV 1 hts gX0_allowsRow_X0_leftBoundOf rfl rfl rfl (by decide +kernel) ⟨Nat.le_of_ble_eq_true rfl, Nat.le_of_ble_eq_true rfl⟩) ⟨cFB, va_recv hK hP (ci := 0) (q0 := 0) rfl rfl, cPre hK hN hS (va_free (wc := [k0_0 aL vL, k0_1 cI aL vL, k0_2 cI aL vL, k0_3 cI aL vL, k0_4 cI aL vL]) hD hS hA [0, 1, 2, 3, 4] rfl) (hP.sub [0, 1, 2, 3, 4] rfl) (hD.sub [0, 1, 2, 3, 4] rfl rfl)⟩ rfl rfl hl.1 rfl (lv_room (Nat.le_of_ble_eq_true rfl)) dX0_allowsRow_15 ⟨Nat.le_of_ble_eq_true rfl, Nat.le_of_ble_eq_true rfl⟩) [0, 1, 2, 3, 4] [] [0, 1, 2, 3, 4] rfl rfl rfl (by decide +kernel) rfl rfl (fun H locs hP hD hS => ?_)
        refine va_mmax hx hb (hml.trans hl.1.symm) hown (hts (.methodLink RX0 47 Lib.Math.max.name) (by decide +kernel)) (hts (.static Lib.Math.max.name) (by decide +kernel)) (hts (.initialized "java/lang/Math") (by decide +kernel)) (hts (.code Lib.Math.max.name Lib.Math.max.code 2 (some .int)) (by decide +kernel)) (Nat.le_of_ble_eq_true rfl) (Nat.le_of_ble_eq_true rfl) (Nat.le_of_ble_eq_true rfl) (Nat.le_of_ble_eq_true rfl) dX0_allowsRow_18 ?_
        obtain ⟨z3, ez3, hf⟩ := elet_out hf
        refine lvn_i ez3 ?_
        refine lv_istore_n (lv' := [(1, .int z3), (0, .ref (aL 0)), (2, .int x2)]) hx hb dX0_allowsRow_21 rfl hl (by decide) rfl (fun ls hl => ?_)
        refine lv_iload_n hx hb dX0_allowsRow_22 rfl (lv_at hl 0 rfl) ?_
        refine lv_aload_n hx hb dX0_allowsRow_23 rfl (lv_at hl 1 rfl) ?_
        refine lv_iload_n hx hb dX0_allowsRow_24 rfl (lv_at hl 2 rfl) ?_
        obtain ⟨y4, hy4, hf⟩ := obind hf
        refine cg_i (ws := [k0_0 aL vL, k0_1 cI aL vL, k0_2 cI aL vL, k0_3 cI aL vL, k0_4 cI aL vL]) (wc := [k0_0 aL vL, k0_1 cI aL vL, k0_2 cI aL vL, k0_3 cI aL vL, k0_4 cI aL vL]) (wr := []) (w1 := [k0_0 aL vL, k0_1 cI aL vL, k0_2 cI aL vL, k0_3 cI aL vL, k0_4 cI aL vL]) (wo := [k0_0 aL vL, k0_1 cI aL vL, k0_2 cI aL vL, k0_3 cI aL vL, k0_4 cI aL vL]) hP hD hS hA (va_runV (As := [.int x2]) (rest := [.int z3]) ⟨hx, hb, hml, hown, hts⟩ (mX0_rightBoundOf l dC dI cI cJ aL H.size vL x2 y4 hy4) (cwV 1 hts gX0_allowsRow_X0_rightBoundOf rfl rfl rfl (by decide +kernel) ⟨Nat.le_of_ble_eq_true rfl, Nat.le_of_ble_eq_true rfl⟩) ⟨cFB, va_recv hK hP (ci := 0) (q0 := 0) rfl rfl, cPre hK hN hS (va_free (wc := [k0_0 aL vL, k0_1 cI aL vL, k0_2 cI aL vL, k0_3 cI aL vL, k0_4 cI aL vL]) hD hS hA [0, 1, 2, 3, 4] rfl) (hP.sub [0, 1, 2, 3, 4] rfl) (hD.sub [0, 1, 2, 3, 4] rfl rfl)⟩ rfl rfl hl.1 rfl (lv_room (Nat.le_of_ble_eq_true rfl)) dX0_allowsRow_25 ⟨Nat.le_of_ble_eq_true rfl, Nat.le_of_ble_eq_true rfl⟩) [0, 1, 2, 3, 4] [] [0, 1, 2, 3, 4] rfl rfl rfl (by decide +kernel) rfl rfl (fun H locs hP hD hS => ?_)
        refine lv_icmp_le (tgt := 33) hx hb dX0_allowsRow_28 (by decide) (fun c5 => ?_) (fun c5 => ?_)
        · have hf := oif_t c5 hf
          obtain ⟨z6, ez6, hf⟩ := elet_out hf
          refine lv_iinc (v := z6) (lv' := [(2, .int z6), (1, .int z3), (0, .ref (aL 0))]) hx hb dX0_allowsRow_33 hl (k := 2) rfl (by rw [ez6]; rfl) (by decide) rfl (fun ls hl => ?_)
          refine lv_goto (tgt := 4) hx hb dX0_allowsRow_36 (by decide) ?_
          exact (hWW _ _ _ _ _ _ _).1 (hk4 z3 z6 H locs ls hP hD hS (lv_sub hl [2, 1, 0] rfl) hf)
        · have hf := oif_f c5 hf
          refine lv_iconst (v := 0) hx hb dX0_allowsRow_31 (by decide) ?_
          obtain rfl := Option.some.inj hf
          exact W.zret (v := 0) hx hb hr rfl (fun t ht hW => ⟨⟨0, (), rfl, rfl, by rw [ht]; exact hP, hD⟩, hS.F ht⟩) hS.2.2 dX0_allowsRow_32
  refine (hWW _ _ _ _ _ _ _).2 ?_
  unfold fX0_allowsRow at hf
  refine lv_iconst (v := 0) hx hb dX0_allowsRow_0 (by decide) ?_
  refine lv_istore_n (lv' := [(1, .int 0), (0, .ref (aL 0))]) hx hb dX0_allowsRow_1 rfl hl (by decide) rfl (fun ls hl => ?_)
  refine lv_iconst (v := 0) hx hb dX0_allowsRow_2 (by decide) ?_
  refine lv_istore_n (lv' := [(2, .int 0), (1, .int 0), (0, .ref (aL 0))]) hx hb dX0_allowsRow_3 rfl hl (by decide) rfl (fun ls hl => ?_)
  exact (hWW _ _ _ _ _ _ _).1 (L4 FU (0 : Int32) (0 : Int32) H locs ls hP hD hS (lv_sub hl [2, 1, 0] rfl) hf)
def fX0_copyPlateS (vL : BX0) (i2 : Int32) (i3 : Int32) : Option BX0 :=
  if inB i2 4 = true then (if inB i3 4 = true then (elet (s0_loads vL (upd (p0_loads vL) (i3).toNatClampNeg ((p0_loads vL) (i2).toNatClampNeg))) (fun b3 => if inB ((2 : Int32) * i2) 8 = true then (if inB ((2 : Int32) * i3) 8 = true then (elet (s0_stops b3 (upd (p0_stops b3) (((2 : Int32) * i3)).toNatClampNeg ((p0_stops b3) (((2 : Int32) * i2)).toNatClampNeg))) (fun b6 => if inB (((2 : Int32) * i2) + (1 : Int32)) 8 = true then (if inB (((2 : Int32) * i3) + (1 : Int32)) 8 = true then (elet (s0_stops b6 (upd (p0_stops b6) ((((2 : Int32) * i3) + (1 : Int32))).toNatClampNeg ((p0_stops b6) ((((2 : Int32) * i2) + (1 : Int32))).toNatClampNeg))) (fun b9 => some b9)) else none) else none)) else none) else none)) else none) else none
set_option maxHeartbeats 8000000 in
set_option maxRecDepth 100000 in
theorem mX0_copyPlateS (l : Launch) (dC : Nat → ClassId) (dI : Nat → Nat → Nat) (cI cJ : ClassId) (aL : Nat → Nat) (sz : Nat) (vL : BX0) (i2 : Int32) (i3 : Int32) (y : BX0) (hf : fX0_copyPlateS vL i2 i3 = some y) : Met l yX0_copyPlate wsX0_copyPlate ({ frames := 0, cells := 0, slots := 0, locals := 0 }) (cPc dC dI cI cJ [.ref (aL 0), .ref (aL 0), .int i2, .int i3] [k0_0 aL vL, k0_1 cI aL vL, k0_2 cI aL vL, k0_3 cI aL vL, k0_4 cI aL vL] sz) (va_Qv (fun (_ : Unit) => True) (fun _ t => cB dC dI (va_A [k0_0 aL vL, k0_1 cI aL vL, k0_2 cI aL vL, k0_3 cI aL vL, k0_4 cI aL vL] sz) [k0_0 aL y, k0_1 cI aL y, k0_2 cI aL y, k0_3 cI aL y, k0_4 cI aL y] t) (va_A [k0_0 aL vL, k0_1 cI aL vL, k0_2 cI aL vL, k0_3 cI aL vL, k0_4 cI aL vL] sz)) 0 0 (va_A [k0_0 aL vL, k0_1 cI aL vL, k0_2 cI aL vL, k0_3 cI aL vL, k0_4 cI aL vL] sz) := by
  refine Met.ofW (cc := cX0_copyPlate) (maxL := 4) (ret := none) (by decide) rfl ?_
  intro p e s m args below meth c s₁ B hml hv
  obtain ⟨rfl, hsz, hP, hK, hD0, hN⟩ := hv
  have hx := B.exec
  have hb := B.bytes
  have hr := B.returns
  have hts := atoms_spec (ws := wsX0_copyPlate) B.pre
  have hown : s.vm.findClass RX0 = some m.cls := findClass_of_methodNamed B.named
  have hlocks := B.notSynchronized
  subst hsz
  have hD := hD0.self (sz := s.heap.size)
  generalize hAe : va_A [k0_0 aL vL, k0_1 cI aL vL, k0_2 cI aL vL, k0_3 cI aL vL, k0_4 cI aL vL] s.heap.size = A at hD hN ⊢
  have hA : ∀ q : Nat, s.heap.size ≤ q → A q := fun q h => by rw [← hAe]; exact Or.inr h
  have hP : va_P (dC, dI) vwCl [k0_0 aL vL, k0_1 cI aL vL, k0_2 cI aL vL, k0_3 cI aL vL, k0_4 cI aL vL] s.heap := hP
  have hl := lv_entry ([.ref (aL 0), .ref (aL 0), .int i2, .int i3]) (n := 4) (Nat.le_of_ble_eq_true rfl)
  rw [lg_entry_eq]
  generalize (lg_sl ([.ref (aL 0), .ref (aL 0), .int i2, .int i3]) ++ List.replicate (4 - (lg_sl ([.ref (aL 0), .ref (aL 0), .int i2, .int i3])).length) Slot.unset).toArray = ls at hl ⊢
  have hl : lv_has ls 4 [(0, .ref (aL 0)), (1, .ref (aL 0)), (2, .int i2), (3, .int i3)] := hl
  have hiX0 : ∀ w ∈ u_ws RX0 TX0 6, w ∈ wsX0_copyPlate := by decide +kernel
  have hgX0_25 := hts (.fieldLink RX0 25 "SpringPlates$Layout" "loads" "[I") (by decide +kernel)
  have hgX0_28 := hts (.fieldLink RX0 28 "SpringPlates$Layout" "stops" "[I") (by decide +kernel)
  refine nameH (fun H locs hHe hLe => ?_)
  have hP : va_P (dC, dI) vwCl [k0_0 aL vL, k0_1 cI aL vL, k0_2 cI aL vL, k0_3 cI aL vL, k0_4 cI aL vL] H := by rw [hHe]; exact hP
  have hS : va_S A s.heap H locs := by rw [hHe, hLe]; exact va_S.rf
  unfold fX0_copyPlateS at hf
  refine lv_aload_n hx hb dX0_copyPlate_0 rfl (lv_at hl 0 rfl) ?_
  refine va_get (D := (dC, dI)) (ci := 0) (v := .ref (aL 3)) (C := RX0) (T := TX0) (N := 6) hx hb hts hiX0 hown hK hP 0 rfl rfl 4 (by decide) hgX0_25 (fun _ h9 => h9) rfl dX0_copyPlate_1 ?_
  refine lv_iload_n hx hb dX0_copyPlate_4 rfl (lv_at hl 3 rfl) ?_
  refine lv_aload_n hx hb dX0_copyPlate_5 rfl (lv_at hl 1 rfl) ?_
  refine va_get (D := (dC, dI)) (ci := 0) (v := .ref (aL 3)) (C := RX0) (T := TX0) (N := 6) hx hb hts hiX0 hown hK hP 0 rfl rfl 4 (by decide) hgX0_25 (fun _ h9 => h9) rfl dX0_copyPlate_6 ?_
  refine lv_iload_n hx hb dX0_copyPlate_9 rfl (lv_at hl 2 rfl) ?_
  obtain ⟨hi1, hf⟩ := oinb rfl hf
  refine va_iald hx hb hK hP 3 0 rfl rfl hi1 dX0_copyPlate_10 ?_
  obtain ⟨hi2, hf⟩ := oinb rfl hf
  obtain ⟨b3, eb3, hf⟩ := elet_out hf
  refine va_iast hx hb hK hP hD hS 3 0 rfl rfl hi2 dX0_copyPlate_11 (fun H locs hP hD hS => ?_)
  have hP : va_P (dC, dI) vwCl [k0_0 aL b3, k0_1 cI aL b3, k0_2 cI aL b3, k0_3 cI aL b3, k0_4 cI aL b3] H := by rw [eb3]; exact hP
  have hD : va_D A [k0_0 aL b3, k0_1 cI aL b3, k0_2 cI aL b3, k0_3 cI aL b3, k0_4 cI aL b3] := by rw [eb3]; exact hD
  refine lv_aload_n hx hb dX0_copyPlate_12 rfl (lv_at hl 0 rfl) ?_
  refine va_get (D := (dC, dI)) (ci := 0) (v := .ref (aL 4)) (C := RX0) (T := TX0) (N := 6) hx hb hts hiX0 hown hK hP 0 rfl rfl 5 (by decide) hgX0_28 (fun _ h9 => h9) rfl dX0_copyPlate_13 ?_
  refine lv_iconst (v := 2) hx hb dX0_copyPlate_16 (by decide) ?_
  refine lv_iload_n hx hb dX0_copyPlate_17 rfl (lv_at hl 3 rfl) ?_
  refine lv_imul hx hb dX0_copyPlate_18 ?_
  refine lv_aload_n hx hb dX0_copyPlate_19 rfl (lv_at hl 1 rfl) ?_
  refine va_get (D := (dC, dI)) (ci := 0) (v := .ref (aL 4)) (C := RX0) (T := TX0) (N := 6) hx hb hts hiX0 hown hK hP 0 rfl rfl 5 (by decide) hgX0_28 (fun _ h9 => h9) rfl dX0_copyPlate_20 ?_
  refine lv_iconst (v := 2) hx hb dX0_copyPlate_23 (by decide) ?_
  refine lv_iload_n hx hb dX0_copyPlate_24 rfl (lv_at hl 2 rfl) ?_
  refine lv_imul hx hb dX0_copyPlate_25 ?_
  obtain ⟨hi4, hf⟩ := oinb rfl hf
  refine va_iald hx hb hK hP 4 0 rfl rfl hi4 dX0_copyPlate_26 ?_
  obtain ⟨hi5, hf⟩ := oinb rfl hf
  obtain ⟨b6, eb6, hf⟩ := elet_out hf
  refine va_iast hx hb hK hP hD hS 4 0 rfl rfl hi5 dX0_copyPlate_27 (fun H locs hP hD hS => ?_)
  have hP : va_P (dC, dI) vwCl [k0_0 aL b6, k0_1 cI aL b6, k0_2 cI aL b6, k0_3 cI aL b6, k0_4 cI aL b6] H := by rw [eb6]; exact hP
  have hD : va_D A [k0_0 aL b6, k0_1 cI aL b6, k0_2 cI aL b6, k0_3 cI aL b6, k0_4 cI aL b6] := by rw [eb6]; exact hD
  refine lv_aload_n hx hb dX0_copyPlate_28 rfl (lv_at hl 0 rfl) ?_
  refine va_get (D := (dC, dI)) (ci := 0) (v := .ref (aL 4)) (C := RX0) (T := TX0) (N := 6) hx hb hts hiX0 hown hK hP 0 rfl rfl 5 (by decide) hgX0_28 (fun _ h9 => h9) rfl dX0_copyPlate_29 ?_
  refine lv_iconst (v := 2) hx hb dX0_copyPlate_32 (by decide) ?_
  refine lv_iload_n hx hb dX0_copyPlate_33 rfl (lv_at hl 3 rfl) ?_
  refine lv_imul hx hb dX0_copyPlate_34 ?_
  refine lv_iconst (v := 1) hx hb dX0_copyPlate_35 (by decide) ?_
  refine lv_iadd hx hb dX0_copyPlate_36 ?_
  refine lv_aload_n hx hb dX0_copyPlate_37 rfl (lv_at hl 1 rfl) ?_
  refine va_get (D := (dC, dI)) (ci := 0) (v := .ref (aL 4)) (C := RX0) (T := TX0) (N := 6) hx hb hts hiX0 hown hK hP 0 rfl rfl 5 (by decide) hgX0_28 (fun _ h9 => h9) rfl dX0_copyPlate_38 ?_
  refine lv_iconst (v := 2) hx hb dX0_copyPlate_41 (by decide) ?_
  refine lv_iload_n hx hb dX0_copyPlate_42 rfl (lv_at hl 2 rfl) ?_
  refine lv_imul hx hb dX0_copyPlate_43 ?_
  refine lv_iconst (v := 1) hx hb dX0_copyPlate_44 (by decide) ?_
  refine lv_iadd hx hb dX0_copyPlate_45 ?_
  obtain ⟨hi7, hf⟩ := oinb rfl hf
  refine va_iald hx hb hK hP 4 0 rfl rfl hi7 dX0_copyPlate_46 ?_
  obtain ⟨hi8, hf⟩ := oinb rfl hf
  obtain ⟨b9, eb9, hf⟩ := elet_out hf
  refine va_iast hx hb hK hP hD hS 4 0 rfl rfl hi8 dX0_copyPlate_47 (fun H locs hP hD hS => ?_)
  have hP : va_P (dC, dI) vwCl [k0_0 aL b9, k0_1 cI aL b9, k0_2 cI aL b9, k0_3 cI aL b9, k0_4 cI aL b9] H := by rw [eb9]; exact hP
  have hD : va_D A [k0_0 aL b9, k0_1 cI aL b9, k0_2 cI aL b9, k0_3 cI aL b9, k0_4 cI aL b9] := by rw [eb9]; exact hD
  obtain rfl := Option.some.inj hf
  exact W.vret hx hb hr (fun t ht hW => ⟨⟨(), rfl, trivial, by rw [ht]; exact hP, hD⟩, hS.F ht⟩) hS.2.2 dX0_copyPlate_48
def fX0_copyFrom_55_b (k55 : BX0 → BX0 → Int32 → Option BX0) (vL : BX0) (vO : BX0) (x2 : Int32) : Option BX0 :=
  if (4 : Int32) ≤ x2 then (some vL) else ((fX0_copyPlate vL vO x2 x2).bind (fun y10 => elet (x2 + 1) (fun z11 => k55 y10 vO z11)))
def fX0_copyFrom_55 : Nat → BX0 → BX0 → Int32 → Option BX0
  | 0 => fun _ _ _ => none
  | n + 1 => fX0_copyFrom_55_b (fX0_copyFrom_55 n)
def fX0_copyFrom_18_b (k18 : BX0 → BX0 → Int32 → Option BX0) (vL : BX0) (vO : BX0) (x2 : Int32) : Option BX0 :=
  if (4 : Int32) < x2 then (fX0_copyFrom_55 FU vL vO (0 : Int32)) else (if inB x2 5 = true then (if inB x2 5 = true then (elet (s0_strengths vL (upd (p0_strengths vL) (x2).toNatClampNeg ((p0_strengths vO) (x2).toNatClampNeg))) (fun b4 => if inB x2 5 = true then (if inB x2 5 = true then (elet (s0_lengths b4 (upd (p0_lengths b4) (x2).toNatClampNeg ((p0_lengths vO) (x2).toNatClampNeg))) (fun b7 => elet (x2 + 1) (fun z8 => k18 b7 vO z8))) else none) else none)) else none) else none)
def fX0_copyFrom_18 : Nat → BX0 → BX0 → Int32 → Option BX0
  | 0 => fun _ _ _ => none
  | n + 1 => fX0_copyFrom_18_b (fX0_copyFrom_18 n)
def fX0_copyFrom (vL : BX0) (vO : BX0) : Option BX0 :=
  elet (s0_width vL (p0_width vO)) (fun b12 => elet (s0_plates b12 (p0_plates vO)) (fun b13 => fX0_copyFrom_18 FU b13 vO (0 : Int32)))
set_option maxHeartbeats 8000000 in
set_option maxRecDepth 100000 in
theorem mX0_copyFrom (l : Launch) (dC : Nat → ClassId) (dI : Nat → Nat → Nat) (cI cJ : ClassId) (aL : Nat → Nat) (aO : Nat → Nat) (sz : Nat) (vL : BX0) (vO : BX0) (y : BX0) (hf : fX0_copyFrom vL vO = some y) : Met l yX0_copyFrom wsX0_copyFrom ({ frames := 1, cells := 0, slots := 0, locals := 23 }) (cPc dC dI cI cJ [.ref (aL 0), .ref (aO 0)] [k0_0 aL vL, k0_1 cI aL vL, k0_2 cI aL vL, k0_3 cI aL vL, k0_4 cI aL vL, k0_0 aO vO, k0_1 cI aO vO, k0_2 cI aO vO, k0_3 cI aO vO, k0_4 cI aO vO] sz) (va_Qv (fun (_ : Unit) => True) (fun _ t => cB dC dI (va_A [k0_0 aL vL, k0_1 cI aL vL, k0_2 cI aL vL, k0_3 cI aL vL, k0_4 cI aL vL, k0_0 aO vO, k0_1 cI aO vO, k0_2 cI aO vO, k0_3 cI aO vO, k0_4 cI aO vO] sz) [k0_0 aL y, k0_1 cI aL y, k0_2 cI aL y, k0_3 cI aL y, k0_4 cI aL y, k0_0 aO vO, k0_1 cI aO vO, k0_2 cI aO vO, k0_3 cI aO vO, k0_4 cI aO vO] t) (va_A [k0_0 aL vL, k0_1 cI aL vL, k0_2 cI aL vL, k0_3 cI aL vL, k0_4 cI aL vL, k0_0 aO vO, k0_1 cI aO vO, k0_2 cI aO vO, k0_3 cI aO vO, k0_4 cI aO vO] sz)) 0 0 (va_A [k0_0 aL vL, k0_1 cI aL vL, k0_2 cI aL vL, k0_3 cI aL vL, k0_4 cI aL vL, k0_0 aO vO, k0_1 cI aO vO, k0_2 cI aO vO, k0_3 cI aO vO, k0_4 cI aO vO] sz) := by
  refine Met.ofW (cc := cX0_copyFrom) (maxL := 3) (ret := none) (by decide) rfl ?_
  intro p e s m args below meth c s₁ B hml hv
  obtain ⟨rfl, hsz, hP, hK, hD0, hN⟩ := hv
  have hx := B.exec
  have hb := B.bytes
  have hr := B.returns
  have hts := atoms_spec (ws := wsX0_copyFrom) B.pre
  have hown : s.vm.findClass RX0 = some m.cls := findClass_of_methodNamed B.named
  have hlocks := B.notSynchronized
  subst hsz
  have hD := hD0.self (sz := s.heap.size)
  generalize hAe : va_A [k0_0 aL vL, k0_1 cI aL vL, k0_2 cI aL vL, k0_3 cI aL vL, k0_4 cI aL vL, k0_0 aO vO, k0_1 cI aO vO, k0_2 cI aO vO, k0_3 cI aO vO, k0_4 cI aO vO] s.heap.size = A at hD hN ⊢
  have hA : ∀ q : Nat, s.heap.size ≤ q → A q := fun q h => by rw [← hAe]; exact Or.inr h
  have hP : va_P (dC, dI) vwCl [k0_0 aL vL, k0_1 cI aL vL, k0_2 cI aL vL, k0_3 cI aL vL, k0_4 cI aL vL, k0_0 aO vO, k0_1 cI aO vO, k0_2 cI aO vO, k0_3 cI aO vO, k0_4 cI aO vO] s.heap := hP
  have hl := lv_entry ([.ref (aL 0), .ref (aO 0)]) (n := 3) (Nat.le_of_ble_eq_true rfl)
  rw [lg_entry_eq]
  generalize (lg_sl ([.ref (aL 0), .ref (aO 0)]) ++ List.replicate (3 - (lg_sl ([.ref (aL 0), .ref (aO 0)])).length) Slot.unset).toArray = ls at hl ⊢
  have hl : lv_has ls 3 [(0, .ref (aL 0)), (1, .ref (aO 0))] := hl
  have hiX0 : ∀ w ∈ u_ws RX0 TX0 6, w ∈ wsX0_copyFrom := by decide +kernel
  have hgX0_18 := hts (.fieldLink RX0 18 "SpringPlates$Layout" "strengths" "[I") (by decide +kernel)
  have hgX0_22 := hts (.fieldLink RX0 22 "SpringPlates$Layout" "lengths" "[I") (by decide +kernel)
  have hgX0_9 := hts (.fieldLink RX0 9 "SpringPlates$Layout" "width" "I") (by decide +kernel)
  have hgX0_15 := hts (.fieldLink RX0 15 "SpringPlates$Layout" "plates" "I") (by decide +kernel)
  refine nameH (fun H locs hHe hLe => ?_)
  have hP : va_P (dC, dI) vwCl [k0_0 aL vL, k0_1 cI aL vL, k0_2 cI aL vL, k0_3 cI aL vL, k0_4 cI aL vL, k0_0 aO vO, k0_1 cI aO vO, k0_2 cI aO vO, k0_3 cI aO vO, k0_4 cI aO vO] H := by rw [hHe]; exact hP
  have hS : va_S A s.heap H locs := by rw [hHe, hLe]; exact va_S.rf
  refine withW (fun WW hWW => ?_)
  have L55 : ∀ (n : Nat) (vL : BX0) (x2 : Int32) (H : Heap) (locs : List Loc) (ls : Array Slot), va_P (dC, dI) vwCl [k0_0 aL vL, k0_1 cI aL vL, k0_2 cI aL vL, k0_3 cI aL vL, k0_4 cI aL vL, k0_0 aO vO, k0_1 cI aO vO, k0_2 cI aO vO, k0_3 cI aO vO, k0_4 cI aO vO] H → va_D A [k0_0 aL vL, k0_1 cI aL vL, k0_2 cI aL vL, k0_3 cI aL vL, k0_4 cI aL vL, k0_0 aO vO, k0_1 cI aO vO, k0_2 cI aO vO, k0_3 cI aO vO, k0_4 cI aO vO] → va_S A s.heap H locs → lv_has ls 3 [(0, .ref (aL 0)), (1, .ref (aO 0)), (2, .int x2)] → fX0_copyFrom_55 n vL vO x2 = some y → WW H locs 0 0 ls 55 [] := by
    intro n
    induction n with
    | zero =>
      intro vL x2 H locs ls hP hD hS hl hf
      exact onone hf
    | succ n ih =>
      intro vL x2 H locs ls hP hD hS hl hf
      have hf : fX0_copyFrom_55_b (fX0_copyFrom_55 n) vL vO x2 = some y := hf
      generalize fX0_copyFrom_55 n = k55 at hf ih
      have hk55 := ih
      clear ih
      unfold fX0_copyFrom_55_b at hf
      refine (hWW _ _ _ _ _ _ _).2 ?_
      refine lv_iload_n hx hb dX0_copyFrom_55 rfl (lv_at hl 2 rfl) ?_
      refine lv_iconst (v := 4) hx hb dX0_copyFrom_56 (by decide) ?_
      refine lv_icmp_ge (tgt := 73) hx hb dX0_copyFrom_57 (by decide) (fun c9 => ?_) (fun c9 => ?_)
      · have hf := oif_t c9 hf
        obtain rfl := Option.some.inj hf
        exact W.vret hx hb hr (fun t ht hW => ⟨⟨(), rfl, trivial, by rw [ht]; exact hP, hD⟩, hS.F ht⟩) hS.2.2 dX0_copyFrom_73
      · have hf := oif_f c9 hf
        refine lv_aload_n hx hb dX0_copyFrom_60 rfl (lv_at hl 0 rfl) ?_
        refine lv_aload_n hx hb dX0_copyFrom_61 rfl (lv_at hl 1 rfl) ?_
        refine lv_iload_n hx hb dX0_copyFrom_62 rfl (lv_at hl 2 rfl) ?_
        refine lv_iload_n hx hb dX0_copyFrom_63 rfl (lv_at hl 2 rfl) ?_
        obtain ⟨y10, hy10, hf⟩ := obind hf
        refine cg_v (ws := [k0_0 aL vL, k0_1 cI aL vL, k0_2 cI aL vL, k0_3 cI aL vL, k0_4 cI aL vL, k0_0 aO vO, k0_1 cI aO vO, k0_2 cI aO vO, k0_3 cI aO vO, k0_4 cI aO vO]) (wc := [k0_0 aL vL, k0_1 cI aL vL, k0_2 cI aL vL, k0_3 cI aL vL, k0_4 cI aL vL, k0_0 aO vO, k0_1 cI aO vO, k0_2 cI aO vO, k0_3 cI aO vO, k0_4 cI aO vO]) (wr := []) (w1 := [k0_0 aL y10, k0_1 cI aL y10, k0_2 cI aL y10, k0_3 cI aL y10, k0_4 cI aL y10, k0_0 aO vO, k0_1 cI aO vO, k0_2 cI aO vO, k0_3 cI aO vO, k0_4 cI aO vO]) (wo := [k0_0 aL y10, k0_1 cI aL y10, k0_2 cI aL y10, k0_3 cI aL y10, k0_4 cI aL y10, k0_0 aO vO, k0_1 cI aO vO, k0_2 cI aO vO, k0_3 cI aO vO, k0_4 cI aO vO]) hP hD hS hA (va_runV (As := [.ref (aO 0), .int x2, .int x2]) (rest := []) ⟨hx, hb, hml, hown, hts⟩ (mX0_copyPlate l dC dI cI cJ aL aO H.size vL vO x2 x2 y10 hy10) (cwV 3 hts gX0_copyFrom_X0_copyPlate rfl rfl rfl (by decide +kernel) ⟨Nat.le_of_ble_eq_true rfl, Nat.le_of_ble_eq_true rfl⟩) ⟨cFB, va_recv hK hP (ci := 0) (q0 := 0) rfl rfl, cPre hK hN hS (va_free (wc := [k0_0 aL vL, k0_1 cI aL vL, k0_2 cI aL vL, k0_3 cI aL vL, k0_4 cI aL vL, k0_0 aO vO, k0_1 cI aO vO, k0_2 cI aO vO, k0_3 cI aO vO, k0_4 cI aO vO]) hD hS hA [0, 1, 2, 3, 4, 5, 6, 7, 8, 9] rfl) (hP.sub [0, 1, 2, 3, 4, 5, 6, 7, 8, 9] rfl) (hD.sub [0, 1, 2, 3, 4, 5, 6, 7, 8, 9] rfl rfl)⟩ rfl rfl hl.1 rfl (lv_room (Nat.le_of_ble_eq_true rfl)) dX0_copyFrom_64 ⟨Nat.le_of_ble_eq_true rfl, Nat.le_of_ble_eq_true rfl⟩) [0, 1, 2, 3, 4, 5, 6, 7, 8, 9] [] [0, 1, 2, 3, 4, 5, 6, 7, 8, 9] rfl rfl rfl (by decide +kernel) rfl rfl (fun H locs hP hD hS => ?_)
        obtain ⟨z11, ez11, hf⟩ := elet_out hf
        refine lv_iinc (v := z11) (lv' := [(2, .int z11), (0, .ref (aL 0)), (1, .ref (aO 0))]) hx hb dX0_copyFrom_67 hl (k := 2) rfl (by rw [ez11]; rfl) (by decide) rfl (fun ls hl => ?_)
        refine lv_goto (tgt := 55) hx hb dX0_copyFrom_70 (by decide) ?_
        exact (hWW _ _ _ _ _ _ _).1 (hk55 y10 z11 H locs ls hP hD hS (lv_sub hl [1, 2, 0] rfl) hf)
  have L18 : ∀ (n : Nat) (vL : BX0) (x2 : Int32) (H : Heap) (locs : List Loc) (ls : Array Slot), va_P (dC, dI) vwCl [k0_0 aL vL, k0_1 cI aL vL, k0_2 cI aL vL, k0_3 cI aL vL, k0_4 cI aL vL, k0_0 aO vO, k0_1 cI aO vO, k0_2 cI aO vO, k0_3 cI aO vO, k0_4 cI aO vO] H → va_D A [k0_0 aL vL, k0_1 cI aL vL, k0_2 cI aL vL, k0_3 cI aL vL, k0_4 cI aL vL, k0_0 aO vO, k0_1 cI aO vO, k0_2 cI aO vO, k0_3 cI aO vO, k0_4 cI aO vO] → va_S A s.heap H locs → lv_has ls 3 [(0, .ref (aL 0)), (1, .ref (aO 0)), (2, .int x2)] → fX0_copyFrom_18 n vL vO x2 = some y → WW H locs 0 0 ls 18 [] := by
    intro n
    induction n with
    | zero =>
      intro vL x2 H locs ls hP hD hS hl hf
      exact onone hf
    | succ n ih =>
      intro vL x2 H locs ls hP hD hS hl hf
      have hf : fX0_copyFrom_18_b (fX0_copyFrom_18 n) vL vO x2 = some y := hf
      generalize fX0_copyFrom_18 n = k18 at hf ih
      have hk18 := ih
      clear ih
      unfold fX0_copyFrom_18_b at hf
      refine (hWW _ _ _ _ _ _ _).2 ?_
      refine lv_iload_n hx hb dX0_copyFrom_18 rfl (lv_at hl 2 rfl) ?_
      refine lv_iconst (v := 4) hx hb dX0_copyFrom_19 (by decide) ?_
      refine lv_icmp_gt (tgt := 53) hx hb dX0_copyFrom_20 (by decide) (fun c1 => ?_) (fun c1 => ?_)
      · have hf := oif_t c1 hf
        refine lv_iconst (v := 0) hx hb dX0_copyFrom_53 (by decide) ?_
        refine lv_istore_n (lv' := [(2, .int 0), (0, .ref (aL 0)), (1, .ref (aO 0))]) hx hb dX0_copyFrom_54 rfl hl (by decide) rfl (fun ls hl => ?_)
        exact (hWW _ _ _ _ _ _ _).1 (L55 FU vL (0 : Int32) H locs ls hP hD hS (lv_sub hl [1, 2, 0] rfl) hf)
      · have hf := oif_f c1 hf
        refine lv_aload_n hx hb dX0_copyFrom_23 rfl (lv_at hl 0 rfl) ?_
        refine va_get (D := (dC, dI)) (ci := 0) (v := .ref (aL 1)) (C := RX0) (T := TX0) (N := 6) hx hb hts hiX0 hown hK hP 0 rfl rfl 2 (by decide) hgX0_18 (fun _ h9 => h9) rfl dX0_copyFrom_24 ?_
        refine lv_iload_n hx hb dX0_copyFrom_27 rfl (lv_at hl 2 rfl) ?_
        refine lv_aload_n hx hb dX0_copyFrom_28 rfl (lv_at hl 1 rfl) ?_
        refine va_get (D := (dC, dI)) (ci := 0) (v := .ref (aO 1)) (C := RX0) (T := TX0) (N := 6) hx hb hts hiX0 hown hK hP 5 rfl rfl 2 (by decide) hgX0_18 (fun _ h9 => h9) rfl dX0_copyFrom_29 ?_
        refine lv_iload_n hx hb dX0_copyFrom_32 rfl (lv_at hl 2 rfl) ?_
        obtain ⟨hi2, hf⟩ := oinb rfl hf
        refine va_iald hx hb hK hP 6 0 rfl rfl hi2 dX0_copyFrom_33 ?_
        obtain ⟨hi3, hf⟩ := oinb rfl hf
        obtain ⟨b4, eb4, hf⟩ := elet_out hf
        refine va_iast hx hb hK hP hD hS 1 0 rfl rfl hi3 dX0_copyFrom_34 (fun H locs hP hD hS => ?_)
        have hP : va_P (dC, dI) vwCl [k0_0 aL b4, k0_1 cI aL b4, k0_2 cI aL b4, k0_3 cI aL b4, k0_4 cI aL b4, k0_0 aO vO, k0_1 cI aO vO, k0_2 cI aO vO, k0_3 cI aO vO, k0_4 cI aO vO] H := by rw [eb4]; exact hP
        have hD : va_D A [k0_0 aL b4, k0_1 cI aL b4, k0_2 cI aL b4, k0_3 cI aL b4, k0_4 cI aL b4, k0_0 aO vO, k0_1 cI aO vO, k0_2 cI aO vO, k0_3 cI aO vO, k0_4 cI aO vO] := by rw [eb4]; exact hD
        refine lv_aload_n hx hb dX0_copyFrom_35 rfl (lv_at hl 0 rfl) ?_
        refine va_get (D := (dC, dI)) (ci := 0) (v := .ref (aL 2)) (C := RX0) (T := TX0) (N := 6) hx hb hts hiX0 hown hK hP 0 rfl rfl 3 (by decide) hgX0_22 (fun _ h9 => h9) rfl dX0_copyFrom_36 ?_
        refine lv_iload_n hx hb dX0_copyFrom_39 rfl (lv_at hl 2 rfl) ?_
        refine lv_aload_n hx hb dX0_copyFrom_40 rfl (lv_at hl 1 rfl) ?_
        refine va_get (D := (dC, dI)) (ci := 0) (v := .ref (aO 2)) (C := RX0) (T := TX0) (N := 6) hx hb hts hiX0 hown hK hP 5 rfl rfl 3 (by decide) hgX0_22 (fun _ h9 => h9) rfl dX0_copyFrom_41 ?_
        refine lv_iload_n hx hb dX0_copyFrom_44 rfl (lv_at hl 2 rfl) ?_
        obtain ⟨hi5, hf⟩ := oinb rfl hf
        refine va_iald hx hb hK hP 7 0 rfl rfl hi5 dX0_copyFrom_45 ?_
        obtain ⟨hi6, hf⟩ := oinb rfl hf
        obtain ⟨b7, eb7, hf⟩ := elet_out hf
        refine va_iast hx hb hK hP hD hS 2 0 rfl rfl hi6 dX0_copyFrom_46 (fun H locs hP hD hS => ?_)
        have hP : va_P (dC, dI) vwCl [k0_0 aL b7, k0_1 cI aL b7, k0_2 cI aL b7, k0_3 cI aL b7, k0_4 cI aL b7, k0_0 aO vO, k0_1 cI aO vO, k0_2 cI aO vO, k0_3 cI aO vO, k0_4 cI aO vO] H := by rw [eb7]; exact hP
        have hD : va_D A [k0_0 aL b7, k0_1 cI aL b7, k0_2 cI aL b7, k0_3 cI aL b7, k0_4 cI aL b7, k0_0 aO vO, k0_1 cI aO vO, k0_2 cI aO vO, k0_3 cI aO vO, k0_4 cI aO vO] := by rw [eb7]; exact hD
        obtain ⟨z8, ez8, hf⟩ := elet_out hf
        refine lv_iinc (v := z8) (lv' := [(2, .int z8), (0, .ref (aL 0)), (1, .ref (aO 0))]) hx hb dX0_copyFrom_47 hl (k := 2) rfl (by rw [ez8]; rfl) (by decide) rfl (fun ls hl => ?_)
        refine lv_goto (tgt := 18) hx hb dX0_copyFrom_50 (by decide) ?_
        exact (hWW _ _ _ _ _ _ _).1 (hk18 b7 z8 H locs ls hP hD hS (lv_sub hl [1, 2, 0] rfl) hf)
  refine (hWW _ _ _ _ _ _ _).2 ?_
  unfold fX0_copyFrom at hf
  refine lv_aload_n hx hb dX0_copyFrom_0 rfl (lv_at hl 0 rfl) ?_
  refine lv_aload_n hx hb dX0_copyFrom_1 rfl (lv_at hl 1 rfl) ?_
  refine va_get (D := (dC, dI)) (ci := 0) (v := .int (p0_width vO)) (C := RX0) (T := TX0) (N := 6) hx hb hts hiX0 hown hK hP 5 rfl rfl 0 (by decide) hgX0_9 (fun _ h9 => h9) rfl dX0_copyFrom_2 ?_
  obtain ⟨b12, eb12, hf⟩ := elet_out hf
  refine va_put (D := (dC, dI)) (ci := 0) (v := .int (p0_width vO)) (ty := .int) (C := RX0) (T := TX0) (N := 6) hx hb hts hiX0 tyX0 tyX0_ok nmX0 hown hK hP hD hS 0 rfl rfl 0 (by decide) hgX0_9 (fun _ h9 => h9) rfl (by decide +kernel) rfl rfl (Nat.le_of_ble_eq_true rfl) dX0_copyFrom_5 (fun H locs hP hD hS => ?_)
  have hP : va_P (dC, dI) vwCl [k0_0 aL b12, k0_1 cI aL b12, k0_2 cI aL b12, k0_3 cI aL b12, k0_4 cI aL b12, k0_0 aO vO, k0_1 cI aO vO, k0_2 cI aO vO, k0_3 cI aO vO, k0_4 cI aO vO] H := by rw [eb12]; exact hP
  have hD : va_D A [k0_0 aL b12, k0_1 cI aL b12, k0_2 cI aL b12, k0_3 cI aL b12, k0_4 cI aL b12, k0_0 aO vO, k0_1 cI aO vO, k0_2 cI aO vO, k0_3 cI aO vO, k0_4 cI aO vO] := by rw [eb12]; exact hD
  refine lv_aload_n hx hb dX0_copyFrom_8 rfl (lv_at hl 0 rfl) ?_
  refine lv_aload_n hx hb dX0_copyFrom_9 rfl (lv_at hl 1 rfl) ?_
  refine va_get (D := (dC, dI)) (ci := 0) (v := .int (p0_plates vO)) (C := RX0) (T := TX0) (N := 6) hx hb hts hiX0 hown hK hP 5 rfl rfl 1 (by decide) hgX0_15 (fun _ h9 => h9) rfl dX0_copyFrom_10 ?_
  obtain ⟨b13, eb13, hf⟩ := elet_out hf
  refine va_put (D := (dC, dI)) (ci := 0) (v := .int (p0_plates vO)) (ty := .int) (C := RX0) (T := TX0) (N := 6) hx hb hts hiX0 tyX0 tyX0_ok nmX0 hown hK hP hD hS 0 rfl rfl 1 (by decide) hgX0_15 (fun _ h9 => h9) rfl (by decide +kernel) rfl rfl (Nat.le_of_ble_eq_true rfl) dX0_copyFrom_13 (fun H locs hP hD hS => ?_)
  have hP : va_P (dC, dI) vwCl [k0_0 aL b13, k0_1 cI aL b13, k0_2 cI aL b13, k0_3 cI aL b13, k0_4 cI aL b13, k0_0 aO vO, k0_1 cI aO vO, k0_2 cI aO vO, k0_3 cI aO vO, k0_4 cI aO vO] H := by rw [eb13]; exact hP
  have hD : va_D A [k0_0 aL b13, k0_1 cI aL b13, k0_2 cI aL b13, k0_3 cI aL b13, k0_4 cI aL b13, k0_0 aO vO, k0_1 cI aO vO, k0_2 cI aO vO, k0_3 cI aO vO, k0_4 cI aO vO] := by rw [eb13]; exact hD
  refine lv_iconst (v := 0) hx hb dX0_copyFrom_16 (by decide) ?_
  refine lv_istore_n (lv' := [(2, .int 0), (0, .ref (aL 0)), (1, .ref (aO 0))]) hx hb dX0_copyFrom_17 rfl hl (by decide) rfl (fun ls hl => ?_)
  exact (hWW _ _ _ _ _ _ _).1 (L18 FU b13 (0 : Int32) H locs ls hP hD hS (lv_sub hl [1, 2, 0] rfl) hf)
def fX0_countStops_27 (k4 : BX0 → Int32 → Int32 → Option Int32) (vL : BX0) (x1 : Int32) (x2 : Int32) : Option Int32 :=
  elet (x2 + 1) (fun z5 => k4 vL x1 z5)
def fX0_countStops_4_b (k4 : BX0 → Int32 → Int32 → Option Int32) (vL : BX0) (x1 : Int32) (x2 : Int32) : Option Int32 :=
  if ((2 : Int32) * (p0_plates vL)) ≤ x2 then (some x1) else (if inB x2 8 = true then (if ((p0_stops vL) (x2).toNatClampNeg) = (-1 : Int32) then (fX0_countStops_27 k4 vL x1 x2) else (elet (x1 + 1) (fun z4 => fX0_countStops_27 k4 vL z4 x2))) else none)
def fX0_countStops_4 : Nat → BX0 → Int32 → Int32 → Option Int32
  | 0 => fun _ _ _ => none
  | n + 1 => fX0_countStops_4_b (fX0_countStops_4 n)
def fX0_countStops (vL : BX0) : Option Int32 :=
  fX0_countStops_4 FU vL (0 : Int32) (0 : Int32)
set_option maxHeartbeats 8000000 in
set_option maxRecDepth 100000 in
theorem mX0_countStops (l : Launch) (dC : Nat → ClassId) (dI : Nat → Nat → Nat) (cI cJ : ClassId) (aL : Nat → Nat) (sz : Nat) (vL : BX0) (y : Int32) (hf : fX0_countStops vL = some y) : Met l yX0_countStops wsX0_countStops ({ frames := 0, cells := 0, slots := 0, locals := 0 }) (cPc dC dI cI cJ [.ref (aL 0)] [k0_0 aL vL, k0_1 cI aL vL, k0_2 cI aL vL, k0_3 cI aL vL, k0_4 cI aL vL] sz) (va_Qi (fun r (_ : Unit) => r = y) (fun _ t => cB dC dI (va_A [k0_0 aL vL, k0_1 cI aL vL, k0_2 cI aL vL, k0_3 cI aL vL, k0_4 cI aL vL] sz) [k0_0 aL vL, k0_1 cI aL vL, k0_2 cI aL vL, k0_3 cI aL vL, k0_4 cI aL vL] t) (va_A [k0_0 aL vL, k0_1 cI aL vL, k0_2 cI aL vL, k0_3 cI aL vL, k0_4 cI aL vL] sz)) 0 0 (va_A [k0_0 aL vL, k0_1 cI aL vL, k0_2 cI aL vL, k0_3 cI aL vL, k0_4 cI aL vL] sz) := by
  refine Met.ofW (cc := cX0_countStops) (maxL := 3) (ret := (some .int)) (by decide) rfl ?_
  intro p e s m args below meth c s₁ B hml hv
  obtain ⟨rfl, hsz, hP, hK, hD0, hN⟩ := hv
  have hx := B.exec
  have hb := B.bytes
  have hr := B.returns
  have hts := atoms_spec (ws := wsX0_countStops) B.pre
  have hown : s.vm.findClass RX0 = some m.cls := findClass_of_methodNamed B.named
  have hlocks := B.notSynchronized
  subst hsz
  have hD := hD0.self (sz := s.heap.size)
  generalize hAe : va_A [k0_0 aL vL, k0_1 cI aL vL, k0_2 cI aL vL, k0_3 cI aL vL, k0_4 cI aL vL] s.heap.size = A at hD hN ⊢
  have hA : ∀ q : Nat, s.heap.size ≤ q → A q := fun q h => by rw [← hAe]; exact Or.inr h
  have hP : va_P (dC, dI) vwCl [k0_0 aL vL, k0_1 cI aL vL, k0_2 cI aL vL, k0_3 cI aL vL, k0_4 cI aL vL] s.heap := hP
  have hl := lv_entry ([.ref (aL 0)]) (n := 3) (Nat.le_of_ble_eq_true rfl)
  rw [lg_entry_eq]
  generalize (lg_sl ([.ref (aL 0)]) ++ List.replicate (3 - (lg_sl ([.ref (aL 0)])).length) Slot.unset).toArray = ls at hl ⊢
  have hl : lv_has ls 3 [(0, .ref (aL 0))] := hl
  have hiX0 : ∀ w ∈ u_ws RX0 TX0 6, w ∈ wsX0_countStops := by decide +kernel
  have hgX0_15 := hts (.fieldLink RX0 15 "SpringPlates$Layout" "plates" "I") (by decide +kernel)
  have hgX0_28 := hts (.fieldLink RX0 28 "SpringPlates$Layout" "stops" "[I") (by decide +kernel)
  refine nameH (fun H locs hHe hLe => ?_)
  have hP : va_P (dC, dI) vwCl [k0_0 aL vL, k0_1 cI aL vL, k0_2 cI aL vL, k0_3 cI aL vL, k0_4 cI aL vL] H := by rw [hHe]; exact hP
  have hS : va_S A s.heap H locs := by rw [hHe, hLe]; exact va_S.rf
  refine withW (fun WW hWW => ?_)
  have J27 : ∀ (k4 : BX0 → Int32 → Int32 → Option Int32) (hk4 : ∀ (x1 : Int32) (x2 : Int32) (H : Heap) (locs : List Loc) (ls : Array Slot), va_P (dC, dI) vwCl [k0_0 aL vL, k0_1 cI aL vL, k0_2 cI aL vL, k0_3 cI aL vL, k0_4 cI aL vL] H → va_D A [k0_0 aL vL, k0_1 cI aL vL, k0_2 cI aL vL, k0_3 cI aL vL, k0_4 cI aL vL] → va_S A s.heap H locs → lv_has ls 3 [(0, .ref (aL 0)), (1, .int x1), (2, .int x2)] → k4 vL x1 x2 = some y → WW H locs 0 0 ls 4 []) (x1 : Int32) (x2 : Int32) (H : Heap) (locs : List Loc) (ls : Array Slot), va_P (dC, dI) vwCl [k0_0 aL vL, k0_1 cI aL vL, k0_2 cI aL vL, k0_3 cI aL vL, k0_4 cI aL vL] H → va_D A [k0_0 aL vL, k0_1 cI aL vL, k0_2 cI aL vL, k0_3 cI aL vL, k0_4 cI aL vL] → va_S A s.heap H locs → lv_has ls 3 [(0, .ref (aL 0)), (1, .int x1), (2, .int x2)] → fX0_countStops_27 k4 vL x1 x2 = some y → WW H locs 0 0 ls 27 [] := by
    intro k4 hk4 x1 x2 H locs ls hP hD hS hl hf
    unfold fX0_countStops_27 at hf
    refine (hWW _ _ _ _ _ _ _).2 ?_
    obtain ⟨z5, ez5, hf⟩ := elet_out hf
    refine lv_iinc (v := z5) (lv' := [(2, .int z5), (0, .ref (aL 0)), (1, .int x1)]) hx hb dX0_countStops_27 hl (k := 2) rfl (by rw [ez5]; rfl) (by decide) rfl (fun ls hl => ?_)
    refine lv_goto (tgt := 4) hx hb dX0_countStops_30 (by decide) ?_
    exact (hWW _ _ _ _ _ _ _).1 (hk4 x1 z5 H locs ls hP hD hS (lv_sub hl [1, 2, 0] rfl) hf)
  have L4 : ∀ (n : Nat) (x1 : Int32) (x2 : Int32) (H : Heap) (locs : List Loc) (ls : Array Slot), va_P (dC, dI) vwCl [k0_0 aL vL, k0_1 cI aL vL, k0_2 cI aL vL, k0_3 cI aL vL, k0_4 cI aL vL] H → va_D A [k0_0 aL vL, k0_1 cI aL vL, k0_2 cI aL vL, k0_3 cI aL vL, k0_4 cI aL vL] → va_S A s.heap H locs → lv_has ls 3 [(0, .ref (aL 0)), (1, .int x1), (2, .int x2)] → fX0_countStops_4 n vL x1 x2 = some y → WW H locs 0 0 ls 4 [] := by
    intro n
    induction n with
    | zero =>
      intro x1 x2 H locs ls hP hD hS hl hf
      exact onone hf
    | succ n ih =>
      intro x1 x2 H locs ls hP hD hS hl hf
      have hf : fX0_countStops_4_b (fX0_countStops_4 n) vL x1 x2 = some y := hf
      generalize fX0_countStops_4 n = k4 at hf ih
      have hk4 := ih
      clear ih
      unfold fX0_countStops_4_b at hf
      refine (hWW _ _ _ _ _ _ _).2 ?_
      refine lv_iload_n hx hb dX0_countStops_4 rfl (lv_at hl 2 rfl) ?_
      refine lv_iconst (v := 2) hx hb dX0_countStops_5 (by decide) ?_
      refine lv_aload_n hx hb dX0_countStops_6 rfl (lv_at hl 0 rfl) ?_
      refine va_get (D := (dC, dI)) (ci := 0) (v := .int (p0_plates vL)) (C := RX0) (T := TX0) (N := 6) hx hb hts hiX0 hown hK hP 0 rfl rfl 1 (by decide) hgX0_15 (fun _ h9 => h9) rfl dX0_countStops_7 ?_
      refine lv_imul hx hb dX0_countStops_10 ?_
      refine lv_icmp_ge (tgt := 33) hx hb dX0_countStops_11 (by decide) (fun c1 => ?_) (fun c1 => ?_)
      · have hf := oif_t c1 hf
        refine lv_iload_n hx hb dX0_countStops_33 rfl (lv_at hl 1 rfl) ?_
        obtain rfl := Option.some.inj hf
        exact W.iret (v := x1) hx hb hr (fun t ht hW => ⟨⟨x1, (), rfl, rfl, by rw [ht]; exact hP, hD⟩, hS.F ht⟩) hS.2.2 dX0_countStops_34
      · have hf := oif_f c1 hf
        refine lv_aload_n hx hb dX0_countStops_14 rfl (lv_at hl 0 rfl) ?_
        refine va_get (D := (dC, dI)) (ci := 0) (v := .ref (aL 4)) (C := RX0) (T := TX0) (N := 6) hx hb hts hiX0 hown hK hP 0 rfl rfl 5 (by decide) hgX0_28 (fun _ h9 => h9) rfl dX0_countStops_15 ?_
        refine lv_iload_n hx hb dX0_countStops_18 rfl (lv_at hl 2 rfl) ?_
        obtain ⟨hi2, hf⟩ := oinb rfl hf
        refine va_iald hx hb hK hP 4 0 rfl rfl hi2 dX0_countStops_19 ?_
        refine lv_iconst (v := (-1)) hx hb dX0_countStops_20 (by decide) ?_
        refine lv_icmp_eq (tgt := 27) hx hb dX0_countStops_21 (by decide) (fun c3 => ?_) (fun c3 => ?_)
        · have hf := oif_t c3 hf
          exact (hWW _ _ _ _ _ _ _).1 (J27 k4 hk4 x1 x2 H locs ls hP hD hS (lv_sub hl [0, 1, 2] rfl) hf)
        · have hf := oif_f c3 hf
          obtain ⟨z4, ez4, hf⟩ := elet_out hf
          refine lv_iinc (v := z4) (lv' := [(1, .int z4), (0, .ref (aL 0)), (2, .int x2)]) hx hb dX0_countStops_24 hl (k := 1) rfl (by rw [ez4]; rfl) (by decide) rfl (fun ls hl => ?_)
          exact (hWW _ _ _ _ _ _ _).1 (J27 k4 hk4 z4 x2 H locs ls hP hD hS (lv_sub hl [1, 0, 2] rfl) hf)
  refine (hWW _ _ _ _ _ _ _).2 ?_
  unfold fX0_countStops at hf
  refine lv_iconst (v := 0) hx hb dX0_countStops_0 (by decide) ?_
  refine lv_istore_n (lv' := [(1, .int 0), (0, .ref (aL 0))]) hx hb dX0_countStops_1 rfl hl (by decide) rfl (fun ls hl => ?_)
  refine lv_iconst (v := 0) hx hb dX0_countStops_2 (by decide) ?_
  refine lv_istore_n (lv' := [(2, .int 0), (1, .int 0), (0, .ref (aL 0))]) hx hb dX0_countStops_3 rfl hl (by decide) rfl (fun ls hl => ?_)
  exact (hWW _ _ _ _ _ _ _).1 (L4 FU (0 : Int32) (0 : Int32) H locs ls hP hD hS (lv_sub hl [2, 1, 0] rfl) hf)
def fX0_hasStopBeyond_2_b (k2 : BX0 → Int32 → Int32 → Option Int32) (vL : BX0) (x1 : Int32) (x2 : Int32) : Option Int32 :=
  if ((2 : Int32) * (p0_plates vL)) ≤ x2 then (some 0) else (if inB x2 8 = true then (if ((p0_stops vL) (x2).toNatClampNeg) ≤ x1 then (elet (x2 + 1) (fun z4 => k2 vL x1 z4)) else (some 1)) else none)
def fX0_hasStopBeyond_2 : Nat → BX0 → Int32 → Int32 → Option Int32
  | 0 => fun _ _ _ => none
  | n + 1 => fX0_hasStopBeyond_2_b (fX0_hasStopBeyond_2 n)
def fX0_hasStopBeyond (vL : BX0) (i1 : Int32) : Option Int32 :=
  fX0_hasStopBeyond_2 FU vL i1 (0 : Int32)
set_option maxHeartbeats 8000000 in
set_option maxRecDepth 100000 in
theorem mX0_hasStopBeyond (l : Launch) (dC : Nat → ClassId) (dI : Nat → Nat → Nat) (cI cJ : ClassId) (aL : Nat → Nat) (sz : Nat) (vL : BX0) (i1 : Int32) (y : Int32) (hf : fX0_hasStopBeyond vL i1 = some y) : Met l yX0_hasStopBeyond wsX0_hasStopBeyond ({ frames := 0, cells := 0, slots := 0, locals := 0 }) (cPc dC dI cI cJ [.ref (aL 0), .int i1] [k0_0 aL vL, k0_1 cI aL vL, k0_2 cI aL vL, k0_3 cI aL vL, k0_4 cI aL vL] sz) (va_Qi (fun r (_ : Unit) => r = y) (fun _ t => cB dC dI (va_A [k0_0 aL vL, k0_1 cI aL vL, k0_2 cI aL vL, k0_3 cI aL vL, k0_4 cI aL vL] sz) [k0_0 aL vL, k0_1 cI aL vL, k0_2 cI aL vL, k0_3 cI aL vL, k0_4 cI aL vL] t) (va_A [k0_0 aL vL, k0_1 cI aL vL, k0_2 cI aL vL, k0_3 cI aL vL, k0_4 cI aL vL] sz)) 0 0 (va_A [k0_0 aL vL, k0_1 cI aL vL, k0_2 cI aL vL, k0_3 cI aL vL, k0_4 cI aL vL] sz) := by
  refine Met.ofW (cc := cX0_hasStopBeyond) (maxL := 3) (ret := (some .boolean)) (by decide) rfl ?_
  intro p e s m args below meth c s₁ B hml hv
  obtain ⟨rfl, hsz, hP, hK, hD0, hN⟩ := hv
  have hx := B.exec
  have hb := B.bytes
  have hr := B.returns
  have hts := atoms_spec (ws := wsX0_hasStopBeyond) B.pre
  have hown : s.vm.findClass RX0 = some m.cls := findClass_of_methodNamed B.named
  have hlocks := B.notSynchronized
  subst hsz
  have hD := hD0.self (sz := s.heap.size)
  generalize hAe : va_A [k0_0 aL vL, k0_1 cI aL vL, k0_2 cI aL vL, k0_3 cI aL vL, k0_4 cI aL vL] s.heap.size = A at hD hN ⊢
  have hA : ∀ q : Nat, s.heap.size ≤ q → A q := fun q h => by rw [← hAe]; exact Or.inr h
  have hP : va_P (dC, dI) vwCl [k0_0 aL vL, k0_1 cI aL vL, k0_2 cI aL vL, k0_3 cI aL vL, k0_4 cI aL vL] s.heap := hP
  have hl := lv_entry ([.ref (aL 0), .int i1]) (n := 3) (Nat.le_of_ble_eq_true rfl)
  rw [lg_entry_eq]
  generalize (lg_sl ([.ref (aL 0), .int i1]) ++ List.replicate (3 - (lg_sl ([.ref (aL 0), .int i1])).length) Slot.unset).toArray = ls at hl ⊢
  have hl : lv_has ls 3 [(0, .ref (aL 0)), (1, .int i1)] := hl
  have hiX0 : ∀ w ∈ u_ws RX0 TX0 6, w ∈ wsX0_hasStopBeyond := by decide +kernel
  have hgX0_15 := hts (.fieldLink RX0 15 "SpringPlates$Layout" "plates" "I") (by decide +kernel)
  have hgX0_28 := hts (.fieldLink RX0 28 "SpringPlates$Layout" "stops" "[I") (by decide +kernel)
  refine nameH (fun H locs hHe hLe => ?_)
  have hP : va_P (dC, dI) vwCl [k0_0 aL vL, k0_1 cI aL vL, k0_2 cI aL vL, k0_3 cI aL vL, k0_4 cI aL vL] H := by rw [hHe]; exact hP
  have hS : va_S A s.heap H locs := by rw [hHe, hLe]; exact va_S.rf
  refine withW (fun WW hWW => ?_)
  have L2 : ∀ (n : Nat) (x1 : Int32) (x2 : Int32) (H : Heap) (locs : List Loc) (ls : Array Slot), va_P (dC, dI) vwCl [k0_0 aL vL, k0_1 cI aL vL, k0_2 cI aL vL, k0_3 cI aL vL, k0_4 cI aL vL] H → va_D A [k0_0 aL vL, k0_1 cI aL vL, k0_2 cI aL vL, k0_3 cI aL vL, k0_4 cI aL vL] → va_S A s.heap H locs → lv_has ls 3 [(0, .ref (aL 0)), (1, .int x1), (2, .int x2)] → fX0_hasStopBeyond_2 n vL x1 x2 = some y → WW H locs 0 0 ls 2 [] := by
    intro n
    induction n with
    | zero =>
      intro x1 x2 H locs ls hP hD hS hl hf
      exact onone hf
    | succ n ih =>
      intro x1 x2 H locs ls hP hD hS hl hf
      have hf : fX0_hasStopBeyond_2_b (fX0_hasStopBeyond_2 n) vL x1 x2 = some y := hf
      generalize fX0_hasStopBeyond_2 n = k2 at hf ih
      have hk2 := ih
      clear ih
      unfold fX0_hasStopBeyond_2_b at hf
      refine (hWW _ _ _ _ _ _ _).2 ?_
      refine lv_iload_n hx hb dX0_hasStopBeyond_2 rfl (lv_at hl 2 rfl) ?_
      refine lv_iconst (v := 2) hx hb dX0_hasStopBeyond_3 (by decide) ?_
      refine lv_aload_n hx hb dX0_hasStopBeyond_4 rfl (lv_at hl 0 rfl) ?_
      refine va_get (D := (dC, dI)) (ci := 0) (v := .int (p0_plates vL)) (C := RX0) (T := TX0) (N := 6) hx hb hts hiX0 hown hK hP 0 rfl rfl 1 (by decide) hgX0_15 (fun _ h9 => h9) rfl dX0_hasStopBeyond_5 ?_
      refine lv_imul hx hb dX0_hasStopBeyond_8 ?_
      refine lv_icmp_ge (tgt := 30) hx hb dX0_hasStopBeyond_9 (by decide) (fun c1 => ?_) (fun c1 => ?_)
      · have hf := oif_t c1 hf
        refine lv_iconst (v := 0) hx hb dX0_hasStopBeyond_30 (by decide) ?_
        obtain rfl := Option.some.inj hf
        exact W.zret (v := 0) hx hb hr rfl (fun t ht hW => ⟨⟨0, (), rfl, rfl, by rw [ht]; exact hP, hD⟩, hS.F ht⟩) hS.2.2 dX0_hasStopBeyond_31
      · have hf := oif_f c1 hf
        refine lv_aload_n hx hb dX0_hasStopBeyond_12 rfl (lv_at hl 0 rfl) ?_
        refine va_get (D := (dC, dI)) (ci := 0) (v := .ref (aL 4)) (C := RX0) (T := TX0) (N := 6) hx hb hts hiX0 hown hK hP 0 rfl rfl 5 (by decide) hgX0_28 (fun _ h9 => h9) rfl dX0_hasStopBeyond_13 ?_
        refine lv_iload_n hx hb dX0_hasStopBeyond_16 rfl (lv_at hl 2 rfl) ?_
        obtain ⟨hi2, hf⟩ := oinb rfl hf
        refine va_iald hx hb hK hP 4 0 rfl rfl hi2 dX0_hasStopBeyond_17 ?_
        refine lv_iload_n hx hb dX0_hasStopBeyond_18 rfl (lv_at hl 1 rfl) ?_
        refine lv_icmp_le (tgt := 24) hx hb dX0_hasStopBeyond_19 (by decide) (fun c3 => ?_) (fun c3 => ?_)
        · have hf := oif_t c3 hf
          obtain ⟨z4, ez4, hf⟩ := elet_out hf
          refine lv_iinc (v := z4) (lv' := [(2, .int z4), (0, .ref (aL 0)), (1, .int x1)]) hx hb dX0_hasStopBeyond_24 hl (k := 2) rfl (by rw [ez4]; rfl) (by decide) rfl (fun ls hl => ?_)
          refine lv_goto (tgt := 2) hx hb dX0_hasStopBeyond_27 (by decide) ?_
          exact (hWW _ _ _ _ _ _ _).1 (hk2 x1 z4 H locs ls hP hD hS (lv_sub hl [1, 2, 0] rfl) hf)
        · have hf := oif_f c3 hf
          refine lv_iconst (v := 1) hx hb dX0_hasStopBeyond_22 (by decide) ?_
          obtain rfl := Option.some.inj hf
          exact W.zret (v := 1) hx hb hr rfl (fun t ht hW => ⟨⟨1, (), rfl, rfl, by rw [ht]; exact hP, hD⟩, hS.F ht⟩) hS.2.2 dX0_hasStopBeyond_23
  refine (hWW _ _ _ _ _ _ _).2 ?_
  unfold fX0_hasStopBeyond at hf
  refine lv_iconst (v := 0) hx hb dX0_hasStopBeyond_0 (by decide) ?_
  refine lv_istore_n (lv' := [(2, .int 0), (0, .ref (aL 0)), (1, .int i1)]) hx hb dX0_hasStopBeyond_1 rfl hl (by decide) rfl (fun ls hl => ?_)
  exact (hWW _ _ _ _ _ _ _).1 (L2 FU i1 (0 : Int32) H locs ls hP hD hS (lv_sub hl [1, 2, 0] rfl) hf)
def fX0_setWidth (vL : BX0) (i1 : Int32) : Option (Int32 × BX0) :=
  if i1 < (10 : Int32) then (some ((-1000001), vL)) else (if i1 ≤ (99 : Int32) then ((fX0_hasStopBeyond vL i1).bind (fun y3 => if y3 = 0 then (elet (p0_width vL) (fun z5 => elet (s0_width vL i1) (fun b6 => some (z5, b6)))) else (some ((-1000002), vL)))) else (some ((-1000001), vL)))
set_option maxHeartbeats 8000000 in
set_option maxRecDepth 100000 in
theorem mX0_setWidth (l : Launch) (dC : Nat → ClassId) (dI : Nat → Nat → Nat) (cI cJ : ClassId) (aL : Nat → Nat) (sz : Nat) (vL : BX0) (i1 : Int32) (y : (Int32 × BX0)) (hf : fX0_setWidth vL i1 = some y) : Met l yX0_setWidth wsX0_setWidth ({ frames := 1, cells := 0, slots := 0, locals := 22 }) (cPc dC dI cI cJ [.ref (aL 0), .int i1] [k0_0 aL vL, k0_1 cI aL vL, k0_2 cI aL vL, k0_3 cI aL vL, k0_4 cI aL vL] sz) (va_Qi (fun r (_ : Unit) => r = y.1) (fun _ t => cB dC dI (va_A [k0_0 aL vL, k0_1 cI aL vL, k0_2 cI aL vL, k0_3 cI aL vL, k0_4 cI aL vL] sz) [k0_0 aL y.2, k0_1 cI aL y.2, k0_2 cI aL y.2, k0_3 cI aL y.2, k0_4 cI aL y.2] t) (va_A [k0_0 aL vL, k0_1 cI aL vL, k0_2 cI aL vL, k0_3 cI aL vL, k0_4 cI aL vL] sz)) 0 0 (va_A [k0_0 aL vL, k0_1 cI aL vL, k0_2 cI aL vL, k0_3 cI aL vL, k0_4 cI aL vL] sz) := by
  refine Met.ofW (cc := cX0_setWidth) (maxL := 3) (ret := (some .int)) (by decide) rfl ?_
  intro p e s m args below meth c s₁ B hml hv
  obtain ⟨rfl, hsz, hP, hK, hD0, hN⟩ := hv
  have hx := B.exec
  have hb := B.bytes
  have hr := B.returns
  have hts := atoms_spec (ws := wsX0_setWidth) B.pre
  have hown : s.vm.findClass RX0 = some m.cls := findClass_of_methodNamed B.named
  have hlocks := B.notSynchronized
  subst hsz
  have hD := hD0.self (sz := s.heap.size)
  generalize hAe : va_A [k0_0 aL vL, k0_1 cI aL vL, k0_2 cI aL vL, k0_3 cI aL vL, k0_4 cI aL vL] s.heap.size = A at hD hN ⊢
  have hA : ∀ q : Nat, s.heap.size ≤ q → A q := fun q h => by rw [← hAe]; exact Or.inr h
  have hP : va_P (dC, dI) vwCl [k0_0 aL vL, k0_1 cI aL vL, k0_2 cI aL vL, k0_3 cI aL vL, k0_4 cI aL vL] s.heap := hP
  have hl := lv_entry ([.ref (aL 0), .int i1]) (n := 3) (Nat.le_of_ble_eq_true rfl)
  rw [lg_entry_eq]
  generalize (lg_sl ([.ref (aL 0), .int i1]) ++ List.replicate (3 - (lg_sl ([.ref (aL 0), .int i1])).length) Slot.unset).toArray = ls at hl ⊢
  have hl : lv_has ls 3 [(0, .ref (aL 0)), (1, .int i1)] := hl
  have hc55 := hts (.constant RX0 55 (-1000001)) (by decide +kernel)
  have hiX0 : ∀ w ∈ u_ws RX0 TX0 6, w ∈ wsX0_setWidth := by decide +kernel
  have hgX0_9 := hts (.fieldLink RX0 9 "SpringPlates$Layout" "width" "I") (by decide +kernel)
  have hc60 := hts (.constant RX0 60 (-1000002)) (by decide +kernel)
  refine nameH (fun H locs hHe hLe => ?_)
  have hP : va_P (dC, dI) vwCl [k0_0 aL vL, k0_1 cI aL vL, k0_2 cI aL vL, k0_3 cI aL vL, k0_4 cI aL vL] H := by rw [hHe]; exact hP
  have hS : va_S A s.heap H locs := by rw [hHe, hLe]; exact va_S.rf
  unfold fX0_setWidth at hf
  refine lv_iload_n hx hb dX0_setWidth_0 rfl (lv_at hl 1 rfl) ?_
  refine lv_bipush (v := 10) hx hb dX0_setWidth_1 (by decide) ?_
  refine lv_icmp_lt (tgt := 12) hx hb dX0_setWidth_3 (by decide) (fun c1 => ?_) (fun c1 => ?_)
  · have hf := oif_t c1 hf
    refine lv_ldc (v := (-1000001)) hx hb hown hc55 dX0_setWidth_12 ?_
    obtain rfl := Option.some.inj hf
    exact W.iret (v := (-1000001)) hx hb hr (fun t ht hW => ⟨⟨(-1000001), (), rfl, rfl, by rw [ht]; exact hP, hD⟩, hS.F ht⟩) hS.2.2 dX0_setWidth_14
  · have hf := oif_f c1 hf
    refine lv_iload_n hx hb dX0_setWidth_6 rfl (lv_at hl 1 rfl) ?_
    refine lv_bipush (v := 99) hx hb dX0_setWidth_7 (by decide) ?_
    refine lv_icmp_le (tgt := 15) hx hb dX0_setWidth_9 (by decide) (fun c2 => ?_) (fun c2 => ?_)
    · have hf := oif_t c2 hf
      refine lv_aload_n hx hb dX0_setWidth_15 rfl (lv_at hl 0 rfl) ?_
      refine lv_iload_n hx hb dX0_setWidth_16 rfl (lv_at hl 1 rfl) ?_
      obtain ⟨y3, hy3, hf⟩ := obind hf
      refine cg_i (ws := [k0_0 aL vL, k0_1 cI aL vL, k0_2 cI aL vL, k0_3 cI aL vL, k0_4 cI aL vL]) (wc := [k0_0 aL vL, k0_1 cI aL vL, k0_2 cI aL vL, k0_3 cI aL vL, k0_4 cI aL vL]) (wr := []) (w1 := [k0_0 aL vL, k0_1 cI aL vL, k0_2 cI aL vL, k0_3 cI aL vL, k0_4 cI aL vL]) (wo := [k0_0 aL vL, k0_1 cI aL vL, k0_2 cI aL vL, k0_3 cI aL vL, k0_4 cI aL vL]) hP hD hS hA (va_runV (As := [.int i1]) (rest := []) ⟨hx, hb, hml, hown, hts⟩ (mX0_hasStopBeyond l dC dI cI cJ aL H.size vL i1 y3 hy3) (cwV 1 hts gX0_setWidth_X0_hasStopBeyond rfl rfl rfl (by decide +kernel) ⟨Nat.le_of_ble_eq_true rfl, Nat.le_of_ble_eq_true rfl⟩) ⟨cFB, va_recv hK hP (ci := 0) (q0 := 0) rfl rfl, cPre hK hN hS (va_free (wc := [k0_0 aL vL, k0_1 cI aL vL, k0_2 cI aL vL, k0_3 cI aL vL, k0_4 cI aL vL]) hD hS hA [0, 1, 2, 3, 4] rfl) (hP.sub [0, 1, 2, 3, 4] rfl) (hD.sub [0, 1, 2, 3, 4] rfl rfl)⟩ rfl rfl hl.1 rfl (lv_room (Nat.le_of_ble_eq_true rfl)) dX0_setWidth_17 ⟨Nat.le_of_ble_eq_true rfl, Nat.le_of_ble_eq_true rfl⟩) [0, 1, 2, 3, 4] [] [0, 1, 2, 3, 4] rfl rfl rfl (by decide +kernel) rfl rfl (fun H locs hP hD hS => ?_)
      refine lv_if_eq (tgt := 26) hx hb dX0_setWidth_20 (by decide) (fun c4 => ?_) (fun c4 => ?_)
      · have hf := oif_t c4 hf
        refine lv_aload_n hx hb dX0_setWidth_26 rfl (lv_at hl 0 rfl) ?_
        refine va_get (D := (dC, dI)) (ci := 0) (v := .int (p0_width vL)) (C := RX0) (T := TX0) (N := 6) hx hb hts hiX0 hown hK hP 0 rfl rfl 0 (by decide) hgX0_9 (fun _ h9 => h9) rfl dX0_setWidth_27 ?_
        obtain ⟨z5, ez5, hf⟩ := elet_out hf
        refine lvn_i ez5 ?_
        refine lv_istore_n (lv' := [(2, .int z5), (0, .ref (aL 0)), (1, .int i1)]) hx hb dX0_setWidth_30 rfl hl (by decide) rfl (fun ls hl => ?_)
        refine lv_aload_n hx hb dX0_setWidth_31 rfl (lv_at hl 1 rfl) ?_
        refine lv_iload_n hx hb dX0_setWidth_32 rfl (lv_at hl 2 rfl) ?_
        obtain ⟨b6, eb6, hf⟩ := elet_out hf
        refine va_put (D := (dC, dI)) (ci := 0) (v := .int i1) (ty := .int) (C := RX0) (T := TX0) (N := 6) hx hb hts hiX0 tyX0 tyX0_ok nmX0 hown hK hP hD hS 0 rfl rfl 0 (by decide) hgX0_9 (fun _ h9 => h9) rfl (by decide +kernel) rfl rfl (Nat.le_of_ble_eq_true rfl) dX0_setWidth_33 (fun H locs hP hD hS => ?_)
        have hP : va_P (dC, dI) vwCl [k0_0 aL b6, k0_1 cI aL b6, k0_2 cI aL b6, k0_3 cI aL b6, k0_4 cI aL b6] H := by rw [eb6]; exact hP
        have hD : va_D A [k0_0 aL b6, k0_1 cI aL b6, k0_2 cI aL b6, k0_3 cI aL b6, k0_4 cI aL b6] := by rw [eb6]; exact hD
        refine lv_iload_n hx hb dX0_setWidth_36 rfl (lv_at hl 0 rfl) ?_
        obtain rfl := Option.some.inj hf
        exact W.iret (v := z5) hx hb hr (fun t ht hW => ⟨⟨z5, (), rfl, rfl, by rw [ht]; exact hP, hD⟩, hS.F ht⟩) hS.2.2 dX0_setWidth_37
      · have hf := oif_f c4 hf
        refine lv_ldc (v := (-1000002)) hx hb hown hc60 dX0_setWidth_23 ?_
        obtain rfl := Option.some.inj hf
        exact W.iret (v := (-1000002)) hx hb hr (fun t ht hW => ⟨⟨(-1000002), (), rfl, rfl, by rw [ht]; exact hP, hD⟩, hS.F ht⟩) hS.2.2 dX0_setWidth_25
    · have hf := oif_f c2 hf
      refine lv_ldc (v := (-1000001)) hx hb hown hc55 dX0_setWidth_12 ?_
      obtain rfl := Option.some.inj hf
      exact W.iret (v := (-1000001)) hx hb hr (fun t ht hW => ⟨⟨(-1000001), (), rfl, rfl, by rw [ht]; exact hP, hD⟩, hS.F ht⟩) hS.2.2 dX0_setWidth_14
def fX0_addPlate (vL : BX0) : Option (Int32 × BX0) :=
  if (p0_plates vL) < (4 : Int32) then (elet (p0_plates vL) (fun z2 => if inB z2 4 = true then (elet (s0_loads vL (upd (p0_loads vL) (z2).toNatClampNeg 0)) (fun b4 => if inB ((2 : Int32) * z2) 8 = true then (elet (s0_stops b4 (upd (p0_stops b4) (((2 : Int32) * z2)).toNatClampNeg (-1))) (fun b6 => if inB (((2 : Int32) * z2) + (1 : Int32)) 8 = true then (elet (s0_stops b6 (upd (p0_stops b6) ((((2 : Int32) * z2) + (1 : Int32))).toNatClampNeg (-1))) (fun b8 => (fX0_putNewSpring b8 (z2 + (1 : Int32))).bind (fun y9 => elet (s0_plates y9 ((p0_plates y9) + (1 : Int32))) (fun b10 => some (z2, b10))))) else none)) else none)) else none)) else (some ((-1000003), vL))
set_option maxHeartbeats 8000000 in
set_option maxRecDepth 100000 in
theorem mX0_addPlate (l : Launch) (dC : Nat → ClassId) (dI : Nat → Nat → Nat) (cI cJ : ClassId) (aL : Nat → Nat) (sz : Nat) (vL : BX0) (y : (Int32 × BX0)) (hf : fX0_addPlate vL = some y) : Met l yX0_addPlate wsX0_addPlate ({ frames := 1, cells := 0, slots := 0, locals := 21 }) (cPc dC dI cI cJ [.ref (aL 0)] [k0_0 aL vL, k0_1 cI aL vL, k0_2 cI aL vL, k0_3 cI aL vL, k0_4 cI aL vL] sz) (va_Qi (fun r (_ : Unit) => r = y.1) (fun _ t => cB dC dI (va_A [k0_0 aL vL, k0_1 cI aL vL, k0_2 cI aL vL, k0_3 cI aL vL, k0_4 cI aL vL] sz) [k0_0 aL y.2, k0_1 cI aL y.2, k0_2 cI aL y.2, k0_3 cI aL y.2, k0_4 cI aL y.2] t) (va_A [k0_0 aL vL, k0_1 cI aL vL, k0_2 cI aL vL, k0_3 cI aL vL, k0_4 cI aL vL] sz)) 0 0 (va_A [k0_0 aL vL, k0_1 cI aL vL, k0_2 cI aL vL, k0_3 cI aL vL, k0_4 cI aL vL] sz) := by
  refine Met.ofW (cc := cX0_addPlate) (maxL := 2) (ret := (some .int)) (by decide) rfl ?_
  intro p e s m args below meth c s₁ B hml hv
  obtain ⟨rfl, hsz, hP, hK, hD0, hN⟩ := hv
  have hx := B.exec
  have hb := B.bytes
  have hr := B.returns
  have hts := atoms_spec (ws := wsX0_addPlate) B.pre
  have hown : s.vm.findClass RX0 = some m.cls := findClass_of_methodNamed B.named
  have hlocks := B.notSynchronized
  subst hsz
  have hD := hD0.self (sz := s.heap.size)
  generalize hAe : va_A [k0_0 aL vL, k0_1 cI aL vL, k0_2 cI aL vL, k0_3 cI aL vL, k0_4 cI aL vL] s.heap.size = A at hD hN ⊢
  have hA : ∀ q : Nat, s.heap.size ≤ q → A q := fun q h => by rw [← hAe]; exact Or.inr h
  have hP : va_P (dC, dI) vwCl [k0_0 aL vL, k0_1 cI aL vL, k0_2 cI aL vL, k0_3 cI aL vL, k0_4 cI aL vL] s.heap := hP
  have hl := lv_entry ([.ref (aL 0)]) (n := 2) (Nat.le_of_ble_eq_true rfl)
  rw [lg_entry_eq]
  generalize (lg_sl ([.ref (aL 0)]) ++ List.replicate (2 - (lg_sl ([.ref (aL 0)])).length) Slot.unset).toArray = ls at hl ⊢
  have hl : lv_has ls 2 [(0, .ref (aL 0))] := hl
  have hiX0 : ∀ w ∈ u_ws RX0 TX0 6, w ∈ wsX0_addPlate := by decide +kernel
  have hgX0_15 := hts (.fieldLink RX0 15 "SpringPlates$Layout" "plates" "I") (by decide +kernel)
  have hgX0_25 := hts (.fieldLink RX0 25 "SpringPlates$Layout" "loads" "[I") (by decide +kernel)
  have hgX0_28 := hts (.fieldLink RX0 28 "SpringPlates$Layout" "stops" "[I") (by decide +kernel)
  have hc61 := hts (.constant RX0 61 (-1000003)) (by decide +kernel)
  refine nameH (fun H locs hHe hLe => ?_)
  have hP : va_P (dC, dI) vwCl [k0_0 aL vL, k0_1 cI aL vL, k0_2 cI aL vL, k0_3 cI aL vL, k0_4 cI aL vL] H := by rw [hHe]; exact hP
  have hS : va_S A s.heap H locs := by rw [hHe, hLe]; exact va_S.rf
  unfold fX0_addPlate at hf
  refine lv_aload_n hx hb dX0_addPlate_0 rfl (lv_at hl 0 rfl) ?_
  refine va_get (D := (dC, dI)) (ci := 0) (v := .int (p0_plates vL)) (C := RX0) (T := TX0) (N := 6) hx hb hts hiX0 hown hK hP 0 rfl rfl 1 (by decide) hgX0_15 (fun _ h9 => h9) rfl dX0_addPlate_1 ?_
  refine lv_iconst (v := 4) hx hb dX0_addPlate_4 (by decide) ?_
  refine lv_icmp_lt (tgt := 11) hx hb dX0_addPlate_5 (by decide) (fun c1 => ?_) (fun c1 => ?_)
  · have hf := oif_t c1 hf
    refine lv_aload_n hx hb dX0_addPlate_11 rfl (lv_at hl 0 rfl) ?_
    refine va_get (D := (dC, dI)) (ci := 0) (v := .int (p0_plates vL)) (C := RX0) (T := TX0) (N := 6) hx hb hts hiX0 hown hK hP 0 rfl rfl 1 (by decide) hgX0_15 (fun _ h9 => h9) rfl dX0_addPlate_12 ?_
    obtain ⟨z2, ez2, hf⟩ := elet_out hf
    refine lvn_i ez2 ?_
    refine lv_istore_n (lv' := [(1, .int z2), (0, .ref (aL 0))]) hx hb dX0_addPlate_15 rfl hl (by decide) rfl (fun ls hl => ?_)
    refine lv_aload_n hx hb dX0_addPlate_16 rfl (lv_at hl 1 rfl) ?_
    refine va_get (D := (dC, dI)) (ci := 0) (v := .ref (aL 3)) (C := RX0) (T := TX0) (N := 6) hx hb hts hiX0 hown hK hP 0 rfl rfl 4 (by decide) hgX0_25 (fun _ h9 => h9) rfl dX0_addPlate_17 ?_
    refine lv_iload_n hx hb dX0_addPlate_20 rfl (lv_at hl 0 rfl) ?_
    refine lv_iconst (v := 0) hx hb dX0_addPlate_21 (by decide) ?_
    obtain ⟨hi3, hf⟩ := oinb rfl hf
    obtain ⟨b4, eb4, hf⟩ := elet_out hf
    refine va_iast hx hb hK hP hD hS 3 0 rfl rfl hi3 dX0_addPlate_22 (fun H locs hP hD hS => ?_)
    have hP : va_P (dC, dI) vwCl [k0_0 aL b4, k0_1 cI aL b4, k0_2 cI aL b4, k0_3 cI aL b4, k0_4 cI aL b4] H := by rw [eb4]; exact hP
    have hD : va_D A [k0_0 aL b4, k0_1 cI aL b4, k0_2 cI aL b4, k0_3 cI aL b4, k0_4 cI aL b4] := by rw [eb4]; exact hD
    refine lv_aload_n hx hb dX0_addPlate_23 rfl (lv_at hl 1 rfl) ?_
    refine va_get (D := (dC, dI)) (ci := 0) (v := .ref (aL 4)) (C := RX0) (T := TX0) (N := 6) hx hb hts hiX0 hown hK hP 0 rfl rfl 5 (by decide) hgX0_28 (fun _ h9 => h9) rfl dX0_addPlate_24 ?_
    refine lv_iconst (v := 2) hx hb dX0_addPlate_27 (by decide) ?_
    refine lv_iload_n hx hb dX0_addPlate_28 rfl (lv_at hl 0 rfl) ?_
    refine lv_imul hx hb dX0_addPlate_29 ?_
    refine lv_iconst (v := (-1)) hx hb dX0_addPlate_30 (by decide) ?_
    obtain ⟨hi5, hf⟩ := oinb rfl hf
    obtain ⟨b6, eb6, hf⟩ := elet_out hf
    refine va_iast hx hb hK hP hD hS 4 0 rfl rfl hi5 dX0_addPlate_31 (fun H locs hP hD hS => ?_)
    have hP : va_P (dC, dI) vwCl [k0_0 aL b6, k0_1 cI aL b6, k0_2 cI aL b6, k0_3 cI aL b6, k0_4 cI aL b6] H := by rw [eb6]; exact hP
    have hD : va_D A [k0_0 aL b6, k0_1 cI aL b6, k0_2 cI aL b6, k0_3 cI aL b6, k0_4 cI aL b6] := by rw [eb6]; exact hD
    refine lv_aload_n hx hb dX0_addPlate_32 rfl (lv_at hl 1 rfl) ?_
    refine va_get (D := (dC, dI)) (ci := 0) (v := .ref (aL 4)) (C := RX0) (T := TX0) (N := 6) hx hb hts hiX0 hown hK hP 0 rfl rfl 5 (by decide) hgX0_28 (fun _ h9 => h9) rfl dX0_addPlate_33 ?_
    refine lv_iconst (v := 2) hx hb dX0_addPlate_36 (by decide) ?_
    refine lv_iload_n hx hb dX0_addPlate_37 rfl (lv_at hl 0 rfl) ?_
    refine lv_imul hx hb dX0_addPlate_38 ?_
    refine lv_iconst (v := 1) hx hb dX0_addPlate_39 (by decide) ?_
    refine lv_iadd hx hb dX0_addPlate_40 ?_
    refine lv_iconst (v := (-1)) hx hb dX0_addPlate_41 (by decide) ?_
    obtain ⟨hi7, hf⟩ := oinb rfl hf
    obtain ⟨b8, eb8, hf⟩ := elet_out hf
    refine va_iast hx hb hK hP hD hS 4 0 rfl rfl hi7 dX0_addPlate_42 (fun H locs hP hD hS => ?_)
    have hP : va_P (dC, dI) vwCl [k0_0 aL b8, k0_1 cI aL b8, k0_2 cI aL b8, k0_3 cI aL b8, k0_4 cI aL b8] H := by rw [eb8]; exact hP
    have hD : va_D A [k0_0 aL b8, k0_1 cI aL b8, k0_2 cI aL b8, k0_3 cI aL b8, k0_4 cI aL b8] := by rw [eb8]; exact hD
    refine lv_aload_n hx hb dX0_addPlate_43 rfl (lv_at hl 1 rfl) ?_
    refine lv_iload_n hx hb dX0_addPlate_44 rfl (lv_at hl 0 rfl) ?_
    refine lv_iconst (v := 1) hx hb dX0_addPlate_45 (by decide) ?_
    refine lv_iadd hx hb dX0_addPlate_46 ?_
    obtain ⟨y9, hy9, hf⟩ := obind hf
    refine cg_v (ws := [k0_0 aL b8, k0_1 cI aL b8, k0_2 cI aL b8, k0_3 cI aL b8, k0_4 cI aL b8]) (wc := [k0_0 aL b8, k0_1 cI aL b8, k0_2 cI aL b8, k0_3 cI aL b8, k0_4 cI aL b8]) (wr := []) (w1 := [k0_0 aL y9, k0_1 cI aL y9, k0_2 cI aL y9, k0_3 cI aL y9, k0_4 cI aL y9]) (wo := [k0_0 aL y9, k0_1 cI aL y9, k0_2 cI aL y9, k0_3 cI aL y9, k0_4 cI aL y9]) hP hD hS hA (va_runV (As := [.int (z2 + (1 : Int32))]) (rest := []) ⟨hx, hb, hml, hown, hts⟩ (mX0_putNewSpring l dC dI cI cJ aL H.size b8 (z2 + (1 : Int32)) y9 hy9) (cwV 1 hts gX0_addPlate_X0_putNewSpring rfl rfl rfl (by decide +kernel) ⟨Nat.le_of_ble_eq_true rfl, Nat.le_of_ble_eq_true rfl⟩) ⟨cFB, va_recv hK hP (ci := 0) (q0 := 0) rfl rfl, cPre hK hN hS (va_free (wc := [k0_0 aL b8, k0_1 cI aL b8, k0_2 cI aL b8, k0_3 cI aL b8, k0_4 cI aL b8]) hD hS hA [0, 1, 2, 3, 4] rfl) (hP.sub [0, 1, 2, 3, 4] rfl) (hD.sub [0, 1, 2, 3, 4] rfl rfl)⟩ rfl rfl hl.1 rfl (lv_room (Nat.le_of_ble_eq_true rfl)) dX0_addPlate_47 ⟨Nat.le_of_ble_eq_true rfl, Nat.le_of_ble_eq_true rfl⟩) [0, 1, 2, 3, 4] [] [0, 1, 2, 3, 4] rfl rfl rfl (by decide +kernel) rfl rfl (fun H locs hP hD hS => ?_)
    refine lv_aload_n hx hb dX0_addPlate_50 rfl (lv_at hl 1 rfl) ?_
    refine lv_dup hx hb dX0_addPlate_51 rfl ?_
    refine va_get (D := (dC, dI)) (ci := 0) (v := .int (p0_plates y9)) (C := RX0) (T := TX0) (N := 6) hx hb hts hiX0 hown hK hP 0 rfl rfl 1 (by decide) hgX0_15 (fun _ h9 => h9) rfl dX0_addPlate_52 ?_
    refine lv_iconst (v := 1) hx hb dX0_addPlate_55 (by decide) ?_
    refine lv_iadd hx hb dX0_addPlate_56 ?_
    obtain ⟨b10, eb10, hf⟩ := elet_out hf
    refine va_put (D := (dC, dI)) (ci := 0) (v := .int ((p0_plates y9) + (1 : Int32))) (ty := .int) (C := RX0) (T := TX0) (N := 6) hx hb hts hiX0 tyX0 tyX0_ok nmX0 hown hK hP hD hS 0 rfl rfl 1 (by decide) hgX0_15 (fun _ h9 => h9) rfl (by decide +kernel) rfl rfl (Nat.le_of_ble_eq_true rfl) dX0_addPlate_57 (fun H locs hP hD hS => ?_)
    have hP : va_P (dC, dI) vwCl [k0_0 aL b10, k0_1 cI aL b10, k0_2 cI aL b10, k0_3 cI aL b10, k0_4 cI aL b10] H := by rw [eb10]; exact hP
    have hD : va_D A [k0_0 aL b10, k0_1 cI aL b10, k0_2 cI aL b10, k0_3 cI aL b10, k0_4 cI aL b10] := by rw [eb10]; exact hD
    refine lv_iload_n hx hb dX0_addPlate_60 rfl (lv_at hl 0 rfl) ?_
    obtain rfl := Option.some.inj hf
    exact W.iret (v := z2) hx hb hr (fun t ht hW => ⟨⟨z2, (), rfl, rfl, by rw [ht]; exact hP, hD⟩, hS.F ht⟩) hS.2.2 dX0_addPlate_61
  · have hf := oif_f c1 hf
    refine lv_ldc (v := (-1000003)) hx hb hown hc61 dX0_addPlate_8 ?_
    obtain rfl := Option.some.inj hf
    exact W.iret (v := (-1000003)) hx hb hr (fun t ht hW => ⟨⟨(-1000003), (), rfl, rfl, by rw [ht]; exact hP, hD⟩, hS.F ht⟩) hS.2.2 dX0_addPlate_10
def fX0_removePlate_13_b (k13 : BX0 → Int32 → Option (Int32 × BX0)) (vL : BX0) (x2 : Int32) : Option (Int32 × BX0) :=
  if (p0_plates vL) ≤ (x2 + (1 : Int32)) then (elet (s0_plates vL ((p0_plates vL) - (1 : Int32))) (fun b2 => some ((p0_plates b2), b2))) else ((fX0_copyPlateS vL (x2 + (1 : Int32)) x2).bind (fun y3 => if inB (x2 + (2 : Int32)) 5 = true then (if inB (x2 + (1 : Int32)) 5 = true then (elet (s0_strengths y3 (upd (p0_strengths y3) ((x2 + (1 : Int32))).toNatClampNeg ((p0_strengths y3) ((x2 + (2 : Int32))).toNatClampNeg))) (fun b6 => if inB (x2 + (2 : Int32)) 5 = true then (if inB (x2 + (1 : Int32)) 5 = true then (elet (s0_lengths b6 (upd (p0_lengths b6) ((x2 + (1 : Int32))).toNatClampNeg ((p0_lengths b6) ((x2 + (2 : Int32))).toNatClampNeg))) (fun b9 => elet (x2 + 1) (fun z10 => k13 b9 z10))) else none) else none)) else none) else none))
def fX0_removePlate_13 : Nat → BX0 → Int32 → Option (Int32 × BX0)
  | 0 => fun _ _ => none
  | n + 1 => fX0_removePlate_13_b (fX0_removePlate_13 n)
def fX0_removePlate (vL : BX0) (i1 : Int32) : Option (Int32 × BX0) :=
  (fX0_hasPlate vL i1).bind (fun y11 => if y11 = 0 then (some ((-1000001), vL)) else (fX0_removePlate_13 FU vL i1))
set_option maxHeartbeats 8000000 in
set_option maxRecDepth 100000 in
theorem mX0_removePlate (l : Launch) (dC : Nat → ClassId) (dI : Nat → Nat → Nat) (cI cJ : ClassId) (aL : Nat → Nat) (sz : Nat) (vL : BX0) (i1 : Int32) (y : (Int32 × BX0)) (hf : fX0_removePlate vL i1 = some y) : Met l yX0_removePlate wsX0_removePlate ({ frames := 1, cells := 0, slots := 0, locals := 23 }) (cPc dC dI cI cJ [.ref (aL 0), .int i1] [k0_0 aL vL, k0_1 cI aL vL, k0_2 cI aL vL, k0_3 cI aL vL, k0_4 cI aL vL] sz) (va_Qi (fun r (_ : Unit) => r = y.1) (fun _ t => cB dC dI (va_A [k0_0 aL vL, k0_1 cI aL vL, k0_2 cI aL vL, k0_3 cI aL vL, k0_4 cI aL vL] sz) [k0_0 aL y.2, k0_1 cI aL y.2, k0_2 cI aL y.2, k0_3 cI aL y.2, k0_4 cI aL y.2] t) (va_A [k0_0 aL vL, k0_1 cI aL vL, k0_2 cI aL vL, k0_3 cI aL vL, k0_4 cI aL vL] sz)) 0 0 (va_A [k0_0 aL vL, k0_1 cI aL vL, k0_2 cI aL vL, k0_3 cI aL vL, k0_4 cI aL vL] sz) := by
  refine Met.ofW (cc := cX0_removePlate) (maxL := 3) (ret := (some .int)) (by decide) rfl ?_
  intro p e s m args below meth c s₁ B hml hv
  obtain ⟨rfl, hsz, hP, hK, hD0, hN⟩ := hv
  have hx := B.exec
  have hb := B.bytes
  have hr := B.returns
  have hts := atoms_spec (ws := wsX0_removePlate) B.pre
  have hown : s.vm.findClass RX0 = some m.cls := findClass_of_methodNamed B.named
  have hlocks := B.notSynchronized
  subst hsz
  have hD := hD0.self (sz := s.heap.size)
  generalize hAe : va_A [k0_0 aL vL, k0_1 cI aL vL, k0_2 cI aL vL, k0_3 cI aL vL, k0_4 cI aL vL] s.heap.size = A at hD hN ⊢
  have hA : ∀ q : Nat, s.heap.size ≤ q → A q := fun q h => by rw [← hAe]; exact Or.inr h
  have hP : va_P (dC, dI) vwCl [k0_0 aL vL, k0_1 cI aL vL, k0_2 cI aL vL, k0_3 cI aL vL, k0_4 cI aL vL] s.heap := hP
  have hl := lv_entry ([.ref (aL 0), .int i1]) (n := 3) (Nat.le_of_ble_eq_true rfl)
  rw [lg_entry_eq]
  generalize (lg_sl ([.ref (aL 0), .int i1]) ++ List.replicate (3 - (lg_sl ([.ref (aL 0), .int i1])).length) Slot.unset).toArray = ls at hl ⊢
  have hl : lv_has ls 3 [(0, .ref (aL 0)), (1, .int i1)] := hl
  have hiX0 : ∀ w ∈ u_ws RX0 TX0 6, w ∈ wsX0_removePlate := by decide +kernel
  have hgX0_15 := hts (.fieldLink RX0 15 "SpringPlates$Layout" "plates" "I") (by decide +kernel)
  have hgX0_18 := hts (.fieldLink RX0 18 "SpringPlates$Layout" "strengths" "[I") (by decide +kernel)
  have hgX0_22 := hts (.fieldLink RX0 22 "SpringPlates$Layout" "lengths" "[I") (by decide +kernel)
  have hc55 := hts (.constant RX0 55 (-1000001)) (by decide +kernel)
  refine nameH (fun H locs hHe hLe => ?_)
  have hP : va_P (dC, dI) vwCl [k0_0 aL vL, k0_1 cI aL vL, k0_2 cI aL vL, k0_3 cI aL vL, k0_4 cI aL vL] H := by rw [hHe]; exact hP
  have hS : va_S A s.heap H locs := by rw [hHe, hLe]; exact va_S.rf
  refine withW (fun WW hWW => ?_)
  have L13 : ∀ (n : Nat) (vL : BX0) (x2 : Int32) (H : Heap) (locs : List Loc) (ls : Array Slot), va_P (dC, dI) vwCl [k0_0 aL vL, k0_1 cI aL vL, k0_2 cI aL vL, k0_3 cI aL vL, k0_4 cI aL vL] H → va_D A [k0_0 aL vL, k0_1 cI aL vL, k0_2 cI aL vL, k0_3 cI aL vL, k0_4 cI aL vL] → va_S A s.heap H locs → lv_has ls 3 [(0, .ref (aL 0)), (2, .int x2)] → fX0_removePlate_13 n vL x2 = some y → WW H locs 0 0 ls 13 [] := by
    intro n
    induction n with
    | zero =>
      intro vL x2 H locs ls hP hD hS hl hf
      exact onone hf
    | succ n ih =>
      intro vL x2 H locs ls hP hD hS hl hf
      have hf : fX0_removePlate_13_b (fX0_removePlate_13 n) vL x2 = some y := hf
      generalize fX0_removePlate_13 n = k13 at hf ih
      have hk13 := ih
      clear ih
      unfold fX0_removePlate_13_b at hf
      refine (hWW _ _ _ _ _ _ _).2 ?_
      refine lv_iload_n hx hb dX0_removePlate_13 rfl (lv_at hl 1 rfl) ?_
      refine lv_iconst (v := 1) hx hb dX0_removePlate_14 (by decide) ?_
      refine lv_iadd hx hb dX0_removePlate_15 ?_
      refine lv_aload_n hx hb dX0_removePlate_16 rfl (lv_at hl 0 rfl) ?_
      refine va_get (D := (dC, dI)) (ci := 0) (v := .int (p0_plates vL)) (C := RX0) (T := TX0) (N := 6) hx hb hts hiX0 hown hK hP 0 rfl rfl 1 (by decide) hgX0_15 (fun _ h9 => h9) rfl dX0_removePlate_17 ?_
      refine lv_icmp_ge (tgt := 70) hx hb dX0_removePlate_20 (by decide) (fun c1 => ?_) (fun c1 => ?_)
      · have hf := oif_t c1 hf
        refine lv_aload_n hx hb dX0_removePlate_70 rfl (lv_at hl 0 rfl) ?_
        refine lv_dup hx hb dX0_removePlate_71 rfl ?_
        refine va_get (D := (dC, dI)) (ci := 0) (v := .int (p0_plates vL)) (C := RX0) (T := TX0) (N := 6) hx hb hts hiX0 hown hK hP 0 rfl rfl 1 (by decide) hgX0_15 (fun _ h9 => h9) rfl dX0_removePlate_72 ?_
        refine lv_iconst (v := 1) hx hb dX0_removePlate_75 (by decide) ?_
        refine lv_isub hx hb dX0_removePlate_76 ?_
        obtain ⟨b2, eb2, hf⟩ := elet_out hf
        refine va_put (D := (dC, dI)) (ci := 0) (v := .int ((p0_plates vL) - (1 : Int32))) (ty := .int) (C := RX0) (T := TX0) (N := 6) hx hb hts hiX0 tyX0 tyX0_ok nmX0 hown hK hP hD hS 0 rfl rfl 1 (by decide) hgX0_15 (fun _ h9 => h9) rfl (by decide +kernel) rfl rfl (Nat.le_of_ble_eq_true rfl) dX0_removePlate_77 (fun H locs hP hD hS => ?_)
        have hP : va_P (dC, dI) vwCl [k0_0 aL b2, k0_1 cI aL b2, k0_2 cI aL b2, k0_3 cI aL b2, k0_4 cI aL b2] H := by rw [eb2]; exact hP
        have hD : va_D A [k0_0 aL b2, k0_1 cI aL b2, k0_2 cI aL b2, k0_3 cI aL b2, k0_4 cI aL b2] := by rw [eb2]; exact hD
        refine lv_aload_n hx hb dX0_removePlate_80 rfl (lv_at hl 0 rfl) ?_
        refine va_get (D := (dC, dI)) (ci := 0) (v := .int (p0_plates b2)) (C := RX0) (T := TX0) (N := 6) hx hb hts hiX0 hown hK hP 0 rfl rfl 1 (by decide) hgX0_15 (fun _ h9 => h9) rfl dX0_removePlate_81 ?_
        obtain rfl := Option.some.inj hf
        exact W.iret (v := (p0_plates b2)) hx hb hr (fun t ht hW => ⟨⟨(p0_plates b2), (), rfl, rfl, by rw [ht]; exact hP, hD⟩, hS.F ht⟩) hS.2.2 dX0_removePlate_84
      · have hf := oif_f c1 hf
        refine lv_aload_n hx hb dX0_removePlate_23 rfl (lv_at hl 0 rfl) ?_
        refine lv_aload_n hx hb dX0_removePlate_24 rfl (lv_at hl 0 rfl) ?_
        refine lv_iload_n hx hb dX0_removePlate_25 rfl (lv_at hl 1 rfl) ?_
        refine lv_iconst (v := 1) hx hb dX0_removePlate_26 (by decide) ?_
        refine lv_iadd hx hb dX0_removePlate_27 ?_
        refine lv_iload_n hx hb dX0_removePlate_28 rfl (lv_at hl 1 rfl) ?_
        obtain ⟨y3, hy3, hf⟩ := obind hf
        refine cg_v (ws := [k0_0 aL vL, k0_1 cI aL vL, k0_2 cI aL vL, k0_3 cI aL vL, k0_4 cI aL vL]) (wc := [k0_0 aL vL, k0_1 cI aL vL, k0_2 cI aL vL, k0_3 cI aL vL, k0_4 cI aL vL]) (wr := []) (w1 := [k0_0 aL y3, k0_1 cI aL y3, k0_2 cI aL y3, k0_3 cI aL y3, k0_4 cI aL y3]) (wo := [k0_0 aL y3, k0_1 cI aL y3, k0_2 cI aL y3, k0_3 cI aL y3, k0_4 cI aL y3]) hP hD hS hA (va_runV (As := [.ref (aL 0), .int (x2 + (1 : Int32)), .int x2]) (rest := []) ⟨hx, hb, hml, hown, hts⟩ (mX0_copyPlateS l dC dI cI cJ aL H.size vL (x2 + (1 : Int32)) x2 y3 hy3) (cwV 3 hts gX0_removePlate_X0_copyPlate rfl rfl rfl (by decide +kernel) ⟨Nat.le_of_ble_eq_true rfl, Nat.le_of_ble_eq_true rfl⟩) ⟨cFB, va_recv hK hP (ci := 0) (q0 := 0) rfl rfl, cPre hK hN hS (va_free (wc := [k0_0 aL vL, k0_1 cI aL vL, k0_2 cI aL vL, k0_3 cI aL vL, k0_4 cI aL vL]) hD hS hA [0, 1, 2, 3, 4] rfl) (hP.sub [0, 1, 2, 3, 4] rfl) (hD.sub [0, 1, 2, 3, 4] rfl rfl)⟩ rfl rfl hl.1 rfl (lv_room (Nat.le_of_ble_eq_true rfl)) dX0_removePlate_29 ⟨Nat.le_of_ble_eq_true rfl, Nat.le_of_ble_eq_true rfl⟩) [0, 1, 2, 3, 4] [] [0, 1, 2, 3, 4] rfl rfl rfl (by decide +kernel) rfl rfl (fun H locs hP hD hS => ?_)
        refine lv_aload_n hx hb dX0_removePlate_32 rfl (lv_at hl 0 rfl) ?_
        refine va_get (D := (dC, dI)) (ci := 0) (v := .ref (aL 1)) (C := RX0) (T := TX0) (N := 6) hx hb hts hiX0 hown hK hP 0 rfl rfl 2 (by decide) hgX0_18 (fun _ h9 => h9) rfl dX0_removePlate_33 ?_
        refine lv_iload_n hx hb dX0_removePlate_36 rfl (lv_at hl 1 rfl) ?_
        refine lv_iconst (v := 1) hx hb dX0_removePlate_37 (by decide) ?_
        refine lv_iadd hx hb dX0_removePlate_38 ?_
        refine lv_aload_n hx hb dX0_removePlate_39 rfl (lv_at hl 0 rfl) ?_
        refine va_get (D := (dC, dI)) (ci := 0) (v := .ref (aL 1)) (C := RX0) (T := TX0) (N := 6) hx hb hts hiX0 hown hK hP 0 rfl rfl 2 (by decide) hgX0_18 (fun _ h9 => h9) rfl dX0_removePlate_40 ?_
        refine lv_iload_n hx hb dX0_removePlate_43 rfl (lv_at hl 1 rfl) ?_
        refine lv_iconst (v := 2) hx hb dX0_removePlate_44 (by decide) ?_
        refine lv_iadd hx hb dX0_removePlate_45 ?_
        obtain ⟨hi4, hf⟩ := oinb rfl hf
        refine va_iald hx hb hK hP 1 0 rfl rfl hi4 dX0_removePlate_46 ?_
        obtain ⟨hi5, hf⟩ := oinb rfl hf
        obtain ⟨b6, eb6, hf⟩ := elet_out hf
        refine va_iast hx hb hK hP hD hS 1 0 rfl rfl hi5 dX0_removePlate_47 (fun H locs hP hD hS => ?_)
        have hP : va_P (dC, dI) vwCl [k0_0 aL b6, k0_1 cI aL b6, k0_2 cI aL b6, k0_3 cI aL b6, k0_4 cI aL b6] H := by rw [eb6]; exact hP
        have hD : va_D A [k0_0 aL b6, k0_1 cI aL b6, k0_2 cI aL b6, k0_3 cI aL b6, k0_4 cI aL b6] := by rw [eb6]; exact hD
        refine lv_aload_n hx hb dX0_removePlate_48 rfl (lv_at hl 0 rfl) ?_
        refine va_get (D := (dC, dI)) (ci := 0) (v := .ref (aL 2)) (C := RX0) (T := TX0) (N := 6) hx hb hts hiX0 hown hK hP 0 rfl rfl 3 (by decide) hgX0_22 (fun _ h9 => h9) rfl dX0_removePlate_49 ?_
        refine lv_iload_n hx hb dX0_removePlate_52 rfl (lv_at hl 1 rfl) ?_
        refine lv_iconst (v := 1) hx hb dX0_removePlate_53 (by decide) ?_
        refine lv_iadd hx hb dX0_removePlate_54 ?_
        refine lv_aload_n hx hb dX0_removePlate_55 rfl (lv_at hl 0 rfl) ?_
        refine va_get (D := (dC, dI)) (ci := 0) (v := .ref (aL 2)) (C := RX0) (T := TX0) (N := 6) hx hb hts hiX0 hown hK hP 0 rfl rfl 3 (by decide) hgX0_22 (fun _ h9 => h9) rfl dX0_removePlate_56 ?_
        refine lv_iload_n hx hb dX0_removePlate_59 rfl (lv_at hl 1 rfl) ?_
        refine lv_iconst (v := 2) hx hb dX0_removePlate_60 (by decide) ?_
        refine lv_iadd hx hb dX0_removePlate_61 ?_
        obtain ⟨hi7, hf⟩ := oinb rfl hf
        refine va_iald hx hb hK hP 2 0 rfl rfl hi7 dX0_removePlate_62 ?_
        obtain ⟨hi8, hf⟩ := oinb rfl hf
        obtain ⟨b9, eb9, hf⟩ := elet_out hf
        refine va_iast hx hb hK hP hD hS 2 0 rfl rfl hi8 dX0_removePlate_63 (fun H locs hP hD hS => ?_)
        have hP : va_P (dC, dI) vwCl [k0_0 aL b9, k0_1 cI aL b9, k0_2 cI aL b9, k0_3 cI aL b9, k0_4 cI aL b9] H := by rw [eb9]; exact hP
        have hD : va_D A [k0_0 aL b9, k0_1 cI aL b9, k0_2 cI aL b9, k0_3 cI aL b9, k0_4 cI aL b9] := by rw [eb9]; exact hD
        obtain ⟨z10, ez10, hf⟩ := elet_out hf
        refine lv_iinc (v := z10) (lv' := [(2, .int z10), (0, .ref (aL 0))]) hx hb dX0_removePlate_64 hl (k := 1) rfl (by rw [ez10]; rfl) (by decide) rfl (fun ls hl => ?_)
        refine lv_goto (tgt := 13) hx hb dX0_removePlate_67 (by decide) ?_
        exact (hWW _ _ _ _ _ _ _).1 (hk13 b9 z10 H locs ls hP hD hS (lv_sub hl [1, 0] rfl) hf)
  refine (hWW _ _ _ _ _ _ _).2 ?_
  unfold fX0_removePlate at hf
  refine lv_aload_n hx hb dX0_removePlate_0 rfl (lv_at hl 0 rfl) ?_
  refine lv_iload_n hx hb dX0_removePlate_1 rfl (lv_at hl 1 rfl) ?_
  obtain ⟨y11, hy11, hf⟩ := obind hf
  refine cg_i (ws := [k0_0 aL vL, k0_1 cI aL vL, k0_2 cI aL vL, k0_3 cI aL vL, k0_4 cI aL vL]) (wc := [k0_0 aL vL, k0_1 cI aL vL, k0_2 cI aL vL, k0_3 cI aL vL, k0_4 cI aL vL]) (wr := []) (w1 := [k0_0 aL vL, k0_1 cI aL vL, k0_2 cI aL vL, k0_3 cI aL vL, k0_4 cI aL vL]) (wo := [k0_0 aL vL, k0_1 cI aL vL, k0_2 cI aL vL, k0_3 cI aL vL, k0_4 cI aL vL]) hP hD hS hA (va_runV (As := [.int i1]) (rest := []) ⟨hx, hb, hml, hown, hts⟩ (mX0_hasPlate l dC dI cI cJ aL H.size vL i1 y11 hy11) (cwV 1 hts gX0_removePlate_X0_hasPlate rfl rfl rfl (by decide +kernel) ⟨Nat.le_of_ble_eq_true rfl, Nat.le_of_ble_eq_true rfl⟩) ⟨cFB, va_recv hK hP (ci := 0) (q0 := 0) rfl rfl, cPre hK hN hS (va_free (wc := [k0_0 aL vL, k0_1 cI aL vL, k0_2 cI aL vL, k0_3 cI aL vL, k0_4 cI aL vL]) hD hS hA [0, 1, 2, 3, 4] rfl) (hP.sub [0, 1, 2, 3, 4] rfl) (hD.sub [0, 1, 2, 3, 4] rfl rfl)⟩ rfl rfl hl.1 rfl (lv_room (Nat.le_of_ble_eq_true rfl)) dX0_removePlate_2 ⟨Nat.le_of_ble_eq_true rfl, Nat.le_of_ble_eq_true rfl⟩) [0, 1, 2, 3, 4] [] [0, 1, 2, 3, 4] rfl rfl rfl (by decide +kernel) rfl rfl (fun H locs hP hD hS => ?_)
  refine lv_if_ne (tgt := 11) hx hb dX0_removePlate_5 (by decide) (fun c12 => ?_) (fun c12 => ?_)
  · have hf := oif_f c12 hf
    refine lv_iload_n hx hb dX0_removePlate_11 rfl (lv_at hl 1 rfl) ?_
    refine lv_istore_n (lv' := [(2, .int i1), (0, .ref (aL 0)), (1, .int i1)]) hx hb dX0_removePlate_12 rfl hl (by decide) rfl (fun ls hl => ?_)
    exact (hWW _ _ _ _ _ _ _).1 (L13 FU vL i1 H locs ls hP hD hS (lv_sub hl [1, 0] rfl) hf)
  · have hf := oif_t c12 hf
    refine lv_ldc (v := (-1000001)) hx hb hown hc55 dX0_removePlate_8 ?_
    obtain rfl := Option.some.inj hf
    exact W.iret (v := (-1000001)) hx hb hr (fun t ht hW => ⟨⟨(-1000001), (), rfl, rfl, by rw [ht]; exact hP, hD⟩, hS.F ht⟩) hS.2.2 dX0_removePlate_10
def fX0_setSpring (vL : BX0) (i1 : Int32) (i2 : Int32) (i3 : Int32) : Option (Int32 × BX0) :=
  (fX0_hasSpring vL i1).bind (fun y1 => if y1 = 0 then (some ((-1000001), vL)) else (if i2 < (1 : Int32) then (some ((-1000001), vL)) else (if (9 : Int32) < i2 then (some ((-1000001), vL)) else (if i3 < 0 then (some ((-1000001), vL)) else (if i3 ≤ (50 : Int32) then (if inB i1 5 = true then (if inB i1 5 = true then (elet (((100 : Int32) * ((p0_strengths vL) (i1).toNatClampNeg)) + ((p0_lengths vL) (i1).toNatClampNeg)) (fun z9 => if inB i1 5 = true then (elet (s0_strengths vL (upd (p0_strengths vL) (i1).toNatClampNeg i2)) (fun b11 => if inB i1 5 = true then (elet (s0_lengths b11 (upd (p0_lengths b11) (i1).toNatClampNeg i3)) (fun b13 => some (z9, b13))) else none)) else none)) else none) else none) else (some ((-1000001), vL)))))))
set_option maxHeartbeats 8000000 in
set_option maxRecDepth 100000 in
theorem mX0_setSpring (l : Launch) (dC : Nat → ClassId) (dI : Nat → Nat → Nat) (cI cJ : ClassId) (aL : Nat → Nat) (sz : Nat) (vL : BX0) (i1 : Int32) (i2 : Int32) (i3 : Int32) (y : (Int32 × BX0)) (hf : fX0_setSpring vL i1 i2 i3 = some y) : Met l yX0_setSpring wsX0_setSpring ({ frames := 1, cells := 0, slots := 0, locals := 21 }) (cPc dC dI cI cJ [.ref (aL 0), .int i1, .int i2, .int i3] [k0_0 aL vL, k0_1 cI aL vL, k0_2 cI aL vL, k0_3 cI aL vL, k0_4 cI aL vL] sz) (va_Qi (fun r (_ : Unit) => r = y.1) (fun _ t => cB dC dI (va_A [k0_0 aL vL, k0_1 cI aL vL, k0_2 cI aL vL, k0_3 cI aL vL, k0_4 cI aL vL] sz) [k0_0 aL y.2, k0_1 cI aL y.2, k0_2 cI aL y.2, k0_3 cI aL y.2, k0_4 cI aL y.2] t) (va_A [k0_0 aL vL, k0_1 cI aL vL, k0_2 cI aL vL, k0_3 cI aL vL, k0_4 cI aL vL] sz)) 0 0 (va_A [k0_0 aL vL, k0_1 cI aL vL, k0_2 cI aL vL, k0_3 cI aL vL, k0_4 cI aL vL] sz) := by
  refine Met.ofW (cc := cX0_setSpring) (maxL := 5) (ret := (some .int)) (by decide) rfl ?_
  intro p e s m args below meth c s₁ B hml hv
  obtain ⟨rfl, hsz, hP, hK, hD0, hN⟩ := hv
  have hx := B.exec
  have hb := B.bytes
  have hr := B.returns
  have hts := atoms_spec (ws := wsX0_setSpring) B.pre
  have hown : s.vm.findClass RX0 = some m.cls := findClass_of_methodNamed B.named
  have hlocks := B.notSynchronized
  subst hsz
  have hD := hD0.self (sz := s.heap.size)
  generalize hAe : va_A [k0_0 aL vL, k0_1 cI aL vL, k0_2 cI aL vL, k0_3 cI aL vL, k0_4 cI aL vL] s.heap.size = A at hD hN ⊢
  have hA : ∀ q : Nat, s.heap.size ≤ q → A q := fun q h => by rw [← hAe]; exact Or.inr h
  have hP : va_P (dC, dI) vwCl [k0_0 aL vL, k0_1 cI aL vL, k0_2 cI aL vL, k0_3 cI aL vL, k0_4 cI aL vL] s.heap := hP
  have hl := lv_entry ([.ref (aL 0), .int i1, .int i2, .int i3]) (n := 5) (Nat.le_of_ble_eq_true rfl)
  rw [lg_entry_eq]
  generalize (lg_sl ([.ref (aL 0), .int i1, .int i2, .int i3]) ++ List.replicate (5 - (lg_sl ([.ref (aL 0), .int i1, .int i2, .int i3])).length) Slot.unset).toArray = ls at hl ⊢
  have hl : lv_has ls 5 [(0, .ref (aL 0)), (1, .int i1), (2, .int i2), (3, .int i3)] := hl
  have hc55 := hts (.constant RX0 55 (-1000001)) (by decide +kernel)
  have hiX0 : ∀ w ∈ u_ws RX0 TX0 6, w ∈ wsX0_setSpring := by decide +kernel
  have hgX0_18 := hts (.fieldLink RX0 18 "SpringPlates$Layout" "strengths" "[I") (by decide +kernel)
  have hgX0_22 := hts (.fieldLink RX0 22 "SpringPlates$Layout" "lengths" "[I") (by decide +kernel)
  refine nameH (fun H locs hHe hLe => ?_)
  have hP : va_P (dC, dI) vwCl [k0_0 aL vL, k0_1 cI aL vL, k0_2 cI aL vL, k0_3 cI aL vL, k0_4 cI aL vL] H := by rw [hHe]; exact hP
  have hS : va_S A s.heap H locs := by rw [hHe, hLe]; exact va_S.rf
  unfold fX0_setSpring at hf
  refine lv_aload_n hx hb dX0_setSpring_0 rfl (lv_at hl 0 rfl) ?_
  refine lv_iload_n hx hb dX0_setSpring_1 rfl (lv_at hl 1 rfl) ?_
  obtain ⟨y1, hy1, hf⟩ := obind hf
  refine cg_i (ws := [k0_0 aL vL, k0_1 cI aL vL, k0_2 cI aL vL, k0_3 cI aL vL, k0_4 cI aL vL]) (wc := [k0_0 aL vL, k0_1 cI aL vL, k0_2 cI aL vL, k0_3 cI aL vL, k0_4 cI aL vL]) (wr := []) (w1 := [k0_0 aL vL, k0_1 cI aL vL, k0_2 cI aL vL, k0_3 cI aL vL, k0_4 cI aL vL]) (wo := [k0_0 aL vL, k0_1 cI aL vL, k0_2 cI aL vL, k0_3 cI aL vL, k0_4 cI aL vL]) hP hD hS hA (va_runV (As := [.int i1]) (rest := []) ⟨hx, hb, hml, hown, hts⟩ (mX0_hasSpring l dC dI cI cJ aL H.size vL i1 y1 hy1) (cwV 1 hts gX0_setSpring_X0_hasSpring rfl rfl rfl (by decide +kernel) ⟨Nat.le_of_ble_eq_true rfl, Nat.le_of_ble_eq_true rfl⟩) ⟨cFB, va_recv hK hP (ci := 0) (q0 := 0) rfl rfl, cPre hK hN hS (va_free (wc := [k0_0 aL vL, k0_1 cI aL vL, k0_2 cI aL vL, k0_3 cI aL vL, k0_4 cI aL vL]) hD hS hA [0, 1, 2, 3, 4] rfl) (hP.sub [0, 1, 2, 3, 4] rfl) (hD.sub [0, 1, 2, 3, 4] rfl rfl)⟩ rfl rfl hl.1 rfl (lv_room (Nat.le_of_ble_eq_true rfl)) dX0_setSpring_2 ⟨Nat.le_of_ble_eq_true rfl, Nat.le_of_ble_eq_true rfl⟩) [0, 1, 2, 3, 4] [] [0, 1, 2, 3, 4] rfl rfl rfl (by decide +kernel) rfl rfl (fun H locs hP hD hS => ?_)
  refine lv_if_eq (tgt := 29) hx hb dX0_setSpring_5 (by decide) (fun c2 => ?_) (fun c2 => ?_)
  · have hf := oif_t c2 hf
    refine lv_ldc (v := (-1000001)) hx hb hown hc55 dX0_setSpring_29 ?_
    obtain rfl := Option.some.inj hf
    exact W.iret (v := (-1000001)) hx hb hr (fun t ht hW => ⟨⟨(-1000001), (), rfl, rfl, by rw [ht]; exact hP, hD⟩, hS.F ht⟩) hS.2.2 dX0_setSpring_31
  · have hf := oif_f c2 hf
    refine lv_iload_n hx hb dX0_setSpring_8 rfl (lv_at hl 2 rfl) ?_
    refine lv_iconst (v := 1) hx hb dX0_setSpring_9 (by decide) ?_
    refine lv_icmp_lt (tgt := 29) hx hb dX0_setSpring_10 (by decide) (fun c3 => ?_) (fun c3 => ?_)
    · have hf := oif_t c3 hf
      refine lv_ldc (v := (-1000001)) hx hb hown hc55 dX0_setSpring_29 ?_
      obtain rfl := Option.some.inj hf
      exact W.iret (v := (-1000001)) hx hb hr (fun t ht hW => ⟨⟨(-1000001), (), rfl, rfl, by rw [ht]; exact hP, hD⟩, hS.F ht⟩) hS.2.2 dX0_setSpring_31
    · have hf := oif_f c3 hf
      refine lv_iload_n hx hb dX0_setSpring_13 rfl (lv_at hl 2 rfl) ?_
      refine lv_bipush (v := 9) hx hb dX0_setSpring_14 (by decide) ?_
      refine lv_icmp_gt (tgt := 29) hx hb dX0_setSpring_16 (by decide) (fun c4 => ?_) (fun c4 => ?_)
      · have hf := oif_t c4 hf
        refine lv_ldc (v := (-1000001)) hx hb hown hc55 dX0_setSpring_29 ?_
        obtain rfl := Option.some.inj hf
        exact W.iret (v := (-1000001)) hx hb hr (fun t ht hW => ⟨⟨(-1000001), (), rfl, rfl, by rw [ht]; exact hP, hD⟩, hS.F ht⟩) hS.2.2 dX0_setSpring_31
      · have hf := oif_f c4 hf
        refine lv_iload_n hx hb dX0_setSpring_19 rfl (lv_at hl 3 rfl) ?_
        refine lv_if_lt (tgt := 29) hx hb dX0_setSpring_20 (by decide) (fun c5 => ?_) (fun c5 => ?_)
        · have hf := oif_t c5 hf
          refine lv_ldc (v := (-1000001)) hx hb hown hc55 dX0_setSpring_29 ?_
          obtain rfl := Option.some.inj hf
          exact W.iret (v := (-1000001)) hx hb hr (fun t ht hW => ⟨⟨(-1000001), (), rfl, rfl, by rw [ht]; exact hP, hD⟩, hS.F ht⟩) hS.2.2 dX0_setSpring_31
        · have hf := oif_f c5 hf
          refine lv_iload_n hx hb dX0_setSpring_23 rfl (lv_at hl 3 rfl) ?_
          refine lv_bipush (v := 50) hx hb dX0_setSpring_24 (by decide) ?_
          refine lv_icmp_le (tgt := 32) hx hb dX0_setSpring_26 (by decide) (fun c6 => ?_) (fun c6 => ?_)
          · have hf := oif_t c6 hf
            refine lv_bipush (v := 100) hx hb dX0_setSpring_32 (by decide) ?_
            refine lv_aload_n hx hb dX0_setSpring_34 rfl (lv_at hl 0 rfl) ?_
            refine va_get (D := (dC, dI)) (ci := 0) (v := .ref (aL 1)) (C := RX0) (T := TX0) (N := 6) hx hb hts hiX0 hown hK hP 0 rfl rfl 2 (by decide) hgX0_18 (fun _ h9 => h9) rfl dX0_setSpring_35 ?_
            refine lv_iload_n hx hb dX0_setSpring_38 rfl (lv_at hl 1 rfl) ?_
            obtain ⟨hi7, hf⟩ := oinb rfl hf
            refine va_iald hx hb hK hP 1 0 rfl rfl hi7 dX0_setSpring_39 ?_
            refine lv_imul hx hb dX0_setSpring_40 ?_
            refine lv_aload_n hx hb dX0_setSpring_41 rfl (lv_at hl 0 rfl) ?_
            refine va_get (D := (dC, dI)) (ci := 0) (v := .ref (aL 2)) (C := RX0) (T := TX0) (N := 6) hx hb hts hiX0 hown hK hP 0 rfl rfl 3 (by decide) hgX0_22 (fun _ h9 => h9) rfl dX0_setSpring_42 ?_
            refine lv_iload_n hx hb dX0_setSpring_45 rfl (lv_at hl 1 rfl) ?_
            obtain ⟨hi8, hf⟩ := oinb rfl hf
            refine va_iald hx hb hK hP 2 0 rfl rfl hi8 dX0_setSpring_46 ?_
            refine lv_iadd hx hb dX0_setSpring_47 ?_
            obtain ⟨z9, ez9, hf⟩ := elet_out hf
            refine lvn_i ez9 ?_
            refine lv_istore (lv' := [(4, .int z9), (0, .ref (aL 0)), (1, .int i1), (2, .int i2), (3, .int i3)]) hx hb dX0_setSpring_48 hl (by decide) rfl (fun ls hl => ?_)
            refine lv_aload_n hx hb dX0_setSpring_50 rfl (lv_at hl 1 rfl) ?_
            refine va_get (D := (dC, dI)) (ci := 0) (v := .ref (aL 1)) (C := RX0) (T := TX0) (N := 6) hx hb hts hiX0 hown hK hP 0 rfl rfl 2 (by decide) hgX0_18 (fun _ h9 => h9) rfl dX0_setSpring_51 ?_
            refine lv_iload_n hx hb dX0_setSpring_54 rfl (lv_at hl 2 rfl) ?_
            refine lv_iload_n hx hb dX0_setSpring_55 rfl (lv_at hl 3 rfl) ?_
            obtain ⟨hi10, hf⟩ := oinb rfl hf
            obtain ⟨b11, eb11, hf⟩ := elet_out hf
            refine va_iast hx hb hK hP hD hS 1 0 rfl rfl hi10 dX0_setSpring_56 (fun H locs hP hD hS => ?_)
            have hP : va_P (dC, dI) vwCl [k0_0 aL b11, k0_1 cI aL b11, k0_2 cI aL b11, k0_3 cI aL b11, k0_4 cI aL b11] H := by rw [eb11]; exact hP
            have hD : va_D A [k0_0 aL b11, k0_1 cI aL b11, k0_2 cI aL b11, k0_3 cI aL b11, k0_4 cI aL b11] := by rw [eb11]; exact hD
            refine lv_aload_n hx hb dX0_setSpring_57 rfl (lv_at hl 1 rfl) ?_
            refine va_get (D := (dC, dI)) (ci := 0) (v := .ref (aL 2)) (C := RX0) (T := TX0) (N := 6) hx hb hts hiX0 hown hK hP 0 rfl rfl 3 (by decide) hgX0_22 (fun _ h9 => h9) rfl dX0_setSpring_58 ?_
            refine lv_iload_n hx hb dX0_setSpring_61 rfl (lv_at hl 2 rfl) ?_
            refine lv_iload_n hx hb dX0_setSpring_62 rfl (lv_at hl 4 rfl) ?_
            obtain ⟨hi12, hf⟩ := oinb rfl hf
            obtain ⟨b13, eb13, hf⟩ := elet_out hf
            refine va_iast hx hb hK hP hD hS 2 0 rfl rfl hi12 dX0_setSpring_63 (fun H locs hP hD hS => ?_)
            have hP : va_P (dC, dI) vwCl [k0_0 aL b13, k0_1 cI aL b13, k0_2 cI aL b13, k0_3 cI aL b13, k0_4 cI aL b13] H := by rw [eb13]; exact hP
            have hD : va_D A [k0_0 aL b13, k0_1 cI aL b13, k0_2 cI aL b13, k0_3 cI aL b13, k0_4 cI aL b13] := by rw [eb13]; exact hD
            refine lv_iload hx hb dX0_setSpring_64 (lv_at hl 0 rfl) ?_
            obtain rfl := Option.some.inj hf
            exact W.iret (v := z9) hx hb hr (fun t ht hW => ⟨⟨z9, (), rfl, rfl, by rw [ht]; exact hP, hD⟩, hS.F ht⟩) hS.2.2 dX0_setSpring_66
          · have hf := oif_f c6 hf
            refine lv_ldc (v := (-1000001)) hx hb hown hc55 dX0_setSpring_29 ?_
            obtain rfl := Option.some.inj hf
            exact W.iret (v := (-1000001)) hx hb hr (fun t ht hW => ⟨⟨(-1000001), (), rfl, rfl, by rw [ht]; exact hP, hD⟩, hS.F ht⟩) hS.2.2 dX0_setSpring_31
