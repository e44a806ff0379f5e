def fX2_append (vS : BX2) (i1 : Int32) : Option (Int32 × BX2) :=
  if i1 < (32 : Int32) then (some ((-1000001), vS)) else (if i1 ≤ (126 : Int32) then (if (p2_size vS) < (60 : Int32) then (if inB (p2_size vS) 60 = true then (elet (s2_characters vS (upd (p2_characters vS) ((p2_size vS)).toNatClampNeg i1)) (fun b5 => elet (s2_size b5 ((p2_size b5) + (1 : Int32))) (fun b6 => some ((p2_size b6), b6)))) else none) else (some ((-1000003), vS))) else (some ((-1000001), vS)))
set_option maxHeartbeats 8000000 in
set_option maxRecDepth 100000 in
theorem mX2_append (l : Launch) (dC : Nat → ClassId) (dI : Nat → Nat → Nat) (cI cJ : ClassId) (aS : Nat → Nat) (sz : Nat) (vS : BX2) (i1 : Int32) (y : (Int32 × BX2)) (hf : fX2_append vS i1 = some y) : Met l yX2_append wsX2_append ({ frames := 0, cells := 0, slots := 0, locals := 0 }) (cPc dC dI cI cJ [.ref (aS 0), .int i1] [k2_0 aS vS, k2_1 cI aS vS, k2_2 cI aS vS] sz) (va_Qi (fun r (_ : Unit) => r = y.1) (fun _ t => cB dC dI (va_A [k2_0 aS vS, k2_1 cI aS vS, k2_2 cI aS vS] sz) [k2_0 aS y.2, k2_1 cI aS y.2, k2_2 cI aS y.2] t) (va_A [k2_0 aS vS, k2_1 cI aS vS, k2_2 cI aS vS] sz)) 0 0 (va_A [k2_0 aS vS, k2_1 cI aS vS, k2_2 cI aS vS] sz) := by
  refine Met.ofW (cc := cX2_append) (maxL := 2) (ret := (some .int)) (by decide) rfl ?_
  intro p e s m args below meth c s₁ B hml hv
  obtain ⟨rfl, hsz, hP, hK, hD0, hN⟩ := hv
  have hx := B.exec
  have hb := B.bytes
  have hr := B.returns
  have hts := atoms_spec (ws := wsX2_append) B.pre
  have hown : s.vm.findClass RX2 = some m.cls := findClass_of_methodNamed B.named
  have hlocks := B.notSynchronized
  subst hsz
  have hD := hD0.self (sz := s.heap.size)
  generalize hAe : va_A [k2_0 aS vS, k2_1 cI aS vS, k2_2 cI aS vS] s.heap.size = A at hD hN ⊢
  have hA : ∀ q : Nat, s.heap.size ≤ q → A q := fun q h => by rw [← hAe]; exact Or.inr h
  have hP : va_P (dC, dI) vwCl [k2_0 aS vS, k2_1 cI aS vS, k2_2 cI aS vS] s.heap := hP
  have hl := lv_entry ([.ref (aS 0), .int i1]) (n := 2) (Nat.le_of_ble_eq_true rfl)
  rw [lg_entry_eq]
  generalize (lg_sl ([.ref (aS 0), .int i1]) ++ List.replicate (2 - (lg_sl ([.ref (aS 0), .int i1])).length) Slot.unset).toArray = ls at hl ⊢
  have hl : lv_has ls 2 [(0, .ref (aS 0)), (1, .int i1)] := hl
  have hc40 := hts (.constant RX2 40 (-1000001)) (by decide +kernel)
  have hiX2 : ∀ w ∈ u_ws RX2 TX2 9, w ∈ wsX2_append := by decide +kernel
  have hgX2_15 := hts (.fieldLink RX2 15 "SpringPlates$Script" "size" "I") (by decide +kernel)
  have hgX2_9 := hts (.fieldLink RX2 9 "SpringPlates$Script" "characters" "[I") (by decide +kernel)
  have hc41 := hts (.constant RX2 41 (-1000003)) (by decide +kernel)
  refine nameH (fun H locs hHe hLe => ?_)
  have hP : va_P (dC, dI) vwCl [k2_0 aS vS, k2_1 cI aS vS, k2_2 cI aS vS] H := by rw [hHe]; exact hP
  have hS : va_S A s.heap H locs := by rw [hHe, hLe]; exact va_S.rf
  unfold fX2_append at hf
  refine lv_iload_n hx hb dX2_append_0 rfl (lv_at hl 1 rfl) ?_
  refine lv_bipush (v := 32) hx hb dX2_append_1 (by decide) ?_
  refine lv_icmp_lt (tgt := 12) hx hb dX2_append_3 (by decide) (fun c1 => ?_) (fun c1 => ?_)
  · have hf := oif_t c1 hf
    refine lv_ldc (v := (-1000001)) hx hb hown hc40 dX2_append_12 ?_
    obtain rfl := Option.some.inj hf
    exact W.iret (v := (-1000001)) hx hb hr (fun t ht hW => ⟨⟨(-1000001), (), rfl, rfl, by rw [ht]; exact hP, hD⟩, hS.F ht⟩) hS.2.2 dX2_append_14
  · have hf := oif_f c1 hf
    refine lv_iload_n hx hb dX2_append_6 rfl (lv_at hl 1 rfl) ?_
    refine lv_bipush (v := 126) hx hb dX2_append_7 (by decide) ?_
    refine lv_icmp_le (tgt := 15) hx hb dX2_append_9 (by decide) (fun c2 => ?_) (fun c2 => ?_)
    · have hf := oif_t c2 hf
      refine lv_aload_n hx hb dX2_append_15 rfl (lv_at hl 0 rfl) ?_
      refine va_get (D := (dC, dI)) (ci := 2) (v := .int (p2_size vS)) (C := RX2) (T := TX2) (N := 9) hx hb hts hiX2 hown hK hP 0 rfl rfl 1 (by decide) hgX2_15 (fun _ h9 => h9) rfl dX2_append_16 ?_
      refine lv_bipush (v := 60) hx hb dX2_append_19 (by decide) ?_
      refine lv_icmp_lt (tgt := 27) hx hb dX2_append_21 (by decide) (fun c3 => ?_) (fun c3 => ?_)
      · have hf := oif_t c3 hf
        refine lv_aload_n hx hb dX2_append_27 rfl (lv_at hl 0 rfl) ?_
        refine va_get (D := (dC, dI)) (ci := 2) (v := .ref (aS 1)) (C := RX2) (T := TX2) (N := 9) hx hb hts hiX2 hown hK hP 0 rfl rfl 0 (by decide) hgX2_9 (fun _ h9 => h9) rfl dX2_append_28 ?_
        refine lv_aload_n hx hb dX2_append_31 rfl (lv_at hl 0 rfl) ?_
        refine va_get (D := (dC, dI)) (ci := 2) (v := .int (p2_size vS)) (C := RX2) (T := TX2) (N := 9) hx hb hts hiX2 hown hK hP 0 rfl rfl 1 (by decide) hgX2_15 (fun _ h9 => h9) rfl dX2_append_32 ?_
        refine lv_iload_n hx hb dX2_append_35 rfl (lv_at hl 1 rfl) ?_
        obtain ⟨hi4, hf⟩ := oinb rfl hf
        obtain ⟨b5, eb5, hf⟩ := elet_out hf
        refine va_iast hx hb hK hP hD hS 1 0 rfl rfl hi4 dX2_append_36 (fun H locs hP hD hS => ?_)
        have hP : va_P (dC, dI) vwCl [k2_0 aS b5, k2_1 cI aS b5, k2_2 cI aS b5] H := by rw [eb5]; exact hP
        have hD : va_D A [k2_0 aS b5, k2_1 cI aS b5, k2_2 cI aS b5] := by rw [eb5]; exact hD
        refine lv_aload_n hx hb dX2_append_37 rfl (lv_at hl 0 rfl) ?_
        refine lv_dup hx hb dX2_append_38 rfl ?_
        refine va_get (D := (dC, dI)) (ci := 2) (v := .int (p2_size b5)) (C := RX2) (T := TX2) (N := 9) hx hb hts hiX2 hown hK hP 0 rfl rfl 1 (by decide) hgX2_15 (fun _ h9 => h9) rfl dX2_append_39 ?_
        refine lv_iconst (v := 1) hx hb dX2_append_42 (by decide) ?_
        refine lv_iadd hx hb dX2_append_43 ?_
        obtain ⟨b6, eb6, hf⟩ := elet_out hf
        refine va_put (D := (dC, dI)) (ci := 2) (v := .int ((p2_size b5) + (1 : Int32))) (ty := .int) (C := RX2) (T := TX2) (N := 9) hx hb hts hiX2 tyX2 tyX2_ok nmX2 hown hK hP hD hS 0 rfl rfl 1 (by decide) hgX2_15 (fun _ h9 => h9) rfl (by decide +kernel) rfl rfl (Nat.le_of_ble_eq_true rfl) dX2_append_44 (fun H locs hP hD hS => ?_)
        have hP : va_P (dC, dI) vwCl [k2_0 aS b6, k2_1 cI aS b6, k2_2 cI aS b6] H := by rw [eb6]; exact hP
        have hD : va_D A [k2_0 aS b6, k2_1 cI aS b6, k2_2 cI aS b6] := by rw [eb6]; exact hD
        refine lv_aload_n hx hb dX2_append_47 rfl (lv_at hl 0 rfl) ?_
        refine va_get (D := (dC, dI)) (ci := 2) (v := .int (p2_size b6)) (C := RX2) (T := TX2) (N := 9) hx hb hts hiX2 hown hK hP 0 rfl rfl 1 (by decide) hgX2_15 (fun _ h9 => h9) rfl dX2_append_48 ?_
        obtain rfl := Option.some.inj hf
        exact W.iret (v := (p2_size b6)) hx hb hr (fun t ht hW => ⟨⟨(p2_size b6), (), rfl, rfl, by rw [ht]; exact hP, hD⟩, hS.F ht⟩) hS.2.2 dX2_append_51
      · have hf := oif_f c3 hf
        refine lv_ldc (v := (-1000003)) hx hb hown hc41 dX2_append_24 ?_
        obtain rfl := Option.some.inj hf
        exact W.iret (v := (-1000003)) hx hb hr (fun t ht hW => ⟨⟨(-1000003), (), rfl, rfl, by rw [ht]; exact hP, hD⟩, hS.F ht⟩) hS.2.2 dX2_append_26
    · have hf := oif_f c2 hf
      refine lv_ldc (v := (-1000001)) hx hb hown hc40 dX2_append_12 ?_
      obtain rfl := Option.some.inj hf
      exact W.iret (v := (-1000001)) hx hb hr (fun t ht hW => ⟨⟨(-1000001), (), rfl, rfl, by rw [ht]; exact hP, hD⟩, hS.F ht⟩) hS.2.2 dX2_append_14
def fX2_characterAt (vS : BX2) (i1 : Int32) : Option Int32 :=
  if i1 < 0 then (some (-1)) else (if (p2_size vS) ≤ i1 then (some (-1)) else (if inB i1 60 = true then (some ((p2_characters vS) (i1).toNatClampNeg)) else none))
set_option maxHeartbeats 8000000 in
set_option maxRecDepth 100000 in
theorem mX2_characterAt (l : Launch) (dC : Nat → ClassId) (dI : Nat → Nat → Nat) (cI cJ : ClassId) (aS : Nat → Nat) (sz : Nat) (vS : BX2) (i1 : Int32) (y : Int32) (hf : fX2_characterAt vS i1 = some y) : Met l yX2_characterAt wsX2_characterAt ({ frames := 0, cells := 0, slots := 0, locals := 0 }) (cPc dC dI cI cJ [.ref (aS 0), .int i1] [k2_0 aS vS, k2_1 cI aS vS, k2_2 cI aS vS] sz) (va_Qi (fun r (_ : Unit) => r = y) (fun _ t => cB dC dI (va_A [k2_0 aS vS, k2_1 cI aS vS, k2_2 cI aS vS] sz) [k2_0 aS vS, k2_1 cI aS vS, k2_2 cI aS vS] t) (va_A [k2_0 aS vS, k2_1 cI aS vS, k2_2 cI aS vS] sz)) 0 0 (va_A [k2_0 aS vS, k2_1 cI aS vS, k2_2 cI aS vS] sz) := by
  refine Met.ofW (cc := cX2_characterAt) (maxL := 2) (ret := (some .int)) (by decide) rfl ?_
  intro p e s m args below meth c s₁ B hml hv
  obtain ⟨rfl, hsz, hP, hK, hD0, hN⟩ := hv
  have hx := B.exec
  have hb := B.bytes
  have hr := B.returns
  have hts := atoms_spec (ws := wsX2_characterAt) B.pre
  have hown : s.vm.findClass RX2 = some m.cls := findClass_of_methodNamed B.named
  have hlocks := B.notSynchronized
  subst hsz
  have hD := hD0.self (sz := s.heap.size)
  generalize hAe : va_A [k2_0 aS vS, k2_1 cI aS vS, k2_2 cI aS vS] s.heap.size = A at hD hN ⊢
  have hA : ∀ q : Nat, s.heap.size ≤ q → A q := fun q h => by rw [← hAe]; exact Or.inr h
  have hP : va_P (dC, dI) vwCl [k2_0 aS vS, k2_1 cI aS vS, k2_2 cI aS vS] s.heap := hP
  have hl := lv_entry ([.ref (aS 0), .int i1]) (n := 2) (Nat.le_of_ble_eq_true rfl)
  rw [lg_entry_eq]
  generalize (lg_sl ([.ref (aS 0), .int i1]) ++ List.replicate (2 - (lg_sl ([.ref (aS 0), .int i1])).length) Slot.unset).toArray = ls at hl ⊢
  have hl : lv_has ls 2 [(0, .ref (aS 0)), (1, .int i1)] := hl
  have hiX2 : ∀ w ∈ u_ws RX2 TX2 9, w ∈ wsX2_characterAt := by decide +kernel
  have hgX2_15 := hts (.fieldLink RX2 15 "SpringPlates$Script" "size" "I") (by decide +kernel)
  have hgX2_9 := hts (.fieldLink RX2 9 "SpringPlates$Script" "characters" "[I") (by decide +kernel)
  refine nameH (fun H locs hHe hLe => ?_)
  have hP : va_P (dC, dI) vwCl [k2_0 aS vS, k2_1 cI aS vS, k2_2 cI aS vS] H := by rw [hHe]; exact hP
  have hS : va_S A s.heap H locs := by rw [hHe, hLe]; exact va_S.rf
  unfold fX2_characterAt at hf
  refine lv_iload_n hx hb dX2_characterAt_0 rfl (lv_at hl 1 rfl) ?_
  refine lv_if_lt (tgt := 21) hx hb dX2_characterAt_1 (by decide) (fun c1 => ?_) (fun c1 => ?_)
  · have hf := oif_t c1 hf
    refine lv_iconst (v := (-1)) hx hb dX2_characterAt_21 (by decide) ?_
    obtain rfl := Option.some.inj hf
    exact W.iret (v := (-1)) hx hb hr (fun t ht hW => ⟨⟨(-1), (), rfl, rfl, by rw [ht]; exact hP, hD⟩, hS.F ht⟩) hS.2.2 dX2_characterAt_22
  · have hf := oif_f c1 hf
    refine lv_iload_n hx hb dX2_characterAt_4 rfl (lv_at hl 1 rfl) ?_
    refine lv_aload_n hx hb dX2_characterAt_5 rfl (lv_at hl 0 rfl) ?_
    refine va_get (D := (dC, dI)) (ci := 2) (v := .int (p2_size vS)) (C := RX2) (T := TX2) (N := 9) hx hb hts hiX2 hown hK hP 0 rfl rfl 1 (by decide) hgX2_15 (fun _ h9 => h9) rfl dX2_characterAt_6 ?_
    refine lv_icmp_ge (tgt := 21) hx hb dX2_characterAt_9 (by decide) (fun c2 => ?_) (fun c2 => ?_)
    · have hf := oif_t c2 hf
      refine lv_iconst (v := (-1)) hx hb dX2_characterAt_21 (by decide) ?_
      obtain rfl := Option.some.inj hf
      exact W.iret (v := (-1)) hx hb hr (fun t ht hW => ⟨⟨(-1), (), rfl, rfl, by rw [ht]; exact hP, hD⟩, hS.F ht⟩) hS.2.2 dX2_characterAt_22
    · have hf := oif_f c2 hf
      refine lv_aload_n hx hb dX2_characterAt_12 rfl (lv_at hl 0 rfl) ?_
      refine va_get (D := (dC, dI)) (ci := 2) (v := .ref (aS 1)) (C := RX2) (T := TX2) (N := 9) hx hb hts hiX2 hown hK hP 0 rfl rfl 0 (by decide) hgX2_9 (fun _ h9 => h9) rfl dX2_characterAt_13 ?_
      refine lv_iload_n hx hb dX2_characterAt_16 rfl (lv_at hl 1 rfl) ?_
      obtain ⟨hi3, hf⟩ := oinb rfl hf
      refine va_iald hx hb hK hP 1 0 rfl rfl hi3 dX2_characterAt_17 ?_
      refine lv_goto (tgt := 22) hx hb dX2_characterAt_18 (by decide) ?_
      obtain rfl := Option.some.inj hf
      exact W.iret (v := ((p2_characters vS) (i1).toNatClampNeg)) hx hb hr (fun t ht hW => ⟨⟨((p2_characters vS) (i1).toNatClampNeg), (), rfl, rfl, by rw [ht]; exact hP, hD⟩, hS.F ht⟩) hS.2.2 dX2_characterAt_22
def fX2_isDigit (i0 : Int32) : Option Int32 :=
  if i0 < (48 : Int32) then (some 0) else (if (57 : Int32) < i0 then (some 0) else (some 1))
set_option maxHeartbeats 8000000 in
set_option maxRecDepth 100000 in
theorem mX2_isDigit (l : Launch) (dC : Nat → ClassId) (dI : Nat → Nat → Nat) (cI cJ : ClassId) (sz : Nat) (i0 : Int32) (y : Int32) (hf : fX2_isDigit i0 = some y) : Met l yX2_isDigit wsX2_isDigit ({ frames := 0, cells := 0, slots := 0, locals := 0 }) (cPc dC dI cI cJ [.int i0] [] sz) (va_Qi (fun r (_ : Unit) => r = y) (fun _ t => cB dC dI (va_A [] sz) [] t) (va_A [] sz)) 0 0 (va_A [] sz) := by
  refine Met.ofW (cc := cX2_isDigit) (maxL := 1) (ret := (some .boolean)) (by decide) rfl ?_
  intro p e s m args below meth c s₁ B hml hv
  obtain ⟨rfl, hsz, hP, hK, hD0, hN⟩ := hv
  have hx := B.exec
  have hb := B.bytes
  have hr := B.returns
  have hts := atoms_spec (ws := wsX2_isDigit) B.pre
  have hown : s.vm.findClass RX2 = some m.cls := findClass_of_methodNamed B.named
  have hlocks := B.notSynchronized
  subst hsz
  have hD := hD0.self (sz := s.heap.size)
  generalize hAe : va_A [] s.heap.size = A at hD hN ⊢
  have hA : ∀ q : Nat, s.heap.size ≤ q → A q := fun q h => by rw [← hAe]; exact Or.inr h
  have hP : va_P (dC, dI) vwCl [] s.heap := hP
  have hl := lv_entry ([.int i0]) (n := 1) (Nat.le_of_ble_eq_true rfl)
  rw [lg_entry_eq]
  generalize (lg_sl ([.int i0]) ++ List.replicate (1 - (lg_sl ([.int i0])).length) Slot.unset).toArray = ls at hl ⊢
  have hl : lv_has ls 1 [(0, .int i0)] := hl
  refine nameH (fun H locs hHe hLe => ?_)
  have hP : va_P (dC, dI) vwCl [] H := by rw [hHe]; exact hP
  have hS : va_S A s.heap H locs := by rw [hHe, hLe]; exact va_S.rf
  unfold fX2_isDigit at hf
  refine lv_iload_n hx hb dX2_isDigit_0 rfl (lv_at hl 0 rfl) ?_
  refine lv_bipush (v := 48) hx hb dX2_isDigit_1 (by decide) ?_
  refine lv_icmp_lt (tgt := 16) hx hb dX2_isDigit_3 (by decide) (fun c1 => ?_) (fun c1 => ?_)
  · have hf := oif_t c1 hf
    refine lv_iconst (v := 0) hx hb dX2_isDigit_16 (by decide) ?_
    obtain rfl := Option.some.inj hf
    exact W.zret (v := 0) hx hb hr rfl (fun t ht hW => ⟨⟨0, (), rfl, rfl, by rw [ht]; exact hP, hD⟩, hS.F ht⟩) hS.2.2 dX2_isDigit_17
  · have hf := oif_f c1 hf
    refine lv_iload_n hx hb dX2_isDigit_6 rfl (lv_at hl 0 rfl) ?_
    refine lv_bipush (v := 57) hx hb dX2_isDigit_7 (by decide) ?_
    refine lv_icmp_gt (tgt := 16) hx hb dX2_isDigit_9 (by decide) (fun c2 => ?_) (fun c2 => ?_)
    · have hf := oif_t c2 hf
      refine lv_iconst (v := 0) hx hb dX2_isDigit_16 (by decide) ?_
      obtain rfl := Option.some.inj hf
      exact W.zret (v := 0) hx hb hr rfl (fun t ht hW => ⟨⟨0, (), rfl, rfl, by rw [ht]; exact hP, hD⟩, hS.F ht⟩) hS.2.2 dX2_isDigit_17
    · have hf := oif_f c2 hf
      refine lv_iconst (v := 1) hx hb dX2_isDigit_12 (by decide) ?_
      refine lv_goto (tgt := 17) hx hb dX2_isDigit_13 (by decide) ?_
      obtain rfl := Option.some.inj hf
      exact W.zret (v := 1) hx hb hr rfl (fun t ht hW => ⟨⟨1, (), rfl, rfl, by rw [ht]; exact hP, hD⟩, hS.F ht⟩) hS.2.2 dX2_isDigit_17
def fX2_readCharacter (vS : BX2) (i1 : Int32) : Option (Int32 × BX2) :=
  (fX2_characterAt vS (p2_next vS)).bind (fun y1 => if y1 = i1 then (elet (s2_next vS ((p2_next vS) + (1 : Int32))) (fun b3 => some (1, b3))) else (some (0, vS)))
set_option maxHeartbeats 8000000 in
set_option maxRecDepth 100000 in
theorem mX2_readCharacter (l : Launch) (dC : Nat → ClassId) (dI : Nat → Nat → Nat) (cI cJ : ClassId) (aS : Nat → Nat) (sz : Nat) (vS : BX2) (i1 : Int32) (y : (Int32 × BX2)) (hf : fX2_readCharacter vS i1 = some y) : Met l yX2_readCharacter wsX2_readCharacter ({ frames := 1, cells := 0, slots := 0, locals := 21 }) (cPc dC dI cI cJ [.ref (aS 0), .int i1] [k2_0 aS vS, k2_1 cI aS vS, k2_2 cI aS vS] sz) (va_Qi (fun r (_ : Unit) => r = y.1) (fun _ t => cB dC dI (va_A [k2_0 aS vS, k2_1 cI aS vS, k2_2 cI aS vS] sz) [k2_0 aS y.2, k2_1 cI aS y.2, k2_2 cI aS y.2] t) (va_A [k2_0 aS vS, k2_1 cI aS vS, k2_2 cI aS vS] sz)) 0 0 (va_A [k2_0 aS vS, k2_1 cI aS vS, k2_2 cI aS vS] sz) := by
  refine Met.ofW (cc := cX2_readCharacter) (maxL := 2) (ret := (some .boolean)) (by decide) rfl ?_
  intro p e s m args below meth c s₁ B hml hv
  obtain ⟨rfl, hsz, hP, hK, hD0, hN⟩ := hv
  have hx := B.exec
  have hb := B.bytes
  have hr := B.returns
  have hts := atoms_spec (ws := wsX2_readCharacter) B.pre
  have hown : s.vm.findClass RX2 = some m.cls := findClass_of_methodNamed B.named
  have hlocks := B.notSynchronized
  subst hsz
  have hD := hD0.self (sz := s.heap.size)
  generalize hAe : va_A [k2_0 aS vS, k2_1 cI aS vS, k2_2 cI aS vS] s.heap.size = A at hD hN ⊢
  have hA : ∀ q : Nat, s.heap.size ≤ q → A q := fun q h => by rw [← hAe]; exact Or.inr h
  have hP : va_P (dC, dI) vwCl [k2_0 aS vS, k2_1 cI aS vS, k2_2 cI aS vS] s.heap := hP
  have hl := lv_entry ([.ref (aS 0), .int i1]) (n := 2) (Nat.le_of_ble_eq_true rfl)
  rw [lg_entry_eq]
  generalize (lg_sl ([.ref (aS 0), .int i1]) ++ List.replicate (2 - (lg_sl ([.ref (aS 0), .int i1])).length) Slot.unset).toArray = ls at hl ⊢
  have hl : lv_has ls 2 [(0, .ref (aS 0)), (1, .int i1)] := hl
  have hiX2 : ∀ w ∈ u_ws RX2 TX2 9, w ∈ wsX2_readCharacter := by decide +kernel
  have hgX2_31 := hts (.fieldLink RX2 31 "SpringPlates$Script" "next" "I") (by decide +kernel)
  refine nameH (fun H locs hHe hLe => ?_)
  have hP : va_P (dC, dI) vwCl [k2_0 aS vS, k2_1 cI aS vS, k2_2 cI aS vS] H := by rw [hHe]; exact hP
  have hS : va_S A s.heap H locs := by rw [hHe, hLe]; exact va_S.rf
  unfold fX2_readCharacter at hf
  refine lv_aload_n hx hb dX2_readCharacter_0 rfl (lv_at hl 0 rfl) ?_
  refine lv_aload_n hx hb dX2_readCharacter_1 rfl (lv_at hl 0 rfl) ?_
  refine va_get (D := (dC, dI)) (ci := 2) (v := .int (p2_next vS)) (C := RX2) (T := TX2) (N := 9) hx hb hts hiX2 hown hK hP 0 rfl rfl 6 (by decide) hgX2_31 (fun _ h9 => h9) rfl dX2_readCharacter_2 ?_
  obtain ⟨y1, hy1, hf⟩ := obind hf
  refine cg_i (ws := [k2_0 aS vS, k2_1 cI aS vS, k2_2 cI aS vS]) (wc := [k2_0 aS vS, k2_1 cI aS vS, k2_2 cI aS vS]) (wr := []) (w1 := [k2_0 aS vS, k2_1 cI aS vS, k2_2 cI aS vS]) (wo := [k2_0 aS vS, k2_1 cI aS vS, k2_2 cI aS vS]) hP hD hS hA (va_runV (As := [.int (p2_next vS)]) (rest := []) ⟨hx, hb, hml, hown, hts⟩ (mX2_characterAt l dC dI cI cJ aS H.size vS (p2_next vS) y1 hy1) (cwV 1 hts gX2_readCharacter_X2_characterAt rfl rfl rfl (by decide +kernel) ⟨Nat.le_of_ble_eq_true rfl, Nat.le_of_ble_eq_true rfl⟩) ⟨cFB, va_recv hK hP (ci := 2) (q0 := 0) rfl rfl, cPre hK hN hS (va_free (wc := [k2_0 aS vS, k2_1 cI aS vS, k2_2 cI aS vS]) hD hS hA [0, 1, 2] rfl) (hP.sub [0, 1, 2] rfl) (hD.sub [0, 1, 2] rfl rfl)⟩ rfl rfl hl.1 rfl (lv_room (Nat.le_of_ble_eq_true rfl)) dX2_readCharacter_5 ⟨Nat.le_of_ble_eq_true rfl, Nat.le_of_ble_eq_true rfl⟩) [0, 1, 2] [] [0, 1, 2] rfl rfl rfl (by decide +kernel) rfl rfl (fun H locs hP hD hS => ?_)
  refine lv_iload_n hx hb dX2_readCharacter_8 rfl (lv_at hl 1 rfl) ?_
  refine lv_icmp_eq (tgt := 14) hx hb dX2_readCharacter_9 (by decide) (fun c2 => ?_) (fun c2 => ?_)
  · have hf := oif_t c2 hf
    refine lv_aload_n hx hb dX2_readCharacter_14 rfl (lv_at hl 0 rfl) ?_
    refine lv_dup hx hb dX2_readCharacter_15 rfl ?_
    refine va_get (D := (dC, dI)) (ci := 2) (v := .int (p2_next vS)) (C := RX2) (T := TX2) (N := 9) hx hb hts hiX2 hown hK hP 0 rfl rfl 6 (by decide) hgX2_31 (fun _ h9 => h9) rfl dX2_readCharacter_16 ?_
    refine lv_iconst (v := 1) hx hb dX2_readCharacter_19 (by decide) ?_
    refine lv_iadd hx hb dX2_readCharacter_20 ?_
    obtain ⟨b3, eb3, hf⟩ := elet_out hf
    refine va_put (D := (dC, dI)) (ci := 2) (v := .int ((p2_next vS) + (1 : Int32))) (ty := .int) (C := RX2) (T := TX2) (N := 9) hx hb hts hiX2 tyX2 tyX2_ok nmX2 hown hK hP hD hS 0 rfl rfl 6 (by decide) hgX2_31 (fun _ h9 => h9) rfl (by decide +kernel) rfl rfl (Nat.le_of_ble_eq_true rfl) dX2_readCharacter_21 (fun H locs hP hD hS => ?_)
    have hP : va_P (dC, dI) vwCl [k2_0 aS b3, k2_1 cI aS b3, k2_2 cI aS b3] H := by rw [eb3]; exact hP
    have hD : va_D A [k2_0 aS b3, k2_1 cI aS b3, k2_2 cI aS b3] := by rw [eb3]; exact hD
    refine lv_iconst (v := 1) hx hb dX2_readCharacter_24 (by decide) ?_
    obtain rfl := Option.some.inj hf
    exact W.zret (v := 1) hx hb hr rfl (fun t ht hW => ⟨⟨1, (), rfl, rfl, by rw [ht]; exact hP, hD⟩, hS.F ht⟩) hS.2.2 dX2_readCharacter_25
  · have hf := oif_f c2 hf
    refine lv_iconst (v := 0) hx hb dX2_readCharacter_12 (by decide) ?_
    obtain rfl := Option.some.inj hf
    exact W.zret (v := 0) hx hb hr rfl (fun t ht hW => ⟨⟨0, (), rfl, rfl, by rw [ht]; exact hP, hD⟩, hS.F ht⟩) hS.2.2 dX2_readCharacter_13
def fX2_readNumber_56 (vS : BX2) (x1 : Int32) (x2 : Int32) (x3 : Int32) : Option (Int32 × BX2) :=
  if x3 = 0 then (some (0, vS)) else (if (p2_numberCount vS) < (3 : Int32) then (if inB (p2_numberCount vS) 3 = true then (elet (s2_numbers vS (upd (p2_numbers vS) ((p2_numberCount vS)).toNatClampNeg (x1 * x2))) (fun b12 => elet (s2_numberCount b12 ((p2_numberCount b12) + (1 : Int32))) (fun b13 => some (1, b13)))) else none) else (some (0, vS)))
def fX2_readNumber_4_b (k4 : BX2 → Int32 → Int32 → Int32 → Option (Int32 × BX2)) (vS : BX2) (x1 : Int32) (x2 : Int32) (x3 : Int32) : Option (Int32 × BX2) :=
  if (2 : Int32) ≤ x3 then (fX2_readNumber_56 vS x1 x2 x3) else ((fX2_characterAt vS (p2_next vS)).bind (fun y2 => (fX2_isDigit y2).bind (fun y3 => if y3 = 0 then (fX2_readNumber_56 vS x1 x2 x3) else ((fX2_characterAt vS (p2_next vS)).bind (fun y5 => elet ((((10 : Int32) * x2) + y5) - (48 : Int32)) (fun z6 => elet (s2_next vS ((p2_next vS) + (1 : Int32))) (fun b7 => elet (x3 + 1) (fun z8 => k4 b7 x1 z6 z8))))))))
def fX2_readNumber_4 : Nat → BX2 → Int32 → Int32 → Int32 → Option (Int32 × BX2)
  | 0 => fun _ _ _ _ => none
  | n + 1 => fX2_readNumber_4_b (fX2_readNumber_4 n)
def fX2_readNumber (vS : BX2) (i1 : Int32) : Option (Int32 × BX2) :=
  fX2_readNumber_4 FU vS i1 (0 : Int32) (0 : Int32)
set_option maxHeartbeats 8000000 in
set_option maxRecDepth 100000 in
theorem mX2_readNumber (l : Launch) (dC : Nat → ClassId) (dI : Nat → Nat → Nat) (cI cJ : ClassId) (aS : Nat → Nat) (sz : Nat) (vS : BX2) (i1 : Int32) (y : (Int32 × BX2)) (hf : fX2_readNumber vS i1 = some y) : Met l yX2_readNumber wsX2_readNumber ({ frames := 1, cells := 0, slots := 0, locals := 21 }) (cPc dC dI cI cJ [.ref (aS 0), .int i1] [k2_0 aS vS, k2_1 cI aS vS, k2_2 cI aS vS] sz) (va_Qi (fun r (_ : Unit) => r = y.1) (fun _ t => cB dC dI (va_A [k2_0 aS vS, k2_1 cI aS vS, k2_2 cI aS vS] sz) [k2_0 aS y.2, k2_1 cI aS y.2, k2_2 cI aS y.2] t) (va_A [k2_0 aS vS, k2_1 cI aS vS, k2_2 cI aS vS] sz)) 0 0 (va_A [k2_0 aS vS, k2_1 cI aS vS, k2_2 cI aS vS] sz) := by
  refine Met.ofW (cc := cX2_readNumber) (maxL := 4) (ret := (some .boolean)) (by decide) rfl ?_
  intro p e s m args below meth c s₁ B hml hv
  obtain ⟨rfl, hsz, hP, hK, hD0, hN⟩ := hv
  have hx := B.exec
  have hb := B.bytes
  have hr := B.returns
  have hts := atoms_spec (ws := wsX2_readNumber) B.pre
  have hown : s.vm.findClass RX2 = some m.cls := findClass_of_methodNamed B.named
  have hlocks := B.notSynchronized
  subst hsz
  have hD := hD0.self (sz := s.heap.size)
  generalize hAe : va_A [k2_0 aS vS, k2_1 cI aS vS, k2_2 cI aS vS] s.heap.size = A at hD hN ⊢
  have hA : ∀ q : Nat, s.heap.size ≤ q → A q := fun q h => by rw [← hAe]; exact Or.inr h
  have hP : va_P (dC, dI) vwCl [k2_0 aS vS, k2_1 cI aS vS, k2_2 cI aS vS] s.heap := hP
  have hl := lv_entry ([.ref (aS 0), .int i1]) (n := 4) (Nat.le_of_ble_eq_true rfl)
  rw [lg_entry_eq]
  generalize (lg_sl ([.ref (aS 0), .int i1]) ++ List.replicate (4 - (lg_sl ([.ref (aS 0), .int i1])).length) Slot.unset).toArray = ls at hl ⊢
  have hl : lv_has ls 4 [(0, .ref (aS 0)), (1, .int i1)] := hl
  have hiX2 : ∀ w ∈ u_ws RX2 TX2 9, w ∈ wsX2_readNumber := by decide +kernel
  have hgX2_31 := hts (.fieldLink RX2 31 "SpringPlates$Script" "next" "I") (by decide +kernel)
  have hgX2_37 := hts (.fieldLink RX2 37 "SpringPlates$Script" "numberCount" "I") (by decide +kernel)
  have hgX2_34 := hts (.fieldLink RX2 34 "SpringPlates$Script" "numbers" "[I") (by decide +kernel)
  refine nameH (fun H locs hHe hLe => ?_)
  have hP : va_P (dC, dI) vwCl [k2_0 aS vS, k2_1 cI aS vS, k2_2 cI aS vS] H := by rw [hHe]; exact hP
  have hS : va_S A s.heap H locs := by rw [hHe, hLe]; exact va_S.rf
  refine withW (fun WW hWW => ?_)
  have J56 : ∀ (vS : BX2) (x1 : Int32) (x2 : Int32) (x3 : Int32) (H : Heap) (locs : List Loc) (ls : Array Slot), va_P (dC, dI) vwCl [k2_0 aS vS, k2_1 cI aS vS, k2_2 cI aS vS] H → va_D A [k2_0 aS vS, k2_1 cI aS vS, k2_2 cI aS vS] → va_S A s.heap H locs → lv_has ls 4 [(0, .ref (aS 0)), (1, .int x1), (2, .int x2), (3, .int x3)] → fX2_readNumber_56 vS x1 x2 x3 = some y → WW H locs 0 0 ls 56 [] := by
    intro vS x1 x2 x3 H locs ls hP hD hS hl hf
    unfold fX2_readNumber_56 at hf
    refine (hWW _ _ _ _ _ _ _).2 ?_
    refine lv_iload_n hx hb dX2_readNumber_56 rfl (lv_at hl 3 rfl) ?_
    refine lv_if_eq (tgt := 68) hx hb dX2_readNumber_57 (by decide) (fun c9 => ?_) (fun c9 => ?_)
    · have hf := oif_t c9 hf
      refine lv_iconst (v := 0) hx hb dX2_readNumber_68 (by decide) ?_
      obtain rfl := Option.some.inj hf
      exact W.zret (v := 0) hx hb hr rfl (fun t ht hW => ⟨⟨0, (), rfl, rfl, by rw [ht]; exact hP, hD⟩, hS.F ht⟩) hS.2.2 dX2_readNumber_69
    · have hf := oif_f c9 hf
      refine lv_aload_n hx hb dX2_readNumber_60 rfl (lv_at hl 0 rfl) ?_
      refine va_get (D := (dC, dI)) (ci := 2) (v := .int (p2_numberCount vS)) (C := RX2) (T := TX2) (N := 9) hx hb hts hiX2 hown hK hP 0 rfl rfl 8 (by decide) hgX2_37 (fun _ h9 => h9) rfl dX2_readNumber_61 ?_
      refine lv_iconst (v := 3) hx hb dX2_readNumber_64 (by decide) ?_
      refine lv_icmp_lt (tgt := 70) hx hb dX2_readNumber_65 (by decide) (fun c10 => ?_) (fun c10 => ?_)
      · have hf := oif_t c10 hf
        refine lv_aload_n hx hb dX2_readNumber_70 rfl (lv_at hl 0 rfl) ?_
        refine va_get (D := (dC, dI)) (ci := 2) (v := .ref (aS 2)) (C := RX2) (T := TX2) (N := 9) hx hb hts hiX2 hown hK hP 0 rfl rfl 7 (by decide) hgX2_34 (fun _ h9 => h9) rfl dX2_readNumber_71 ?_
        refine lv_aload_n hx hb dX2_readNumber_74 rfl (lv_at hl 0 rfl) ?_
        refine va_get (D := (dC, dI)) (ci := 2) (v := .int (p2_numberCount vS)) (C := RX2) (T := TX2) (N := 9) hx hb hts hiX2 hown hK hP 0 rfl rfl 8 (by decide) hgX2_37 (fun _ h9 => h9) rfl dX2_readNumber_75 ?_
        refine lv_iload_n hx hb dX2_readNumber_78 rfl (lv_at hl 1 rfl) ?_
        refine lv_iload_n hx hb dX2_readNumber_79 rfl (lv_at hl 2 rfl) ?_
        refine lv_imul hx hb dX2_readNumber_80 ?_
        obtain ⟨hi11, hf⟩ := oinb rfl hf
        obtain ⟨b12, eb12, hf⟩ := elet_out hf
        refine va_iast hx hb hK hP hD hS 2 0 rfl rfl hi11 dX2_readNumber_81 (fun H locs hP hD hS => ?_)
        have hP : va_P (dC, dI) vwCl [k2_0 aS b12, k2_1 cI aS b12, k2_2 cI aS b12] H := by rw [eb12]; exact hP
        have hD : va_D A [k2_0 aS b12, k2_1 cI aS b12, k2_2 cI aS b12] := by rw [eb12]; exact hD
        refine lv_aload_n hx hb dX2_readNumber_82 rfl (lv_at hl 0 rfl) ?_
        refine lv_dup hx hb dX2_readNumber_83 rfl ?_
        refine va_get (D := (dC, dI)) (ci := 2) (v := .int (p2_numberCount b12)) (C := RX2) (T := TX2) (N := 9) hx hb hts hiX2 hown hK hP 0 rfl rfl 8 (by decide) hgX2_37 (fun _ h9 => h9) rfl dX2_readNumber_84 ?_
        refine lv_iconst (v := 1) hx hb dX2_readNumber_87 (by decide) ?_
        refine lv_iadd hx hb dX2_readNumber_88 ?_
        obtain ⟨b13, eb13, hf⟩ := elet_out hf
        refine va_put (D := (dC, dI)) (ci := 2) (v := .int ((p2_numberCount b12) + (1 : Int32))) (ty := .int) (C := RX2) (T := TX2) (N := 9) hx hb hts hiX2 tyX2 tyX2_ok nmX2 hown hK hP hD hS 0 rfl rfl 8 (by decide) hgX2_37 (fun _ h9 => h9) rfl (by decide +kernel) rfl rfl (Nat.le_of_ble_eq_true rfl) dX2_readNumber_89 (fun H locs hP hD hS => ?_)
        have hP : va_P (dC, dI) vwCl [k2_0 aS b13, k2_1 cI aS b13, k2_2 cI aS b13] H := by rw [eb13]; exact hP
        have hD : va_D A [k2_0 aS b13, k2_1 cI aS b13, k2_2 cI aS b13] := by rw [eb13]; exact hD
        refine lv_iconst (v := 1) hx hb dX2_readNumber_92 (by decide) ?_
        obtain rfl := Option.some.inj hf
        exact W.zret (v := 1) hx hb hr rfl (fun t ht hW => ⟨⟨1, (), rfl, rfl, by rw [ht]; exact hP, hD⟩, hS.F ht⟩) hS.2.2 dX2_readNumber_93
      · have hf := oif_f c10 hf
        refine lv_iconst (v := 0) hx hb dX2_readNumber_68 (by decide) ?_
        obtain rfl := Option.some.inj hf
        exact W.zret (v := 0) hx hb hr rfl (fun t ht hW => ⟨⟨0, (), rfl, rfl, by rw [ht]; exact hP, hD⟩, hS.F ht⟩) hS.2.2 dX2_readNumber_69
  have L4 : ∀ (n : Nat) (vS : BX2) (x1 : Int32) (x2 : Int32) (x3 : Int32) (H : Heap) (locs : List Loc) (ls : Array Slot), va_P (dC, dI) vwCl [k2_0 aS vS, k2_1 cI aS vS, k2_2 cI aS vS] H → va_D A [k2_0 aS vS, k2_1 cI aS vS, k2_2 cI aS vS] → va_S A s.heap H locs → lv_has ls 4 [(0, .ref (aS 0)), (1, .int x1), (2, .int x2), (3, .int x3)] → fX2_readNumber_4 n vS x1 x2 x3 = some y → WW H locs 0 0 ls 4 [] := by
    intro n
    induction n with
    | zero =>
      intro vS x1 x2 x3 H locs ls hP hD hS hl hf
      exact onone hf
    | succ n ih =>
      intro vS x1 x2 x3 H locs ls hP hD hS hl hf
      have hf : fX2_readNumber_4_b (fX2_readNumber_4 n) vS x1 x2 x3 = some y := hf
      generalize fX2_readNumber_4 n = k4 at hf ih
      have hk4 := ih
      clear ih
      unfold fX2_readNumber_4_b at hf
      refine (hWW _ _ _ _ _ _ _).2 ?_
      refine lv_iload_n hx hb dX2_readNumber_4 rfl (lv_at hl 3 rfl) ?_
      refine lv_iconst (v := 2) hx hb dX2_readNumber_5 (by decide) ?_
      refine lv_icmp_ge (tgt := 56) hx hb dX2_readNumber_6 (by decide) (fun c1 => ?_) (fun c1 => ?_)
      · have hf := oif_t c1 hf
        exact (hWW _ _ _ _ _ _ _).1 (J56 vS x1 x2 x3 H locs ls hP hD hS (lv_sub hl [0, 1, 2, 3] rfl) hf)
      · have hf := oif_f c1 hf
        refine lv_aload_n hx hb dX2_readNumber_9 rfl (lv_at hl 0 rfl) ?_
        refine lv_aload_n hx hb dX2_readNumber_10 rfl (lv_at hl 0 rfl) ?_
        refine va_get (D := (dC, dI)) (ci := 2) (v := .int (p2_next vS)) (C := RX2) (T := TX2) (N := 9) hx hb hts hiX2 hown hK hP 0 rfl rfl 6 (by decide) hgX2_31 (fun _ h9 => h9) rfl dX2_readNumber_11 ?_
        obtain ⟨y2, hy2, hf⟩ := obind hf
        refine cg_i (ws := [k2_0 aS vS, k2_1 cI aS vS, k2_2 cI aS vS]) (wc := [k2_0 aS vS, k2_1 cI aS vS, k2_2 cI aS vS]) (wr := []) (w1 := [k2_0 aS vS, k2_1 cI aS vS, k2_2 cI aS vS]) (wo := [k2_0 aS vS, k2_1 cI aS vS, k2_2 cI aS vS]) hP hD hS hA (va_runV (As := [.int (p2_next vS)]) (rest := []) ⟨hx, hb, hml, hown, hts⟩ (mX2_characterAt l dC dI cI cJ aS H.size vS (p2_next vS) y2 hy2) (cwV 1 hts gX2_readNumber_X2_characterAt rfl rfl rfl (by decide +kernel) ⟨Nat.le_of_ble_eq_true rfl, Nat.le_of_ble_eq_true rfl⟩) ⟨cFB, va_recv hK hP (ci := 2) (q0 := 0) rfl rfl, cPre hK hN hS (va_free (wc := [k2_0 aS vS, k2_1 cI aS vS, k2_2 cI aS vS]) hD hS hA [0, 1, 2] rfl) (hP.sub [0, 1, 2] rfl) (hD.sub [0, 1, 2] rfl rfl)⟩ rfl rfl hl.1 rfl (lv_room (Nat.le_of_ble_eq_true rfl)) dX2_readNumber_14 ⟨Nat.le_of_ble_eq_true rfl, Nat.le_of_ble_eq_true rfl⟩) [0, 1, 2] [] [0, 1, 2] rfl rfl rfl (by decide +kernel) rfl rfl (fun H locs hP hD hS => ?_)
        obtain ⟨y3, hy3, hf⟩ := obind hf
        refine cg_i (ws := [k2_0 aS vS, k2_1 cI aS vS, k2_2 cI aS vS]) (wc := []) (wr := [k2_0 aS vS, k2_1 cI aS vS, k2_2 cI aS vS]) (w1 := []) (wo := [k2_0 aS vS, k2_1 cI aS vS, k2_2 cI aS vS]) hP hD hS hA (va_runS (As := [.int y2]) (rest := []) ⟨hx, hb, hml, hown, hts⟩ (mX2_isDigit l dC dI cI cJ  H.size y2 y3 hy3) (va_cwS 1 hts gX2_readNumber_X2_isDigit rfl rfl rfl (by decide +kernel) ⟨Nat.le_of_ble_eq_true rfl, Nat.le_of_ble_eq_true rfl⟩) ⟨cFB, cPre hK hN hS (va_free (wc := []) hD hS hA [] rfl) (hP.sub [] rfl) (hD.sub [] rfl rfl)⟩ rfl rfl hl.1 rfl (lv_room (Nat.le_of_ble_eq_true rfl)) dX2_readNumber_17 ⟨Nat.le_of_ble_eq_true rfl, Nat.le_of_ble_eq_true rfl⟩) [] [0, 1, 2] [0, 1, 2] rfl rfl rfl (by decide +kernel) rfl rfl (fun H locs hP hD hS => ?_)
        refine lv_if_eq (tgt := 56) hx hb dX2_readNumber_20 (by decide) (fun c4 => ?_) (fun c4 => ?_)
        · have hf := oif_t c4 hf
          exact (hWW _ _ _ _ _ _ _).1 (J56 vS x1 x2 x3 H locs ls hP hD hS (lv_sub hl [0, 1, 2, 3] rfl) hf)
        · have hf := oif_f c4 hf
          refine lv_bipush (v := 10) hx hb dX2_readNumber_23 (by decide) ?_
          refine lv_iload_n hx hb dX2_readNumber_25 rfl (lv_at hl 2 rfl) ?_
          refine lv_imul hx hb dX2_readNumber_26 ?_
          refine lv_aload_n hx hb dX2_readNumber_27 rfl (lv_at hl 0 rfl) ?_
          refine lv_aload_n hx hb dX2_readNumber_28 rfl (lv_at hl 0 rfl) ?_
          refine va_get (D := (dC, dI)) (ci := 2) (v := .int (p2_next vS)) (C := RX2) (T := TX2) (N := 9) hx hb hts hiX2 hown hK hP 0 rfl rfl 6 (by decide) hgX2_31 (fun _ h9 => h9) rfl dX2_readNumber_29 ?_
          obtain ⟨y5, hy5, hf⟩ := obind hf
          refine cg_i (ws := [k2_0 aS vS, k2_1 cI aS vS, k2_2 cI aS vS]) (wc := [k2_0 aS vS, k2_1 cI aS vS, k2_2 cI aS vS]) (wr := []) (w1 := [k2_0 aS vS, k2_1 cI aS vS, k2_2 cI aS vS]) (wo := [k2_0 aS vS, k2_1 cI aS vS, k2_2 cI aS vS]) hP hD hS hA (va_runV (As := [.int (p2_next vS)]) (rest := [.int ((10 : Int32) * x2)]) ⟨hx, hb, hml, hown, hts⟩ (mX2_characterAt l dC dI cI cJ aS H.size vS (p2_next vS) y5 hy5) (cwV 1 hts gX2_readNumber_X2_characterAt rfl rfl rfl (by decide +kernel) ⟨Nat.le_of_ble_eq_true rfl, Nat.le_of_ble_eq_true rfl⟩) ⟨cFB, va_recv hK hP (ci := 2) (q0 := 0) rfl rfl, cPre hK hN hS (va_free (wc := [k2_0 aS vS, k2_1 cI aS vS, k2_2 cI aS vS]) hD hS hA [0, 1, 2] rfl) (hP.sub [0, 1, 2] rfl) (hD.sub [0, 1, 2] rfl rfl)⟩ rfl rfl hl.1 rfl (lv_room (Nat.le_of_ble_eq_true rfl)) dX2_readNumber_32 ⟨Nat.le_of_ble_eq_true rfl, Nat.le_of_ble_eq_true rfl⟩) [0, 1, 2] [] [0, 1, 2] rfl rfl rfl (by decide +kernel) rfl rfl (fun H locs hP hD hS => ?_)
          refine lv_iadd hx hb dX2_readNumber_35 ?_
          refine lv_bipush (v := 48) hx hb dX2_readNumber_36 (by decide) ?_
          refine lv_isub hx hb dX2_readNumber_38 ?_
          obtain ⟨z6, ez6, hf⟩ := elet_out hf
          refine lvn_i ez6 ?_
          refine lv_istore_n (lv' := [(2, .int z6), (0, .ref (aS 0)), (1, .int x1), (3, .int x3)]) hx hb dX2_readNumber_39 rfl hl (by decide) rfl (fun ls hl => ?_)
          refine lv_aload_n hx hb dX2_readNumber_40 rfl (lv_at hl 1 rfl) ?_
          refine lv_dup hx hb dX2_readNumber_41 rfl ?_
          refine va_get (D := (dC, dI)) (ci := 2) (v := .int (p2_next vS)) (C := RX2) (T := TX2) (N := 9) hx hb hts hiX2 hown hK hP 0 rfl rfl 6 (by decide) hgX2_31 (fun _ h9 => h9) rfl dX2_readNumber_42 ?_
          refine lv_iconst (v := 1) hx hb dX2_readNumber_45 (by decide) ?_
          refine lv_iadd hx hb dX2_readNumber_46 ?_
          obtain ⟨b7, eb7, hf⟩ := elet_out hf
          refine va_put (D := (dC, dI)) (ci := 2) (v := .int ((p2_next vS) + (1 : Int32))) (ty := .int) (C := RX2) (T := TX2) (N := 9) hx hb hts hiX2 tyX2 tyX2_ok nmX2 hown hK hP hD hS 0 rfl rfl 6 (by decide) hgX2_31 (fun _ h9 => h9) rfl (by decide +kernel) rfl rfl (Nat.le_of_ble_eq_true rfl) dX2_readNumber_47 (fun H locs hP hD hS => ?_)
          have hP : va_P (dC, dI) vwCl [k2_0 aS b7, k2_1 cI aS b7, k2_2 cI aS b7] H := by rw [eb7]; exact hP
          have hD : va_D A [k2_0 aS b7, k2_1 cI aS b7, k2_2 cI aS b7] := by rw [eb7]; exact hD
          obtain ⟨z8, ez8, hf⟩ := elet_out hf
          refine lv_iinc (v := z8) (lv' := [(3, .int z8), (2, .int z6), (0, .ref (aS 0)), (1, .int x1)]) hx hb dX2_readNumber_50 hl (k := 3) rfl (by rw [ez8]; rfl) (by decide) rfl (fun ls hl => ?_)
          refine lv_goto (tgt := 4) hx hb dX2_readNumber_53 (by decide) ?_
          exact (hWW _ _ _ _ _ _ _).1 (hk4 b7 x1 z6 z8 H locs ls hP hD hS (lv_sub hl [2, 3, 1, 0] rfl) hf)
  refine (hWW _ _ _ _ _ _ _).2 ?_
  unfold fX2_readNumber at hf
  refine lv_iconst (v := 0) hx hb dX2_readNumber_0 (by decide) ?_
  refine lv_istore_n (lv' := [(2, .int 0), (0, .ref (aS 0)), (1, .int i1)]) hx hb dX2_readNumber_1 rfl hl (by decide) rfl (fun ls hl => ?_)
  refine lv_iconst (v := 0) hx hb dX2_readNumber_2 (by decide) ?_
  refine lv_istore_n (lv' := [(3, .int 0), (2, .int 0), (0, .ref (aS 0)), (1, .int i1)]) hx hb dX2_readNumber_3 rfl hl (by decide) rfl (fun ls hl => ?_)
  exact (hWW _ _ _ _ _ _ _).1 (L4 FU vS i1 (0 : Int32) (0 : Int32) H locs ls hP hD hS (lv_sub hl [2, 3, 1, 0] rfl) hf)
def fX2_readPart_33 (vS : BX2) (st1 : Int32) : Option (Int32 × BX2) :=
  (fX2_readNumber vS st1).bind (fun y1 => if zB y1.1 = true then (some (y1.1, y1.2)) else none)
def fX2_readPart (vS : BX2) (i1 : Int32) : Option (Int32 × BX2) :=
  if i1 = (48 : Int32) then ((fX2_readNumber vS (1 : Int32)).bind (fun y9 => if zB y9.1 = true then (some (y9.1, y9.2)) else none)) else (if i1 = (45 : Int32) then ((fX2_readCharacter vS (45 : Int32)).bind (fun y7 => if y7.1 = 0 then (fX2_readPart_33 y7.2 (1 : Int32)) else (fX2_readPart_33 y7.2 (-1 : Int32)))) else ((fX2_readCharacter vS i1).bind (fun y5 => if zB y5.1 = true then (some (y5.1, y5.2)) else none)))
set_option maxHeartbeats 8000000 in
set_option maxRecDepth 100000 in
theorem mX2_readPart (l : Launch) (dC : Nat → ClassId) (dI : Nat → Nat → Nat) (cI cJ : ClassId) (aS : Nat → Nat) (sz : Nat) (vS : BX2) (i1 : Int32) (y : (Int32 × BX2)) (hf : fX2_readPart vS i1 = some y) : Met l yX2_readPart wsX2_readPart ({ frames := 2, cells := 0, slots := 0, locals := 44 }) (cPc dC dI cI cJ [.ref (aS 0), .int i1] [k2_0 aS vS, k2_1 cI aS vS, k2_2 cI aS vS] sz) (va_Qi (fun r (_ : Unit) => r = y.1) (fun _ t => cB dC dI (va_A [k2_0 aS vS, k2_1 cI aS vS, k2_2 cI aS vS] sz) [k2_0 aS y.2, k2_1 cI aS y.2, k2_2 cI aS y.2] t) (va_A [k2_0 aS vS, k2_1 cI aS vS, k2_2 cI aS vS] sz)) 0 0 (va_A [k2_0 aS vS, k2_1 cI aS vS, k2_2 cI aS vS] sz) := by
  refine Met.ofW (cc := cX2_readPart) (maxL := 2) (ret := (some .boolean)) (by decide) rfl ?_
  intro p e s m args below meth c s₁ B hml hv
  obtain ⟨rfl, hsz, hP, hK, hD0, hN⟩ := hv
  have hx := B.exec
  have hb := B.bytes
  have hr := B.returns
  have hts := atoms_spec (ws := wsX2_readPart) B.pre
  have hown : s.vm.findClass RX2 = some m.cls := findClass_of_methodNamed B.named
  have hlocks := B.notSynchronized
  subst hsz
  have hD := hD0.self (sz := s.heap.size)
  generalize hAe : va_A [k2_0 aS vS, k2_1 cI aS vS, k2_2 cI aS vS] s.heap.size = A at hD hN ⊢
  have hA : ∀ q : Nat, s.heap.size ≤ q → A q := fun q h => by rw [← hAe]; exact Or.inr h
  have hP : va_P (dC, dI) vwCl [k2_0 aS vS, k2_1 cI aS vS, k2_2 cI aS vS] s.heap := hP
  have hl := lv_entry ([.ref (aS 0), .int i1]) (n := 2) (Nat.le_of_ble_eq_true rfl)
  rw [lg_entry_eq]
  generalize (lg_sl ([.ref (aS 0), .int i1]) ++ List.replicate (2 - (lg_sl ([.ref (aS 0), .int i1])).length) Slot.unset).toArray = ls at hl ⊢
  have hl : lv_has ls 2 [(0, .ref (aS 0)), (1, .int i1)] := hl
  refine nameH (fun H locs hHe hLe => ?_)
  have hP : va_P (dC, dI) vwCl [k2_0 aS vS, k2_1 cI aS vS, k2_2 cI aS vS] H := by rw [hHe]; exact hP
  have hS : va_S A s.heap H locs := by rw [hHe, hLe]; exact va_S.rf
  refine withW (fun WW hWW => ?_)
  have J33 : ∀ (vS : BX2) (st1 : Int32) (H : Heap) (locs : List Loc) (ls : Array Slot), va_P (dC, dI) vwCl [k2_0 aS vS, k2_1 cI aS vS, k2_2 cI aS vS] H → va_D A [k2_0 aS vS, k2_1 cI aS vS, k2_2 cI aS vS] → va_S A s.heap H locs → lv_has ls 2 [] → fX2_readPart_33 vS st1 = some y → WW H locs 0 0 ls 33 [.int st1, .ref (aS 0)] := by
    intro vS st1 H locs ls hP hD hS hl hf
    unfold fX2_readPart_33 at hf
    refine (hWW _ _ _ _ _ _ _).2 ?_
    obtain ⟨y1, hy1, hf⟩ := obind hf
    refine cg_i (ws := [k2_0 aS vS, k2_1 cI aS vS, k2_2 cI aS vS]) (wc := [k2_0 aS vS, k2_1 cI aS vS, k2_2 cI aS vS]) (wr := []) (w1 := [k2_0 aS y1.2, k2_1 cI aS y1.2, k2_2 cI aS y1.2]) (wo := [k2_0 aS y1.2, k2_1 cI aS y1.2, k2_2 cI aS y1.2]) hP hD hS hA (va_runV (As := [.int st1]) (rest := []) ⟨hx, hb, hml, hown, hts⟩ (mX2_readNumber l dC dI cI cJ aS H.size vS st1 y1 hy1) (cwV 1 hts gX2_readPart_X2_readNumber rfl rfl rfl (by decide +kernel) ⟨Nat.le_of_ble_eq_true rfl, Nat.le_of_ble_eq_true rfl⟩) ⟨cFB, va_recv hK hP (ci := 2) (q0 := 0) rfl rfl, cPre hK hN hS (va_free (wc := [k2_0 aS vS, k2_1 cI aS vS, k2_2 cI aS vS]) hD hS hA [0, 1, 2] rfl) (hP.sub [0, 1, 2] rfl) (hD.sub [0, 1, 2] rfl rfl)⟩ rfl rfl hl.1 rfl (lv_room (Nat.le_of_ble_eq_true rfl)) dX2_readPart_33 ⟨Nat.le_of_ble_eq_true rfl, Nat.le_of_ble_eq_true rfl⟩) [0, 1, 2] [] [0, 1, 2] rfl rfl rfl (by decide +kernel) rfl rfl (fun H locs hP hD hS => ?_)
    obtain ⟨hz2, hf⟩ := ozb hf
    obtain rfl := Option.some.inj hf
    exact W.zret (v := y1.1) hx hb hr hz2 (fun t ht hW => ⟨⟨y1.1, (), rfl, rfl, by rw [ht]; exact hP, hD⟩, hS.F ht⟩) hS.2.2 dX2_readPart_36
  refine (hWW _ _ _ _ _ _ _).2 ?_
  unfold fX2_readPart at hf
  refine lv_iload_n hx hb dX2_readPart_0 rfl (lv_at hl 1 rfl) ?_
  refine lv_bipush (v := 48) hx hb dX2_readPart_1 (by decide) ?_
  refine lv_icmp_ne (tgt := 12) hx hb dX2_readPart_3 (by decide) (fun c3 => ?_) (fun c3 => ?_)
  · have hf := oif_f c3 hf
    refine lv_iload_n hx hb dX2_readPart_12 rfl (lv_at hl 1 rfl) ?_
    refine lv_bipush (v := 45) hx hb dX2_readPart_13 (by decide) ?_
    refine lv_icmp_ne (tgt := 37) hx hb dX2_readPart_15 (by decide) (fun c4 => ?_) (fun c4 => ?_)
    · have hf := oif_f c4 hf
      refine lv_aload_n hx hb dX2_readPart_37 rfl (lv_at hl 0 rfl) ?_
      refine lv_iload_n hx hb dX2_readPart_38 rfl (lv_at hl 1 rfl) ?_
      obtain ⟨y5, hy5, hf⟩ := obind hf
      refine cg_i (ws := [k2_0 aS vS, k2_1 cI aS vS, k2_2 cI aS vS]) (wc := [k2_0 aS vS, k2_1 cI aS vS, k2_2 cI aS vS]) (wr := []) (w1 := [k2_0 aS y5.2, k2_1 cI aS y5.2, k2_2 cI aS y5.2]) (wo := [k2_0 aS y5.2, k2_1 cI aS y5.2, k2_2 cI aS y5.2]) hP hD hS hA (va_runV (As := [.int i1]) (rest := []) ⟨hx, hb, hml, hown, hts⟩ (mX2_readCharacter l dC dI cI cJ aS H.size vS i1 y5 hy5) (cwV 1 hts gX2_readPart_X2_readCharacter rfl rfl rfl (by decide +kernel) ⟨Nat.le_of_ble_eq_true rfl, Nat.le_of_ble_eq_true rfl⟩) ⟨cFB, va_recv hK hP (ci := 2) (q0 := 0) rfl rfl, cPre hK hN hS (va_free (wc := [k2_0 aS vS, k2_1 cI aS vS, k2_2 cI aS vS]) hD hS hA [0, 1, 2] rfl) (hP.sub [0, 1, 2] rfl) (hD.sub [0, 1, 2] rfl rfl)⟩ rfl rfl hl.1 rfl (lv_room (Nat.le_of_ble_eq_true rfl)) dX2_readPart_39 ⟨Nat.le_of_ble_eq_true rfl, Nat.le_of_ble_eq_true rfl⟩) [0, 1, 2] [] [0, 1, 2] rfl rfl rfl (by decide +kernel) rfl rfl (fun H locs hP hD hS => ?_)
      obtain ⟨hz6, hf⟩ := ozb hf
      obtain rfl := Option.some.inj hf
      exact W.zret (v := y5.1) hx hb hr hz6 (fun t ht hW => ⟨⟨y5.1, (), rfl, rfl, by rw [ht]; exact hP, hD⟩, hS.F ht⟩) hS.2.2 dX2_readPart_42
    · have hf := oif_t c4 hf
      refine lv_aload_n hx hb dX2_readPart_18 rfl (lv_at hl 0 rfl) ?_
      refine lv_aload_n hx hb dX2_readPart_19 rfl (lv_at hl 0 rfl) ?_
      refine lv_bipush (v := 45) hx hb dX2_readPart_20 (by decide) ?_
      obtain ⟨y7, hy7, hf⟩ := obind hf
      refine cg_i (ws := [k2_0 aS vS, k2_1 cI aS vS, k2_2 cI aS vS]) (wc := [k2_0 aS vS, k2_1 cI aS vS, k2_2 cI aS vS]) (wr := []) (w1 := [k2_0 aS y7.2, k2_1 cI aS y7.2, k2_2 cI aS y7.2]) (wo := [k2_0 aS y7.2, k2_1 cI aS y7.2, k2_2 cI aS y7.2]) hP hD hS hA (va_runV (As := [.int 45]) (rest := [.ref (aS 0)]) ⟨hx, hb, hml, hown, hts⟩ (mX2_readCharacter l dC dI cI cJ aS H.size vS (45 : Int32) y7 hy7) (cwV 1 hts gX2_readPart_X2_readCharacter rfl rfl rfl (by decide +kernel) ⟨Nat.le_of_ble_eq_true rfl, Nat.le_of_ble_eq_true rfl⟩) ⟨cFB, va_recv hK hP (ci := 2) (q0 := 0) rfl rfl, cPre hK hN hS (va_free (wc := [k2_0 aS vS, k2_1 cI aS vS, k2_2 cI aS vS]) hD hS hA [0, 1, 2] rfl) (hP.sub [0, 1, 2] rfl) (hD.sub [0, 1, 2] rfl rfl)⟩ rfl rfl hl.1 rfl (lv_room (Nat.le_of_ble_eq_true rfl)) dX2_readPart_22 ⟨Nat.le_of_ble_eq_true rfl, Nat.le_of_ble_eq_true rfl⟩) [0, 1, 2] [] [0, 1, 2] rfl rfl rfl (by decide +kernel) rfl rfl (fun H locs hP hD hS => ?_)
      refine lv_if_eq (tgt := 32) hx hb dX2_readPart_25 (by decide) (fun c8 => ?_) (fun c8 => ?_)
      · have hf := oif_t c8 hf
        refine lv_iconst (v := 1) hx hb dX2_readPart_32 (by decide) ?_
        exact (hWW _ _ _ _ _ _ _).1 (J33 y7.2 (1 : Int32) H locs ls hP hD hS (lv_sub hl [] rfl) hf)
      · have hf := oif_f c8 hf
        refine lv_iconst (v := (-1)) hx hb dX2_readPart_28 (by decide) ?_
        refine lv_goto (tgt := 33) hx hb dX2_readPart_29 (by decide) ?_
        exact (hWW _ _ _ _ _ _ _).1 (J33 y7.2 (-1 : Int32) H locs ls hP hD hS (lv_sub hl [] rfl) hf)
  · have hf := oif_t c3 hf
    refine lv_aload_n hx hb dX2_readPart_6 rfl (lv_at hl 0 rfl) ?_
    refine lv_iconst (v := 1) hx hb dX2_readPart_7 (by decide) ?_
    obtain ⟨y9, hy9, hf⟩ := obind hf
    refine cg_i (ws := [k2_0 aS vS, k2_1 cI aS vS, k2_2 cI aS vS]) (wc := [k2_0 aS vS, k2_1 cI aS vS, k2_2 cI aS vS]) (wr := []) (w1 := [k2_0 aS y9.2, k2_1 cI aS y9.2, k2_2 cI aS y9.2]) (wo := [k2_0 aS y9.2, k2_1 cI aS y9.2, k2_2 cI aS y9.2]) hP hD hS hA (va_runV (As := [.int 1]) (rest := []) ⟨hx, hb, hml, hown, hts⟩ (mX2_readNumber l dC dI cI cJ aS H.size vS (1 : Int32) y9 hy9) (cwV 1 hts gX2_readPart_X2_readNumber rfl rfl rfl (by decide +kernel) ⟨Nat.le_of_ble_eq_true rfl, Nat.le_of_ble_eq_true rfl⟩) ⟨cFB, va_recv hK hP (ci := 2) (q0 := 0) rfl rfl, cPre hK hN hS (va_free (wc := [k2_0 aS vS, k2_1 cI aS vS, k2_2 cI aS vS]) hD hS hA [0, 1, 2] rfl) (hP.sub [0, 1, 2] rfl) (hD.sub [0, 1, 2] rfl rfl)⟩ rfl rfl hl.1 rfl (lv_room (Nat.le_of_ble_eq_true rfl)) dX2_readPart_8 ⟨Nat.le_of_ble_eq_true rfl, Nat.le_of_ble_eq_true rfl⟩) [0, 1, 2] [] [0, 1, 2] rfl rfl rfl (by decide +kernel) rfl rfl (fun H locs hP hD hS => ?_)
    obtain ⟨hz10, hf⟩ := ozb hf
    obtain rfl := Option.some.inj hf
    exact W.zret (v := y9.1) hx hb hr hz10 (fun t ht hW => ⟨⟨y9.1, (), rfl, rfl, by rw [ht]; exact hP, hD⟩, hS.F ht⟩) hS.2.2 dX2_readPart_11
def fX2_numberOutOfRange_172 (vL : BX0) (vS : BX2) : Option Int32 :=
  (fX0_hasPlate vL ((p2_numbers vS) ((0 : Int32)).toNatClampNeg)).bind (fun y1 => if y1 = 0 then (some 0) else (some (-1)))
def fX2_numberOutOfRange_191 (vL : BX0) (vS : BX2) : Option Int32 :=
  (fX0_hasPlate vL ((p2_numbers vS) ((0 : Int32)).toNatClampNeg)).bind (fun y3 => if y3 = 0 then (some 0) else (if ((p2_numbers vS) ((1 : Int32)).toNatClampNeg) ≤ (p0_width vL) then (some (-1)) else (some 1)))
def fX2_numberOutOfRange (vL : BX0) (vS : BX2) : Option Int32 :=
  (fX2_characterAt vS (p2_start vS)).bind (fun y6 => if y6 = 102 then (fX2_numberOutOfRange_172 vL vS) else (if y6 = 103 then (some (-1)) else (if y6 = 104 then (some (-1)) else (if y6 = 105 then (some (-1)) else (if y6 = 106 then (some (-1)) else (if y6 = 107 then ((fX0_hasSpring vL ((p2_numbers vS) ((0 : Int32)).toNatClampNeg)).bind (fun y13 => if y13 = 0 then (some 0) else (if ((p2_numbers vS) ((1 : Int32)).toNatClampNeg) < (1 : Int32) then (some 1) else (if ((p2_numbers vS) ((1 : Int32)).toNatClampNeg) ≤ (9 : Int32) then (if ((p2_numbers vS) ((2 : Int32)).toNatClampNeg) ≤ (50 : Int32) then (some (-1)) else (some 2)) else (some 1))))) else (if y6 = 108 then (fX2_numberOutOfRange_191 vL vS) else (if y6 = 109 then (some (-1)) else (if y6 = 110 then (some (-1)) else (if y6 = 111 then (some (-1)) else (if y6 = 112 then (some (-1)) else (if y6 = 113 then (some (-1)) else (if y6 = 114 then (fX2_numberOutOfRange_191 vL vS) else (if y6 = 115 then (some (-1)) else (if y6 = 116 then (some (-1)) else (if y6 = 117 then (some (-1)) else (if y6 = 118 then (some (-1)) else (if y6 = 119 then (if (10 : Int32) ≤ ((p2_numbers vS) ((0 : Int32)).toNatClampNeg) then (some (-1)) else (some 0)) else (if y6 = 120 then (fX2_numberOutOfRange_172 vL vS) else (some (-1)))))))))))))))))))))
set_option maxHeartbeats 8000000 in
set_option maxRecDepth 100000 in
theorem mX2_numberOutOfRange (l : Launch) (dC : Nat → ClassId) (dI : Nat → Nat → Nat) (cI cJ : ClassId) (aL : Nat → Nat) (aS : Nat → Nat) (sz : Nat) (vL : BX0) (vS : BX2) (y : Int32) (hf : fX2_numberOutOfRange vL vS = some y) : Met l yX2_numberOutOfRange wsX2_numberOutOfRange ({ frames := 1, cells := 0, slots := 0, locals := 21 }) (cPc dC dI cI cJ [.ref (aS 0), .ref (aL 0)] [k0_0 aL vL, k0_1 cI aL vL, k0_2 cI aL vL, k0_3 cI aL vL, k0_4 cI aL vL, k2_0 aS vS, k2_1 cI aS vS, k2_2 cI aS vS] sz) (va_Qi (fun r (_ : Unit) => r = y) (fun _ t => cB dC dI (va_A [k0_0 aL vL, k0_1 cI aL vL, k0_2 cI aL vL, k0_3 cI aL vL, k0_4 cI aL vL, k2_0 aS vS, k2_1 cI aS vS, k2_2 cI aS vS] sz) [k0_0 aL vL, k0_1 cI aL vL, k0_2 cI aL vL, k0_3 cI aL vL, k0_4 cI aL vL, k2_0 aS vS, k2_1 cI aS vS, k2_2 cI aS vS] t) (va_A [k0_0 aL vL, k0_1 cI aL vL, k0_2 cI aL vL, k0_3 cI aL vL, k0_4 cI aL vL, k2_0 aS vS, k2_1 cI aS vS, k2_2 cI aS vS] sz)) 0 0 (va_A [k0_0 aL vL, k0_1 cI aL vL, k0_2 cI aL vL, k0_3 cI aL vL, k0_4 cI aL vL, k2_0 aS vS, k2_1 cI aS vS, k2_2 cI aS vS] sz) := by
  refine Met.ofW (cc := cX2_numberOutOfRange) (maxL := 2) (ret := (some .int)) (by decide) rfl ?_
  intro p e s m args below meth c s₁ B hml hv
  obtain ⟨rfl, hsz, hP, hK, hD0, hN⟩ := hv
  have hx := B.exec
  have hb := B.bytes
  have hr := B.returns
  have hts := atoms_spec (ws := wsX2_numberOutOfRange) B.pre
  have hown : s.vm.findClass RX2 = some m.cls := findClass_of_methodNamed B.named
  have hlocks := B.notSynchronized
  subst hsz
  have hD := hD0.self (sz := s.heap.size)
  generalize hAe : va_A [k0_0 aL vL, k0_1 cI aL vL, k0_2 cI aL vL, k0_3 cI aL vL, k0_4 cI aL vL, k2_0 aS vS, k2_1 cI aS vS, k2_2 cI aS vS] s.heap.size = A at hD hN ⊢
  have hA : ∀ q : Nat, s.heap.size ≤ q → A q := fun q h => by rw [← hAe]; exact Or.inr h
  have hP : va_P (dC, dI) vwCl [k0_0 aL vL, k0_1 cI aL vL, k0_2 cI aL vL, k0_3 cI aL vL, k0_4 cI aL vL, k2_0 aS vS, k2_1 cI aS vS, k2_2 cI aS vS] s.heap := hP
  have hl := lv_entry ([.ref (aS 0), .ref (aL 0)]) (n := 2) (Nat.le_of_ble_eq_true rfl)
  rw [lg_entry_eq]
  generalize (lg_sl ([.ref (aS 0), .ref (aL 0)]) ++ List.replicate (2 - (lg_sl ([.ref (aS 0), .ref (aL 0)])).length) Slot.unset).toArray = ls at hl ⊢
  have hl : lv_has ls 2 [(0, .ref (aS 0)), (1, .ref (aL 0))] := hl
  have hiX2 : ∀ w ∈ u_ws RX2 TX2 9, w ∈ wsX2_numberOutOfRange := by decide +kernel
  have hgX2_34 := hts (.fieldLink RX2 34 "SpringPlates$Script" "numbers" "[I") (by decide +kernel)
  have hiX0 : ∀ w ∈ u_ws RX0 TX0 6, w ∈ wsX2_numberOutOfRange := by decide +kernel
  have hgX0_115 := hts (.fieldLink RX2 115 "SpringPlates$Layout" "width" "I") (by decide +kernel)
  have hgX2_28 := hts (.fieldLink RX2 28 "SpringPlates$Script" "start" "I") (by decide +kernel)
  refine nameH (fun H locs hHe hLe => ?_)
  have hP : va_P (dC, dI) vwCl [k0_0 aL vL, k0_1 cI aL vL, k0_2 cI aL vL, k0_3 cI aL vL, k0_4 cI aL vL, k2_0 aS vS, k2_1 cI aS vS, k2_2 cI aS vS] H := by rw [hHe]; exact hP
  have hS : va_S A s.heap H locs := by rw [hHe, hLe]; exact va_S.rf
  refine withW (fun WW hWW => ?_)
  have J172 : ∀ (H : Heap) (locs : List Loc) (ls : Array Slot), va_P (dC, dI) vwCl [k0_0 aL vL, k0_1 cI aL vL, k0_2 cI aL vL, k0_3 cI aL vL, k0_4 cI aL vL, k2_0 aS vS, k2_1 cI aS vS, k2_2 cI aS vS] H → va_D A [k0_0 aL vL, k0_1 cI aL vL, k0_2 cI aL vL, k0_3 cI aL vL, k0_4 cI aL vL, k2_0 aS vS, k2_1 cI aS vS, k2_2 cI aS vS] → va_S A s.heap H locs → lv_has ls 2 [(0, .ref (aS 0)), (1, .ref (aL 0))] → fX2_numberOutOfRange_172 vL vS = some y → WW H locs 0 0 ls 172 [] := by
    intro  H locs ls hP hD hS hl hf
    unfold fX2_numberOutOfRange_172 at hf
    refine (hWW _ _ _ _ _ _ _).2 ?_
    refine lv_aload_n hx hb dX2_numberOutOfRange_172 rfl (lv_at hl 1 rfl) ?_
    refine lv_aload_n hx hb dX2_numberOutOfRange_173 rfl (lv_at hl 0 rfl) ?_
    refine va_get (D := (dC, dI)) (ci := 2) (v := .ref (aS 2)) (C := RX2) (T := TX2) (N := 9) hx hb hts hiX2 hown hK hP 5 rfl rfl 7 (by decide) hgX2_34 (fun _ h9 => h9) rfl dX2_numberOutOfRange_174 ?_
    refine lv_iconst (v := 0) hx hb dX2_numberOutOfRange_177 (by decide) ?_
    refine va_iald hx hb hK hP 7 0 rfl rfl (vpc rfl) dX2_numberOutOfRange_178 ?_
    obtain ⟨y1, hy1, hf⟩ := obind hf
    refine cg_i (ws := [k0_0 aL vL, k0_1 cI aL vL, k0_2 cI aL vL, k0_3 cI aL vL, k0_4 cI aL vL, k2_0 aS vS, k2_1 cI aS vS, k2_2 cI aS vS]) (wc := [k0_0 aL vL, k0_1 cI aL vL, k0_2 cI aL vL, k0_3 cI aL vL, k0_4 cI aL vL]) (wr := [k2_0 aS vS, k2_1 cI aS vS, k2_2 cI aS vS]) (w1 := [k0_0 aL vL, k0_1 cI aL vL, k0_2 cI aL vL, k0_3 cI aL vL, k0_4 cI aL vL]) (wo := [k0_0 aL vL, k0_1 cI aL vL, k0_2 cI aL vL, k0_3 cI aL vL, k0_4 cI aL vL, k2_0 aS vS, k2_1 cI aS vS, k2_2 cI aS vS]) hP hD hS hA (va_runV (As := [.int ((p2_numbers vS) ((0 : Int32)).toNatClampNeg)]) (rest := []) ⟨hx, hb, hml, hown, hts⟩ (mX0_hasPlate l dC dI cI cJ aL H.size vL ((p2_numbers vS) ((0 : Int32)).toNatClampNeg) y1 hy1) (cwV 1 hts gX2_numberOutOfRange_X0_hasPlate rfl rfl rfl (by decide +kernel) ⟨Nat.le_of_ble_eq_true rfl, Nat.le_of_ble_eq_true rfl⟩) ⟨cFB, va_recv hK hP (ci := 0) (q0 := 0) rfl rfl, cPre hK hN hS (va_free (wc := [k0_0 aL vL, k0_1 cI aL vL, k0_2 cI aL vL, k0_3 cI aL vL, k0_4 cI aL vL]) hD hS hA [0, 1, 2, 3, 4] rfl) (hP.sub [0, 1, 2, 3, 4] rfl) (hD.sub [0, 1, 2, 3, 4] rfl rfl)⟩ rfl rfl hl.1 rfl (lv_room (Nat.le_of_ble_eq_true rfl)) dX2_numberOutOfRange_179 ⟨Nat.le_of_ble_eq_true rfl, Nat.le_of_ble_eq_true rfl⟩) [0, 1, 2, 3, 4] [5, 6, 7] [3, 4, 5, 6, 7, 0, 1, 2] rfl rfl rfl (by decide +kernel) rfl rfl (fun H locs hP hD hS => ?_)
    refine lv_if_eq (tgt := 189) hx hb dX2_numberOutOfRange_182 (by decide) (fun c2 => ?_) (fun c2 => ?_)
    · have hf := oif_t c2 hf
      refine lv_iconst (v := 0) hx hb dX2_numberOutOfRange_189 (by decide) ?_
      obtain rfl := Option.some.inj hf
      exact W.iret (v := 0) hx hb hr (fun t ht hW => ⟨⟨0, (), rfl, rfl, by rw [ht]; exact hP, hD⟩, hS.F ht⟩) hS.2.2 dX2_numberOutOfRange_190
    · have hf := oif_f c2 hf
      refine lv_iconst (v := (-1)) hx hb dX2_numberOutOfRange_185 (by decide) ?_
      refine lv_goto (tgt := 190) hx hb dX2_numberOutOfRange_186 (by decide) ?_
      obtain rfl := Option.some.inj hf
      exact W.iret (v := (-1)) hx hb hr (fun t ht hW => ⟨⟨(-1), (), rfl, rfl, by rw [ht]; exact hP, hD⟩, hS.F ht⟩) hS.2.2 dX2_numberOutOfRange_190
  have J191 : ∀ (H : Heap) (locs : List Loc) (ls : Array Slot), va_P (dC, dI) vwCl [k0_0 aL vL, k0_1 cI aL vL, k0_2 cI aL vL, k0_3 cI aL vL, k0_4 cI aL vL, k2_0 aS vS, k2_1 cI aS vS, k2_2 cI aS vS] H → va_D A [k0_0 aL vL, k0_1 cI aL vL, k0_2 cI aL vL, k0_3 cI aL vL, k0_4 cI aL vL, k2_0 aS vS, k2_1 cI aS vS, k2_2 cI aS vS] → va_S A s.heap H locs → lv_has ls 2 [(0, .ref (aS 0)), (1, .ref (aL 0))] → fX2_numberOutOfRange_191 vL vS = some y → WW H locs 0 0 ls 191 [] := by
    intro  H locs ls hP hD hS hl hf
    unfold fX2_numberOutOfRange_191 at hf
    refine (hWW _ _ _ _ _ _ _).2 ?_
    refine lv_aload_n hx hb dX2_numberOutOfRange_191 rfl (lv_at hl 1 rfl) ?_
    refine lv_aload_n hx hb dX2_numberOutOfRange_192 rfl (lv_at hl 0 rfl) ?_
    refine va_get (D := (dC, dI)) (ci := 2) (v := .ref (aS 2)) (C := RX2) (T := TX2) (N := 9) hx hb hts hiX2 hown hK hP 5 rfl rfl 7 (by decide) hgX2_34 (fun _ h9 => h9) rfl dX2_numberOutOfRange_193 ?_
    refine lv_iconst (v := 0) hx hb dX2_numberOutOfRange_196 (by decide) ?_
    refine va_iald hx hb hK hP 7 0 rfl rfl (vpc rfl) dX2_numberOutOfRange_197 ?_
    obtain ⟨y3, hy3, hf⟩ := obind hf
    refine cg_i (ws := [k0_0 aL vL, k0_1 cI aL vL, k0_2 cI aL vL, k0_3 cI aL vL, k0_4 cI aL vL, k2_0 aS vS, k2_1 cI aS vS, k2_2 cI aS vS]) (wc := [k0_0 aL vL, k0_1 cI aL vL, k0_2 cI aL vL, k0_3 cI aL vL, k0_4 cI aL vL]) (wr := [k2_0 aS vS, k2_1 cI aS vS, k2_2 cI aS vS]) (w1 := [k0_0 aL vL, k0_1 cI aL vL, k0_2 cI aL vL, k0_3 cI aL vL, k0_4 cI aL vL]) (wo := [k0_0 aL vL, k0_1 cI aL vL, k0_2 cI aL vL, k0_3 cI aL vL, k0_4 cI aL vL, k2_0 aS vS, k2_1 cI aS vS, k2_2 cI aS vS]) hP hD hS hA (va_runV (As := [.int ((p2_numbers vS) ((0 : Int32)).toNatClampNeg)]) (rest := []) ⟨hx, hb, hml, hown, hts⟩ (mX0_hasPlate l dC dI cI cJ aL H.size vL ((p2_numbers vS) ((0 : Int32)).toNatClampNeg) y3 hy3) (cwV 1 hts gX2_numberOutOfRange_X0_hasPlate rfl rfl rfl (by decide +kernel) ⟨Nat.le_of_ble_eq_true rfl, Nat.le_of_ble_eq_true rfl⟩) ⟨cFB, va_recv hK hP (ci := 0) (q0 := 0) rfl rfl, cPre hK hN hS (va_free (wc := [k0_0 aL vL, k0_1 cI aL vL, k0_2 cI aL vL, k0_3 cI aL vL, k0_4 cI aL vL]) hD hS hA [0, 1, 2, 3, 4] rfl) (hP.sub [0, 1, 2, 3, 4] rfl) (hD.sub [0, 1, 2, 3, 4] rfl rfl)⟩ rfl rfl hl.1 rfl (lv_room (Nat.le_of_ble_eq_true rfl)) dX2_numberOutOfRange_198 ⟨Nat.le_of_ble_eq_true rfl, Nat.le_of_ble_eq_true rfl⟩) [0, 1, 2, 3, 4] [5, 6, 7] [3, 4, 5, 6, 7, 0, 1, 2] rfl rfl rfl (by decide +kernel) rfl rfl (fun H locs hP hD hS => ?_)
    refine lv_if_ne (tgt := 206) hx hb dX2_numberOutOfRange_201 (by decide) (fun c4 => ?_) (fun c4 => ?_)
    · have hf := oif_f c4 hf
      refine lv_aload_n hx hb dX2_numberOutOfRange_206 rfl (lv_at hl 0 rfl) ?_
      refine va_get (D := (dC, dI)) (ci := 2) (v := .ref (aS 2)) (C := RX2) (T := TX2) (N := 9) hx hb hts hiX2 hown hK hP 5 rfl rfl 7 (by decide) hgX2_34 (fun _ h9 => h9) rfl dX2_numberOutOfRange_207 ?_
      refine lv_iconst (v := 1) hx hb dX2_numberOutOfRange_210 (by decide) ?_
      refine va_iald hx hb hK hP 7 0 rfl rfl (vpc rfl) dX2_numberOutOfRange_211 ?_
      refine lv_aload_n hx hb dX2_numberOutOfRange_212 rfl (lv_at hl 1 rfl) ?_
      refine va_get (D := (dC, dI)) (ci := 0) (v := .int (p0_width vL)) (C := RX0) (T := TX0) (N := 6) hx hb hts hiX0 hown hK hP 0 rfl rfl 0 (by decide) hgX0_115 (fun _ h9 => h9) rfl dX2_numberOutOfRange_213 ?_
      refine lv_icmp_le (tgt := 223) hx hb dX2_numberOutOfRange_216 (by decide) (fun c5 => ?_) (fun c5 => ?_)
      · have hf := oif_t c5 hf
        refine lv_iconst (v := (-1)) hx hb dX2_numberOutOfRange_223 (by decide) ?_
        obtain rfl := Option.some.inj hf
        exact W.iret (v := (-1)) hx hb hr (fun t ht hW => ⟨⟨(-1), (), rfl, rfl, by rw [ht]; exact hP, hD⟩, hS.F ht⟩) hS.2.2 dX2_numberOutOfRange_224
      · have hf := oif_f c5 hf
        refine lv_iconst (v := 1) hx hb dX2_numberOutOfRange_219 (by decide) ?_
        refine lv_goto (tgt := 224) hx hb dX2_numberOutOfRange_220 (by decide) ?_
        obtain rfl := Option.some.inj hf
        exact W.iret (v := 1) hx hb hr (fun t ht hW => ⟨⟨1, (), rfl, rfl, by rw [ht]; exact hP, hD⟩, hS.F ht⟩) hS.2.2 dX2_numberOutOfRange_224
    · have hf := oif_t c4 hf
      refine lv_iconst (v := 0) hx hb dX2_numberOutOfRange_204 (by decide) ?_
      obtain rfl := Option.some.inj hf
      exact W.iret (v := 0) hx hb hr (fun t ht hW => ⟨⟨0, (), rfl, rfl, by rw [ht]; exact hP, hD⟩, hS.F ht⟩) hS.2.2 dX2_numberOutOfRange_205
  refine (hWW _ _ _ _ _ _ _).2 ?_
  unfold fX2_numberOutOfRange at hf
  refine lv_aload_n hx hb dX2_numberOutOfRange_0 rfl (lv_at hl 0 rfl) ?_
  refine lv_aload_n hx hb dX2_numberOutOfRange_1 rfl (lv_at hl 0 rfl) ?_
  refine va_get (D := (dC, dI)) (ci := 2) (v := .int (p2_start vS)) (C := RX2) (T := TX2) (N := 9) hx hb hts hiX2 hown hK hP 5 rfl rfl 5 (by decide) hgX2_28 (fun _ h9 => h9) rfl dX2_numberOutOfRange_2 ?_
  obtain ⟨y6, hy6, hf⟩ := obind hf
  refine cg_i (ws := [k0_0 aL vL, k0_1 cI aL vL, k0_2 cI aL vL, k0_3 cI aL vL, k0_4 cI aL vL, k2_0 aS vS, k2_1 cI aS vS, k2_2 cI aS vS]) (wc := [k2_0 aS vS, k2_1 cI aS vS, k2_2 cI aS vS]) (wr := [k0_0 aL vL, k0_1 cI aL vL, k0_2 cI aL vL, k0_3 cI aL vL, k0_4 cI aL vL]) (w1 := [k2_0 aS vS, k2_1 cI aS vS, k2_2 cI aS vS]) (wo := [k0_0 aL vL, k0_1 cI aL vL, k0_2 cI aL vL, k0_3 cI aL vL, k0_4 cI aL vL, k2_0 aS vS, k2_1 cI aS vS, k2_2 cI aS vS]) hP hD hS hA (va_runV (As := [.int (p2_start vS)]) (rest := []) ⟨hx, hb, hml, hown, hts⟩ (mX2_characterAt l dC dI cI cJ aS H.size vS (p2_start vS) y6 hy6) (cwV 1 hts gX2_numberOutOfRange_X2_characterAt rfl rfl rfl (by decide +kernel) ⟨Nat.le_of_ble_eq_true rfl, Nat.le_of_ble_eq_true rfl⟩) ⟨cFB, va_recv hK hP (ci := 2) (q0 := 5) rfl rfl, cPre hK hN hS (va_free (wc := [k2_0 aS vS, k2_1 cI aS vS, k2_2 cI aS vS]) hD hS hA [5, 6, 7] rfl) (hP.sub [5, 6, 7] rfl) (hD.sub [5, 6, 7] rfl rfl)⟩ rfl rfl hl.1 rfl (lv_room (Nat.le_of_ble_eq_true rfl)) dX2_numberOutOfRange_5 ⟨Nat.le_of_ble_eq_true rfl, Nat.le_of_ble_eq_true rfl⟩) [5, 6, 7] [0, 1, 2, 3, 4] [0, 1, 2, 3, 4, 5, 6, 7] rfl rfl rfl (by decide +kernel) rfl rfl (fun H locs hP hD hS => ?_)
  by_cases c7 : y6 = 102
  · have hf := oif_t c7 hf
    refine lv_tableIn (tgt := 172) hx hb dX2_numberOutOfRange_8 (by rw [c7]; decide) (by rw [c7]; decide) (by rw [c7]; rfl) (by decide) ?_
    exact (hWW _ _ _ _ _ _ _).1 (J172  H locs ls hP hD hS (lv_sub hl [0, 1] rfl) hf)
  · have hf := oif_f c7 hf
    by_cases c8 : y6 = 103
    · have hf := oif_t c8 hf
      refine lv_tableIn (tgt := 225) hx hb dX2_numberOutOfRange_8 (by rw [c8]; decide) (by rw [c8]; decide) (by rw [c8]; rfl) (by decide) ?_
      refine lv_iconst (v := (-1)) hx hb dX2_numberOutOfRange_225 (by decide) ?_
      obtain rfl := Option.some.inj hf
      exact W.iret (v := (-1)) hx hb hr (fun t ht hW => ⟨⟨(-1), (), rfl, rfl, by rw [ht]; exact hP, hD⟩, hS.F ht⟩) hS.2.2 dX2_numberOutOfRange_226
    · have hf := oif_f c8 hf
      by_cases c9 : y6 = 104
      · have hf := oif_t c9 hf
        refine lv_tableIn (tgt := 225) hx hb dX2_numberOutOfRange_8 (by rw [c9]; decide) (by rw [c9]; decide) (by rw [c9]; rfl) (by decide) ?_
        refine lv_iconst (v := (-1)) hx hb dX2_numberOutOfRange_225 (by decide) ?_
        obtain rfl := Option.some.inj hf
        exact W.iret (v := (-1)) hx hb hr (fun t ht hW => ⟨⟨(-1), (), rfl, rfl, by rw [ht]; exact hP, hD⟩, hS.F ht⟩) hS.2.2 dX2_numberOutOfRange_226
      · have hf := oif_f c9 hf
        by_cases c10 : y6 = 105
        · have hf := oif_t c10 hf
          refine lv_tableIn (tgt := 225) hx hb dX2_numberOutOfRange_8 (by rw [c10]; decide) (by rw [c10]; decide) (by rw [c10]; rfl) (by decide) ?_
          refine lv_iconst (v := (-1)) hx hb dX2_numberOutOfRange_225 (by decide) ?_
          obtain rfl := Option.some.inj hf
          exact W.iret (v := (-1)) hx hb hr (fun t ht hW => ⟨⟨(-1), (), rfl, rfl, by rw [ht]; exact hP, hD⟩, hS.F ht⟩) hS.2.2 dX2_numberOutOfRange_226
        · have hf := oif_f c10 hf
          by_cases c11 : y6 = 106
          · have hf := oif_t c11 hf
            refine lv_tableIn (tgt := 225) hx hb dX2_numberOutOfRange_8 (by rw [c11]; decide) (by rw [c11]; decide) (by rw [c11]; rfl) (by decide) ?_
            refine lv_iconst (v := (-1)) hx hb dX2_numberOutOfRange_225 (by decide) ?_
            obtain rfl := Option.some.inj hf
            exact W.iret (v := (-1)) hx hb hr (fun t ht hW => ⟨⟨(-1), (), rfl, rfl, by rw [ht]; exact hP, hD⟩, hS.F ht⟩) hS.2.2 dX2_numberOutOfRange_226
          · have hf := oif_f c11 hf
            by_cases c12 : y6 = 107
            · have hf := oif_t c12 hf
              refine lv_tableIn (tgt := 117) hx hb dX2_numberOutOfRange_8 (by rw [c12]; decide) (by rw [c12]; decide) (by rw [c12]; rfl) (by decide) ?_
              refine lv_aload_n hx hb dX2_numberOutOfRange_117 rfl (lv_at hl 1 rfl) ?_
              refine lv_aload_n hx hb dX2_numberOutOfRange_118 rfl (lv_at hl 0 rfl) ?_
              refine va_get (D := (dC, dI)) (ci := 2) (v := .ref (aS 2)) (C := RX2) (T := TX2) (N := 9) hx hb hts hiX2 hown hK hP 5 rfl rfl 7 (by decide) hgX2_34 (fun _ h9 => h9) rfl dX2_numberOutOfRange_119 ?_
              refine lv_iconst (v := 0) hx hb dX2_numberOutOfRange_122 (by decide) ?_
              refine va_iald hx hb hK hP 7 0 rfl rfl (vpc rfl) dX2_numberOutOfRange_123 ?_
              obtain ⟨y13, hy13, hf⟩ := obind hf
              refine cg_i (ws := [k0_0 aL vL, k0_1 cI aL vL, k0_2 cI aL vL, k0_3 cI aL vL, k0_4 cI aL vL, k2_0 aS vS, k2_1 cI aS vS, k2_2 cI aS vS]) (wc := [k0_0 aL vL, k0_1 cI aL vL, k0_2 cI aL vL, k0_3 cI aL vL, k0_4 cI aL vL]) (wr := [k2_0 aS vS, k2_1 cI aS vS, k2_2 cI aS vS]) (w1 := [k0_0 aL vL, k0_1 cI aL vL, k0_2 cI aL vL, k0_3 cI aL vL, k0_4 cI aL vL]) (wo := [k0_0 aL vL, k0_1 cI aL vL, k0_2 cI aL vL, k0_3 cI aL vL, k0_4 cI aL vL, k2_0 aS vS, k2_1 cI aS vS, k2_2 cI aS vS]) hP hD hS hA (va_runV (As := [.int ((p2_numbers vS) ((0 : Int32)).toNatClampNeg)]) (rest := []) ⟨hx, hb, hml, hown, hts⟩ (mX0_hasSpring l dC dI cI cJ aL H.size vL ((p2_numbers vS) ((0 : Int32)).toNatClampNeg) y13 hy13) (cwV 1 hts gX2_numberOutOfRange_X0_hasSpring rfl rfl rfl (by decide +kernel) ⟨Nat.le_of_ble_eq_true rfl, Nat.le_of_ble_eq_true rfl⟩) ⟨cFB, va_recv hK hP (ci := 0) (q0 := 0) rfl rfl, cPre hK hN hS (va_free (wc := [k0_0 aL vL, k0_1 cI aL vL, k0_2 cI aL vL, k0_3 cI aL vL, k0_4 cI aL vL]) hD hS hA [0, 1, 2, 3, 4] rfl) (hP.sub [0, 1, 2, 3, 4] rfl) (hD.sub [0, 1, 2, 3, 4] rfl rfl)⟩ rfl rfl hl.1 rfl (lv_room (Nat.le_of_ble_eq_true rfl)) dX2_numberOutOfRange_124 ⟨Nat.le_of_ble_eq_true rfl, Nat.le_of_ble_eq_true rfl⟩) [0, 1, 2, 3, 4] [5, 6, 7] [3, 4, 5, 6, 7, 0, 1, 2] rfl rfl rfl (by decide +kernel) rfl rfl (fun H locs hP hD hS => ?_)
              refine lv_if_ne (tgt := 132) hx hb dX2_numberOutOfRange_127 (by decide) (fun c14 => ?_) (fun c14 => ?_)
              · have hf := oif_f c14 hf
                refine lv_aload_n hx hb dX2_numberOutOfRange_132 rfl (lv_at hl 0 rfl) ?_
                refine va_get (D := (dC, dI)) (ci := 2) (v := .ref (aS 2)) (C := RX2) (T := TX2) (N := 9) hx hb hts hiX2 hown hK hP 5 rfl rfl 7 (by decide) hgX2_34 (fun _ h9 => h9) rfl dX2_numberOutOfRange_133 ?_
                refine lv_iconst (v := 1) hx hb dX2_numberOutOfRange_136 (by decide) ?_
                refine va_iald hx hb hK hP 7 0 rfl rfl (vpc rfl) dX2_numberOutOfRange_137 ?_
                refine lv_iconst (v := 1) hx hb dX2_numberOutOfRange_138 (by decide) ?_
                refine lv_icmp_lt (tgt := 153) hx hb dX2_numberOutOfRange_139 (by decide) (fun c15 => ?_) (fun c15 => ?_)
                · have hf := oif_t c15 hf
                  refine lv_iconst (v := 1) hx hb dX2_numberOutOfRange_153 (by decide) ?_
                  obtain rfl := Option.some.inj hf
                  exact W.iret (v := 1) hx hb hr (fun t ht hW => ⟨⟨1, (), rfl, rfl, by rw [ht]; exact hP, hD⟩, hS.F ht⟩) hS.2.2 dX2_numberOutOfRange_154
                · have hf := oif_f c15 hf
                  refine lv_aload_n hx hb dX2_numberOutOfRange_142 rfl (lv_at hl 0 rfl) ?_
                  refine va_get (D := (dC, dI)) (ci := 2) (v := .ref (aS 2)) (C := RX2) (T := TX2) (N := 9) hx hb hts hiX2 hown hK hP 5 rfl rfl 7 (by decide) hgX2_34 (fun _ h9 => h9) rfl dX2_numberOutOfRange_143 ?_
                  refine lv_iconst (v := 1) hx hb dX2_numberOutOfRange_146 (by decide) ?_
                  refine va_iald hx hb hK hP 7 0 rfl rfl (vpc rfl) dX2_numberOutOfRange_147 ?_
                  refine lv_bipush (v := 9) hx hb dX2_numberOutOfRange_148 (by decide) ?_
                  refine lv_icmp_le (tgt := 155) hx hb dX2_numberOutOfRange_150 (by decide) (fun c16 => ?_) (fun c16 => ?_)
                  · have hf := oif_t c16 hf
                    refine lv_aload_n hx hb dX2_numberOutOfRange_155 rfl (lv_at hl 0 rfl) ?_
                    refine va_get (D := (dC, dI)) (ci := 2) (v := .ref (aS 2)) (C := RX2) (T := TX2) (N := 9) hx hb hts hiX2 hown hK hP 5 rfl rfl 7 (by decide) hgX2_34 (fun _ h9 => h9) rfl dX2_numberOutOfRange_156 ?_
                    refine lv_iconst (v := 2) hx hb dX2_numberOutOfRange_159 (by decide) ?_
                    refine va_iald hx hb hK hP 7 0 rfl rfl (vpc rfl) dX2_numberOutOfRange_160 ?_
                    refine lv_bipush (v := 50) hx hb dX2_numberOutOfRange_161 (by decide) ?_
                    refine lv_icmp_le (tgt := 170) hx hb dX2_numberOutOfRange_163 (by decide) (fun c17 => ?_) (fun c17 => ?_)
                    · have hf := oif_t c17 hf
                      refine lv_iconst (v := (-1)) hx hb dX2_numberOutOfRange_170 (by decide) ?_
                      obtain rfl := Option.some.inj hf
                      exact W.iret (v := (-1)) hx hb hr (fun t ht hW => ⟨⟨(-1), (), rfl, rfl, by rw [ht]; exact hP, hD⟩, hS.F ht⟩) hS.2.2 dX2_numberOutOfRange_171
                    · have hf := oif_f c17 hf
                      refine lv_iconst (v := 2) hx hb dX2_numberOutOfRange_166 (by decide) ?_
                      refine lv_goto (tgt := 171) hx hb dX2_numberOutOfRange_167 (by decide) ?_
                      obtain rfl := Option.some.inj hf
                      exact W.iret (v := 2) hx hb hr (fun t ht hW => ⟨⟨2, (), rfl, rfl, by rw [ht]; exact hP, hD⟩, hS.F ht⟩) hS.2.2 dX2_numberOutOfRange_171
                  · have hf := oif_f c16 hf
                    refine lv_iconst (v := 1) hx hb dX2_numberOutOfRange_153 (by decide) ?_
                    obtain rfl := Option.some.inj hf
                    exact W.iret (v := 1) hx hb hr (fun t ht hW => ⟨⟨1, (), rfl, rfl, by rw [ht]; exact hP, hD⟩, hS.F ht⟩) hS.2.2 dX2_numberOutOfRange_154
              · have hf := oif_t c14 hf
                refine lv_iconst (v := 0) hx hb dX2_numberOutOfRange_130 (by decide) ?_
                obtain rfl := Option.some.inj hf
                exact W.iret (v := 0) hx hb hr (fun t ht hW => ⟨⟨0, (), rfl, rfl, by rw [ht]; exact hP, hD⟩, hS.F ht⟩) hS.2.2 dX2_numberOutOfRange_131
            · have hf := oif_f c12 hf
              by_cases c18 : y6 = 108
              · have hf := oif_t c18 hf
                refine lv_tableIn (tgt := 191) hx hb dX2_numberOutOfRange_8 (by rw [c18]; decide) (by rw [c18]; decide) (by rw [c18]; rfl) (by decide) ?_
                exact (hWW _ _ _ _ _ _ _).1 (J191  H locs ls hP hD hS (lv_sub hl [0, 1] rfl) hf)
              · have hf := oif_f c18 hf
                by_cases c19 : y6 = 109
                · have hf := oif_t c19 hf
                  refine lv_tableIn (tgt := 225) hx hb dX2_numberOutOfRange_8 (by rw [c19]; decide) (by rw [c19]; decide) (by rw [c19]; rfl) (by decide) ?_
                  refine lv_iconst (v := (-1)) hx hb dX2_numberOutOfRange_225 (by decide) ?_
                  obtain rfl := Option.some.inj hf
                  exact W.iret (v := (-1)) hx hb hr (fun t ht hW => ⟨⟨(-1), (), rfl, rfl, by rw [ht]; exact hP, hD⟩, hS.F ht⟩) hS.2.2 dX2_numberOutOfRange_226
                · have hf := oif_f c19 hf
                  by_cases c20 : y6 = 110
                  · have hf := oif_t c20 hf
                    refine lv_tableIn (tgt := 225) hx hb dX2_numberOutOfRange_8 (by rw [c20]; decide) (by rw [c20]; decide) (by rw [c20]; rfl) (by decide) ?_
                    refine lv_iconst (v := (-1)) hx hb dX2_numberOutOfRange_225 (by decide) ?_
                    obtain rfl := Option.some.inj hf
                    exact W.iret (v := (-1)) hx hb hr (fun t ht hW => ⟨⟨(-1), (), rfl, rfl, by rw [ht]; exact hP, hD⟩, hS.F ht⟩) hS.2.2 dX2_numberOutOfRange_226
                  · have hf := oif_f c20 hf
                    by_cases c21 : y6 = 111
                    · have hf := oif_t c21 hf
                      refine lv_tableIn (tgt := 225) hx hb dX2_numberOutOfRange_8 (by rw [c21]; decide) (by rw [c21]; decide) (by rw [c21]; rfl) (by decide) ?_
                      refine lv_iconst (v := (-1)) hx hb dX2_numberOutOfRange_225 (by decide) ?_
                      obtain rfl := Option.some.inj hf
                      exact W.iret (v := (-1)) hx hb hr (fun t ht hW => ⟨⟨(-1), (), rfl, rfl, by rw [ht]; exact hP, hD⟩, hS.F ht⟩) hS.2.2 dX2_numberOutOfRange_226
                    · have hf := oif_f c21 hf
                      by_cases c22 : y6 = 112
                      · have hf := oif_t c22 hf
                        refine lv_tableIn (tgt := 225) hx hb dX2_numberOutOfRange_8 (by rw [c22]; decide) (by rw [c22]; decide) (by rw [c22]; rfl) (by decide) ?_
                        refine lv_iconst (v := (-1)) hx hb dX2_numberOutOfRange_225 (by decide) ?_
                        obtain rfl := Option.some.inj hf
                        exact W.iret (v := (-1)) hx hb hr (fun t ht hW => ⟨⟨(-1), (), rfl, rfl, by rw [ht]; exact hP, hD⟩, hS.F ht⟩) hS.2.2 dX2_numberOutOfRange_226
                      · have hf := oif_f c22 hf
                        by_cases c23 : y6 = 113
                        · have hf := oif_t c23 hf
                          refine lv_tableIn (tgt := 225) hx hb dX2_numberOutOfRange_8 (by rw [c23]; decide) (by rw [c23]; decide) (by rw [c23]; rfl) (by decide) ?_
                          refine lv_iconst (v := (-1)) hx hb dX2_numberOutOfRange_225 (by decide) ?_
                          obtain rfl := Option.some.inj hf
                          exact W.iret (v := (-1)) hx hb hr (fun t ht hW => ⟨⟨(-1), (), rfl, rfl, by rw [ht]; exact hP, hD⟩, hS.F ht⟩) hS.2.2 dX2_numberOutOfRange_226
                        · have hf := oif_f c23 hf
                          by_cases c24 : y6 = 114
                          · have hf := oif_t c24 hf
                            refine lv_tableIn (tgt := 191) hx hb dX2_numberOutOfRange_8 (by rw [c24]; decide) (by rw [c24]; decide) (by rw [c24]; rfl) (by decide) ?_
                            exact (hWW _ _ _ _ _ _ _).1 (J191  H locs ls hP hD hS (lv_sub hl [0, 1] rfl) hf)
                          · have hf := oif_f c24 hf
                            by_cases c25 : y6 = 115
                            · have hf := oif_t c25 hf
                              refine lv_tableIn (tgt := 225) hx hb dX2_numberOutOfRange_8 (by rw [c25]; decide) (by rw [c25]; decide) (by rw [c25]; rfl) (by decide) ?_
                              refine lv_iconst (v := (-1)) hx hb dX2_numberOutOfRange_225 (by decide) ?_
                              obtain rfl := Option.some.inj hf
                              exact W.iret (v := (-1)) hx hb hr (fun t ht hW => ⟨⟨(-1), (), rfl, rfl, by rw [ht]; exact hP, hD⟩, hS.F ht⟩) hS.2.2 dX2_numberOutOfRange_226
                            · have hf := oif_f c25 hf
                              by_cases c26 : y6 = 116
                              · have hf := oif_t c26 hf
                                refine lv_tableIn (tgt := 225) hx hb dX2_numberOutOfRange_8 (by rw [c26]; decide) (by rw [c26]; decide) (by rw [c26]; rfl) (by decide) ?_
                                refine lv_iconst (v := (-1)) hx hb dX2_numberOutOfRange_225 (by decide) ?_
                                obtain rfl := Option.some.inj hf
                                exact W.iret (v := (-1)) hx hb hr (fun t ht hW => ⟨⟨(-1), (), rfl, rfl, by rw [ht]; exact hP, hD⟩, hS.F ht⟩) hS.2.2 dX2_numberOutOfRange_226
                              · have hf := oif_f c26 hf
                                by_cases c27 : y6 = 117
                                · have hf := oif_t c27 hf
                                  refine lv_tableIn (tgt := 225) hx hb dX2_numberOutOfRange_8 (by rw [c27]; decide) (by rw [c27]; decide) (by rw [c27]; rfl) (by decide) ?_
                                  refine lv_iconst (v := (-1)) hx hb dX2_numberOutOfRange_225 (by decide) ?_
                                  obtain rfl := Option.some.inj hf
                                  exact W.iret (v := (-1)) hx hb hr (fun t ht hW => ⟨⟨(-1), (), rfl, rfl, by rw [ht]; exact hP, hD⟩, hS.F ht⟩) hS.2.2 dX2_numberOutOfRange_226
                                · have hf := oif_f c27 hf
                                  by_cases c28 : y6 = 118
                                  · have hf := oif_t c28 hf
                                    refine lv_tableIn (tgt := 225) hx hb dX2_numberOutOfRange_8 (by rw [c28]; decide) (by rw [c28]; decide) (by rw [c28]; rfl) (by decide) ?_
                                    refine lv_iconst (v := (-1)) hx hb dX2_numberOutOfRange_225 (by decide) ?_
                                    obtain rfl := Option.some.inj hf
                                    exact W.iret (v := (-1)) hx hb hr (fun t ht hW => ⟨⟨(-1), (), rfl, rfl, by rw [ht]; exact hP, hD⟩, hS.F ht⟩) hS.2.2 dX2_numberOutOfRange_226
                                  · have hf := oif_f c28 hf
                                    by_cases c29 : y6 = 119
                                    · have hf := oif_t c29 hf
                                      refine lv_tableIn (tgt := 100) hx hb dX2_numberOutOfRange_8 (by rw [c29]; decide) (by rw [c29]; decide) (by rw [c29]; rfl) (by decide) ?_
                                      refine lv_aload_n hx hb dX2_numberOutOfRange_100 rfl (lv_at hl 0 rfl) ?_
                                      refine va_get (D := (dC, dI)) (ci := 2) (v := .ref (aS 2)) (C := RX2) (T := TX2) (N := 9) hx hb hts hiX2 hown hK hP 5 rfl rfl 7 (by decide) hgX2_34 (fun _ h9 => h9) rfl dX2_numberOutOfRange_101 ?_
                                      refine lv_iconst (v := 0) hx hb dX2_numberOutOfRange_104 (by decide) ?_
                                      refine va_iald hx hb hK hP 7 0 rfl rfl (vpc rfl) dX2_numberOutOfRange_105 ?_
                                      refine lv_bipush (v := 10) hx hb dX2_numberOutOfRange_106 (by decide) ?_
                                      refine lv_icmp_ge (tgt := 115) hx hb dX2_numberOutOfRange_108 (by decide) (fun c30 => ?_) (fun c30 => ?_)
                                      · have hf := oif_t c30 hf
                                        refine lv_iconst (v := (-1)) hx hb dX2_numberOutOfRange_115 (by decide) ?_
                                        obtain rfl := Option.some.inj hf
                                        exact W.iret (v := (-1)) hx hb hr (fun t ht hW => ⟨⟨(-1), (), rfl, rfl, by rw [ht]; exact hP, hD⟩, hS.F ht⟩) hS.2.2 dX2_numberOutOfRange_116
                                      · have hf := oif_f c30 hf
                                        refine lv_iconst (v := 0) hx hb dX2_numberOutOfRange_111 (by decide) ?_
                                        refine lv_goto (tgt := 116) hx hb dX2_numberOutOfRange_112 (by decide) ?_
                                        obtain rfl := Option.some.inj hf
                                        exact W.iret (v := 0) hx hb hr (fun t ht hW => ⟨⟨0, (), rfl, rfl, by rw [ht]; exact hP, hD⟩, hS.F ht⟩) hS.2.2 dX2_numberOutOfRange_116
                                    · have hf := oif_f c29 hf
                                      by_cases c31 : y6 = 120
                                      · have hf := oif_t c31 hf
                                        refine lv_tableIn (tgt := 172) hx hb dX2_numberOutOfRange_8 (by rw [c31]; decide) (by rw [c31]; decide) (by rw [c31]; rfl) (by decide) ?_
                                        exact (hWW _ _ _ _ _ _ _).1 (J172  H locs ls hP hD hS (lv_sub hl [0, 1] rfl) hf)
                                      · have hf := oif_f c31 hf
                                        refine lv_tableOut (tgt := 225) hx hb dX2_numberOutOfRange_8 (by have t0 := toInt_ne (n := 102) rfl c7; have t1 := toInt_ne (n := 103) rfl c8; have t2 := toInt_ne (n := 104) rfl c9; have t3 := toInt_ne (n := 105) rfl c10; have t4 := toInt_ne (n := 106) rfl c11; have t5 := toInt_ne (n := 107) rfl c12; have t6 := toInt_ne (n := 108) rfl c18; have t7 := toInt_ne (n := 109) rfl c19; have t8 := toInt_ne (n := 110) rfl c20; have t9 := toInt_ne (n := 111) rfl c21; have t10 := toInt_ne (n := 112) rfl c22; have t11 := toInt_ne (n := 113) rfl c23; have t12 := toInt_ne (n := 114) rfl c24; have t13 := toInt_ne (n := 115) rfl c25; have t14 := toInt_ne (n := 116) rfl c26; have t15 := toInt_ne (n := 117) rfl c27; have t16 := toInt_ne (n := 118) rfl c28; have t17 := toInt_ne (n := 119) rfl c29; have t18 := toInt_ne (n := 120) rfl c31; omega) (by decide) ?_
                                        refine lv_iconst (v := (-1)) hx hb dX2_numberOutOfRange_225 (by decide) ?_
                                        obtain rfl := Option.some.inj hf
                                        exact W.iret (v := (-1)) hx hb hr (fun t ht hW => ⟨⟨(-1), (), rfl, rfl, by rw [ht]; exact hP, hD⟩, hS.F ht⟩) hS.2.2 dX2_numberOutOfRange_226
def fX2_doSetting_188 (vL : BX0) (vS : BX2) : Option (Int32 × BX0) :=
  (fX0_removeStop vL ((p2_numbers vS) ((0 : Int32)).toNatClampNeg) (0 : Int32)).bind (fun y1 => (fX0_removeStop y1.2 ((p2_numbers vS) ((0 : Int32)).toNatClampNeg) (1 : Int32)).bind (fun y2 => some (0, y2.2)))
def fX2_doSetting (vL : BX0) (vS : BX2) : Option (Int32 × BX0) :=
  (fX2_characterAt vS (p2_start vS)).bind (fun y3 => if y3 = 102 then ((fX0_setLoad vL ((p2_numbers vS) ((0 : Int32)).toNatClampNeg) ((p2_numbers vS) ((1 : Int32)).toNatClampNeg)).bind (fun y5 => some (y5.1, y5.2))) else (if y3 = 103 then (fX2_doSetting_188 vL vS) else (if y3 = 104 then (fX2_doSetting_188 vL vS) else (if y3 = 105 then (fX2_doSetting_188 vL vS) else (if y3 = 106 then (fX2_doSetting_188 vL vS) else (if y3 = 107 then ((fX0_setSpring vL ((p2_numbers vS) ((0 : Int32)).toNatClampNeg) ((p2_numbers vS) ((1 : Int32)).toNatClampNeg) ((p2_numbers vS) ((2 : Int32)).toNatClampNeg)).bind (fun y11 => some (y11.1, y11.2))) else (if y3 = 108 then ((fX0_setStop vL ((p2_numbers vS) ((0 : Int32)).toNatClampNeg) (0 : Int32) ((p2_numbers vS) ((1 : Int32)).toNatClampNeg)).bind (fun y13 => some (y13.1, y13.2))) else (if y3 = 109 then (fX2_doSetting_188 vL vS) else (if y3 = 110 then (fX2_doSetting_188 vL vS) else (if y3 = 111 then (fX2_doSetting_188 vL vS) else (if y3 = 112 then ((fX0_addPlate vL).bind (fun y18 => some (y18.1, y18.2))) else (if y3 = 113 then (fX2_doSetting_188 vL vS) else (if y3 = 114 then ((fX0_setStop vL ((p2_numbers vS) ((0 : Int32)).toNatClampNeg) (1 : Int32) ((p2_numbers vS) ((1 : Int32)).toNatClampNeg)).bind (fun y21 => some (y21.1, y21.2))) else (if y3 = 115 then (fX2_doSetting_188 vL vS) else (if y3 = 116 then (fX2_doSetting_188 vL vS) else (if y3 = 117 then (fX2_doSetting_188 vL vS) else (if y3 = 118 then (fX2_doSetting_188 vL vS) else (if y3 = 119 then ((fX0_setWidth vL ((p2_numbers vS) ((0 : Int32)).toNatClampNeg)).bind (fun y27 => some (y27.1, y27.2))) else (fX2_doSetting_188 vL vS)))))))))))))))))))
set_option maxHeartbeats 8000000 in
set_option maxRecDepth 100000 in
theorem mX2_doSetting (l : Launch) (dC : Nat → ClassId) (dI : Nat → Nat → Nat) (cI cJ : ClassId) (aL : Nat → Nat) (aS : Nat → Nat) (sz : Nat) (vL : BX0) (vS : BX2) (y : (Int32 × BX0)) (hf : fX2_doSetting vL vS = some y) : Met l yX2_doSetting wsX2_doSetting ({ frames := 4, cells := 0, slots := 0, locals := 90 }) (cPc dC dI cI cJ [.ref (aS 0), .ref (aL 0)] [k0_0 aL vL, k0_1 cI aL vL, k0_2 cI aL vL, k0_3 cI aL vL, k0_4 cI aL vL, k2_0 aS vS, k2_1 cI aS vS, k2_2 cI aS vS] sz) (va_Qi (fun r (_ : Unit) => r = y.1) (fun _ t => cB dC dI (va_A [k0_0 aL vL, k0_1 cI aL vL, k0_2 cI aL vL, k0_3 cI aL vL, k0_4 cI aL vL, k2_0 aS vS, k2_1 cI aS vS, k2_2 cI aS vS] sz) [k0_0 aL y.2, k0_1 cI aL y.2, k0_2 cI aL y.2, k0_3 cI aL y.2, k0_4 cI aL y.2, k2_0 aS vS, k2_1 cI aS vS, k2_2 cI aS vS] t) (va_A [k0_0 aL vL, k0_1 cI aL vL, k0_2 cI aL vL, k0_3 cI aL vL, k0_4 cI aL vL, k2_0 aS vS, k2_1 cI aS vS, k2_2 cI aS vS] sz)) 0 0 (va_A [k0_0 aL vL, k0_1 cI aL vL, k0_2 cI aL vL, k0_3 cI aL vL, k0_4 cI aL vL, k2_0 aS vS, k2_1 cI aS vS, k2_2 cI aS vS] sz) := by
  refine Met.ofW (cc := cX2_doSetting) (maxL := 2) (ret := (some .int)) (by decide) rfl ?_
  intro p e s m args below meth c s₁ B hml hv
  obtain ⟨rfl, hsz, hP, hK, hD0, hN⟩ := hv
  have hx := B.exec
  have hb := B.bytes
  have hr := B.returns
  have hts := atoms_spec (ws := wsX2_doSetting) B.pre
  have hown : s.vm.findClass RX2 = some m.cls := findClass_of_methodNamed B.named
  have hlocks := B.notSynchronized
  subst hsz
  have hD := hD0.self (sz := s.heap.size)
  generalize hAe : va_A [k0_0 aL vL, k0_1 cI aL vL, k0_2 cI aL vL, k0_3 cI aL vL, k0_4 cI aL vL, k2_0 aS vS, k2_1 cI aS vS, k2_2 cI aS vS] s.heap.size = A at hD hN ⊢
  have hA : ∀ q : Nat, s.heap.size ≤ q → A q := fun q h => by rw [← hAe]; exact Or.inr h
  have hP : va_P (dC, dI) vwCl [k0_0 aL vL, k0_1 cI aL vL, k0_2 cI aL vL, k0_3 cI aL vL, k0_4 cI aL vL, k2_0 aS vS, k2_1 cI aS vS, k2_2 cI aS vS] s.heap := hP
  have hl := lv_entry ([.ref (aS 0), .ref (aL 0)]) (n := 2) (Nat.le_of_ble_eq_true rfl)
  rw [lg_entry_eq]
  generalize (lg_sl ([.ref (aS 0), .ref (aL 0)]) ++ List.replicate (2 - (lg_sl ([.ref (aS 0), .ref (aL 0)])).length) Slot.unset).toArray = ls at hl ⊢
  have hl : lv_has ls 2 [(0, .ref (aS 0)), (1, .ref (aL 0))] := hl
  have hiX2 : ∀ w ∈ u_ws RX2 TX2 9, w ∈ wsX2_doSetting := by decide +kernel
  have hgX2_34 := hts (.fieldLink RX2 34 "SpringPlates$Script" "numbers" "[I") (by decide +kernel)
  have hgX2_28 := hts (.fieldLink RX2 28 "SpringPlates$Script" "start" "I") (by decide +kernel)
  refine nameH (fun H locs hHe hLe => ?_)
  have hP : va_P (dC, dI) vwCl [k0_0 aL vL, k0_1 cI aL vL, k0_2 cI aL vL, k0_3 cI aL vL, k0_4 cI aL vL, k2_0 aS vS, k2_1 cI aS vS, k2_2 cI aS vS] H := by rw [hHe]; exact hP
  have hS : va_S A s.heap H locs := by rw [hHe, hLe]; exact va_S.rf
  refine withW (fun WW hWW => ?_)
  have J188 : ∀ (vL : BX0) (H : Heap) (locs : List Loc) (ls : Array Slot), va_P (dC, dI) vwCl [k0_0 aL vL, k0_1 cI aL vL, k0_2 cI aL vL, k0_3 cI aL vL, k0_4 cI aL vL, k2_0 aS vS, k2_1 cI aS vS, k2_2 cI aS vS] H → va_D A [k0_0 aL vL, k0_1 cI aL vL, k0_2 cI aL vL, k0_3 cI aL vL, k0_4 cI aL vL, k2_0 aS vS, k2_1 cI aS vS, k2_2 cI aS vS] → va_S A s.heap H locs → lv_has ls 2 [(0, .ref (aS 0)), (1, .ref (aL 0))] → fX2_doSetting_188 vL vS = some y → WW H locs 0 0 ls 188 [] := by
    intro vL H locs ls hP hD hS hl hf
    unfold fX2_doSetting_188 at hf
    refine (hWW _ _ _ _ _ _ _).2 ?_
    refine lv_aload_n hx hb dX2_doSetting_188 rfl (lv_at hl 1 rfl) ?_
    refine lv_aload_n hx hb dX2_doSetting_189 rfl (lv_at hl 0 rfl) ?_
    refine va_get (D := (dC, dI)) (ci := 2) (v := .ref (aS 2)) (C := RX2) (T := TX2) (N := 9) hx hb hts hiX2 hown hK hP 5 rfl rfl 7 (by decide) hgX2_34 (fun _ h9 => h9) rfl dX2_doSetting_190 ?_
    refine lv_iconst (v := 0) hx hb dX2_doSetting_193 (by decide) ?_
    refine va_iald hx hb hK hP 7 0 rfl rfl (vpc rfl) dX2_doSetting_194 ?_
    refine lv_iconst (v := 0) hx hb dX2_doSetting_195 (by decide) ?_
    obtain ⟨y1, hy1, hf⟩ := obind hf
    refine cg_i (ws := [k0_0 aL vL, k0_1 cI aL vL, k0_2 cI aL vL, k0_3 cI aL vL, k0_4 cI aL vL, k2_0 aS vS, k2_1 cI aS vS, k2_2 cI aS vS]) (wc := [k0_0 aL vL, k0_1 cI aL vL, k0_2 cI aL vL, k0_3 cI aL vL, k0_4 cI aL vL]) (wr := [k2_0 aS vS, k2_1 cI aS vS, k2_2 cI aS vS]) (w1 := [k0_0 aL y1.2, k0_1 cI aL y1.2, k0_2 cI aL y1.2, k0_3 cI aL y1.2, k0_4 cI aL y1.2]) (wo := [k0_0 aL y1.2, k0_1 cI aL y1.2, k0_2 cI aL y1.2, k0_3 cI aL y1.2, k0_4 cI aL y1.2, k2_0 aS vS, k2_1 cI aS vS, k2_2 cI aS vS]) hP hD hS hA (va_runV (As := [.int ((p2_numbers vS) ((0 : Int32)).toNatClampNeg), .int 0]) (rest := []) ⟨hx, hb, hml, hown, hts⟩ (mX0_removeStop l dC dI cI cJ aL H.size vL ((p2_numbers vS) ((0 : Int32)).toNatClampNeg) (0 : Int32) y1 hy1) (cwV 2 hts gX2_doSetting_X0_removeStop rfl rfl rfl (by decide +kernel) ⟨Nat.le_of_ble_eq_true rfl, Nat.le_of_ble_eq_true rfl⟩) ⟨cFB, va_recv hK hP (ci := 0) (q0 := 0) rfl rfl, cPre hK hN hS (va_free (wc := [k0_0 aL vL, k0_1 cI aL vL, k0_2 cI aL vL, k0_3 cI aL vL, k0_4 cI aL vL]) hD hS hA [0, 1, 2, 3, 4] rfl) (hP.sub [0, 1, 2, 3, 4] rfl) (hD.sub [0, 1, 2, 3, 4] rfl rfl)⟩ rfl rfl hl.1 rfl (lv_room (Nat.le_of_ble_eq_true rfl)) dX2_doSetting_196 ⟨Nat.le_of_ble_eq_true rfl, Nat.le_of_ble_eq_true rfl⟩) [0, 1, 2, 3, 4] [5, 6, 7] [3, 4, 5, 6, 7, 0, 1, 2] rfl rfl rfl (by decide +kernel) rfl rfl (fun H locs hP hD hS => ?_)
    refine lv_pop hx hb dX2_doSetting_199 rfl ?_
    refine lv_aload_n hx hb dX2_doSetting_200 rfl (lv_at hl 1 rfl) ?_
    refine lv_aload_n hx hb dX2_doSetting_201 rfl (lv_at hl 0 rfl) ?_
    refine va_get (D := (dC, dI)) (ci := 2) (v := .ref (aS 2)) (C := RX2) (T := TX2) (N := 9) hx hb hts hiX2 hown hK hP 5 rfl rfl 7 (by decide) hgX2_34 (fun _ h9 => h9) rfl dX2_doSetting_202 ?_
    refine lv_iconst (v := 0) hx hb dX2_doSetting_205 (by decide) ?_
    refine va_iald hx hb hK hP 7 0 rfl rfl (vpc rfl) dX2_doSetting_206 ?_
    refine lv_iconst (v := 1) hx hb dX2_doSetting_207 (by decide) ?_
    obtain ⟨y2, hy2, hf⟩ := obind hf
    refine cg_i (ws := [k0_0 aL y1.2, k0_1 cI aL y1.2, k0_2 cI aL y1.2, k0_3 cI aL y1.2, k0_4 cI aL y1.2, k2_0 aS vS, k2_1 cI aS vS, k2_2 cI aS vS]) (wc := [k0_0 aL y1.2, k0_1 cI aL y1.2, k0_2 cI aL y1.2, k0_3 cI aL y1.2, k0_4 cI aL y1.2]) (wr := [k2_0 aS vS, k2_1 cI aS vS, k2_2 cI aS vS]) (w1 := [k0_0 aL y2.2, k0_1 cI aL y2.2, k0_2 cI aL y2.2, k0_3 cI aL y2.2, k0_4 cI aL y2.2]) (wo := [k0_0 aL y2.2, k0_1 cI aL y2.2, k0_2 cI aL y2.2, k0_3 cI aL y2.2, k0_4 cI aL y2.2, k2_0 aS vS, k2_1 cI aS vS, k2_2 cI aS vS]) hP hD hS hA (va_runV (As := [.int ((p2_numbers vS) ((0 : Int32)).toNatClampNeg), .int 1]) (rest := []) ⟨hx, hb, hml, hown, hts⟩ (mX0_removeStop l dC dI cI cJ aL H.size y1.2 ((p2_numbers vS) ((0 : Int32)).toNatClampNeg) (1 : Int32) y2 hy2) (cwV 2 hts gX2_doSetting_X0_removeStop rfl rfl rfl (by decide +kernel) ⟨Nat.le_of_ble_eq_true rfl, Nat.le_of_ble_eq_true rfl⟩) ⟨cFB, va_recv hK hP (ci := 0) (q0 := 0) rfl rfl, cPre hK hN hS (va_free (wc := [k0_0 aL y1.2, k0_1 cI aL y1.2, k0_2 cI aL y1.2, k0_3 cI aL y1.2, k0_4 cI aL y1.2]) hD hS hA [0, 1, 2, 3, 4] rfl) (hP.sub [0, 1, 2, 3, 4] rfl) (hD.sub [0, 1, 2, 3, 4] rfl rfl)⟩ rfl rfl hl.1 rfl (lv_room (Nat.le_of_ble_eq_true rfl)) dX2_doSetting_208 ⟨Nat.le_of_ble_eq_true rfl, Nat.le_of_ble_eq_true rfl⟩) [0, 1, 2, 3, 4] [5, 6, 7] [3, 4, 5, 6, 7, 0, 1, 2] rfl rfl rfl (by decide +kernel) rfl rfl (fun H locs hP hD hS => ?_)
    refine lv_pop hx hb dX2_doSetting_211 rfl ?_
    refine lv_iconst (v := 0) hx hb dX2_doSetting_212 (by decide) ?_
    obtain rfl := Option.some.inj hf
    exact W.iret (v := 0) hx hb hr (fun t ht hW => ⟨⟨0, (), rfl, rfl, by rw [ht]; exact hP, hD⟩, hS.F ht⟩) hS.2.2 dX2_doSetting_213
  refine (hWW _ _ _ _ _ _ _).2 ?_
  unfold fX2_doSetting at hf
  refine lv_aload_n hx hb dX2_doSetting_0 rfl (lv_at hl 0 rfl) ?_
  refine lv_aload_n hx hb dX2_doSetting_1 rfl (lv_at hl 0 rfl) ?_
  refine va_get (D := (dC, dI)) (ci := 2) (v := .int (p2_start vS)) (C := RX2) (T := TX2) (N := 9) hx hb hts hiX2 hown hK hP 5 rfl rfl 5 (by decide) hgX2_28 (fun _ h9 => h9) rfl dX2_doSetting_2 ?_
  obtain ⟨y3, hy3, hf⟩ := obind hf
  refine cg_i (ws := [k0_0 aL vL, k0_1 cI aL vL, k0_2 cI aL vL, k0_3 cI aL vL, k0_4 cI aL vL, k2_0 aS vS, k2_1 cI aS vS, k2_2 cI aS vS]) (wc := [k2_0 aS vS, k2_1 cI aS vS, k2_2 cI aS vS]) (wr := [k0_0 aL vL, k0_1 cI aL vL, k0_2 cI aL vL, k0_3 cI aL vL, k0_4 cI aL vL]) (w1 := [k2_0 aS vS, k2_1 cI aS vS, k2_2 cI aS vS]) (wo := [k0_0 aL vL, k0_1 cI aL vL, k0_2 cI aL vL, k0_3 cI aL vL, k0_4 cI aL vL, k2_0 aS vS, k2_1 cI aS vS, k2_2 cI aS vS]) hP hD hS hA (va_runV (As := [.int (p2_start vS)]) (rest := []) ⟨hx, hb, hml, hown, hts⟩ (mX2_characterAt l dC dI cI cJ aS H.size vS (p2_start vS) y3 hy3) (cwV 1 hts gX2_doSetting_X2_characterAt rfl rfl rfl (by decide +kernel) ⟨Nat.le_of_ble_eq_true rfl, Nat.le_of_ble_eq_true rfl⟩) ⟨cFB, va_recv hK hP (ci := 2) (q0 := 5) rfl rfl, cPre hK hN hS (va_free (wc := [k2_0 aS vS, k2_1 cI aS vS, k2_2 cI aS vS]) hD hS hA [5, 6, 7] rfl) (hP.sub [5, 6, 7] rfl) (hD.sub [5, 6, 7] rfl rfl)⟩ rfl rfl hl.1 rfl (lv_room (Nat.le_of_ble_eq_true rfl)) dX2_doSetting_5 ⟨Nat.le_of_ble_eq_true rfl, Nat.le_of_ble_eq_true rfl⟩) [5, 6, 7] [0, 1, 2, 3, 4] [0, 1, 2, 3, 4, 5, 6, 7] rfl rfl rfl (by decide +kernel) rfl rfl (fun H locs hP hD hS => ?_)
  by_cases c4 : y3 = 102
  · have hf := oif_t c4 hf
    refine lv_tableIn (tgt := 135) hx hb dX2_doSetting_8 (by rw [c4]; decide) (by rw [c4]; decide) (by rw [c4]; rfl) (by decide) ?_
    refine lv_aload_n hx hb dX2_doSetting_135 rfl (lv_at hl 1 rfl) ?_
    refine lv_aload_n hx hb dX2_doSetting_136 rfl (lv_at hl 0 rfl) ?_
    refine va_get (D := (dC, dI)) (ci := 2) (v := .ref (aS 2)) (C := RX2) (T := TX2) (N := 9) hx hb hts hiX2 hown hK hP 5 rfl rfl 7 (by decide) hgX2_34 (fun _ h9 => h9) rfl dX2_doSetting_137 ?_
    refine lv_iconst (v := 0) hx hb dX2_doSetting_140 (by decide) ?_
    refine va_iald hx hb hK hP 7 0 rfl rfl (vpc rfl) dX2_doSetting_141 ?_
    refine lv_aload_n hx hb dX2_doSetting_142 rfl (lv_at hl 0 rfl) ?_
    refine va_get (D := (dC, dI)) (ci := 2) (v := .ref (aS 2)) (C := RX2) (T := TX2) (N := 9) hx hb hts hiX2 hown hK hP 5 rfl rfl 7 (by decide) hgX2_34 (fun _ h9 => h9) rfl dX2_doSetting_143 ?_
    refine lv_iconst (v := 1) hx hb dX2_doSetting_146 (by decide) ?_
    refine va_iald hx hb hK hP 7 0 rfl rfl (vpc rfl) dX2_doSetting_147 ?_
    obtain ⟨y5, hy5, hf⟩ := obind hf
    refine cg_i (ws := [k0_0 aL vL, k0_1 cI aL vL, k0_2 cI aL vL, k0_3 cI aL vL, k0_4 cI aL vL, k2_0 aS vS, k2_1 cI aS vS, k2_2 cI aS vS]) (wc := [k0_0 aL vL, k0_1 cI aL vL, k0_2 cI aL vL, k0_3 cI aL vL, k0_4 cI aL vL]) (wr := [k2_0 aS vS, k2_1 cI aS vS, k2_2 cI aS vS]) (w1 := [k0_0 aL y5.2, k0_1 cI aL y5.2, k0_2 cI aL y5.2, k0_3 cI aL y5.2, k0_4 cI aL y5.2]) (wo := [k0_0 aL y5.2, k0_1 cI aL y5.2, k0_2 cI aL y5.2, k0_3 cI aL y5.2, k0_4 cI aL y5.2, k2_0 aS vS, k2_1 cI aS vS, k2_2 cI aS vS]) hP hD hS hA (va_runV (As := [.int ((p2_numbers vS) ((0 : Int32)).toNatClampNeg), .int ((p2_numbers vS) ((1 : Int32)).toNatClampNeg)]) (rest := []) ⟨hx, hb, hml, hown, hts⟩ (mX0_setLoad l dC dI cI cJ aL H.size vL ((p2_numbers vS) ((0 : Int32)).toNatClampNeg) ((p2_numbers vS) ((1 : Int32)).toNatClampNeg) y5 hy5) (cwV 2 hts gX2_doSetting_X0_setLoad rfl rfl rfl (by decide +kernel) ⟨Nat.le_of_ble_eq_true rfl, Nat.le_of_ble_eq_true rfl⟩) ⟨cFB, va_recv hK hP (ci := 0) (q0 := 0) rfl rfl, cPre hK hN hS (va_free (wc := [k0_0 aL vL, k0_1 cI aL vL, k0_2 cI aL vL, k0_3 cI aL vL, k0_4 cI aL vL]) hD hS hA [0, 1, 2, 3, 4] rfl) (hP.sub [0, 1, 2, 3, 4] rfl) (hD.sub [0, 1, 2, 3, 4] rfl rfl)⟩ rfl rfl hl.1 rfl (lv_room (Nat.le_of_ble_eq_true rfl)) dX2_doSetting_148 ⟨Nat.le_of_ble_eq_true rfl, Nat.le_of_ble_eq_true rfl⟩) [0, 1, 2, 3, 4] [5, 6, 7] [3, 4, 5, 6, 7, 0, 1, 2] rfl rfl rfl (by decide +kernel) rfl rfl (fun H locs hP hD hS => ?_)
    obtain rfl := Option.some.inj hf
    exact W.iret (v := y5.1) hx hb hr (fun t ht hW => ⟨⟨y5.1, (), rfl, rfl, by rw [ht]; exact hP, hD⟩, hS.F ht⟩) hS.2.2 dX2_doSetting_151
  · have hf := oif_f c4 hf
    by_cases c6 : y3 = 103
    · have hf := oif_t c6 hf
      refine lv_tableIn (tgt := 188) hx hb dX2_doSetting_8 (by rw [c6]; decide) (by rw [c6]; decide) (by rw [c6]; rfl) (by decide) ?_
      exact (hWW _ _ _ _ _ _ _).1 (J188 vL H locs ls hP hD hS (lv_sub hl [0, 1] rfl) hf)
    · have hf := oif_f c6 hf
      by_cases c7 : y3 = 104
      · have hf := oif_t c7 hf
        refine lv_tableIn (tgt := 188) hx hb dX2_doSetting_8 (by rw [c7]; decide) (by rw [c7]; decide) (by rw [c7]; rfl) (by decide) ?_
        exact (hWW _ _ _ _ _ _ _).1 (J188 vL H locs ls hP hD hS (lv_sub hl [0, 1] rfl) hf)
      · have hf := oif_f c7 hf
        by_cases c8 : y3 = 105
        · have hf := oif_t c8 hf
          refine lv_tableIn (tgt := 188) hx hb dX2_doSetting_8 (by rw [c8]; decide) (by rw [c8]; decide) (by rw [c8]; rfl) (by decide) ?_
          exact (hWW _ _ _ _ _ _ _).1 (J188 vL H locs ls hP hD hS (lv_sub hl [0, 1] rfl) hf)
        · have hf := oif_f c8 hf
          by_cases c9 : y3 = 106
          · have hf := oif_t c9 hf
            refine lv_tableIn (tgt := 188) hx hb dX2_doSetting_8 (by rw [c9]; decide) (by rw [c9]; decide) (by rw [c9]; rfl) (by decide) ?_
            exact (hWW _ _ _ _ _ _ _).1 (J188 vL H locs ls hP hD hS (lv_sub hl [0, 1] rfl) hf)
          · have hf := oif_f c9 hf
            by_cases c10 : y3 = 107
            · have hf := oif_t c10 hf
              refine lv_tableIn (tgt := 112) hx hb dX2_doSetting_8 (by rw [c10]; decide) (by rw [c10]; decide) (by rw [c10]; rfl) (by decide) ?_
              refine lv_aload_n hx hb dX2_doSetting_112 rfl (lv_at hl 1 rfl) ?_
              refine lv_aload_n hx hb dX2_doSetting_113 rfl (lv_at hl 0 rfl) ?_
              refine va_get (D := (dC, dI)) (ci := 2) (v := .ref (aS 2)) (C := RX2) (T := TX2) (N := 9) hx hb hts hiX2 hown hK hP 5 rfl rfl 7 (by decide) hgX2_34 (fun _ h9 => h9) rfl dX2_doSetting_114 ?_
              refine lv_iconst (v := 0) hx hb dX2_doSetting_117 (by decide) ?_
              refine va_iald hx hb hK hP 7 0 rfl rfl (vpc rfl) dX2_doSetting_118 ?_
              refine lv_aload_n hx hb dX2_doSetting_119 rfl (lv_at hl 0 rfl) ?_
              refine va_get (D := (dC, dI)) (ci := 2) (v := .ref (aS 2)) (C := RX2) (T := TX2) (N := 9) hx hb hts hiX2 hown hK hP 5 rfl rfl 7 (by decide) hgX2_34 (fun _ h9 => h9) rfl dX2_doSetting_120 ?_
              refine lv_iconst (v := 1) hx hb dX2_doSetting_123 (by decide) ?_
              refine va_iald hx hb hK hP 7 0 rfl rfl (vpc rfl) dX2_doSetting_124 ?_
              refine lv_aload_n hx hb dX2_doSetting_125 rfl (lv_at hl 0 rfl) ?_
              refine va_get (D := (dC, dI)) (ci := 2) (v := .ref (aS 2)) (C := RX2) (T := TX2) (N := 9) hx hb hts hiX2 hown hK hP 5 rfl rfl 7 (by decide) hgX2_34 (fun _ h9 => h9) rfl dX2_doSetting_126 ?_
              refine lv_iconst (v := 2) hx hb dX2_doSetting_129 (by decide) ?_
              refine va_iald hx hb hK hP 7 0 rfl rfl (vpc rfl) dX2_doSetting_130 ?_
              obtain ⟨y11, hy11, hf⟩ := obind hf
              refine cg_i (ws := [k0_0 aL vL, k0_1 cI aL vL, k0_2 cI aL vL, k0_3 cI aL vL, k0_4 cI aL vL, k2_0 aS vS, k2_1 cI aS vS, k2_2 cI aS vS]) (wc := [k0_0 aL vL, k0_1 cI aL vL, k0_2 cI aL vL, k0_3 cI aL vL, k0_4 cI aL vL]) (wr := [k2_0 aS vS, k2_1 cI aS vS, k2_2 cI aS vS]) (w1 := [k0_0 aL y11.2, k0_1 cI aL y11.2, k0_2 cI aL y11.2, k0_3 cI aL y11.2, k0_4 cI aL y11.2]) (wo := [k0_0 aL y11.2, k0_1 cI aL y11.2, k0_2 cI aL y11.2, k0_3 cI aL y11.2, k0_4 cI aL y11.2, k2_0 aS vS, k2_1 cI aS vS, k2_2 cI aS vS]) hP hD hS hA (va_runV (As := [.int ((p2_numbers vS) ((0 : Int32)).toNatClampNeg), .int ((p2_numbers vS) ((1 : Int32)).toNatClampNeg), .int ((p2_numbers vS) ((2 : Int32)).toNatClampNeg)]) (rest := []) ⟨hx, hb, hml, hown, hts⟩ (mX0_setSpring l dC dI cI cJ aL H.size vL ((p2_numbers vS) ((0 : Int32)).toNatClampNeg) ((p2_numbers vS) ((1 : Int32)).toNatClampNeg) ((p2_numbers vS) ((2 : Int32)).toNatClampNeg) y11 hy11) (cwV 3 hts gX2_doSetting_X0_setSpring rfl rfl rfl (by decide +kernel) ⟨Nat.le_of_ble_eq_true rfl, Nat.le_of_ble_eq_true rfl⟩) ⟨cFB, va_recv hK hP (ci := 0) (q0 := 0) rfl rfl, cPre hK hN hS (va_free (wc := [k0_0 aL vL, k0_1 cI aL vL, k0_2 cI aL vL, k0_3 cI aL vL, k0_4 cI aL vL]) hD hS hA [0, 1, 2, 3, 4] rfl) (hP.sub [0, 1, 2, 3, 4] rfl) (hD.sub [0, 1, 2, 3, 4] rfl rfl)⟩ rfl rfl hl.1 rfl (lv_room (Nat.le_of_ble_eq_true rfl)) dX2_doSetting_131 ⟨Nat.le_of_ble_eq_true rfl, Nat.le_of_ble_eq_true rfl⟩) [0, 1, 2, 3, 4] [5, 6, 7] [3, 4, 5, 6, 7, 0, 1, 2] rfl rfl rfl (by decide +kernel) rfl rfl (fun H locs hP hD hS => ?_)
              obtain rfl := Option.some.inj hf
              exact W.iret (v := y11.1) hx hb hr (fun t ht hW => ⟨⟨y11.1, (), rfl, rfl, by rw [ht]; exact hP, hD⟩, hS.F ht⟩) hS.2.2 dX2_doSetting_134
            · have hf := oif_f c10 hf
              by_cases c12 : y3 = 108
              · have hf := oif_t c12 hf
                refine lv_tableIn (tgt := 152) hx hb dX2_doSetting_8 (by rw [c12]; decide) (by rw [c12]; decide) (by rw [c12]; rfl) (by decide) ?_
                refine lv_aload_n hx hb dX2_doSetting_152 rfl (lv_at hl 1 rfl) ?_
                refine lv_aload_n hx hb dX2_doSetting_153 rfl (lv_at hl 0 rfl) ?_
                refine va_get (D := (dC, dI)) (ci := 2) (v := .ref (aS 2)) (C := RX2) (T := TX2) (N := 9) hx hb hts hiX2 hown hK hP 5 rfl rfl 7 (by decide) hgX2_34 (fun _ h9 => h9) rfl dX2_doSetting_154 ?_
                refine lv_iconst (v := 0) hx hb dX2_doSetting_157 (by decide) ?_
                refine va_iald hx hb hK hP 7 0 rfl rfl (vpc rfl) dX2_doSetting_158 ?_
                refine lv_iconst (v := 0) hx hb dX2_doSetting_159 (by decide) ?_
                refine lv_aload_n hx hb dX2_doSetting_160 rfl (lv_at hl 0 rfl) ?_
                refine va_get (D := (dC, dI)) (ci := 2) (v := .ref (aS 2)) (C := RX2) (T := TX2) (N := 9) hx hb hts hiX2 hown hK hP 5 rfl rfl 7 (by decide) hgX2_34 (fun _ h9 => h9) rfl dX2_doSetting_161 ?_
                refine lv_iconst (v := 1) hx hb dX2_doSetting_164 (by decide) ?_
                refine va_iald hx hb hK hP 7 0 rfl rfl (vpc rfl) dX2_doSetting_165 ?_
                obtain ⟨y13, hy13, hf⟩ := obind hf
                refine cg_i (ws := [k0_0 aL vL, k0_1 cI aL vL, k0_2 cI aL vL, k0_3 cI aL vL, k0_4 cI aL vL, k2_0 aS vS, k2_1 cI aS vS, k2_2 cI aS vS]) (wc := [k0_0 aL vL, k0_1 cI aL vL, k0_2 cI aL vL, k0_3 cI aL vL, k0_4 cI aL vL]) (wr := [k2_0 aS vS, k2_1 cI aS vS, k2_2 cI aS vS]) (w1 := [k0_0 aL y13.2, k0_1 cI aL y13.2, k0_2 cI aL y13.2, k0_3 cI aL y13.2, k0_4 cI aL y13.2]) (wo := [k0_0 aL y13.2, k0_1 cI aL y13.2, k0_2 cI aL y13.2, k0_3 cI aL y13.2, k0_4 cI aL y13.2, k2_0 aS vS, k2_1 cI aS vS, k2_2 cI aS vS]) hP hD hS hA (va_runV (As := [.int ((p2_numbers vS) ((0 : Int32)).toNatClampNeg), .int 0, .int ((p2_numbers vS) ((1 : Int32)).toNatClampNeg)]) (rest := []) ⟨hx, hb, hml, hown, hts⟩ (mX0_setStop l dC dI cI cJ aL H.size vL ((p2_numbers vS) ((0 : Int32)).toNatClampNeg) (0 : Int32) ((p2_numbers vS) ((1 : Int32)).toNatClampNeg) y13 hy13) (cwV 3 hts gX2_doSetting_X0_setStop rfl rfl rfl (by decide +kernel) ⟨Nat.le_of_ble_eq_true rfl, Nat.le_of_ble_eq_true rfl⟩) ⟨cFB, va_recv hK hP (ci := 0) (q0 := 0) rfl rfl, cPre hK hN hS (va_free (wc := [k0_0 aL vL, k0_1 cI aL vL, k0_2 cI aL vL, k0_3 cI aL vL, k0_4 cI aL vL]) hD hS hA [0, 1, 2, 3, 4] rfl) (hP.sub [0, 1, 2, 3, 4] rfl) (hD.sub [0, 1, 2, 3, 4] rfl rfl)⟩ rfl rfl hl.1 rfl (lv_room (Nat.le_of_ble_eq_true rfl)) dX2_doSetting_166 ⟨Nat.le_of_ble_eq_true rfl, Nat.le_of_ble_eq_true rfl⟩) [0, 1, 2, 3, 4] [5, 6, 7] [3, 4, 5, 6, 7, 0, 1, 2] rfl rfl rfl (by decide +kernel) rfl rfl (fun H locs hP hD hS => ?_)
                obtain rfl := Option.some.inj hf
                exact W.iret (v := y13.1) hx hb hr (fun t ht hW => ⟨⟨y13.1, (), rfl, rfl, by rw [ht]; exact hP, hD⟩, hS.F ht⟩) hS.2.2 dX2_doSetting_169
              · have hf := oif_f c12 hf
                by_cases c14 : y3 = 109
                · have hf := oif_t c14 hf
                  refine lv_tableIn (tgt := 188) hx hb dX2_doSetting_8 (by rw [c14]; decide) (by rw [c14]; decide) (by rw [c14]; rfl) (by decide) ?_
                  exact (hWW _ _ _ _ _ _ _).1 (J188 vL H locs ls hP hD hS (lv_sub hl [0, 1] rfl) hf)
                · have hf := oif_f c14 hf
                  by_cases c15 : y3 = 110
                  · have hf := oif_t c15 hf
                    refine lv_tableIn (tgt := 188) hx hb dX2_doSetting_8 (by rw [c15]; decide) (by rw [c15]; decide) (by rw [c15]; rfl) (by decide) ?_
                    exact (hWW _ _ _ _ _ _ _).1 (J188 vL H locs ls hP hD hS (lv_sub hl [0, 1] rfl) hf)
                  · have hf := oif_f c15 hf
                    by_cases c16 : y3 = 111
                    · have hf := oif_t c16 hf
                      refine lv_tableIn (tgt := 188) hx hb dX2_doSetting_8 (by rw [c16]; decide) (by rw [c16]; decide) (by rw [c16]; rfl) (by decide) ?_
                      exact (hWW _ _ _ _ _ _ _).1 (J188 vL H locs ls hP hD hS (lv_sub hl [0, 1] rfl) hf)
                    · have hf := oif_f c16 hf
                      by_cases c17 : y3 = 112
                      · have hf := oif_t c17 hf
                        refine lv_tableIn (tgt := 107) hx hb dX2_doSetting_8 (by rw [c17]; decide) (by rw [c17]; decide) (by rw [c17]; rfl) (by decide) ?_
                        refine lv_aload_n hx hb dX2_doSetting_107 rfl (lv_at hl 1 rfl) ?_
                        obtain ⟨y18, hy18, hf⟩ := obind hf
                        refine cg_i (ws := [k0_0 aL vL, k0_1 cI aL vL, k0_2 cI aL vL, k0_3 cI aL vL, k0_4 cI aL vL, k2_0 aS vS, k2_1 cI aS vS, k2_2 cI aS vS]) (wc := [k0_0 aL vL, k0_1 cI aL vL, k0_2 cI aL vL, k0_3 cI aL vL, k0_4 cI aL vL]) (wr := [k2_0 aS vS, k2_1 cI aS vS, k2_2 cI aS vS]) (w1 := [k0_0 aL y18.2, k0_1 cI aL y18.2, k0_2 cI aL y18.2, k0_3 cI aL y18.2, k0_4 cI aL y18.2]) (wo := [k0_0 aL y18.2, k0_1 cI aL y18.2, k0_2 cI aL y18.2, k0_3 cI aL y18.2, k0_4 cI aL y18.2, k2_0 aS vS, k2_1 cI aS vS, k2_2 cI aS vS]) hP hD hS hA (va_runV (As := []) (rest := []) ⟨hx, hb, hml, hown, hts⟩ (mX0_addPlate l dC dI cI cJ aL H.size vL y18 hy18) (cwV 0 hts gX2_doSetting_X0_addPlate rfl rfl rfl (by decide +kernel) ⟨Nat.le_of_ble_eq_true rfl, Nat.le_of_ble_eq_true rfl⟩) ⟨cFB, va_recv hK hP (ci := 0) (q0 := 0) rfl rfl, cPre hK hN hS (va_free (wc := [k0_0 aL vL, k0_1 cI aL vL, k0_2 cI aL vL, k0_3 cI aL vL, k0_4 cI aL vL]) hD hS hA [0, 1, 2, 3, 4] rfl) (hP.sub [0, 1, 2, 3, 4] rfl) (hD.sub [0, 1, 2, 3, 4] rfl rfl)⟩ rfl rfl hl.1 rfl (lv_room (Nat.le_of_ble_eq_true rfl)) dX2_doSetting_108 ⟨Nat.le_of_ble_eq_true rfl, Nat.le_of_ble_eq_true rfl⟩) [0, 1, 2, 3, 4] [5, 6, 7] [3, 4, 5, 6, 7, 0, 1, 2] rfl rfl rfl (by decide +kernel) rfl rfl (fun H locs hP hD hS => ?_)
                        obtain rfl := Option.some.inj hf
                        exact W.iret (v := y18.1) hx hb hr (fun t ht hW => ⟨⟨y18.1, (), rfl, rfl, by rw [ht]; exact hP, hD⟩, hS.F ht⟩) hS.2.2 dX2_doSetting_111
                      · have hf := oif_f c17 hf
                        by_cases c19 : y3 = 113
                        · have hf := oif_t c19 hf
                          refine lv_tableIn (tgt := 188) hx hb dX2_doSetting_8 (by rw [c19]; decide) (by rw [c19]; decide) (by rw [c19]; rfl) (by decide) ?_
                          exact (hWW _ _ _ _ _ _ _).1 (J188 vL H locs ls hP hD hS (lv_sub hl [0, 1] rfl) hf)
                        · have hf := oif_f c19 hf
                          by_cases c20 : y3 = 114
                          · have hf := oif_t c20 hf
                            refine lv_tableIn (tgt := 170) hx hb dX2_doSetting_8 (by rw [c20]; decide) (by rw [c20]; decide) (by rw [c20]; rfl) (by decide) ?_
                            refine lv_aload_n hx hb dX2_doSetting_170 rfl (lv_at hl 1 rfl) ?_
                            refine lv_aload_n hx hb dX2_doSetting_171 rfl (lv_at hl 0 rfl) ?_
                            refine va_get (D := (dC, dI)) (ci := 2) (v := .ref (aS 2)) (C := RX2) (T := TX2) (N := 9) hx hb hts hiX2 hown hK hP 5 rfl rfl 7 (by decide) hgX2_34 (fun _ h9 => h9) rfl dX2_doSetting_172 ?_
                            refine lv_iconst (v := 0) hx hb dX2_doSetting_175 (by decide) ?_
                            refine va_iald hx hb hK hP 7 0 rfl rfl (vpc rfl) dX2_doSetting_176 ?_
                            refine lv_iconst (v := 1) hx hb dX2_doSetting_177 (by decide) ?_
                            refine lv_aload_n hx hb dX2_doSetting_178 rfl (lv_at hl 0 rfl) ?_
                            refine va_get (D := (dC, dI)) (ci := 2) (v := .ref (aS 2)) (C := RX2) (T := TX2) (N := 9) hx hb hts hiX2 hown hK hP 5 rfl rfl 7 (by decide) hgX2_34 (fun _ h9 => h9) rfl dX2_doSetting_179 ?_
                            refine lv_iconst (v := 1) hx hb dX2_doSetting_182 (by decide) ?_
                            refine va_iald hx hb hK hP 7 0 rfl rfl (vpc rfl) dX2_doSetting_183 ?_
                            obtain ⟨y21, hy21, hf⟩ := obind hf
                            refine cg_i (ws := [k0_0 aL vL, k0_1 cI aL vL, k0_2 cI aL vL, k0_3 cI aL vL, k0_4 cI aL vL, k2_0 aS vS, k2_1 cI aS vS, k2_2 cI aS vS]) (wc := [k0_0 aL vL, k0_1 cI aL vL, k0_2 cI aL vL, k0_3 cI aL vL, k0_4 cI aL vL]) (wr := [k2_0 aS vS, k2_1 cI aS vS, k2_2 cI aS vS]) (w1 := [k0_0 aL y21.2, k0_1 cI aL y21.2, k0_2 cI aL y21.2, k0_3 cI aL y21.2, k0_4 cI aL y21.2]) (wo := [k0_0 aL y21.2, k0_1 cI aL y21.2, k0_2 cI aL y21.2, k0_3 cI aL y21.2, k0_4 cI aL y21.2, k2_0 aS vS, k2_1 cI aS vS, k2_2 cI aS vS]) hP hD hS hA (va_runV (As := [.int ((p2_numbers vS) ((0 : Int32)).toNatClampNeg), .int 1, .int ((p2_numbers vS) ((1 : Int32)).toNatClampNeg)]) (rest := []) ⟨hx, hb, hml, hown, hts⟩ (mX0_setStop l dC dI cI cJ aL H.size vL ((p2_numbers vS) ((0 : Int32)).toNatClampNeg) (1 : Int32) ((p2_numbers vS) ((1 : Int32)).toNatClampNeg) y21 hy21) (cwV 3 hts gX2_doSetting_X0_setStop rfl rfl rfl (by decide +kernel) ⟨Nat.le_of_ble_eq_true rfl, Nat.le_of_ble_eq_true rfl⟩) ⟨cFB, va_recv hK hP (ci := 0) (q0 := 0) rfl rfl, cPre hK hN hS (va_free (wc := [k0_0 aL vL, k0_1 cI aL vL, k0_2 cI aL vL, k0_3 cI aL vL, k0_4 cI aL vL]) hD hS hA [0, 1, 2, 3, 4] rfl) (hP.sub [0, 1, 2, 3, 4] rfl) (hD.sub [0, 1, 2, 3, 4] rfl rfl)⟩ rfl rfl hl.1 rfl (lv_room (Nat.le_of_ble_eq_true rfl)) dX2_doSetting_184 ⟨Nat.le_of_ble_eq_true rfl, Nat.le_of_ble_eq_true rfl⟩) [0, 1, 2, 3, 4] [5, 6, 7] [3, 4, 5, 6, 7, 0, 1, 2] rfl rfl rfl (by decide +kernel) rfl rfl (fun H locs hP hD hS => ?_)
                            obtain rfl := Option.some.inj hf
                            exact W.iret (v := y21.1) hx hb hr (fun t ht hW => ⟨⟨y21.1, (), rfl, rfl, by rw [ht]; exact hP, hD⟩, hS.F ht⟩) hS.2.2 dX2_doSetting_187
                          · have hf := oif_f c20 hf
                            by_cases c22 : y3 = 115
                            · have hf := oif_t c22 hf
                              refine lv_tableIn (tgt := 188) hx hb dX2_doSetting_8 (by rw [c22]; decide) (by rw [c22]; decide) (by rw [c22]; rfl) (by decide) ?_
                              exact (hWW _ _ _ _ _ _ _).1 (J188 vL H locs ls hP hD hS (lv_sub hl [0, 1] rfl) hf)
                            · have hf := oif_f c22 hf
                              by_cases c23 : y3 = 116
                              · have hf := oif_t c23 hf
                                refine lv_tableIn (tgt := 188) hx hb dX2_doSetting_8 (by rw [c23]; decide) (by rw [c23]; decide) (by rw [c23]; rfl) (by decide) ?_
                                exact (hWW _ _ _ _ _ _ _).1 (J188 vL H locs ls hP hD hS (lv_sub hl [0, 1] rfl) hf)
                              · have hf := oif_f c23 hf
                                by_cases c24 : y3 = 117
                                · have hf := oif_t c24 hf
                                  refine lv_tableIn (tgt := 188) hx hb dX2_doSetting_8 (by rw [c24]; decide) (by rw [c24]; decide) (by rw [c24]; rfl) (by decide) ?_
                                  exact (hWW _ _ _ _ _ _ _).1 (J188 vL H locs ls hP hD hS (lv_sub hl [0, 1] rfl) hf)
                                · have hf := oif_f c24 hf
                                  by_cases c25 : y3 = 118
                                  · have hf := oif_t c25 hf
                                    refine lv_tableIn (tgt := 188) hx hb dX2_doSetting_8 (by rw [c25]; decide) (by rw [c25]; decide) (by rw [c25]; rfl) (by decide) ?_
                                    exact (hWW _ _ _ _ _ _ _).1 (J188 vL H locs ls hP hD hS (lv_sub hl [0, 1] rfl) hf)
                                  · have hf := oif_f c25 hf
                                    by_cases c26 : y3 = 119
                                    · have hf := oif_t c26 hf
                                      refine lv_tableIn (tgt := 96) hx hb dX2_doSetting_8 (by rw [c26]; decide) (by rw [c26]; decide) (by rw [c26]; rfl) (by decide) ?_
                                      refine lv_aload_n hx hb dX2_doSetting_96 rfl (lv_at hl 1 rfl) ?_
                                      refine lv_aload_n hx hb dX2_doSetting_97 rfl (lv_at hl 0 rfl) ?_
                                      refine va_get (D := (dC, dI)) (ci := 2) (v := .ref (aS 2)) (C := RX2) (T := TX2) (N := 9) hx hb hts hiX2 hown hK hP 5 rfl rfl 7 (by decide) hgX2_34 (fun _ h9 => h9) rfl dX2_doSetting_98 ?_
                                      refine lv_iconst (v := 0) hx hb dX2_doSetting_101 (by decide) ?_
                                      refine va_iald hx hb hK hP 7 0 rfl rfl (vpc rfl) dX2_doSetting_102 ?_
                                      obtain ⟨y27, hy27, hf⟩ := obind hf
                                      refine cg_i (ws := [k0_0 aL vL, k0_1 cI aL vL, k0_2 cI aL vL, k0_3 cI aL vL, k0_4 cI aL vL, k2_0 aS vS, k2_1 cI aS vS, k2_2 cI aS vS]) (wc := [k0_0 aL vL, k0_1 cI aL vL, k0_2 cI aL vL, k0_3 cI aL vL, k0_4 cI aL vL]) (wr := [k2_0 aS vS, k2_1 cI aS vS, k2_2 cI aS vS]) (w1 := [k0_0 aL y27.2, k0_1 cI aL y27.2, k0_2 cI aL y27.2, k0_3 cI aL y27.2, k0_4 cI aL y27.2]) (wo := [k0_0 aL y27.2, k0_1 cI aL y27.2, k0_2 cI aL y27.2, k0_3 cI aL y27.2, k0_4 cI aL y27.2, k2_0 aS vS, k2_1 cI aS vS, k2_2 cI aS vS]) hP hD hS hA (va_runV (As := [.int ((p2_numbers vS) ((0 : Int32)).toNatClampNeg)]) (rest := []) ⟨hx, hb, hml, hown, hts⟩ (mX0_setWidth l dC dI cI cJ aL H.size vL ((p2_numbers vS) ((0 : Int32)).toNatClampNeg) y27 hy27) (cwV 1 hts gX2_doSetting_X0_setWidth rfl rfl rfl (by decide +kernel) ⟨Nat.le_of_ble_eq_true rfl, Nat.le_of_ble_eq_true rfl⟩) ⟨cFB, va_recv hK hP (ci := 0) (q0 := 0) rfl rfl, cPre hK hN hS (va_free (wc := [k0_0 aL vL, k0_1 cI aL vL, k0_2 cI aL vL, k0_3 cI aL vL, k0_4 cI aL vL]) hD hS hA [0, 1, 2, 3, 4] rfl) (hP.sub [0, 1, 2, 3, 4] rfl) (hD.sub [0, 1, 2, 3, 4] rfl rfl)⟩ rfl rfl hl.1 rfl (lv_room (Nat.le_of_ble_eq_true rfl)) dX2_doSetting_103 ⟨Nat.le_of_ble_eq_true rfl, Nat.le_of_ble_eq_true rfl⟩) [0, 1, 2, 3, 4] [5, 6, 7] [3, 4, 5, 6, 7, 0, 1, 2] rfl rfl rfl (by decide +kernel) rfl rfl (fun H locs hP hD hS => ?_)
                                      obtain rfl := Option.some.inj hf
                                      exact W.iret (v := y27.1) hx hb hr (fun t ht hW => ⟨⟨y27.1, (), rfl, rfl, by rw [ht]; exact hP, hD⟩, hS.F ht⟩) hS.2.2 dX2_doSetting_106
                                    · have hf := oif_f c26 hf
                                      refine lv_tableOut (tgt := 188) hx hb dX2_doSetting_8 (by have t0 := toInt_ne (n := 102) rfl c4; have t1 := toInt_ne (n := 103) rfl c6; have t2 := toInt_ne (n := 104) rfl c7; have t3 := toInt_ne (n := 105) rfl c8; have t4 := toInt_ne (n := 106) rfl c9; have t5 := toInt_ne (n := 107) rfl c10; have t6 := toInt_ne (n := 108) rfl c12; have t7 := toInt_ne (n := 109) rfl c14; have t8 := toInt_ne (n := 110) rfl c15; have t9 := toInt_ne (n := 111) rfl c16; have t10 := toInt_ne (n := 112) rfl c17; have t11 := toInt_ne (n := 113) rfl c19; have t12 := toInt_ne (n := 114) rfl c20; have t13 := toInt_ne (n := 115) rfl c22; have t14 := toInt_ne (n := 116) rfl c23; have t15 := toInt_ne (n := 117) rfl c24; have t16 := toInt_ne (n := 118) rfl c25; have t17 := toInt_ne (n := 119) rfl c26; omega) (by decide) ?_
                                      exact (hWW _ _ _ _ _ _ _).1 (J188 vL H locs ls hP hD hS (lv_sub hl [0, 1] rfl) hf)
