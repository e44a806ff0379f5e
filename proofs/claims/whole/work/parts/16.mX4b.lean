def fX4_divisor_17_b (k17 : Int64 → Int64 → Option Int64) (l4 : Int64) (l6 : Int64) : Option Int64 :=
  if (lg_cmp l6 (0 : Int64)) ≤ 0 then (some l4) else (if l6 = 0 then none else (elet (l4 - l4 / l6 * l6) (fun z3 => k17 l6 z3)))
def fX4_divisor_17 : Nat → Int64 → Int64 → Option Int64
  | 0 => fun _ _ => none
  | n + 1 => fX4_divisor_17_b (fX4_divisor_17 n)
def fX4_divisor_12 (l2 : Int64) (st0 : Int64) : Option Int64 :=
  fX4_divisor_17 FU st0 l2
def fX4_divisor (j0 : Int64) (j2 : Int64) : Option Int64 :=
  if 0 ≤ (lg_cmp j0 (0 : Int64)) then (fX4_divisor_12 j2 j0) else (fX4_divisor_12 j2 (-j0))
set_option maxHeartbeats 8000000 in
set_option maxRecDepth 100000 in
theorem mX4_divisor (l : Launch) (dC : Nat → ClassId) (dI : Nat → Nat → Nat) (cI cJ : ClassId) (sz : Nat) (j0 : Int64) (j2 : Int64) (y : Int64) (hf : fX4_divisor j0 j2 = some y) : Met l yX4_divisor wsX4_divisor ({ frames := 0, cells := 0, slots := 0, locals := 0 }) (cPc dC dI cI cJ [.long j0, .long j2] [] sz) (va_Ql (fun r (_ : Unit) => r = y) (fun _ t => cB dC dI (va_A [] sz) [] t) (va_A [] sz)) 0 0 (va_A [] sz) := by
  refine Met.ofW (cc := cX4_divisor) (maxL := 10) (ret := (some .long)) (by decide) rfl ?_
  intro p e s m args below meth c s₁ B hml hv
  obtain ⟨rfl, hsz, hP, hK, hD0, hN⟩ := hv
  have hx := B.exec
  have hb := B.bytes
  have hr := B.returns
  have hts := atoms_spec (ws := wsX4_divisor) B.pre
  have hown : s.vm.findClass RX4 = some m.cls := findClass_of_methodNamed B.named
  have hlocks := B.notSynchronized
  subst hsz
  have hD := hD0.self (sz := s.heap.size)
  generalize hAe : va_A [] s.heap.size = A at hD hN ⊢
  have hA : ∀ q : Nat, s.heap.size ≤ q → A q := fun q h => by rw [← hAe]; exact Or.inr h
  have hP : va_P (dC, dI) vwCl [] s.heap := hP
  have hl := lv_entry ([.long j0, .long j2]) (n := 10) (Nat.le_of_ble_eq_true rfl)
  rw [lg_entry_eq]
  generalize (lg_sl ([.long j0, .long j2]) ++ List.replicate (10 - (lg_sl ([.long j0, .long j2])).length) Slot.unset).toArray = ls at hl ⊢
  have hl : lv_has ls 10 [(0, .long j0), (2, .long j2)] := hl
  refine nameH (fun H locs hHe hLe => ?_)
  have hP : va_P (dC, dI) vwCl [] H := by rw [hHe]; exact hP
  have hS : va_S A s.heap H locs := by rw [hHe, hLe]; exact va_S.rf
  refine withW (fun WW hWW => ?_)
  have L17 : ∀ (n : Nat) (l4 : Int64) (l6 : Int64) (H : Heap) (locs : List Loc) (ls : Array Slot), va_P (dC, dI) vwCl [] H → va_D A [] → va_S A s.heap H locs → lv_has ls 10 [(4, .long l4), (6, .long l6)] → fX4_divisor_17 n l4 l6 = some y → WW H locs 0 0 ls 17 [] := by
    intro n
    induction n with
    | zero =>
      intro l4 l6 H locs ls hP hD hS hl hf
      exact onone hf
    | succ n ih =>
      intro l4 l6 H locs ls hP hD hS hl hf
      have hf : fX4_divisor_17_b (fX4_divisor_17 n) l4 l6 = some y := hf
      generalize fX4_divisor_17 n = k17 at hf ih
      have hk17 := ih
      clear ih
      unfold fX4_divisor_17_b at hf
      refine (hWW _ _ _ _ _ _ _).2 ?_
      refine lv_lload hx hb dX4_divisor_17 (lv_at hl 1 rfl) ?_
      refine lv_lconst (v := 0) hx hb dX4_divisor_19 (by decide) ?_
      refine W.lcmp hx hb dX4_divisor_20 ?_
      refine lv_if_le (tgt := 42) hx hb dX4_divisor_21 (by decide) (fun c1 => ?_) (fun c1 => ?_)
      · have hf := oif_t c1 hf
        refine lv_lload hx hb dX4_divisor_42 (lv_at hl 0 rfl) ?_
        obtain rfl := Option.some.inj hf
        exact W.lret (v := l4) hx hb hr (fun t ht hW => ⟨⟨l4, (), rfl, rfl, by rw [ht]; exact hP, hD⟩, hS.F ht⟩) hS.2.2 dX4_divisor_44
      · have hf := oif_f c1 hf
        refine lv_lload hx hb dX4_divisor_24 (lv_at hl 0 rfl) ?_
        refine lv_lload hx hb dX4_divisor_26 (lv_at hl 1 rfl) ?_
        obtain ⟨hd2, hf⟩ := odiv hf
        refine lv_lrem hx hb dX4_divisor_28 hd2 ?_
        obtain ⟨z3, ez3, hf⟩ := elet_out hf
        refine lvn_l ez3 ?_
        refine lv_lstore (lv' := [(8, .long z3), (4, .long l4), (6, .long l6)]) hx hb dX4_divisor_29 hl (by decide) rfl (fun ls hl => ?_)
        refine lv_lload hx hb dX4_divisor_31 (lv_at hl 2 rfl) ?_
        refine lv_lstore (lv' := [(4, .long l6), (8, .long z3), (6, .long l6)]) hx hb dX4_divisor_33 hl (by decide) rfl (fun ls hl => ?_)
        refine lv_lload hx hb dX4_divisor_35 (lv_at hl 1 rfl) ?_
        refine lv_lstore (lv' := [(6, .long z3), (4, .long l6), (8, .long z3)]) hx hb dX4_divisor_37 hl (by decide) rfl (fun ls hl => ?_)
        refine lv_goto (tgt := 17) hx hb dX4_divisor_39 (by decide) ?_
        exact (hWW _ _ _ _ _ _ _).1 (hk17 l6 z3 H locs ls hP hD hS (lv_sub hl [1, 0] rfl) hf)
  have J12 : ∀ (l2 : Int64) (st0 : Int64) (H : Heap) (locs : List Loc) (ls : Array Slot), va_P (dC, dI) vwCl [] H → va_D A [] → va_S A s.heap H locs → lv_has ls 10 [(2, .long l2)] → fX4_divisor_12 l2 st0 = some y → WW H locs 0 0 ls 12 [.long st0] := by
    intro l2 st0 H locs ls hP hD hS hl hf
    unfold fX4_divisor_12 at hf
    refine (hWW _ _ _ _ _ _ _).2 ?_
    refine lv_lstore (lv' := [(4, .long st0), (2, .long l2)]) hx hb dX4_divisor_12 hl (by decide) rfl (fun ls hl => ?_)
    refine lv_lload_n hx hb dX4_divisor_14 rfl (lv_at hl 1 rfl) ?_
    refine lv_lstore (lv' := [(6, .long l2), (4, .long st0), (2, .long l2)]) hx hb dX4_divisor_15 hl (by decide) rfl (fun ls hl => ?_)
    exact (hWW _ _ _ _ _ _ _).1 (L17 FU st0 l2 H locs ls hP hD hS (lv_sub hl [1, 0] rfl) hf)
  refine (hWW _ _ _ _ _ _ _).2 ?_
  unfold fX4_divisor at hf
  refine lv_lload_n hx hb dX4_divisor_0 rfl (lv_at hl 0 rfl) ?_
  refine lv_lconst (v := 0) hx hb dX4_divisor_1 (by decide) ?_
  refine W.lcmp hx hb dX4_divisor_2 ?_
  refine lv_if_ge (tgt := 11) hx hb dX4_divisor_3 (by decide) (fun c4 => ?_) (fun c4 => ?_)
  · have hf := oif_t c4 hf
    refine lv_lload_n hx hb dX4_divisor_11 rfl (lv_at hl 0 rfl) ?_
    exact (hWW _ _ _ _ _ _ _).1 (J12 j2 j0 H locs ls hP hD hS (lv_sub hl [1] rfl) hf)
  · have hf := oif_f c4 hf
    refine lv_lload_n hx hb dX4_divisor_6 rfl (lv_at hl 0 rfl) ?_
    refine lv_lneg hx hb dX4_divisor_7 ?_
    refine lv_goto (tgt := 12) hx hb dX4_divisor_8 (by decide) ?_
    exact (hWW _ _ _ _ _ _ _).1 (J12 j2 (-j0) H locs ls hP hD hS (lv_sub hl [1] rfl) hf)
def fX4_part (j0 : Int64) (j2 : Int64) (i4 : Int32) (i5 : Int32) : Option Int32 :=
  (fX4_divisor j0 j2).bind (fun y1 => if i4 = 0 then (if y1 = 0 then none else (some ((((j0 / y1) + (i5).toInt64)).toInt32))) else (if y1 = 0 then none else (some (((j2 / y1)).toInt32))))
set_option maxHeartbeats 8000000 in
set_option maxRecDepth 100000 in
theorem mX4_part (l : Launch) (dC : Nat → ClassId) (dI : Nat → Nat → Nat) (cI cJ : ClassId) (sz : Nat) (j0 : Int64) (j2 : Int64) (i4 : Int32) (i5 : Int32) (y : Int32) (hf : fX4_part j0 j2 i4 i5 = some y) : Met l yX4_part wsX4_part ({ frames := 1, cells := 0, slots := 0, locals := 29 }) (cPc dC dI cI cJ [.long j0, .long j2, .int i4, .int i5] [] sz) (va_Qi (fun r (_ : Unit) => r = y) (fun _ t => cB dC dI (va_A [] sz) [] t) (va_A [] sz)) 0 0 (va_A [] sz) := by
  refine Met.ofW (cc := cX4_part) (maxL := 8) (ret := (some .int)) (by decide) rfl ?_
  intro p e s m args below meth c s₁ B hml hv
  obtain ⟨rfl, hsz, hP, hK, hD0, hN⟩ := hv
  have hx := B.exec
  have hb := B.bytes
  have hr := B.returns
  have hts := atoms_spec (ws := wsX4_part) B.pre
  have hown : s.vm.findClass RX4 = some m.cls := findClass_of_methodNamed B.named
  have hlocks := B.notSynchronized
  subst hsz
  have hD := hD0.self (sz := s.heap.size)
  generalize hAe : va_A [] s.heap.size = A at hD hN ⊢
  have hA : ∀ q : Nat, s.heap.size ≤ q → A q := fun q h => by rw [← hAe]; exact Or.inr h
  have hP : va_P (dC, dI) vwCl [] s.heap := hP
  have hl := lv_entry ([.long j0, .long j2, .int i4, .int i5]) (n := 8) (Nat.le_of_ble_eq_true rfl)
  rw [lg_entry_eq]
  generalize (lg_sl ([.long j0, .long j2, .int i4, .int i5]) ++ List.replicate (8 - (lg_sl ([.long j0, .long j2, .int i4, .int i5])).length) Slot.unset).toArray = ls at hl ⊢
  have hl : lv_has ls 8 [(0, .long j0), (2, .long j2), (4, .int i4), (5, .int i5)] := hl
  refine nameH (fun H locs hHe hLe => ?_)
  have hP : va_P (dC, dI) vwCl [] H := by rw [hHe]; exact hP
  have hS : va_S A s.heap H locs := by rw [hHe, hLe]; exact va_S.rf
  unfold fX4_part at hf
  refine lv_lload_n hx hb dX4_part_0 rfl (lv_at hl 0 rfl) ?_
  refine lv_lload_n hx hb dX4_part_1 rfl (lv_at hl 1 rfl) ?_
  obtain ⟨y1, hy1, hf⟩ := obind hf
  refine cg_l (ws := []) (wc := []) (wr := []) (w1 := []) (wo := []) hP hD hS hA (va_runS (As := [.long j0, .long j2]) (rest := []) ⟨hx, hb, hml, hown, hts⟩ (mX4_divisor l dC dI cI cJ  H.size j0 j2 y1 hy1) (va_cwS 2 hts gX4_part_X4_divisor rfl rfl rfl (by decide +kernel) ⟨Nat.le_of_ble_eq_true rfl, Nat.le_of_ble_eq_true rfl⟩) ⟨cFB, cPre hK hN hS (va_free (wc := []) hD hS hA [] rfl) (hP.sub [] rfl) (hD.sub [] rfl rfl)⟩ rfl rfl hl.1 rfl (lv_room (Nat.le_of_ble_eq_true rfl)) dX4_part_2 ⟨Nat.le_of_ble_eq_true rfl, Nat.le_of_ble_eq_true rfl⟩) [] [] [] rfl rfl rfl (by decide +kernel) rfl rfl (fun H locs hP hD hS => ?_)
  refine lv_lstore (lv' := [(6, .long y1), (0, .long j0), (2, .long j2), (4, .int i4), (5, .int i5)]) hx hb dX4_part_5 hl (by decide) rfl (fun ls hl => ?_)
  refine lv_iload hx hb dX4_part_7 (lv_at hl 3 rfl) ?_
  refine lv_if_ne (tgt := 23) hx hb dX4_part_9 (by decide) (fun c2 => ?_) (fun c2 => ?_)
  · have hf := oif_f c2 hf
    refine lv_lload_n hx hb dX4_part_23 rfl (lv_at hl 2 rfl) ?_
    refine lv_lload hx hb dX4_part_24 (lv_at hl 0 rfl) ?_
    obtain ⟨hd3, hf⟩ := odiv hf
    refine lv_ldiv hx hb dX4_part_26 hd3 ?_
    refine lv_l2i (v := ((j2 / y1)).toInt32) hx hb dX4_part_27 rfl ?_
    obtain rfl := Option.some.inj hf
    exact W.iret (v := ((j2 / y1)).toInt32) hx hb hr (fun t ht hW => ⟨⟨((j2 / y1)).toInt32, (), rfl, rfl, by rw [ht]; exact hP, hD⟩, hS.F ht⟩) hS.2.2 dX4_part_28
  · have hf := oif_t c2 hf
    refine lv_lload_n hx hb dX4_part_12 rfl (lv_at hl 1 rfl) ?_
    refine lv_lload hx hb dX4_part_13 (lv_at hl 0 rfl) ?_
    obtain ⟨hd4, hf⟩ := odiv hf
    refine lv_ldiv hx hb dX4_part_15 hd4 ?_
    refine lv_iload hx hb dX4_part_16 (lv_at hl 4 rfl) ?_
    refine lv_i2l (v := (i5).toInt64) hx hb dX4_part_18 rfl ?_
    refine lv_ladd hx hb dX4_part_19 ?_
    refine lv_goto (tgt := 27) hx hb dX4_part_20 (by decide) ?_
    refine lv_l2i (v := (((j0 / y1) + (i5).toInt64)).toInt32) hx hb dX4_part_27 rfl ?_
    obtain rfl := Option.some.inj hf
    exact W.iret (v := (((j0 / y1) + (i5).toInt64)).toInt32) hx hb hr (fun t ht hW => ⟨⟨(((j0 / y1) + (i5).toInt64)).toInt32, (), rfl, rfl, by rw [ht]; exact hP, hD⟩, hS.F ht⟩) hS.2.2 dX4_part_28
def fX4_place (vM : BX4) (i1 : Int32) (i2 : Int32) : Option (Int32 × BX4) :=
  (fX4_isPlate vM i1).bind (fun y1 => if y1 = 0 then (some ((-1000001), vM)) else ((fX4_in i2 (0 : Int32) (2 : Int32)).bind (fun y3 => if y3 = 0 then (some ((-1000001), vM)) else ((fX4_rests vM).bind (fun y5 => if i2 = (2 : Int32) then (if inB i1 4 = true then (if (p4_lower y5) = 0 then none else (some (((((p4_upper y5) (i1).toNatClampNeg) / (p4_lower y5))).toInt32, y5))) else none) else (if inB i1 4 = true then ((fX4_part ((p4_upper y5) (i1).toNatClampNeg) (p4_lower y5) i2 (0 : Int32)).bind (fun y8 => some (y8, y5))) else none))))))
set_option maxHeartbeats 8000000 in
set_option maxRecDepth 100000 in
theorem mX4_place (l : Launch) (dC : Nat → ClassId) (dI : Nat → Nat → Nat) (cI cJ : ClassId) (aM : Nat → Nat) (sz : Nat) (vM : BX4) (i1 : Int32) (i2 : Int32) (y : (Int32 × BX4)) (hf : fX4_place vM i1 i2 = some y) : Met l yX4_place wsX4_place ({ frames := 5, cells := 0, slots := 0, locals := 114 }) (cPc dC dI cI cJ [.ref (aM 0), .int i1, .int i2] [k4_0 aM vM, k4_1 cI aM vM, k4_2 cI aM vM, k4_3 cI aM vM, k4_4 cI aM vM, k4_5 cJ aM vM, k4_6 cI aM vM, k4_7 cJ aM vM, k4_8 cJ aM vM, k4_9 cI aM vM] sz) (va_Qi (fun r (_ : Unit) => r = y.1) (fun _ t => cB dC dI (va_A [k4_0 aM vM, k4_1 cI aM vM, k4_2 cI aM vM, k4_3 cI aM vM, k4_4 cI aM vM, k4_5 cJ aM vM, k4_6 cI aM vM, k4_7 cJ aM vM, k4_8 cJ aM vM, k4_9 cI aM vM] sz) [k4_0 aM y.2, k4_1 cI aM y.2, k4_2 cI aM y.2, k4_3 cI aM y.2, k4_4 cI aM y.2, k4_5 cJ aM y.2, k4_6 cI aM y.2, k4_7 cJ aM y.2, k4_8 cJ aM y.2, k4_9 cI aM y.2] t) (va_A [k4_0 aM vM, k4_1 cI aM vM, k4_2 cI aM vM, k4_3 cI aM vM, k4_4 cI aM vM, k4_5 cJ aM vM, k4_6 cI aM vM, k4_7 cJ aM vM, k4_8 cJ aM vM, k4_9 cI aM vM] sz)) 0 0 (va_A [k4_0 aM vM, k4_1 cI aM vM, k4_2 cI aM vM, k4_3 cI aM vM, k4_4 cI aM vM, k4_5 cJ aM vM, k4_6 cI aM vM, k4_7 cJ aM vM, k4_8 cJ aM vM, k4_9 cI aM vM] sz) := by
  refine Met.ofW (cc := cX4_place) (maxL := 3) (ret := (some .int)) (by decide) rfl ?_
  intro p e s m args below meth c s₁ B hml hv
  obtain ⟨rfl, hsz, hP, hK, hD0, hN⟩ := hv
  have hx := B.exec
  have hb := B.bytes
  have hr := B.returns
  have hts := atoms_spec (ws := wsX4_place) B.pre
  have hown : s.vm.findClass RX4 = some m.cls := findClass_of_methodNamed B.named
  have hlocks := B.notSynchronized
  subst hsz
  have hD := hD0.self (sz := s.heap.size)
  generalize hAe : va_A [k4_0 aM vM, k4_1 cI aM vM, k4_2 cI aM vM, k4_3 cI aM vM, k4_4 cI aM vM, k4_5 cJ aM vM, k4_6 cI aM vM, k4_7 cJ aM vM, k4_8 cJ aM vM, k4_9 cI aM vM] s.heap.size = A at hD hN ⊢
  have hA : ∀ q : Nat, s.heap.size ≤ q → A q := fun q h => by rw [← hAe]; exact Or.inr h
  have hP : va_P (dC, dI) vwCl [k4_0 aM vM, k4_1 cI aM vM, k4_2 cI aM vM, k4_3 cI aM vM, k4_4 cI aM vM, k4_5 cJ aM vM, k4_6 cI aM vM, k4_7 cJ aM vM, k4_8 cJ aM vM, k4_9 cI aM vM] s.heap := hP
  have hl := lv_entry ([.ref (aM 0), .int i1, .int i2]) (n := 3) (Nat.le_of_ble_eq_true rfl)
  rw [lg_entry_eq]
  generalize (lg_sl ([.ref (aM 0), .int i1, .int i2]) ++ List.replicate (3 - (lg_sl ([.ref (aM 0), .int i1, .int i2])).length) Slot.unset).toArray = ls at hl ⊢
  have hl : lv_has ls 3 [(0, .ref (aM 0)), (1, .int i1), (2, .int i2)] := hl
  have hc57 := hts (.constant RX4 57 (-1000001)) (by decide +kernel)
  have hiX4 : ∀ w ∈ u_ws RX4 TX4 21, w ∈ wsX4_place := by decide +kernel
  have hgX4_22 := hts (.fieldLink RX4 22 "SpringPlatesModel" "upper" "[J") (by decide +kernel)
  have hgX4_79 := hts (.fieldLink RX4 79 "SpringPlatesModel" "lower" "J") (by decide +kernel)
  refine nameH (fun H locs hHe hLe => ?_)
  have hP : va_P (dC, dI) vwCl [k4_0 aM vM, k4_1 cI aM vM, k4_2 cI aM vM, k4_3 cI aM vM, k4_4 cI aM vM, k4_5 cJ aM vM, k4_6 cI aM vM, k4_7 cJ aM vM, k4_8 cJ aM vM, k4_9 cI aM vM] H := by rw [hHe]; exact hP
  have hS : va_S A s.heap H locs := by rw [hHe, hLe]; exact va_S.rf
  unfold fX4_place at hf
  refine lv_aload_n hx hb dX4_place_0 rfl (lv_at hl 0 rfl) ?_
  refine lv_iload_n hx hb dX4_place_1 rfl (lv_at hl 1 rfl) ?_
  obtain ⟨y1, hy1, hf⟩ := obind hf
  refine cg_i (ws := [k4_0 aM vM, k4_1 cI aM vM, k4_2 cI aM vM, k4_3 cI aM vM, k4_4 cI aM vM, k4_5 cJ aM vM, k4_6 cI aM vM, k4_7 cJ aM vM, k4_8 cJ aM vM, k4_9 cI aM vM]) (wc := [k4_0 aM vM, k4_1 cI aM vM, k4_2 cI aM vM, k4_3 cI aM vM, k4_4 cI aM vM, k4_5 cJ aM vM, k4_6 cI aM vM, k4_7 cJ aM vM, k4_8 cJ aM vM, k4_9 cI aM vM]) (wr := []) (w1 := [k4_0 aM vM, k4_1 cI aM vM, k4_2 cI aM vM, k4_3 cI aM vM, k4_4 cI aM vM, k4_5 cJ aM vM, k4_6 cI aM vM, k4_7 cJ aM vM, k4_8 cJ aM vM, k4_9 cI aM vM]) (wo := [k4_0 aM vM, k4_1 cI aM vM, k4_2 cI aM vM, k4_3 cI aM vM, k4_4 cI aM vM, k4_5 cJ aM vM, k4_6 cI aM vM, k4_7 cJ aM vM, k4_8 cJ aM vM, k4_9 cI aM vM]) hP hD hS hA (va_runV (As := [.int i1]) (rest := []) ⟨hx, hb, hml, hown, hts⟩ (mX4_isPlate l dC dI cI cJ aM H.size vM i1 y1 hy1) (cwV 1 hts gX4_place_X4_isPlate rfl rfl rfl (by decide +kernel) ⟨Nat.le_of_ble_eq_true rfl, Nat.le_of_ble_eq_true rfl⟩) ⟨cFB, va_recv hK hP (ci := 4) (q0 := 0) rfl rfl, cPre hK hN hS (va_free (wc := [k4_0 aM vM, k4_1 cI aM vM, k4_2 cI aM vM, k4_3 cI aM vM, k4_4 cI aM vM, k4_5 cJ aM vM, k4_6 cI aM vM, k4_7 cJ aM vM, k4_8 cJ aM vM, k4_9 cI aM vM]) hD hS hA [0, 1, 2, 3, 4, 5, 6, 7, 8, 9] rfl) (hP.sub [0, 1, 2, 3, 4, 5, 6, 7, 8, 9] rfl) (hD.sub [0, 1, 2, 3, 4, 5, 6, 7, 8, 9] rfl rfl)⟩ rfl rfl hl.1 rfl (lv_room (Nat.le_of_ble_eq_true rfl)) dX4_place_2 ⟨Nat.le_of_ble_eq_true rfl, Nat.le_of_ble_eq_true rfl⟩) [0, 1, 2, 3, 4, 5, 6, 7, 8, 9] [] [0, 1, 2, 3, 4, 5, 6, 7, 8, 9] rfl rfl rfl (by decide +kernel) rfl rfl (fun H locs hP hD hS => ?_)
  refine lv_if_eq (tgt := 17) hx hb dX4_place_5 (by decide) (fun c2 => ?_) (fun c2 => ?_)
  · have hf := oif_t c2 hf
    refine lv_ldc (v := (-1000001)) hx hb hown hc57 dX4_place_17 ?_
    obtain rfl := Option.some.inj hf
    exact W.iret (v := (-1000001)) hx hb hr (fun t ht hW => ⟨⟨(-1000001), (), rfl, rfl, by rw [ht]; exact hP, hD⟩, hS.F ht⟩) hS.2.2 dX4_place_19
  · have hf := oif_f c2 hf
    refine lv_iload_n hx hb dX4_place_8 rfl (lv_at hl 2 rfl) ?_
    refine lv_iconst (v := 0) hx hb dX4_place_9 (by decide) ?_
    refine lv_iconst (v := 2) hx hb dX4_place_10 (by decide) ?_
    obtain ⟨y3, hy3, hf⟩ := obind hf
    refine cg_i (ws := [k4_0 aM vM, k4_1 cI aM vM, k4_2 cI aM vM, k4_3 cI aM vM, k4_4 cI aM vM, k4_5 cJ aM vM, k4_6 cI aM vM, k4_7 cJ aM vM, k4_8 cJ aM vM, k4_9 cI aM vM]) (wc := []) (wr := [k4_0 aM vM, k4_1 cI aM vM, k4_2 cI aM vM, k4_3 cI aM vM, k4_4 cI aM vM, k4_5 cJ aM vM, k4_6 cI aM vM, k4_7 cJ aM vM, k4_8 cJ aM vM, k4_9 cI aM vM]) (w1 := []) (wo := [k4_0 aM vM, k4_1 cI aM vM, k4_2 cI aM vM, k4_3 cI aM vM, k4_4 cI aM vM, k4_5 cJ aM vM, k4_6 cI aM vM, k4_7 cJ aM vM, k4_8 cJ aM vM, k4_9 cI aM vM]) hP hD hS hA (va_runS (As := [.int i2, .int 0, .int 2]) (rest := []) ⟨hx, hb, hml, hown, hts⟩ (mX4_in l dC dI cI cJ  H.size i2 (0 : Int32) (2 : Int32) y3 hy3) (va_cwS 3 hts gX4_place_X4_in rfl rfl rfl (by decide +kernel) ⟨Nat.le_of_ble_eq_true rfl, Nat.le_of_ble_eq_true rfl⟩) ⟨cFB, cPre hK hN hS (va_free (wc := []) hD hS hA [] rfl) (hP.sub [] rfl) (hD.sub [] rfl rfl)⟩ rfl rfl hl.1 rfl (lv_room (Nat.le_of_ble_eq_true rfl)) dX4_place_11 ⟨Nat.le_of_ble_eq_true rfl, Nat.le_of_ble_eq_true rfl⟩) [] [0, 1, 2, 3, 4, 5, 6, 7, 8, 9] [0, 1, 2, 3, 4, 5, 6, 7, 8, 9] rfl rfl rfl (by decide +kernel) rfl rfl (fun H locs hP hD hS => ?_)
    refine lv_if_ne (tgt := 20) hx hb dX4_place_14 (by decide) (fun c4 => ?_) (fun c4 => ?_)
    · have hf := oif_f c4 hf
      refine lv_aload_n hx hb dX4_place_20 rfl (lv_at hl 0 rfl) ?_
      obtain ⟨y5, hy5, hf⟩ := obind hf
      refine cg_v (ws := [k4_0 aM vM, k4_1 cI aM vM, k4_2 cI aM vM, k4_3 cI aM vM, k4_4 cI aM vM, k4_5 cJ aM vM, k4_6 cI aM vM, k4_7 cJ aM vM, k4_8 cJ aM vM, k4_9 cI aM vM]) (wc := [k4_0 aM vM, k4_1 cI aM vM, k4_2 cI aM vM, k4_3 cI aM vM, k4_4 cI aM vM, k4_5 cJ aM vM, k4_6 cI aM vM, k4_7 cJ aM vM, k4_8 cJ aM vM, k4_9 cI aM vM]) (wr := []) (w1 := [k4_0 aM y5, k4_1 cI aM y5, k4_2 cI aM y5, k4_3 cI aM y5, k4_4 cI aM y5, k4_5 cJ aM y5, k4_6 cI aM y5, k4_7 cJ aM y5, k4_8 cJ aM y5, k4_9 cI aM y5]) (wo := [k4_0 aM y5, k4_1 cI aM y5, k4_2 cI aM y5, k4_3 cI aM y5, k4_4 cI aM y5, k4_5 cJ aM y5, k4_6 cI aM y5, k4_7 cJ aM y5, k4_8 cJ aM y5, k4_9 cI aM y5]) hP hD hS hA (va_runV (As := []) (rest := []) ⟨hx, hb, hml, hown, hts⟩ (mX4_rests l dC dI cI cJ aM H.size vM y5 hy5) (cwV 0 hts gX4_place_X4_rests rfl rfl rfl (by decide +kernel) ⟨Nat.le_of_ble_eq_true rfl, Nat.le_of_ble_eq_true rfl⟩) ⟨cFB, va_recv hK hP (ci := 4) (q0 := 0) rfl rfl, cPre hK hN hS (va_free (wc := [k4_0 aM vM, k4_1 cI aM vM, k4_2 cI aM vM, k4_3 cI aM vM, k4_4 cI aM vM, k4_5 cJ aM vM, k4_6 cI aM vM, k4_7 cJ aM vM, k4_8 cJ aM vM, k4_9 cI aM vM]) hD hS hA [0, 1, 2, 3, 4, 5, 6, 7, 8, 9] rfl) (hP.sub [0, 1, 2, 3, 4, 5, 6, 7, 8, 9] rfl) (hD.sub [0, 1, 2, 3, 4, 5, 6, 7, 8, 9] rfl rfl)⟩ rfl rfl hl.1 rfl (lv_room (Nat.le_of_ble_eq_true rfl)) dX4_place_21 ⟨Nat.le_of_ble_eq_true rfl, Nat.le_of_ble_eq_true rfl⟩) [0, 1, 2, 3, 4, 5, 6, 7, 8, 9] [] [0, 1, 2, 3, 4, 5, 6, 7, 8, 9] rfl rfl rfl (by decide +kernel) rfl rfl (fun H locs hP hD hS => ?_)
      refine lv_iload_n hx hb dX4_place_24 rfl (lv_at hl 2 rfl) ?_
      refine lv_iconst (v := 2) hx hb dX4_place_25 (by decide) ?_
      refine lv_icmp_ne (tgt := 44) hx hb dX4_place_26 (by decide) (fun c6 => ?_) (fun c6 => ?_)
      · have hf := oif_f c6 hf
        refine lv_aload_n hx hb dX4_place_44 rfl (lv_at hl 0 rfl) ?_
        refine va_get (D := (dC, dI)) (ci := 4) (v := .ref (aM 5)) (C := RX4) (T := TX4) (N := 21) hx hb hts hiX4 hown hK hP 0 rfl rfl 7 (by decide) hgX4_22 (fun _ h9 => h9) rfl dX4_place_45 ?_
        refine lv_iload_n hx hb dX4_place_48 rfl (lv_at hl 1 rfl) ?_
        obtain ⟨hi7, hf⟩ := oinb rfl hf
        refine va_lald hx hb hK hP 5 1 rfl rfl hi7 dX4_place_49 ?_
        refine lv_aload_n hx hb dX4_place_50 rfl (lv_at hl 0 rfl) ?_
        refine va_get (D := (dC, dI)) (ci := 4) (v := .long (p4_lower y5)) (C := RX4) (T := TX4) (N := 21) hx hb hts hiX4 hown hK hP 0 rfl rfl 8 (by decide) hgX4_79 (fun _ h9 => h9) rfl dX4_place_51 ?_
        refine lv_iload_n hx hb dX4_place_54 rfl (lv_at hl 2 rfl) ?_
        refine lv_iconst (v := 0) hx hb dX4_place_55 (by decide) ?_
        obtain ⟨y8, hy8, hf⟩ := obind hf
        refine cg_i (ws := [k4_0 aM y5, k4_1 cI aM y5, k4_2 cI aM y5, k4_3 cI aM y5, k4_4 cI aM y5, k4_5 cJ aM y5, k4_6 cI aM y5, k4_7 cJ aM y5, k4_8 cJ aM y5, k4_9 cI aM y5]) (wc := []) (wr := [k4_0 aM y5, k4_1 cI aM y5, k4_2 cI aM y5, k4_3 cI aM y5, k4_4 cI aM y5, k4_5 cJ aM y5, k4_6 cI aM y5, k4_7 cJ aM y5, k4_8 cJ aM y5, k4_9 cI aM y5]) (w1 := []) (wo := [k4_0 aM y5, k4_1 cI aM y5, k4_2 cI aM y5, k4_3 cI aM y5, k4_4 cI aM y5, k4_5 cJ aM y5, k4_6 cI aM y5, k4_7 cJ aM y5, k4_8 cJ aM y5, k4_9 cI aM y5]) hP hD hS hA (va_runS (As := [.long ((p4_upper y5) (i1).toNatClampNeg), .long (p4_lower y5), .int i2, .int 0]) (rest := []) ⟨hx, hb, hml, hown, hts⟩ (mX4_part l dC dI cI cJ  H.size ((p4_upper y5) (i1).toNatClampNeg) (p4_lower y5) i2 (0 : Int32) y8 hy8) (va_cwS 4 hts gX4_place_X4_part rfl rfl rfl (by decide +kernel) ⟨Nat.le_of_ble_eq_true rfl, Nat.le_of_ble_eq_true rfl⟩) ⟨cFB, cPre hK hN hS (va_free (wc := []) hD hS hA [] rfl) (hP.sub [] rfl) (hD.sub [] rfl rfl)⟩ rfl rfl hl.1 rfl (lv_room (Nat.le_of_ble_eq_true rfl)) dX4_place_56 ⟨Nat.le_of_ble_eq_true rfl, Nat.le_of_ble_eq_true rfl⟩) [] [0, 1, 2, 3, 4, 5, 6, 7, 8, 9] [0, 1, 2, 3, 4, 5, 6, 7, 8, 9] rfl rfl rfl (by decide +kernel) rfl rfl (fun H locs hP hD hS => ?_)
        obtain rfl := Option.some.inj hf
        exact W.iret (v := y8) hx hb hr (fun t ht hW => ⟨⟨y8, (), rfl, rfl, by rw [ht]; exact hP, hD⟩, hS.F ht⟩) hS.2.2 dX4_place_59
      · have hf := oif_t c6 hf
        refine lv_aload_n hx hb dX4_place_29 rfl (lv_at hl 0 rfl) ?_
        refine va_get (D := (dC, dI)) (ci := 4) (v := .ref (aM 5)) (C := RX4) (T := TX4) (N := 21) hx hb hts hiX4 hown hK hP 0 rfl rfl 7 (by decide) hgX4_22 (fun _ h9 => h9) rfl dX4_place_30 ?_
        refine lv_iload_n hx hb dX4_place_33 rfl (lv_at hl 1 rfl) ?_
        obtain ⟨hi9, hf⟩ := oinb rfl hf
        refine va_lald hx hb hK hP 5 1 rfl rfl hi9 dX4_place_34 ?_
        refine lv_aload_n hx hb dX4_place_35 rfl (lv_at hl 0 rfl) ?_
        refine va_get (D := (dC, dI)) (ci := 4) (v := .long (p4_lower y5)) (C := RX4) (T := TX4) (N := 21) hx hb hts hiX4 hown hK hP 0 rfl rfl 8 (by decide) hgX4_79 (fun _ h9 => h9) rfl dX4_place_36 ?_
        obtain ⟨hd10, hf⟩ := odiv hf
        refine lv_ldiv hx hb dX4_place_39 hd10 ?_
        refine lv_l2i (v := ((((p4_upper y5) (i1).toNatClampNeg) / (p4_lower y5))).toInt32) hx hb dX4_place_40 rfl ?_
        refine lv_goto (tgt := 59) hx hb dX4_place_41 (by decide) ?_
        obtain rfl := Option.some.inj hf
        exact W.iret (v := ((((p4_upper y5) (i1).toNatClampNeg) / (p4_lower y5))).toInt32) hx hb hr (fun t ht hW => ⟨⟨((((p4_upper y5) (i1).toNatClampNeg) / (p4_lower y5))).toInt32, (), rfl, rfl, by rw [ht]; exact hP, hD⟩, hS.F ht⟩) hS.2.2 dX4_place_59
    · have hf := oif_t c4 hf
      refine lv_ldc (v := (-1000001)) hx hb hown hc57 dX4_place_17 ?_
      obtain rfl := Option.some.inj hf
      exact W.iret (v := (-1000001)) hx hb hr (fun t ht hW => ⟨⟨(-1000001), (), rfl, rfl, by rw [ht]; exact hP, hD⟩, hS.F ht⟩) hS.2.2 dX4_place_19
def fX4_pull (vM : BX4) (i1 : Int32) (i2 : Int32) : Option (Int32 × BX4) :=
  (fX4_isSpring vM i1).bind (fun y1 => if y1 = 0 then (some ((-1000001), vM)) else ((fX4_in i2 (0 : Int32) (1 : Int32)).bind (fun y3 => if y3 = 0 then (some ((-1000001), vM)) else ((fX4_rests vM).bind (fun y5 => (fX4_pullOf y5 i1).bind (fun y6 => (fX4_part y6 (p4_lower y5) i2 (1000000000 : Int32)).bind (fun y7 => some (y7, y5))))))))
set_option maxHeartbeats 8000000 in
set_option maxRecDepth 100000 in
theorem mX4_pull (l : Launch) (dC : Nat → ClassId) (dI : Nat → Nat → Nat) (cI cJ : ClassId) (aM : Nat → Nat) (sz : Nat) (vM : BX4) (i1 : Int32) (i2 : Int32) (y : (Int32 × BX4)) (hf : fX4_pull vM i1 i2 = some y) : Met l yX4_pull wsX4_pull ({ frames := 5, cells := 0, slots := 0, locals := 114 }) (cPc dC dI cI cJ [.ref (aM 0), .int i1, .int i2] [k4_0 aM vM, k4_1 cI aM vM, k4_2 cI aM vM, k4_3 cI aM vM, k4_4 cI aM vM, k4_5 cJ aM vM, k4_6 cI aM vM, k4_7 cJ aM vM, k4_8 cJ aM vM, k4_9 cI aM vM] sz) (va_Qi (fun r (_ : Unit) => r = y.1) (fun _ t => cB dC dI (va_A [k4_0 aM vM, k4_1 cI aM vM, k4_2 cI aM vM, k4_3 cI aM vM, k4_4 cI aM vM, k4_5 cJ aM vM, k4_6 cI aM vM, k4_7 cJ aM vM, k4_8 cJ aM vM, k4_9 cI aM vM] sz) [k4_0 aM y.2, k4_1 cI aM y.2, k4_2 cI aM y.2, k4_3 cI aM y.2, k4_4 cI aM y.2, k4_5 cJ aM y.2, k4_6 cI aM y.2, k4_7 cJ aM y.2, k4_8 cJ aM y.2, k4_9 cI aM y.2] t) (va_A [k4_0 aM vM, k4_1 cI aM vM, k4_2 cI aM vM, k4_3 cI aM vM, k4_4 cI aM vM, k4_5 cJ aM vM, k4_6 cI aM vM, k4_7 cJ aM vM, k4_8 cJ aM vM, k4_9 cI aM vM] sz)) 0 0 (va_A [k4_0 aM vM, k4_1 cI aM vM, k4_2 cI aM vM, k4_3 cI aM vM, k4_4 cI aM vM, k4_5 cJ aM vM, k4_6 cI aM vM, k4_7 cJ aM vM, k4_8 cJ aM vM, k4_9 cI aM vM] sz) := by
  refine Met.ofW (cc := cX4_pull) (maxL := 3) (ret := (some .int)) (by decide) rfl ?_
  intro p e s m args below meth c s₁ B hml hv
  obtain ⟨rfl, hsz, hP, hK, hD0, hN⟩ := hv
  have hx := B.exec
  have hb := B.bytes
  have hr := B.returns
  have hts := atoms_spec (ws := wsX4_pull) B.pre
  have hown : s.vm.findClass RX4 = some m.cls := findClass_of_methodNamed B.named
  have hlocks := B.notSynchronized
  subst hsz
  have hD := hD0.self (sz := s.heap.size)
  generalize hAe : va_A [k4_0 aM vM, k4_1 cI aM vM, k4_2 cI aM vM, k4_3 cI aM vM, k4_4 cI aM vM, k4_5 cJ aM vM, k4_6 cI aM vM, k4_7 cJ aM vM, k4_8 cJ aM vM, k4_9 cI aM vM] s.heap.size = A at hD hN ⊢
  have hA : ∀ q : Nat, s.heap.size ≤ q → A q := fun q h => by rw [← hAe]; exact Or.inr h
  have hP : va_P (dC, dI) vwCl [k4_0 aM vM, k4_1 cI aM vM, k4_2 cI aM vM, k4_3 cI aM vM, k4_4 cI aM vM, k4_5 cJ aM vM, k4_6 cI aM vM, k4_7 cJ aM vM, k4_8 cJ aM vM, k4_9 cI aM vM] s.heap := hP
  have hl := lv_entry ([.ref (aM 0), .int i1, .int i2]) (n := 3) (Nat.le_of_ble_eq_true rfl)
  rw [lg_entry_eq]
  generalize (lg_sl ([.ref (aM 0), .int i1, .int i2]) ++ List.replicate (3 - (lg_sl ([.ref (aM 0), .int i1, .int i2])).length) Slot.unset).toArray = ls at hl ⊢
  have hl : lv_has ls 3 [(0, .ref (aM 0)), (1, .int i1), (2, .int i2)] := hl
  have hc57 := hts (.constant RX4 57 (-1000001)) (by decide +kernel)
  have hiX4 : ∀ w ∈ u_ws RX4 TX4 21, w ∈ wsX4_pull := by decide +kernel
  have hgX4_79 := hts (.fieldLink RX4 79 "SpringPlatesModel" "lower" "J") (by decide +kernel)
  have hc130 := hts (.constant RX4 130 1000000000) (by decide +kernel)
  refine nameH (fun H locs hHe hLe => ?_)
  have hP : va_P (dC, dI) vwCl [k4_0 aM vM, k4_1 cI aM vM, k4_2 cI aM vM, k4_3 cI aM vM, k4_4 cI aM vM, k4_5 cJ aM vM, k4_6 cI aM vM, k4_7 cJ aM vM, k4_8 cJ aM vM, k4_9 cI aM vM] H := by rw [hHe]; exact hP
  have hS : va_S A s.heap H locs := by rw [hHe, hLe]; exact va_S.rf
  unfold fX4_pull at hf
  refine lv_aload_n hx hb dX4_pull_0 rfl (lv_at hl 0 rfl) ?_
  refine lv_iload_n hx hb dX4_pull_1 rfl (lv_at hl 1 rfl) ?_
  obtain ⟨y1, hy1, hf⟩ := obind hf
  refine cg_i (ws := [k4_0 aM vM, k4_1 cI aM vM, k4_2 cI aM vM, k4_3 cI aM vM, k4_4 cI aM vM, k4_5 cJ aM vM, k4_6 cI aM vM, k4_7 cJ aM vM, k4_8 cJ aM vM, k4_9 cI aM vM]) (wc := [k4_0 aM vM, k4_1 cI aM vM, k4_2 cI aM vM, k4_3 cI aM vM, k4_4 cI aM vM, k4_5 cJ aM vM, k4_6 cI aM vM, k4_7 cJ aM vM, k4_8 cJ aM vM, k4_9 cI aM vM]) (wr := []) (w1 := [k4_0 aM vM, k4_1 cI aM vM, k4_2 cI aM vM, k4_3 cI aM vM, k4_4 cI aM vM, k4_5 cJ aM vM, k4_6 cI aM vM, k4_7 cJ aM vM, k4_8 cJ aM vM, k4_9 cI aM vM]) (wo := [k4_0 aM vM, k4_1 cI aM vM, k4_2 cI aM vM, k4_3 cI aM vM, k4_4 cI aM vM, k4_5 cJ aM vM, k4_6 cI aM vM, k4_7 cJ aM vM, k4_8 cJ aM vM, k4_9 cI aM vM]) hP hD hS hA (va_runV (As := [.int i1]) (rest := []) ⟨hx, hb, hml, hown, hts⟩ (mX4_isSpring l dC dI cI cJ aM H.size vM i1 y1 hy1) (cwV 1 hts gX4_pull_X4_isSpring rfl rfl rfl (by decide +kernel) ⟨Nat.le_of_ble_eq_true rfl, Nat.le_of_ble_eq_true rfl⟩) ⟨cFB, va_recv hK hP (ci := 4) (q0 := 0) rfl rfl, cPre hK hN hS (va_free (wc := [k4_0 aM vM, k4_1 cI aM vM, k4_2 cI aM vM, k4_3 cI aM vM, k4_4 cI aM vM, k4_5 cJ aM vM, k4_6 cI aM vM, k4_7 cJ aM vM, k4_8 cJ aM vM, k4_9 cI aM vM]) hD hS hA [0, 1, 2, 3, 4, 5, 6, 7, 8, 9] rfl) (hP.sub [0, 1, 2, 3, 4, 5, 6, 7, 8, 9] rfl) (hD.sub [0, 1, 2, 3, 4, 5, 6, 7, 8, 9] rfl rfl)⟩ rfl rfl hl.1 rfl (lv_room (Nat.le_of_ble_eq_true rfl)) dX4_pull_2 ⟨Nat.le_of_ble_eq_true rfl, Nat.le_of_ble_eq_true rfl⟩) [0, 1, 2, 3, 4, 5, 6, 7, 8, 9] [] [0, 1, 2, 3, 4, 5, 6, 7, 8, 9] rfl rfl rfl (by decide +kernel) rfl rfl (fun H locs hP hD hS => ?_)
  refine lv_if_eq (tgt := 17) hx hb dX4_pull_5 (by decide) (fun c2 => ?_) (fun c2 => ?_)
  · have hf := oif_t c2 hf
    refine lv_ldc (v := (-1000001)) hx hb hown hc57 dX4_pull_17 ?_
    obtain rfl := Option.some.inj hf
    exact W.iret (v := (-1000001)) hx hb hr (fun t ht hW => ⟨⟨(-1000001), (), rfl, rfl, by rw [ht]; exact hP, hD⟩, hS.F ht⟩) hS.2.2 dX4_pull_19
  · have hf := oif_f c2 hf
    refine lv_iload_n hx hb dX4_pull_8 rfl (lv_at hl 2 rfl) ?_
    refine lv_iconst (v := 0) hx hb dX4_pull_9 (by decide) ?_
    refine lv_iconst (v := 1) hx hb dX4_pull_10 (by decide) ?_
    obtain ⟨y3, hy3, hf⟩ := obind hf
    refine cg_i (ws := [k4_0 aM vM, k4_1 cI aM vM, k4_2 cI aM vM, k4_3 cI aM vM, k4_4 cI aM vM, k4_5 cJ aM vM, k4_6 cI aM vM, k4_7 cJ aM vM, k4_8 cJ aM vM, k4_9 cI aM vM]) (wc := []) (wr := [k4_0 aM vM, k4_1 cI aM vM, k4_2 cI aM vM, k4_3 cI aM vM, k4_4 cI aM vM, k4_5 cJ aM vM, k4_6 cI aM vM, k4_7 cJ aM vM, k4_8 cJ aM vM, k4_9 cI aM vM]) (w1 := []) (wo := [k4_0 aM vM, k4_1 cI aM vM, k4_2 cI aM vM, k4_3 cI aM vM, k4_4 cI aM vM, k4_5 cJ aM vM, k4_6 cI aM vM, k4_7 cJ aM vM, k4_8 cJ aM vM, k4_9 cI aM vM]) hP hD hS hA (va_runS (As := [.int i2, .int 0, .int 1]) (rest := []) ⟨hx, hb, hml, hown, hts⟩ (mX4_in l dC dI cI cJ  H.size i2 (0 : Int32) (1 : Int32) y3 hy3) (va_cwS 3 hts gX4_pull_X4_in rfl rfl rfl (by decide +kernel) ⟨Nat.le_of_ble_eq_true rfl, Nat.le_of_ble_eq_true rfl⟩) ⟨cFB, cPre hK hN hS (va_free (wc := []) hD hS hA [] rfl) (hP.sub [] rfl) (hD.sub [] rfl rfl)⟩ rfl rfl hl.1 rfl (lv_room (Nat.le_of_ble_eq_true rfl)) dX4_pull_11 ⟨Nat.le_of_ble_eq_true rfl, Nat.le_of_ble_eq_true rfl⟩) [] [0, 1, 2, 3, 4, 5, 6, 7, 8, 9] [0, 1, 2, 3, 4, 5, 6, 7, 8, 9] rfl rfl rfl (by decide +kernel) rfl rfl (fun H locs hP hD hS => ?_)
    refine lv_if_ne (tgt := 20) hx hb dX4_pull_14 (by decide) (fun c4 => ?_) (fun c4 => ?_)
    · have hf := oif_f c4 hf
      refine lv_aload_n hx hb dX4_pull_20 rfl (lv_at hl 0 rfl) ?_
      obtain ⟨y5, hy5, hf⟩ := obind hf
      refine cg_v (ws := [k4_0 aM vM, k4_1 cI aM vM, k4_2 cI aM vM, k4_3 cI aM vM, k4_4 cI aM vM, k4_5 cJ aM vM, k4_6 cI aM vM, k4_7 cJ aM vM, k4_8 cJ aM vM, k4_9 cI aM vM]) (wc := [k4_0 aM vM, k4_1 cI aM vM, k4_2 cI aM vM, k4_3 cI aM vM, k4_4 cI aM vM, k4_5 cJ aM vM, k4_6 cI aM vM, k4_7 cJ aM vM, k4_8 cJ aM vM, k4_9 cI aM vM]) (wr := []) (w1 := [k4_0 aM y5, k4_1 cI aM y5, k4_2 cI aM y5, k4_3 cI aM y5, k4_4 cI aM y5, k4_5 cJ aM y5, k4_6 cI aM y5, k4_7 cJ aM y5, k4_8 cJ aM y5, k4_9 cI aM y5]) (wo := [k4_0 aM y5, k4_1 cI aM y5, k4_2 cI aM y5, k4_3 cI aM y5, k4_4 cI aM y5, k4_5 cJ aM y5, k4_6 cI aM y5, k4_7 cJ aM y5, k4_8 cJ aM y5, k4_9 cI aM y5]) hP hD hS hA (va_runV (As := []) (rest := []) ⟨hx, hb, hml, hown, hts⟩ (mX4_rests l dC dI cI cJ aM H.size vM y5 hy5) (cwV 0 hts gX4_pull_X4_rests rfl rfl rfl (by decide +kernel) ⟨Nat.le_of_ble_eq_true rfl, Nat.le_of_ble_eq_true rfl⟩) ⟨cFB, va_recv hK hP (ci := 4) (q0 := 0) rfl rfl, cPre hK hN hS (va_free (wc := [k4_0 aM vM, k4_1 cI aM vM, k4_2 cI aM vM, k4_3 cI aM vM, k4_4 cI aM vM, k4_5 cJ aM vM, k4_6 cI aM vM, k4_7 cJ aM vM, k4_8 cJ aM vM, k4_9 cI aM vM]) hD hS hA [0, 1, 2, 3, 4, 5, 6, 7, 8, 9] rfl) (hP.sub [0, 1, 2, 3, 4, 5, 6, 7, 8, 9] rfl) (hD.sub [0, 1, 2, 3, 4, 5, 6, 7, 8, 9] rfl rfl)⟩ rfl rfl hl.1 rfl (lv_room (Nat.le_of_ble_eq_true rfl)) dX4_pull_21 ⟨Nat.le_of_ble_eq_true rfl, Nat.le_of_ble_eq_true rfl⟩) [0, 1, 2, 3, 4, 5, 6, 7, 8, 9] [] [0, 1, 2, 3, 4, 5, 6, 7, 8, 9] rfl rfl rfl (by decide +kernel) rfl rfl (fun H locs hP hD hS => ?_)
      refine lv_aload_n hx hb dX4_pull_24 rfl (lv_at hl 0 rfl) ?_
      refine lv_iload_n hx hb dX4_pull_25 rfl (lv_at hl 1 rfl) ?_
      obtain ⟨y6, hy6, hf⟩ := obind hf
      refine cg_l (ws := [k4_0 aM y5, k4_1 cI aM y5, k4_2 cI aM y5, k4_3 cI aM y5, k4_4 cI aM y5, k4_5 cJ aM y5, k4_6 cI aM y5, k4_7 cJ aM y5, k4_8 cJ aM y5, k4_9 cI aM y5]) (wc := [k4_0 aM y5, k4_1 cI aM y5, k4_2 cI aM y5, k4_3 cI aM y5, k4_4 cI aM y5, k4_5 cJ aM y5, k4_6 cI aM y5, k4_7 cJ aM y5, k4_8 cJ aM y5, k4_9 cI aM y5]) (wr := []) (w1 := [k4_0 aM y5, k4_1 cI aM y5, k4_2 cI aM y5, k4_3 cI aM y5, k4_4 cI aM y5, k4_5 cJ aM y5, k4_6 cI aM y5, k4_7 cJ aM y5, k4_8 cJ aM y5, k4_9 cI aM y5]) (wo := [k4_0 aM y5, k4_1 cI aM y5, k4_2 cI aM y5, k4_3 cI aM y5, k4_4 cI aM y5, k4_5 cJ aM y5, k4_6 cI aM y5, k4_7 cJ aM y5, k4_8 cJ aM y5, k4_9 cI aM y5]) hP hD hS hA (va_runV (As := [.int i1]) (rest := []) ⟨hx, hb, hml, hown, hts⟩ (mX4_pullOf l dC dI cI cJ aM H.size y5 i1 y6 hy6) (cwV 1 hts gX4_pull_X4_pullOf rfl rfl rfl (by decide +kernel) ⟨Nat.le_of_ble_eq_true rfl, Nat.le_of_ble_eq_true rfl⟩) ⟨cFB, va_recv hK hP (ci := 4) (q0 := 0) rfl rfl, cPre hK hN hS (va_free (wc := [k4_0 aM y5, k4_1 cI aM y5, k4_2 cI aM y5, k4_3 cI aM y5, k4_4 cI aM y5, k4_5 cJ aM y5, k4_6 cI aM y5, k4_7 cJ aM y5, k4_8 cJ aM y5, k4_9 cI aM y5]) hD hS hA [0, 1, 2, 3, 4, 5, 6, 7, 8, 9] rfl) (hP.sub [0, 1, 2, 3, 4, 5, 6, 7, 8, 9] rfl) (hD.sub [0, 1, 2, 3, 4, 5, 6, 7, 8, 9] rfl rfl)⟩ rfl rfl hl.1 rfl (lv_room (Nat.le_of_ble_eq_true rfl)) dX4_pull_26 ⟨Nat.le_of_ble_eq_true rfl, Nat.le_of_ble_eq_true rfl⟩) [0, 1, 2, 3, 4, 5, 6, 7, 8, 9] [] [0, 1, 2, 3, 4, 5, 6, 7, 8, 9] rfl rfl rfl (by decide +kernel) rfl rfl (fun H locs hP hD hS => ?_)
      refine lv_aload_n hx hb dX4_pull_29 rfl (lv_at hl 0 rfl) ?_
      refine va_get (D := (dC, dI)) (ci := 4) (v := .long (p4_lower y5)) (C := RX4) (T := TX4) (N := 21) hx hb hts hiX4 hown hK hP 0 rfl rfl 8 (by decide) hgX4_79 (fun _ h9 => h9) rfl dX4_pull_30 ?_
      refine lv_iload_n hx hb dX4_pull_33 rfl (lv_at hl 2 rfl) ?_
      refine lv_ldc (v := 1000000000) hx hb hown hc130 dX4_pull_34 ?_
      obtain ⟨y7, hy7, hf⟩ := obind hf
      refine cg_i (ws := [k4_0 aM y5, k4_1 cI aM y5, k4_2 cI aM y5, k4_3 cI aM y5, k4_4 cI aM y5, k4_5 cJ aM y5, k4_6 cI aM y5, k4_7 cJ aM y5, k4_8 cJ aM y5, k4_9 cI aM y5]) (wc := []) (wr := [k4_0 aM y5, k4_1 cI aM y5, k4_2 cI aM y5, k4_3 cI aM y5, k4_4 cI aM y5, k4_5 cJ aM y5, k4_6 cI aM y5, k4_7 cJ aM y5, k4_8 cJ aM y5, k4_9 cI aM y5]) (w1 := []) (wo := [k4_0 aM y5, k4_1 cI aM y5, k4_2 cI aM y5, k4_3 cI aM y5, k4_4 cI aM y5, k4_5 cJ aM y5, k4_6 cI aM y5, k4_7 cJ aM y5, k4_8 cJ aM y5, k4_9 cI aM y5]) hP hD hS hA (va_runS (As := [.long y6, .long (p4_lower y5), .int i2, .int 1000000000]) (rest := []) ⟨hx, hb, hml, hown, hts⟩ (mX4_part l dC dI cI cJ  H.size y6 (p4_lower y5) i2 (1000000000 : Int32) y7 hy7) (va_cwS 4 hts gX4_pull_X4_part rfl rfl rfl (by decide +kernel) ⟨Nat.le_of_ble_eq_true rfl, Nat.le_of_ble_eq_true rfl⟩) ⟨cFB, cPre hK hN hS (va_free (wc := []) hD hS hA [] rfl) (hP.sub [] rfl) (hD.sub [] rfl rfl)⟩ rfl rfl hl.1 rfl (lv_room (Nat.le_of_ble_eq_true rfl)) dX4_pull_36 ⟨Nat.le_of_ble_eq_true rfl, Nat.le_of_ble_eq_true rfl⟩) [] [0, 1, 2, 3, 4, 5, 6, 7, 8, 9] [0, 1, 2, 3, 4, 5, 6, 7, 8, 9] rfl rfl rfl (by decide +kernel) rfl rfl (fun H locs hP hD hS => ?_)
      obtain rfl := Option.some.inj hf
      exact W.iret (v := y7) hx hb hr (fun t ht hW => ⟨⟨y7, (), rfl, rfl, by rw [ht]; exact hP, hD⟩, hS.F ht⟩) hS.2.2 dX4_pull_39
    · have hf := oif_t c4 hf
      refine lv_ldc (v := (-1000001)) hx hb hown hc57 dX4_pull_17 ?_
      obtain rfl := Option.some.inj hf
      exact W.iret (v := (-1000001)) hx hb hr (fun t ht hW => ⟨⟨(-1000001), (), rfl, rfl, by rw [ht]; exact hP, hD⟩, hS.F ht⟩) hS.2.2 dX4_pull_19
def fX4_push (vM : BX4) (i1 : Int32) (i2 : Int32) : Option (Int32 × BX4) :=
  (fX4_isPlate vM i1).bind (fun y1 => if y1 = 0 then (some ((-1000001), vM)) else ((fX4_in i2 (0 : Int32) (1 : Int32)).bind (fun y3 => if y3 = 0 then (some ((-1000001), vM)) else ((fX4_rests vM).bind (fun y5 => (fX4_force y5 i1).bind (fun y6 => (fX4_part (-y6) (p4_lower y5) i2 (1000000000 : Int32)).bind (fun y7 => some (y7, y5))))))))
set_option maxHeartbeats 8000000 in
set_option maxRecDepth 100000 in
theorem mX4_push (l : Launch) (dC : Nat → ClassId) (dI : Nat → Nat → Nat) (cI cJ : ClassId) (aM : Nat → Nat) (sz : Nat) (vM : BX4) (i1 : Int32) (i2 : Int32) (y : (Int32 × BX4)) (hf : fX4_push vM i1 i2 = some y) : Met l yX4_push wsX4_push ({ frames := 5, cells := 0, slots := 0, locals := 114 }) (cPc dC dI cI cJ [.ref (aM 0), .int i1, .int i2] [k4_0 aM vM, k4_1 cI aM vM, k4_2 cI aM vM, k4_3 cI aM vM, k4_4 cI aM vM, k4_5 cJ aM vM, k4_6 cI aM vM, k4_7 cJ aM vM, k4_8 cJ aM vM, k4_9 cI aM vM] sz) (va_Qi (fun r (_ : Unit) => r = y.1) (fun _ t => cB dC dI (va_A [k4_0 aM vM, k4_1 cI aM vM, k4_2 cI aM vM, k4_3 cI aM vM, k4_4 cI aM vM, k4_5 cJ aM vM, k4_6 cI aM vM, k4_7 cJ aM vM, k4_8 cJ aM vM, k4_9 cI aM vM] sz) [k4_0 aM y.2, k4_1 cI aM y.2, k4_2 cI aM y.2, k4_3 cI aM y.2, k4_4 cI aM y.2, k4_5 cJ aM y.2, k4_6 cI aM y.2, k4_7 cJ aM y.2, k4_8 cJ aM y.2, k4_9 cI aM y.2] t) (va_A [k4_0 aM vM, k4_1 cI aM vM, k4_2 cI aM vM, k4_3 cI aM vM, k4_4 cI aM vM, k4_5 cJ aM vM, k4_6 cI aM vM, k4_7 cJ aM vM, k4_8 cJ aM vM, k4_9 cI aM vM] sz)) 0 0 (va_A [k4_0 aM vM, k4_1 cI aM vM, k4_2 cI aM vM, k4_3 cI aM vM, k4_4 cI aM vM, k4_5 cJ aM vM, k4_6 cI aM vM, k4_7 cJ aM vM, k4_8 cJ aM vM, k4_9 cI aM vM] sz) := by
  refine Met.ofW (cc := cX4_push) (maxL := 3) (ret := (some .int)) (by decide) rfl ?_
  intro p e s m args below meth c s₁ B hml hv
  obtain ⟨rfl, hsz, hP, hK, hD0, hN⟩ := hv
  have hx := B.exec
  have hb := B.bytes
  have hr := B.returns
  have hts := atoms_spec (ws := wsX4_push) B.pre
  have hown : s.vm.findClass RX4 = some m.cls := findClass_of_methodNamed B.named
  have hlocks := B.notSynchronized
  subst hsz
  have hD := hD0.self (sz := s.heap.size)
  generalize hAe : va_A [k4_0 aM vM, k4_1 cI aM vM, k4_2 cI aM vM, k4_3 cI aM vM, k4_4 cI aM vM, k4_5 cJ aM vM, k4_6 cI aM vM, k4_7 cJ aM vM, k4_8 cJ aM vM, k4_9 cI aM vM] s.heap.size = A at hD hN ⊢
  have hA : ∀ q : Nat, s.heap.size ≤ q → A q := fun q h => by rw [← hAe]; exact Or.inr h
  have hP : va_P (dC, dI) vwCl [k4_0 aM vM, k4_1 cI aM vM, k4_2 cI aM vM, k4_3 cI aM vM, k4_4 cI aM vM, k4_5 cJ aM vM, k4_6 cI aM vM, k4_7 cJ aM vM, k4_8 cJ aM vM, k4_9 cI aM vM] s.heap := hP
  have hl := lv_entry ([.ref (aM 0), .int i1, .int i2]) (n := 3) (Nat.le_of_ble_eq_true rfl)
  rw [lg_entry_eq]
  generalize (lg_sl ([.ref (aM 0), .int i1, .int i2]) ++ List.replicate (3 - (lg_sl ([.ref (aM 0), .int i1, .int i2])).length) Slot.unset).toArray = ls at hl ⊢
  have hl : lv_has ls 3 [(0, .ref (aM 0)), (1, .int i1), (2, .int i2)] := hl
  have hc57 := hts (.constant RX4 57 (-1000001)) (by decide +kernel)
  have hiX4 : ∀ w ∈ u_ws RX4 TX4 21, w ∈ wsX4_push := by decide +kernel
  have hgX4_79 := hts (.fieldLink RX4 79 "SpringPlatesModel" "lower" "J") (by decide +kernel)
  have hc130 := hts (.constant RX4 130 1000000000) (by decide +kernel)
  refine nameH (fun H locs hHe hLe => ?_)
  have hP : va_P (dC, dI) vwCl [k4_0 aM vM, k4_1 cI aM vM, k4_2 cI aM vM, k4_3 cI aM vM, k4_4 cI aM vM, k4_5 cJ aM vM, k4_6 cI aM vM, k4_7 cJ aM vM, k4_8 cJ aM vM, k4_9 cI aM vM] H := by rw [hHe]; exact hP
  have hS : va_S A s.heap H locs := by rw [hHe, hLe]; exact va_S.rf
  unfold fX4_push at hf
  refine lv_aload_n hx hb dX4_push_0 rfl (lv_at hl 0 rfl) ?_
  refine lv_iload_n hx hb dX4_push_1 rfl (lv_at hl 1 rfl) ?_
  obtain ⟨y1, hy1, hf⟩ := obind hf
  refine cg_i (ws := [k4_0 aM vM, k4_1 cI aM vM, k4_2 cI aM vM, k4_3 cI aM vM, k4_4 cI aM vM, k4_5 cJ aM vM, k4_6 cI aM vM, k4_7 cJ aM vM, k4_8 cJ aM vM, k4_9 cI aM vM]) (wc := [k4_0 aM vM, k4_1 cI aM vM, k4_2 cI aM vM, k4_3 cI aM vM, k4_4 cI aM vM, k4_5 cJ aM vM, k4_6 cI aM vM, k4_7 cJ aM vM, k4_8 cJ aM vM, k4_9 cI aM vM]) (wr := []) (w1 := [k4_0 aM vM, k4_1 cI aM vM, k4_2 cI aM vM, k4_3 cI aM vM, k4_4 cI aM vM, k4_5 cJ aM vM, k4_6 cI aM vM, k4_7 cJ aM vM, k4_8 cJ aM vM, k4_9 cI aM vM]) (wo := [k4_0 aM vM, k4_1 cI aM vM, k4_2 cI aM vM, k4_3 cI aM vM, k4_4 cI aM vM, k4_5 cJ aM vM, k4_6 cI aM vM, k4_7 cJ aM vM, k4_8 cJ aM vM, k4_9 cI aM vM]) hP hD hS hA (va_runV (As := [.int i1]) (rest := []) ⟨hx, hb, hml, hown, hts⟩ (mX4_isPlate l dC dI cI cJ aM H.size vM i1 y1 hy1) (cwV 1 hts gX4_push_X4_isPlate rfl rfl rfl (by decide +kernel) ⟨Nat.le_of_ble_eq_true rfl, Nat.le_of_ble_eq_true rfl⟩) ⟨cFB, va_recv hK hP (ci := 4) (q0 := 0) rfl rfl, cPre hK hN hS (va_free (wc := [k4_0 aM vM, k4_1 cI aM vM, k4_2 cI aM vM, k4_3 cI aM vM, k4_4 cI aM vM, k4_5 cJ aM vM, k4_6 cI aM vM, k4_7 cJ aM vM, k4_8 cJ aM vM, k4_9 cI aM vM]) hD hS hA [0, 1, 2, 3, 4, 5, 6, 7, 8, 9] rfl) (hP.sub [0, 1, 2, 3, 4, 5, 6, 7, 8, 9] rfl) (hD.sub [0, 1, 2, 3, 4, 5, 6, 7, 8, 9] rfl rfl)⟩ rfl rfl hl.1 rfl (lv_room (Nat.le_of_ble_eq_true rfl)) dX4_push_2 ⟨Nat.le_of_ble_eq_true rfl, Nat.le_of_ble_eq_true rfl⟩) [0, 1, 2, 3, 4, 5, 6, 7, 8, 9] [] [0, 1, 2, 3, 4, 5, 6, 7, 8, 9] rfl rfl rfl (by decide +kernel) rfl rfl (fun H locs hP hD hS => ?_)
  refine lv_if_eq (tgt := 17) hx hb dX4_push_5 (by decide) (fun c2 => ?_) (fun c2 => ?_)
  · have hf := oif_t c2 hf
    refine lv_ldc (v := (-1000001)) hx hb hown hc57 dX4_push_17 ?_
    obtain rfl := Option.some.inj hf
    exact W.iret (v := (-1000001)) hx hb hr (fun t ht hW => ⟨⟨(-1000001), (), rfl, rfl, by rw [ht]; exact hP, hD⟩, hS.F ht⟩) hS.2.2 dX4_push_19
  · have hf := oif_f c2 hf
    refine lv_iload_n hx hb dX4_push_8 rfl (lv_at hl 2 rfl) ?_
    refine lv_iconst (v := 0) hx hb dX4_push_9 (by decide) ?_
    refine lv_iconst (v := 1) hx hb dX4_push_10 (by decide) ?_
    obtain ⟨y3, hy3, hf⟩ := obind hf
    refine cg_i (ws := [k4_0 aM vM, k4_1 cI aM vM, k4_2 cI aM vM, k4_3 cI aM vM, k4_4 cI aM vM, k4_5 cJ aM vM, k4_6 cI aM vM, k4_7 cJ aM vM, k4_8 cJ aM vM, k4_9 cI aM vM]) (wc := []) (wr := [k4_0 aM vM, k4_1 cI aM vM, k4_2 cI aM vM, k4_3 cI aM vM, k4_4 cI aM vM, k4_5 cJ aM vM, k4_6 cI aM vM, k4_7 cJ aM vM, k4_8 cJ aM vM, k4_9 cI aM vM]) (w1 := []) (wo := [k4_0 aM vM, k4_1 cI aM vM, k4_2 cI aM vM, k4_3 cI aM vM, k4_4 cI aM vM, k4_5 cJ aM vM, k4_6 cI aM vM, k4_7 cJ aM vM, k4_8 cJ aM vM, k4_9 cI aM vM]) hP hD hS hA (va_runS (As := [.int i2, .int 0, .int 1]) (rest := []) ⟨hx, hb, hml, hown, hts⟩ (mX4_in l dC dI cI cJ  H.size i2 (0 : Int32) (1 : Int32) y3 hy3) (va_cwS 3 hts gX4_push_X4_in rfl rfl rfl (by decide +kernel) ⟨Nat.le_of_ble_eq_true rfl, Nat.le_of_ble_eq_true rfl⟩) ⟨cFB, cPre hK hN hS (va_free (wc := []) hD hS hA [] rfl) (hP.sub [] rfl) (hD.sub [] rfl rfl)⟩ rfl rfl hl.1 rfl (lv_room (Nat.le_of_ble_eq_true rfl)) dX4_push_11 ⟨Nat.le_of_ble_eq_true rfl, Nat.le_of_ble_eq_true rfl⟩) [] [0, 1, 2, 3, 4, 5, 6, 7, 8, 9] [0, 1, 2, 3, 4, 5, 6, 7, 8, 9] rfl rfl rfl (by decide +kernel) rfl rfl (fun H locs hP hD hS => ?_)
    refine lv_if_ne (tgt := 20) hx hb dX4_push_14 (by decide) (fun c4 => ?_) (fun c4 => ?_)
    · have hf := oif_f c4 hf
      refine lv_aload_n hx hb dX4_push_20 rfl (lv_at hl 0 rfl) ?_
      obtain ⟨y5, hy5, hf⟩ := obind hf
      refine cg_v (ws := [k4_0 aM vM, k4_1 cI aM vM, k4_2 cI aM vM, k4_3 cI aM vM, k4_4 cI aM vM, k4_5 cJ aM vM, k4_6 cI aM vM, k4_7 cJ aM vM, k4_8 cJ aM vM, k4_9 cI aM vM]) (wc := [k4_0 aM vM, k4_1 cI aM vM, k4_2 cI aM vM, k4_3 cI aM vM, k4_4 cI aM vM, k4_5 cJ aM vM, k4_6 cI aM vM, k4_7 cJ aM vM, k4_8 cJ aM vM, k4_9 cI aM vM]) (wr := []) (w1 := [k4_0 aM y5, k4_1 cI aM y5, k4_2 cI aM y5, k4_3 cI aM y5, k4_4 cI aM y5, k4_5 cJ aM y5, k4_6 cI aM y5, k4_7 cJ aM y5, k4_8 cJ aM y5, k4_9 cI aM y5]) (wo := [k4_0 aM y5, k4_1 cI aM y5, k4_2 cI aM y5, k4_3 cI aM y5, k4_4 cI aM y5, k4_5 cJ aM y5, k4_6 cI aM y5, k4_7 cJ aM y5, k4_8 cJ aM y5, k4_9 cI aM y5]) hP hD hS hA (va_runV (As := []) (rest := []) ⟨hx, hb, hml, hown, hts⟩ (mX4_rests l dC dI cI cJ aM H.size vM y5 hy5) (cwV 0 hts gX4_push_X4_rests rfl rfl rfl (by decide +kernel) ⟨Nat.le_of_ble_eq_true rfl, Nat.le_of_ble_eq_true rfl⟩) ⟨cFB, va_recv hK hP (ci := 4) (q0 := 0) rfl rfl, cPre hK hN hS (va_free (wc := [k4_0 aM vM, k4_1 cI aM vM, k4_2 cI aM vM, k4_3 cI aM vM, k4_4 cI aM vM, k4_5 cJ aM vM, k4_6 cI aM vM, k4_7 cJ aM vM, k4_8 cJ aM vM, k4_9 cI aM vM]) hD hS hA [0, 1, 2, 3, 4, 5, 6, 7, 8, 9] rfl) (hP.sub [0, 1, 2, 3, 4, 5, 6, 7, 8, 9] rfl) (hD.sub [0, 1, 2, 3, 4, 5, 6, 7, 8, 9] rfl rfl)⟩ rfl rfl hl.1 rfl (lv_room (Nat.le_of_ble_eq_true rfl)) dX4_push_21 ⟨Nat.le_of_ble_eq_true rfl, Nat.le_of_ble_eq_true rfl⟩) [0, 1, 2, 3, 4, 5, 6, 7, 8, 9] [] [0, 1, 2, 3, 4, 5, 6, 7, 8, 9] rfl rfl rfl (by decide +kernel) rfl rfl (fun H locs hP hD hS => ?_)
      refine lv_aload_n hx hb dX4_push_24 rfl (lv_at hl 0 rfl) ?_
      refine lv_iload_n hx hb dX4_push_25 rfl (lv_at hl 1 rfl) ?_
      obtain ⟨y6, hy6, hf⟩ := obind hf
      refine cg_l (ws := [k4_0 aM y5, k4_1 cI aM y5, k4_2 cI aM y5, k4_3 cI aM y5, k4_4 cI aM y5, k4_5 cJ aM y5, k4_6 cI aM y5, k4_7 cJ aM y5, k4_8 cJ aM y5, k4_9 cI aM y5]) (wc := [k4_0 aM y5, k4_1 cI aM y5, k4_2 cI aM y5, k4_3 cI aM y5, k4_4 cI aM y5, k4_5 cJ aM y5, k4_6 cI aM y5, k4_7 cJ aM y5, k4_8 cJ aM y5, k4_9 cI aM y5]) (wr := []) (w1 := [k4_0 aM y5, k4_1 cI aM y5, k4_2 cI aM y5, k4_3 cI aM y5, k4_4 cI aM y5, k4_5 cJ aM y5, k4_6 cI aM y5, k4_7 cJ aM y5, k4_8 cJ aM y5, k4_9 cI aM y5]) (wo := [k4_0 aM y5, k4_1 cI aM y5, k4_2 cI aM y5, k4_3 cI aM y5, k4_4 cI aM y5, k4_5 cJ aM y5, k4_6 cI aM y5, k4_7 cJ aM y5, k4_8 cJ aM y5, k4_9 cI aM y5]) hP hD hS hA (va_runV (As := [.int i1]) (rest := []) ⟨hx, hb, hml, hown, hts⟩ (mX4_force l dC dI cI cJ aM H.size y5 i1 y6 hy6) (cwV 1 hts gX4_push_X4_force rfl rfl rfl (by decide +kernel) ⟨Nat.le_of_ble_eq_true rfl, Nat.le_of_ble_eq_true rfl⟩) ⟨cFB, va_recv hK hP (ci := 4) (q0 := 0) rfl rfl, cPre hK hN hS (va_free (wc := [k4_0 aM y5, k4_1 cI aM y5, k4_2 cI aM y5, k4_3 cI aM y5, k4_4 cI aM y5, k4_5 cJ aM y5, k4_6 cI aM y5, k4_7 cJ aM y5, k4_8 cJ aM y5, k4_9 cI aM y5]) hD hS hA [0, 1, 2, 3, 4, 5, 6, 7, 8, 9] rfl) (hP.sub [0, 1, 2, 3, 4, 5, 6, 7, 8, 9] rfl) (hD.sub [0, 1, 2, 3, 4, 5, 6, 7, 8, 9] rfl rfl)⟩ rfl rfl hl.1 rfl (lv_room (Nat.le_of_ble_eq_true rfl)) dX4_push_26 ⟨Nat.le_of_ble_eq_true rfl, Nat.le_of_ble_eq_true rfl⟩) [0, 1, 2, 3, 4, 5, 6, 7, 8, 9] [] [0, 1, 2, 3, 4, 5, 6, 7, 8, 9] rfl rfl rfl (by decide +kernel) rfl rfl (fun H locs hP hD hS => ?_)
      refine lv_lneg hx hb dX4_push_29 ?_
      refine lv_aload_n hx hb dX4_push_30 rfl (lv_at hl 0 rfl) ?_
      refine va_get (D := (dC, dI)) (ci := 4) (v := .long (p4_lower y5)) (C := RX4) (T := TX4) (N := 21) hx hb hts hiX4 hown hK hP 0 rfl rfl 8 (by decide) hgX4_79 (fun _ h9 => h9) rfl dX4_push_31 ?_
      refine lv_iload_n hx hb dX4_push_34 rfl (lv_at hl 2 rfl) ?_
      refine lv_ldc (v := 1000000000) hx hb hown hc130 dX4_push_35 ?_
      obtain ⟨y7, hy7, hf⟩ := obind hf
      refine cg_i (ws := [k4_0 aM y5, k4_1 cI aM y5, k4_2 cI aM y5, k4_3 cI aM y5, k4_4 cI aM y5, k4_5 cJ aM y5, k4_6 cI aM y5, k4_7 cJ aM y5, k4_8 cJ aM y5, k4_9 cI aM y5]) (wc := []) (wr := [k4_0 aM y5, k4_1 cI aM y5, k4_2 cI aM y5, k4_3 cI aM y5, k4_4 cI aM y5, k4_5 cJ aM y5, k4_6 cI aM y5, k4_7 cJ aM y5, k4_8 cJ aM y5, k4_9 cI aM y5]) (w1 := []) (wo := [k4_0 aM y5, k4_1 cI aM y5, k4_2 cI aM y5, k4_3 cI aM y5, k4_4 cI aM y5, k4_5 cJ aM y5, k4_6 cI aM y5, k4_7 cJ aM y5, k4_8 cJ aM y5, k4_9 cI aM y5]) hP hD hS hA (va_runS (As := [.long (-y6), .long (p4_lower y5), .int i2, .int 1000000000]) (rest := []) ⟨hx, hb, hml, hown, hts⟩ (mX4_part l dC dI cI cJ  H.size (-y6) (p4_lower y5) i2 (1000000000 : Int32) y7 hy7) (va_cwS 4 hts gX4_push_X4_part rfl rfl rfl (by decide +kernel) ⟨Nat.le_of_ble_eq_true rfl, Nat.le_of_ble_eq_true rfl⟩) ⟨cFB, cPre hK hN hS (va_free (wc := []) hD hS hA [] rfl) (hP.sub [] rfl) (hD.sub [] rfl rfl)⟩ rfl rfl hl.1 rfl (lv_room (Nat.le_of_ble_eq_true rfl)) dX4_push_37 ⟨Nat.le_of_ble_eq_true rfl, Nat.le_of_ble_eq_true rfl⟩) [] [0, 1, 2, 3, 4, 5, 6, 7, 8, 9] [0, 1, 2, 3, 4, 5, 6, 7, 8, 9] rfl rfl rfl (by decide +kernel) rfl rfl (fun H locs hP hD hS => ?_)
      obtain rfl := Option.some.inj hf
      exact W.iret (v := y7) hx hb hr (fun t ht hW => ⟨⟨y7, (), rfl, rfl, by rw [ht]; exact hP, hD⟩, hS.F ht⟩) hS.2.2 dX4_push_40
    · have hf := oif_t c4 hf
      refine lv_ldc (v := (-1000001)) hx hb hown hc57 dX4_push_17 ?_
      obtain rfl := Option.some.inj hf
      exact W.iret (v := (-1000001)) hx hb hr (fun t ht hW => ⟨⟨(-1000001), (), rfl, rfl, by rw [ht]; exact hP, hD⟩, hS.F ht⟩) hS.2.2 dX4_push_19
def fX4_isSo_187 (vM : BX4) : Option Int32 :=
  some 1
def fX4_isSo (vM : BX4) (i1 : Int32) (i2 : Int32) : Option Int32 :=
  if i2 = 0 then (if inB ((16 : Int32) + i1) 24 = true then (if ((p4_s vM) (((16 : Int32) + i1)).toNatClampNeg) < 0 then (some 0) else (if inB i1 4 = true then (if inB ((16 : Int32) + i1) 24 = true then (if (lg_cmp ((p4_upper vM) (i1).toNatClampNeg) ((((p4_s vM) (((16 : Int32) + i1)).toNatClampNeg)).toInt64 * (p4_lower vM))) = 0 then (some 1) else (some 0)) else none) else none)) else none) else (if i2 = 1 then (if inB ((20 : Int32) + i1) 24 = true then (if ((p4_s vM) (((20 : Int32) + i1)).toNatClampNeg) < 0 then (some 0) else (if inB i1 4 = true then (if inB ((20 : Int32) + i1) 24 = true then (if (lg_cmp ((p4_upper vM) (i1).toNatClampNeg) ((((p4_s vM) (((20 : Int32) + i1)).toNatClampNeg)).toInt64 * (p4_lower vM))) = 0 then (some 1) else (some 0)) else none) else none)) else none) else (if i2 = 2 then (if ((p4_s vM) ((1 : Int32)).toNatClampNeg) ≤ (i1 + (1 : Int32)) then (some 0) else (if inB i1 4 = true then (if inB (i1 + (1 : Int32)) 4 = true then (if (lg_cmp ((p4_upper vM) (i1).toNatClampNeg) ((p4_upper vM) ((i1 + (1 : Int32))).toNatClampNeg)) = 0 then (some 1) else (some 0)) else none) else none)) else (if i2 = 3 then (if inB i1 4 = true then (if (lg_cmp ((p4_upper vM) (i1).toNatClampNeg) (0 : Int64)) = 0 then (fX4_isSo_187 vM) else (if inB i1 4 = true then (if (lg_cmp ((p4_upper vM) (i1).toNatClampNeg) ((((p4_s vM) ((0 : Int32)).toNatClampNeg)).toInt64 * (p4_lower vM))) = 0 then (fX4_isSo_187 vM) else (some 0)) else none)) else none) else ((fX4_force vM i1).bind (fun y23 => if (lg_cmp y23 (0 : Int64)) = 0 then (some 0) else (some 1))))))
set_option maxHeartbeats 8000000 in
set_option maxRecDepth 100000 in
theorem mX4_isSo (l : Launch) (dC : Nat → ClassId) (dI : Nat → Nat → Nat) (cI cJ : ClassId) (aM : Nat → Nat) (sz : Nat) (vM : BX4) (i1 : Int32) (i2 : Int32) (y : Int32) (hf : fX4_isSo vM i1 i2 = some y) : Met l yX4_isSo wsX4_isSo ({ frames := 3, cells := 0, slots := 0, locals := 63 }) (cPc dC dI cI cJ [.ref (aM 0), .int i1, .int i2] [k4_0 aM vM, k4_1 cI aM vM, k4_2 cI aM vM, k4_3 cI aM vM, k4_4 cI aM vM, k4_5 cJ aM vM, k4_6 cI aM vM, k4_7 cJ aM vM, k4_8 cJ aM vM, k4_9 cI aM vM] sz) (va_Qi (fun r (_ : Unit) => r = y) (fun _ t => cB dC dI (va_A [k4_0 aM vM, k4_1 cI aM vM, k4_2 cI aM vM, k4_3 cI aM vM, k4_4 cI aM vM, k4_5 cJ aM vM, k4_6 cI aM vM, k4_7 cJ aM vM, k4_8 cJ aM vM, k4_9 cI aM vM] sz) [k4_0 aM vM, k4_1 cI aM vM, k4_2 cI aM vM, k4_3 cI aM vM, k4_4 cI aM vM, k4_5 cJ aM vM, k4_6 cI aM vM, k4_7 cJ aM vM, k4_8 cJ aM vM, k4_9 cI aM vM] t) (va_A [k4_0 aM vM, k4_1 cI aM vM, k4_2 cI aM vM, k4_3 cI aM vM, k4_4 cI aM vM, k4_5 cJ aM vM, k4_6 cI aM vM, k4_7 cJ aM vM, k4_8 cJ aM vM, k4_9 cI aM vM] sz)) 0 0 (va_A [k4_0 aM vM, k4_1 cI aM vM, k4_2 cI aM vM, k4_3 cI aM vM, k4_4 cI aM vM, k4_5 cJ aM vM, k4_6 cI aM vM, k4_7 cJ aM vM, k4_8 cJ aM vM, k4_9 cI aM vM] sz) := by
  refine Met.ofW (cc := cX4_isSo) (maxL := 3) (ret := (some .boolean)) (by decide) rfl ?_
  intro p e s m args below meth c s₁ B hml hv
  obtain ⟨rfl, hsz, hP, hK, hD0, hN⟩ := hv
  have hx := B.exec
  have hb := B.bytes
  have hr := B.returns
  have hts := atoms_spec (ws := wsX4_isSo) B.pre
  have hown : s.vm.findClass RX4 = some m.cls := findClass_of_methodNamed B.named
  have hlocks := B.notSynchronized
  subst hsz
  have hD := hD0.self (sz := s.heap.size)
  generalize hAe : va_A [k4_0 aM vM, k4_1 cI aM vM, k4_2 cI aM vM, k4_3 cI aM vM, k4_4 cI aM vM, k4_5 cJ aM vM, k4_6 cI aM vM, k4_7 cJ aM vM, k4_8 cJ aM vM, k4_9 cI aM vM] s.heap.size = A at hD hN ⊢
  have hA : ∀ q : Nat, s.heap.size ≤ q → A q := fun q h => by rw [← hAe]; exact Or.inr h
  have hP : va_P (dC, dI) vwCl [k4_0 aM vM, k4_1 cI aM vM, k4_2 cI aM vM, k4_3 cI aM vM, k4_4 cI aM vM, k4_5 cJ aM vM, k4_6 cI aM vM, k4_7 cJ aM vM, k4_8 cJ aM vM, k4_9 cI aM vM] s.heap := hP
  have hl := lv_entry ([.ref (aM 0), .int i1, .int i2]) (n := 3) (Nat.le_of_ble_eq_true rfl)
  rw [lg_entry_eq]
  generalize (lg_sl ([.ref (aM 0), .int i1, .int i2]) ++ List.replicate (3 - (lg_sl ([.ref (aM 0), .int i1, .int i2])).length) Slot.unset).toArray = ls at hl ⊢
  have hl : lv_has ls 3 [(0, .ref (aM 0)), (1, .int i1), (2, .int i2)] := hl
  have hiX4 : ∀ w ∈ u_ws RX4 TX4 21, w ∈ wsX4_isSo := by decide +kernel
  have hgX4_7 := hts (.fieldLink RX4 7 "SpringPlatesModel" "s" "[I") (by decide +kernel)
  have hgX4_22 := hts (.fieldLink RX4 22 "SpringPlatesModel" "upper" "[J") (by decide +kernel)
  have hgX4_79 := hts (.fieldLink RX4 79 "SpringPlatesModel" "lower" "J") (by decide +kernel)
  refine nameH (fun H locs hHe hLe => ?_)
  have hP : va_P (dC, dI) vwCl [k4_0 aM vM, k4_1 cI aM vM, k4_2 cI aM vM, k4_3 cI aM vM, k4_4 cI aM vM, k4_5 cJ aM vM, k4_6 cI aM vM, k4_7 cJ aM vM, k4_8 cJ aM vM, k4_9 cI aM vM] H := by rw [hHe]; exact hP
  have hS : va_S A s.heap H locs := by rw [hHe, hLe]; exact va_S.rf
  refine withW (fun WW hWW => ?_)
  have J187 : ∀ (H : Heap) (locs : List Loc) (ls : Array Slot), va_P (dC, dI) vwCl [k4_0 aM vM, k4_1 cI aM vM, k4_2 cI aM vM, k4_3 cI aM vM, k4_4 cI aM vM, k4_5 cJ aM vM, k4_6 cI aM vM, k4_7 cJ aM vM, k4_8 cJ aM vM, k4_9 cI aM vM] H → va_D A [k4_0 aM vM, k4_1 cI aM vM, k4_2 cI aM vM, k4_3 cI aM vM, k4_4 cI aM vM, k4_5 cJ aM vM, k4_6 cI aM vM, k4_7 cJ aM vM, k4_8 cJ aM vM, k4_9 cI aM vM] → va_S A s.heap H locs → lv_has ls 3 [] → fX4_isSo_187 vM = some y → WW H locs 0 0 ls 187 [] := by
    intro  H locs ls hP hD hS hl hf
    unfold fX4_isSo_187 at hf
    refine (hWW _ _ _ _ _ _ _).2 ?_
    refine lv_iconst (v := 1) hx hb dX4_isSo_187 (by decide) ?_
    refine lv_goto (tgt := 192) hx hb dX4_isSo_188 (by decide) ?_
    obtain rfl := Option.some.inj hf
    exact W.zret (v := 1) hx hb hr rfl (fun t ht hW => ⟨⟨1, (), rfl, rfl, by rw [ht]; exact hP, hD⟩, hS.F ht⟩) hS.2.2 dX4_isSo_192
  refine (hWW _ _ _ _ _ _ _).2 ?_
  unfold fX4_isSo at hf
  refine lv_iload_n hx hb dX4_isSo_0 rfl (lv_at hl 2 rfl) ?_
  by_cases c1 : i2 = 0
  · have hf := oif_t c1 hf
    refine lv_tableIn (tgt := 32) hx hb dX4_isSo_1 (by rw [c1]; decide) (by rw [c1]; decide) (by rw [c1]; rfl) (by decide) ?_
    refine lv_aload_n hx hb dX4_isSo_32 rfl (lv_at hl 0 rfl) ?_
    refine va_get (D := (dC, dI)) (ci := 4) (v := .ref (aM 1)) (C := RX4) (T := TX4) (N := 21) hx hb hts hiX4 hown hK hP 0 rfl rfl 0 (by decide) hgX4_7 (fun _ h9 => h9) rfl dX4_isSo_33 ?_
    refine lv_bipush (v := 16) hx hb dX4_isSo_36 (by decide) ?_
    refine lv_iload_n hx hb dX4_isSo_38 rfl (lv_at hl 1 rfl) ?_
    refine lv_iadd hx hb dX4_isSo_39 ?_
    obtain ⟨hi2, hf⟩ := oinb rfl hf
    refine va_iald hx hb hK hP 1 0 rfl rfl hi2 dX4_isSo_40 ?_
    refine lv_if_lt (tgt := 73) hx hb dX4_isSo_41 (by decide) (fun c3 => ?_) (fun c3 => ?_)
    · have hf := oif_t c3 hf
      refine lv_iconst (v := 0) hx hb dX4_isSo_73 (by decide) ?_
      obtain rfl := Option.some.inj hf
      exact W.zret (v := 0) hx hb hr rfl (fun t ht hW => ⟨⟨0, (), rfl, rfl, by rw [ht]; exact hP, hD⟩, hS.F ht⟩) hS.2.2 dX4_isSo_74
    · have hf := oif_f c3 hf
      refine lv_aload_n hx hb dX4_isSo_44 rfl (lv_at hl 0 rfl) ?_
      refine va_get (D := (dC, dI)) (ci := 4) (v := .ref (aM 5)) (C := RX4) (T := TX4) (N := 21) hx hb hts hiX4 hown hK hP 0 rfl rfl 7 (by decide) hgX4_22 (fun _ h9 => h9) rfl dX4_isSo_45 ?_
      refine lv_iload_n hx hb dX4_isSo_48 rfl (lv_at hl 1 rfl) ?_
      obtain ⟨hi4, hf⟩ := oinb rfl hf
      refine va_lald hx hb hK hP 5 1 rfl rfl hi4 dX4_isSo_49 ?_
      refine lv_aload_n hx hb dX4_isSo_50 rfl (lv_at hl 0 rfl) ?_
      refine va_get (D := (dC, dI)) (ci := 4) (v := .ref (aM 1)) (C := RX4) (T := TX4) (N := 21) hx hb hts hiX4 hown hK hP 0 rfl rfl 0 (by decide) hgX4_7 (fun _ h9 => h9) rfl dX4_isSo_51 ?_
      refine lv_bipush (v := 16) hx hb dX4_isSo_54 (by decide) ?_
      refine lv_iload_n hx hb dX4_isSo_56 rfl (lv_at hl 1 rfl) ?_
      refine lv_iadd hx hb dX4_isSo_57 ?_
      obtain ⟨hi5, hf⟩ := oinb rfl hf
      refine va_iald hx hb hK hP 1 0 rfl rfl hi5 dX4_isSo_58 ?_
      refine lv_i2l (v := (((p4_s vM) (((16 : Int32) + i1)).toNatClampNeg)).toInt64) hx hb dX4_isSo_59 rfl ?_
      refine lv_aload_n hx hb dX4_isSo_60 rfl (lv_at hl 0 rfl) ?_
      refine va_get (D := (dC, dI)) (ci := 4) (v := .long (p4_lower vM)) (C := RX4) (T := TX4) (N := 21) hx hb hts hiX4 hown hK hP 0 rfl rfl 8 (by decide) hgX4_79 (fun _ h9 => h9) rfl dX4_isSo_61 ?_
      refine lv_lmul hx hb dX4_isSo_64 ?_
      refine W.lcmp hx hb dX4_isSo_65 ?_
      refine lv_if_ne (tgt := 73) hx hb dX4_isSo_66 (by decide) (fun c6 => ?_) (fun c6 => ?_)
      · have hf := oif_f c6 hf
        refine lv_iconst (v := 0) hx hb dX4_isSo_73 (by decide) ?_
        obtain rfl := Option.some.inj hf
        exact W.zret (v := 0) hx hb hr rfl (fun t ht hW => ⟨⟨0, (), rfl, rfl, by rw [ht]; exact hP, hD⟩, hS.F ht⟩) hS.2.2 dX4_isSo_74
      · have hf := oif_t c6 hf
        refine lv_iconst (v := 1) hx hb dX4_isSo_69 (by decide) ?_
        refine lv_goto (tgt := 74) hx hb dX4_isSo_70 (by decide) ?_
        obtain rfl := Option.some.inj hf
        exact W.zret (v := 1) hx hb hr rfl (fun t ht hW => ⟨⟨1, (), rfl, rfl, by rw [ht]; exact hP, hD⟩, hS.F ht⟩) hS.2.2 dX4_isSo_74
  · have hf := oif_f c1 hf
    by_cases c7 : i2 = 1
    · have hf := oif_t c7 hf
      refine lv_tableIn (tgt := 75) hx hb dX4_isSo_1 (by rw [c7]; decide) (by rw [c7]; decide) (by rw [c7]; rfl) (by decide) ?_
      refine lv_aload_n hx hb dX4_isSo_75 rfl (lv_at hl 0 rfl) ?_
      refine va_get (D := (dC, dI)) (ci := 4) (v := .ref (aM 1)) (C := RX4) (T := TX4) (N := 21) hx hb hts hiX4 hown hK hP 0 rfl rfl 0 (by decide) hgX4_7 (fun _ h9 => h9) rfl dX4_isSo_76 ?_
      refine lv_bipush (v := 20) hx hb dX4_isSo_79 (by decide) ?_
      refine lv_iload_n hx hb dX4_isSo_81 rfl (lv_at hl 1 rfl) ?_
      refine lv_iadd hx hb dX4_isSo_82 ?_
      obtain ⟨hi8, hf⟩ := oinb rfl hf
      refine va_iald hx hb hK hP 1 0 rfl rfl hi8 dX4_isSo_83 ?_
      refine lv_if_lt (tgt := 116) hx hb dX4_isSo_84 (by decide) (fun c9 => ?_) (fun c9 => ?_)
      · have hf := oif_t c9 hf
        refine lv_iconst (v := 0) hx hb dX4_isSo_116 (by decide) ?_
        obtain rfl := Option.some.inj hf
        exact W.zret (v := 0) hx hb hr rfl (fun t ht hW => ⟨⟨0, (), rfl, rfl, by rw [ht]; exact hP, hD⟩, hS.F ht⟩) hS.2.2 dX4_isSo_117
      · have hf := oif_f c9 hf
        refine lv_aload_n hx hb dX4_isSo_87 rfl (lv_at hl 0 rfl) ?_
        refine va_get (D := (dC, dI)) (ci := 4) (v := .ref (aM 5)) (C := RX4) (T := TX4) (N := 21) hx hb hts hiX4 hown hK hP 0 rfl rfl 7 (by decide) hgX4_22 (fun _ h9 => h9) rfl dX4_isSo_88 ?_
        refine lv_iload_n hx hb dX4_isSo_91 rfl (lv_at hl 1 rfl) ?_
        obtain ⟨hi10, hf⟩ := oinb rfl hf
        refine va_lald hx hb hK hP 5 1 rfl rfl hi10 dX4_isSo_92 ?_
        refine lv_aload_n hx hb dX4_isSo_93 rfl (lv_at hl 0 rfl) ?_
        refine va_get (D := (dC, dI)) (ci := 4) (v := .ref (aM 1)) (C := RX4) (T := TX4) (N := 21) hx hb hts hiX4 hown hK hP 0 rfl rfl 0 (by decide) hgX4_7 (fun _ h9 => h9) rfl dX4_isSo_94 ?_
        refine lv_bipush (v := 20) hx hb dX4_isSo_97 (by decide) ?_
        refine lv_iload_n hx hb dX4_isSo_99 rfl (lv_at hl 1 rfl) ?_
        refine lv_iadd hx hb dX4_isSo_100 ?_
        obtain ⟨hi11, hf⟩ := oinb rfl hf
        refine va_iald hx hb hK hP 1 0 rfl rfl hi11 dX4_isSo_101 ?_
        refine lv_i2l (v := (((p4_s vM) (((20 : Int32) + i1)).toNatClampNeg)).toInt64) hx hb dX4_isSo_102 rfl ?_
        refine lv_aload_n hx hb dX4_isSo_103 rfl (lv_at hl 0 rfl) ?_
        refine va_get (D := (dC, dI)) (ci := 4) (v := .long (p4_lower vM)) (C := RX4) (T := TX4) (N := 21) hx hb hts hiX4 hown hK hP 0 rfl rfl 8 (by decide) hgX4_79 (fun _ h9 => h9) rfl dX4_isSo_104 ?_
        refine lv_lmul hx hb dX4_isSo_107 ?_
        refine W.lcmp hx hb dX4_isSo_108 ?_
        refine lv_if_ne (tgt := 116) hx hb dX4_isSo_109 (by decide) (fun c12 => ?_) (fun c12 => ?_)
        · have hf := oif_f c12 hf
          refine lv_iconst (v := 0) hx hb dX4_isSo_116 (by decide) ?_
          obtain rfl := Option.some.inj hf
          exact W.zret (v := 0) hx hb hr rfl (fun t ht hW => ⟨⟨0, (), rfl, rfl, by rw [ht]; exact hP, hD⟩, hS.F ht⟩) hS.2.2 dX4_isSo_117
        · have hf := oif_t c12 hf
          refine lv_iconst (v := 1) hx hb dX4_isSo_112 (by decide) ?_
          refine lv_goto (tgt := 117) hx hb dX4_isSo_113 (by decide) ?_
          obtain rfl := Option.some.inj hf
          exact W.zret (v := 1) hx hb hr rfl (fun t ht hW => ⟨⟨1, (), rfl, rfl, by rw [ht]; exact hP, hD⟩, hS.F ht⟩) hS.2.2 dX4_isSo_117
    · have hf := oif_f c7 hf
      by_cases c13 : i2 = 2
      · have hf := oif_t c13 hf
        refine lv_tableIn (tgt := 118) hx hb dX4_isSo_1 (by rw [c13]; decide) (by rw [c13]; decide) (by rw [c13]; rfl) (by decide) ?_
        refine lv_iload_n hx hb dX4_isSo_118 rfl (lv_at hl 1 rfl) ?_
        refine lv_iconst (v := 1) hx hb dX4_isSo_119 (by decide) ?_
        refine lv_iadd hx hb dX4_isSo_120 ?_
        refine lv_aload_n hx hb dX4_isSo_121 rfl (lv_at hl 0 rfl) ?_
        refine va_get (D := (dC, dI)) (ci := 4) (v := .ref (aM 1)) (C := RX4) (T := TX4) (N := 21) hx hb hts hiX4 hown hK hP 0 rfl rfl 0 (by decide) hgX4_7 (fun _ h9 => h9) rfl dX4_isSo_122 ?_
        refine lv_iconst (v := 1) hx hb dX4_isSo_125 (by decide) ?_
        refine va_iald hx hb hK hP 1 0 rfl rfl (vpc rfl) dX4_isSo_126 ?_
        refine lv_icmp_ge (tgt := 152) hx hb dX4_isSo_127 (by decide) (fun c14 => ?_) (fun c14 => ?_)
        · have hf := oif_t c14 hf
          refine lv_iconst (v := 0) hx hb dX4_isSo_152 (by decide) ?_
          obtain rfl := Option.some.inj hf
          exact W.zret (v := 0) hx hb hr rfl (fun t ht hW => ⟨⟨0, (), rfl, rfl, by rw [ht]; exact hP, hD⟩, hS.F ht⟩) hS.2.2 dX4_isSo_153
        · have hf := oif_f c14 hf
          refine lv_aload_n hx hb dX4_isSo_130 rfl (lv_at hl 0 rfl) ?_
          refine va_get (D := (dC, dI)) (ci := 4) (v := .ref (aM 5)) (C := RX4) (T := TX4) (N := 21) hx hb hts hiX4 hown hK hP 0 rfl rfl 7 (by decide) hgX4_22 (fun _ h9 => h9) rfl dX4_isSo_131 ?_
          refine lv_iload_n hx hb dX4_isSo_134 rfl (lv_at hl 1 rfl) ?_
          obtain ⟨hi15, hf⟩ := oinb rfl hf
          refine va_lald hx hb hK hP 5 1 rfl rfl hi15 dX4_isSo_135 ?_
          refine lv_aload_n hx hb dX4_isSo_136 rfl (lv_at hl 0 rfl) ?_
          refine va_get (D := (dC, dI)) (ci := 4) (v := .ref (aM 5)) (C := RX4) (T := TX4) (N := 21) hx hb hts hiX4 hown hK hP 0 rfl rfl 7 (by decide) hgX4_22 (fun _ h9 => h9) rfl dX4_isSo_137 ?_
          refine lv_iload_n hx hb dX4_isSo_140 rfl (lv_at hl 1 rfl) ?_
          refine lv_iconst (v := 1) hx hb dX4_isSo_141 (by decide) ?_
          refine lv_iadd hx hb dX4_isSo_142 ?_
          obtain ⟨hi16, hf⟩ := oinb rfl hf
          refine va_lald hx hb hK hP 5 1 rfl rfl hi16 dX4_isSo_143 ?_
          refine W.lcmp hx hb dX4_isSo_144 ?_
          refine lv_if_ne (tgt := 152) hx hb dX4_isSo_145 (by decide) (fun c17 => ?_) (fun c17 => ?_)
          · have hf := oif_f c17 hf
            refine lv_iconst (v := 0) hx hb dX4_isSo_152 (by decide) ?_
            obtain rfl := Option.some.inj hf
            exact W.zret (v := 0) hx hb hr rfl (fun t ht hW => ⟨⟨0, (), rfl, rfl, by rw [ht]; exact hP, hD⟩, hS.F ht⟩) hS.2.2 dX4_isSo_153
          · have hf := oif_t c17 hf
            refine lv_iconst (v := 1) hx hb dX4_isSo_148 (by decide) ?_
            refine lv_goto (tgt := 153) hx hb dX4_isSo_149 (by decide) ?_
            obtain rfl := Option.some.inj hf
            exact W.zret (v := 1) hx hb hr rfl (fun t ht hW => ⟨⟨1, (), rfl, rfl, by rw [ht]; exact hP, hD⟩, hS.F ht⟩) hS.2.2 dX4_isSo_153
      · have hf := oif_f c13 hf
        by_cases c18 : i2 = 3
        · have hf := oif_t c18 hf
          refine lv_tableIn (tgt := 154) hx hb dX4_isSo_1 (by rw [c18]; decide) (by rw [c18]; decide) (by rw [c18]; rfl) (by decide) ?_
          refine lv_aload_n hx hb dX4_isSo_154 rfl (lv_at hl 0 rfl) ?_
          refine va_get (D := (dC, dI)) (ci := 4) (v := .ref (aM 5)) (C := RX4) (T := TX4) (N := 21) hx hb hts hiX4 hown hK hP 0 rfl rfl 7 (by decide) hgX4_22 (fun _ h9 => h9) rfl dX4_isSo_155 ?_
          refine lv_iload_n hx hb dX4_isSo_158 rfl (lv_at hl 1 rfl) ?_
          obtain ⟨hi19, hf⟩ := oinb rfl hf
          refine va_lald hx hb hK hP 5 1 rfl rfl hi19 dX4_isSo_159 ?_
          refine lv_lconst (v := 0) hx hb dX4_isSo_160 (by decide) ?_
          refine W.lcmp hx hb dX4_isSo_161 ?_
          refine lv_if_eq (tgt := 187) hx hb dX4_isSo_162 (by decide) (fun c20 => ?_) (fun c20 => ?_)
          · have hf := oif_t c20 hf
            exact (hWW _ _ _ _ _ _ _).1 (J187  H locs ls hP hD hS (lv_sub hl [] rfl) hf)
          · have hf := oif_f c20 hf
            refine lv_aload_n hx hb dX4_isSo_165 rfl (lv_at hl 0 rfl) ?_
            refine va_get (D := (dC, dI)) (ci := 4) (v := .ref (aM 5)) (C := RX4) (T := TX4) (N := 21) hx hb hts hiX4 hown hK hP 0 rfl rfl 7 (by decide) hgX4_22 (fun _ h9 => h9) rfl dX4_isSo_166 ?_
            refine lv_iload_n hx hb dX4_isSo_169 rfl (lv_at hl 1 rfl) ?_
            obtain ⟨hi21, hf⟩ := oinb rfl hf
            refine va_lald hx hb hK hP 5 1 rfl rfl hi21 dX4_isSo_170 ?_
            refine lv_aload_n hx hb dX4_isSo_171 rfl (lv_at hl 0 rfl) ?_
            refine va_get (D := (dC, dI)) (ci := 4) (v := .ref (aM 1)) (C := RX4) (T := TX4) (N := 21) hx hb hts hiX4 hown hK hP 0 rfl rfl 0 (by decide) hgX4_7 (fun _ h9 => h9) rfl dX4_isSo_172 ?_
            refine lv_iconst (v := 0) hx hb dX4_isSo_175 (by decide) ?_
            refine va_iald hx hb hK hP 1 0 rfl rfl (vpc rfl) dX4_isSo_176 ?_
            refine lv_i2l (v := (((p4_s vM) ((0 : Int32)).toNatClampNeg)).toInt64) hx hb dX4_isSo_177 rfl ?_
            refine lv_aload_n hx hb dX4_isSo_178 rfl (lv_at hl 0 rfl) ?_
            refine va_get (D := (dC, dI)) (ci := 4) (v := .long (p4_lower vM)) (C := RX4) (T := TX4) (N := 21) hx hb hts hiX4 hown hK hP 0 rfl rfl 8 (by decide) hgX4_79 (fun _ h9 => h9) rfl dX4_isSo_179 ?_
            refine lv_lmul hx hb dX4_isSo_182 ?_
            refine W.lcmp hx hb dX4_isSo_183 ?_
            refine lv_if_ne (tgt := 191) hx hb dX4_isSo_184 (by decide) (fun c22 => ?_) (fun c22 => ?_)
            · have hf := oif_f c22 hf
              refine lv_iconst (v := 0) hx hb dX4_isSo_191 (by decide) ?_
              obtain rfl := Option.some.inj hf
              exact W.zret (v := 0) hx hb hr rfl (fun t ht hW => ⟨⟨0, (), rfl, rfl, by rw [ht]; exact hP, hD⟩, hS.F ht⟩) hS.2.2 dX4_isSo_192
            · have hf := oif_t c22 hf
              exact (hWW _ _ _ _ _ _ _).1 (J187  H locs ls hP hD hS (lv_sub hl [] rfl) hf)
        · have hf := oif_f c18 hf
          refine lv_tableOut (tgt := 193) hx hb dX4_isSo_1 (by have t0 := toInt_ne (n := 0) rfl c1; have t1 := toInt_ne (n := 1) rfl c7; have t2 := toInt_ne (n := 2) rfl c13; have t3 := toInt_ne (n := 3) rfl c18; omega) (by decide) ?_
          refine lv_aload_n hx hb dX4_isSo_193 rfl (lv_at hl 0 rfl) ?_
          refine lv_iload_n hx hb dX4_isSo_194 rfl (lv_at hl 1 rfl) ?_
          obtain ⟨y23, hy23, hf⟩ := obind hf
          refine cg_l (ws := [k4_0 aM vM, k4_1 cI aM vM, k4_2 cI aM vM, k4_3 cI aM vM, k4_4 cI aM vM, k4_5 cJ aM vM, k4_6 cI aM vM, k4_7 cJ aM vM, k4_8 cJ aM vM, k4_9 cI aM vM]) (wc := [k4_0 aM vM, k4_1 cI aM vM, k4_2 cI aM vM, k4_3 cI aM vM, k4_4 cI aM vM, k4_5 cJ aM vM, k4_6 cI aM vM, k4_7 cJ aM vM, k4_8 cJ aM vM, k4_9 cI aM vM]) (wr := []) (w1 := [k4_0 aM vM, k4_1 cI aM vM, k4_2 cI aM vM, k4_3 cI aM vM, k4_4 cI aM vM, k4_5 cJ aM vM, k4_6 cI aM vM, k4_7 cJ aM vM, k4_8 cJ aM vM, k4_9 cI aM vM]) (wo := [k4_0 aM vM, k4_1 cI aM vM, k4_2 cI aM vM, k4_3 cI aM vM, k4_4 cI aM vM, k4_5 cJ aM vM, k4_6 cI aM vM, k4_7 cJ aM vM, k4_8 cJ aM vM, k4_9 cI aM vM]) hP hD hS hA (va_runV (As := [.int i1]) (rest := []) ⟨hx, hb, hml, hown, hts⟩ (mX4_force l dC dI cI cJ aM H.size vM i1 y23 hy23) (cwV 1 hts gX4_isSo_X4_force rfl rfl rfl (by decide +kernel) ⟨Nat.le_of_ble_eq_true rfl, Nat.le_of_ble_eq_true rfl⟩) ⟨cFB, va_recv hK hP (ci := 4) (q0 := 0) rfl rfl, cPre hK hN hS (va_free (wc := [k4_0 aM vM, k4_1 cI aM vM, k4_2 cI aM vM, k4_3 cI aM vM, k4_4 cI aM vM, k4_5 cJ aM vM, k4_6 cI aM vM, k4_7 cJ aM vM, k4_8 cJ aM vM, k4_9 cI aM vM]) hD hS hA [0, 1, 2, 3, 4, 5, 6, 7, 8, 9] rfl) (hP.sub [0, 1, 2, 3, 4, 5, 6, 7, 8, 9] rfl) (hD.sub [0, 1, 2, 3, 4, 5, 6, 7, 8, 9] rfl rfl)⟩ rfl rfl hl.1 rfl (lv_room (Nat.le_of_ble_eq_true rfl)) dX4_isSo_195 ⟨Nat.le_of_ble_eq_true rfl, Nat.le_of_ble_eq_true rfl⟩) [0, 1, 2, 3, 4, 5, 6, 7, 8, 9] [] [0, 1, 2, 3, 4, 5, 6, 7, 8, 9] rfl rfl rfl (by decide +kernel) rfl rfl (fun H locs hP hD hS => ?_)
          refine lv_lconst (v := 0) hx hb dX4_isSo_198 (by decide) ?_
          refine W.lcmp hx hb dX4_isSo_199 ?_
          refine lv_if_eq (tgt := 207) hx hb dX4_isSo_200 (by decide) (fun c24 => ?_) (fun c24 => ?_)
          · have hf := oif_t c24 hf
            refine lv_iconst (v := 0) hx hb dX4_isSo_207 (by decide) ?_
            obtain rfl := Option.some.inj hf
            exact W.zret (v := 0) hx hb hr rfl (fun t ht hW => ⟨⟨0, (), rfl, rfl, by rw [ht]; exact hP, hD⟩, hS.F ht⟩) hS.2.2 dX4_isSo_208
          · have hf := oif_f c24 hf
            refine lv_iconst (v := 1) hx hb dX4_isSo_203 (by decide) ?_
            refine lv_goto (tgt := 208) hx hb dX4_isSo_204 (by decide) ?_
            obtain rfl := Option.some.inj hf
            exact W.zret (v := 1) hx hb hr rfl (fun t ht hW => ⟨⟨1, (), rfl, rfl, by rw [ht]; exact hP, hD⟩, hS.F ht⟩) hS.2.2 dX4_isSo_208
def fX4_plates_47 (k20 : BX4 → Int32 → Int32 → Int32 → Option (Int32 × BX4)) (vM : BX4) (x1 : Int32) (x3 : Int32) (st0 : Int32) (st1 : Int32) : Option (Int32 × BX4) :=
  elet (st0 ||| st1) (fun z4 => elet (x3 + 1) (fun z5 => k20 vM x1 z4 z5))
def fX4_plates_20_b (k20 : BX4 → Int32 → Int32 → Int32 → Option (Int32 × BX4)) (vM : BX4) (x1 : Int32) (x2 : Int32) (x3 : Int32) : Option (Int32 × BX4) :=
  if ((p4_s vM) ((1 : Int32)).toNatClampNeg) ≤ x3 then (some (x2, vM)) else ((fX4_isSo vM x3 x1).bind (fun y2 => if y2 = 0 then (fX4_plates_47 k20 vM x1 x3 x2 (0 : Int32)) else (fX4_plates_47 k20 vM x1 x3 x2 ((1 : Int32) <<< (x3 &&& 31)))))
def fX4_plates_20 : Nat → BX4 → Int32 → Int32 → Int32 → Option (Int32 × BX4)
  | 0 => fun _ _ _ _ => none
  | n + 1 => fX4_plates_20_b (fX4_plates_20 n)
def fX4_plates (vM : BX4) (i1 : Int32) : Option (Int32 × BX4) :=
  (fX4_in i1 (0 : Int32) (4 : Int32)).bind (fun y6 => if y6 = 0 then (some ((-1000001), vM)) else ((fX4_rests vM).bind (fun y8 => fX4_plates_20 FU y8 i1 (0 : Int32) (0 : Int32))))
set_option maxHeartbeats 8000000 in
set_option maxRecDepth 100000 in
theorem mX4_plates (l : Launch) (dC : Nat → ClassId) (dI : Nat → Nat → Nat) (cI cJ : ClassId) (aM : Nat → Nat) (sz : Nat) (vM : BX4) (i1 : Int32) (y : (Int32 × BX4)) (hf : fX4_plates vM i1 = some y) : Met l yX4_plates wsX4_plates ({ frames := 5, cells := 0, slots := 0, locals := 114 }) (cPc dC dI cI cJ [.ref (aM 0), .int i1] [k4_0 aM vM, k4_1 cI aM vM, k4_2 cI aM vM, k4_3 cI aM vM, k4_4 cI aM vM, k4_5 cJ aM vM, k4_6 cI aM vM, k4_7 cJ aM vM, k4_8 cJ aM vM, k4_9 cI aM vM] sz) (va_Qi (fun r (_ : Unit) => r = y.1) (fun _ t => cB dC dI (va_A [k4_0 aM vM, k4_1 cI aM vM, k4_2 cI aM vM, k4_3 cI aM vM, k4_4 cI aM vM, k4_5 cJ aM vM, k4_6 cI aM vM, k4_7 cJ aM vM, k4_8 cJ aM vM, k4_9 cI aM vM] sz) [k4_0 aM y.2, k4_1 cI aM y.2, k4_2 cI aM y.2, k4_3 cI aM y.2, k4_4 cI aM y.2, k4_5 cJ aM y.2, k4_6 cI aM y.2, k4_7 cJ aM y.2, k4_8 cJ aM y.2, k4_9 cI aM y.2] t) (va_A [k4_0 aM vM, k4_1 cI aM vM, k4_2 cI aM vM, k4_3 cI aM vM, k4_4 cI aM vM, k4_5 cJ aM vM, k4_6 cI aM vM, k4_7 cJ aM vM, k4_8 cJ aM vM, k4_9 cI aM vM] sz)) 0 0 (va_A [k4_0 aM vM, k4_1 cI aM vM, k4_2 cI aM vM, k4_3 cI aM vM, k4_4 cI aM vM, k4_5 cJ aM vM, k4_6 cI aM vM, k4_7 cJ aM vM, k4_8 cJ aM vM, k4_9 cI aM vM] sz) := by
  refine Met.ofW (cc := cX4_plates) (maxL := 4) (ret := (some .int)) (by decide) rfl ?_
  intro p e s m args below meth c s₁ B hml hv
  obtain ⟨rfl, hsz, hP, hK, hD0, hN⟩ := hv
  have hx := B.exec
  have hb := B.bytes
  have hr := B.returns
  have hts := atoms_spec (ws := wsX4_plates) B.pre
  have hown : s.vm.findClass RX4 = some m.cls := findClass_of_methodNamed B.named
  have hlocks := B.notSynchronized
  subst hsz
  have hD := hD0.self (sz := s.heap.size)
  generalize hAe : va_A [k4_0 aM vM, k4_1 cI aM vM, k4_2 cI aM vM, k4_3 cI aM vM, k4_4 cI aM vM, k4_5 cJ aM vM, k4_6 cI aM vM, k4_7 cJ aM vM, k4_8 cJ aM vM, k4_9 cI aM vM] s.heap.size = A at hD hN ⊢
  have hA : ∀ q : Nat, s.heap.size ≤ q → A q := fun q h => by rw [← hAe]; exact Or.inr h
  have hP : va_P (dC, dI) vwCl [k4_0 aM vM, k4_1 cI aM vM, k4_2 cI aM vM, k4_3 cI aM vM, k4_4 cI aM vM, k4_5 cJ aM vM, k4_6 cI aM vM, k4_7 cJ aM vM, k4_8 cJ aM vM, k4_9 cI aM vM] s.heap := hP
  have hl := lv_entry ([.ref (aM 0), .int i1]) (n := 4) (Nat.le_of_ble_eq_true rfl)
  rw [lg_entry_eq]
  generalize (lg_sl ([.ref (aM 0), .int i1]) ++ List.replicate (4 - (lg_sl ([.ref (aM 0), .int i1])).length) Slot.unset).toArray = ls at hl ⊢
  have hl : lv_has ls 4 [(0, .ref (aM 0)), (1, .int i1)] := hl
  have hiX4 : ∀ w ∈ u_ws RX4 TX4 21, w ∈ wsX4_plates := by decide +kernel
  have hgX4_7 := hts (.fieldLink RX4 7 "SpringPlatesModel" "s" "[I") (by decide +kernel)
  have hc57 := hts (.constant RX4 57 (-1000001)) (by decide +kernel)
  refine nameH (fun H locs hHe hLe => ?_)
  have hP : va_P (dC, dI) vwCl [k4_0 aM vM, k4_1 cI aM vM, k4_2 cI aM vM, k4_3 cI aM vM, k4_4 cI aM vM, k4_5 cJ aM vM, k4_6 cI aM vM, k4_7 cJ aM vM, k4_8 cJ aM vM, k4_9 cI aM vM] H := by rw [hHe]; exact hP
  have hS : va_S A s.heap H locs := by rw [hHe, hLe]; exact va_S.rf
  refine withW (fun WW hWW => ?_)
  have J47 : ∀ (k20 : BX4 → Int32 → Int32 → Int32 → Option (Int32 × BX4)) (hk20 : ∀ (vM : BX4) (x1 : Int32) (x2 : Int32) (x3 : Int32) (H : Heap) (locs : List Loc) (ls : Array Slot), va_P (dC, dI) vwCl [k4_0 aM vM, k4_1 cI aM vM, k4_2 cI aM vM, k4_3 cI aM vM, k4_4 cI aM vM, k4_5 cJ aM vM, k4_6 cI aM vM, k4_7 cJ aM vM, k4_8 cJ aM vM, k4_9 cI aM vM] H → va_D A [k4_0 aM vM, k4_1 cI aM vM, k4_2 cI aM vM, k4_3 cI aM vM, k4_4 cI aM vM, k4_5 cJ aM vM, k4_6 cI aM vM, k4_7 cJ aM vM, k4_8 cJ aM vM, k4_9 cI aM vM] → va_S A s.heap H locs → lv_has ls 4 [(0, .ref (aM 0)), (1, .int x1), (2, .int x2), (3, .int x3)] → k20 vM x1 x2 x3 = some y → WW H locs 0 0 ls 20 []) (vM : BX4) (x1 : Int32) (x3 : Int32) (st0 : Int32) (st1 : Int32) (H : Heap) (locs : List Loc) (ls : Array Slot), va_P (dC, dI) vwCl [k4_0 aM vM, k4_1 cI aM vM, k4_2 cI aM vM, k4_3 cI aM vM, k4_4 cI aM vM, k4_5 cJ aM vM, k4_6 cI aM vM, k4_7 cJ aM vM, k4_8 cJ aM vM, k4_9 cI aM vM] H → va_D A [k4_0 aM vM, k4_1 cI aM vM, k4_2 cI aM vM, k4_3 cI aM vM, k4_4 cI aM vM, k4_5 cJ aM vM, k4_6 cI aM vM, k4_7 cJ aM vM, k4_8 cJ aM vM, k4_9 cI aM vM] → va_S A s.heap H locs → lv_has ls 4 [(0, .ref (aM 0)), (1, .int x1), (3, .int x3)] → fX4_plates_47 k20 vM x1 x3 st0 st1 = some y → WW H locs 0 0 ls 47 [.int st1, .int st0] := by
    intro k20 hk20 vM x1 x3 st0 st1 H locs ls hP hD hS hl hf
    unfold fX4_plates_47 at hf
    refine (hWW _ _ _ _ _ _ _).2 ?_
    refine lv_ior hx hb dX4_plates_47 ?_
    obtain ⟨z4, ez4, hf⟩ := elet_out hf
    refine lvn_i ez4 ?_
    refine lv_istore_n (lv' := [(2, .int z4), (0, .ref (aM 0)), (1, .int x1), (3, .int x3)]) hx hb dX4_plates_48 rfl hl (by decide) rfl (fun ls hl => ?_)
    obtain ⟨z5, ez5, hf⟩ := elet_out hf
    refine lv_iinc (v := z5) (lv' := [(3, .int z5), (2, .int z4), (0, .ref (aM 0)), (1, .int x1)]) hx hb dX4_plates_49 hl (k := 3) rfl (by rw [ez5]; rfl) (by decide) rfl (fun ls hl => ?_)
    refine lv_goto (tgt := 20) hx hb dX4_plates_52 (by decide) ?_
    exact (hWW _ _ _ _ _ _ _).1 (hk20 vM x1 z4 z5 H locs ls hP hD hS (lv_sub hl [2, 3, 1, 0] rfl) hf)
  have L20 : ∀ (n : Nat) (vM : BX4) (x1 : Int32) (x2 : Int32) (x3 : Int32) (H : Heap) (locs : List Loc) (ls : Array Slot), va_P (dC, dI) vwCl [k4_0 aM vM, k4_1 cI aM vM, k4_2 cI aM vM, k4_3 cI aM vM, k4_4 cI aM vM, k4_5 cJ aM vM, k4_6 cI aM vM, k4_7 cJ aM vM, k4_8 cJ aM vM, k4_9 cI aM vM] H → va_D A [k4_0 aM vM, k4_1 cI aM vM, k4_2 cI aM vM, k4_3 cI aM vM, k4_4 cI aM vM, k4_5 cJ aM vM, k4_6 cI aM vM, k4_7 cJ aM vM, k4_8 cJ aM vM, k4_9 cI aM vM] → va_S A s.heap H locs → lv_has ls 4 [(0, .ref (aM 0)), (1, .int x1), (2, .int x2), (3, .int x3)] → fX4_plates_20 n vM x1 x2 x3 = some y → WW H locs 0 0 ls 20 [] := by
    intro n
    induction n with
    | zero =>
      intro vM x1 x2 x3 H locs ls hP hD hS hl hf
      exact onone hf
    | succ n ih =>
      intro vM x1 x2 x3 H locs ls hP hD hS hl hf
      have hf : fX4_plates_20_b (fX4_plates_20 n) vM x1 x2 x3 = some y := hf
      generalize fX4_plates_20 n = k20 at hf ih
      have hk20 := ih
      clear ih
      unfold fX4_plates_20_b at hf
      refine (hWW _ _ _ _ _ _ _).2 ?_
      refine lv_iload_n hx hb dX4_plates_20 rfl (lv_at hl 3 rfl) ?_
      refine lv_aload_n hx hb dX4_plates_21 rfl (lv_at hl 0 rfl) ?_
      refine va_get (D := (dC, dI)) (ci := 4) (v := .ref (aM 1)) (C := RX4) (T := TX4) (N := 21) hx hb hts hiX4 hown hK hP 0 rfl rfl 0 (by decide) hgX4_7 (fun _ h9 => h9) rfl dX4_plates_22 ?_
      refine lv_iconst (v := 1) hx hb dX4_plates_25 (by decide) ?_
      refine va_iald hx hb hK hP 1 0 rfl rfl (vpc rfl) dX4_plates_26 ?_
      refine lv_icmp_ge (tgt := 55) hx hb dX4_plates_27 (by decide) (fun c1 => ?_) (fun c1 => ?_)
      · have hf := oif_t c1 hf
        refine lv_iload_n hx hb dX4_plates_55 rfl (lv_at hl 2 rfl) ?_
        obtain rfl := Option.some.inj hf
        exact W.iret (v := x2) hx hb hr (fun t ht hW => ⟨⟨x2, (), rfl, rfl, by rw [ht]; exact hP, hD⟩, hS.F ht⟩) hS.2.2 dX4_plates_56
      · have hf := oif_f c1 hf
        refine lv_iload_n hx hb dX4_plates_30 rfl (lv_at hl 2 rfl) ?_
        refine lv_aload_n hx hb dX4_plates_31 rfl (lv_at hl 0 rfl) ?_
        refine lv_iload_n hx hb dX4_plates_32 rfl (lv_at hl 3 rfl) ?_
        refine lv_iload_n hx hb dX4_plates_33 rfl (lv_at hl 1 rfl) ?_
        obtain ⟨y2, hy2, hf⟩ := obind hf
        refine cg_i (ws := [k4_0 aM vM, k4_1 cI aM vM, k4_2 cI aM vM, k4_3 cI aM vM, k4_4 cI aM vM, k4_5 cJ aM vM, k4_6 cI aM vM, k4_7 cJ aM vM, k4_8 cJ aM vM, k4_9 cI aM vM]) (wc := [k4_0 aM vM, k4_1 cI aM vM, k4_2 cI aM vM, k4_3 cI aM vM, k4_4 cI aM vM, k4_5 cJ aM vM, k4_6 cI aM vM, k4_7 cJ aM vM, k4_8 cJ aM vM, k4_9 cI aM vM]) (wr := []) (w1 := [k4_0 aM vM, k4_1 cI aM vM, k4_2 cI aM vM, k4_3 cI aM vM, k4_4 cI aM vM, k4_5 cJ aM vM, k4_6 cI aM vM, k4_7 cJ aM vM, k4_8 cJ aM vM, k4_9 cI aM vM]) (wo := [k4_0 aM vM, k4_1 cI aM vM, k4_2 cI aM vM, k4_3 cI aM vM, k4_4 cI aM vM, k4_5 cJ aM vM, k4_6 cI aM vM, k4_7 cJ aM vM, k4_8 cJ aM vM, k4_9 cI aM vM]) hP hD hS hA (va_runV (As := [.int x3, .int x1]) (rest := [.int x2]) ⟨hx, hb, hml, hown, hts⟩ (mX4_isSo l dC dI cI cJ aM H.size vM x3 x1 y2 hy2) (cwV 2 hts gX4_plates_X4_isSo rfl rfl rfl (by decide +kernel) ⟨Nat.le_of_ble_eq_true rfl, Nat.le_of_ble_eq_true rfl⟩) ⟨cFB, va_recv hK hP (ci := 4) (q0 := 0) rfl rfl, cPre hK hN hS (va_free (wc := [k4_0 aM vM, k4_1 cI aM vM, k4_2 cI aM vM, k4_3 cI aM vM, k4_4 cI aM vM, k4_5 cJ aM vM, k4_6 cI aM vM, k4_7 cJ aM vM, k4_8 cJ aM vM, k4_9 cI aM vM]) hD hS hA [0, 1, 2, 3, 4, 5, 6, 7, 8, 9] rfl) (hP.sub [0, 1, 2, 3, 4, 5, 6, 7, 8, 9] rfl) (hD.sub [0, 1, 2, 3, 4, 5, 6, 7, 8, 9] rfl rfl)⟩ rfl rfl hl.1 rfl (lv_room (Nat.le_of_ble_eq_true rfl)) dX4_plates_34 ⟨Nat.le_of_ble_eq_true rfl, Nat.le_of_ble_eq_true rfl⟩) [0, 1, 2, 3, 4, 5, 6, 7, 8, 9] [] [0, 1, 2, 3, 4, 5, 6, 7, 8, 9] rfl rfl rfl (by decide +kernel) rfl rfl (fun H locs hP hD hS => ?_)
        refine lv_if_eq (tgt := 46) hx hb dX4_plates_37 (by decide) (fun c3 => ?_) (fun c3 => ?_)
        · have hf := oif_t c3 hf
          refine lv_iconst (v := 0) hx hb dX4_plates_46 (by decide) ?_
          exact (hWW _ _ _ _ _ _ _).1 (J47 k20 hk20 vM x1 x3 x2 (0 : Int32) H locs ls hP hD hS (lv_sub hl [0, 1, 3] rfl) hf)
        · have hf := oif_f c3 hf
          refine lv_iconst (v := 1) hx hb dX4_plates_40 (by decide) ?_
          refine lv_iload_n hx hb dX4_plates_41 rfl (lv_at hl 3 rfl) ?_
          refine lv_ishl hx hb dX4_plates_42 ?_
          refine lv_goto (tgt := 47) hx hb dX4_plates_43 (by decide) ?_
          exact (hWW _ _ _ _ _ _ _).1 (J47 k20 hk20 vM x1 x3 x2 ((1 : Int32) <<< (x3 &&& 31)) H locs ls hP hD hS (lv_sub hl [0, 1, 3] rfl) hf)
  refine (hWW _ _ _ _ _ _ _).2 ?_
  unfold fX4_plates at hf
  refine lv_iload_n hx hb dX4_plates_0 rfl (lv_at hl 1 rfl) ?_
  refine lv_iconst (v := 0) hx hb dX4_plates_1 (by decide) ?_
  refine lv_iconst (v := 4) hx hb dX4_plates_2 (by decide) ?_
  obtain ⟨y6, hy6, hf⟩ := obind hf
  refine cg_i (ws := [k4_0 aM vM, k4_1 cI aM vM, k4_2 cI aM vM, k4_3 cI aM vM, k4_4 cI aM vM, k4_5 cJ aM vM, k4_6 cI aM vM, k4_7 cJ aM vM, k4_8 cJ aM vM, k4_9 cI aM vM]) (wc := []) (wr := [k4_0 aM vM, k4_1 cI aM vM, k4_2 cI aM vM, k4_3 cI aM vM, k4_4 cI aM vM, k4_5 cJ aM vM, k4_6 cI aM vM, k4_7 cJ aM vM, k4_8 cJ aM vM, k4_9 cI aM vM]) (w1 := []) (wo := [k4_0 aM vM, k4_1 cI aM vM, k4_2 cI aM vM, k4_3 cI aM vM, k4_4 cI aM vM, k4_5 cJ aM vM, k4_6 cI aM vM, k4_7 cJ aM vM, k4_8 cJ aM vM, k4_9 cI aM vM]) hP hD hS hA (va_runS (As := [.int i1, .int 0, .int 4]) (rest := []) ⟨hx, hb, hml, hown, hts⟩ (mX4_in l dC dI cI cJ  H.size i1 (0 : Int32) (4 : Int32) y6 hy6) (va_cwS 3 hts gX4_plates_X4_in rfl rfl rfl (by decide +kernel) ⟨Nat.le_of_ble_eq_true rfl, Nat.le_of_ble_eq_true rfl⟩) ⟨cFB, cPre hK hN hS (va_free (wc := []) hD hS hA [] rfl) (hP.sub [] rfl) (hD.sub [] rfl rfl)⟩ rfl rfl hl.1 rfl (lv_room (Nat.le_of_ble_eq_true rfl)) dX4_plates_3 ⟨Nat.le_of_ble_eq_true rfl, Nat.le_of_ble_eq_true rfl⟩) [] [0, 1, 2, 3, 4, 5, 6, 7, 8, 9] [0, 1, 2, 3, 4, 5, 6, 7, 8, 9] rfl rfl rfl (by decide +kernel) rfl rfl (fun H locs hP hD hS => ?_)
  refine lv_if_ne (tgt := 12) hx hb dX4_plates_6 (by decide) (fun c7 => ?_) (fun c7 => ?_)
  · have hf := oif_f c7 hf
    refine lv_aload_n hx hb dX4_plates_12 rfl (lv_at hl 0 rfl) ?_
    obtain ⟨y8, hy8, hf⟩ := obind hf
    refine cg_v (ws := [k4_0 aM vM, k4_1 cI aM vM, k4_2 cI aM vM, k4_3 cI aM vM, k4_4 cI aM vM, k4_5 cJ aM vM, k4_6 cI aM vM, k4_7 cJ aM vM, k4_8 cJ aM vM, k4_9 cI aM vM]) (wc := [k4_0 aM vM, k4_1 cI aM vM, k4_2 cI aM vM, k4_3 cI aM vM, k4_4 cI aM vM, k4_5 cJ aM vM, k4_6 cI aM vM, k4_7 cJ aM vM, k4_8 cJ aM vM, k4_9 cI aM vM]) (wr := []) (w1 := [k4_0 aM y8, k4_1 cI aM y8, k4_2 cI aM y8, k4_3 cI aM y8, k4_4 cI aM y8, k4_5 cJ aM y8, k4_6 cI aM y8, k4_7 cJ aM y8, k4_8 cJ aM y8, k4_9 cI aM y8]) (wo := [k4_0 aM y8, k4_1 cI aM y8, k4_2 cI aM y8, k4_3 cI aM y8, k4_4 cI aM y8, k4_5 cJ aM y8, k4_6 cI aM y8, k4_7 cJ aM y8, k4_8 cJ aM y8, k4_9 cI aM y8]) hP hD hS hA (va_runV (As := []) (rest := []) ⟨hx, hb, hml, hown, hts⟩ (mX4_rests l dC dI cI cJ aM H.size vM y8 hy8) (cwV 0 hts gX4_plates_X4_rests rfl rfl rfl (by decide +kernel) ⟨Nat.le_of_ble_eq_true rfl, Nat.le_of_ble_eq_true rfl⟩) ⟨cFB, va_recv hK hP (ci := 4) (q0 := 0) rfl rfl, cPre hK hN hS (va_free (wc := [k4_0 aM vM, k4_1 cI aM vM, k4_2 cI aM vM, k4_3 cI aM vM, k4_4 cI aM vM, k4_5 cJ aM vM, k4_6 cI aM vM, k4_7 cJ aM vM, k4_8 cJ aM vM, k4_9 cI aM vM]) hD hS hA [0, 1, 2, 3, 4, 5, 6, 7, 8, 9] rfl) (hP.sub [0, 1, 2, 3, 4, 5, 6, 7, 8, 9] rfl) (hD.sub [0, 1, 2, 3, 4, 5, 6, 7, 8, 9] rfl rfl)⟩ rfl rfl hl.1 rfl (lv_room (Nat.le_of_ble_eq_true rfl)) dX4_plates_13 ⟨Nat.le_of_ble_eq_true rfl, Nat.le_of_ble_eq_true rfl⟩) [0, 1, 2, 3, 4, 5, 6, 7, 8, 9] [] [0, 1, 2, 3, 4, 5, 6, 7, 8, 9] rfl rfl rfl (by decide +kernel) rfl rfl (fun H locs hP hD hS => ?_)
    refine lv_iconst (v := 0) hx hb dX4_plates_16 (by decide) ?_
    refine lv_istore_n (lv' := [(2, .int 0), (0, .ref (aM 0)), (1, .int i1)]) hx hb dX4_plates_17 rfl hl (by decide) rfl (fun ls hl => ?_)
    refine lv_iconst (v := 0) hx hb dX4_plates_18 (by decide) ?_
    refine lv_istore_n (lv' := [(3, .int 0), (2, .int 0), (0, .ref (aM 0)), (1, .int i1)]) hx hb dX4_plates_19 rfl hl (by decide) rfl (fun ls hl => ?_)
    exact (hWW _ _ _ _ _ _ _).1 (L20 FU y8 i1 (0 : Int32) (0 : Int32) H locs ls hP hD hS (lv_sub hl [2, 3, 1, 0] rfl) hf)
  · have hf := oif_t c7 hf
    refine lv_ldc (v := (-1000001)) hx hb hown hc57 dX4_plates_9 ?_
    obtain rfl := Option.some.inj hf
    exact W.iret (v := (-1000001)) hx hb hr (fun t ht hW => ⟨⟨(-1000001), (), rfl, rfl, by rw [ht]; exact hP, hD⟩, hS.F ht⟩) hS.2.2 dX4_plates_11
def fX4_without (vM : BX4) (i1 : Int32) (i2 : Int32) (i3 : Int32) (i4 : Int32) : Option (Int32 × BX4) :=
  (fX4_isPlate vM i1).bind (fun y1 => if y1 = 0 then (some ((-1000001), vM)) else ((fX4_in i2 (0 : Int32) (1 : Int32)).bind (fun y3 => if y3 = 0 then (some ((-1000001), vM)) else ((fX4_isPlate vM i3).bind (fun y5 => if y5 = 0 then (some ((-1000001), vM)) else ((fX4_in i4 (0 : Int32) (1 : Int32)).bind (fun y7 => if y7 = 0 then (some ((-1000001), vM)) else ((fX4_stopAt vM i1 i2).bind (fun y9 => if inB y9 24 = true then (elet ((p4_s vM) (y9).toNatClampNeg) (fun z11 => if 0 ≤ z11 then (if inB y9 24 = true then (elet (s4_s vM (upd (p4_s vM) (y9).toNatClampNeg (-1))) (fun b14 => (fX4_rests b14).bind (fun y15 => if inB y9 24 = true then (elet (s4_s y15 (upd (p4_s y15) (y9).toNatClampNeg z11)) (fun b17 => if inB i3 4 = true then ((fX4_part ((p4_upper b17) (i3).toNatClampNeg) (p4_lower b17) i4 (0 : Int32)).bind (fun y19 => some (y19, b17))) else none)) else none))) else none) else (some ((-1000002), vM)))) else none)))))))))
set_option maxHeartbeats 8000000 in
set_option maxRecDepth 100000 in
theorem mX4_without (l : Launch) (dC : Nat → ClassId) (dI : Nat → Nat → Nat) (cI cJ : ClassId) (aM : Nat → Nat) (sz : Nat) (vM : BX4) (i1 : Int32) (i2 : Int32) (i3 : Int32) (i4 : Int32) (y : (Int32 × BX4)) (hf : fX4_without vM i1 i2 i3 i4 = some y) : Met l yX4_without wsX4_without ({ frames := 5, cells := 0, slots := 0, locals := 114 }) (cPc dC dI cI cJ [.ref (aM 0), .int i1, .int i2, .int i3, .int i4] [k4_0 aM vM, k4_1 cI aM vM, k4_2 cI aM vM, k4_3 cI aM vM, k4_4 cI aM vM, k4_5 cJ aM vM, k4_6 cI aM vM, k4_7 cJ aM vM, k4_8 cJ aM vM, k4_9 cI aM vM] sz) (va_Qi (fun r (_ : Unit) => r = y.1) (fun _ t => cB dC dI (va_A [k4_0 aM vM, k4_1 cI aM vM, k4_2 cI aM vM, k4_3 cI aM vM, k4_4 cI aM vM, k4_5 cJ aM vM, k4_6 cI aM vM, k4_7 cJ aM vM, k4_8 cJ aM vM, k4_9 cI aM vM] sz) [k4_0 aM y.2, k4_1 cI aM y.2, k4_2 cI aM y.2, k4_3 cI aM y.2, k4_4 cI aM y.2, k4_5 cJ aM y.2, k4_6 cI aM y.2, k4_7 cJ aM y.2, k4_8 cJ aM y.2, k4_9 cI aM y.2] t) (va_A [k4_0 aM vM, k4_1 cI aM vM, k4_2 cI aM vM, k4_3 cI aM vM, k4_4 cI aM vM, k4_5 cJ aM vM, k4_6 cI aM vM, k4_7 cJ aM vM, k4_8 cJ aM vM, k4_9 cI aM vM] sz)) 0 0 (va_A [k4_0 aM vM, k4_1 cI aM vM, k4_2 cI aM vM, k4_3 cI aM vM, k4_4 cI aM vM, k4_5 cJ aM vM, k4_6 cI aM vM, k4_7 cJ aM vM, k4_8 cJ aM vM, k4_9 cI aM vM] sz) := by
  refine Met.ofW (cc := cX4_without) (maxL := 7) (ret := (some .int)) (by decide) rfl ?_
  intro p e s m args below meth c s₁ B hml hv
  obtain ⟨rfl, hsz, hP, hK, hD0, hN⟩ := hv
  have hx := B.exec
  have hb := B.bytes
  have hr := B.returns
  have hts := atoms_spec (ws := wsX4_without) B.pre
  have hown : s.vm.findClass RX4 = some m.cls := findClass_of_methodNamed B.named
  have hlocks := B.notSynchronized
  subst hsz
  have hD := hD0.self (sz := s.heap.size)
  generalize hAe : va_A [k4_0 aM vM, k4_1 cI aM vM, k4_2 cI aM vM, k4_3 cI aM vM, k4_4 cI aM vM, k4_5 cJ aM vM, k4_6 cI aM vM, k4_7 cJ aM vM, k4_8 cJ aM vM, k4_9 cI aM vM] s.heap.size = A at hD hN ⊢
  have hA : ∀ q : Nat, s.heap.size ≤ q → A q := fun q h => by rw [← hAe]; exact Or.inr h
  have hP : va_P (dC, dI) vwCl [k4_0 aM vM, k4_1 cI aM vM, k4_2 cI aM vM, k4_3 cI aM vM, k4_4 cI aM vM, k4_5 cJ aM vM, k4_6 cI aM vM, k4_7 cJ aM vM, k4_8 cJ aM vM, k4_9 cI aM vM] s.heap := hP
  have hl := lv_entry ([.ref (aM 0), .int i1, .int i2, .int i3, .int i4]) (n := 7) (Nat.le_of_ble_eq_true rfl)
  rw [lg_entry_eq]
  generalize (lg_sl ([.ref (aM 0), .int i1, .int i2, .int i3, .int i4]) ++ List.replicate (7 - (lg_sl ([.ref (aM 0), .int i1, .int i2, .int i3, .int i4])).length) Slot.unset).toArray = ls at hl ⊢
  have hl : lv_has ls 7 [(0, .ref (aM 0)), (1, .int i1), (2, .int i2), (3, .int i3), (4, .int i4)] := hl
  have hc57 := hts (.constant RX4 57 (-1000001)) (by decide +kernel)
  have hiX4 : ∀ w ∈ u_ws RX4 TX4 21, w ∈ wsX4_without := by decide +kernel
  have hgX4_7 := hts (.fieldLink RX4 7 "SpringPlatesModel" "s" "[I") (by decide +kernel)
  have hgX4_22 := hts (.fieldLink RX4 22 "SpringPlatesModel" "upper" "[J") (by decide +kernel)
  have hgX4_79 := hts (.fieldLink RX4 79 "SpringPlatesModel" "lower" "J") (by decide +kernel)
  have hc58 := hts (.constant RX4 58 (-1000002)) (by decide +kernel)
  refine nameH (fun H locs hHe hLe => ?_)
  have hP : va_P (dC, dI) vwCl [k4_0 aM vM, k4_1 cI aM vM, k4_2 cI aM vM, k4_3 cI aM vM, k4_4 cI aM vM, k4_5 cJ aM vM, k4_6 cI aM vM, k4_7 cJ aM vM, k4_8 cJ aM vM, k4_9 cI aM vM] H := by rw [hHe]; exact hP
  have hS : va_S A s.heap H locs := by rw [hHe, hLe]; exact va_S.rf
  unfold fX4_without at hf
  refine lv_aload_n hx hb dX4_without_0 rfl (lv_at hl 0 rfl) ?_
  refine lv_iload_n hx hb dX4_without_1 rfl (lv_at hl 1 rfl) ?_
  obtain ⟨y1, hy1, hf⟩ := obind hf
  refine cg_i (ws := [k4_0 aM vM, k4_1 cI aM vM, k4_2 cI aM vM, k4_3 cI aM vM, k4_4 cI aM vM, k4_5 cJ aM vM, k4_6 cI aM vM, k4_7 cJ aM vM, k4_8 cJ aM vM, k4_9 cI aM vM]) (wc := [k4_0 aM vM, k4_1 cI aM vM, k4_2 cI aM vM, k4_3 cI aM vM, k4_4 cI aM vM, k4_5 cJ aM vM, k4_6 cI aM vM, k4_7 cJ aM vM, k4_8 cJ aM vM, k4_9 cI aM vM]) (wr := []) (w1 := [k4_0 aM vM, k4_1 cI aM vM, k4_2 cI aM vM, k4_3 cI aM vM, k4_4 cI aM vM, k4_5 cJ aM vM, k4_6 cI aM vM, k4_7 cJ aM vM, k4_8 cJ aM vM, k4_9 cI aM vM]) (wo := [k4_0 aM vM, k4_1 cI aM vM, k4_2 cI aM vM, k4_3 cI aM vM, k4_4 cI aM vM, k4_5 cJ aM vM, k4_6 cI aM vM, k4_7 cJ aM vM, k4_8 cJ aM vM, k4_9 cI aM vM]) hP hD hS hA (va_runV (As := [.int i1]) (rest := []) ⟨hx, hb, hml, hown, hts⟩ (mX4_isPlate l dC dI cI cJ aM H.size vM i1 y1 hy1) (cwV 1 hts gX4_without_X4_isPlate rfl rfl rfl (by decide +kernel) ⟨Nat.le_of_ble_eq_true rfl, Nat.le_of_ble_eq_true rfl⟩) ⟨cFB, va_recv hK hP (ci := 4) (q0 := 0) rfl rfl, cPre hK hN hS (va_free (wc := [k4_0 aM vM, k4_1 cI aM vM, k4_2 cI aM vM, k4_3 cI aM vM, k4_4 cI aM vM, k4_5 cJ aM vM, k4_6 cI aM vM, k4_7 cJ aM vM, k4_8 cJ aM vM, k4_9 cI aM vM]) hD hS hA [0, 1, 2, 3, 4, 5, 6, 7, 8, 9] rfl) (hP.sub [0, 1, 2, 3, 4, 5, 6, 7, 8, 9] rfl) (hD.sub [0, 1, 2, 3, 4, 5, 6, 7, 8, 9] rfl rfl)⟩ rfl rfl hl.1 rfl (lv_room (Nat.le_of_ble_eq_true rfl)) dX4_without_2 ⟨Nat.le_of_ble_eq_true rfl, Nat.le_of_ble_eq_true rfl⟩) [0, 1, 2, 3, 4, 5, 6, 7, 8, 9] [] [0, 1, 2, 3, 4, 5, 6, 7, 8, 9] rfl rfl rfl (by decide +kernel) rfl rfl (fun H locs hP hD hS => ?_)
  refine lv_if_eq (tgt := 35) hx hb dX4_without_5 (by decide) (fun c2 => ?_) (fun c2 => ?_)
  · have hf := oif_t c2 hf
    refine lv_ldc (v := (-1000001)) hx hb hown hc57 dX4_without_35 ?_
    obtain rfl := Option.some.inj hf
    exact W.iret (v := (-1000001)) hx hb hr (fun t ht hW => ⟨⟨(-1000001), (), rfl, rfl, by rw [ht]; exact hP, hD⟩, hS.F ht⟩) hS.2.2 dX4_without_37
  · have hf := oif_f c2 hf
    refine lv_iload_n hx hb dX4_without_8 rfl (lv_at hl 2 rfl) ?_
    refine lv_iconst (v := 0) hx hb dX4_without_9 (by decide) ?_
    refine lv_iconst (v := 1) hx hb dX4_without_10 (by decide) ?_
    obtain ⟨y3, hy3, hf⟩ := obind hf
    refine cg_i (ws := [k4_0 aM vM, k4_1 cI aM vM, k4_2 cI aM vM, k4_3 cI aM vM, k4_4 cI aM vM, k4_5 cJ aM vM, k4_6 cI aM vM, k4_7 cJ aM vM, k4_8 cJ aM vM, k4_9 cI aM vM]) (wc := []) (wr := [k4_0 aM vM, k4_1 cI aM vM, k4_2 cI aM vM, k4_3 cI aM vM, k4_4 cI aM vM, k4_5 cJ aM vM, k4_6 cI aM vM, k4_7 cJ aM vM, k4_8 cJ aM vM, k4_9 cI aM vM]) (w1 := []) (wo := [k4_0 aM vM, k4_1 cI aM vM, k4_2 cI aM vM, k4_3 cI aM vM, k4_4 cI aM vM, k4_5 cJ aM vM, k4_6 cI aM vM, k4_7 cJ aM vM, k4_8 cJ aM vM, k4_9 cI aM vM]) hP hD hS hA (va_runS (As := [.int i2, .int 0, .int 1]) (rest := []) ⟨hx, hb, hml, hown, hts⟩ (mX4_in l dC dI cI cJ  H.size i2 (0 : Int32) (1 : Int32) y3 hy3) (va_cwS 3 hts gX4_without_X4_in rfl rfl rfl (by decide +kernel) ⟨Nat.le_of_ble_eq_true rfl, Nat.le_of_ble_eq_true rfl⟩) ⟨cFB, cPre hK hN hS (va_free (wc := []) hD hS hA [] rfl) (hP.sub [] rfl) (hD.sub [] rfl rfl)⟩ rfl rfl hl.1 rfl (lv_room (Nat.le_of_ble_eq_true rfl)) dX4_without_11 ⟨Nat.le_of_ble_eq_true rfl, Nat.le_of_ble_eq_true rfl⟩) [] [0, 1, 2, 3, 4, 5, 6, 7, 8, 9] [0, 1, 2, 3, 4, 5, 6, 7, 8, 9] rfl rfl rfl (by decide +kernel) rfl rfl (fun H locs hP hD hS => ?_)
    refine lv_if_eq (tgt := 35) hx hb dX4_without_14 (by decide) (fun c4 => ?_) (fun c4 => ?_)
    · have hf := oif_t c4 hf
      refine lv_ldc (v := (-1000001)) hx hb hown hc57 dX4_without_35 ?_
      obtain rfl := Option.some.inj hf
      exact W.iret (v := (-1000001)) hx hb hr (fun t ht hW => ⟨⟨(-1000001), (), rfl, rfl, by rw [ht]; exact hP, hD⟩, hS.F ht⟩) hS.2.2 dX4_without_37
    · have hf := oif_f c4 hf
      refine lv_aload_n hx hb dX4_without_17 rfl (lv_at hl 0 rfl) ?_
      refine lv_iload_n hx hb dX4_without_18 rfl (lv_at hl 3 rfl) ?_
      obtain ⟨y5, hy5, hf⟩ := obind hf
      refine cg_i (ws := [k4_0 aM vM, k4_1 cI aM vM, k4_2 cI aM vM, k4_3 cI aM vM, k4_4 cI aM vM, k4_5 cJ aM vM, k4_6 cI aM vM, k4_7 cJ aM vM, k4_8 cJ aM vM, k4_9 cI aM vM]) (wc := [k4_0 aM vM, k4_1 cI aM vM, k4_2 cI aM vM, k4_3 cI aM vM, k4_4 cI aM vM, k4_5 cJ aM vM, k4_6 cI aM vM, k4_7 cJ aM vM, k4_8 cJ aM vM, k4_9 cI aM vM]) (wr := []) (w1 := [k4_0 aM vM, k4_1 cI aM vM, k4_2 cI aM vM, k4_3 cI aM vM, k4_4 cI aM vM, k4_5 cJ aM vM, k4_6 cI aM vM, k4_7 cJ aM vM, k4_8 cJ aM vM, k4_9 cI aM vM]) (wo := [k4_0 aM vM, k4_1 cI aM vM, k4_2 cI aM vM, k4_3 cI aM vM, k4_4 cI aM vM, k4_5 cJ aM vM, k4_6 cI aM vM, k4_7 cJ aM vM, k4_8 cJ aM vM, k4_9 cI aM vM]) hP hD hS hA (va_runV (As := [.int i3]) (rest := []) ⟨hx, hb, hml, hown, hts⟩ (mX4_isPlate l dC dI cI cJ aM H.size vM i3 y5 hy5) (cwV 1 hts gX4_without_X4_isPlate rfl rfl rfl (by decide +kernel) ⟨Nat.le_of_ble_eq_true rfl, Nat.le_of_ble_eq_true rfl⟩) ⟨cFB, va_recv hK hP (ci := 4) (q0 := 0) rfl rfl, cPre hK hN hS (va_free (wc := [k4_0 aM vM, k4_1 cI aM vM, k4_2 cI aM vM, k4_3 cI aM vM, k4_4 cI aM vM, k4_5 cJ aM vM, k4_6 cI aM vM, k4_7 cJ aM vM, k4_8 cJ aM vM, k4_9 cI aM vM]) hD hS hA [0, 1, 2, 3, 4, 5, 6, 7, 8, 9] rfl) (hP.sub [0, 1, 2, 3, 4, 5, 6, 7, 8, 9] rfl) (hD.sub [0, 1, 2, 3, 4, 5, 6, 7, 8, 9] rfl rfl)⟩ rfl rfl hl.1 rfl (lv_room (Nat.le_of_ble_eq_true rfl)) dX4_without_19 ⟨Nat.le_of_ble_eq_true rfl, Nat.le_of_ble_eq_true rfl⟩) [0, 1, 2, 3, 4, 5, 6, 7, 8, 9] [] [0, 1, 2, 3, 4, 5, 6, 7, 8, 9] rfl rfl rfl (by decide +kernel) rfl rfl (fun H locs hP hD hS => ?_)
      refine lv_if_eq (tgt := 35) hx hb dX4_without_22 (by decide) (fun c6 => ?_) (fun c6 => ?_)
      · have hf := oif_t c6 hf
        refine lv_ldc (v := (-1000001)) hx hb hown hc57 dX4_without_35 ?_
        obtain rfl := Option.some.inj hf
        exact W.iret (v := (-1000001)) hx hb hr (fun t ht hW => ⟨⟨(-1000001), (), rfl, rfl, by rw [ht]; exact hP, hD⟩, hS.F ht⟩) hS.2.2 dX4_without_37
      · have hf := oif_f c6 hf
        refine lv_iload hx hb dX4_without_25 (lv_at hl 4 rfl) ?_
        refine lv_iconst (v := 0) hx hb dX4_without_27 (by decide) ?_
        refine lv_iconst (v := 1) hx hb dX4_without_28 (by decide) ?_
        obtain ⟨y7, hy7, hf⟩ := obind hf
        refine cg_i (ws := [k4_0 aM vM, k4_1 cI aM vM, k4_2 cI aM vM, k4_3 cI aM vM, k4_4 cI aM vM, k4_5 cJ aM vM, k4_6 cI aM vM, k4_7 cJ aM vM, k4_8 cJ aM vM, k4_9 cI aM vM]) (wc := []) (wr := [k4_0 aM vM, k4_1 cI aM vM, k4_2 cI aM vM, k4_3 cI aM vM, k4_4 cI aM vM, k4_5 cJ aM vM, k4_6 cI aM vM, k4_7 cJ aM vM, k4_8 cJ aM vM, k4_9 cI aM vM]) (w1 := []) (wo := [k4_0 aM vM, k4_1 cI aM vM, k4_2 cI aM vM, k4_3 cI aM vM, k4_4 cI aM vM, k4_5 cJ aM vM, k4_6 cI aM vM, k4_7 cJ aM vM, k4_8 cJ aM vM, k4_9 cI aM vM]) hP hD hS hA (va_runS (As := [.int i4, .int 0, .int 1]) (rest := []) ⟨hx, hb, hml, hown, hts⟩ (mX4_in l dC dI cI cJ  H.size i4 (0 : Int32) (1 : Int32) y7 hy7) (va_cwS 3 hts gX4_without_X4_in rfl rfl rfl (by decide +kernel) ⟨Nat.le_of_ble_eq_true rfl, Nat.le_of_ble_eq_true rfl⟩) ⟨cFB, cPre hK hN hS (va_free (wc := []) hD hS hA [] rfl) (hP.sub [] rfl) (hD.sub [] rfl rfl)⟩ rfl rfl hl.1 rfl (lv_room (Nat.le_of_ble_eq_true rfl)) dX4_without_29 ⟨Nat.le_of_ble_eq_true rfl, Nat.le_of_ble_eq_true rfl⟩) [] [0, 1, 2, 3, 4, 5, 6, 7, 8, 9] [0, 1, 2, 3, 4, 5, 6, 7, 8, 9] rfl rfl rfl (by decide +kernel) rfl rfl (fun H locs hP hD hS => ?_)
        refine lv_if_ne (tgt := 38) hx hb dX4_without_32 (by decide) (fun c8 => ?_) (fun c8 => ?_)
        · have hf := oif_f c8 hf
          refine lv_aload_n hx hb dX4_without_38 rfl (lv_at hl 0 rfl) ?_
          refine lv_iload_n hx hb dX4_without_39 rfl (lv_at hl 1 rfl) ?_
          refine lv_iload_n hx hb dX4_without_40 rfl (lv_at hl 2 rfl) ?_
          obtain ⟨y9, hy9, hf⟩ := obind hf
          refine cg_i (ws := [k4_0 aM vM, k4_1 cI aM vM, k4_2 cI aM vM, k4_3 cI aM vM, k4_4 cI aM vM, k4_5 cJ aM vM, k4_6 cI aM vM, k4_7 cJ aM vM, k4_8 cJ aM vM, k4_9 cI aM vM]) (wc := [k4_0 aM vM, k4_1 cI aM vM, k4_2 cI aM vM, k4_3 cI aM vM, k4_4 cI aM vM, k4_5 cJ aM vM, k4_6 cI aM vM, k4_7 cJ aM vM, k4_8 cJ aM vM, k4_9 cI aM vM]) (wr := []) (w1 := [k4_0 aM vM, k4_1 cI aM vM, k4_2 cI aM vM, k4_3 cI aM vM, k4_4 cI aM vM, k4_5 cJ aM vM, k4_6 cI aM vM, k4_7 cJ aM vM, k4_8 cJ aM vM, k4_9 cI aM vM]) (wo := [k4_0 aM vM, k4_1 cI aM vM, k4_2 cI aM vM, k4_3 cI aM vM, k4_4 cI aM vM, k4_5 cJ aM vM, k4_6 cI aM vM, k4_7 cJ aM vM, k4_8 cJ aM vM, k4_9 cI aM vM]) hP hD hS hA (va_runV (As := [.int i1, .int i2]) (rest := []) ⟨hx, hb, hml, hown, hts⟩ (mX4_stopAt l dC dI cI cJ aM H.size vM i1 i2 y9 hy9) (cwV 2 hts gX4_without_X4_stopAt rfl rfl rfl (by decide +kernel) ⟨Nat.le_of_ble_eq_true rfl, Nat.le_of_ble_eq_true rfl⟩) ⟨cFB, va_recv hK hP (ci := 4) (q0 := 0) rfl rfl, cPre hK hN hS (va_free (wc := [k4_0 aM vM, k4_1 cI aM vM, k4_2 cI aM vM, k4_3 cI aM vM, k4_4 cI aM vM, k4_5 cJ aM vM, k4_6 cI aM vM, k4_7 cJ aM vM, k4_8 cJ aM vM, k4_9 cI aM vM]) hD hS hA [0, 1, 2, 3, 4, 5, 6, 7, 8, 9] rfl) (hP.sub [0, 1, 2, 3, 4, 5, 6, 7, 8, 9] rfl) (hD.sub [0, 1, 2, 3, 4, 5, 6, 7, 8, 9] rfl rfl)⟩ rfl rfl hl.1 rfl (lv_room (Nat.le_of_ble_eq_true rfl)) dX4_without_41 ⟨Nat.le_of_ble_eq_true rfl, Nat.le_of_ble_eq_true rfl⟩) [0, 1, 2, 3, 4, 5, 6, 7, 8, 9] [] [0, 1, 2, 3, 4, 5, 6, 7, 8, 9] rfl rfl rfl (by decide +kernel) rfl rfl (fun H locs hP hD hS => ?_)
          refine lv_istore (lv' := [(5, .int y9), (0, .ref (aM 0)), (1, .int i1), (2, .int i2), (3, .int i3), (4, .int i4)]) hx hb dX4_without_44 hl (by decide) rfl (fun ls hl => ?_)
          refine lv_aload_n hx hb dX4_without_46 rfl (lv_at hl 1 rfl) ?_
          refine va_get (D := (dC, dI)) (ci := 4) (v := .ref (aM 1)) (C := RX4) (T := TX4) (N := 21) hx hb hts hiX4 hown hK hP 0 rfl rfl 0 (by decide) hgX4_7 (fun _ h9 => h9) rfl dX4_without_47 ?_
          refine lv_iload hx hb dX4_without_50 (lv_at hl 0 rfl) ?_
          obtain ⟨hi10, hf⟩ := oinb rfl hf
          refine va_iald hx hb hK hP 1 0 rfl rfl hi10 dX4_without_52 ?_
          obtain ⟨z11, ez11, hf⟩ := elet_out hf
          refine lvn_i ez11 ?_
          refine lv_istore (lv' := [(6, .int z11), (5, .int y9), (0, .ref (aM 0)), (1, .int i1), (2, .int i2), (3, .int i3), (4, .int i4)]) hx hb dX4_without_53 hl (by decide) rfl (fun ls hl => ?_)
          refine lv_iload hx hb dX4_without_55 (lv_at hl 0 rfl) ?_
          refine lv_if_ge (tgt := 63) hx hb dX4_without_57 (by decide) (fun c12 => ?_) (fun c12 => ?_)
          · have hf := oif_t c12 hf
            refine lv_aload_n hx hb dX4_without_63 rfl (lv_at hl 2 rfl) ?_
            refine va_get (D := (dC, dI)) (ci := 4) (v := .ref (aM 1)) (C := RX4) (T := TX4) (N := 21) hx hb hts hiX4 hown hK hP 0 rfl rfl 0 (by decide) hgX4_7 (fun _ h9 => h9) rfl dX4_without_64 ?_
            refine lv_iload hx hb dX4_without_67 (lv_at hl 1 rfl) ?_
            refine lv_iconst (v := (-1)) hx hb dX4_without_69 (by decide) ?_
            obtain ⟨hi13, hf⟩ := oinb rfl hf
            obtain ⟨b14, eb14, hf⟩ := elet_out hf
            refine va_iast hx hb hK hP hD hS 1 0 rfl rfl hi13 dX4_without_70 (fun H locs hP hD hS => ?_)
            have hP : va_P (dC, dI) vwCl [k4_0 aM b14, k4_1 cI aM b14, k4_2 cI aM b14, k4_3 cI aM b14, k4_4 cI aM b14, k4_5 cJ aM b14, k4_6 cI aM b14, k4_7 cJ aM b14, k4_8 cJ aM b14, k4_9 cI aM b14] H := by rw [eb14]; exact hP
            have hD : va_D A [k4_0 aM b14, k4_1 cI aM b14, k4_2 cI aM b14, k4_3 cI aM b14, k4_4 cI aM b14, k4_5 cJ aM b14, k4_6 cI aM b14, k4_7 cJ aM b14, k4_8 cJ aM b14, k4_9 cI aM b14] := by rw [eb14]; exact hD
            refine lv_aload_n hx hb dX4_without_71 rfl (lv_at hl 2 rfl) ?_
            obtain ⟨y15, hy15, hf⟩ := obind hf
            refine cg_v (ws := [k4_0 aM b14, k4_1 cI aM b14, k4_2 cI aM b14, k4_3 cI aM b14, k4_4 cI aM b14, k4_5 cJ aM b14, k4_6 cI aM b14, k4_7 cJ aM b14, k4_8 cJ aM b14, k4_9 cI aM b14]) (wc := [k4_0 aM b14, k4_1 cI aM b14, k4_2 cI aM b14, k4_3 cI aM b14, k4_4 cI aM b14, k4_5 cJ aM b14, k4_6 cI aM b14, k4_7 cJ aM b14, k4_8 cJ aM b14, k4_9 cI aM b14]) (wr := []) (w1 := [k4_0 aM y15, k4_1 cI aM y15, k4_2 cI aM y15, k4_3 cI aM y15, k4_4 cI aM y15, k4_5 cJ aM y15, k4_6 cI aM y15, k4_7 cJ aM y15, k4_8 cJ aM y15, k4_9 cI aM y15]) (wo := [k4_0 aM y15, k4_1 cI aM y15, k4_2 cI aM y15, k4_3 cI aM y15, k4_4 cI aM y15, k4_5 cJ aM y15, k4_6 cI aM y15, k4_7 cJ aM y15, k4_8 cJ aM y15, k4_9 cI aM y15]) hP hD hS hA (va_runV (As := []) (rest := []) ⟨hx, hb, hml, hown, hts⟩ (mX4_rests l dC dI cI cJ aM H.size b14 y15 hy15) (cwV 0 hts gX4_without_X4_rests rfl rfl rfl (by decide +kernel) ⟨Nat.le_of_ble_eq_true rfl, Nat.le_of_ble_eq_true rfl⟩) ⟨cFB, va_recv hK hP (ci := 4) (q0 := 0) rfl rfl, cPre hK hN hS (va_free (wc := [k4_0 aM b14, k4_1 cI aM b14, k4_2 cI aM b14, k4_3 cI aM b14, k4_4 cI aM b14, k4_5 cJ aM b14, k4_6 cI aM b14, k4_7 cJ aM b14, k4_8 cJ aM b14, k4_9 cI aM b14]) hD hS hA [0, 1, 2, 3, 4, 5, 6, 7, 8, 9] rfl) (hP.sub [0, 1, 2, 3, 4, 5, 6, 7, 8, 9] rfl) (hD.sub [0, 1, 2, 3, 4, 5, 6, 7, 8, 9] rfl rfl)⟩ rfl rfl hl.1 rfl (lv_room (Nat.le_of_ble_eq_true rfl)) dX4_without_72 ⟨Nat.le_of_ble_eq_true rfl, Nat.le_of_ble_eq_true rfl⟩) [0, 1, 2, 3, 4, 5, 6, 7, 8, 9] [] [0, 1, 2, 3, 4, 5, 6, 7, 8, 9] rfl rfl rfl (by decide +kernel) rfl rfl (fun H locs hP hD hS => ?_)
            refine lv_aload_n hx hb dX4_without_75 rfl (lv_at hl 2 rfl) ?_
            refine va_get (D := (dC, dI)) (ci := 4) (v := .ref (aM 1)) (C := RX4) (T := TX4) (N := 21) hx hb hts hiX4 hown hK hP 0 rfl rfl 0 (by decide) hgX4_7 (fun _ h9 => h9) rfl dX4_without_76 ?_
            refine lv_iload hx hb dX4_without_79 (lv_at hl 1 rfl) ?_
            refine lv_iload hx hb dX4_without_81 (lv_at hl 0 rfl) ?_
            obtain ⟨hi16, hf⟩ := oinb rfl hf
            obtain ⟨b17, eb17, hf⟩ := elet_out hf
            refine va_iast hx hb hK hP hD hS 1 0 rfl rfl hi16 dX4_without_83 (fun H locs hP hD hS => ?_)
            have hP : va_P (dC, dI) vwCl [k4_0 aM b17, k4_1 cI aM b17, k4_2 cI aM b17, k4_3 cI aM b17, k4_4 cI aM b17, k4_5 cJ aM b17, k4_6 cI aM b17, k4_7 cJ aM b17, k4_8 cJ aM b17, k4_9 cI aM b17] H := by rw [eb17]; exact hP
            have hD : va_D A [k4_0 aM b17, k4_1 cI aM b17, k4_2 cI aM b17, k4_3 cI aM b17, k4_4 cI aM b17, k4_5 cJ aM b17, k4_6 cI aM b17, k4_7 cJ aM b17, k4_8 cJ aM b17, k4_9 cI aM b17] := by rw [eb17]; exact hD
            refine lv_aload_n hx hb dX4_without_84 rfl (lv_at hl 2 rfl) ?_
            refine va_get (D := (dC, dI)) (ci := 4) (v := .ref (aM 5)) (C := RX4) (T := TX4) (N := 21) hx hb hts hiX4 hown hK hP 0 rfl rfl 7 (by decide) hgX4_22 (fun _ h9 => h9) rfl dX4_without_85 ?_
            refine lv_iload_n hx hb dX4_without_88 rfl (lv_at hl 5 rfl) ?_
            obtain ⟨hi18, hf⟩ := oinb rfl hf
            refine va_lald hx hb hK hP 5 1 rfl rfl hi18 dX4_without_89 ?_
            refine lv_aload_n hx hb dX4_without_90 rfl (lv_at hl 2 rfl) ?_
            refine va_get (D := (dC, dI)) (ci := 4) (v := .long (p4_lower b17)) (C := RX4) (T := TX4) (N := 21) hx hb hts hiX4 hown hK hP 0 rfl rfl 8 (by decide) hgX4_79 (fun _ h9 => h9) rfl dX4_without_91 ?_
            refine lv_iload hx hb dX4_without_94 (lv_at hl 6 rfl) ?_
            refine lv_iconst (v := 0) hx hb dX4_without_96 (by decide) ?_
            obtain ⟨y19, hy19, hf⟩ := obind hf
            refine cg_i (ws := [k4_0 aM b17, k4_1 cI aM b17, k4_2 cI aM b17, k4_3 cI aM b17, k4_4 cI aM b17, k4_5 cJ aM b17, k4_6 cI aM b17, k4_7 cJ aM b17, k4_8 cJ aM b17, k4_9 cI aM b17]) (wc := []) (wr := [k4_0 aM b17, k4_1 cI aM b17, k4_2 cI aM b17, k4_3 cI aM b17, k4_4 cI aM b17, k4_5 cJ aM b17, k4_6 cI aM b17, k4_7 cJ aM b17, k4_8 cJ aM b17, k4_9 cI aM b17]) (w1 := []) (wo := [k4_0 aM b17, k4_1 cI aM b17, k4_2 cI aM b17, k4_3 cI aM b17, k4_4 cI aM b17, k4_5 cJ aM b17, k4_6 cI aM b17, k4_7 cJ aM b17, k4_8 cJ aM b17, k4_9 cI aM b17]) hP hD hS hA (va_runS (As := [.long ((p4_upper b17) (i3).toNatClampNeg), .long (p4_lower b17), .int i4, .int 0]) (rest := []) ⟨hx, hb, hml, hown, hts⟩ (mX4_part l dC dI cI cJ  H.size ((p4_upper b17) (i3).toNatClampNeg) (p4_lower b17) i4 (0 : Int32) y19 hy19) (va_cwS 4 hts gX4_without_X4_part rfl rfl rfl (by decide +kernel) ⟨Nat.le_of_ble_eq_true rfl, Nat.le_of_ble_eq_true rfl⟩) ⟨cFB, cPre hK hN hS (va_free (wc := []) hD hS hA [] rfl) (hP.sub [] rfl) (hD.sub [] rfl rfl)⟩ rfl rfl hl.1 rfl (lv_room (Nat.le_of_ble_eq_true rfl)) dX4_without_97 ⟨Nat.le_of_ble_eq_true rfl, Nat.le_of_ble_eq_true rfl⟩) [] [0, 1, 2, 3, 4, 5, 6, 7, 8, 9] [0, 1, 2, 3, 4, 5, 6, 7, 8, 9] rfl rfl rfl (by decide +kernel) rfl rfl (fun H locs hP hD hS => ?_)
            obtain rfl := Option.some.inj hf
            exact W.iret (v := y19) hx hb hr (fun t ht hW => ⟨⟨y19, (), rfl, rfl, by rw [ht]; exact hP, hD⟩, hS.F ht⟩) hS.2.2 dX4_without_100
          · have hf := oif_f c12 hf
            refine lv_ldc (v := (-1000002)) hx hb hown hc58 dX4_without_60 ?_
            obtain rfl := Option.some.inj hf
            exact W.iret (v := (-1000002)) hx hb hr (fun t ht hW => ⟨⟨(-1000002), (), rfl, rfl, by rw [ht]; exact hP, hD⟩, hS.F ht⟩) hS.2.2 dX4_without_62
        · have hf := oif_t c8 hf
          refine lv_ldc (v := (-1000001)) hx hb hown hc57 dX4_without_35 ?_
          obtain rfl := Option.some.inj hf
          exact W.iret (v := (-1000001)) hx hb hr (fun t ht hW => ⟨⟨(-1000001), (), rfl, rfl, by rw [ht]; exact hP, hD⟩, hS.F ht⟩) hS.2.2 dX4_without_37
def fX4_leastLoad_94 (k39 : BX4 → Int32 → Int32 → Int32 → Int32 → Int32 → Option (Int32 × BX4)) (vM : BX4) (x1 : Int32) (x2 : Int32) (x3 : Int32) (x5 : Int32) (st0 : Int32) : Option (Int32 × BX4) :=
  elet (x5 + 1) (fun z8 => k39 vM x1 x2 x3 st0 z8)
def fX4_leastLoad_102 (vM : BX4) (x1 : Int32) (x3 : Int32) (x4 : Int32) : Option (Int32 × BX4) :=
  if inB ((12 : Int32) + x1) 24 = true then (elet (s4_s vM (upd (p4_s vM) (((12 : Int32) + x1)).toNatClampNeg x3)) (fun b10 => some (x4, b10))) else none
def fX4_leastLoad_39_b (k39 : BX4 → Int32 → Int32 → Int32 → Int32 → Int32 → Option (Int32 × BX4)) (vM : BX4) (x1 : Int32) (x2 : Int32) (x3 : Int32) (x4 : Int32) (x5 : Int32) : Option (Int32 × BX4) :=
  if (99 : Int32) < x5 then (fX4_leastLoad_102 vM x1 x3 x4) else (if 0 ≤ x4 then (fX4_leastLoad_102 vM x1 x3 x4) else (if inB ((12 : Int32) + x1) 24 = true then (elet (s4_s vM (upd (p4_s vM) (((12 : Int32) + x1)).toNatClampNeg x5)) (fun b4 => (fX4_rests b4).bind (fun y5 => if inB x1 4 = true then (if (lg_cmp ((p4_upper y5) (x1).toNatClampNeg) ((x2).toInt64 * (p4_lower y5))) < 0 then (fX4_leastLoad_94 k39 y5 x1 x2 x3 x5 (-1000004 : Int32)) else (fX4_leastLoad_94 k39 y5 x1 x2 x3 x5 (x5 + (1000 : Int32)))) else none))) else none))
def fX4_leastLoad_39 : Nat → BX4 → Int32 → Int32 → Int32 → Int32 → Int32 → Option (Int32 × BX4)
  | 0 => fun _ _ _ _ _ _ => none
  | n + 1 => fX4_leastLoad_39_b (fX4_leastLoad_39 n)
def fX4_leastLoad (vM : BX4) (i1 : Int32) (i2 : Int32) : Option (Int32 × BX4) :=
  (fX4_isPlate vM i1).bind (fun y11 => if y11 = 0 then (some ((-1000001), vM)) else ((fX4_in i2 (0 : Int32) (99 : Int32)).bind (fun y13 => if y13 = 0 then (some ((-1000001), vM)) else (if inB ((12 : Int32) + i1) 24 = true then (elet ((p4_s vM) (((12 : Int32) + i1)).toNatClampNeg) (fun z16 => fX4_leastLoad_39 FU vM i1 i2 z16 (-1000004 : Int32) (-99 : Int32))) else none))))
set_option maxHeartbeats 8000000 in
set_option maxRecDepth 100000 in
theorem mX4_leastLoad (l : Launch) (dC : Nat → ClassId) (dI : Nat → Nat → Nat) (cI cJ : ClassId) (aM : Nat → Nat) (sz : Nat) (vM : BX4) (i1 : Int32) (i2 : Int32) (y : (Int32 × BX4)) (hf : fX4_leastLoad vM i1 i2 = some y) : Met l yX4_leastLoad wsX4_leastLoad ({ frames := 5, cells := 0, slots := 0, locals := 114 }) (cPc dC dI cI cJ [.ref (aM 0), .int i1, .int i2] [k4_0 aM vM, k4_1 cI aM vM, k4_2 cI aM vM, k4_3 cI aM vM, k4_4 cI aM vM, k4_5 cJ aM vM, k4_6 cI aM vM, k4_7 cJ aM vM, k4_8 cJ aM vM, k4_9 cI aM vM] sz) (va_Qi (fun r (_ : Unit) => r = y.1) (fun _ t => cB dC dI (va_A [k4_0 aM vM, k4_1 cI aM vM, k4_2 cI aM vM, k4_3 cI aM vM, k4_4 cI aM vM, k4_5 cJ aM vM, k4_6 cI aM vM, k4_7 cJ aM vM, k4_8 cJ aM vM, k4_9 cI aM vM] sz) [k4_0 aM y.2, k4_1 cI aM y.2, k4_2 cI aM y.2, k4_3 cI aM y.2, k4_4 cI aM y.2, k4_5 cJ aM y.2, k4_6 cI aM y.2, k4_7 cJ aM y.2, k4_8 cJ aM y.2, k4_9 cI aM y.2] t) (va_A [k4_0 aM vM, k4_1 cI aM vM, k4_2 cI aM vM, k4_3 cI aM vM, k4_4 cI aM vM, k4_5 cJ aM vM, k4_6 cI aM vM, k4_7 cJ aM vM, k4_8 cJ aM vM, k4_9 cI aM vM] sz)) 0 0 (va_A [k4_0 aM vM, k4_1 cI aM vM, k4_2 cI aM vM, k4_3 cI aM vM, k4_4 cI aM vM, k4_5 cJ aM vM, k4_6 cI aM vM, k4_7 cJ aM vM, k4_8 cJ aM vM, k4_9 cI aM vM] sz) := by
  refine Met.ofW (cc := cX4_leastLoad) (maxL := 6) (ret := (some .int)) (by decide) rfl ?_
  intro p e s m args below meth c s₁ B hml hv
  obtain ⟨rfl, hsz, hP, hK, hD0, hN⟩ := hv
  have hx := B.exec
  have hb := B.bytes
  have hr := B.returns
  have hts := atoms_spec (ws := wsX4_leastLoad) B.pre
  have hown : s.vm.findClass RX4 = some m.cls := findClass_of_methodNamed B.named
  have hlocks := B.notSynchronized
  subst hsz
  have hD := hD0.self (sz := s.heap.size)
  generalize hAe : va_A [k4_0 aM vM, k4_1 cI aM vM, k4_2 cI aM vM, k4_3 cI aM vM, k4_4 cI aM vM, k4_5 cJ aM vM, k4_6 cI aM vM, k4_7 cJ aM vM, k4_8 cJ aM vM, k4_9 cI aM vM] s.heap.size = A at hD hN ⊢
  have hA : ∀ q : Nat, s.heap.size ≤ q → A q := fun q h => by rw [← hAe]; exact Or.inr h
  have hP : va_P (dC, dI) vwCl [k4_0 aM vM, k4_1 cI aM vM, k4_2 cI aM vM, k4_3 cI aM vM, k4_4 cI aM vM, k4_5 cJ aM vM, k4_6 cI aM vM, k4_7 cJ aM vM, k4_8 cJ aM vM, k4_9 cI aM vM] s.heap := hP
  have hl := lv_entry ([.ref (aM 0), .int i1, .int i2]) (n := 6) (Nat.le_of_ble_eq_true rfl)
  rw [lg_entry_eq]
  generalize (lg_sl ([.ref (aM 0), .int i1, .int i2]) ++ List.replicate (6 - (lg_sl ([.ref (aM 0), .int i1, .int i2])).length) Slot.unset).toArray = ls at hl ⊢
  have hl : lv_has ls 6 [(0, .ref (aM 0)), (1, .int i1), (2, .int i2)] := hl
  have hiX4 : ∀ w ∈ u_ws RX4 TX4 21, w ∈ wsX4_leastLoad := by decide +kernel
  have hgX4_7 := hts (.fieldLink RX4 7 "SpringPlatesModel" "s" "[I") (by decide +kernel)
  have hgX4_22 := hts (.fieldLink RX4 22 "SpringPlatesModel" "upper" "[J") (by decide +kernel)
  have hgX4_79 := hts (.fieldLink RX4 79 "SpringPlatesModel" "lower" "J") (by decide +kernel)
  have hc78 := hts (.constant RX4 78 (-1000004)) (by decide +kernel)
  have hc57 := hts (.constant RX4 57 (-1000001)) (by decide +kernel)
  refine nameH (fun H locs hHe hLe => ?_)
  have hP : va_P (dC, dI) vwCl [k4_0 aM vM, k4_1 cI aM vM, k4_2 cI aM vM, k4_3 cI aM vM, k4_4 cI aM vM, k4_5 cJ aM vM, k4_6 cI aM vM, k4_7 cJ aM vM, k4_8 cJ aM vM, k4_9 cI aM vM] H := by rw [hHe]; exact hP
  have hS : va_S A s.heap H locs := by rw [hHe, hLe]; exact va_S.rf
  refine withW (fun WW hWW => ?_)
  have J94 : ∀ (k39 : BX4 → Int32 → Int32 → Int32 → Int32 → Int32 → Option (Int32 × BX4)) (hk39 : ∀ (vM : BX4) (x1 : Int32) (x2 : Int32) (x3 : Int32) (x4 : Int32) (x5 : Int32) (H : Heap) (locs : List Loc) (ls : Array Slot), va_P (dC, dI) vwCl [k4_0 aM vM, k4_1 cI aM vM, k4_2 cI aM vM, k4_3 cI aM vM, k4_4 cI aM vM, k4_5 cJ aM vM, k4_6 cI aM vM, k4_7 cJ aM vM, k4_8 cJ aM vM, k4_9 cI aM vM] H → va_D A [k4_0 aM vM, k4_1 cI aM vM, k4_2 cI aM vM, k4_3 cI aM vM, k4_4 cI aM vM, k4_5 cJ aM vM, k4_6 cI aM vM, k4_7 cJ aM vM, k4_8 cJ aM vM, k4_9 cI aM vM] → va_S A s.heap H locs → lv_has ls 6 [(0, .ref (aM 0)), (1, .int x1), (2, .int x2), (3, .int x3), (4, .int x4), (5, .int x5)] → k39 vM x1 x2 x3 x4 x5 = some y → WW H locs 0 0 ls 39 []) (vM : BX4) (x1 : Int32) (x2 : Int32) (x3 : Int32) (x5 : Int32) (st0 : Int32) (H : Heap) (locs : List Loc) (ls : Array Slot), va_P (dC, dI) vwCl [k4_0 aM vM, k4_1 cI aM vM, k4_2 cI aM vM, k4_3 cI aM vM, k4_4 cI aM vM, k4_5 cJ aM vM, k4_6 cI aM vM, k4_7 cJ aM vM, k4_8 cJ aM vM, k4_9 cI aM vM] H → va_D A [k4_0 aM vM, k4_1 cI aM vM, k4_2 cI aM vM, k4_3 cI aM vM, k4_4 cI aM vM, k4_5 cJ aM vM, k4_6 cI aM vM, k4_7 cJ aM vM, k4_8 cJ aM vM, k4_9 cI aM vM] → va_S A s.heap H locs → lv_has ls 6 [(0, .ref (aM 0)), (1, .int x1), (2, .int x2), (3, .int x3), (5, .int x5)] → fX4_leastLoad_94 k39 vM x1 x2 x3 x5 st0 = some y → WW H locs 0 0 ls 94 [.int st0] := by
    intro k39 hk39 vM x1 x2 x3 x5 st0 H locs ls hP hD hS hl hf
    unfold fX4_leastLoad_94 at hf
    refine (hWW _ _ _ _ _ _ _).2 ?_
    refine lv_istore (lv' := [(4, .int st0), (0, .ref (aM 0)), (1, .int x1), (2, .int x2), (3, .int x3), (5, .int x5)]) hx hb dX4_leastLoad_94 hl (by decide) rfl (fun ls hl => ?_)
    obtain ⟨z8, ez8, hf⟩ := elet_out hf
    refine lv_iinc (v := z8) (lv' := [(5, .int z8), (4, .int st0), (0, .ref (aM 0)), (1, .int x1), (2, .int x2), (3, .int x3)]) hx hb dX4_leastLoad_96 hl (k := 5) rfl (by rw [ez8]; rfl) (by decide) rfl (fun ls hl => ?_)
    refine lv_goto (tgt := 39) hx hb dX4_leastLoad_99 (by decide) ?_
    exact (hWW _ _ _ _ _ _ _).1 (hk39 vM x1 x2 x3 st0 z8 H locs ls hP hD hS (lv_sub hl [2, 3, 4, 5, 1, 0] rfl) hf)
  have J102 : ∀ (vM : BX4) (x1 : Int32) (x3 : Int32) (x4 : Int32) (H : Heap) (locs : List Loc) (ls : Array Slot), va_P (dC, dI) vwCl [k4_0 aM vM, k4_1 cI aM vM, k4_2 cI aM vM, k4_3 cI aM vM, k4_4 cI aM vM, k4_5 cJ aM vM, k4_6 cI aM vM, k4_7 cJ aM vM, k4_8 cJ aM vM, k4_9 cI aM vM] H → va_D A [k4_0 aM vM, k4_1 cI aM vM, k4_2 cI aM vM, k4_3 cI aM vM, k4_4 cI aM vM, k4_5 cJ aM vM, k4_6 cI aM vM, k4_7 cJ aM vM, k4_8 cJ aM vM, k4_9 cI aM vM] → va_S A s.heap H locs → lv_has ls 6 [(0, .ref (aM 0)), (1, .int x1), (3, .int x3), (4, .int x4)] → fX4_leastLoad_102 vM x1 x3 x4 = some y → WW H locs 0 0 ls 102 [] := by
    intro vM x1 x3 x4 H locs ls hP hD hS hl hf
    unfold fX4_leastLoad_102 at hf
    refine (hWW _ _ _ _ _ _ _).2 ?_
    refine lv_aload_n hx hb dX4_leastLoad_102 rfl (lv_at hl 0 rfl) ?_
    refine va_get (D := (dC, dI)) (ci := 4) (v := .ref (aM 1)) (C := RX4) (T := TX4) (N := 21) hx hb hts hiX4 hown hK hP 0 rfl rfl 0 (by decide) hgX4_7 (fun _ h9 => h9) rfl dX4_leastLoad_103 ?_
    refine lv_bipush (v := 12) hx hb dX4_leastLoad_106 (by decide) ?_
    refine lv_iload_n hx hb dX4_leastLoad_108 rfl (lv_at hl 1 rfl) ?_
    refine lv_iadd hx hb dX4_leastLoad_109 ?_
    refine lv_iload_n hx hb dX4_leastLoad_110 rfl (lv_at hl 2 rfl) ?_
    obtain ⟨hi9, hf⟩ := oinb rfl hf
    obtain ⟨b10, eb10, hf⟩ := elet_out hf
    refine va_iast hx hb hK hP hD hS 1 0 rfl rfl hi9 dX4_leastLoad_111 (fun H locs hP hD hS => ?_)
    have hP : va_P (dC, dI) vwCl [k4_0 aM b10, k4_1 cI aM b10, k4_2 cI aM b10, k4_3 cI aM b10, k4_4 cI aM b10, k4_5 cJ aM b10, k4_6 cI aM b10, k4_7 cJ aM b10, k4_8 cJ aM b10, k4_9 cI aM b10] H := by rw [eb10]; exact hP
    have hD : va_D A [k4_0 aM b10, k4_1 cI aM b10, k4_2 cI aM b10, k4_3 cI aM b10, k4_4 cI aM b10, k4_5 cJ aM b10, k4_6 cI aM b10, k4_7 cJ aM b10, k4_8 cJ aM b10, k4_9 cI aM b10] := by rw [eb10]; exact hD
    refine lv_iload hx hb dX4_leastLoad_112 (lv_at hl 3 rfl) ?_
    obtain rfl := Option.some.inj hf
    exact W.iret (v := x4) hx hb hr (fun t ht hW => ⟨⟨x4, (), rfl, rfl, by rw [ht]; exact hP, hD⟩, hS.F ht⟩) hS.2.2 dX4_leastLoad_114
  have L39 : ∀ (n : Nat) (vM : BX4) (x1 : Int32) (x2 : Int32) (x3 : Int32) (x4 : Int32) (x5 : Int32) (H : Heap) (locs : List Loc) (ls : Array Slot), va_P (dC, dI) vwCl [k4_0 aM vM, k4_1 cI aM vM, k4_2 cI aM vM, k4_3 cI aM vM, k4_4 cI aM vM, k4_5 cJ aM vM, k4_6 cI aM vM, k4_7 cJ aM vM, k4_8 cJ aM vM, k4_9 cI aM vM] H → va_D A [k4_0 aM vM, k4_1 cI aM vM, k4_2 cI aM vM, k4_3 cI aM vM, k4_4 cI aM vM, k4_5 cJ aM vM, k4_6 cI aM vM, k4_7 cJ aM vM, k4_8 cJ aM vM, k4_9 cI aM vM] → va_S A s.heap H locs → lv_has ls 6 [(0, .ref (aM 0)), (1, .int x1), (2, .int x2), (3, .int x3), (4, .int x4), (5, .int x5)] → fX4_leastLoad_39 n vM x1 x2 x3 x4 x5 = some y → WW H locs 0 0 ls 39 [] := by
    intro n
    induction n with
    | zero =>
      intro vM x1 x2 x3 x4 x5 H locs ls hP hD hS hl hf
      exact onone hf
    | succ n ih =>
      intro vM x1 x2 x3 x4 x5 H locs ls hP hD hS hl hf
      have hf : fX4_leastLoad_39_b (fX4_leastLoad_39 n) vM x1 x2 x3 x4 x5 = some y := hf
      generalize fX4_leastLoad_39 n = k39 at hf ih
      have hk39 := ih
      clear ih
      unfold fX4_leastLoad_39_b at hf
      refine (hWW _ _ _ _ _ _ _).2 ?_
      refine lv_iload hx hb dX4_leastLoad_39 (lv_at hl 5 rfl) ?_
      refine lv_bipush (v := 99) hx hb dX4_leastLoad_41 (by decide) ?_
      refine lv_icmp_gt (tgt := 102) hx hb dX4_leastLoad_43 (by decide) (fun c1 => ?_) (fun c1 => ?_)
      · have hf := oif_t c1 hf
        exact (hWW _ _ _ _ _ _ _).1 (J102 vM x1 x3 x4 H locs ls hP hD hS (lv_sub hl [0, 1, 3, 4] rfl) hf)
      · have hf := oif_f c1 hf
        refine lv_iload hx hb dX4_leastLoad_46 (lv_at hl 4 rfl) ?_
        refine lv_if_ge (tgt := 102) hx hb dX4_leastLoad_48 (by decide) (fun c2 => ?_) (fun c2 => ?_)
        · have hf := oif_t c2 hf
          exact (hWW _ _ _ _ _ _ _).1 (J102 vM x1 x3 x4 H locs ls hP hD hS (lv_sub hl [0, 1, 3, 4] rfl) hf)
        · have hf := oif_f c2 hf
          refine lv_aload_n hx hb dX4_leastLoad_51 rfl (lv_at hl 0 rfl) ?_
          refine va_get (D := (dC, dI)) (ci := 4) (v := .ref (aM 1)) (C := RX4) (T := TX4) (N := 21) hx hb hts hiX4 hown hK hP 0 rfl rfl 0 (by decide) hgX4_7 (fun _ h9 => h9) rfl dX4_leastLoad_52 ?_
          refine lv_bipush (v := 12) hx hb dX4_leastLoad_55 (by decide) ?_
          refine lv_iload_n hx hb dX4_leastLoad_57 rfl (lv_at hl 1 rfl) ?_
          refine lv_iadd hx hb dX4_leastLoad_58 ?_
          refine lv_iload hx hb dX4_leastLoad_59 (lv_at hl 5 rfl) ?_
          obtain ⟨hi3, hf⟩ := oinb rfl hf
          obtain ⟨b4, eb4, hf⟩ := elet_out hf
          refine va_iast hx hb hK hP hD hS 1 0 rfl rfl hi3 dX4_leastLoad_61 (fun H locs hP hD hS => ?_)
          have hP : va_P (dC, dI) vwCl [k4_0 aM b4, k4_1 cI aM b4, k4_2 cI aM b4, k4_3 cI aM b4, k4_4 cI aM b4, k4_5 cJ aM b4, k4_6 cI aM b4, k4_7 cJ aM b4, k4_8 cJ aM b4, k4_9 cI aM b4] H := by rw [eb4]; exact hP
          have hD : va_D A [k4_0 aM b4, k4_1 cI aM b4, k4_2 cI aM b4, k4_3 cI aM b4, k4_4 cI aM b4, k4_5 cJ aM b4, k4_6 cI aM b4, k4_7 cJ aM b4, k4_8 cJ aM b4, k4_9 cI aM b4] := by rw [eb4]; exact hD
          refine lv_aload_n hx hb dX4_leastLoad_62 rfl (lv_at hl 0 rfl) ?_
          obtain ⟨y5, hy5, hf⟩ := obind hf
          refine cg_v (ws := [k4_0 aM b4, k4_1 cI aM b4, k4_2 cI aM b4, k4_3 cI aM b4, k4_4 cI aM b4, k4_5 cJ aM b4, k4_6 cI aM b4, k4_7 cJ aM b4, k4_8 cJ aM b4, k4_9 cI aM b4]) (wc := [k4_0 aM b4, k4_1 cI aM b4, k4_2 cI aM b4, k4_3 cI aM b4, k4_4 cI aM b4, k4_5 cJ aM b4, k4_6 cI aM b4, k4_7 cJ aM b4, k4_8 cJ aM b4, k4_9 cI aM b4]) (wr := []) (w1 := [k4_0 aM y5, k4_1 cI aM y5, k4_2 cI aM y5, k4_3 cI aM y5, k4_4 cI aM y5, k4_5 cJ aM y5, k4_6 cI aM y5, k4_7 cJ aM y5, k4_8 cJ aM y5, k4_9 cI aM y5]) (wo := [k4_0 aM y5, k4_1 cI aM y5, k4_2 cI aM y5, k4_3 cI aM y5, k4_4 cI aM y5, k4_5 cJ aM y5, k4_6 cI aM y5, k4_7 cJ aM y5, k4_8 cJ aM y5, k4_9 cI aM y5]) hP hD hS hA (va_runV (As := []) (rest := []) ⟨hx, hb, hml, hown, hts⟩ (mX4_rests l dC dI cI cJ aM H.size b4 y5 hy5) (cwV 0 hts gX4_leastLoad_X4_rests rfl rfl rfl (by decide +kernel) ⟨Nat.le_of_ble_eq_true rfl, Nat.le_of_ble_eq_true rfl⟩) ⟨cFB, va_recv hK hP (ci := 4) (q0 := 0) rfl rfl, cPre hK hN hS (va_free (wc := [k4_0 aM b4, k4_1 cI aM b4, k4_2 cI aM b4, k4_3 cI aM b4, k4_4 cI aM b4, k4_5 cJ aM b4, k4_6 cI aM b4, k4_7 cJ aM b4, k4_8 cJ aM b4, k4_9 cI aM b4]) hD hS hA [0, 1, 2, 3, 4, 5, 6, 7, 8, 9] rfl) (hP.sub [0, 1, 2, 3, 4, 5, 6, 7, 8, 9] rfl) (hD.sub [0, 1, 2, 3, 4, 5, 6, 7, 8, 9] rfl rfl)⟩ rfl rfl hl.1 rfl (lv_room (Nat.le_of_ble_eq_true rfl)) dX4_leastLoad_63 ⟨Nat.le_of_ble_eq_true rfl, Nat.le_of_ble_eq_true rfl⟩) [0, 1, 2, 3, 4, 5, 6, 7, 8, 9] [] [0, 1, 2, 3, 4, 5, 6, 7, 8, 9] rfl rfl rfl (by decide +kernel) rfl rfl (fun H locs hP hD hS => ?_)
          refine lv_aload_n hx hb dX4_leastLoad_66 rfl (lv_at hl 0 rfl) ?_
          refine va_get (D := (dC, dI)) (ci := 4) (v := .ref (aM 5)) (C := RX4) (T := TX4) (N := 21) hx hb hts hiX4 hown hK hP 0 rfl rfl 7 (by decide) hgX4_22 (fun _ h9 => h9) rfl dX4_leastLoad_67 ?_
          refine lv_iload_n hx hb dX4_leastLoad_70 rfl (lv_at hl 1 rfl) ?_
          obtain ⟨hi6, hf⟩ := oinb rfl hf
          refine va_lald hx hb hK hP 5 1 rfl rfl hi6 dX4_leastLoad_71 ?_
          refine lv_iload_n hx hb dX4_leastLoad_72 rfl (lv_at hl 2 rfl) ?_
          refine lv_i2l (v := (x2).toInt64) hx hb dX4_leastLoad_73 rfl ?_
          refine lv_aload_n hx hb dX4_leastLoad_74 rfl (lv_at hl 0 rfl) ?_
          refine va_get (D := (dC, dI)) (ci := 4) (v := .long (p4_lower y5)) (C := RX4) (T := TX4) (N := 21) hx hb hts hiX4 hown hK hP 0 rfl rfl 8 (by decide) hgX4_79 (fun _ h9 => h9) rfl dX4_leastLoad_75 ?_
          refine lv_lmul hx hb dX4_leastLoad_78 ?_
          refine W.lcmp hx hb dX4_leastLoad_79 ?_
          refine lv_if_lt (tgt := 92) hx hb dX4_leastLoad_80 (by decide) (fun c7 => ?_) (fun c7 => ?_)
          · have hf := oif_t c7 hf
            refine lv_ldc (v := (-1000004)) hx hb hown hc78 dX4_leastLoad_92 ?_
            exact (hWW _ _ _ _ _ _ _).1 (J94 k39 hk39 y5 x1 x2 x3 x5 (-1000004 : Int32) H locs ls hP hD hS (lv_sub hl [0, 1, 2, 3, 5] rfl) hf)
          · have hf := oif_f c7 hf
            refine lv_iload hx hb dX4_leastLoad_83 (lv_at hl 5 rfl) ?_
            refine lv_sipush (v := 1000) hx hb dX4_leastLoad_85 (by decide) ?_
            refine lv_iadd hx hb dX4_leastLoad_88 ?_
            refine lv_goto (tgt := 94) hx hb dX4_leastLoad_89 (by decide) ?_
            exact (hWW _ _ _ _ _ _ _).1 (J94 k39 hk39 y5 x1 x2 x3 x5 (x5 + (1000 : Int32)) H locs ls hP hD hS (lv_sub hl [0, 1, 2, 3, 5] rfl) hf)
  refine (hWW _ _ _ _ _ _ _).2 ?_
  unfold fX4_leastLoad at hf
  refine lv_aload_n hx hb dX4_leastLoad_0 rfl (lv_at hl 0 rfl) ?_
  refine lv_iload_n hx hb dX4_leastLoad_1 rfl (lv_at hl 1 rfl) ?_
  obtain ⟨y11, hy11, hf⟩ := obind hf
  refine cg_i (ws := [k4_0 aM vM, k4_1 cI aM vM, k4_2 cI aM vM, k4_3 cI aM vM, k4_4 cI aM vM, k4_5 cJ aM vM, k4_6 cI aM vM, k4_7 cJ aM vM, k4_8 cJ aM vM, k4_9 cI aM vM]) (wc := [k4_0 aM vM, k4_1 cI aM vM, k4_2 cI aM vM, k4_3 cI aM vM, k4_4 cI aM vM, k4_5 cJ aM vM, k4_6 cI aM vM, k4_7 cJ aM vM, k4_8 cJ aM vM, k4_9 cI aM vM]) (wr := []) (w1 := [k4_0 aM vM, k4_1 cI aM vM, k4_2 cI aM vM, k4_3 cI aM vM, k4_4 cI aM vM, k4_5 cJ aM vM, k4_6 cI aM vM, k4_7 cJ aM vM, k4_8 cJ aM vM, k4_9 cI aM vM]) (wo := [k4_0 aM vM, k4_1 cI aM vM, k4_2 cI aM vM, k4_3 cI aM vM, k4_4 cI aM vM, k4_5 cJ aM vM, k4_6 cI aM vM, k4_7 cJ aM vM, k4_8 cJ aM vM, k4_9 cI aM vM]) hP hD hS hA (va_runV (As := [.int i1]) (rest := []) ⟨hx, hb, hml, hown, hts⟩ (mX4_isPlate l dC dI cI cJ aM H.size vM i1 y11 hy11) (cwV 1 hts gX4_leastLoad_X4_isPlate rfl rfl rfl (by decide +kernel) ⟨Nat.le_of_ble_eq_true rfl, Nat.le_of_ble_eq_true rfl⟩) ⟨cFB, va_recv hK hP (ci := 4) (q0 := 0) rfl rfl, cPre hK hN hS (va_free (wc := [k4_0 aM vM, k4_1 cI aM vM, k4_2 cI aM vM, k4_3 cI aM vM, k4_4 cI aM vM, k4_5 cJ aM vM, k4_6 cI aM vM, k4_7 cJ aM vM, k4_8 cJ aM vM, k4_9 cI aM vM]) hD hS hA [0, 1, 2, 3, 4, 5, 6, 7, 8, 9] rfl) (hP.sub [0, 1, 2, 3, 4, 5, 6, 7, 8, 9] rfl) (hD.sub [0, 1, 2, 3, 4, 5, 6, 7, 8, 9] rfl rfl)⟩ rfl rfl hl.1 rfl (lv_room (Nat.le_of_ble_eq_true rfl)) dX4_leastLoad_2 ⟨Nat.le_of_ble_eq_true rfl, Nat.le_of_ble_eq_true rfl⟩) [0, 1, 2, 3, 4, 5, 6, 7, 8, 9] [] [0, 1, 2, 3, 4, 5, 6, 7, 8, 9] rfl rfl rfl (by decide +kernel) rfl rfl (fun H locs hP hD hS => ?_)
  refine lv_if_eq (tgt := 18) hx hb dX4_leastLoad_5 (by decide) (fun c12 => ?_) (fun c12 => ?_)
  · have hf := oif_t c12 hf
    refine lv_ldc (v := (-1000001)) hx hb hown hc57 dX4_leastLoad_18 ?_
    obtain rfl := Option.some.inj hf
    exact W.iret (v := (-1000001)) hx hb hr (fun t ht hW => ⟨⟨(-1000001), (), rfl, rfl, by rw [ht]; exact hP, hD⟩, hS.F ht⟩) hS.2.2 dX4_leastLoad_20
  · have hf := oif_f c12 hf
    refine lv_iload_n hx hb dX4_leastLoad_8 rfl (lv_at hl 2 rfl) ?_
    refine lv_iconst (v := 0) hx hb dX4_leastLoad_9 (by decide) ?_
    refine lv_bipush (v := 99) hx hb dX4_leastLoad_10 (by decide) ?_
    obtain ⟨y13, hy13, hf⟩ := obind hf
    refine cg_i (ws := [k4_0 aM vM, k4_1 cI aM vM, k4_2 cI aM vM, k4_3 cI aM vM, k4_4 cI aM vM, k4_5 cJ aM vM, k4_6 cI aM vM, k4_7 cJ aM vM, k4_8 cJ aM vM, k4_9 cI aM vM]) (wc := []) (wr := [k4_0 aM vM, k4_1 cI aM vM, k4_2 cI aM vM, k4_3 cI aM vM, k4_4 cI aM vM, k4_5 cJ aM vM, k4_6 cI aM vM, k4_7 cJ aM vM, k4_8 cJ aM vM, k4_9 cI aM vM]) (w1 := []) (wo := [k4_0 aM vM, k4_1 cI aM vM, k4_2 cI aM vM, k4_3 cI aM vM, k4_4 cI aM vM, k4_5 cJ aM vM, k4_6 cI aM vM, k4_7 cJ aM vM, k4_8 cJ aM vM, k4_9 cI aM vM]) hP hD hS hA (va_runS (As := [.int i2, .int 0, .int 99]) (rest := []) ⟨hx, hb, hml, hown, hts⟩ (mX4_in l dC dI cI cJ  H.size i2 (0 : Int32) (99 : Int32) y13 hy13) (va_cwS 3 hts gX4_leastLoad_X4_in rfl rfl rfl (by decide +kernel) ⟨Nat.le_of_ble_eq_true rfl, Nat.le_of_ble_eq_true rfl⟩) ⟨cFB, cPre hK hN hS (va_free (wc := []) hD hS hA [] rfl) (hP.sub [] rfl) (hD.sub [] rfl rfl)⟩ rfl rfl hl.1 rfl (lv_room (Nat.le_of_ble_eq_true rfl)) dX4_leastLoad_12 ⟨Nat.le_of_ble_eq_true rfl, Nat.le_of_ble_eq_true rfl⟩) [] [0, 1, 2, 3, 4, 5, 6, 7, 8, 9] [0, 1, 2, 3, 4, 5, 6, 7, 8, 9] rfl rfl rfl (by decide +kernel) rfl rfl (fun H locs hP hD hS => ?_)
    refine lv_if_ne (tgt := 21) hx hb dX4_leastLoad_15 (by decide) (fun c14 => ?_) (fun c14 => ?_)
    · have hf := oif_f c14 hf
      refine lv_aload_n hx hb dX4_leastLoad_21 rfl (lv_at hl 0 rfl) ?_
      refine va_get (D := (dC, dI)) (ci := 4) (v := .ref (aM 1)) (C := RX4) (T := TX4) (N := 21) hx hb hts hiX4 hown hK hP 0 rfl rfl 0 (by decide) hgX4_7 (fun _ h9 => h9) rfl dX4_leastLoad_22 ?_
      refine lv_bipush (v := 12) hx hb dX4_leastLoad_25 (by decide) ?_
      refine lv_iload_n hx hb dX4_leastLoad_27 rfl (lv_at hl 1 rfl) ?_
      refine lv_iadd hx hb dX4_leastLoad_28 ?_
      obtain ⟨hi15, hf⟩ := oinb rfl hf
      refine va_iald hx hb hK hP 1 0 rfl rfl hi15 dX4_leastLoad_29 ?_
      obtain ⟨z16, ez16, hf⟩ := elet_out hf
      refine lvn_i ez16 ?_
      refine lv_istore_n (lv' := [(3, .int z16), (0, .ref (aM 0)), (1, .int i1), (2, .int i2)]) hx hb dX4_leastLoad_30 rfl hl (by decide) rfl (fun ls hl => ?_)
      refine lv_ldc (v := (-1000004)) hx hb hown hc78 dX4_leastLoad_31 ?_
      refine lv_istore (lv' := [(4, .int (-1000004)), (3, .int z16), (0, .ref (aM 0)), (1, .int i1), (2, .int i2)]) hx hb dX4_leastLoad_33 hl (by decide) rfl (fun ls hl => ?_)
      refine lv_bipush (v := (-99)) hx hb dX4_leastLoad_35 (by decide) ?_
      refine lv_istore (lv' := [(5, .int (-99)), (4, .int (-1000004)), (3, .int z16), (0, .ref (aM 0)), (1, .int i1), (2, .int i2)]) hx hb dX4_leastLoad_37 hl (by decide) rfl (fun ls hl => ?_)
      exact (hWW _ _ _ _ _ _ _).1 (L39 FU vM i1 i2 z16 (-1000004 : Int32) (-99 : Int32) H locs ls hP hD hS (lv_sub hl [3, 4, 5, 2, 1, 0] rfl) hf)
    · have hf := oif_t c14 hf
      refine lv_ldc (v := (-1000001)) hx hb hown hc57 dX4_leastLoad_18 ?_
      obtain rfl := Option.some.inj hf
      exact W.iret (v := (-1000001)) hx hb hr (fun t ht hW => ⟨⟨(-1000001), (), rfl, rfl, by rw [ht]; exact hP, hD⟩, hS.F ht⟩) hS.2.2 dX4_leastLoad_20
def fX4_moves_84 (k30 : BX4 → Int64 → Int32 → Option BX4) (vM : BX4) (x5 : Int32) (st0 : Int64) (st1 : Int64) : Option BX4 :=
  elet (st0 + st1) (fun z11 => elet (x5 + 1) (fun z12 => k30 vM z11 z12))
def fX4_moves_30_b (k30 : BX4 → Int64 → Int32 → Option BX4) (vM : BX4) (l3 : Int64) (x5 : Int32) : Option BX4 :=
  if ((p4_s vM) ((1 : Int32)).toNatClampNeg) ≤ x5 then ((fX4_divisor l3 ((p4_lower vM) * (p4_keptLower vM))).bind (fun y2 => if y2 = 0 then none else (elet (s4_farUp vM (l3 / y2)) (fun b4 => if y2 = 0 then none else (elet (s4_farDown b4 (((p4_lower b4) * (p4_keptLower b4)) / y2)) (fun b6 => some b6)))))) else (if inB x5 4 = true then (if inB x5 4 = true then (elet ((((p4_upper vM) (x5).toNatClampNeg) * (p4_keptLower vM)) - (((p4_kept vM) (x5).toNatClampNeg) * (p4_lower vM))) (fun z9 => if 0 ≤ (lg_cmp z9 (0 : Int64)) then (fX4_moves_84 k30 vM x5 l3 z9) else (fX4_moves_84 k30 vM x5 l3 (-z9)))) else none) else none)
def fX4_moves_30 : Nat → BX4 → Int64 → Int32 → Option BX4
  | 0 => fun _ _ _ => none
  | n + 1 => fX4_moves_30_b (fX4_moves_30 n)
def fX4_moves (vM : BX4) (i1 : Int32) : Option BX4 :=
  if inB i1 24 = true then (elet ((p4_s vM) (i1).toNatClampNeg) (fun z14 => if inB i1 24 = true then (elet (s4_s vM (upd (p4_s vM) (i1).toNatClampNeg (-1))) (fun b16 => (fX4_rests b16).bind (fun y17 => if inB i1 24 = true then (elet (s4_s y17 (upd (p4_s y17) (i1).toNatClampNeg z14)) (fun b19 => fX4_moves_30 FU b19 (0 : Int64) (0 : Int32))) else none))) else none)) else none
set_option maxHeartbeats 8000000 in
set_option maxRecDepth 100000 in
theorem mX4_moves (l : Launch) (dC : Nat → ClassId) (dI : Nat → Nat → Nat) (cI cJ : ClassId) (aM : Nat → Nat) (sz : Nat) (vM : BX4) (i1 : Int32) (y : BX4) (hf : fX4_moves vM i1 = some y) : Met l yX4_moves wsX4_moves ({ frames := 5, cells := 0, slots := 0, locals := 114 }) (cPc dC dI cI cJ [.ref (aM 0), .int i1] [k4_0 aM vM, k4_1 cI aM vM, k4_2 cI aM vM, k4_3 cI aM vM, k4_4 cI aM vM, k4_5 cJ aM vM, k4_6 cI aM vM, k4_7 cJ aM vM, k4_8 cJ aM vM, k4_9 cI aM vM] sz) (va_Qv (fun (_ : Unit) => True) (fun _ t => cB dC dI (va_A [k4_0 aM vM, k4_1 cI aM vM, k4_2 cI aM vM, k4_3 cI aM vM, k4_4 cI aM vM, k4_5 cJ aM vM, k4_6 cI aM vM, k4_7 cJ aM vM, k4_8 cJ aM vM, k4_9 cI aM vM] sz) [k4_0 aM y, k4_1 cI aM y, k4_2 cI aM y, k4_3 cI aM y, k4_4 cI aM y, k4_5 cJ aM y, k4_6 cI aM y, k4_7 cJ aM y, k4_8 cJ aM y, k4_9 cI aM y] t) (va_A [k4_0 aM vM, k4_1 cI aM vM, k4_2 cI aM vM, k4_3 cI aM vM, k4_4 cI aM vM, k4_5 cJ aM vM, k4_6 cI aM vM, k4_7 cJ aM vM, k4_8 cJ aM vM, k4_9 cI aM vM] sz)) 0 0 (va_A [k4_0 aM vM, k4_1 cI aM vM, k4_2 cI aM vM, k4_3 cI aM vM, k4_4 cI aM vM, k4_5 cJ aM vM, k4_6 cI aM vM, k4_7 cJ aM vM, k4_8 cJ aM vM, k4_9 cI aM vM] sz) := by
  refine Met.ofW (cc := cX4_moves) (maxL := 8) (ret := none) (by decide) rfl ?_
  intro p e s m args below meth c s₁ B hml hv
  obtain ⟨rfl, hsz, hP, hK, hD0, hN⟩ := hv
  have hx := B.exec
  have hb := B.bytes
  have hr := B.returns
  have hts := atoms_spec (ws := wsX4_moves) B.pre
  have hown : s.vm.findClass RX4 = some m.cls := findClass_of_methodNamed B.named
  have hlocks := B.notSynchronized
  subst hsz
  have hD := hD0.self (sz := s.heap.size)
  generalize hAe : va_A [k4_0 aM vM, k4_1 cI aM vM, k4_2 cI aM vM, k4_3 cI aM vM, k4_4 cI aM vM, k4_5 cJ aM vM, k4_6 cI aM vM, k4_7 cJ aM vM, k4_8 cJ aM vM, k4_9 cI aM vM] s.heap.size = A at hD hN ⊢
  have hA : ∀ q : Nat, s.heap.size ≤ q → A q := fun q h => by rw [← hAe]; exact Or.inr h
  have hP : va_P (dC, dI) vwCl [k4_0 aM vM, k4_1 cI aM vM, k4_2 cI aM vM, k4_3 cI aM vM, k4_4 cI aM vM, k4_5 cJ aM vM, k4_6 cI aM vM, k4_7 cJ aM vM, k4_8 cJ aM vM, k4_9 cI aM vM] s.heap := hP
  have hl := lv_entry ([.ref (aM 0), .int i1]) (n := 8) (Nat.le_of_ble_eq_true rfl)
  rw [lg_entry_eq]
  generalize (lg_sl ([.ref (aM 0), .int i1]) ++ List.replicate (8 - (lg_sl ([.ref (aM 0), .int i1])).length) Slot.unset).toArray = ls at hl ⊢
  have hl : lv_has ls 8 [(0, .ref (aM 0)), (1, .int i1)] := hl
  have hiX4 : ∀ w ∈ u_ws RX4 TX4 21, w ∈ wsX4_moves := by decide +kernel
  have hgX4_7 := hts (.fieldLink RX4 7 "SpringPlatesModel" "s" "[I") (by decide +kernel)
  have hgX4_79 := hts (.fieldLink RX4 79 "SpringPlatesModel" "lower" "J") (by decide +kernel)
  have hgX4_135 := hts (.fieldLink RX4 135 "SpringPlatesModel" "keptLower" "J") (by decide +kernel)
  have hgX4_138 := hts (.fieldLink RX4 138 "SpringPlatesModel" "farUp" "J") (by decide +kernel)
  have hgX4_141 := hts (.fieldLink RX4 141 "SpringPlatesModel" "farDown" "J") (by decide +kernel)
  have hgX4_22 := hts (.fieldLink RX4 22 "SpringPlatesModel" "upper" "[J") (by decide +kernel)
  have hgX4_32 := hts (.fieldLink RX4 32 "SpringPlatesModel" "kept" "[J") (by decide +kernel)
  refine nameH (fun H locs hHe hLe => ?_)
  have hP : va_P (dC, dI) vwCl [k4_0 aM vM, k4_1 cI aM vM, k4_2 cI aM vM, k4_3 cI aM vM, k4_4 cI aM vM, k4_5 cJ aM vM, k4_6 cI aM vM, k4_7 cJ aM vM, k4_8 cJ aM vM, k4_9 cI aM vM] H := by rw [hHe]; exact hP
  have hS : va_S A s.heap H locs := by rw [hHe, hLe]; exact va_S.rf
  refine withW (fun WW hWW => ?_)
  have J84 : ∀ (k30 : BX4 → Int64 → Int32 → Option BX4) (hk30 : ∀ (vM : BX4) (l3 : Int64) (x5 : Int32) (H : Heap) (locs : List Loc) (ls : Array Slot), va_P (dC, dI) vwCl [k4_0 aM vM, k4_1 cI aM vM, k4_2 cI aM vM, k4_3 cI aM vM, k4_4 cI aM vM, k4_5 cJ aM vM, k4_6 cI aM vM, k4_7 cJ aM vM, k4_8 cJ aM vM, k4_9 cI aM vM] H → va_D A [k4_0 aM vM, k4_1 cI aM vM, k4_2 cI aM vM, k4_3 cI aM vM, k4_4 cI aM vM, k4_5 cJ aM vM, k4_6 cI aM vM, k4_7 cJ aM vM, k4_8 cJ aM vM, k4_9 cI aM vM] → va_S A s.heap H locs → lv_has ls 8 [(0, .ref (aM 0)), (3, .long l3), (5, .int x5)] → k30 vM l3 x5 = some y → WW H locs 0 0 ls 30 []) (vM : BX4) (x5 : Int32) (st0 : Int64) (st1 : Int64) (H : Heap) (locs : List Loc) (ls : Array Slot), va_P (dC, dI) vwCl [k4_0 aM vM, k4_1 cI aM vM, k4_2 cI aM vM, k4_3 cI aM vM, k4_4 cI aM vM, k4_5 cJ aM vM, k4_6 cI aM vM, k4_7 cJ aM vM, k4_8 cJ aM vM, k4_9 cI aM vM] H → va_D A [k4_0 aM vM, k4_1 cI aM vM, k4_2 cI aM vM, k4_3 cI aM vM, k4_4 cI aM vM, k4_5 cJ aM vM, k4_6 cI aM vM, k4_7 cJ aM vM, k4_8 cJ aM vM, k4_9 cI aM vM] → va_S A s.heap H locs → lv_has ls 8 [(0, .ref (aM 0)), (5, .int x5)] → fX4_moves_84 k30 vM x5 st0 st1 = some y → WW H locs 0 0 ls 84 [.long st1, .long st0] := by
    intro k30 hk30 vM x5 st0 st1 H locs ls hP hD hS hl hf
    unfold fX4_moves_84 at hf
    refine (hWW _ _ _ _ _ _ _).2 ?_
    refine lv_ladd hx hb dX4_moves_84 ?_
    obtain ⟨z11, ez11, hf⟩ := elet_out hf
    refine lvn_l ez11 ?_
    refine lv_lstore_n (lv' := [(3, .long z11), (0, .ref (aM 0)), (5, .int x5)]) hx hb dX4_moves_85 rfl hl (by decide) rfl (fun ls hl => ?_)
    obtain ⟨z12, ez12, hf⟩ := elet_out hf
    refine lv_iinc (v := z12) (lv' := [(5, .int z12), (3, .long z11), (0, .ref (aM 0))]) hx hb dX4_moves_86 hl (k := 2) rfl (by rw [ez12]; rfl) (by decide) rfl (fun ls hl => ?_)
    refine lv_goto (tgt := 30) hx hb dX4_moves_89 (by decide) ?_
    exact (hWW _ _ _ _ _ _ _).1 (hk30 vM z11 z12 H locs ls hP hD hS (lv_sub hl [2, 1, 0] rfl) hf)
  have L30 : ∀ (n : Nat) (vM : BX4) (l3 : Int64) (x5 : Int32) (H : Heap) (locs : List Loc) (ls : Array Slot), va_P (dC, dI) vwCl [k4_0 aM vM, k4_1 cI aM vM, k4_2 cI aM vM, k4_3 cI aM vM, k4_4 cI aM vM, k4_5 cJ aM vM, k4_6 cI aM vM, k4_7 cJ aM vM, k4_8 cJ aM vM, k4_9 cI aM vM] H → va_D A [k4_0 aM vM, k4_1 cI aM vM, k4_2 cI aM vM, k4_3 cI aM vM, k4_4 cI aM vM, k4_5 cJ aM vM, k4_6 cI aM vM, k4_7 cJ aM vM, k4_8 cJ aM vM, k4_9 cI aM vM] → va_S A s.heap H locs → lv_has ls 8 [(0, .ref (aM 0)), (3, .long l3), (5, .int x5)] → fX4_moves_30 n vM l3 x5 = some y → WW H locs 0 0 ls 30 [] := by
    intro n
    induction n with
    | zero =>
      intro vM l3 x5 H locs ls hP hD hS hl hf
      exact onone hf
    | succ n ih =>
      intro vM l3 x5 H locs ls hP hD hS hl hf
      have hf : fX4_moves_30_b (fX4_moves_30 n) vM l3 x5 = some y := hf
      generalize fX4_moves_30 n = k30 at hf ih
      have hk30 := ih
      clear ih
      unfold fX4_moves_30_b at hf
      refine (hWW _ _ _ _ _ _ _).2 ?_
      refine lv_iload hx hb dX4_moves_30 (lv_at hl 2 rfl) ?_
      refine lv_aload_n hx hb dX4_moves_32 rfl (lv_at hl 0 rfl) ?_
      refine va_get (D := (dC, dI)) (ci := 4) (v := .ref (aM 1)) (C := RX4) (T := TX4) (N := 21) hx hb hts hiX4 hown hK hP 0 rfl rfl 0 (by decide) hgX4_7 (fun _ h9 => h9) rfl dX4_moves_33 ?_
      refine lv_iconst (v := 1) hx hb dX4_moves_36 (by decide) ?_
      refine va_iald hx hb hK hP 1 0 rfl rfl (vpc rfl) dX4_moves_37 ?_
      refine lv_icmp_ge (tgt := 92) hx hb dX4_moves_38 (by decide) (fun c1 => ?_) (fun c1 => ?_)
      · have hf := oif_t c1 hf
        refine lv_lload_n hx hb dX4_moves_92 rfl (lv_at hl 1 rfl) ?_
        refine lv_aload_n hx hb dX4_moves_93 rfl (lv_at hl 0 rfl) ?_
        refine va_get (D := (dC, dI)) (ci := 4) (v := .long (p4_lower vM)) (C := RX4) (T := TX4) (N := 21) hx hb hts hiX4 hown hK hP 0 rfl rfl 8 (by decide) hgX4_79 (fun _ h9 => h9) rfl dX4_moves_94 ?_
        refine lv_aload_n hx hb dX4_moves_97 rfl (lv_at hl 0 rfl) ?_
        refine va_get (D := (dC, dI)) (ci := 4) (v := .long (p4_keptLower vM)) (C := RX4) (T := TX4) (N := 21) hx hb hts hiX4 hown hK hP 0 rfl rfl 13 (by decide) hgX4_135 (fun _ h9 => h9) rfl dX4_moves_98 ?_
        refine lv_lmul hx hb dX4_moves_101 ?_
        obtain ⟨y2, hy2, hf⟩ := obind hf
        refine cg_l (ws := [k4_0 aM vM, k4_1 cI aM vM, k4_2 cI aM vM, k4_3 cI aM vM, k4_4 cI aM vM, k4_5 cJ aM vM, k4_6 cI aM vM, k4_7 cJ aM vM, k4_8 cJ aM vM, k4_9 cI aM vM]) (wc := []) (wr := [k4_0 aM vM, k4_1 cI aM vM, k4_2 cI aM vM, k4_3 cI aM vM, k4_4 cI aM vM, k4_5 cJ aM vM, k4_6 cI aM vM, k4_7 cJ aM vM, k4_8 cJ aM vM, k4_9 cI aM vM]) (w1 := []) (wo := [k4_0 aM vM, k4_1 cI aM vM, k4_2 cI aM vM, k4_3 cI aM vM, k4_4 cI aM vM, k4_5 cJ aM vM, k4_6 cI aM vM, k4_7 cJ aM vM, k4_8 cJ aM vM, k4_9 cI aM vM]) hP hD hS hA (va_runS (As := [.long l3, .long ((p4_lower vM) * (p4_keptLower vM))]) (rest := []) ⟨hx, hb, hml, hown, hts⟩ (mX4_divisor l dC dI cI cJ  H.size l3 ((p4_lower vM) * (p4_keptLower vM)) y2 hy2) (va_cwS 2 hts gX4_moves_X4_divisor rfl rfl rfl (by decide +kernel) ⟨Nat.le_of_ble_eq_true rfl, Nat.le_of_ble_eq_true rfl⟩) ⟨cFB, cPre hK hN hS (va_free (wc := []) hD hS hA [] rfl) (hP.sub [] rfl) (hD.sub [] rfl rfl)⟩ rfl rfl hl.1 rfl (lv_room (Nat.le_of_ble_eq_true rfl)) dX4_moves_102 ⟨Nat.le_of_ble_eq_true rfl, Nat.le_of_ble_eq_true rfl⟩) [] [0, 1, 2, 3, 4, 5, 6, 7, 8, 9] [0, 1, 2, 3, 4, 5, 6, 7, 8, 9] rfl rfl rfl (by decide +kernel) rfl rfl (fun H locs hP hD hS => ?_)
        refine lv_lstore (lv' := [(5, .long y2), (0, .ref (aM 0)), (3, .long l3)]) hx hb dX4_moves_105 hl (by decide) rfl (fun ls hl => ?_)
        refine lv_aload_n hx hb dX4_moves_107 rfl (lv_at hl 1 rfl) ?_
        refine lv_lload_n hx hb dX4_moves_108 rfl (lv_at hl 2 rfl) ?_
        refine lv_lload hx hb dX4_moves_109 (lv_at hl 0 rfl) ?_
        obtain ⟨hd3, hf⟩ := odiv hf
        refine lv_ldiv hx hb dX4_moves_111 hd3 ?_
        obtain ⟨b4, eb4, hf⟩ := elet_out hf
        refine va_put (D := (dC, dI)) (ci := 4) (v := .long (l3 / y2)) (ty := .long) (C := RX4) (T := TX4) (N := 21) hx hb hts hiX4 tyX4 tyX4_ok nmX4 hown hK hP hD hS 0 rfl rfl 14 (by decide) hgX4_138 (fun _ h9 => h9) rfl (by decide +kernel) rfl rfl (Nat.le_of_ble_eq_true rfl) dX4_moves_112 (fun H locs hP hD hS => ?_)
        have hP : va_P (dC, dI) vwCl [k4_0 aM b4, k4_1 cI aM b4, k4_2 cI aM b4, k4_3 cI aM b4, k4_4 cI aM b4, k4_5 cJ aM b4, k4_6 cI aM b4, k4_7 cJ aM b4, k4_8 cJ aM b4, k4_9 cI aM b4] H := by rw [eb4]; exact hP
        have hD : va_D A [k4_0 aM b4, k4_1 cI aM b4, k4_2 cI aM b4, k4_3 cI aM b4, k4_4 cI aM b4, k4_5 cJ aM b4, k4_6 cI aM b4, k4_7 cJ aM b4, k4_8 cJ aM b4, k4_9 cI aM b4] := by rw [eb4]; exact hD
        refine lv_aload_n hx hb dX4_moves_115 rfl (lv_at hl 1 rfl) ?_
        refine lv_aload_n hx hb dX4_moves_116 rfl (lv_at hl 1 rfl) ?_
        refine va_get (D := (dC, dI)) (ci := 4) (v := .long (p4_lower b4)) (C := RX4) (T := TX4) (N := 21) hx hb hts hiX4 hown hK hP 0 rfl rfl 8 (by decide) hgX4_79 (fun _ h9 => h9) rfl dX4_moves_117 ?_
        refine lv_aload_n hx hb dX4_moves_120 rfl (lv_at hl 1 rfl) ?_
        refine va_get (D := (dC, dI)) (ci := 4) (v := .long (p4_keptLower b4)) (C := RX4) (T := TX4) (N := 21) hx hb hts hiX4 hown hK hP 0 rfl rfl 13 (by decide) hgX4_135 (fun _ h9 => h9) rfl dX4_moves_121 ?_
        refine lv_lmul hx hb dX4_moves_124 ?_
        refine lv_lload hx hb dX4_moves_125 (lv_at hl 0 rfl) ?_
        obtain ⟨hd5, hf⟩ := odiv hf
        refine lv_ldiv hx hb dX4_moves_127 hd5 ?_
        obtain ⟨b6, eb6, hf⟩ := elet_out hf
        refine va_put (D := (dC, dI)) (ci := 4) (v := .long (((p4_lower b4) * (p4_keptLower b4)) / y2)) (ty := .long) (C := RX4) (T := TX4) (N := 21) hx hb hts hiX4 tyX4 tyX4_ok nmX4 hown hK hP hD hS 0 rfl rfl 15 (by decide) hgX4_141 (fun _ h9 => h9) rfl (by decide +kernel) rfl rfl (Nat.le_of_ble_eq_true rfl) dX4_moves_128 (fun H locs hP hD hS => ?_)
        have hP : va_P (dC, dI) vwCl [k4_0 aM b6, k4_1 cI aM b6, k4_2 cI aM b6, k4_3 cI aM b6, k4_4 cI aM b6, k4_5 cJ aM b6, k4_6 cI aM b6, k4_7 cJ aM b6, k4_8 cJ aM b6, k4_9 cI aM b6] H := by rw [eb6]; exact hP
        have hD : va_D A [k4_0 aM b6, k4_1 cI aM b6, k4_2 cI aM b6, k4_3 cI aM b6, k4_4 cI aM b6, k4_5 cJ aM b6, k4_6 cI aM b6, k4_7 cJ aM b6, k4_8 cJ aM b6, k4_9 cI aM b6] := by rw [eb6]; exact hD
        obtain rfl := Option.some.inj hf
        exact W.vret hx hb hr (fun t ht hW => ⟨⟨(), rfl, trivial, by rw [ht]; exact hP, hD⟩, hS.F ht⟩) hS.2.2 dX4_moves_131
      · have hf := oif_f c1 hf
        refine lv_aload_n hx hb dX4_moves_41 rfl (lv_at hl 0 rfl) ?_
        refine va_get (D := (dC, dI)) (ci := 4) (v := .ref (aM 5)) (C := RX4) (T := TX4) (N := 21) hx hb hts hiX4 hown hK hP 0 rfl rfl 7 (by decide) hgX4_22 (fun _ h9 => h9) rfl dX4_moves_42 ?_
        refine lv_iload hx hb dX4_moves_45 (lv_at hl 2 rfl) ?_
        obtain ⟨hi7, hf⟩ := oinb rfl hf
        refine va_lald hx hb hK hP 5 1 rfl rfl hi7 dX4_moves_47 ?_
        refine lv_aload_n hx hb dX4_moves_48 rfl (lv_at hl 0 rfl) ?_
        refine va_get (D := (dC, dI)) (ci := 4) (v := .long (p4_keptLower vM)) (C := RX4) (T := TX4) (N := 21) hx hb hts hiX4 hown hK hP 0 rfl rfl 13 (by decide) hgX4_135 (fun _ h9 => h9) rfl dX4_moves_49 ?_
        refine lv_lmul hx hb dX4_moves_52 ?_
        refine lv_aload_n hx hb dX4_moves_53 rfl (lv_at hl 0 rfl) ?_
        refine va_get (D := (dC, dI)) (ci := 4) (v := .ref (aM 8)) (C := RX4) (T := TX4) (N := 21) hx hb hts hiX4 hown hK hP 0 rfl rfl 12 (by decide) hgX4_32 (fun _ h9 => h9) rfl dX4_moves_54 ?_
        refine lv_iload hx hb dX4_moves_57 (lv_at hl 2 rfl) ?_
        obtain ⟨hi8, hf⟩ := oinb rfl hf
        refine va_lald hx hb hK hP 8 1 rfl rfl hi8 dX4_moves_59 ?_
        refine lv_aload_n hx hb dX4_moves_60 rfl (lv_at hl 0 rfl) ?_
        refine va_get (D := (dC, dI)) (ci := 4) (v := .long (p4_lower vM)) (C := RX4) (T := TX4) (N := 21) hx hb hts hiX4 hown hK hP 0 rfl rfl 8 (by decide) hgX4_79 (fun _ h9 => h9) rfl dX4_moves_61 ?_
        refine lv_lmul hx hb dX4_moves_64 ?_
        refine lv_lsub hx hb dX4_moves_65 ?_
        obtain ⟨z9, ez9, hf⟩ := elet_out hf
        refine lvn_l ez9 ?_
        refine lv_lstore (lv' := [(6, .long z9), (0, .ref (aM 0)), (3, .long l3), (5, .int x5)]) hx hb dX4_moves_66 hl (by decide) rfl (fun ls hl => ?_)
        refine lv_lload_n hx hb dX4_moves_68 rfl (lv_at hl 2 rfl) ?_
        refine lv_lload hx hb dX4_moves_69 (lv_at hl 0 rfl) ?_
        refine lv_lconst (v := 0) hx hb dX4_moves_71 (by decide) ?_
        refine W.lcmp hx hb dX4_moves_72 ?_
        refine lv_if_ge (tgt := 82) hx hb dX4_moves_73 (by decide) (fun c10 => ?_) (fun c10 => ?_)
        · have hf := oif_t c10 hf
          refine lv_lload hx hb dX4_moves_82 (lv_at hl 0 rfl) ?_
          exact (hWW _ _ _ _ _ _ _).1 (J84 k30 hk30 vM x5 l3 z9 H locs ls hP hD hS (lv_sub hl [1, 3] rfl) hf)
        · have hf := oif_f c10 hf
          refine lv_lload hx hb dX4_moves_76 (lv_at hl 0 rfl) ?_
          refine lv_lneg hx hb dX4_moves_78 ?_
          refine lv_goto (tgt := 84) hx hb dX4_moves_79 (by decide) ?_
          exact (hWW _ _ _ _ _ _ _).1 (J84 k30 hk30 vM x5 l3 (-z9) H locs ls hP hD hS (lv_sub hl [1, 3] rfl) hf)
  refine (hWW _ _ _ _ _ _ _).2 ?_
  unfold fX4_moves at hf
  refine lv_aload_n hx hb dX4_moves_0 rfl (lv_at hl 0 rfl) ?_
  refine va_get (D := (dC, dI)) (ci := 4) (v := .ref (aM 1)) (C := RX4) (T := TX4) (N := 21) hx hb hts hiX4 hown hK hP 0 rfl rfl 0 (by decide) hgX4_7 (fun _ h9 => h9) rfl dX4_moves_1 ?_
  refine lv_iload_n hx hb dX4_moves_4 rfl (lv_at hl 1 rfl) ?_
  obtain ⟨hi13, hf⟩ := oinb rfl hf
  refine va_iald hx hb hK hP 1 0 rfl rfl hi13 dX4_moves_5 ?_
  obtain ⟨z14, ez14, hf⟩ := elet_out hf
  refine lvn_i ez14 ?_
  refine lv_istore_n (lv' := [(2, .int z14), (0, .ref (aM 0)), (1, .int i1)]) hx hb dX4_moves_6 rfl hl (by decide) rfl (fun ls hl => ?_)
  refine lv_aload_n hx hb dX4_moves_7 rfl (lv_at hl 1 rfl) ?_
  refine va_get (D := (dC, dI)) (ci := 4) (v := .ref (aM 1)) (C := RX4) (T := TX4) (N := 21) hx hb hts hiX4 hown hK hP 0 rfl rfl 0 (by decide) hgX4_7 (fun _ h9 => h9) rfl dX4_moves_8 ?_
  refine lv_iload_n hx hb dX4_moves_11 rfl (lv_at hl 2 rfl) ?_
  refine lv_iconst (v := (-1)) hx hb dX4_moves_12 (by decide) ?_
  obtain ⟨hi15, hf⟩ := oinb rfl hf
  obtain ⟨b16, eb16, hf⟩ := elet_out hf
  refine va_iast hx hb hK hP hD hS 1 0 rfl rfl hi15 dX4_moves_13 (fun H locs hP hD hS => ?_)
  have hP : va_P (dC, dI) vwCl [k4_0 aM b16, k4_1 cI aM b16, k4_2 cI aM b16, k4_3 cI aM b16, k4_4 cI aM b16, k4_5 cJ aM b16, k4_6 cI aM b16, k4_7 cJ aM b16, k4_8 cJ aM b16, k4_9 cI aM b16] H := by rw [eb16]; exact hP
  have hD : va_D A [k4_0 aM b16, k4_1 cI aM b16, k4_2 cI aM b16, k4_3 cI aM b16, k4_4 cI aM b16, k4_5 cJ aM b16, k4_6 cI aM b16, k4_7 cJ aM b16, k4_8 cJ aM b16, k4_9 cI aM b16] := by rw [eb16]; exact hD
  refine lv_aload_n hx hb dX4_moves_14 rfl (lv_at hl 1 rfl) ?_
  obtain ⟨y17, hy17, hf⟩ := obind hf
  refine cg_v (ws := [k4_0 aM b16, k4_1 cI aM b16, k4_2 cI aM b16, k4_3 cI aM b16, k4_4 cI aM b16, k4_5 cJ aM b16, k4_6 cI aM b16, k4_7 cJ aM b16, k4_8 cJ aM b16, k4_9 cI aM b16]) (wc := [k4_0 aM b16, k4_1 cI aM b16, k4_2 cI aM b16, k4_3 cI aM b16, k4_4 cI aM b16, k4_5 cJ aM b16, k4_6 cI aM b16, k4_7 cJ aM b16, k4_8 cJ aM b16, k4_9 cI aM b16]) (wr := []) (w1 := [k4_0 aM y17, k4_1 cI aM y17, k4_2 cI aM y17, k4_3 cI aM y17, k4_4 cI aM y17, k4_5 cJ aM y17, k4_6 cI aM y17, k4_7 cJ aM y17, k4_8 cJ aM y17, k4_9 cI aM y17]) (wo := [k4_0 aM y17, k4_1 cI aM y17, k4_2 cI aM y17, k4_3 cI aM y17, k4_4 cI aM y17, k4_5 cJ aM y17, k4_6 cI aM y17, k4_7 cJ aM y17, k4_8 cJ aM y17, k4_9 cI aM y17]) hP hD hS hA (va_runV (As := []) (rest := []) ⟨hx, hb, hml, hown, hts⟩ (mX4_rests l dC dI cI cJ aM H.size b16 y17 hy17) (cwV 0 hts gX4_moves_X4_rests rfl rfl rfl (by decide +kernel) ⟨Nat.le_of_ble_eq_true rfl, Nat.le_of_ble_eq_true rfl⟩) ⟨cFB, va_recv hK hP (ci := 4) (q0 := 0) rfl rfl, cPre hK hN hS (va_free (wc := [k4_0 aM b16, k4_1 cI aM b16, k4_2 cI aM b16, k4_3 cI aM b16, k4_4 cI aM b16, k4_5 cJ aM b16, k4_6 cI aM b16, k4_7 cJ aM b16, k4_8 cJ aM b16, k4_9 cI aM b16]) hD hS hA [0, 1, 2, 3, 4, 5, 6, 7, 8, 9] rfl) (hP.sub [0, 1, 2, 3, 4, 5, 6, 7, 8, 9] rfl) (hD.sub [0, 1, 2, 3, 4, 5, 6, 7, 8, 9] rfl rfl)⟩ rfl rfl hl.1 rfl (lv_room (Nat.le_of_ble_eq_true rfl)) dX4_moves_15 ⟨Nat.le_of_ble_eq_true rfl, Nat.le_of_ble_eq_true rfl⟩) [0, 1, 2, 3, 4, 5, 6, 7, 8, 9] [] [0, 1, 2, 3, 4, 5, 6, 7, 8, 9] rfl rfl rfl (by decide +kernel) rfl rfl (fun H locs hP hD hS => ?_)
  refine lv_aload_n hx hb dX4_moves_18 rfl (lv_at hl 1 rfl) ?_
  refine va_get (D := (dC, dI)) (ci := 4) (v := .ref (aM 1)) (C := RX4) (T := TX4) (N := 21) hx hb hts hiX4 hown hK hP 0 rfl rfl 0 (by decide) hgX4_7 (fun _ h9 => h9) rfl dX4_moves_19 ?_
  refine lv_iload_n hx hb dX4_moves_22 rfl (lv_at hl 2 rfl) ?_
  refine lv_iload_n hx hb dX4_moves_23 rfl (lv_at hl 0 rfl) ?_
  obtain ⟨hi18, hf⟩ := oinb rfl hf
  obtain ⟨b19, eb19, hf⟩ := elet_out hf
  refine va_iast hx hb hK hP hD hS 1 0 rfl rfl hi18 dX4_moves_24 (fun H locs hP hD hS => ?_)
  have hP : va_P (dC, dI) vwCl [k4_0 aM b19, k4_1 cI aM b19, k4_2 cI aM b19, k4_3 cI aM b19, k4_4 cI aM b19, k4_5 cJ aM b19, k4_6 cI aM b19, k4_7 cJ aM b19, k4_8 cJ aM b19, k4_9 cI aM b19] H := by rw [eb19]; exact hP
  have hD : va_D A [k4_0 aM b19, k4_1 cI aM b19, k4_2 cI aM b19, k4_3 cI aM b19, k4_4 cI aM b19, k4_5 cJ aM b19, k4_6 cI aM b19, k4_7 cJ aM b19, k4_8 cJ aM b19, k4_9 cI aM b19] := by rw [eb19]; exact hD
  refine lv_lconst (v := 0) hx hb dX4_moves_25 (by decide) ?_
  refine lv_lstore_n (lv' := [(3, .long 0), (2, .int z14), (0, .ref (aM 0)), (1, .int i1)]) hx hb dX4_moves_26 rfl hl (by decide) rfl (fun ls hl => ?_)
  refine lv_iconst (v := 0) hx hb dX4_moves_27 (by decide) ?_
  refine lv_istore (lv' := [(5, .int 0), (3, .long 0), (2, .int z14), (0, .ref (aM 0)), (1, .int i1)]) hx hb dX4_moves_28 hl (by decide) rfl (fun ls hl => ?_)
  exact (hWW _ _ _ _ _ _ _).1 (L30 FU b19 (0 : Int64) (0 : Int32) H locs ls hP hD hS (lv_sub hl [3, 1, 0] rfl) hf)
def fX4_isMore_85 (k17 : Int64 → Int64 → Int64 → Int64 → Int32 → Option Int32) (l8 : Int64) (l10 : Int64) (l12 : Int64) (l14 : Int64) (st0 : Int32) : Option Int32 :=
  k17 l8 l10 l12 l14 st0
def fX4_isMore_188 (x16 : Int32) (x17 : Int32) (st0 : Int32) : Option Int32 :=
  if x16 = 0 then (if zB x17 = true then (some x17) else none) else (if zB st0 = true then (some st0) else none)
def fX4_isMore_187 (x16 : Int32) (x17 : Int32) : Option Int32 :=
  fX4_isMore_188 x16 x17 (0 : Int32)
def fX4_isMore_138 (l8 : Int64) (l10 : Int64) (l12 : Int64) (l14 : Int64) (x16 : Int32) (st0 : Int32) : Option Int32 :=
  if (lg_cmp l14 (0 : Int64)) = 0 then (if (lg_cmp l10 (0 : Int64)) ≤ 0 then (fX4_isMore_188 x16 st0 (0 : Int32)) else (fX4_isMore_188 x16 st0 (1 : Int32))) else (if (lg_cmp l10 (0 : Int64)) ≤ 0 then (fX4_isMore_187 x16 st0) else (if l10 = 0 then none else (if l14 = 0 then none else (if 0 ≤ (lg_cmp (l8 / l10) (l12 / l14)) then (fX4_isMore_187 x16 st0) else (fX4_isMore_188 x16 st0 (1 : Int32))))))
def fX4_isMore_137 (l8 : Int64) (l10 : Int64) (l12 : Int64) (l14 : Int64) (x16 : Int32) : Option Int32 :=
  fX4_isMore_138 l8 l10 l12 l14 x16 (0 : Int32)
def fX4_isMore_90 (l8 : Int64) (l10 : Int64) (l12 : Int64) (l14 : Int64) (x16 : Int32) : Option Int32 :=
  if (lg_cmp l10 (0 : Int64)) = 0 then (if (lg_cmp l14 (0 : Int64)) ≤ 0 then (fX4_isMore_138 l8 l10 l12 l14 x16 (0 : Int32)) else (fX4_isMore_138 l8 l10 l12 l14 x16 (1 : Int32))) else (if (lg_cmp l14 (0 : Int64)) ≤ 0 then (fX4_isMore_137 l8 l10 l12 l14 x16) else (if l10 = 0 then none else (if l14 = 0 then none else (if (lg_cmp (l8 / l10) (l12 / l14)) ≤ 0 then (fX4_isMore_137 l8 l10 l12 l14 x16) else (fX4_isMore_138 l8 l10 l12 l14 x16 (1 : Int32))))))
def fX4_isMore_17_b (k17 : Int64 → Int64 → Int64 → Int64 → Int32 → Option Int32) (l8 : Int64) (l10 : Int64) (l12 : Int64) (l14 : Int64) (x16 : Int32) : Option Int32 :=
  if (lg_cmp l10 (0 : Int64)) ≤ 0 then (fX4_isMore_90 l8 l10 l12 l14 x16) else (if (lg_cmp l14 (0 : Int64)) ≤ 0 then (fX4_isMore_90 l8 l10 l12 l14 x16) else (if l10 = 0 then none else (if l14 = 0 then none else (if (lg_cmp (l8 / l10) (l12 / l14)) = 0 then (if l10 = 0 then none else (elet (l8 - l8 / l10 * l10) (fun z7 => if l14 = 0 then none else (elet (l12 - l12 / l14 * l14) (fun z9 => if x16 = 0 then (fX4_isMore_85 k17 l10 z7 l14 z9 (1 : Int32)) else (fX4_isMore_85 k17 l10 z7 l14 z9 (0 : Int32))))))) else (fX4_isMore_90 l8 l10 l12 l14 x16)))))
def fX4_isMore_17 : Nat → Int64 → Int64 → Int64 → Int64 → Int32 → Option Int32
  | 0 => fun _ _ _ _ _ => none
  | n + 1 => fX4_isMore_17_b (fX4_isMore_17 n)
def fX4_isMore (j0 : Int64) (j2 : Int64) (j4 : Int64) (j6 : Int64) : Option Int32 :=
  fX4_isMore_17 FU j0 j2 j4 j6 (0 : Int32)
set_option maxHeartbeats 8000000 in
set_option maxRecDepth 100000 in
theorem mX4_isMore (l : Launch) (dC : Nat → ClassId) (dI : Nat → Nat → Nat) (cI cJ : ClassId) (sz : Nat) (j0 : Int64) (j2 : Int64) (j4 : Int64) (j6 : Int64) (y : Int32) (hf : fX4_isMore j0 j2 j4 j6 = some y) : Met l yX4_isMore wsX4_isMore ({ frames := 0, cells := 0, slots := 0, locals := 0 }) (cPc dC dI cI cJ [.long j0, .long j2, .long j4, .long j6] [] sz) (va_Qi (fun r (_ : Unit) => r = y) (fun _ t => cB dC dI (va_A [] sz) [] t) (va_A [] sz)) 0 0 (va_A [] sz) := by
  refine Met.ofW (cc := cX4_isMore) (maxL := 21) (ret := (some .boolean)) (by decide) rfl ?_
  intro p e s m args below meth c s₁ B hml hv
  obtain ⟨rfl, hsz, hP, hK, hD0, hN⟩ := hv
  have hx := B.exec
  have hb := B.bytes
  have hr := B.returns
  have hts := atoms_spec (ws := wsX4_isMore) B.pre
  have hown : s.vm.findClass RX4 = some m.cls := findClass_of_methodNamed B.named
  have hlocks := B.notSynchronized
  subst hsz
  have hD := hD0.self (sz := s.heap.size)
  generalize hAe : va_A [] s.heap.size = A at hD hN ⊢
  have hA : ∀ q : Nat, s.heap.size ≤ q → A q := fun q h => by rw [← hAe]; exact Or.inr h
  have hP : va_P (dC, dI) vwCl [] s.heap := hP
  have hl := lv_entry ([.long j0, .long j2, .long j4, .long j6]) (n := 21) (Nat.le_of_ble_eq_true rfl)
  rw [lg_entry_eq]
  generalize (lg_sl ([.long j0, .long j2, .long j4, .long j6]) ++ List.replicate (21 - (lg_sl ([.long j0, .long j2, .long j4, .long j6])).length) Slot.unset).toArray = ls at hl ⊢
  have hl : lv_has ls 21 [(0, .long j0), (2, .long j2), (4, .long j4), (6, .long j6)] := hl
  refine nameH (fun H locs hHe hLe => ?_)
  have hP : va_P (dC, dI) vwCl [] H := by rw [hHe]; exact hP
  have hS : va_S A s.heap H locs := by rw [hHe, hLe]; exact va_S.rf
  refine withW (fun WW hWW => ?_)
  have J85 : ∀ (k17 : Int64 → Int64 → Int64 → Int64 → Int32 → Option Int32) (hk17 : ∀ (l8 : Int64) (l10 : Int64) (l12 : Int64) (l14 : Int64) (x16 : Int32) (H : Heap) (locs : List Loc) (ls : Array Slot), va_P (dC, dI) vwCl [] H → va_D A [] → va_S A s.heap H locs → lv_has ls 21 [(8, .long l8), (10, .long l10), (12, .long l12), (14, .long l14), (16, .int x16)] → k17 l8 l10 l12 l14 x16 = some y → WW H locs 0 0 ls 17 []) (l8 : Int64) (l10 : Int64) (l12 : Int64) (l14 : Int64) (st0 : Int32) (H : Heap) (locs : List Loc) (ls : Array Slot), va_P (dC, dI) vwCl [] H → va_D A [] → va_S A s.heap H locs → lv_has ls 21 [(8, .long l8), (10, .long l10), (12, .long l12), (14, .long l14)] → fX4_isMore_85 k17 l8 l10 l12 l14 st0 = some y → WW H locs 0 0 ls 85 [.int st0] := by
    intro k17 hk17 l8 l10 l12 l14 st0 H locs ls hP hD hS hl hf
    unfold fX4_isMore_85 at hf
    refine (hWW _ _ _ _ _ _ _).2 ?_
    refine lv_istore (lv' := [(16, .int st0), (8, .long l8), (10, .long l10), (12, .long l12), (14, .long l14)]) hx hb dX4_isMore_85 hl (by decide) rfl (fun ls hl => ?_)
    refine lv_goto (tgt := 17) hx hb dX4_isMore_87 (by decide) ?_
    exact (hWW _ _ _ _ _ _ _).1 (hk17 l8 l10 l12 l14 st0 H locs ls hP hD hS (lv_sub hl [1, 2, 3, 4, 0] rfl) hf)
  have J188 : ∀ (x16 : Int32) (x17 : Int32) (st0 : Int32) (H : Heap) (locs : List Loc) (ls : Array Slot), va_P (dC, dI) vwCl [] H → va_D A [] → va_S A s.heap H locs → lv_has ls 21 [(16, .int x16), (17, .int x17)] → fX4_isMore_188 x16 x17 st0 = some y → WW H locs 0 0 ls 188 [.int st0] := by
    intro x16 x17 st0 H locs ls hP hD hS hl hf
    unfold fX4_isMore_188 at hf
    refine (hWW _ _ _ _ _ _ _).2 ?_
    refine lv_istore (lv' := [(18, .int st0), (16, .int x16), (17, .int x17)]) hx hb dX4_isMore_188 hl (by decide) rfl (fun ls hl => ?_)
    refine lv_iload hx hb dX4_isMore_190 (lv_at hl 1 rfl) ?_
    refine lv_if_eq (tgt := 200) hx hb dX4_isMore_192 (by decide) (fun c23 => ?_) (fun c23 => ?_)
    · have hf := oif_t c23 hf
      refine lv_iload hx hb dX4_isMore_200 (lv_at hl 2 rfl) ?_
      obtain ⟨hz24, hf⟩ := ozb hf
      obtain rfl := Option.some.inj hf
      exact W.zret (v := x17) hx hb hr hz24 (fun t ht hW => ⟨⟨x17, (), rfl, rfl, by rw [ht]; exact hP, hD⟩, hS.F ht⟩) hS.2.2 dX4_isMore_202
    · have hf := oif_f c23 hf
      refine lv_iload hx hb dX4_isMore_195 (lv_at hl 0 rfl) ?_
      refine lv_goto (tgt := 202) hx hb dX4_isMore_197 (by decide) ?_
      obtain ⟨hz25, hf⟩ := ozb hf
      obtain rfl := Option.some.inj hf
      exact W.zret (v := st0) hx hb hr hz25 (fun t ht hW => ⟨⟨st0, (), rfl, rfl, by rw [ht]; exact hP, hD⟩, hS.F ht⟩) hS.2.2 dX4_isMore_202
  have J187 : ∀ (x16 : Int32) (x17 : Int32) (H : Heap) (locs : List Loc) (ls : Array Slot), va_P (dC, dI) vwCl [] H → va_D A [] → va_S A s.heap H locs → lv_has ls 21 [(16, .int x16), (17, .int x17)] → fX4_isMore_187 x16 x17 = some y → WW H locs 0 0 ls 187 [] := by
    intro x16 x17 H locs ls hP hD hS hl hf
    unfold fX4_isMore_187 at hf
    refine (hWW _ _ _ _ _ _ _).2 ?_
    refine lv_iconst (v := 0) hx hb dX4_isMore_187 (by decide) ?_
    exact (hWW _ _ _ _ _ _ _).1 (J188 x16 x17 (0 : Int32) H locs ls hP hD hS (lv_sub hl [0, 1] rfl) hf)
  have J138 : ∀ (l8 : Int64) (l10 : Int64) (l12 : Int64) (l14 : Int64) (x16 : Int32) (st0 : Int32) (H : Heap) (locs : List Loc) (ls : Array Slot), va_P (dC, dI) vwCl [] H → va_D A [] → va_S A s.heap H locs → lv_has ls 21 [(8, .long l8), (10, .long l10), (12, .long l12), (14, .long l14), (16, .int x16)] → fX4_isMore_138 l8 l10 l12 l14 x16 st0 = some y → WW H locs 0 0 ls 138 [.int st0] := by
    intro l8 l10 l12 l14 x16 st0 H locs ls hP hD hS hl hf
    unfold fX4_isMore_138 at hf
    refine (hWW _ _ _ _ _ _ _).2 ?_
    refine lv_istore (lv' := [(17, .int st0), (8, .long l8), (10, .long l10), (12, .long l12), (14, .long l14), (16, .int x16)]) hx hb dX4_isMore_138 hl (by decide) rfl (fun ls hl => ?_)
    refine lv_lload hx hb dX4_isMore_140 (lv_at hl 4 rfl) ?_
    refine lv_lconst (v := 0) hx hb dX4_isMore_142 (by decide) ?_
    refine W.lcmp hx hb dX4_isMore_143 ?_
    refine lv_if_ne (tgt := 162) hx hb dX4_isMore_144 (by decide) (fun c17 => ?_) (fun c17 => ?_)
    · have hf := oif_f c17 hf
      refine lv_lload hx hb dX4_isMore_162 (lv_at hl 2 rfl) ?_
      refine lv_lconst (v := 0) hx hb dX4_isMore_164 (by decide) ?_
      refine W.lcmp hx hb dX4_isMore_165 ?_
      refine lv_if_le (tgt := 187) hx hb dX4_isMore_166 (by decide) (fun c18 => ?_) (fun c18 => ?_)
      · have hf := oif_t c18 hf
        exact (hWW _ _ _ _ _ _ _).1 (J187 x16 st0 H locs ls hP hD hS (lv_sub hl [5, 0] rfl) hf)
      · have hf := oif_f c18 hf
        refine lv_lload hx hb dX4_isMore_169 (lv_at hl 1 rfl) ?_
        refine lv_lload hx hb dX4_isMore_171 (lv_at hl 2 rfl) ?_
        obtain ⟨hd19, hf⟩ := odiv hf
        refine lv_ldiv hx hb dX4_isMore_173 hd19 ?_
        refine lv_lload hx hb dX4_isMore_174 (lv_at hl 3 rfl) ?_
        refine lv_lload hx hb dX4_isMore_176 (lv_at hl 4 rfl) ?_
        obtain ⟨hd20, hf⟩ := odiv hf
        refine lv_ldiv hx hb dX4_isMore_178 hd20 ?_
        refine W.lcmp hx hb dX4_isMore_179 ?_
        refine lv_if_ge (tgt := 187) hx hb dX4_isMore_180 (by decide) (fun c21 => ?_) (fun c21 => ?_)
        · have hf := oif_t c21 hf
          exact (hWW _ _ _ _ _ _ _).1 (J187 x16 st0 H locs ls hP hD hS (lv_sub hl [5, 0] rfl) hf)
        · have hf := oif_f c21 hf
          refine lv_iconst (v := 1) hx hb dX4_isMore_183 (by decide) ?_
          refine lv_goto (tgt := 188) hx hb dX4_isMore_184 (by decide) ?_
          exact (hWW _ _ _ _ _ _ _).1 (J188 x16 st0 (1 : Int32) H locs ls hP hD hS (lv_sub hl [5, 0] rfl) hf)
    · have hf := oif_t c17 hf
      refine lv_lload hx hb dX4_isMore_147 (lv_at hl 2 rfl) ?_
      refine lv_lconst (v := 0) hx hb dX4_isMore_149 (by decide) ?_
      refine W.lcmp hx hb dX4_isMore_150 ?_
      refine lv_if_le (tgt := 158) hx hb dX4_isMore_151 (by decide) (fun c22 => ?_) (fun c22 => ?_)
      · have hf := oif_t c22 hf
        refine lv_iconst (v := 0) hx hb dX4_isMore_158 (by decide) ?_
        refine lv_goto (tgt := 188) hx hb dX4_isMore_159 (by decide) ?_
        exact (hWW _ _ _ _ _ _ _).1 (J188 x16 st0 (0 : Int32) H locs ls hP hD hS (lv_sub hl [5, 0] rfl) hf)
      · have hf := oif_f c22 hf
        refine lv_iconst (v := 1) hx hb dX4_isMore_154 (by decide) ?_
        refine lv_goto (tgt := 188) hx hb dX4_isMore_155 (by decide) ?_
        exact (hWW _ _ _ _ _ _ _).1 (J188 x16 st0 (1 : Int32) H locs ls hP hD hS (lv_sub hl [5, 0] rfl) hf)
  have J137 : ∀ (l8 : Int64) (l10 : Int64) (l12 : Int64) (l14 : Int64) (x16 : Int32) (H : Heap) (locs : List Loc) (ls : Array Slot), va_P (dC, dI) vwCl [] H → va_D A [] → va_S A s.heap H locs → lv_has ls 21 [(8, .long l8), (10, .long l10), (12, .long l12), (14, .long l14), (16, .int x16)] → fX4_isMore_137 l8 l10 l12 l14 x16 = some y → WW H locs 0 0 ls 137 [] := by
    intro l8 l10 l12 l14 x16 H locs ls hP hD hS hl hf
    unfold fX4_isMore_137 at hf
    refine (hWW _ _ _ _ _ _ _).2 ?_
    refine lv_iconst (v := 0) hx hb dX4_isMore_137 (by decide) ?_
    exact (hWW _ _ _ _ _ _ _).1 (J138 l8 l10 l12 l14 x16 (0 : Int32) H locs ls hP hD hS (lv_sub hl [0, 1, 2, 3, 4] rfl) hf)
  have J90 : ∀ (l8 : Int64) (l10 : Int64) (l12 : Int64) (l14 : Int64) (x16 : Int32) (H : Heap) (locs : List Loc) (ls : Array Slot), va_P (dC, dI) vwCl [] H → va_D A [] → va_S A s.heap H locs → lv_has ls 21 [(8, .long l8), (10, .long l10), (12, .long l12), (14, .long l14), (16, .int x16)] → fX4_isMore_90 l8 l10 l12 l14 x16 = some y → WW H locs 0 0 ls 90 [] := by
    intro l8 l10 l12 l14 x16 H locs ls hP hD hS hl hf
    unfold fX4_isMore_90 at hf
    refine (hWW _ _ _ _ _ _ _).2 ?_
    refine lv_lload hx hb dX4_isMore_90 (lv_at hl 1 rfl) ?_
    refine lv_lconst (v := 0) hx hb dX4_isMore_92 (by decide) ?_
    refine W.lcmp hx hb dX4_isMore_93 ?_
    refine lv_if_ne (tgt := 112) hx hb dX4_isMore_94 (by decide) (fun c11 => ?_) (fun c11 => ?_)
    · have hf := oif_f c11 hf
      refine lv_lload hx hb dX4_isMore_112 (lv_at hl 3 rfl) ?_
      refine lv_lconst (v := 0) hx hb dX4_isMore_114 (by decide) ?_
      refine W.lcmp hx hb dX4_isMore_115 ?_
      refine lv_if_le (tgt := 137) hx hb dX4_isMore_116 (by decide) (fun c12 => ?_) (fun c12 => ?_)
      · have hf := oif_t c12 hf
        exact (hWW _ _ _ _ _ _ _).1 (J137 l8 l10 l12 l14 x16 H locs ls hP hD hS (lv_sub hl [0, 1, 2, 3, 4] rfl) hf)
      · have hf := oif_f c12 hf
        refine lv_lload hx hb dX4_isMore_119 (lv_at hl 0 rfl) ?_
        refine lv_lload hx hb dX4_isMore_121 (lv_at hl 1 rfl) ?_
        obtain ⟨hd13, hf⟩ := odiv hf
        refine lv_ldiv hx hb dX4_isMore_123 hd13 ?_
        refine lv_lload hx hb dX4_isMore_124 (lv_at hl 2 rfl) ?_
        refine lv_lload hx hb dX4_isMore_126 (lv_at hl 3 rfl) ?_
        obtain ⟨hd14, hf⟩ := odiv hf
        refine lv_ldiv hx hb dX4_isMore_128 hd14 ?_
        refine W.lcmp hx hb dX4_isMore_129 ?_
        refine lv_if_le (tgt := 137) hx hb dX4_isMore_130 (by decide) (fun c15 => ?_) (fun c15 => ?_)
        · have hf := oif_t c15 hf
          exact (hWW _ _ _ _ _ _ _).1 (J137 l8 l10 l12 l14 x16 H locs ls hP hD hS (lv_sub hl [0, 1, 2, 3, 4] rfl) hf)
        · have hf := oif_f c15 hf
          refine lv_iconst (v := 1) hx hb dX4_isMore_133 (by decide) ?_
          refine lv_goto (tgt := 138) hx hb dX4_isMore_134 (by decide) ?_
          exact (hWW _ _ _ _ _ _ _).1 (J138 l8 l10 l12 l14 x16 (1 : Int32) H locs ls hP hD hS (lv_sub hl [0, 1, 2, 3, 4] rfl) hf)
    · have hf := oif_t c11 hf
      refine lv_lload hx hb dX4_isMore_97 (lv_at hl 3 rfl) ?_
      refine lv_lconst (v := 0) hx hb dX4_isMore_99 (by decide) ?_
      refine W.lcmp hx hb dX4_isMore_100 ?_
      refine lv_if_le (tgt := 108) hx hb dX4_isMore_101 (by decide) (fun c16 => ?_) (fun c16 => ?_)
      · have hf := oif_t c16 hf
        refine lv_iconst (v := 0) hx hb dX4_isMore_108 (by decide) ?_
        refine lv_goto (tgt := 138) hx hb dX4_isMore_109 (by decide) ?_
        exact (hWW _ _ _ _ _ _ _).1 (J138 l8 l10 l12 l14 x16 (0 : Int32) H locs ls hP hD hS (lv_sub hl [0, 1, 2, 3, 4] rfl) hf)
      · have hf := oif_f c16 hf
        refine lv_iconst (v := 1) hx hb dX4_isMore_104 (by decide) ?_
        refine lv_goto (tgt := 138) hx hb dX4_isMore_105 (by decide) ?_
        exact (hWW _ _ _ _ _ _ _).1 (J138 l8 l10 l12 l14 x16 (1 : Int32) H locs ls hP hD hS (lv_sub hl [0, 1, 2, 3, 4] rfl) hf)
  have L17 : ∀ (n : Nat) (l8 : Int64) (l10 : Int64) (l12 : Int64) (l14 : Int64) (x16 : Int32) (H : Heap) (locs : List Loc) (ls : Array Slot), va_P (dC, dI) vwCl [] H → va_D A [] → va_S A s.heap H locs → lv_has ls 21 [(8, .long l8), (10, .long l10), (12, .long l12), (14, .long l14), (16, .int x16)] → fX4_isMore_17 n l8 l10 l12 l14 x16 = some y → WW H locs 0 0 ls 17 [] := by
    intro n
    induction n with
    | zero =>
      intro l8 l10 l12 l14 x16 H locs ls hP hD hS hl hf
      exact onone hf
    | succ n ih =>
      intro l8 l10 l12 l14 x16 H locs ls hP hD hS hl hf
      have hf : fX4_isMore_17_b (fX4_isMore_17 n) l8 l10 l12 l14 x16 = some y := hf
      generalize fX4_isMore_17 n = k17 at hf ih
      have hk17 := ih
      clear ih
      unfold fX4_isMore_17_b at hf
      refine (hWW _ _ _ _ _ _ _).2 ?_
      refine lv_lload hx hb dX4_isMore_17 (lv_at hl 1 rfl) ?_
      refine lv_lconst (v := 0) hx hb dX4_isMore_19 (by decide) ?_
      refine W.lcmp hx hb dX4_isMore_20 ?_
      refine lv_if_le (tgt := 90) hx hb dX4_isMore_21 (by decide) (fun c1 => ?_) (fun c1 => ?_)
      · have hf := oif_t c1 hf
        exact (hWW _ _ _ _ _ _ _).1 (J90 l8 l10 l12 l14 x16 H locs ls hP hD hS (lv_sub hl [0, 1, 2, 3, 4] rfl) hf)
      · have hf := oif_f c1 hf
        refine lv_lload hx hb dX4_isMore_24 (lv_at hl 3 rfl) ?_
        refine lv_lconst (v := 0) hx hb dX4_isMore_26 (by decide) ?_
        refine W.lcmp hx hb dX4_isMore_27 ?_
        refine lv_if_le (tgt := 90) hx hb dX4_isMore_28 (by decide) (fun c2 => ?_) (fun c2 => ?_)
        · have hf := oif_t c2 hf
          exact (hWW _ _ _ _ _ _ _).1 (J90 l8 l10 l12 l14 x16 H locs ls hP hD hS (lv_sub hl [0, 1, 2, 3, 4] rfl) hf)
        · have hf := oif_f c2 hf
          refine lv_lload hx hb dX4_isMore_31 (lv_at hl 0 rfl) ?_
          refine lv_lload hx hb dX4_isMore_33 (lv_at hl 1 rfl) ?_
          obtain ⟨hd3, hf⟩ := odiv hf
          refine lv_ldiv hx hb dX4_isMore_35 hd3 ?_
          refine lv_lload hx hb dX4_isMore_36 (lv_at hl 2 rfl) ?_
          refine lv_lload hx hb dX4_isMore_38 (lv_at hl 3 rfl) ?_
          obtain ⟨hd4, hf⟩ := odiv hf
          refine lv_ldiv hx hb dX4_isMore_40 hd4 ?_
          refine W.lcmp hx hb dX4_isMore_41 ?_
          refine lv_if_ne (tgt := 90) hx hb dX4_isMore_42 (by decide) (fun c5 => ?_) (fun c5 => ?_)
          · have hf := oif_f c5 hf
            exact (hWW _ _ _ _ _ _ _).1 (J90 l8 l10 l12 l14 x16 H locs ls hP hD hS (lv_sub hl [0, 1, 2, 3, 4] rfl) hf)
          · have hf := oif_t c5 hf
            refine lv_lload hx hb dX4_isMore_45 (lv_at hl 0 rfl) ?_
            refine lv_lload hx hb dX4_isMore_47 (lv_at hl 1 rfl) ?_
            obtain ⟨hd6, hf⟩ := odiv hf
            refine lv_lrem hx hb dX4_isMore_49 hd6 ?_
            obtain ⟨z7, ez7, hf⟩ := elet_out hf
            refine lvn_l ez7 ?_
            refine lv_lstore (lv' := [(17, .long z7), (8, .long l8), (10, .long l10), (12, .long l12), (14, .long l14), (16, .int x16)]) hx hb dX4_isMore_50 hl (by decide) rfl (fun ls hl => ?_)
            refine lv_lload hx hb dX4_isMore_52 (lv_at hl 3 rfl) ?_
            refine lv_lload hx hb dX4_isMore_54 (lv_at hl 4 rfl) ?_
            obtain ⟨hd8, hf⟩ := odiv hf
            refine lv_lrem hx hb dX4_isMore_56 hd8 ?_
            obtain ⟨z9, ez9, hf⟩ := elet_out hf
            refine lvn_l ez9 ?_
            refine lv_lstore (lv' := [(19, .long z9), (17, .long z7), (8, .long l8), (10, .long l10), (12, .long l12), (14, .long l14), (16, .int x16)]) hx hb dX4_isMore_57 hl (by decide) rfl (fun ls hl => ?_)
            refine lv_lload hx hb dX4_isMore_59 (lv_at hl 3 rfl) ?_
            refine lv_lstore (lv' := [(8, .long l10), (19, .long z9), (17, .long z7), (10, .long l10), (12, .long l12), (14, .long l14), (16, .int x16)]) hx hb dX4_isMore_61 hl (by decide) rfl (fun ls hl => ?_)
            refine lv_lload hx hb dX4_isMore_63 (lv_at hl 2 rfl) ?_
            refine lv_lstore (lv' := [(10, .long z7), (8, .long l10), (19, .long z9), (17, .long z7), (12, .long l12), (14, .long l14), (16, .int x16)]) hx hb dX4_isMore_65 hl (by decide) rfl (fun ls hl => ?_)
            refine lv_lload hx hb dX4_isMore_67 (lv_at hl 5 rfl) ?_
            refine lv_lstore (lv' := [(12, .long l14), (10, .long z7), (8, .long l10), (19, .long z9), (17, .long z7), (14, .long l14), (16, .int x16)]) hx hb dX4_isMore_69 hl (by decide) rfl (fun ls hl => ?_)
            refine lv_lload hx hb dX4_isMore_71 (lv_at hl 3 rfl) ?_
            refine lv_lstore (lv' := [(14, .long z9), (12, .long l14), (10, .long z7), (8, .long l10), (19, .long z9), (17, .long z7), (16, .int x16)]) hx hb dX4_isMore_73 hl (by decide) rfl (fun ls hl => ?_)
            refine lv_iload hx hb dX4_isMore_75 (lv_at hl 6 rfl) ?_
            refine lv_if_ne (tgt := 84) hx hb dX4_isMore_77 (by decide) (fun c10 => ?_) (fun c10 => ?_)
            · have hf := oif_f c10 hf
              refine lv_iconst (v := 0) hx hb dX4_isMore_84 (by decide) ?_
              exact (hWW _ _ _ _ _ _ _).1 (J85 k17 hk17 l10 z7 l14 z9 (0 : Int32) H locs ls hP hD hS (lv_sub hl [3, 2, 1, 0] rfl) hf)
            · have hf := oif_t c10 hf
              refine lv_iconst (v := 1) hx hb dX4_isMore_80 (by decide) ?_
              refine lv_goto (tgt := 85) hx hb dX4_isMore_81 (by decide) ?_
              exact (hWW _ _ _ _ _ _ _).1 (J85 k17 hk17 l10 z7 l14 z9 (1 : Int32) H locs ls hP hD hS (lv_sub hl [3, 2, 1, 0] rfl) hf)
  refine (hWW _ _ _ _ _ _ _).2 ?_
  unfold fX4_isMore at hf
  refine lv_lload_n hx hb dX4_isMore_0 rfl (lv_at hl 0 rfl) ?_
  refine lv_lstore (lv' := [(8, .long j0), (0, .long j0), (2, .long j2), (4, .long j4), (6, .long j6)]) hx hb dX4_isMore_1 hl (by decide) rfl (fun ls hl => ?_)
  refine lv_lload_n hx hb dX4_isMore_3 rfl (lv_at hl 2 rfl) ?_
  refine lv_lstore (lv' := [(10, .long j2), (8, .long j0), (0, .long j0), (2, .long j2), (4, .long j4), (6, .long j6)]) hx hb dX4_isMore_4 hl (by decide) rfl (fun ls hl => ?_)
  refine lv_lload hx hb dX4_isMore_6 (lv_at hl 4 rfl) ?_
  refine lv_lstore (lv' := [(12, .long j4), (10, .long j2), (8, .long j0), (0, .long j0), (2, .long j2), (4, .long j4), (6, .long j6)]) hx hb dX4_isMore_8 hl (by decide) rfl (fun ls hl => ?_)
  refine lv_lload hx hb dX4_isMore_10 (lv_at hl 6 rfl) ?_
  refine lv_lstore (lv' := [(14, .long j6), (12, .long j4), (10, .long j2), (8, .long j0), (0, .long j0), (2, .long j2), (4, .long j4), (6, .long j6)]) hx hb dX4_isMore_12 hl (by decide) rfl (fun ls hl => ?_)
  refine lv_iconst (v := 0) hx hb dX4_isMore_14 (by decide) ?_
  refine lv_istore (lv' := [(16, .int 0), (14, .long j6), (12, .long j4), (10, .long j2), (8, .long j0), (0, .long j0), (2, .long j2), (4, .long j4), (6, .long j6)]) hx hb dX4_isMore_15 hl (by decide) rfl (fun ls hl => ?_)
  exact (hWW _ _ _ _ _ _ _).1 (L17 FU j0 j2 j4 j6 (0 : Int32) H locs ls hP hD hS (lv_sub hl [4, 3, 2, 1, 0] rfl) hf)
def fX4_hardest_180 (k61 : BX4 → Int32 → Int32 → Int64 → Int64 → Int32 → Option (Int64 × BX4)) (vM : BX4) (x1 : Int32) (x2 : Int32) (l3 : Int64) (l5 : Int64) (x7 : Int32) : Option (Int64 × BX4) :=
  elet (x7 + 1) (fun z22 => k61 vM x1 x2 l3 l5 z22)
def fX4_hardest_178 (k61 : BX4 → Int32 → Int32 → Int64 → Int64 → Int32 → Option (Int64 × BX4)) (vM : BX4) (x1 : Int32) (x2 : Int32) (l3 : Int64) (x7 : Int32) (st0 : Int64) : Option (Int64 × BX4) :=
  fX4_hardest_180 k61 vM x1 x2 l3 st0 x7
def fX4_hardest_163 (k61 : BX4 → Int32 → Int32 → Int64 → Int64 → Int32 → Option (Int64 × BX4)) (vM : BX4) (x1 : Int32) (x2 : Int32) (l5 : Int64) (x7 : Int32) (x8 : Int32) (st0 : Int64) : Option (Int64 × BX4) :=
  if x8 = 0 then (fX4_hardest_178 k61 vM x1 x2 st0 x7 l5) else (fX4_hardest_178 k61 vM x1 x2 st0 x7 (p4_farDown vM))
def fX4_hardest_149 (k61 : BX4 → Int32 → Int32 → Int64 → Int64 → Int32 → Option (Int64 × BX4)) (vM : BX4) (x1 : Int32) (l3 : Int64) (l5 : Int64) (x7 : Int32) (x8 : Int32) (st0 : Int32) : Option (Int64 × BX4) :=
  if x8 = 0 then (fX4_hardest_163 k61 vM x1 st0 l5 x7 x8 l3) else (fX4_hardest_163 k61 vM x1 st0 l5 x7 x8 (p4_farUp vM))
def fX4_hardest_136 (k61 : BX4 → Int32 → Int32 → Int64 → Int64 → Int32 → Option (Int64 × BX4)) (vM : BX4) (x1 : Int32) (x2 : Int32) (l3 : Int64) (l5 : Int64) (x7 : Int32) (st0 : Int32) : Option (Int64 × BX4) :=
  if st0 = 0 then (fX4_hardest_149 k61 vM x1 l3 l5 x7 st0 x2) else (fX4_hardest_149 k61 vM x1 l3 l5 x7 st0 x7)
def fX4_hardest_131 (k61 : BX4 → Int32 → Int32 → Int64 → Int64 → Int32 → Option (Int64 × BX4)) (vM : BX4) (x1 : Int32) (x2 : Int32) (l3 : Int64) (l5 : Int64) (x7 : Int32) : Option (Int64 × BX4) :=
  fX4_hardest_136 k61 vM x1 x2 l3 l5 x7 (1 : Int32)
def fX4_hardest_61_b (k61 : BX4 → Int32 → Int32 → Int64 → Int64 → Int32 → Option (Int64 × BX4)) (vM : BX4) (x1 : Int32) (x2 : Int32) (l3 : Int64) (l5 : Int64) (x7 : Int32) : Option (Int64 × BX4) :=
  if ((2 : Int32) * ((p4_s vM) ((1 : Int32)).toNatClampNeg)) ≤ x7 then (if 0 ≤ x2 then (if x1 = 0 then (some (((x2 / (2 : Int32))).toInt64, vM)) else (if x1 = (1 : Int32) then (some (((x2 - x2 / (2 : Int32) * (2 : Int32))).toInt64, vM)) else (if x1 = (2 : Int32) then (some (l3, vM)) else (some (l5, vM))))) else (some ((-1000004), vM))) else ((fX4_stopAt vM (x7 / (2 : Int32)) (x7 - x7 / (2 : Int32) * (2 : Int32))).bind (fun y11 => if inB y11 24 = true then (if ((p4_s vM) (y11).toNatClampNeg) < 0 then (fX4_hardest_180 k61 vM x1 x2 l3 l5 x7) else ((fX4_stopAt vM (x7 / (2 : Int32)) (x7 - x7 / (2 : Int32) * (2 : Int32))).bind (fun y14 => (fX4_moves vM y14).bind (fun y15 => if x2 < 0 then (fX4_hardest_131 k61 y15 x1 x2 l3 l5 x7) else ((fX4_isMore (p4_farUp y15) (p4_farDown y15) l3 l5).bind (fun y17 => if y17 = 0 then (fX4_hardest_136 k61 y15 x1 x2 l3 l5 x7 (0 : Int32)) else (fX4_hardest_131 k61 y15 x1 x2 l3 l5 x7))))))) else none))
def fX4_hardest_61 : Nat → BX4 → Int32 → Int32 → Int64 → Int64 → Int32 → Option (Int64 × BX4)
  | 0 => fun _ _ _ _ _ _ => none
  | n + 1 => fX4_hardest_61_b (fX4_hardest_61 n)
def fX4_hardest_27_b (k27 : BX4 → Int32 → Int32 → Option (Int64 × BX4)) (vM : BX4) (x1 : Int32) (x2 : Int32) : Option (Int64 × BX4) :=
  if (4 : Int32) ≤ x2 then (fX4_hardest_61 FU vM x1 (-1000004 : Int32) (0 : Int64) (1 : Int64) (0 : Int32)) else (if inB x2 4 = true then (if inB x2 4 = true then (elet (s4_kept vM (vp_updL (p4_kept vM) (x2).toNatClampNeg ((p4_upper vM) (x2).toNatClampNeg))) (fun b4 => elet (x2 + 1) (fun z5 => k27 b4 x1 z5))) else none) else none)
def fX4_hardest_27 : Nat → BX4 → Int32 → Int32 → Option (Int64 × BX4)
  | 0 => fun _ _ _ => none
  | n + 1 => fX4_hardest_27_b (fX4_hardest_27 n)
def fX4_hardest (vM : BX4) (i1 : Int32) : Option (Int64 × BX4) :=
  (fX4_in i1 (0 : Int32) (3 : Int32)).bind (fun y23 => if y23 = 0 then (some ((-1000001), vM)) else ((fX4_rests vM).bind (fun y25 => elet (s4_keptLower y25 (p4_lower y25)) (fun b26 => fX4_hardest_27 FU b26 i1 (0 : Int32)))))
set_option maxHeartbeats 8000000 in
set_option maxRecDepth 100000 in
theorem mX4_hardest (l : Launch) (dC : Nat → ClassId) (dI : Nat → Nat → Nat) (cI cJ : ClassId) (aM : Nat → Nat) (sz : Nat) (vM : BX4) (i1 : Int32) (y : (Int64 × BX4)) (hf : fX4_hardest vM i1 = some y) : Met l yX4_hardest wsX4_hardest ({ frames := 6, cells := 0, slots := 0, locals := 141 }) (cPc dC dI cI cJ [.ref (aM 0), .int i1] [k4_0 aM vM, k4_1 cI aM vM, k4_2 cI aM vM, k4_3 cI aM vM, k4_4 cI aM vM, k4_5 cJ aM vM, k4_6 cI aM vM, k4_7 cJ aM vM, k4_8 cJ aM vM, k4_9 cI aM vM] sz) (va_Ql (fun r (_ : Unit) => r = y.1) (fun _ t => cB dC dI (va_A [k4_0 aM vM, k4_1 cI aM vM, k4_2 cI aM vM, k4_3 cI aM vM, k4_4 cI aM vM, k4_5 cJ aM vM, k4_6 cI aM vM, k4_7 cJ aM vM, k4_8 cJ aM vM, k4_9 cI aM vM] sz) [k4_0 aM y.2, k4_1 cI aM y.2, k4_2 cI aM y.2, k4_3 cI aM y.2, k4_4 cI aM y.2, k4_5 cJ aM y.2, k4_6 cI aM y.2, k4_7 cJ aM y.2, k4_8 cJ aM y.2, k4_9 cI aM y.2] t) (va_A [k4_0 aM vM, k4_1 cI aM vM, k4_2 cI aM vM, k4_3 cI aM vM, k4_4 cI aM vM, k4_5 cJ aM vM, k4_6 cI aM vM, k4_7 cJ aM vM, k4_8 cJ aM vM, k4_9 cI aM vM] sz)) 0 0 (va_A [k4_0 aM vM, k4_1 cI aM vM, k4_2 cI aM vM, k4_3 cI aM vM, k4_4 cI aM vM, k4_5 cJ aM vM, k4_6 cI aM vM, k4_7 cJ aM vM, k4_8 cJ aM vM, k4_9 cI aM vM] sz) := by
  refine Met.ofW (cc := cX4_hardest) (maxL := 9) (ret := (some .long)) (by decide) rfl ?_
  intro p e s m args below meth c s₁ B hml hv
  obtain ⟨rfl, hsz, hP, hK, hD0, hN⟩ := hv
  have hx := B.exec
  have hb := B.bytes
  have hr := B.returns
  have hts := atoms_spec (ws := wsX4_hardest) B.pre
  have hown : s.vm.findClass RX4 = some m.cls := findClass_of_methodNamed B.named
  have hlocks := B.notSynchronized
  subst hsz
  have hD := hD0.self (sz := s.heap.size)
  generalize hAe : va_A [k4_0 aM vM, k4_1 cI aM vM, k4_2 cI aM vM, k4_3 cI aM vM, k4_4 cI aM vM, k4_5 cJ aM vM, k4_6 cI aM vM, k4_7 cJ aM vM, k4_8 cJ aM vM, k4_9 cI aM vM] s.heap.size = A at hD hN ⊢
  have hA : ∀ q : Nat, s.heap.size ≤ q → A q := fun q h => by rw [← hAe]; exact Or.inr h
  have hP : va_P (dC, dI) vwCl [k4_0 aM vM, k4_1 cI aM vM, k4_2 cI aM vM, k4_3 cI aM vM, k4_4 cI aM vM, k4_5 cJ aM vM, k4_6 cI aM vM, k4_7 cJ aM vM, k4_8 cJ aM vM, k4_9 cI aM vM] s.heap := hP
  have hl := lv_entry ([.ref (aM 0), .int i1]) (n := 9) (Nat.le_of_ble_eq_true rfl)
  rw [lg_entry_eq]
  generalize (lg_sl ([.ref (aM 0), .int i1]) ++ List.replicate (9 - (lg_sl ([.ref (aM 0), .int i1])).length) Slot.unset).toArray = ls at hl ⊢
  have hl : lv_has ls 9 [(0, .ref (aM 0)), (1, .int i1)] := hl
  have hc78 := hts (.constant RX4 78 (-1000004)) (by decide +kernel)
  have hiX4 : ∀ w ∈ u_ws RX4 TX4 21, w ∈ wsX4_hardest := by decide +kernel
  have hgX4_32 := hts (.fieldLink RX4 32 "SpringPlatesModel" "kept" "[J") (by decide +kernel)
  have hgX4_22 := hts (.fieldLink RX4 22 "SpringPlatesModel" "upper" "[J") (by decide +kernel)
  have hgX4_7 := hts (.fieldLink RX4 7 "SpringPlatesModel" "s" "[I") (by decide +kernel)
  have hc153 := hts (.constantLong RX4 153 (-1000004)) (by decide +kernel)
  have hgX4_138 := hts (.fieldLink RX4 138 "SpringPlatesModel" "farUp" "J") (by decide +kernel)
  have hgX4_141 := hts (.fieldLink RX4 141 "SpringPlatesModel" "farDown" "J") (by decide +kernel)
  have hgX4_79 := hts (.fieldLink RX4 79 "SpringPlatesModel" "lower" "J") (by decide +kernel)
  have hgX4_135 := hts (.fieldLink RX4 135 "SpringPlatesModel" "keptLower" "J") (by decide +kernel)
  have hc144 := hts (.constantLong RX4 144 (-1000001)) (by decide +kernel)
  refine nameH (fun H locs hHe hLe => ?_)
  have hP : va_P (dC, dI) vwCl [k4_0 aM vM, k4_1 cI aM vM, k4_2 cI aM vM, k4_3 cI aM vM, k4_4 cI aM vM, k4_5 cJ aM vM, k4_6 cI aM vM, k4_7 cJ aM vM, k4_8 cJ aM vM, k4_9 cI aM vM] H := by rw [hHe]; exact hP
  have hS : va_S A s.heap H locs := by rw [hHe, hLe]; exact va_S.rf
  refine withW (fun WW hWW => ?_)
  have J180 : ∀ (k61 : BX4 → Int32 → Int32 → Int64 → Int64 → Int32 → Option (Int64 × BX4)) (hk61 : ∀ (vM : BX4) (x1 : Int32) (x2 : Int32) (l3 : Int64) (l5 : Int64) (x7 : Int32) (H : Heap) (locs : List Loc) (ls : Array Slot), va_P (dC, dI) vwCl [k4_0 aM vM, k4_1 cI aM vM, k4_2 cI aM vM, k4_3 cI aM vM, k4_4 cI aM vM, k4_5 cJ aM vM, k4_6 cI aM vM, k4_7 cJ aM vM, k4_8 cJ aM vM, k4_9 cI aM vM] H → va_D A [k4_0 aM vM, k4_1 cI aM vM, k4_2 cI aM vM, k4_3 cI aM vM, k4_4 cI aM vM, k4_5 cJ aM vM, k4_6 cI aM vM, k4_7 cJ aM vM, k4_8 cJ aM vM, k4_9 cI aM vM] → va_S A s.heap H locs → lv_has ls 9 [(0, .ref (aM 0)), (1, .int x1), (2, .int x2), (3, .long l3), (5, .long l5), (7, .int x7)] → k61 vM x1 x2 l3 l5 x7 = some y → WW H locs 0 0 ls 61 []) (vM : BX4) (x1 : Int32) (x2 : Int32) (l3 : Int64) (l5 : Int64) (x7 : Int32) (H : Heap) (locs : List Loc) (ls : Array Slot), va_P (dC, dI) vwCl [k4_0 aM vM, k4_1 cI aM vM, k4_2 cI aM vM, k4_3 cI aM vM, k4_4 cI aM vM, k4_5 cJ aM vM, k4_6 cI aM vM, k4_7 cJ aM vM, k4_8 cJ aM vM, k4_9 cI aM vM] H → va_D A [k4_0 aM vM, k4_1 cI aM vM, k4_2 cI aM vM, k4_3 cI aM vM, k4_4 cI aM vM, k4_5 cJ aM vM, k4_6 cI aM vM, k4_7 cJ aM vM, k4_8 cJ aM vM, k4_9 cI aM vM] → va_S A s.heap H locs → lv_has ls 9 [(0, .ref (aM 0)), (1, .int x1), (2, .int x2), (3, .long l3), (5, .long l5), (7, .int x7)] → fX4_hardest_180 k61 vM x1 x2 l3 l5 x7 = some y → WW H locs 0 0 ls 180 [] := by
    intro k61 hk61 vM x1 x2 l3 l5 x7 H locs ls hP hD hS hl hf
    unfold fX4_hardest_180 at hf
    refine (hWW _ _ _ _ _ _ _).2 ?_
    obtain ⟨z22, ez22, hf⟩ := elet_out hf
    refine lv_iinc (v := z22) (lv' := [(7, .int z22), (0, .ref (aM 0)), (1, .int x1), (2, .int x2), (3, .long l3), (5, .long l5)]) hx hb dX4_hardest_180 hl (k := 5) rfl (by rw [ez22]; rfl) (by decide) rfl (fun ls hl => ?_)
    refine lv_goto (tgt := 61) hx hb dX4_hardest_183 (by decide) ?_
    exact (hWW _ _ _ _ _ _ _).1 (hk61 vM x1 x2 l3 l5 z22 H locs ls hP hD hS (lv_sub hl [1, 2, 3, 4, 5, 0] rfl) hf)
  have J178 : ∀ (k61 : BX4 → Int32 → Int32 → Int64 → Int64 → Int32 → Option (Int64 × BX4)) (hk61 : ∀ (vM : BX4) (x1 : Int32) (x2 : Int32) (l3 : Int64) (l5 : Int64) (x7 : Int32) (H : Heap) (locs : List Loc) (ls : Array Slot), va_P (dC, dI) vwCl [k4_0 aM vM, k4_1 cI aM vM, k4_2 cI aM vM, k4_3 cI aM vM, k4_4 cI aM vM, k4_5 cJ aM vM, k4_6 cI aM vM, k4_7 cJ aM vM, k4_8 cJ aM vM, k4_9 cI aM vM] H → va_D A [k4_0 aM vM, k4_1 cI aM vM, k4_2 cI aM vM, k4_3 cI aM vM, k4_4 cI aM vM, k4_5 cJ aM vM, k4_6 cI aM vM, k4_7 cJ aM vM, k4_8 cJ aM vM, k4_9 cI aM vM] → va_S A s.heap H locs → lv_has ls 9 [(0, .ref (aM 0)), (1, .int x1), (2, .int x2), (3, .long l3), (5, .long l5), (7, .int x7)] → k61 vM x1 x2 l3 l5 x7 = some y → WW H locs 0 0 ls 61 []) (vM : BX4) (x1 : Int32) (x2 : Int32) (l3 : Int64) (x7 : Int32) (st0 : Int64) (H : Heap) (locs : List Loc) (ls : Array Slot), va_P (dC, dI) vwCl [k4_0 aM vM, k4_1 cI aM vM, k4_2 cI aM vM, k4_3 cI aM vM, k4_4 cI aM vM, k4_5 cJ aM vM, k4_6 cI aM vM, k4_7 cJ aM vM, k4_8 cJ aM vM, k4_9 cI aM vM] H → va_D A [k4_0 aM vM, k4_1 cI aM vM, k4_2 cI aM vM, k4_3 cI aM vM, k4_4 cI aM vM, k4_5 cJ aM vM, k4_6 cI aM vM, k4_7 cJ aM vM, k4_8 cJ aM vM, k4_9 cI aM vM] → va_S A s.heap H locs → lv_has ls 9 [(0, .ref (aM 0)), (1, .int x1), (2, .int x2), (3, .long l3), (7, .int x7)] → fX4_hardest_178 k61 vM x1 x2 l3 x7 st0 = some y → WW H locs 0 0 ls 178 [.long st0] := by
    intro k61 hk61 vM x1 x2 l3 x7 st0 H locs ls hP hD hS hl hf
    unfold fX4_hardest_178 at hf
    refine (hWW _ _ _ _ _ _ _).2 ?_
    refine lv_lstore (lv' := [(5, .long st0), (0, .ref (aM 0)), (1, .int x1), (2, .int x2), (3, .long l3), (7, .int x7)]) hx hb dX4_hardest_178 hl (by decide) rfl (fun ls hl => ?_)
    exact (hWW _ _ _ _ _ _ _).1 (J180 k61 hk61 vM x1 x2 l3 st0 x7 H locs ls hP hD hS (lv_sub hl [1, 2, 3, 4, 0, 5] rfl) hf)
  have J163 : ∀ (k61 : BX4 → Int32 → Int32 → Int64 → Int64 → Int32 → Option (Int64 × BX4)) (hk61 : ∀ (vM : BX4) (x1 : Int32) (x2 : Int32) (l3 : Int64) (l5 : Int64) (x7 : Int32) (H : Heap) (locs : List Loc) (ls : Array Slot), va_P (dC, dI) vwCl [k4_0 aM vM, k4_1 cI aM vM, k4_2 cI aM vM, k4_3 cI aM vM, k4_4 cI aM vM, k4_5 cJ aM vM, k4_6 cI aM vM, k4_7 cJ aM vM, k4_8 cJ aM vM, k4_9 cI aM vM] H → va_D A [k4_0 aM vM, k4_1 cI aM vM, k4_2 cI aM vM, k4_3 cI aM vM, k4_4 cI aM vM, k4_5 cJ aM vM, k4_6 cI aM vM, k4_7 cJ aM vM, k4_8 cJ aM vM, k4_9 cI aM vM] → va_S A s.heap H locs → lv_has ls 9 [(0, .ref (aM 0)), (1, .int x1), (2, .int x2), (3, .long l3), (5, .long l5), (7, .int x7)] → k61 vM x1 x2 l3 l5 x7 = some y → WW H locs 0 0 ls 61 []) (vM : BX4) (x1 : Int32) (x2 : Int32) (l5 : Int64) (x7 : Int32) (x8 : Int32) (st0 : Int64) (H : Heap) (locs : List Loc) (ls : Array Slot), va_P (dC, dI) vwCl [k4_0 aM vM, k4_1 cI aM vM, k4_2 cI aM vM, k4_3 cI aM vM, k4_4 cI aM vM, k4_5 cJ aM vM, k4_6 cI aM vM, k4_7 cJ aM vM, k4_8 cJ aM vM, k4_9 cI aM vM] H → va_D A [k4_0 aM vM, k4_1 cI aM vM, k4_2 cI aM vM, k4_3 cI aM vM, k4_4 cI aM vM, k4_5 cJ aM vM, k4_6 cI aM vM, k4_7 cJ aM vM, k4_8 cJ aM vM, k4_9 cI aM vM] → va_S A s.heap H locs → lv_has ls 9 [(0, .ref (aM 0)), (1, .int x1), (2, .int x2), (5, .long l5), (7, .int x7), (8, .int x8)] → fX4_hardest_163 k61 vM x1 x2 l5 x7 x8 st0 = some y → WW H locs 0 0 ls 163 [.long st0] := by
    intro k61 hk61 vM x1 x2 l5 x7 x8 st0 H locs ls hP hD hS hl hf
    unfold fX4_hardest_163 at hf
    refine (hWW _ _ _ _ _ _ _).2 ?_
    refine lv_lstore_n (lv' := [(3, .long st0), (0, .ref (aM 0)), (1, .int x1), (2, .int x2), (5, .long l5), (7, .int x7), (8, .int x8)]) hx hb dX4_hardest_163 rfl hl (by decide) rfl (fun ls hl => ?_)
    refine lv_iload hx hb dX4_hardest_164 (lv_at hl 6 rfl) ?_
    refine lv_if_eq (tgt := 176) hx hb dX4_hardest_166 (by decide) (fun c21 => ?_) (fun c21 => ?_)
    · have hf := oif_t c21 hf
      refine lv_lload hx hb dX4_hardest_176 (lv_at hl 4 rfl) ?_
      exact (hWW _ _ _ _ _ _ _).1 (J178 k61 hk61 vM x1 x2 st0 x7 l5 H locs ls hP hD hS (lv_sub hl [1, 2, 3, 0, 5] rfl) hf)
    · have hf := oif_f c21 hf
      refine lv_aload_n hx hb dX4_hardest_169 rfl (lv_at hl 1 rfl) ?_
      refine va_get (D := (dC, dI)) (ci := 4) (v := .long (p4_farDown vM)) (C := RX4) (T := TX4) (N := 21) hx hb hts hiX4 hown hK hP 0 rfl rfl 15 (by decide) hgX4_141 (fun _ h9 => h9) rfl dX4_hardest_170 ?_
      refine lv_goto (tgt := 178) hx hb dX4_hardest_173 (by decide) ?_
      exact (hWW _ _ _ _ _ _ _).1 (J178 k61 hk61 vM x1 x2 st0 x7 (p4_farDown vM) H locs ls hP hD hS (lv_sub hl [1, 2, 3, 0, 5] rfl) hf)
  have J149 : ∀ (k61 : BX4 → Int32 → Int32 → Int64 → Int64 → Int32 → Option (Int64 × BX4)) (hk61 : ∀ (vM : BX4) (x1 : Int32) (x2 : Int32) (l3 : Int64) (l5 : Int64) (x7 : Int32) (H : Heap) (locs : List Loc) (ls : Array Slot), va_P (dC, dI) vwCl [k4_0 aM vM, k4_1 cI aM vM, k4_2 cI aM vM, k4_3 cI aM vM, k4_4 cI aM vM, k4_5 cJ aM vM, k4_6 cI aM vM, k4_7 cJ aM vM, k4_8 cJ aM vM, k4_9 cI aM vM] H → va_D A [k4_0 aM vM, k4_1 cI aM vM, k4_2 cI aM vM, k4_3 cI aM vM, k4_4 cI aM vM, k4_5 cJ aM vM, k4_6 cI aM vM, k4_7 cJ aM vM, k4_8 cJ aM vM, k4_9 cI aM vM] → va_S A s.heap H locs → lv_has ls 9 [(0, .ref (aM 0)), (1, .int x1), (2, .int x2), (3, .long l3), (5, .long l5), (7, .int x7)] → k61 vM x1 x2 l3 l5 x7 = some y → WW H locs 0 0 ls 61 []) (vM : BX4) (x1 : Int32) (l3 : Int64) (l5 : Int64) (x7 : Int32) (x8 : Int32) (st0 : Int32) (H : Heap) (locs : List Loc) (ls : Array Slot), va_P (dC, dI) vwCl [k4_0 aM vM, k4_1 cI aM vM, k4_2 cI aM vM, k4_3 cI aM vM, k4_4 cI aM vM, k4_5 cJ aM vM, k4_6 cI aM vM, k4_7 cJ aM vM, k4_8 cJ aM vM, k4_9 cI aM vM] H → va_D A [k4_0 aM vM, k4_1 cI aM vM, k4_2 cI aM vM, k4_3 cI aM vM, k4_4 cI aM vM, k4_5 cJ aM vM, k4_6 cI aM vM, k4_7 cJ aM vM, k4_8 cJ aM vM, k4_9 cI aM vM] → va_S A s.heap H locs → lv_has ls 9 [(0, .ref (aM 0)), (1, .int x1), (3, .long l3), (5, .long l5), (7, .int x7), (8, .int x8)] → fX4_hardest_149 k61 vM x1 l3 l5 x7 x8 st0 = some y → WW H locs 0 0 ls 149 [.int st0] := by
    intro k61 hk61 vM x1 l3 l5 x7 x8 st0 H locs ls hP hD hS hl hf
    unfold fX4_hardest_149 at hf
    refine (hWW _ _ _ _ _ _ _).2 ?_
    refine lv_istore_n (lv' := [(2, .int st0), (0, .ref (aM 0)), (1, .int x1), (3, .long l3), (5, .long l5), (7, .int x7), (8, .int x8)]) hx hb dX4_hardest_149 rfl hl (by decide) rfl (fun ls hl => ?_)
    refine lv_iload hx hb dX4_hardest_150 (lv_at hl 6 rfl) ?_
    refine lv_if_eq (tgt := 162) hx hb dX4_hardest_152 (by decide) (fun c20 => ?_) (fun c20 => ?_)
    · have hf := oif_t c20 hf
      refine lv_lload_n hx hb dX4_hardest_162 rfl (lv_at hl 3 rfl) ?_
      exact (hWW _ _ _ _ _ _ _).1 (J163 k61 hk61 vM x1 st0 l5 x7 x8 l3 H locs ls hP hD hS (lv_sub hl [1, 2, 0, 4, 5, 6] rfl) hf)
    · have hf := oif_f c20 hf
      refine lv_aload_n hx hb dX4_hardest_155 rfl (lv_at hl 1 rfl) ?_
      refine va_get (D := (dC, dI)) (ci := 4) (v := .long (p4_farUp vM)) (C := RX4) (T := TX4) (N := 21) hx hb hts hiX4 hown hK hP 0 rfl rfl 14 (by decide) hgX4_138 (fun _ h9 => h9) rfl dX4_hardest_156 ?_
      refine lv_goto (tgt := 163) hx hb dX4_hardest_159 (by decide) ?_
      exact (hWW _ _ _ _ _ _ _).1 (J163 k61 hk61 vM x1 st0 l5 x7 x8 (p4_farUp vM) H locs ls hP hD hS (lv_sub hl [1, 2, 0, 4, 5, 6] rfl) hf)
  have J136 : ∀ (k61 : BX4 → Int32 → Int32 → Int64 → Int64 → Int32 → Option (Int64 × BX4)) (hk61 : ∀ (vM : BX4) (x1 : Int32) (x2 : Int32) (l3 : Int64) (l5 : Int64) (x7 : Int32) (H : Heap) (locs : List Loc) (ls : Array Slot), va_P (dC, dI) vwCl [k4_0 aM vM, k4_1 cI aM vM, k4_2 cI aM vM, k4_3 cI aM vM, k4_4 cI aM vM, k4_5 cJ aM vM, k4_6 cI aM vM, k4_7 cJ aM vM, k4_8 cJ aM vM, k4_9 cI aM vM] H → va_D A [k4_0 aM vM, k4_1 cI aM vM, k4_2 cI aM vM, k4_3 cI aM vM, k4_4 cI aM vM, k4_5 cJ aM vM, k4_6 cI aM vM, k4_7 cJ aM vM, k4_8 cJ aM vM, k4_9 cI aM vM] → va_S A s.heap H locs → lv_has ls 9 [(0, .ref (aM 0)), (1, .int x1), (2, .int x2), (3, .long l3), (5, .long l5), (7, .int x7)] → k61 vM x1 x2 l3 l5 x7 = some y → WW H locs 0 0 ls 61 []) (vM : BX4) (x1 : Int32) (x2 : Int32) (l3 : Int64) (l5 : Int64) (x7 : Int32) (st0 : Int32) (H : Heap) (locs : List Loc) (ls : Array Slot), va_P (dC, dI) vwCl [k4_0 aM vM, k4_1 cI aM vM, k4_2 cI aM vM, k4_3 cI aM vM, k4_4 cI aM vM, k4_5 cJ aM vM, k4_6 cI aM vM, k4_7 cJ aM vM, k4_8 cJ aM vM, k4_9 cI aM vM] H → va_D A [k4_0 aM vM, k4_1 cI aM vM, k4_2 cI aM vM, k4_3 cI aM vM, k4_4 cI aM vM, k4_5 cJ aM vM, k4_6 cI aM vM, k4_7 cJ aM vM, k4_8 cJ aM vM, k4_9 cI aM vM] → va_S A s.heap H locs → lv_has ls 9 [(0, .ref (aM 0)), (1, .int x1), (2, .int x2), (3, .long l3), (5, .long l5), (7, .int x7)] → fX4_hardest_136 k61 vM x1 x2 l3 l5 x7 st0 = some y → WW H locs 0 0 ls 136 [.int st0] := by
    intro k61 hk61 vM x1 x2 l3 l5 x7 st0 H locs ls hP hD hS hl hf
    unfold fX4_hardest_136 at hf
    refine (hWW _ _ _ _ _ _ _).2 ?_
    refine lv_istore (lv' := [(8, .int st0), (0, .ref (aM 0)), (1, .int x1), (2, .int x2), (3, .long l3), (5, .long l5), (7, .int x7)]) hx hb dX4_hardest_136 hl (by decide) rfl (fun ls hl => ?_)
    refine lv_iload hx hb dX4_hardest_138 (lv_at hl 0 rfl) ?_
    refine lv_if_eq (tgt := 148) hx hb dX4_hardest_140 (by decide) (fun c19 => ?_) (fun c19 => ?_)
    · have hf := oif_t c19 hf
      refine lv_iload_n hx hb dX4_hardest_148 rfl (lv_at hl 3 rfl) ?_
      exact (hWW _ _ _ _ _ _ _).1 (J149 k61 hk61 vM x1 l3 l5 x7 st0 x2 H locs ls hP hD hS (lv_sub hl [1, 2, 4, 5, 6, 0] rfl) hf)
    · have hf := oif_f c19 hf
      refine lv_iload hx hb dX4_hardest_143 (lv_at hl 6 rfl) ?_
      refine lv_goto (tgt := 149) hx hb dX4_hardest_145 (by decide) ?_
      exact (hWW _ _ _ _ _ _ _).1 (J149 k61 hk61 vM x1 l3 l5 x7 st0 x7 H locs ls hP hD hS (lv_sub hl [1, 2, 4, 5, 6, 0] rfl) hf)
  have J131 : ∀ (k61 : BX4 → Int32 → Int32 → Int64 → Int64 → Int32 → Option (Int64 × BX4)) (hk61 : ∀ (vM : BX4) (x1 : Int32) (x2 : Int32) (l3 : Int64) (l5 : Int64) (x7 : Int32) (H : Heap) (locs : List Loc) (ls : Array Slot), va_P (dC, dI) vwCl [k4_0 aM vM, k4_1 cI aM vM, k4_2 cI aM vM, k4_3 cI aM vM, k4_4 cI aM vM, k4_5 cJ aM vM, k4_6 cI aM vM, k4_7 cJ aM vM, k4_8 cJ aM vM, k4_9 cI aM vM] H → va_D A [k4_0 aM vM, k4_1 cI aM vM, k4_2 cI aM vM, k4_3 cI aM vM, k4_4 cI aM vM, k4_5 cJ aM vM, k4_6 cI aM vM, k4_7 cJ aM vM, k4_8 cJ aM vM, k4_9 cI aM vM] → va_S A s.heap H locs → lv_has ls 9 [(0, .ref (aM 0)), (1, .int x1), (2, .int x2), (3, .long l3), (5, .long l5), (7, .int x7)] → k61 vM x1 x2 l3 l5 x7 = some y → WW H locs 0 0 ls 61 []) (vM : BX4) (x1 : Int32) (x2 : Int32) (l3 : Int64) (l5 : Int64) (x7 : Int32) (H : Heap) (locs : List Loc) (ls : Array Slot), va_P (dC, dI) vwCl [k4_0 aM vM, k4_1 cI aM vM, k4_2 cI aM vM, k4_3 cI aM vM, k4_4 cI aM vM, k4_5 cJ aM vM, k4_6 cI aM vM, k4_7 cJ aM vM, k4_8 cJ aM vM, k4_9 cI aM vM] H → va_D A [k4_0 aM vM, k4_1 cI aM vM, k4_2 cI aM vM, k4_3 cI aM vM, k4_4 cI aM vM, k4_5 cJ aM vM, k4_6 cI aM vM, k4_7 cJ aM vM, k4_8 cJ aM vM, k4_9 cI aM vM] → va_S A s.heap H locs → lv_has ls 9 [(0, .ref (aM 0)), (1, .int x1), (2, .int x2), (3, .long l3), (5, .long l5), (7, .int x7)] → fX4_hardest_131 k61 vM x1 x2 l3 l5 x7 = some y → WW H locs 0 0 ls 131 [] := by
    intro k61 hk61 vM x1 x2 l3 l5 x7 H locs ls hP hD hS hl hf
    unfold fX4_hardest_131 at hf
    refine (hWW _ _ _ _ _ _ _).2 ?_
    refine lv_iconst (v := 1) hx hb dX4_hardest_131 (by decide) ?_
    refine lv_goto (tgt := 136) hx hb dX4_hardest_132 (by decide) ?_
    exact (hWW _ _ _ _ _ _ _).1 (J136 k61 hk61 vM x1 x2 l3 l5 x7 (1 : Int32) H locs ls hP hD hS (lv_sub hl [0, 1, 2, 3, 4, 5] rfl) hf)
  have L61 : ∀ (n : Nat) (vM : BX4) (x1 : Int32) (x2 : Int32) (l3 : Int64) (l5 : Int64) (x7 : Int32) (H : Heap) (locs : List Loc) (ls : Array Slot), va_P (dC, dI) vwCl [k4_0 aM vM, k4_1 cI aM vM, k4_2 cI aM vM, k4_3 cI aM vM, k4_4 cI aM vM, k4_5 cJ aM vM, k4_6 cI aM vM, k4_7 cJ aM vM, k4_8 cJ aM vM, k4_9 cI aM vM] H → va_D A [k4_0 aM vM, k4_1 cI aM vM, k4_2 cI aM vM, k4_3 cI aM vM, k4_4 cI aM vM, k4_5 cJ aM vM, k4_6 cI aM vM, k4_7 cJ aM vM, k4_8 cJ aM vM, k4_9 cI aM vM] → va_S A s.heap H locs → lv_has ls 9 [(0, .ref (aM 0)), (1, .int x1), (2, .int x2), (3, .long l3), (5, .long l5), (7, .int x7)] → fX4_hardest_61 n vM x1 x2 l3 l5 x7 = some y → WW H locs 0 0 ls 61 [] := by
    intro n
    induction n with
    | zero =>
      intro vM x1 x2 l3 l5 x7 H locs ls hP hD hS hl hf
      exact onone hf
    | succ n ih =>
      intro vM x1 x2 l3 l5 x7 H locs ls hP hD hS hl hf
      have hf : fX4_hardest_61_b (fX4_hardest_61 n) vM x1 x2 l3 l5 x7 = some y := hf
      generalize fX4_hardest_61 n = k61 at hf ih
      have hk61 := ih
      clear ih
      unfold fX4_hardest_61_b at hf
      refine (hWW _ _ _ _ _ _ _).2 ?_
      refine lv_iload hx hb dX4_hardest_61 (lv_at hl 5 rfl) ?_
      refine lv_iconst (v := 2) hx hb dX4_hardest_63 (by decide) ?_
      refine lv_aload_n hx hb dX4_hardest_64 rfl (lv_at hl 0 rfl) ?_
      refine va_get (D := (dC, dI)) (ci := 4) (v := .ref (aM 1)) (C := RX4) (T := TX4) (N := 21) hx hb hts hiX4 hown hK hP 0 rfl rfl 0 (by decide) hgX4_7 (fun _ h9 => h9) rfl dX4_hardest_65 ?_
      refine lv_iconst (v := 1) hx hb dX4_hardest_68 (by decide) ?_
      refine va_iald hx hb hK hP 1 0 rfl rfl (vpc rfl) dX4_hardest_69 ?_
      refine lv_imul hx hb dX4_hardest_70 ?_
      refine lv_icmp_ge (tgt := 186) hx hb dX4_hardest_71 (by decide) (fun c6 => ?_) (fun c6 => ?_)
      · have hf := oif_t c6 hf
        refine lv_iload_n hx hb dX4_hardest_186 rfl (lv_at hl 2 rfl) ?_
        refine lv_if_ge (tgt := 196) hx hb dX4_hardest_187 (by decide) (fun c7 => ?_) (fun c7 => ?_)
        · have hf := oif_t c7 hf
          refine lv_iload_n hx hb dX4_hardest_196 rfl (lv_at hl 1 rfl) ?_
          refine lv_if_ne (tgt := 207) hx hb dX4_hardest_197 (by decide) (fun c8 => ?_) (fun c8 => ?_)
          · have hf := oif_f c8 hf
            refine lv_iload_n hx hb dX4_hardest_207 rfl (lv_at hl 1 rfl) ?_
            refine lv_iconst (v := 1) hx hb dX4_hardest_208 (by decide) ?_
            refine lv_icmp_ne (tgt := 219) hx hb dX4_hardest_209 (by decide) (fun c9 => ?_) (fun c9 => ?_)
            · have hf := oif_f c9 hf
              refine lv_iload_n hx hb dX4_hardest_219 rfl (lv_at hl 1 rfl) ?_
              refine lv_iconst (v := 2) hx hb dX4_hardest_220 (by decide) ?_
              refine lv_icmp_ne (tgt := 228) hx hb dX4_hardest_221 (by decide) (fun c10 => ?_) (fun c10 => ?_)
              · have hf := oif_f c10 hf
                refine lv_lload hx hb dX4_hardest_228 (lv_at hl 4 rfl) ?_
                obtain rfl := Option.some.inj hf
                exact W.lret (v := l5) hx hb hr (fun t ht hW => ⟨⟨l5, (), rfl, rfl, by rw [ht]; exact hP, hD⟩, hS.F ht⟩) hS.2.2 dX4_hardest_230
              · have hf := oif_t c10 hf
                refine lv_lload_n hx hb dX4_hardest_224 rfl (lv_at hl 3 rfl) ?_
                refine lv_goto (tgt := 230) hx hb dX4_hardest_225 (by decide) ?_
                obtain rfl := Option.some.inj hf
                exact W.lret (v := l3) hx hb hr (fun t ht hW => ⟨⟨l3, (), rfl, rfl, by rw [ht]; exact hP, hD⟩, hS.F ht⟩) hS.2.2 dX4_hardest_230
            · have hf := oif_t c9 hf
              refine lv_iload_n hx hb dX4_hardest_212 rfl (lv_at hl 2 rfl) ?_
              refine lv_iconst (v := 2) hx hb dX4_hardest_213 (by decide) ?_
              refine lv_irem hx hb dX4_hardest_214 (by decide) ?_
              refine lv_i2l (v := ((x2 - x2 / (2 : Int32) * (2 : Int32))).toInt64) hx hb dX4_hardest_215 rfl ?_
              refine lv_goto (tgt := 230) hx hb dX4_hardest_216 (by decide) ?_
              obtain rfl := Option.some.inj hf
              exact W.lret (v := ((x2 - x2 / (2 : Int32) * (2 : Int32))).toInt64) hx hb hr (fun t ht hW => ⟨⟨((x2 - x2 / (2 : Int32) * (2 : Int32))).toInt64, (), rfl, rfl, by rw [ht]; exact hP, hD⟩, hS.F ht⟩) hS.2.2 dX4_hardest_230
          · have hf := oif_t c8 hf
            refine lv_iload_n hx hb dX4_hardest_200 rfl (lv_at hl 2 rfl) ?_
            refine lv_iconst (v := 2) hx hb dX4_hardest_201 (by decide) ?_
            refine lv_idiv hx hb dX4_hardest_202 (by decide) ?_
            refine lv_i2l (v := ((x2 / (2 : Int32))).toInt64) hx hb dX4_hardest_203 rfl ?_
            refine lv_goto (tgt := 230) hx hb dX4_hardest_204 (by decide) ?_
            obtain rfl := Option.some.inj hf
            exact W.lret (v := ((x2 / (2 : Int32))).toInt64) hx hb hr (fun t ht hW => ⟨⟨((x2 / (2 : Int32))).toInt64, (), rfl, rfl, by rw [ht]; exact hP, hD⟩, hS.F ht⟩) hS.2.2 dX4_hardest_230
        · have hf := oif_f c7 hf
          refine lv_ldc2 (v := (-1000004)) hx hb hown hc153 dX4_hardest_190 ?_
          refine lv_goto (tgt := 230) hx hb dX4_hardest_193 (by decide) ?_
          obtain rfl := Option.some.inj hf
          exact W.lret (v := (-1000004)) hx hb hr (fun t ht hW => ⟨⟨(-1000004), (), rfl, rfl, by rw [ht]; exact hP, hD⟩, hS.F ht⟩) hS.2.2 dX4_hardest_230
      · have hf := oif_f c6 hf
        refine lv_aload_n hx hb dX4_hardest_74 rfl (lv_at hl 0 rfl) ?_
        refine va_get (D := (dC, dI)) (ci := 4) (v := .ref (aM 1)) (C := RX4) (T := TX4) (N := 21) hx hb hts hiX4 hown hK hP 0 rfl rfl 0 (by decide) hgX4_7 (fun _ h9 => h9) rfl dX4_hardest_75 ?_
        refine lv_aload_n hx hb dX4_hardest_78 rfl (lv_at hl 0 rfl) ?_
        refine lv_iload hx hb dX4_hardest_79 (lv_at hl 5 rfl) ?_
        refine lv_iconst (v := 2) hx hb dX4_hardest_81 (by decide) ?_
        refine lv_idiv hx hb dX4_hardest_82 (by decide) ?_
        refine lv_iload hx hb dX4_hardest_83 (lv_at hl 5 rfl) ?_
        refine lv_iconst (v := 2) hx hb dX4_hardest_85 (by decide) ?_
        refine lv_irem hx hb dX4_hardest_86 (by decide) ?_
        obtain ⟨y11, hy11, hf⟩ := obind hf
        refine cg_i (ws := [k4_0 aM vM, k4_1 cI aM vM, k4_2 cI aM vM, k4_3 cI aM vM, k4_4 cI aM vM, k4_5 cJ aM vM, k4_6 cI aM vM, k4_7 cJ aM vM, k4_8 cJ aM vM, k4_9 cI aM vM]) (wc := [k4_0 aM vM, k4_1 cI aM vM, k4_2 cI aM vM, k4_3 cI aM vM, k4_4 cI aM vM, k4_5 cJ aM vM, k4_6 cI aM vM, k4_7 cJ aM vM, k4_8 cJ aM vM, k4_9 cI aM vM]) (wr := []) (w1 := [k4_0 aM vM, k4_1 cI aM vM, k4_2 cI aM vM, k4_3 cI aM vM, k4_4 cI aM vM, k4_5 cJ aM vM, k4_6 cI aM vM, k4_7 cJ aM vM, k4_8 cJ aM vM, k4_9 cI aM vM]) (wo := [k4_0 aM vM, k4_1 cI aM vM, k4_2 cI aM vM, k4_3 cI aM vM, k4_4 cI aM vM, k4_5 cJ aM vM, k4_6 cI aM vM, k4_7 cJ aM vM, k4_8 cJ aM vM, k4_9 cI aM vM]) hP hD hS hA (va_runV (As := [.int (x7 / (2 : Int32)), .int (x7 - x7 / (2 : Int32) * (2 : Int32))]) (rest := [.ref (aM 1)]) ⟨hx, hb, hml, hown, hts⟩ (mX4_stopAt l dC dI cI cJ aM H.size vM (x7 / (2 : Int32)) (x7 - x7 / (2 : Int32) * (2 : Int32)) y11 hy11) (cwV 2 hts gX4_hardest_X4_stopAt rfl rfl rfl (by decide +kernel) ⟨Nat.le_of_ble_eq_true rfl, Nat.le_of_ble_eq_true rfl⟩) ⟨cFB, va_recv hK hP (ci := 4) (q0 := 0) rfl rfl, cPre hK hN hS (va_free (wc := [k4_0 aM vM, k4_1 cI aM vM, k4_2 cI aM vM, k4_3 cI aM vM, k4_4 cI aM vM, k4_5 cJ aM vM, k4_6 cI aM vM, k4_7 cJ aM vM, k4_8 cJ aM vM, k4_9 cI aM vM]) hD hS hA [0, 1, 2, 3, 4, 5, 6, 7, 8, 9] rfl) (hP.sub [0, 1, 2, 3, 4, 5, 6, 7, 8, 9] rfl) (hD.sub [0, 1, 2, 3, 4, 5, 6, 7, 8, 9] rfl rfl)⟩ rfl rfl hl.1 rfl (lv_room (Nat.le_of_ble_eq_true rfl)) dX4_hardest_87 ⟨Nat.le_of_ble_eq_true rfl, Nat.le_of_ble_eq_true rfl⟩) [0, 1, 2, 3, 4, 5, 6, 7, 8, 9] [] [0, 1, 2, 3, 4, 5, 6, 7, 8, 9] rfl rfl rfl (by decide +kernel) rfl rfl (fun H locs hP hD hS => ?_)
        obtain ⟨hi12, hf⟩ := oinb rfl hf
        refine va_iald hx hb hK hP 1 0 rfl rfl hi12 dX4_hardest_90 ?_
        refine lv_if_lt (tgt := 180) hx hb dX4_hardest_91 (by decide) (fun c13 => ?_) (fun c13 => ?_)
        · have hf := oif_t c13 hf
          exact (hWW _ _ _ _ _ _ _).1 (J180 k61 hk61 vM x1 x2 l3 l5 x7 H locs ls hP hD hS (lv_sub hl [0, 1, 2, 3, 4, 5] rfl) hf)
        · have hf := oif_f c13 hf
          refine lv_aload_n hx hb dX4_hardest_94 rfl (lv_at hl 0 rfl) ?_
          refine lv_aload_n hx hb dX4_hardest_95 rfl (lv_at hl 0 rfl) ?_
          refine lv_iload hx hb dX4_hardest_96 (lv_at hl 5 rfl) ?_
          refine lv_iconst (v := 2) hx hb dX4_hardest_98 (by decide) ?_
          refine lv_idiv hx hb dX4_hardest_99 (by decide) ?_
          refine lv_iload hx hb dX4_hardest_100 (lv_at hl 5 rfl) ?_
          refine lv_iconst (v := 2) hx hb dX4_hardest_102 (by decide) ?_
          refine lv_irem hx hb dX4_hardest_103 (by decide) ?_
          obtain ⟨y14, hy14, hf⟩ := obind hf
          refine cg_i (ws := [k4_0 aM vM, k4_1 cI aM vM, k4_2 cI aM vM, k4_3 cI aM vM, k4_4 cI aM vM, k4_5 cJ aM vM, k4_6 cI aM vM, k4_7 cJ aM vM, k4_8 cJ aM vM, k4_9 cI aM vM]) (wc := [k4_0 aM vM, k4_1 cI aM vM, k4_2 cI aM vM, k4_3 cI aM vM, k4_4 cI aM vM, k4_5 cJ aM vM, k4_6 cI aM vM, k4_7 cJ aM vM, k4_8 cJ aM vM, k4_9 cI aM vM]) (wr := []) (w1 := [k4_0 aM vM, k4_1 cI aM vM, k4_2 cI aM vM, k4_3 cI aM vM, k4_4 cI aM vM, k4_5 cJ aM vM, k4_6 cI aM vM, k4_7 cJ aM vM, k4_8 cJ aM vM, k4_9 cI aM vM]) (wo := [k4_0 aM vM, k4_1 cI aM vM, k4_2 cI aM vM, k4_3 cI aM vM, k4_4 cI aM vM, k4_5 cJ aM vM, k4_6 cI aM vM, k4_7 cJ aM vM, k4_8 cJ aM vM, k4_9 cI aM vM]) hP hD hS hA (va_runV (As := [.int (x7 / (2 : Int32)), .int (x7 - x7 / (2 : Int32) * (2 : Int32))]) (rest := [.ref (aM 0)]) ⟨hx, hb, hml, hown, hts⟩ (mX4_stopAt l dC dI cI cJ aM H.size vM (x7 / (2 : Int32)) (x7 - x7 / (2 : Int32) * (2 : Int32)) y14 hy14) (cwV 2 hts gX4_hardest_X4_stopAt rfl rfl rfl (by decide +kernel) ⟨Nat.le_of_ble_eq_true rfl, Nat.le_of_ble_eq_true rfl⟩) ⟨cFB, va_recv hK hP (ci := 4) (q0 := 0) rfl rfl, cPre hK hN hS (va_free (wc := [k4_0 aM vM, k4_1 cI aM vM, k4_2 cI aM vM, k4_3 cI aM vM, k4_4 cI aM vM, k4_5 cJ aM vM, k4_6 cI aM vM, k4_7 cJ aM vM, k4_8 cJ aM vM, k4_9 cI aM vM]) hD hS hA [0, 1, 2, 3, 4, 5, 6, 7, 8, 9] rfl) (hP.sub [0, 1, 2, 3, 4, 5, 6, 7, 8, 9] rfl) (hD.sub [0, 1, 2, 3, 4, 5, 6, 7, 8, 9] rfl rfl)⟩ rfl rfl hl.1 rfl (lv_room (Nat.le_of_ble_eq_true rfl)) dX4_hardest_104 ⟨Nat.le_of_ble_eq_true rfl, Nat.le_of_ble_eq_true rfl⟩) [0, 1, 2, 3, 4, 5, 6, 7, 8, 9] [] [0, 1, 2, 3, 4, 5, 6, 7, 8, 9] rfl rfl rfl (by decide +kernel) rfl rfl (fun H locs hP hD hS => ?_)
          obtain ⟨y15, hy15, hf⟩ := obind hf
          refine cg_v (ws := [k4_0 aM vM, k4_1 cI aM vM, k4_2 cI aM vM, k4_3 cI aM vM, k4_4 cI aM vM, k4_5 cJ aM vM, k4_6 cI aM vM, k4_7 cJ aM vM, k4_8 cJ aM vM, k4_9 cI aM vM]) (wc := [k4_0 aM vM, k4_1 cI aM vM, k4_2 cI aM vM, k4_3 cI aM vM, k4_4 cI aM vM, k4_5 cJ aM vM, k4_6 cI aM vM, k4_7 cJ aM vM, k4_8 cJ aM vM, k4_9 cI aM vM]) (wr := []) (w1 := [k4_0 aM y15, k4_1 cI aM y15, k4_2 cI aM y15, k4_3 cI aM y15, k4_4 cI aM y15, k4_5 cJ aM y15, k4_6 cI aM y15, k4_7 cJ aM y15, k4_8 cJ aM y15, k4_9 cI aM y15]) (wo := [k4_0 aM y15, k4_1 cI aM y15, k4_2 cI aM y15, k4_3 cI aM y15, k4_4 cI aM y15, k4_5 cJ aM y15, k4_6 cI aM y15, k4_7 cJ aM y15, k4_8 cJ aM y15, k4_9 cI aM y15]) hP hD hS hA (va_runV (As := [.int y14]) (rest := []) ⟨hx, hb, hml, hown, hts⟩ (mX4_moves l dC dI cI cJ aM H.size vM y14 y15 hy15) (cwV 1 hts gX4_hardest_X4_moves rfl rfl rfl (by decide +kernel) ⟨Nat.le_of_ble_eq_true rfl, Nat.le_of_ble_eq_true rfl⟩) ⟨cFB, va_recv hK hP (ci := 4) (q0 := 0) rfl rfl, cPre hK hN hS (va_free (wc := [k4_0 aM vM, k4_1 cI aM vM, k4_2 cI aM vM, k4_3 cI aM vM, k4_4 cI aM vM, k4_5 cJ aM vM, k4_6 cI aM vM, k4_7 cJ aM vM, k4_8 cJ aM vM, k4_9 cI aM vM]) hD hS hA [0, 1, 2, 3, 4, 5, 6, 7, 8, 9] rfl) (hP.sub [0, 1, 2, 3, 4, 5, 6, 7, 8, 9] rfl) (hD.sub [0, 1, 2, 3, 4, 5, 6, 7, 8, 9] rfl rfl)⟩ rfl rfl hl.1 rfl (lv_room (Nat.le_of_ble_eq_true rfl)) dX4_hardest_107 ⟨Nat.le_of_ble_eq_true rfl, Nat.le_of_ble_eq_true rfl⟩) [0, 1, 2, 3, 4, 5, 6, 7, 8, 9] [] [0, 1, 2, 3, 4, 5, 6, 7, 8, 9] rfl rfl rfl (by decide +kernel) rfl rfl (fun H locs hP hD hS => ?_)
          refine lv_iload_n hx hb dX4_hardest_110 rfl (lv_at hl 2 rfl) ?_
          refine lv_if_lt (tgt := 131) hx hb dX4_hardest_111 (by decide) (fun c16 => ?_) (fun c16 => ?_)
          · have hf := oif_t c16 hf
            exact (hWW _ _ _ _ _ _ _).1 (J131 k61 hk61 y15 x1 x2 l3 l5 x7 H locs ls hP hD hS (lv_sub hl [0, 1, 2, 3, 4, 5] rfl) hf)
          · have hf := oif_f c16 hf
            refine lv_aload_n hx hb dX4_hardest_114 rfl (lv_at hl 0 rfl) ?_
            refine va_get (D := (dC, dI)) (ci := 4) (v := .long (p4_farUp y15)) (C := RX4) (T := TX4) (N := 21) hx hb hts hiX4 hown hK hP 0 rfl rfl 14 (by decide) hgX4_138 (fun _ h9 => h9) rfl dX4_hardest_115 ?_
            refine lv_aload_n hx hb dX4_hardest_118 rfl (lv_at hl 0 rfl) ?_
            refine va_get (D := (dC, dI)) (ci := 4) (v := .long (p4_farDown y15)) (C := RX4) (T := TX4) (N := 21) hx hb hts hiX4 hown hK hP 0 rfl rfl 15 (by decide) hgX4_141 (fun _ h9 => h9) rfl dX4_hardest_119 ?_
            refine lv_lload_n hx hb dX4_hardest_122 rfl (lv_at hl 3 rfl) ?_
            refine lv_lload hx hb dX4_hardest_123 (lv_at hl 4 rfl) ?_
            obtain ⟨y17, hy17, hf⟩ := obind hf
            refine cg_i (ws := [k4_0 aM y15, k4_1 cI aM y15, k4_2 cI aM y15, k4_3 cI aM y15, k4_4 cI aM y15, k4_5 cJ aM y15, k4_6 cI aM y15, k4_7 cJ aM y15, k4_8 cJ aM y15, k4_9 cI aM y15]) (wc := []) (wr := [k4_0 aM y15, k4_1 cI aM y15, k4_2 cI aM y15, k4_3 cI aM y15, k4_4 cI aM y15, k4_5 cJ aM y15, k4_6 cI aM y15, k4_7 cJ aM y15, k4_8 cJ aM y15, k4_9 cI aM y15]) (w1 := []) (wo := [k4_0 aM y15, k4_1 cI aM y15, k4_2 cI aM y15, k4_3 cI aM y15, k4_4 cI aM y15, k4_5 cJ aM y15, k4_6 cI aM y15, k4_7 cJ aM y15, k4_8 cJ aM y15, k4_9 cI aM y15]) hP hD hS hA (va_runS (As := [.long (p4_farUp y15), .long (p4_farDown y15), .long l3, .long l5]) (rest := []) ⟨hx, hb, hml, hown, hts⟩ (mX4_isMore l dC dI cI cJ  H.size (p4_farUp y15) (p4_farDown y15) l3 l5 y17 hy17) (va_cwS 4 hts gX4_hardest_X4_isMore rfl rfl rfl (by decide +kernel) ⟨Nat.le_of_ble_eq_true rfl, Nat.le_of_ble_eq_true rfl⟩) ⟨cFB, cPre hK hN hS (va_free (wc := []) hD hS hA [] rfl) (hP.sub [] rfl) (hD.sub [] rfl rfl)⟩ rfl rfl hl.1 rfl (lv_room (Nat.le_of_ble_eq_true rfl)) dX4_hardest_125 ⟨Nat.le_of_ble_eq_true rfl, Nat.le_of_ble_eq_true rfl⟩) [] [0, 1, 2, 3, 4, 5, 6, 7, 8, 9] [0, 1, 2, 3, 4, 5, 6, 7, 8, 9] rfl rfl rfl (by decide +kernel) rfl rfl (fun H locs hP hD hS => ?_)
            refine lv_if_eq (tgt := 135) hx hb dX4_hardest_128 (by decide) (fun c18 => ?_) (fun c18 => ?_)
            · have hf := oif_t c18 hf
              refine lv_iconst (v := 0) hx hb dX4_hardest_135 (by decide) ?_
              exact (hWW _ _ _ _ _ _ _).1 (J136 k61 hk61 y15 x1 x2 l3 l5 x7 (0 : Int32) H locs ls hP hD hS (lv_sub hl [0, 1, 2, 3, 4, 5] rfl) hf)
            · have hf := oif_f c18 hf
              exact (hWW _ _ _ _ _ _ _).1 (J131 k61 hk61 y15 x1 x2 l3 l5 x7 H locs ls hP hD hS (lv_sub hl [0, 1, 2, 3, 4, 5] rfl) hf)
  have L27 : ∀ (n : Nat) (vM : BX4) (x1 : Int32) (x2 : Int32) (H : Heap) (locs : List Loc) (ls : Array Slot), va_P (dC, dI) vwCl [k4_0 aM vM, k4_1 cI aM vM, k4_2 cI aM vM, k4_3 cI aM vM, k4_4 cI aM vM, k4_5 cJ aM vM, k4_6 cI aM vM, k4_7 cJ aM vM, k4_8 cJ aM vM, k4_9 cI aM vM] H → va_D A [k4_0 aM vM, k4_1 cI aM vM, k4_2 cI aM vM, k4_3 cI aM vM, k4_4 cI aM vM, k4_5 cJ aM vM, k4_6 cI aM vM, k4_7 cJ aM vM, k4_8 cJ aM vM, k4_9 cI aM vM] → va_S A s.heap H locs → lv_has ls 9 [(0, .ref (aM 0)), (1, .int x1), (2, .int x2)] → fX4_hardest_27 n vM x1 x2 = some y → WW H locs 0 0 ls 27 [] := by
    intro n
    induction n with
    | zero =>
      intro vM x1 x2 H locs ls hP hD hS hl hf
      exact onone hf
    | succ n ih =>
      intro vM x1 x2 H locs ls hP hD hS hl hf
      have hf : fX4_hardest_27_b (fX4_hardest_27 n) vM x1 x2 = some y := hf
      generalize fX4_hardest_27 n = k27 at hf ih
      have hk27 := ih
      clear ih
      unfold fX4_hardest_27_b at hf
      refine (hWW _ _ _ _ _ _ _).2 ?_
      refine lv_iload_n hx hb dX4_hardest_27 rfl (lv_at hl 2 rfl) ?_
      refine lv_iconst (v := 4) hx hb dX4_hardest_28 (by decide) ?_
      refine lv_icmp_ge (tgt := 50) hx hb dX4_hardest_29 (by decide) (fun c1 => ?_) (fun c1 => ?_)
      · have hf := oif_t c1 hf
        refine lv_ldc (v := (-1000004)) hx hb hown hc78 dX4_hardest_50 ?_
        refine lv_istore_n (lv' := [(2, .int (-1000004)), (0, .ref (aM 0)), (1, .int x1)]) hx hb dX4_hardest_52 rfl hl (by decide) rfl (fun ls hl => ?_)
        refine lv_lconst (v := 0) hx hb dX4_hardest_53 (by decide) ?_
        refine lv_lstore_n (lv' := [(3, .long 0), (2, .int (-1000004)), (0, .ref (aM 0)), (1, .int x1)]) hx hb dX4_hardest_54 rfl hl (by decide) rfl (fun ls hl => ?_)
        refine lv_lconst (v := 1) hx hb dX4_hardest_55 (by decide) ?_
        refine lv_lstore (lv' := [(5, .long 1), (3, .long 0), (2, .int (-1000004)), (0, .ref (aM 0)), (1, .int x1)]) hx hb dX4_hardest_56 hl (by decide) rfl (fun ls hl => ?_)
        refine lv_iconst (v := 0) hx hb dX4_hardest_58 (by decide) ?_
        refine lv_istore (lv' := [(7, .int 0), (5, .long 1), (3, .long 0), (2, .int (-1000004)), (0, .ref (aM 0)), (1, .int x1)]) hx hb dX4_hardest_59 hl (by decide) rfl (fun ls hl => ?_)
        exact (hWW _ _ _ _ _ _ _).1 (L61 FU vM x1 (-1000004 : Int32) (0 : Int64) (1 : Int64) (0 : Int32) H locs ls hP hD hS (lv_sub hl [4, 5, 3, 2, 1, 0] rfl) hf)
      · have hf := oif_f c1 hf
        refine lv_aload_n hx hb dX4_hardest_32 rfl (lv_at hl 0 rfl) ?_
        refine va_get (D := (dC, dI)) (ci := 4) (v := .ref (aM 8)) (C := RX4) (T := TX4) (N := 21) hx hb hts hiX4 hown hK hP 0 rfl rfl 12 (by decide) hgX4_32 (fun _ h9 => h9) rfl dX4_hardest_33 ?_
        refine lv_iload_n hx hb dX4_hardest_36 rfl (lv_at hl 2 rfl) ?_
        refine lv_aload_n hx hb dX4_hardest_37 rfl (lv_at hl 0 rfl) ?_
        refine va_get (D := (dC, dI)) (ci := 4) (v := .ref (aM 5)) (C := RX4) (T := TX4) (N := 21) hx hb hts hiX4 hown hK hP 0 rfl rfl 7 (by decide) hgX4_22 (fun _ h9 => h9) rfl dX4_hardest_38 ?_
        refine lv_iload_n hx hb dX4_hardest_41 rfl (lv_at hl 2 rfl) ?_
        obtain ⟨hi2, hf⟩ := oinb rfl hf
        refine va_lald hx hb hK hP 5 1 rfl rfl hi2 dX4_hardest_42 ?_
        obtain ⟨hi3, hf⟩ := oinb rfl hf
        obtain ⟨b4, eb4, hf⟩ := elet_out hf
        refine va_last hx hb hK hP hD hS 8 1 rfl rfl hi3 dX4_hardest_43 (fun H locs hP hD hS => ?_)
        have hP : va_P (dC, dI) vwCl [k4_0 aM b4, k4_1 cI aM b4, k4_2 cI aM b4, k4_3 cI aM b4, k4_4 cI aM b4, k4_5 cJ aM b4, k4_6 cI aM b4, k4_7 cJ aM b4, k4_8 cJ aM b4, k4_9 cI aM b4] H := by rw [eb4]; exact hP
        have hD : va_D A [k4_0 aM b4, k4_1 cI aM b4, k4_2 cI aM b4, k4_3 cI aM b4, k4_4 cI aM b4, k4_5 cJ aM b4, k4_6 cI aM b4, k4_7 cJ aM b4, k4_8 cJ aM b4, k4_9 cI aM b4] := by rw [eb4]; exact hD
        obtain ⟨z5, ez5, hf⟩ := elet_out hf
        refine lv_iinc (v := z5) (lv' := [(2, .int z5), (0, .ref (aM 0)), (1, .int x1)]) hx hb dX4_hardest_44 hl (k := 2) rfl (by rw [ez5]; rfl) (by decide) rfl (fun ls hl => ?_)
        refine lv_goto (tgt := 27) hx hb dX4_hardest_47 (by decide) ?_
        exact (hWW _ _ _ _ _ _ _).1 (hk27 b4 x1 z5 H locs ls hP hD hS (lv_sub hl [1, 2, 0] rfl) hf)
  refine (hWW _ _ _ _ _ _ _).2 ?_
  unfold fX4_hardest at hf
  refine lv_iload_n hx hb dX4_hardest_0 rfl (lv_at hl 1 rfl) ?_
  refine lv_iconst (v := 0) hx hb dX4_hardest_1 (by decide) ?_
  refine lv_iconst (v := 3) hx hb dX4_hardest_2 (by decide) ?_
  obtain ⟨y23, hy23, hf⟩ := obind hf
  refine cg_i (ws := [k4_0 aM vM, k4_1 cI aM vM, k4_2 cI aM vM, k4_3 cI aM vM, k4_4 cI aM vM, k4_5 cJ aM vM, k4_6 cI aM vM, k4_7 cJ aM vM, k4_8 cJ aM vM, k4_9 cI aM vM]) (wc := []) (wr := [k4_0 aM vM, k4_1 cI aM vM, k4_2 cI aM vM, k4_3 cI aM vM, k4_4 cI aM vM, k4_5 cJ aM vM, k4_6 cI aM vM, k4_7 cJ aM vM, k4_8 cJ aM vM, k4_9 cI aM vM]) (w1 := []) (wo := [k4_0 aM vM, k4_1 cI aM vM, k4_2 cI aM vM, k4_3 cI aM vM, k4_4 cI aM vM, k4_5 cJ aM vM, k4_6 cI aM vM, k4_7 cJ aM vM, k4_8 cJ aM vM, k4_9 cI aM vM]) hP hD hS hA (va_runS (As := [.int i1, .int 0, .int 3]) (rest := []) ⟨hx, hb, hml, hown, hts⟩ (mX4_in l dC dI cI cJ  H.size i1 (0 : Int32) (3 : Int32) y23 hy23) (va_cwS 3 hts gX4_hardest_X4_in rfl rfl rfl (by decide +kernel) ⟨Nat.le_of_ble_eq_true rfl, Nat.le_of_ble_eq_true rfl⟩) ⟨cFB, cPre hK hN hS (va_free (wc := []) hD hS hA [] rfl) (hP.sub [] rfl) (hD.sub [] rfl rfl)⟩ rfl rfl hl.1 rfl (lv_room (Nat.le_of_ble_eq_true rfl)) dX4_hardest_3 ⟨Nat.le_of_ble_eq_true rfl, Nat.le_of_ble_eq_true rfl⟩) [] [0, 1, 2, 3, 4, 5, 6, 7, 8, 9] [0, 1, 2, 3, 4, 5, 6, 7, 8, 9] rfl rfl rfl (by decide +kernel) rfl rfl (fun H locs hP hD hS => ?_)
  refine lv_if_ne (tgt := 13) hx hb dX4_hardest_6 (by decide) (fun c24 => ?_) (fun c24 => ?_)
  · have hf := oif_f c24 hf
    refine lv_aload_n hx hb dX4_hardest_13 rfl (lv_at hl 0 rfl) ?_
    obtain ⟨y25, hy25, hf⟩ := obind hf
    refine cg_v (ws := [k4_0 aM vM, k4_1 cI aM vM, k4_2 cI aM vM, k4_3 cI aM vM, k4_4 cI aM vM, k4_5 cJ aM vM, k4_6 cI aM vM, k4_7 cJ aM vM, k4_8 cJ aM vM, k4_9 cI aM vM]) (wc := [k4_0 aM vM, k4_1 cI aM vM, k4_2 cI aM vM, k4_3 cI aM vM, k4_4 cI aM vM, k4_5 cJ aM vM, k4_6 cI aM vM, k4_7 cJ aM vM, k4_8 cJ aM vM, k4_9 cI aM vM]) (wr := []) (w1 := [k4_0 aM y25, k4_1 cI aM y25, k4_2 cI aM y25, k4_3 cI aM y25, k4_4 cI aM y25, k4_5 cJ aM y25, k4_6 cI aM y25, k4_7 cJ aM y25, k4_8 cJ aM y25, k4_9 cI aM y25]) (wo := [k4_0 aM y25, k4_1 cI aM y25, k4_2 cI aM y25, k4_3 cI aM y25, k4_4 cI aM y25, k4_5 cJ aM y25, k4_6 cI aM y25, k4_7 cJ aM y25, k4_8 cJ aM y25, k4_9 cI aM y25]) hP hD hS hA (va_runV (As := []) (rest := []) ⟨hx, hb, hml, hown, hts⟩ (mX4_rests l dC dI cI cJ aM H.size vM y25 hy25) (cwV 0 hts gX4_hardest_X4_rests rfl rfl rfl (by decide +kernel) ⟨Nat.le_of_ble_eq_true rfl, Nat.le_of_ble_eq_true rfl⟩) ⟨cFB, va_recv hK hP (ci := 4) (q0 := 0) rfl rfl, cPre hK hN hS (va_free (wc := [k4_0 aM vM, k4_1 cI aM vM, k4_2 cI aM vM, k4_3 cI aM vM, k4_4 cI aM vM, k4_5 cJ aM vM, k4_6 cI aM vM, k4_7 cJ aM vM, k4_8 cJ aM vM, k4_9 cI aM vM]) hD hS hA [0, 1, 2, 3, 4, 5, 6, 7, 8, 9] rfl) (hP.sub [0, 1, 2, 3, 4, 5, 6, 7, 8, 9] rfl) (hD.sub [0, 1, 2, 3, 4, 5, 6, 7, 8, 9] rfl rfl)⟩ rfl rfl hl.1 rfl (lv_room (Nat.le_of_ble_eq_true rfl)) dX4_hardest_14 ⟨Nat.le_of_ble_eq_true rfl, Nat.le_of_ble_eq_true rfl⟩) [0, 1, 2, 3, 4, 5, 6, 7, 8, 9] [] [0, 1, 2, 3, 4, 5, 6, 7, 8, 9] rfl rfl rfl (by decide +kernel) rfl rfl (fun H locs hP hD hS => ?_)
    refine lv_aload_n hx hb dX4_hardest_17 rfl (lv_at hl 0 rfl) ?_
    refine lv_aload_n hx hb dX4_hardest_18 rfl (lv_at hl 0 rfl) ?_
    refine va_get (D := (dC, dI)) (ci := 4) (v := .long (p4_lower y25)) (C := RX4) (T := TX4) (N := 21) hx hb hts hiX4 hown hK hP 0 rfl rfl 8 (by decide) hgX4_79 (fun _ h9 => h9) rfl dX4_hardest_19 ?_
    obtain ⟨b26, eb26, hf⟩ := elet_out hf
    refine va_put (D := (dC, dI)) (ci := 4) (v := .long (p4_lower y25)) (ty := .long) (C := RX4) (T := TX4) (N := 21) hx hb hts hiX4 tyX4 tyX4_ok nmX4 hown hK hP hD hS 0 rfl rfl 13 (by decide) hgX4_135 (fun _ h9 => h9) rfl (by decide +kernel) rfl rfl (Nat.le_of_ble_eq_true rfl) dX4_hardest_22 (fun H locs hP hD hS => ?_)
    have hP : va_P (dC, dI) vwCl [k4_0 aM b26, k4_1 cI aM b26, k4_2 cI aM b26, k4_3 cI aM b26, k4_4 cI aM b26, k4_5 cJ aM b26, k4_6 cI aM b26, k4_7 cJ aM b26, k4_8 cJ aM b26, k4_9 cI aM b26] H := by rw [eb26]; exact hP
    have hD : va_D A [k4_0 aM b26, k4_1 cI aM b26, k4_2 cI aM b26, k4_3 cI aM b26, k4_4 cI aM b26, k4_5 cJ aM b26, k4_6 cI aM b26, k4_7 cJ aM b26, k4_8 cJ aM b26, k4_9 cI aM b26] := by rw [eb26]; exact hD
    refine lv_iconst (v := 0) hx hb dX4_hardest_25 (by decide) ?_
    refine lv_istore_n (lv' := [(2, .int 0), (0, .ref (aM 0)), (1, .int i1)]) hx hb dX4_hardest_26 rfl hl (by decide) rfl (fun ls hl => ?_)
    exact (hWW _ _ _ _ _ _ _).1 (L27 FU b26 i1 (0 : Int32) H locs ls hP hD hS (lv_sub hl [1, 2, 0] rfl) hf)
  · have hf := oif_t c24 hf
    refine lv_ldc2 (v := (-1000001)) hx hb hown hc144 dX4_hardest_9 ?_
    obtain rfl := Option.some.inj hf
    exact W.lret (v := (-1000001)) hx hb hr (fun t ht hW => ⟨⟨(-1000001), (), rfl, rfl, by rw [ht]; exact hP, hD⟩, hS.F ht⟩) hS.2.2 dX4_hardest_12
def fX4_stops_49 (k4 : BX4 → Int32 → Int32 → Option Int32) (vM : BX4) (x2 : Int32) (st0 : Int32) (st1 : Int32) (st2 : Int32) : Option Int32 :=
  elet (st0 + (st1 + st2)) (fun z6 => elet (x2 + 1) (fun z7 => k4 vM z6 z7))
def fX4_stops_32 (k4 : BX4 → Int32 → Int32 → Option Int32) (vM : BX4) (x2 : Int32) (st0 : Int32) (st1 : Int32) : Option Int32 :=
  if inB ((20 : Int32) + x2) 24 = true then (if 0 ≤ ((p4_s vM) (((20 : Int32) + x2)).toNatClampNeg) then (fX4_stops_49 k4 vM x2 st0 st1 (1 : Int32)) else (fX4_stops_49 k4 vM x2 st0 st1 (0 : Int32))) else none
def fX4_stops_4_b (k4 : BX4 → Int32 → Int32 → Option Int32) (vM : BX4) (x1 : Int32) (x2 : Int32) : Option Int32 :=
  if ((p4_s vM) ((1 : Int32)).toNatClampNeg) ≤ x2 then (some x1) else (if inB ((16 : Int32) + x2) 24 = true then (if 0 ≤ ((p4_s vM) (((16 : Int32) + x2)).toNatClampNeg) then (fX4_stops_32 k4 vM x2 x1 (1 : Int32)) else (fX4_stops_32 k4 vM x2 x1 (0 : Int32))) else none)
def fX4_stops_4 : Nat → BX4 → Int32 → Int32 → Option Int32
  | 0 => fun _ _ _ => none
  | n + 1 => fX4_stops_4_b (fX4_stops_4 n)
def fX4_stops (vM : BX4) : Option Int32 :=
  fX4_stops_4 FU vM (0 : Int32) (0 : Int32)
set_option maxHeartbeats 8000000 in
set_option maxRecDepth 100000 in
theorem mX4_stops (l : Launch) (dC : Nat → ClassId) (dI : Nat → Nat → Nat) (cI cJ : ClassId) (aM : Nat → Nat) (sz : Nat) (vM : BX4) (y : Int32) (hf : fX4_stops vM = some y) : Met l yX4_stops wsX4_stops ({ frames := 0, cells := 0, slots := 0, locals := 0 }) (cPc dC dI cI cJ [.ref (aM 0)] [k4_0 aM vM, k4_1 cI aM vM, k4_2 cI aM vM, k4_3 cI aM vM, k4_4 cI aM vM, k4_5 cJ aM vM, k4_6 cI aM vM, k4_7 cJ aM vM, k4_8 cJ aM vM, k4_9 cI aM vM] sz) (va_Qi (fun r (_ : Unit) => r = y) (fun _ t => cB dC dI (va_A [k4_0 aM vM, k4_1 cI aM vM, k4_2 cI aM vM, k4_3 cI aM vM, k4_4 cI aM vM, k4_5 cJ aM vM, k4_6 cI aM vM, k4_7 cJ aM vM, k4_8 cJ aM vM, k4_9 cI aM vM] sz) [k4_0 aM vM, k4_1 cI aM vM, k4_2 cI aM vM, k4_3 cI aM vM, k4_4 cI aM vM, k4_5 cJ aM vM, k4_6 cI aM vM, k4_7 cJ aM vM, k4_8 cJ aM vM, k4_9 cI aM vM] t) (va_A [k4_0 aM vM, k4_1 cI aM vM, k4_2 cI aM vM, k4_3 cI aM vM, k4_4 cI aM vM, k4_5 cJ aM vM, k4_6 cI aM vM, k4_7 cJ aM vM, k4_8 cJ aM vM, k4_9 cI aM vM] sz)) 0 0 (va_A [k4_0 aM vM, k4_1 cI aM vM, k4_2 cI aM vM, k4_3 cI aM vM, k4_4 cI aM vM, k4_5 cJ aM vM, k4_6 cI aM vM, k4_7 cJ aM vM, k4_8 cJ aM vM, k4_9 cI aM vM] sz) := by
  refine Met.ofW (cc := cX4_stops) (maxL := 3) (ret := (some .int)) (by decide) rfl ?_
  intro p e s m args below meth c s₁ B hml hv
  obtain ⟨rfl, hsz, hP, hK, hD0, hN⟩ := hv
  have hx := B.exec
  have hb := B.bytes
  have hr := B.returns
  have hts := atoms_spec (ws := wsX4_stops) B.pre
  have hown : s.vm.findClass RX4 = some m.cls := findClass_of_methodNamed B.named
  have hlocks := B.notSynchronized
  subst hsz
  have hD := hD0.self (sz := s.heap.size)
  generalize hAe : va_A [k4_0 aM vM, k4_1 cI aM vM, k4_2 cI aM vM, k4_3 cI aM vM, k4_4 cI aM vM, k4_5 cJ aM vM, k4_6 cI aM vM, k4_7 cJ aM vM, k4_8 cJ aM vM, k4_9 cI aM vM] s.heap.size = A at hD hN ⊢
  have hA : ∀ q : Nat, s.heap.size ≤ q → A q := fun q h => by rw [← hAe]; exact Or.inr h
  have hP : va_P (dC, dI) vwCl [k4_0 aM vM, k4_1 cI aM vM, k4_2 cI aM vM, k4_3 cI aM vM, k4_4 cI aM vM, k4_5 cJ aM vM, k4_6 cI aM vM, k4_7 cJ aM vM, k4_8 cJ aM vM, k4_9 cI aM vM] s.heap := hP
  have hl := lv_entry ([.ref (aM 0)]) (n := 3) (Nat.le_of_ble_eq_true rfl)
  rw [lg_entry_eq]
  generalize (lg_sl ([.ref (aM 0)]) ++ List.replicate (3 - (lg_sl ([.ref (aM 0)])).length) Slot.unset).toArray = ls at hl ⊢
  have hl : lv_has ls 3 [(0, .ref (aM 0))] := hl
  have hiX4 : ∀ w ∈ u_ws RX4 TX4 21, w ∈ wsX4_stops := by decide +kernel
  have hgX4_7 := hts (.fieldLink RX4 7 "SpringPlatesModel" "s" "[I") (by decide +kernel)
  refine nameH (fun H locs hHe hLe => ?_)
  have hP : va_P (dC, dI) vwCl [k4_0 aM vM, k4_1 cI aM vM, k4_2 cI aM vM, k4_3 cI aM vM, k4_4 cI aM vM, k4_5 cJ aM vM, k4_6 cI aM vM, k4_7 cJ aM vM, k4_8 cJ aM vM, k4_9 cI aM vM] H := by rw [hHe]; exact hP
  have hS : va_S A s.heap H locs := by rw [hHe, hLe]; exact va_S.rf
  refine withW (fun WW hWW => ?_)
  have J49 : ∀ (k4 : BX4 → Int32 → Int32 → Option Int32) (hk4 : ∀ (x1 : Int32) (x2 : Int32) (H : Heap) (locs : List Loc) (ls : Array Slot), va_P (dC, dI) vwCl [k4_0 aM vM, k4_1 cI aM vM, k4_2 cI aM vM, k4_3 cI aM vM, k4_4 cI aM vM, k4_5 cJ aM vM, k4_6 cI aM vM, k4_7 cJ aM vM, k4_8 cJ aM vM, k4_9 cI aM vM] H → va_D A [k4_0 aM vM, k4_1 cI aM vM, k4_2 cI aM vM, k4_3 cI aM vM, k4_4 cI aM vM, k4_5 cJ aM vM, k4_6 cI aM vM, k4_7 cJ aM vM, k4_8 cJ aM vM, k4_9 cI aM vM] → va_S A s.heap H locs → lv_has ls 3 [(0, .ref (aM 0)), (1, .int x1), (2, .int x2)] → k4 vM x1 x2 = some y → WW H locs 0 0 ls 4 []) (x2 : Int32) (st0 : Int32) (st1 : Int32) (st2 : Int32) (H : Heap) (locs : List Loc) (ls : Array Slot), va_P (dC, dI) vwCl [k4_0 aM vM, k4_1 cI aM vM, k4_2 cI aM vM, k4_3 cI aM vM, k4_4 cI aM vM, k4_5 cJ aM vM, k4_6 cI aM vM, k4_7 cJ aM vM, k4_8 cJ aM vM, k4_9 cI aM vM] H → va_D A [k4_0 aM vM, k4_1 cI aM vM, k4_2 cI aM vM, k4_3 cI aM vM, k4_4 cI aM vM, k4_5 cJ aM vM, k4_6 cI aM vM, k4_7 cJ aM vM, k4_8 cJ aM vM, k4_9 cI aM vM] → va_S A s.heap H locs → lv_has ls 3 [(0, .ref (aM 0)), (2, .int x2)] → fX4_stops_49 k4 vM x2 st0 st1 st2 = some y → WW H locs 0 0 ls 49 [.int st2, .int st1, .int st0] := by
    intro k4 hk4 x2 st0 st1 st2 H locs ls hP hD hS hl hf
    unfold fX4_stops_49 at hf
    refine (hWW _ _ _ _ _ _ _).2 ?_
    refine lv_iadd hx hb dX4_stops_49 ?_
    refine lv_iadd hx hb dX4_stops_50 ?_
    obtain ⟨z6, ez6, hf⟩ := elet_out hf
    refine lvn_i ez6 ?_
    refine lv_istore_n (lv' := [(1, .int z6), (0, .ref (aM 0)), (2, .int x2)]) hx hb dX4_stops_51 rfl hl (by decide) rfl (fun ls hl => ?_)
    obtain ⟨z7, ez7, hf⟩ := elet_out hf
    refine lv_iinc (v := z7) (lv' := [(2, .int z7), (1, .int z6), (0, .ref (aM 0))]) hx hb dX4_stops_52 hl (k := 2) rfl (by rw [ez7]; rfl) (by decide) rfl (fun ls hl => ?_)
    refine lv_goto (tgt := 4) hx hb dX4_stops_55 (by decide) ?_
    exact (hWW _ _ _ _ _ _ _).1 (hk4 z6 z7 H locs ls hP hD hS (lv_sub hl [2, 1, 0] rfl) hf)
  have J32 : ∀ (k4 : BX4 → Int32 → Int32 → Option Int32) (hk4 : ∀ (x1 : Int32) (x2 : Int32) (H : Heap) (locs : List Loc) (ls : Array Slot), va_P (dC, dI) vwCl [k4_0 aM vM, k4_1 cI aM vM, k4_2 cI aM vM, k4_3 cI aM vM, k4_4 cI aM vM, k4_5 cJ aM vM, k4_6 cI aM vM, k4_7 cJ aM vM, k4_8 cJ aM vM, k4_9 cI aM vM] H → va_D A [k4_0 aM vM, k4_1 cI aM vM, k4_2 cI aM vM, k4_3 cI aM vM, k4_4 cI aM vM, k4_5 cJ aM vM, k4_6 cI aM vM, k4_7 cJ aM vM, k4_8 cJ aM vM, k4_9 cI aM vM] → va_S A s.heap H locs → lv_has ls 3 [(0, .ref (aM 0)), (1, .int x1), (2, .int x2)] → k4 vM x1 x2 = some y → WW H locs 0 0 ls 4 []) (x2 : Int32) (st0 : Int32) (st1 : Int32) (H : Heap) (locs : List Loc) (ls : Array Slot), va_P (dC, dI) vwCl [k4_0 aM vM, k4_1 cI aM vM, k4_2 cI aM vM, k4_3 cI aM vM, k4_4 cI aM vM, k4_5 cJ aM vM, k4_6 cI aM vM, k4_7 cJ aM vM, k4_8 cJ aM vM, k4_9 cI aM vM] H → va_D A [k4_0 aM vM, k4_1 cI aM vM, k4_2 cI aM vM, k4_3 cI aM vM, k4_4 cI aM vM, k4_5 cJ aM vM, k4_6 cI aM vM, k4_7 cJ aM vM, k4_8 cJ aM vM, k4_9 cI aM vM] → va_S A s.heap H locs → lv_has ls 3 [(0, .ref (aM 0)), (2, .int x2)] → fX4_stops_32 k4 vM x2 st0 st1 = some y → WW H locs 0 0 ls 32 [.int st1, .int st0] := by
    intro k4 hk4 x2 st0 st1 H locs ls hP hD hS hl hf
    unfold fX4_stops_32 at hf
    refine (hWW _ _ _ _ _ _ _).2 ?_
    refine lv_aload_n hx hb dX4_stops_32 rfl (lv_at hl 0 rfl) ?_
    refine va_get (D := (dC, dI)) (ci := 4) (v := .ref (aM 1)) (C := RX4) (T := TX4) (N := 21) hx hb hts hiX4 hown hK hP 0 rfl rfl 0 (by decide) hgX4_7 (fun _ h9 => h9) rfl dX4_stops_33 ?_
    refine lv_bipush (v := 20) hx hb dX4_stops_36 (by decide) ?_
    refine lv_iload_n hx hb dX4_stops_38 rfl (lv_at hl 1 rfl) ?_
    refine lv_iadd hx hb dX4_stops_39 ?_
    obtain ⟨hi4, hf⟩ := oinb rfl hf
    refine va_iald hx hb hK hP 1 0 rfl rfl hi4 dX4_stops_40 ?_
    refine lv_if_ge (tgt := 48) hx hb dX4_stops_41 (by decide) (fun c5 => ?_) (fun c5 => ?_)
    · have hf := oif_t c5 hf
      refine lv_iconst (v := 1) hx hb dX4_stops_48 (by decide) ?_
      exact (hWW _ _ _ _ _ _ _).1 (J49 k4 hk4 x2 st0 st1 (1 : Int32) H locs ls hP hD hS (lv_sub hl [0, 1] rfl) hf)
    · have hf := oif_f c5 hf
      refine lv_iconst (v := 0) hx hb dX4_stops_44 (by decide) ?_
      refine lv_goto (tgt := 49) hx hb dX4_stops_45 (by decide) ?_
      exact (hWW _ _ _ _ _ _ _).1 (J49 k4 hk4 x2 st0 st1 (0 : Int32) H locs ls hP hD hS (lv_sub hl [0, 1] rfl) hf)
  have L4 : ∀ (n : Nat) (x1 : Int32) (x2 : Int32) (H : Heap) (locs : List Loc) (ls : Array Slot), va_P (dC, dI) vwCl [k4_0 aM vM, k4_1 cI aM vM, k4_2 cI aM vM, k4_3 cI aM vM, k4_4 cI aM vM, k4_5 cJ aM vM, k4_6 cI aM vM, k4_7 cJ aM vM, k4_8 cJ aM vM, k4_9 cI aM vM] H → va_D A [k4_0 aM vM, k4_1 cI aM vM, k4_2 cI aM vM, k4_3 cI aM vM, k4_4 cI aM vM, k4_5 cJ aM vM, k4_6 cI aM vM, k4_7 cJ aM vM, k4_8 cJ aM vM, k4_9 cI aM vM] → va_S A s.heap H locs → lv_has ls 3 [(0, .ref (aM 0)), (1, .int x1), (2, .int x2)] → fX4_stops_4 n vM x1 x2 = some y → WW H locs 0 0 ls 4 [] := by
    intro n
    induction n with
    | zero =>
      intro x1 x2 H locs ls hP hD hS hl hf
      exact onone hf
    | succ n ih =>
      intro x1 x2 H locs ls hP hD hS hl hf
      have hf : fX4_stops_4_b (fX4_stops_4 n) vM x1 x2 = some y := hf
      generalize fX4_stops_4 n = k4 at hf ih
      have hk4 := ih
      clear ih
      unfold fX4_stops_4_b at hf
      refine (hWW _ _ _ _ _ _ _).2 ?_
      refine lv_iload_n hx hb dX4_stops_4 rfl (lv_at hl 2 rfl) ?_
      refine lv_aload_n hx hb dX4_stops_5 rfl (lv_at hl 0 rfl) ?_
      refine va_get (D := (dC, dI)) (ci := 4) (v := .ref (aM 1)) (C := RX4) (T := TX4) (N := 21) hx hb hts hiX4 hown hK hP 0 rfl rfl 0 (by decide) hgX4_7 (fun _ h9 => h9) rfl dX4_stops_6 ?_
      refine lv_iconst (v := 1) hx hb dX4_stops_9 (by decide) ?_
      refine va_iald hx hb hK hP 1 0 rfl rfl (vpc rfl) dX4_stops_10 ?_
      refine lv_icmp_ge (tgt := 58) hx hb dX4_stops_11 (by decide) (fun c1 => ?_) (fun c1 => ?_)
      · have hf := oif_t c1 hf
        refine lv_iload_n hx hb dX4_stops_58 rfl (lv_at hl 1 rfl) ?_
        obtain rfl := Option.some.inj hf
        exact W.iret (v := x1) hx hb hr (fun t ht hW => ⟨⟨x1, (), rfl, rfl, by rw [ht]; exact hP, hD⟩, hS.F ht⟩) hS.2.2 dX4_stops_59
      · have hf := oif_f c1 hf
        refine lv_iload_n hx hb dX4_stops_14 rfl (lv_at hl 1 rfl) ?_
        refine lv_aload_n hx hb dX4_stops_15 rfl (lv_at hl 0 rfl) ?_
        refine va_get (D := (dC, dI)) (ci := 4) (v := .ref (aM 1)) (C := RX4) (T := TX4) (N := 21) hx hb hts hiX4 hown hK hP 0 rfl rfl 0 (by decide) hgX4_7 (fun _ h9 => h9) rfl dX4_stops_16 ?_
        refine lv_bipush (v := 16) hx hb dX4_stops_19 (by decide) ?_
        refine lv_iload_n hx hb dX4_stops_21 rfl (lv_at hl 2 rfl) ?_
        refine lv_iadd hx hb dX4_stops_22 ?_
        obtain ⟨hi2, hf⟩ := oinb rfl hf
        refine va_iald hx hb hK hP 1 0 rfl rfl hi2 dX4_stops_23 ?_
        refine lv_if_ge (tgt := 31) hx hb dX4_stops_24 (by decide) (fun c3 => ?_) (fun c3 => ?_)
        · have hf := oif_t c3 hf
          refine lv_iconst (v := 1) hx hb dX4_stops_31 (by decide) ?_
          exact (hWW _ _ _ _ _ _ _).1 (J32 k4 hk4 x2 x1 (1 : Int32) H locs ls hP hD hS (lv_sub hl [0, 2] rfl) hf)
        · have hf := oif_f c3 hf
          refine lv_iconst (v := 0) hx hb dX4_stops_27 (by decide) ?_
          refine lv_goto (tgt := 32) hx hb dX4_stops_28 (by decide) ?_
          exact (hWW _ _ _ _ _ _ _).1 (J32 k4 hk4 x2 x1 (0 : Int32) H locs ls hP hD hS (lv_sub hl [0, 2] rfl) hf)
  refine (hWW _ _ _ _ _ _ _).2 ?_
  unfold fX4_stops at hf
  refine lv_iconst (v := 0) hx hb dX4_stops_0 (by decide) ?_
  refine lv_istore_n (lv' := [(1, .int 0), (0, .ref (aM 0))]) hx hb dX4_stops_1 rfl hl (by decide) rfl (fun ls hl => ?_)
  refine lv_iconst (v := 0) hx hb dX4_stops_2 (by decide) ?_
  refine lv_istore_n (lv' := [(2, .int 0), (1, .int 0), (0, .ref (aM 0))]) hx hb dX4_stops_3 rfl hl (by decide) rfl (fun ls hl => ?_)
  exact (hWW _ _ _ _ _ _ _).1 (L4 FU (0 : Int32) (0 : Int32) H locs ls hP hD hS (lv_sub hl [2, 1, 0] rfl) hf)
def fX4_loads_4_b (k4 : BX4 → Int32 → Int32 → Option Int32) (vM : BX4) (x1 : Int32) (x2 : Int32) : Option Int32 :=
  if ((p4_s vM) ((1 : Int32)).toNatClampNeg) ≤ x2 then (some x1) else (if inB ((12 : Int32) + x2) 24 = true then (elet (x1 + ((p4_s vM) (((12 : Int32) + x2)).toNatClampNeg)) (fun z3 => elet (x2 + 1) (fun z4 => k4 vM z3 z4))) else none)
def fX4_loads_4 : Nat → BX4 → Int32 → Int32 → Option Int32
  | 0 => fun _ _ _ => none
  | n + 1 => fX4_loads_4_b (fX4_loads_4 n)
def fX4_loads (vM : BX4) : Option Int32 :=
  fX4_loads_4 FU vM (0 : Int32) (0 : Int32)
set_option maxHeartbeats 8000000 in
set_option maxRecDepth 100000 in
theorem mX4_loads (l : Launch) (dC : Nat → ClassId) (dI : Nat → Nat → Nat) (cI cJ : ClassId) (aM : Nat → Nat) (sz : Nat) (vM : BX4) (y : Int32) (hf : fX4_loads vM = some y) : Met l yX4_loads wsX4_loads ({ frames := 0, cells := 0, slots := 0, locals := 0 }) (cPc dC dI cI cJ [.ref (aM 0)] [k4_0 aM vM, k4_1 cI aM vM, k4_2 cI aM vM, k4_3 cI aM vM, k4_4 cI aM vM, k4_5 cJ aM vM, k4_6 cI aM vM, k4_7 cJ aM vM, k4_8 cJ aM vM, k4_9 cI aM vM] sz) (va_Qi (fun r (_ : Unit) => r = y) (fun _ t => cB dC dI (va_A [k4_0 aM vM, k4_1 cI aM vM, k4_2 cI aM vM, k4_3 cI aM vM, k4_4 cI aM vM, k4_5 cJ aM vM, k4_6 cI aM vM, k4_7 cJ aM vM, k4_8 cJ aM vM, k4_9 cI aM vM] sz) [k4_0 aM vM, k4_1 cI aM vM, k4_2 cI aM vM, k4_3 cI aM vM, k4_4 cI aM vM, k4_5 cJ aM vM, k4_6 cI aM vM, k4_7 cJ aM vM, k4_8 cJ aM vM, k4_9 cI aM vM] t) (va_A [k4_0 aM vM, k4_1 cI aM vM, k4_2 cI aM vM, k4_3 cI aM vM, k4_4 cI aM vM, k4_5 cJ aM vM, k4_6 cI aM vM, k4_7 cJ aM vM, k4_8 cJ aM vM, k4_9 cI aM vM] sz)) 0 0 (va_A [k4_0 aM vM, k4_1 cI aM vM, k4_2 cI aM vM, k4_3 cI aM vM, k4_4 cI aM vM, k4_5 cJ aM vM, k4_6 cI aM vM, k4_7 cJ aM vM, k4_8 cJ aM vM, k4_9 cI aM vM] sz) := by
  refine Met.ofW (cc := cX4_loads) (maxL := 3) (ret := (some .int)) (by decide) rfl ?_
  intro p e s m args below meth c s₁ B hml hv
  obtain ⟨rfl, hsz, hP, hK, hD0, hN⟩ := hv
  have hx := B.exec
  have hb := B.bytes
  have hr := B.returns
  have hts := atoms_spec (ws := wsX4_loads) B.pre
  have hown : s.vm.findClass RX4 = some m.cls := findClass_of_methodNamed B.named
  have hlocks := B.notSynchronized
  subst hsz
  have hD := hD0.self (sz := s.heap.size)
  generalize hAe : va_A [k4_0 aM vM, k4_1 cI aM vM, k4_2 cI aM vM, k4_3 cI aM vM, k4_4 cI aM vM, k4_5 cJ aM vM, k4_6 cI aM vM, k4_7 cJ aM vM, k4_8 cJ aM vM, k4_9 cI aM vM] s.heap.size = A at hD hN ⊢
  have hA : ∀ q : Nat, s.heap.size ≤ q → A q := fun q h => by rw [← hAe]; exact Or.inr h
  have hP : va_P (dC, dI) vwCl [k4_0 aM vM, k4_1 cI aM vM, k4_2 cI aM vM, k4_3 cI aM vM, k4_4 cI aM vM, k4_5 cJ aM vM, k4_6 cI aM vM, k4_7 cJ aM vM, k4_8 cJ aM vM, k4_9 cI aM vM] s.heap := hP
  have hl := lv_entry ([.ref (aM 0)]) (n := 3) (Nat.le_of_ble_eq_true rfl)
  rw [lg_entry_eq]
  generalize (lg_sl ([.ref (aM 0)]) ++ List.replicate (3 - (lg_sl ([.ref (aM 0)])).length) Slot.unset).toArray = ls at hl ⊢
  have hl : lv_has ls 3 [(0, .ref (aM 0))] := hl
  have hiX4 : ∀ w ∈ u_ws RX4 TX4 21, w ∈ wsX4_loads := by decide +kernel
  have hgX4_7 := hts (.fieldLink RX4 7 "SpringPlatesModel" "s" "[I") (by decide +kernel)
  refine nameH (fun H locs hHe hLe => ?_)
  have hP : va_P (dC, dI) vwCl [k4_0 aM vM, k4_1 cI aM vM, k4_2 cI aM vM, k4_3 cI aM vM, k4_4 cI aM vM, k4_5 cJ aM vM, k4_6 cI aM vM, k4_7 cJ aM vM, k4_8 cJ aM vM, k4_9 cI aM vM] H := by rw [hHe]; exact hP
  have hS : va_S A s.heap H locs := by rw [hHe, hLe]; exact va_S.rf
  refine withW (fun WW hWW => ?_)
  have L4 : ∀ (n : Nat) (x1 : Int32) (x2 : Int32) (H : Heap) (locs : List Loc) (ls : Array Slot), va_P (dC, dI) vwCl [k4_0 aM vM, k4_1 cI aM vM, k4_2 cI aM vM, k4_3 cI aM vM, k4_4 cI aM vM, k4_5 cJ aM vM, k4_6 cI aM vM, k4_7 cJ aM vM, k4_8 cJ aM vM, k4_9 cI aM vM] H → va_D A [k4_0 aM vM, k4_1 cI aM vM, k4_2 cI aM vM, k4_3 cI aM vM, k4_4 cI aM vM, k4_5 cJ aM vM, k4_6 cI aM vM, k4_7 cJ aM vM, k4_8 cJ aM vM, k4_9 cI aM vM] → va_S A s.heap H locs → lv_has ls 3 [(0, .ref (aM 0)), (1, .int x1), (2, .int x2)] → fX4_loads_4 n vM x1 x2 = some y → WW H locs 0 0 ls 4 [] := by
    intro n
    induction n with
    | zero =>
      intro x1 x2 H locs ls hP hD hS hl hf
      exact onone hf
    | succ n ih =>
      intro x1 x2 H locs ls hP hD hS hl hf
      have hf : fX4_loads_4_b (fX4_loads_4 n) vM x1 x2 = some y := hf
      generalize fX4_loads_4 n = k4 at hf ih
      have hk4 := ih
      clear ih
      unfold fX4_loads_4_b at hf
      refine (hWW _ _ _ _ _ _ _).2 ?_
      refine lv_iload_n hx hb dX4_loads_4 rfl (lv_at hl 2 rfl) ?_
      refine lv_aload_n hx hb dX4_loads_5 rfl (lv_at hl 0 rfl) ?_
      refine va_get (D := (dC, dI)) (ci := 4) (v := .ref (aM 1)) (C := RX4) (T := TX4) (N := 21) hx hb hts hiX4 hown hK hP 0 rfl rfl 0 (by decide) hgX4_7 (fun _ h9 => h9) rfl dX4_loads_6 ?_
      refine lv_iconst (v := 1) hx hb dX4_loads_9 (by decide) ?_
      refine va_iald hx hb hK hP 1 0 rfl rfl (vpc rfl) dX4_loads_10 ?_
      refine lv_icmp_ge (tgt := 32) hx hb dX4_loads_11 (by decide) (fun c1 => ?_) (fun c1 => ?_)
      · have hf := oif_t c1 hf
        refine lv_iload_n hx hb dX4_loads_32 rfl (lv_at hl 1 rfl) ?_
        obtain rfl := Option.some.inj hf
        exact W.iret (v := x1) hx hb hr (fun t ht hW => ⟨⟨x1, (), rfl, rfl, by rw [ht]; exact hP, hD⟩, hS.F ht⟩) hS.2.2 dX4_loads_33
      · have hf := oif_f c1 hf
        refine lv_iload_n hx hb dX4_loads_14 rfl (lv_at hl 1 rfl) ?_
        refine lv_aload_n hx hb dX4_loads_15 rfl (lv_at hl 0 rfl) ?_
        refine va_get (D := (dC, dI)) (ci := 4) (v := .ref (aM 1)) (C := RX4) (T := TX4) (N := 21) hx hb hts hiX4 hown hK hP 0 rfl rfl 0 (by decide) hgX4_7 (fun _ h9 => h9) rfl dX4_loads_16 ?_
        refine lv_bipush (v := 12) hx hb dX4_loads_19 (by decide) ?_
        refine lv_iload_n hx hb dX4_loads_21 rfl (lv_at hl 2 rfl) ?_
        refine lv_iadd hx hb dX4_loads_22 ?_
        obtain ⟨hi2, hf⟩ := oinb rfl hf
        refine va_iald hx hb hK hP 1 0 rfl rfl hi2 dX4_loads_23 ?_
        refine lv_iadd hx hb dX4_loads_24 ?_
        obtain ⟨z3, ez3, hf⟩ := elet_out hf
        refine lvn_i ez3 ?_
        refine lv_istore_n (lv' := [(1, .int z3), (0, .ref (aM 0)), (2, .int x2)]) hx hb dX4_loads_25 rfl hl (by decide) rfl (fun ls hl => ?_)
        obtain ⟨z4, ez4, hf⟩ := elet_out hf
        refine lv_iinc (v := z4) (lv' := [(2, .int z4), (1, .int z3), (0, .ref (aM 0))]) hx hb dX4_loads_26 hl (k := 2) rfl (by rw [ez4]; rfl) (by decide) rfl (fun ls hl => ?_)
        refine lv_goto (tgt := 4) hx hb dX4_loads_29 (by decide) ?_
        exact (hWW _ _ _ _ _ _ _).1 (hk4 z3 z4 H locs ls hP hD hS (lv_sub hl [2, 1, 0] rfl) hf)
  refine (hWW _ _ _ _ _ _ _).2 ?_
  unfold fX4_loads at hf
  refine lv_iconst (v := 0) hx hb dX4_loads_0 (by decide) ?_
  refine lv_istore_n (lv' := [(1, .int 0), (0, .ref (aM 0))]) hx hb dX4_loads_1 rfl hl (by decide) rfl (fun ls hl => ?_)
  refine lv_iconst (v := 0) hx hb dX4_loads_2 (by decide) ?_
  refine lv_istore_n (lv' := [(2, .int 0), (1, .int 0), (0, .ref (aM 0))]) hx hb dX4_loads_3 rfl hl (by decide) rfl (fun ls hl => ?_)
  exact (hWW _ _ _ _ _ _ _).1 (L4 FU (0 : Int32) (0 : Int32) H locs ls hP hD hS (lv_sub hl [2, 1, 0] rfl) hf)
def fX4_count (vM : BX4) (i1 : Int32) : Option Int32 :=
  if i1 = 0 then (some ((p4_s vM) ((1 : Int32)).toNatClampNeg)) else (if i1 = 1 then (some ((p4_s vM) ((0 : Int32)).toNatClampNeg)) else (if i1 = 2 then ((fX4_stops vM).bind (fun y4 => some y4)) else (if i1 = 3 then ((fX4_loads vM).bind (fun y6 => some (y6 + (1000 : Int32)))) else (if i1 = 4 then (some (p4_pasts vM)) else (if i1 = 5 then (some (p4_typed vM)) else (some (-1000001)))))))
set_option maxHeartbeats 8000000 in
set_option maxRecDepth 100000 in
theorem mX4_count (l : Launch) (dC : Nat → ClassId) (dI : Nat → Nat → Nat) (cI cJ : ClassId) (aM : Nat → Nat) (sz : Nat) (vM : BX4) (i1 : Int32) (y : Int32) (hf : fX4_count vM i1 = some y) : Met l yX4_count wsX4_count ({ frames := 1, cells := 0, slots := 0, locals := 22 }) (cPc dC dI cI cJ [.ref (aM 0), .int i1] [k4_0 aM vM, k4_1 cI aM vM, k4_2 cI aM vM, k4_3 cI aM vM, k4_4 cI aM vM, k4_5 cJ aM vM, k4_6 cI aM vM, k4_7 cJ aM vM, k4_8 cJ aM vM, k4_9 cI aM vM] sz) (va_Qi (fun r (_ : Unit) => r = y) (fun _ t => cB dC dI (va_A [k4_0 aM vM, k4_1 cI aM vM, k4_2 cI aM vM, k4_3 cI aM vM, k4_4 cI aM vM, k4_5 cJ aM vM, k4_6 cI aM vM, k4_7 cJ aM vM, k4_8 cJ aM vM, k4_9 cI aM vM] sz) [k4_0 aM vM, k4_1 cI aM vM, k4_2 cI aM vM, k4_3 cI aM vM, k4_4 cI aM vM, k4_5 cJ aM vM, k4_6 cI aM vM, k4_7 cJ aM vM, k4_8 cJ aM vM, k4_9 cI aM vM] t) (va_A [k4_0 aM vM, k4_1 cI aM vM, k4_2 cI aM vM, k4_3 cI aM vM, k4_4 cI aM vM, k4_5 cJ aM vM, k4_6 cI aM vM, k4_7 cJ aM vM, k4_8 cJ aM vM, k4_9 cI aM vM] sz)) 0 0 (va_A [k4_0 aM vM, k4_1 cI aM vM, k4_2 cI aM vM, k4_3 cI aM vM, k4_4 cI aM vM, k4_5 cJ aM vM, k4_6 cI aM vM, k4_7 cJ aM vM, k4_8 cJ aM vM, k4_9 cI aM vM] sz) := by
  refine Met.ofW (cc := cX4_count) (maxL := 2) (ret := (some .int)) (by decide) rfl ?_
  intro p e s m args below meth c s₁ B hml hv
  obtain ⟨rfl, hsz, hP, hK, hD0, hN⟩ := hv
  have hx := B.exec
  have hb := B.bytes
  have hr := B.returns
  have hts := atoms_spec (ws := wsX4_count) B.pre
  have hown : s.vm.findClass RX4 = some m.cls := findClass_of_methodNamed B.named
  have hlocks := B.notSynchronized
  subst hsz
  have hD := hD0.self (sz := s.heap.size)
  generalize hAe : va_A [k4_0 aM vM, k4_1 cI aM vM, k4_2 cI aM vM, k4_3 cI aM vM, k4_4 cI aM vM, k4_5 cJ aM vM, k4_6 cI aM vM, k4_7 cJ aM vM, k4_8 cJ aM vM, k4_9 cI aM vM] s.heap.size = A at hD hN ⊢
  have hA : ∀ q : Nat, s.heap.size ≤ q → A q := fun q h => by rw [← hAe]; exact Or.inr h
  have hP : va_P (dC, dI) vwCl [k4_0 aM vM, k4_1 cI aM vM, k4_2 cI aM vM, k4_3 cI aM vM, k4_4 cI aM vM, k4_5 cJ aM vM, k4_6 cI aM vM, k4_7 cJ aM vM, k4_8 cJ aM vM, k4_9 cI aM vM] s.heap := hP
  have hl := lv_entry ([.ref (aM 0), .int i1]) (n := 2) (Nat.le_of_ble_eq_true rfl)
  rw [lg_entry_eq]
  generalize (lg_sl ([.ref (aM 0), .int i1]) ++ List.replicate (2 - (lg_sl ([.ref (aM 0), .int i1])).length) Slot.unset).toArray = ls at hl ⊢
  have hl : lv_has ls 2 [(0, .ref (aM 0)), (1, .int i1)] := hl
  have hiX4 : ∀ w ∈ u_ws RX4 TX4 21, w ∈ wsX4_count := by decide +kernel
  have hgX4_7 := hts (.fieldLink RX4 7 "SpringPlatesModel" "s" "[I") (by decide +kernel)
  have hgX4_42 := hts (.fieldLink RX4 42 "SpringPlatesModel" "pasts" "I") (by decide +kernel)
  have hgX4_162 := hts (.fieldLink RX4 162 "SpringPlatesModel" "typed" "I") (by decide +kernel)
  have hc57 := hts (.constant RX4 57 (-1000001)) (by decide +kernel)
  refine nameH (fun H locs hHe hLe => ?_)
  have hP : va_P (dC, dI) vwCl [k4_0 aM vM, k4_1 cI aM vM, k4_2 cI aM vM, k4_3 cI aM vM, k4_4 cI aM vM, k4_5 cJ aM vM, k4_6 cI aM vM, k4_7 cJ aM vM, k4_8 cJ aM vM, k4_9 cI aM vM] H := by rw [hHe]; exact hP
  have hS : va_S A s.heap H locs := by rw [hHe, hLe]; exact va_S.rf
  unfold fX4_count at hf
  refine lv_iload_n hx hb dX4_count_0 rfl (lv_at hl 1 rfl) ?_
  by_cases c1 : i1 = 0
  · have hf := oif_t c1 hf
    refine lv_tableIn (tgt := 40) hx hb dX4_count_1 (by rw [c1]; decide) (by rw [c1]; decide) (by rw [c1]; rfl) (by decide) ?_
    refine lv_aload_n hx hb dX4_count_40 rfl (lv_at hl 0 rfl) ?_
    refine va_get (D := (dC, dI)) (ci := 4) (v := .ref (aM 1)) (C := RX4) (T := TX4) (N := 21) hx hb hts hiX4 hown hK hP 0 rfl rfl 0 (by decide) hgX4_7 (fun _ h9 => h9) rfl dX4_count_41 ?_
    refine lv_iconst (v := 1) hx hb dX4_count_44 (by decide) ?_
    refine va_iald hx hb hK hP 1 0 rfl rfl (vpc rfl) dX4_count_45 ?_
    obtain rfl := Option.some.inj hf
    exact W.iret (v := ((p4_s vM) ((1 : Int32)).toNatClampNeg)) hx hb hr (fun t ht hW => ⟨⟨((p4_s vM) ((1 : Int32)).toNatClampNeg), (), rfl, rfl, by rw [ht]; exact hP, hD⟩, hS.F ht⟩) hS.2.2 dX4_count_46
  · have hf := oif_f c1 hf
    by_cases c2 : i1 = 1
    · have hf := oif_t c2 hf
      refine lv_tableIn (tgt := 47) hx hb dX4_count_1 (by rw [c2]; decide) (by rw [c2]; decide) (by rw [c2]; rfl) (by decide) ?_
      refine lv_aload_n hx hb dX4_count_47 rfl (lv_at hl 0 rfl) ?_
      refine va_get (D := (dC, dI)) (ci := 4) (v := .ref (aM 1)) (C := RX4) (T := TX4) (N := 21) hx hb hts hiX4 hown hK hP 0 rfl rfl 0 (by decide) hgX4_7 (fun _ h9 => h9) rfl dX4_count_48 ?_
      refine lv_iconst (v := 0) hx hb dX4_count_51 (by decide) ?_
      refine va_iald hx hb hK hP 1 0 rfl rfl (vpc rfl) dX4_count_52 ?_
      obtain rfl := Option.some.inj hf
      exact W.iret (v := ((p4_s vM) ((0 : Int32)).toNatClampNeg)) hx hb hr (fun t ht hW => ⟨⟨((p4_s vM) ((0 : Int32)).toNatClampNeg), (), rfl, rfl, by rw [ht]; exact hP, hD⟩, hS.F ht⟩) hS.2.2 dX4_count_53
    · have hf := oif_f c2 hf
      by_cases c3 : i1 = 2
      · have hf := oif_t c3 hf
        refine lv_tableIn (tgt := 54) hx hb dX4_count_1 (by rw [c3]; decide) (by rw [c3]; decide) (by rw [c3]; rfl) (by decide) ?_
        refine lv_aload_n hx hb dX4_count_54 rfl (lv_at hl 0 rfl) ?_
        obtain ⟨y4, hy4, hf⟩ := obind hf
        refine cg_i (ws := [k4_0 aM vM, k4_1 cI aM vM, k4_2 cI aM vM, k4_3 cI aM vM, k4_4 cI aM vM, k4_5 cJ aM vM, k4_6 cI aM vM, k4_7 cJ aM vM, k4_8 cJ aM vM, k4_9 cI aM vM]) (wc := [k4_0 aM vM, k4_1 cI aM vM, k4_2 cI aM vM, k4_3 cI aM vM, k4_4 cI aM vM, k4_5 cJ aM vM, k4_6 cI aM vM, k4_7 cJ aM vM, k4_8 cJ aM vM, k4_9 cI aM vM]) (wr := []) (w1 := [k4_0 aM vM, k4_1 cI aM vM, k4_2 cI aM vM, k4_3 cI aM vM, k4_4 cI aM vM, k4_5 cJ aM vM, k4_6 cI aM vM, k4_7 cJ aM vM, k4_8 cJ aM vM, k4_9 cI aM vM]) (wo := [k4_0 aM vM, k4_1 cI aM vM, k4_2 cI aM vM, k4_3 cI aM vM, k4_4 cI aM vM, k4_5 cJ aM vM, k4_6 cI aM vM, k4_7 cJ aM vM, k4_8 cJ aM vM, k4_9 cI aM vM]) hP hD hS hA (va_runV (As := []) (rest := []) ⟨hx, hb, hml, hown, hts⟩ (mX4_stops l dC dI cI cJ aM H.size vM y4 hy4) (cwV 0 hts gX4_count_X4_stops rfl rfl rfl (by decide +kernel) ⟨Nat.le_of_ble_eq_true rfl, Nat.le_of_ble_eq_true rfl⟩) ⟨cFB, va_recv hK hP (ci := 4) (q0 := 0) rfl rfl, cPre hK hN hS (va_free (wc := [k4_0 aM vM, k4_1 cI aM vM, k4_2 cI aM vM, k4_3 cI aM vM, k4_4 cI aM vM, k4_5 cJ aM vM, k4_6 cI aM vM, k4_7 cJ aM vM, k4_8 cJ aM vM, k4_9 cI aM vM]) hD hS hA [0, 1, 2, 3, 4, 5, 6, 7, 8, 9] rfl) (hP.sub [0, 1, 2, 3, 4, 5, 6, 7, 8, 9] rfl) (hD.sub [0, 1, 2, 3, 4, 5, 6, 7, 8, 9] rfl rfl)⟩ rfl rfl hl.1 rfl (lv_room (Nat.le_of_ble_eq_true rfl)) dX4_count_55 ⟨Nat.le_of_ble_eq_true rfl, Nat.le_of_ble_eq_true rfl⟩) [0, 1, 2, 3, 4, 5, 6, 7, 8, 9] [] [0, 1, 2, 3, 4, 5, 6, 7, 8, 9] rfl rfl rfl (by decide +kernel) rfl rfl (fun H locs hP hD hS => ?_)
        obtain rfl := Option.some.inj hf
        exact W.iret (v := y4) hx hb hr (fun t ht hW => ⟨⟨y4, (), rfl, rfl, by rw [ht]; exact hP, hD⟩, hS.F ht⟩) hS.2.2 dX4_count_58
      · have hf := oif_f c3 hf
        by_cases c5 : i1 = 3
        · have hf := oif_t c5 hf
          refine lv_tableIn (tgt := 59) hx hb dX4_count_1 (by rw [c5]; decide) (by rw [c5]; decide) (by rw [c5]; rfl) (by decide) ?_
          refine lv_aload_n hx hb dX4_count_59 rfl (lv_at hl 0 rfl) ?_
          obtain ⟨y6, hy6, hf⟩ := obind hf
          refine cg_i (ws := [k4_0 aM vM, k4_1 cI aM vM, k4_2 cI aM vM, k4_3 cI aM vM, k4_4 cI aM vM, k4_5 cJ aM vM, k4_6 cI aM vM, k4_7 cJ aM vM, k4_8 cJ aM vM, k4_9 cI aM vM]) (wc := [k4_0 aM vM, k4_1 cI aM vM, k4_2 cI aM vM, k4_3 cI aM vM, k4_4 cI aM vM, k4_5 cJ aM vM, k4_6 cI aM vM, k4_7 cJ aM vM, k4_8 cJ aM vM, k4_9 cI aM vM]) (wr := []) (w1 := [k4_0 aM vM, k4_1 cI aM vM, k4_2 cI aM vM, k4_3 cI aM vM, k4_4 cI aM vM, k4_5 cJ aM vM, k4_6 cI aM vM, k4_7 cJ aM vM, k4_8 cJ aM vM, k4_9 cI aM vM]) (wo := [k4_0 aM vM, k4_1 cI aM vM, k4_2 cI aM vM, k4_3 cI aM vM, k4_4 cI aM vM, k4_5 cJ aM vM, k4_6 cI aM vM, k4_7 cJ aM vM, k4_8 cJ aM vM, k4_9 cI aM vM]) hP hD hS hA (va_runV (As := []) (rest := []) ⟨hx, hb, hml, hown, hts⟩ (mX4_loads l dC dI cI cJ aM H.size vM y6 hy6) (cwV 0 hts gX4_count_X4_loads rfl rfl rfl (by decide +kernel) ⟨Nat.le_of_ble_eq_true rfl, Nat.le_of_ble_eq_true rfl⟩) ⟨cFB, va_recv hK hP (ci := 4) (q0 := 0) rfl rfl, cPre hK hN hS (va_free (wc := [k4_0 aM vM, k4_1 cI aM vM, k4_2 cI aM vM, k4_3 cI aM vM, k4_4 cI aM vM, k4_5 cJ aM vM, k4_6 cI aM vM, k4_7 cJ aM vM, k4_8 cJ aM vM, k4_9 cI aM vM]) hD hS hA [0, 1, 2, 3, 4, 5, 6, 7, 8, 9] rfl) (hP.sub [0, 1, 2, 3, 4, 5, 6, 7, 8, 9] rfl) (hD.sub [0, 1, 2, 3, 4, 5, 6, 7, 8, 9] rfl rfl)⟩ rfl rfl hl.1 rfl (lv_room (Nat.le_of_ble_eq_true rfl)) dX4_count_60 ⟨Nat.le_of_ble_eq_true rfl, Nat.le_of_ble_eq_true rfl⟩) [0, 1, 2, 3, 4, 5, 6, 7, 8, 9] [] [0, 1, 2, 3, 4, 5, 6, 7, 8, 9] rfl rfl rfl (by decide +kernel) rfl rfl (fun H locs hP hD hS => ?_)
          refine lv_sipush (v := 1000) hx hb dX4_count_63 (by decide) ?_
          refine lv_iadd hx hb dX4_count_66 ?_
          obtain rfl := Option.some.inj hf
          exact W.iret (v := (y6 + (1000 : Int32))) hx hb hr (fun t ht hW => ⟨⟨(y6 + (1000 : Int32)), (), rfl, rfl, by rw [ht]; exact hP, hD⟩, hS.F ht⟩) hS.2.2 dX4_count_67
        · have hf := oif_f c5 hf
          by_cases c7 : i1 = 4
          · have hf := oif_t c7 hf
            refine lv_tableIn (tgt := 68) hx hb dX4_count_1 (by rw [c7]; decide) (by rw [c7]; decide) (by rw [c7]; rfl) (by decide) ?_
            refine lv_aload_n hx hb dX4_count_68 rfl (lv_at hl 0 rfl) ?_
            refine va_get (D := (dC, dI)) (ci := 4) (v := .int (p4_pasts vM)) (C := RX4) (T := TX4) (N := 21) hx hb hts hiX4 hown hK hP 0 rfl rfl 3 (by decide) hgX4_42 (fun _ h9 => h9) rfl dX4_count_69 ?_
            obtain rfl := Option.some.inj hf
            exact W.iret (v := (p4_pasts vM)) hx hb hr (fun t ht hW => ⟨⟨(p4_pasts vM), (), rfl, rfl, by rw [ht]; exact hP, hD⟩, hS.F ht⟩) hS.2.2 dX4_count_72
          · have hf := oif_f c7 hf
            by_cases c8 : i1 = 5
            · have hf := oif_t c8 hf
              refine lv_tableIn (tgt := 73) hx hb dX4_count_1 (by rw [c8]; decide) (by rw [c8]; decide) (by rw [c8]; rfl) (by decide) ?_
              refine lv_aload_n hx hb dX4_count_73 rfl (lv_at hl 0 rfl) ?_
              refine va_get (D := (dC, dI)) (ci := 4) (v := .int (p4_typed vM)) (C := RX4) (T := TX4) (N := 21) hx hb hts hiX4 hown hK hP 0 rfl rfl 6 (by decide) hgX4_162 (fun _ h9 => h9) rfl dX4_count_74 ?_
              obtain rfl := Option.some.inj hf
              exact W.iret (v := (p4_typed vM)) hx hb hr (fun t ht hW => ⟨⟨(p4_typed vM), (), rfl, rfl, by rw [ht]; exact hP, hD⟩, hS.F ht⟩) hS.2.2 dX4_count_77
            · have hf := oif_f c8 hf
              refine lv_tableOut (tgt := 78) hx hb dX4_count_1 (by have t0 := toInt_ne (n := 0) rfl c1; have t1 := toInt_ne (n := 1) rfl c2; have t2 := toInt_ne (n := 2) rfl c3; have t3 := toInt_ne (n := 3) rfl c5; have t4 := toInt_ne (n := 4) rfl c7; have t5 := toInt_ne (n := 5) rfl c8; omega) (by decide) ?_
              refine lv_ldc (v := (-1000001)) hx hb hown hc57 dX4_count_78 ?_
              obtain rfl := Option.some.inj hf
              exact W.iret (v := (-1000001)) hx hb hr (fun t ht hW => ⟨⟨(-1000001), (), rfl, rfl, by rw [ht]; exact hP, hD⟩, hS.F ht⟩) hS.2.2 dX4_count_80
def fX4_undo_22_b (k22 : BX4 → Int32 → Option (Int32 × BX4)) (vM : BX4) (x1 : Int32) : Option (Int32 × BX4) :=
  if (24 : Int32) ≤ x1 then (some ((p4_pasts vM), vM)) else (if inB (((24 : Int32) * (p4_pasts vM)) + x1) 96 = true then (if inB x1 24 = true then (elet (s4_s vM (upd (p4_s vM) (x1).toNatClampNeg ((p4_past vM) ((((24 : Int32) * (p4_pasts vM)) + x1)).toNatClampNeg))) (fun b4 => elet (x1 + 1) (fun z5 => k22 b4 z5))) else none) else none)
def fX4_undo_22 : Nat → BX4 → Int32 → Option (Int32 × BX4)
  | 0 => fun _ _ => none
  | n + 1 => fX4_undo_22_b (fX4_undo_22 n)
def fX4_undo (vM : BX4) : Option (Int32 × BX4) :=
  if (p4_pasts vM) = 0 then (some ((-1000002), vM)) else (elet (s4_pasts vM ((p4_pasts vM) - (1 : Int32))) (fun b7 => fX4_undo_22 FU b7 (0 : Int32)))
set_option maxHeartbeats 8000000 in
set_option maxRecDepth 100000 in
theorem mX4_undo (l : Launch) (dC : Nat → ClassId) (dI : Nat → Nat → Nat) (cI cJ : ClassId) (aM : Nat → Nat) (sz : Nat) (vM : BX4) (y : (Int32 × BX4)) (hf : fX4_undo vM = some y) : Met l yX4_undo wsX4_undo ({ frames := 0, cells := 0, slots := 0, locals := 0 }) (cPc dC dI cI cJ [.ref (aM 0)] [k4_0 aM vM, k4_1 cI aM vM, k4_2 cI aM vM, k4_3 cI aM vM, k4_4 cI aM vM, k4_5 cJ aM vM, k4_6 cI aM vM, k4_7 cJ aM vM, k4_8 cJ aM vM, k4_9 cI aM vM] sz) (va_Qi (fun r (_ : Unit) => r = y.1) (fun _ t => cB dC dI (va_A [k4_0 aM vM, k4_1 cI aM vM, k4_2 cI aM vM, k4_3 cI aM vM, k4_4 cI aM vM, k4_5 cJ aM vM, k4_6 cI aM vM, k4_7 cJ aM vM, k4_8 cJ aM vM, k4_9 cI aM vM] sz) [k4_0 aM y.2, k4_1 cI aM y.2, k4_2 cI aM y.2, k4_3 cI aM y.2, k4_4 cI aM y.2, k4_5 cJ aM y.2, k4_6 cI aM y.2, k4_7 cJ aM y.2, k4_8 cJ aM y.2, k4_9 cI aM y.2] t) (va_A [k4_0 aM vM, k4_1 cI aM vM, k4_2 cI aM vM, k4_3 cI aM vM, k4_4 cI aM vM, k4_5 cJ aM vM, k4_6 cI aM vM, k4_7 cJ aM vM, k4_8 cJ aM vM, k4_9 cI aM vM] sz)) 0 0 (va_A [k4_0 aM vM, k4_1 cI aM vM, k4_2 cI aM vM, k4_3 cI aM vM, k4_4 cI aM vM, k4_5 cJ aM vM, k4_6 cI aM vM, k4_7 cJ aM vM, k4_8 cJ aM vM, k4_9 cI aM vM] sz) := by
  refine Met.ofW (cc := cX4_undo) (maxL := 2) (ret := (some .int)) (by decide) rfl ?_
  intro p e s m args below meth c s₁ B hml hv
  obtain ⟨rfl, hsz, hP, hK, hD0, hN⟩ := hv
  have hx := B.exec
  have hb := B.bytes
  have hr := B.returns
  have hts := atoms_spec (ws := wsX4_undo) B.pre
  have hown : s.vm.findClass RX4 = some m.cls := findClass_of_methodNamed B.named
  have hlocks := B.notSynchronized
  subst hsz
  have hD := hD0.self (sz := s.heap.size)
  generalize hAe : va_A [k4_0 aM vM, k4_1 cI aM vM, k4_2 cI aM vM, k4_3 cI aM vM, k4_4 cI aM vM, k4_5 cJ aM vM, k4_6 cI aM vM, k4_7 cJ aM vM, k4_8 cJ aM vM, k4_9 cI aM vM] s.heap.size = A at hD hN ⊢
  have hA : ∀ q : Nat, s.heap.size ≤ q → A q := fun q h => by rw [← hAe]; exact Or.inr h
  have hP : va_P (dC, dI) vwCl [k4_0 aM vM, k4_1 cI aM vM, k4_2 cI aM vM, k4_3 cI aM vM, k4_4 cI aM vM, k4_5 cJ aM vM, k4_6 cI aM vM, k4_7 cJ aM vM, k4_8 cJ aM vM, k4_9 cI aM vM] s.heap := hP
  have hl := lv_entry ([.ref (aM 0)]) (n := 2) (Nat.le_of_ble_eq_true rfl)
  rw [lg_entry_eq]
  generalize (lg_sl ([.ref (aM 0)]) ++ List.replicate (2 - (lg_sl ([.ref (aM 0)])).length) Slot.unset).toArray = ls at hl ⊢
  have hl : lv_has ls 2 [(0, .ref (aM 0))] := hl
  have hiX4 : ∀ w ∈ u_ws RX4 TX4 21, w ∈ wsX4_undo := by decide +kernel
  have hgX4_42 := hts (.fieldLink RX4 42 "SpringPlatesModel" "pasts" "I") (by decide +kernel)
  have hgX4_7 := hts (.fieldLink RX4 7 "SpringPlatesModel" "s" "[I") (by decide +kernel)
  have hgX4_13 := hts (.fieldLink RX4 13 "SpringPlatesModel" "past" "[I") (by decide +kernel)
  have hc58 := hts (.constant RX4 58 (-1000002)) (by decide +kernel)
  refine nameH (fun H locs hHe hLe => ?_)
  have hP : va_P (dC, dI) vwCl [k4_0 aM vM, k4_1 cI aM vM, k4_2 cI aM vM, k4_3 cI aM vM, k4_4 cI aM vM, k4_5 cJ aM vM, k4_6 cI aM vM, k4_7 cJ aM vM, k4_8 cJ aM vM, k4_9 cI aM vM] H := by rw [hHe]; exact hP
  have hS : va_S A s.heap H locs := by rw [hHe, hLe]; exact va_S.rf
  refine withW (fun WW hWW => ?_)
  have L22 : ∀ (n : Nat) (vM : BX4) (x1 : Int32) (H : Heap) (locs : List Loc) (ls : Array Slot), va_P (dC, dI) vwCl [k4_0 aM vM, k4_1 cI aM vM, k4_2 cI aM vM, k4_3 cI aM vM, k4_4 cI aM vM, k4_5 cJ aM vM, k4_6 cI aM vM, k4_7 cJ aM vM, k4_8 cJ aM vM, k4_9 cI aM vM] H → va_D A [k4_0 aM vM, k4_1 cI aM vM, k4_2 cI aM vM, k4_3 cI aM vM, k4_4 cI aM vM, k4_5 cJ aM vM, k4_6 cI aM vM, k4_7 cJ aM vM, k4_8 cJ aM vM, k4_9 cI aM vM] → va_S A s.heap H locs → lv_has ls 2 [(0, .ref (aM 0)), (1, .int x1)] → fX4_undo_22 n vM x1 = some y → WW H locs 0 0 ls 22 [] := by
    intro n
    induction n with
    | zero =>
      intro vM x1 H locs ls hP hD hS hl hf
      exact onone hf
    | succ n ih =>
      intro vM x1 H locs ls hP hD hS hl hf
      have hf : fX4_undo_22_b (fX4_undo_22 n) vM x1 = some y := hf
      generalize fX4_undo_22 n = k22 at hf ih
      have hk22 := ih
      clear ih
      unfold fX4_undo_22_b at hf
      refine (hWW _ _ _ _ _ _ _).2 ?_
      refine lv_iload_n hx hb dX4_undo_22 rfl (lv_at hl 1 rfl) ?_
      refine lv_bipush (v := 24) hx hb dX4_undo_23 (by decide) ?_
      refine lv_icmp_ge (tgt := 54) hx hb dX4_undo_25 (by decide) (fun c1 => ?_) (fun c1 => ?_)
      · have hf := oif_t c1 hf
        refine lv_aload_n hx hb dX4_undo_54 rfl (lv_at hl 0 rfl) ?_
        refine va_get (D := (dC, dI)) (ci := 4) (v := .int (p4_pasts vM)) (C := RX4) (T := TX4) (N := 21) hx hb hts hiX4 hown hK hP 0 rfl rfl 3 (by decide) hgX4_42 (fun _ h9 => h9) rfl dX4_undo_55 ?_
        obtain rfl := Option.some.inj hf
        exact W.iret (v := (p4_pasts vM)) hx hb hr (fun t ht hW => ⟨⟨(p4_pasts vM), (), rfl, rfl, by rw [ht]; exact hP, hD⟩, hS.F ht⟩) hS.2.2 dX4_undo_58
      · have hf := oif_f c1 hf
        refine lv_aload_n hx hb dX4_undo_28 rfl (lv_at hl 0 rfl) ?_
        refine va_get (D := (dC, dI)) (ci := 4) (v := .ref (aM 1)) (C := RX4) (T := TX4) (N := 21) hx hb hts hiX4 hown hK hP 0 rfl rfl 0 (by decide) hgX4_7 (fun _ h9 => h9) rfl dX4_undo_29 ?_
        refine lv_iload_n hx hb dX4_undo_32 rfl (lv_at hl 1 rfl) ?_
        refine lv_aload_n hx hb dX4_undo_33 rfl (lv_at hl 0 rfl) ?_
        refine va_get (D := (dC, dI)) (ci := 4) (v := .ref (aM 2)) (C := RX4) (T := TX4) (N := 21) hx hb hts hiX4 hown hK hP 0 rfl rfl 1 (by decide) hgX4_13 (fun _ h9 => h9) rfl dX4_undo_34 ?_
        refine lv_bipush (v := 24) hx hb dX4_undo_37 (by decide) ?_
        refine lv_aload_n hx hb dX4_undo_39 rfl (lv_at hl 0 rfl) ?_
        refine va_get (D := (dC, dI)) (ci := 4) (v := .int (p4_pasts vM)) (C := RX4) (T := TX4) (N := 21) hx hb hts hiX4 hown hK hP 0 rfl rfl 3 (by decide) hgX4_42 (fun _ h9 => h9) rfl dX4_undo_40 ?_
        refine lv_imul hx hb dX4_undo_43 ?_
        refine lv_iload_n hx hb dX4_undo_44 rfl (lv_at hl 1 rfl) ?_
        refine lv_iadd hx hb dX4_undo_45 ?_
        obtain ⟨hi2, hf⟩ := oinb rfl hf
        refine va_iald hx hb hK hP 2 0 rfl rfl hi2 dX4_undo_46 ?_
        obtain ⟨hi3, hf⟩ := oinb rfl hf
        obtain ⟨b4, eb4, hf⟩ := elet_out hf
        refine va_iast hx hb hK hP hD hS 1 0 rfl rfl hi3 dX4_undo_47 (fun H locs hP hD hS => ?_)
        have hP : va_P (dC, dI) vwCl [k4_0 aM b4, k4_1 cI aM b4, k4_2 cI aM b4, k4_3 cI aM b4, k4_4 cI aM b4, k4_5 cJ aM b4, k4_6 cI aM b4, k4_7 cJ aM b4, k4_8 cJ aM b4, k4_9 cI aM b4] H := by rw [eb4]; exact hP
        have hD : va_D A [k4_0 aM b4, k4_1 cI aM b4, k4_2 cI aM b4, k4_3 cI aM b4, k4_4 cI aM b4, k4_5 cJ aM b4, k4_6 cI aM b4, k4_7 cJ aM b4, k4_8 cJ aM b4, k4_9 cI aM b4] := by rw [eb4]; exact hD
        obtain ⟨z5, ez5, hf⟩ := elet_out hf
        refine lv_iinc (v := z5) (lv' := [(1, .int z5), (0, .ref (aM 0))]) hx hb dX4_undo_48 hl (k := 1) rfl (by rw [ez5]; rfl) (by decide) rfl (fun ls hl => ?_)
        refine lv_goto (tgt := 22) hx hb dX4_undo_51 (by decide) ?_
        exact (hWW _ _ _ _ _ _ _).1 (hk22 b4 z5 H locs ls hP hD hS (lv_sub hl [1, 0] rfl) hf)
  refine (hWW _ _ _ _ _ _ _).2 ?_
  unfold fX4_undo at hf
  refine lv_aload_n hx hb dX4_undo_0 rfl (lv_at hl 0 rfl) ?_
  refine va_get (D := (dC, dI)) (ci := 4) (v := .int (p4_pasts vM)) (C := RX4) (T := TX4) (N := 21) hx hb hts hiX4 hown hK hP 0 rfl rfl 3 (by decide) hgX4_42 (fun _ h9 => h9) rfl dX4_undo_1 ?_
  refine lv_if_ne (tgt := 10) hx hb dX4_undo_4 (by decide) (fun c6 => ?_) (fun c6 => ?_)
  · have hf := oif_f c6 hf
    refine lv_aload_n hx hb dX4_undo_10 rfl (lv_at hl 0 rfl) ?_
    refine lv_dup hx hb dX4_undo_11 rfl ?_
    refine va_get (D := (dC, dI)) (ci := 4) (v := .int (p4_pasts vM)) (C := RX4) (T := TX4) (N := 21) hx hb hts hiX4 hown hK hP 0 rfl rfl 3 (by decide) hgX4_42 (fun _ h9 => h9) rfl dX4_undo_12 ?_
    refine lv_iconst (v := 1) hx hb dX4_undo_15 (by decide) ?_
    refine lv_isub hx hb dX4_undo_16 ?_
    obtain ⟨b7, eb7, hf⟩ := elet_out hf
    refine va_put (D := (dC, dI)) (ci := 4) (v := .int ((p4_pasts vM) - (1 : Int32))) (ty := .int) (C := RX4) (T := TX4) (N := 21) hx hb hts hiX4 tyX4 tyX4_ok nmX4 hown hK hP hD hS 0 rfl rfl 3 (by decide) hgX4_42 (fun _ h9 => h9) rfl (by decide +kernel) rfl rfl (Nat.le_of_ble_eq_true rfl) dX4_undo_17 (fun H locs hP hD hS => ?_)
    have hP : va_P (dC, dI) vwCl [k4_0 aM b7, k4_1 cI aM b7, k4_2 cI aM b7, k4_3 cI aM b7, k4_4 cI aM b7, k4_5 cJ aM b7, k4_6 cI aM b7, k4_7 cJ aM b7, k4_8 cJ aM b7, k4_9 cI aM b7] H := by rw [eb7]; exact hP
    have hD : va_D A [k4_0 aM b7, k4_1 cI aM b7, k4_2 cI aM b7, k4_3 cI aM b7, k4_4 cI aM b7, k4_5 cJ aM b7, k4_6 cI aM b7, k4_7 cJ aM b7, k4_8 cJ aM b7, k4_9 cI aM b7] := by rw [eb7]; exact hD
    refine lv_iconst (v := 0) hx hb dX4_undo_20 (by decide) ?_
    refine lv_istore_n (lv' := [(1, .int 0), (0, .ref (aM 0))]) hx hb dX4_undo_21 rfl hl (by decide) rfl (fun ls hl => ?_)
    exact (hWW _ _ _ _ _ _ _).1 (L22 FU b7 (0 : Int32) H locs ls hP hD hS (lv_sub hl [1, 0] rfl) hf)
  · have hf := oif_t c6 hf
    refine lv_ldc (v := (-1000002)) hx hb hown hc58 dX4_undo_7 ?_
    obtain rfl := Option.some.inj hf
    exact W.iret (v := (-1000002)) hx hb hr (fun t ht hW => ⟨⟨(-1000002), (), rfl, rfl, by rw [ht]; exact hP, hD⟩, hS.F ht⟩) hS.2.2 dX4_undo_9
def fX4_type (vM : BX4) (i1 : Int32) : Option (Int32 × BX4) :=
  (fX4_in i1 (32 : Int32) (126 : Int32)).bind (fun y1 => if y1 = 0 then (some ((-1000001), vM)) else (if (p4_typed vM) = (60 : Int32) then (some ((-1000003), vM)) else (if inB (p4_typed vM) 60 = true then (elet (s4_text vM (upd (p4_text vM) ((p4_typed vM)).toNatClampNeg i1)) (fun b5 => elet (s4_typed b5 ((p4_typed b5) + (1 : Int32))) (fun b6 => some ((p4_typed b6), b6)))) else none)))
set_option maxHeartbeats 8000000 in
set_option maxRecDepth 100000 in
theorem mX4_type (l : Launch) (dC : Nat → ClassId) (dI : Nat → Nat → Nat) (cI cJ : ClassId) (aM : Nat → Nat) (sz : Nat) (vM : BX4) (i1 : Int32) (y : (Int32 × BX4)) (hf : fX4_type vM i1 = some y) : Met l yX4_type wsX4_type ({ frames := 1, cells := 0, slots := 0, locals := 22 }) (cPc dC dI cI cJ [.ref (aM 0), .int i1] [k4_0 aM vM, k4_1 cI aM vM, k4_2 cI aM vM, k4_3 cI aM vM, k4_4 cI aM vM, k4_5 cJ aM vM, k4_6 cI aM vM, k4_7 cJ aM vM, k4_8 cJ aM vM, k4_9 cI aM vM] sz) (va_Qi (fun r (_ : Unit) => r = y.1) (fun _ t => cB dC dI (va_A [k4_0 aM vM, k4_1 cI aM vM, k4_2 cI aM vM, k4_3 cI aM vM, k4_4 cI aM vM, k4_5 cJ aM vM, k4_6 cI aM vM, k4_7 cJ aM vM, k4_8 cJ aM vM, k4_9 cI aM vM] sz) [k4_0 aM y.2, k4_1 cI aM y.2, k4_2 cI aM y.2, k4_3 cI aM y.2, k4_4 cI aM y.2, k4_5 cJ aM y.2, k4_6 cI aM y.2, k4_7 cJ aM y.2, k4_8 cJ aM y.2, k4_9 cI aM y.2] t) (va_A [k4_0 aM vM, k4_1 cI aM vM, k4_2 cI aM vM, k4_3 cI aM vM, k4_4 cI aM vM, k4_5 cJ aM vM, k4_6 cI aM vM, k4_7 cJ aM vM, k4_8 cJ aM vM, k4_9 cI aM vM] sz)) 0 0 (va_A [k4_0 aM vM, k4_1 cI aM vM, k4_2 cI aM vM, k4_3 cI aM vM, k4_4 cI aM vM, k4_5 cJ aM vM, k4_6 cI aM vM, k4_7 cJ aM vM, k4_8 cJ aM vM, k4_9 cI aM vM] sz) := by
  refine Met.ofW (cc := cX4_type) (maxL := 2) (ret := (some .int)) (by decide) rfl ?_
  intro p e s m args below meth c s₁ B hml hv
  obtain ⟨rfl, hsz, hP, hK, hD0, hN⟩ := hv
  have hx := B.exec
  have hb := B.bytes
  have hr := B.returns
  have hts := atoms_spec (ws := wsX4_type) B.pre
  have hown : s.vm.findClass RX4 = some m.cls := findClass_of_methodNamed B.named
  have hlocks := B.notSynchronized
  subst hsz
  have hD := hD0.self (sz := s.heap.size)
  generalize hAe : va_A [k4_0 aM vM, k4_1 cI aM vM, k4_2 cI aM vM, k4_3 cI aM vM, k4_4 cI aM vM, k4_5 cJ aM vM, k4_6 cI aM vM, k4_7 cJ aM vM, k4_8 cJ aM vM, k4_9 cI aM vM] s.heap.size = A at hD hN ⊢
  have hA : ∀ q : Nat, s.heap.size ≤ q → A q := fun q h => by rw [← hAe]; exact Or.inr h
  have hP : va_P (dC, dI) vwCl [k4_0 aM vM, k4_1 cI aM vM, k4_2 cI aM vM, k4_3 cI aM vM, k4_4 cI aM vM, k4_5 cJ aM vM, k4_6 cI aM vM, k4_7 cJ aM vM, k4_8 cJ aM vM, k4_9 cI aM vM] s.heap := hP
  have hl := lv_entry ([.ref (aM 0), .int i1]) (n := 2) (Nat.le_of_ble_eq_true rfl)
  rw [lg_entry_eq]
  generalize (lg_sl ([.ref (aM 0), .int i1]) ++ List.replicate (2 - (lg_sl ([.ref (aM 0), .int i1])).length) Slot.unset).toArray = ls at hl ⊢
  have hl : lv_has ls 2 [(0, .ref (aM 0)), (1, .int i1)] := hl
  have hiX4 : ∀ w ∈ u_ws RX4 TX4 21, w ∈ wsX4_type := by decide +kernel
  have hgX4_162 := hts (.fieldLink RX4 162 "SpringPlatesModel" "typed" "I") (by decide +kernel)
  have hgX4_19 := hts (.fieldLink RX4 19 "SpringPlatesModel" "text" "[I") (by decide +kernel)
  have hc62 := hts (.constant RX4 62 (-1000003)) (by decide +kernel)
  have hc57 := hts (.constant RX4 57 (-1000001)) (by decide +kernel)
  refine nameH (fun H locs hHe hLe => ?_)
  have hP : va_P (dC, dI) vwCl [k4_0 aM vM, k4_1 cI aM vM, k4_2 cI aM vM, k4_3 cI aM vM, k4_4 cI aM vM, k4_5 cJ aM vM, k4_6 cI aM vM, k4_7 cJ aM vM, k4_8 cJ aM vM, k4_9 cI aM vM] H := by rw [hHe]; exact hP
  have hS : va_S A s.heap H locs := by rw [hHe, hLe]; exact va_S.rf
  unfold fX4_type at hf
  refine lv_iload_n hx hb dX4_type_0 rfl (lv_at hl 1 rfl) ?_
  refine lv_bipush (v := 32) hx hb dX4_type_1 (by decide) ?_
  refine lv_bipush (v := 126) hx hb dX4_type_3 (by decide) ?_
  obtain ⟨y1, hy1, hf⟩ := obind hf
  refine cg_i (ws := [k4_0 aM vM, k4_1 cI aM vM, k4_2 cI aM vM, k4_3 cI aM vM, k4_4 cI aM vM, k4_5 cJ aM vM, k4_6 cI aM vM, k4_7 cJ aM vM, k4_8 cJ aM vM, k4_9 cI aM vM]) (wc := []) (wr := [k4_0 aM vM, k4_1 cI aM vM, k4_2 cI aM vM, k4_3 cI aM vM, k4_4 cI aM vM, k4_5 cJ aM vM, k4_6 cI aM vM, k4_7 cJ aM vM, k4_8 cJ aM vM, k4_9 cI aM vM]) (w1 := []) (wo := [k4_0 aM vM, k4_1 cI aM vM, k4_2 cI aM vM, k4_3 cI aM vM, k4_4 cI aM vM, k4_5 cJ aM vM, k4_6 cI aM vM, k4_7 cJ aM vM, k4_8 cJ aM vM, k4_9 cI aM vM]) hP hD hS hA (va_runS (As := [.int i1, .int 32, .int 126]) (rest := []) ⟨hx, hb, hml, hown, hts⟩ (mX4_in l dC dI cI cJ  H.size i1 (32 : Int32) (126 : Int32) y1 hy1) (va_cwS 3 hts gX4_type_X4_in rfl rfl rfl (by decide +kernel) ⟨Nat.le_of_ble_eq_true rfl, Nat.le_of_ble_eq_true rfl⟩) ⟨cFB, cPre hK hN hS (va_free (wc := []) hD hS hA [] rfl) (hP.sub [] rfl) (hD.sub [] rfl rfl)⟩ rfl rfl hl.1 rfl (lv_room (Nat.le_of_ble_eq_true rfl)) dX4_type_5 ⟨Nat.le_of_ble_eq_true rfl, Nat.le_of_ble_eq_true rfl⟩) [] [0, 1, 2, 3, 4, 5, 6, 7, 8, 9] [0, 1, 2, 3, 4, 5, 6, 7, 8, 9] rfl rfl rfl (by decide +kernel) rfl rfl (fun H locs hP hD hS => ?_)
  refine lv_if_ne (tgt := 14) hx hb dX4_type_8 (by decide) (fun c2 => ?_) (fun c2 => ?_)
  · have hf := oif_f c2 hf
    refine lv_aload_n hx hb dX4_type_14 rfl (lv_at hl 0 rfl) ?_
    refine va_get (D := (dC, dI)) (ci := 4) (v := .int (p4_typed vM)) (C := RX4) (T := TX4) (N := 21) hx hb hts hiX4 hown hK hP 0 rfl rfl 6 (by decide) hgX4_162 (fun _ h9 => h9) rfl dX4_type_15 ?_
    refine lv_bipush (v := 60) hx hb dX4_type_18 (by decide) ?_
    refine lv_icmp_ne (tgt := 26) hx hb dX4_type_20 (by decide) (fun c3 => ?_) (fun c3 => ?_)
    · have hf := oif_f c3 hf
      refine lv_aload_n hx hb dX4_type_26 rfl (lv_at hl 0 rfl) ?_
      refine va_get (D := (dC, dI)) (ci := 4) (v := .ref (aM 4)) (C := RX4) (T := TX4) (N := 21) hx hb hts hiX4 hown hK hP 0 rfl rfl 5 (by decide) hgX4_19 (fun _ h9 => h9) rfl dX4_type_27 ?_
      refine lv_aload_n hx hb dX4_type_30 rfl (lv_at hl 0 rfl) ?_
      refine va_get (D := (dC, dI)) (ci := 4) (v := .int (p4_typed vM)) (C := RX4) (T := TX4) (N := 21) hx hb hts hiX4 hown hK hP 0 rfl rfl 6 (by decide) hgX4_162 (fun _ h9 => h9) rfl dX4_type_31 ?_
      refine lv_iload_n hx hb dX4_type_34 rfl (lv_at hl 1 rfl) ?_
      obtain ⟨hi4, hf⟩ := oinb rfl hf
      obtain ⟨b5, eb5, hf⟩ := elet_out hf
      refine va_iast hx hb hK hP hD hS 4 0 rfl rfl hi4 dX4_type_35 (fun H locs hP hD hS => ?_)
      have hP : va_P (dC, dI) vwCl [k4_0 aM b5, k4_1 cI aM b5, k4_2 cI aM b5, k4_3 cI aM b5, k4_4 cI aM b5, k4_5 cJ aM b5, k4_6 cI aM b5, k4_7 cJ aM b5, k4_8 cJ aM b5, k4_9 cI aM b5] H := by rw [eb5]; exact hP
      have hD : va_D A [k4_0 aM b5, k4_1 cI aM b5, k4_2 cI aM b5, k4_3 cI aM b5, k4_4 cI aM b5, k4_5 cJ aM b5, k4_6 cI aM b5, k4_7 cJ aM b5, k4_8 cJ aM b5, k4_9 cI aM b5] := by rw [eb5]; exact hD
      refine lv_aload_n hx hb dX4_type_36 rfl (lv_at hl 0 rfl) ?_
      refine lv_dup hx hb dX4_type_37 rfl ?_
      refine va_get (D := (dC, dI)) (ci := 4) (v := .int (p4_typed b5)) (C := RX4) (T := TX4) (N := 21) hx hb hts hiX4 hown hK hP 0 rfl rfl 6 (by decide) hgX4_162 (fun _ h9 => h9) rfl dX4_type_38 ?_
      refine lv_iconst (v := 1) hx hb dX4_type_41 (by decide) ?_
      refine lv_iadd hx hb dX4_type_42 ?_
      obtain ⟨b6, eb6, hf⟩ := elet_out hf
      refine va_put (D := (dC, dI)) (ci := 4) (v := .int ((p4_typed b5) + (1 : Int32))) (ty := .int) (C := RX4) (T := TX4) (N := 21) hx hb hts hiX4 tyX4 tyX4_ok nmX4 hown hK hP hD hS 0 rfl rfl 6 (by decide) hgX4_162 (fun _ h9 => h9) rfl (by decide +kernel) rfl rfl (Nat.le_of_ble_eq_true rfl) dX4_type_43 (fun H locs hP hD hS => ?_)
      have hP : va_P (dC, dI) vwCl [k4_0 aM b6, k4_1 cI aM b6, k4_2 cI aM b6, k4_3 cI aM b6, k4_4 cI aM b6, k4_5 cJ aM b6, k4_6 cI aM b6, k4_7 cJ aM b6, k4_8 cJ aM b6, k4_9 cI aM b6] H := by rw [eb6]; exact hP
      have hD : va_D A [k4_0 aM b6, k4_1 cI aM b6, k4_2 cI aM b6, k4_3 cI aM b6, k4_4 cI aM b6, k4_5 cJ aM b6, k4_6 cI aM b6, k4_7 cJ aM b6, k4_8 cJ aM b6, k4_9 cI aM b6] := by rw [eb6]; exact hD
      refine lv_aload_n hx hb dX4_type_46 rfl (lv_at hl 0 rfl) ?_
      refine va_get (D := (dC, dI)) (ci := 4) (v := .int (p4_typed b6)) (C := RX4) (T := TX4) (N := 21) hx hb hts hiX4 hown hK hP 0 rfl rfl 6 (by decide) hgX4_162 (fun _ h9 => h9) rfl dX4_type_47 ?_
      obtain rfl := Option.some.inj hf
      exact W.iret (v := (p4_typed b6)) hx hb hr (fun t ht hW => ⟨⟨(p4_typed b6), (), rfl, rfl, by rw [ht]; exact hP, hD⟩, hS.F ht⟩) hS.2.2 dX4_type_50
    · have hf := oif_t c3 hf
      refine lv_ldc (v := (-1000003)) hx hb hown hc62 dX4_type_23 ?_
      obtain rfl := Option.some.inj hf
      exact W.iret (v := (-1000003)) hx hb hr (fun t ht hW => ⟨⟨(-1000003), (), rfl, rfl, by rw [ht]; exact hP, hD⟩, hS.F ht⟩) hS.2.2 dX4_type_25
  · have hf := oif_t c2 hf
    refine lv_ldc (v := (-1000001)) hx hb hown hc57 dX4_type_11 ?_
    obtain rfl := Option.some.inj hf
    exact W.iret (v := (-1000001)) hx hb hr (fun t ht hW => ⟨⟨(-1000001), (), rfl, rfl, by rw [ht]; exact hP, hD⟩, hS.F ht⟩) hS.2.2 dX4_type_13
def fX4_clearText (vM : BX4) : Option (Int32 × BX4) :=
  elet (p4_typed vM) (fun z1 => elet (s4_typed vM 0) (fun b2 => some (z1, b2)))
set_option maxHeartbeats 8000000 in
set_option maxRecDepth 100000 in
theorem mX4_clearText (l : Launch) (dC : Nat → ClassId) (dI : Nat → Nat → Nat) (cI cJ : ClassId) (aM : Nat → Nat) (sz : Nat) (vM : BX4) (y : (Int32 × BX4)) (hf : fX4_clearText vM = some y) : Met l yX4_clearText wsX4_clearText ({ frames := 0, cells := 0, slots := 0, locals := 0 }) (cPc dC dI cI cJ [.ref (aM 0)] [k4_0 aM vM, k4_1 cI aM vM, k4_2 cI aM vM, k4_3 cI aM vM, k4_4 cI aM vM, k4_5 cJ aM vM, k4_6 cI aM vM, k4_7 cJ aM vM, k4_8 cJ aM vM, k4_9 cI aM vM] sz) (va_Qi (fun r (_ : Unit) => r = y.1) (fun _ t => cB dC dI (va_A [k4_0 aM vM, k4_1 cI aM vM, k4_2 cI aM vM, k4_3 cI aM vM, k4_4 cI aM vM, k4_5 cJ aM vM, k4_6 cI aM vM, k4_7 cJ aM vM, k4_8 cJ aM vM, k4_9 cI aM vM] sz) [k4_0 aM y.2, k4_1 cI aM y.2, k4_2 cI aM y.2, k4_3 cI aM y.2, k4_4 cI aM y.2, k4_5 cJ aM y.2, k4_6 cI aM y.2, k4_7 cJ aM y.2, k4_8 cJ aM y.2, k4_9 cI aM y.2] t) (va_A [k4_0 aM vM, k4_1 cI aM vM, k4_2 cI aM vM, k4_3 cI aM vM, k4_4 cI aM vM, k4_5 cJ aM vM, k4_6 cI aM vM, k4_7 cJ aM vM, k4_8 cJ aM vM, k4_9 cI aM vM] sz)) 0 0 (va_A [k4_0 aM vM, k4_1 cI aM vM, k4_2 cI aM vM, k4_3 cI aM vM, k4_4 cI aM vM, k4_5 cJ aM vM, k4_6 cI aM vM, k4_7 cJ aM vM, k4_8 cJ aM vM, k4_9 cI aM vM] sz) := by
  refine Met.ofW (cc := cX4_clearText) (maxL := 2) (ret := (some .int)) (by decide) rfl ?_
  intro p e s m args below meth c s₁ B hml hv
  obtain ⟨rfl, hsz, hP, hK, hD0, hN⟩ := hv
  have hx := B.exec
  have hb := B.bytes
  have hr := B.returns
  have hts := atoms_spec (ws := wsX4_clearText) B.pre
  have hown : s.vm.findClass RX4 = some m.cls := findClass_of_methodNamed B.named
  have hlocks := B.notSynchronized
  subst hsz
  have hD := hD0.self (sz := s.heap.size)
  generalize hAe : va_A [k4_0 aM vM, k4_1 cI aM vM, k4_2 cI aM vM, k4_3 cI aM vM, k4_4 cI aM vM, k4_5 cJ aM vM, k4_6 cI aM vM, k4_7 cJ aM vM, k4_8 cJ aM vM, k4_9 cI aM vM] s.heap.size = A at hD hN ⊢
  have hA : ∀ q : Nat, s.heap.size ≤ q → A q := fun q h => by rw [← hAe]; exact Or.inr h
  have hP : va_P (dC, dI) vwCl [k4_0 aM vM, k4_1 cI aM vM, k4_2 cI aM vM, k4_3 cI aM vM, k4_4 cI aM vM, k4_5 cJ aM vM, k4_6 cI aM vM, k4_7 cJ aM vM, k4_8 cJ aM vM, k4_9 cI aM vM] s.heap := hP
  have hl := lv_entry ([.ref (aM 0)]) (n := 2) (Nat.le_of_ble_eq_true rfl)
  rw [lg_entry_eq]
  generalize (lg_sl ([.ref (aM 0)]) ++ List.replicate (2 - (lg_sl ([.ref (aM 0)])).length) Slot.unset).toArray = ls at hl ⊢
  have hl : lv_has ls 2 [(0, .ref (aM 0))] := hl
  have hiX4 : ∀ w ∈ u_ws RX4 TX4 21, w ∈ wsX4_clearText := by decide +kernel
  have hgX4_162 := hts (.fieldLink RX4 162 "SpringPlatesModel" "typed" "I") (by decide +kernel)
  refine nameH (fun H locs hHe hLe => ?_)
  have hP : va_P (dC, dI) vwCl [k4_0 aM vM, k4_1 cI aM vM, k4_2 cI aM vM, k4_3 cI aM vM, k4_4 cI aM vM, k4_5 cJ aM vM, k4_6 cI aM vM, k4_7 cJ aM vM, k4_8 cJ aM vM, k4_9 cI aM vM] H := by rw [hHe]; exact hP
  have hS : va_S A s.heap H locs := by rw [hHe, hLe]; exact va_S.rf
  unfold fX4_clearText at hf
  refine lv_aload_n hx hb dX4_clearText_0 rfl (lv_at hl 0 rfl) ?_
  refine va_get (D := (dC, dI)) (ci := 4) (v := .int (p4_typed vM)) (C := RX4) (T := TX4) (N := 21) hx hb hts hiX4 hown hK hP 0 rfl rfl 6 (by decide) hgX4_162 (fun _ h9 => h9) rfl dX4_clearText_1 ?_
  obtain ⟨z1, ez1, hf⟩ := elet_out hf
  refine lvn_i ez1 ?_
  refine lv_istore_n (lv' := [(1, .int z1), (0, .ref (aM 0))]) hx hb dX4_clearText_4 rfl hl (by decide) rfl (fun ls hl => ?_)
  refine lv_aload_n hx hb dX4_clearText_5 rfl (lv_at hl 1 rfl) ?_
  refine lv_iconst (v := 0) hx hb dX4_clearText_6 (by decide) ?_
  obtain ⟨b2, eb2, hf⟩ := elet_out hf
  refine va_put (D := (dC, dI)) (ci := 4) (v := .int 0) (ty := .int) (C := RX4) (T := TX4) (N := 21) hx hb hts hiX4 tyX4 tyX4_ok nmX4 hown hK hP hD hS 0 rfl rfl 6 (by decide) hgX4_162 (fun _ h9 => h9) rfl (by decide +kernel) rfl rfl (Nat.le_of_ble_eq_true rfl) dX4_clearText_7 (fun H locs hP hD hS => ?_)
  have hP : va_P (dC, dI) vwCl [k4_0 aM b2, k4_1 cI aM b2, k4_2 cI aM b2, k4_3 cI aM b2, k4_4 cI aM b2, k4_5 cJ aM b2, k4_6 cI aM b2, k4_7 cJ aM b2, k4_8 cJ aM b2, k4_9 cI aM b2] H := by rw [eb2]; exact hP
  have hD : va_D A [k4_0 aM b2, k4_1 cI aM b2, k4_2 cI aM b2, k4_3 cI aM b2, k4_4 cI aM b2, k4_5 cJ aM b2, k4_6 cI aM b2, k4_7 cJ aM b2, k4_8 cJ aM b2, k4_9 cI aM b2] := by rw [eb2]; exact hD
  refine lv_iload_n hx hb dX4_clearText_10 rfl (lv_at hl 0 rfl) ?_
  obtain rfl := Option.some.inj hf
  exact W.iret (v := z1) hx hb hr (fun t ht hW => ⟨⟨z1, (), rfl, rfl, by rw [ht]; exact hP, hD⟩, hS.F ht⟩) hS.2.2 dX4_clearText_11
def fX4_isHere (vM : BX4) (i1 : Int32) (i2 : Int32) : Option Int32 :=
  if (p4_typed vM) ≤ (p4_spot vM) then (some 0) else (if inB (p4_spot vM) 60 = true then ((fX4_in ((p4_text vM) ((p4_spot vM)).toNatClampNeg) i1 i2).bind (fun y3 => if y3 = 0 then (some 0) else (some 1))) else none)
set_option maxHeartbeats 8000000 in
set_option maxRecDepth 100000 in
theorem mX4_isHere (l : Launch) (dC : Nat → ClassId) (dI : Nat → Nat → Nat) (cI cJ : ClassId) (aM : Nat → Nat) (sz : Nat) (vM : BX4) (i1 : Int32) (i2 : Int32) (y : Int32) (hf : fX4_isHere vM i1 i2 = some y) : Met l yX4_isHere wsX4_isHere ({ frames := 1, cells := 0, slots := 0, locals := 22 }) (cPc dC dI cI cJ [.ref (aM 0), .int i1, .int i2] [k4_0 aM vM, k4_1 cI aM vM, k4_2 cI aM vM, k4_3 cI aM vM, k4_4 cI aM vM, k4_5 cJ aM vM, k4_6 cI aM vM, k4_7 cJ aM vM, k4_8 cJ aM vM, k4_9 cI aM vM] sz) (va_Qi (fun r (_ : Unit) => r = y) (fun _ t => cB dC dI (va_A [k4_0 aM vM, k4_1 cI aM vM, k4_2 cI aM vM, k4_3 cI aM vM, k4_4 cI aM vM, k4_5 cJ aM vM, k4_6 cI aM vM, k4_7 cJ aM vM, k4_8 cJ aM vM, k4_9 cI aM vM] sz) [k4_0 aM vM, k4_1 cI aM vM, k4_2 cI aM vM, k4_3 cI aM vM, k4_4 cI aM vM, k4_5 cJ aM vM, k4_6 cI aM vM, k4_7 cJ aM vM, k4_8 cJ aM vM, k4_9 cI aM vM] t) (va_A [k4_0 aM vM, k4_1 cI aM vM, k4_2 cI aM vM, k4_3 cI aM vM, k4_4 cI aM vM, k4_5 cJ aM vM, k4_6 cI aM vM, k4_7 cJ aM vM, k4_8 cJ aM vM, k4_9 cI aM vM] sz)) 0 0 (va_A [k4_0 aM vM, k4_1 cI aM vM, k4_2 cI aM vM, k4_3 cI aM vM, k4_4 cI aM vM, k4_5 cJ aM vM, k4_6 cI aM vM, k4_7 cJ aM vM, k4_8 cJ aM vM, k4_9 cI aM vM] sz) := by
  refine Met.ofW (cc := cX4_isHere) (maxL := 3) (ret := (some .boolean)) (by decide) rfl ?_
  intro p e s m args below meth c s₁ B hml hv
  obtain ⟨rfl, hsz, hP, hK, hD0, hN⟩ := hv
  have hx := B.exec
  have hb := B.bytes
  have hr := B.returns
  have hts := atoms_spec (ws := wsX4_isHere) B.pre
  have hown : s.vm.findClass RX4 = some m.cls := findClass_of_methodNamed B.named
  have hlocks := B.notSynchronized
  subst hsz
  have hD := hD0.self (sz := s.heap.size)
  generalize hAe : va_A [k4_0 aM vM, k4_1 cI aM vM, k4_2 cI aM vM, k4_3 cI aM vM, k4_4 cI aM vM, k4_5 cJ aM vM, k4_6 cI aM vM, k4_7 cJ aM vM, k4_8 cJ aM vM, k4_9 cI aM vM] s.heap.size = A at hD hN ⊢
  have hA : ∀ q : Nat, s.heap.size ≤ q → A q := fun q h => by rw [← hAe]; exact Or.inr h
  have hP : va_P (dC, dI) vwCl [k4_0 aM vM, k4_1 cI aM vM, k4_2 cI aM vM, k4_3 cI aM vM, k4_4 cI aM vM, k4_5 cJ aM vM, k4_6 cI aM vM, k4_7 cJ aM vM, k4_8 cJ aM vM, k4_9 cI aM vM] s.heap := hP
  have hl := lv_entry ([.ref (aM 0), .int i1, .int i2]) (n := 3) (Nat.le_of_ble_eq_true rfl)
  rw [lg_entry_eq]
  generalize (lg_sl ([.ref (aM 0), .int i1, .int i2]) ++ List.replicate (3 - (lg_sl ([.ref (aM 0), .int i1, .int i2])).length) Slot.unset).toArray = ls at hl ⊢
  have hl : lv_has ls 3 [(0, .ref (aM 0)), (1, .int i1), (2, .int i2)] := hl
  have hiX4 : ∀ w ∈ u_ws RX4 TX4 21, w ∈ wsX4_isHere := by decide +kernel
  have hgX4_165 := hts (.fieldLink RX4 165 "SpringPlatesModel" "spot" "I") (by decide +kernel)
  have hgX4_162 := hts (.fieldLink RX4 162 "SpringPlatesModel" "typed" "I") (by decide +kernel)
  have hgX4_19 := hts (.fieldLink RX4 19 "SpringPlatesModel" "text" "[I") (by decide +kernel)
  refine nameH (fun H locs hHe hLe => ?_)
  have hP : va_P (dC, dI) vwCl [k4_0 aM vM, k4_1 cI aM vM, k4_2 cI aM vM, k4_3 cI aM vM, k4_4 cI aM vM, k4_5 cJ aM vM, k4_6 cI aM vM, k4_7 cJ aM vM, k4_8 cJ aM vM, k4_9 cI aM vM] H := by rw [hHe]; exact hP
  have hS : va_S A s.heap H locs := by rw [hHe, hLe]; exact va_S.rf
  unfold fX4_isHere at hf
  refine lv_aload_n hx hb dX4_isHere_0 rfl (lv_at hl 0 rfl) ?_
  refine va_get (D := (dC, dI)) (ci := 4) (v := .int (p4_spot vM)) (C := RX4) (T := TX4) (N := 21) hx hb hts hiX4 hown hK hP 0 rfl rfl 16 (by decide) hgX4_165 (fun _ h9 => h9) rfl dX4_isHere_1 ?_
  refine lv_aload_n hx hb dX4_isHere_4 rfl (lv_at hl 0 rfl) ?_
  refine va_get (D := (dC, dI)) (ci := 4) (v := .int (p4_typed vM)) (C := RX4) (T := TX4) (N := 21) hx hb hts hiX4 hown hK hP 0 rfl rfl 6 (by decide) hgX4_162 (fun _ h9 => h9) rfl dX4_isHere_5 ?_
  refine lv_icmp_ge (tgt := 32) hx hb dX4_isHere_8 (by decide) (fun c1 => ?_) (fun c1 => ?_)
  · have hf := oif_t c1 hf
    refine lv_iconst (v := 0) hx hb dX4_isHere_32 (by decide) ?_
    obtain rfl := Option.some.inj hf
    exact W.zret (v := 0) hx hb hr rfl (fun t ht hW => ⟨⟨0, (), rfl, rfl, by rw [ht]; exact hP, hD⟩, hS.F ht⟩) hS.2.2 dX4_isHere_33
  · have hf := oif_f c1 hf
    refine lv_aload_n hx hb dX4_isHere_11 rfl (lv_at hl 0 rfl) ?_
    refine va_get (D := (dC, dI)) (ci := 4) (v := .ref (aM 4)) (C := RX4) (T := TX4) (N := 21) hx hb hts hiX4 hown hK hP 0 rfl rfl 5 (by decide) hgX4_19 (fun _ h9 => h9) rfl dX4_isHere_12 ?_
    refine lv_aload_n hx hb dX4_isHere_15 rfl (lv_at hl 0 rfl) ?_
    refine va_get (D := (dC, dI)) (ci := 4) (v := .int (p4_spot vM)) (C := RX4) (T := TX4) (N := 21) hx hb hts hiX4 hown hK hP 0 rfl rfl 16 (by decide) hgX4_165 (fun _ h9 => h9) rfl dX4_isHere_16 ?_
    obtain ⟨hi2, hf⟩ := oinb rfl hf
    refine va_iald hx hb hK hP 4 0 rfl rfl hi2 dX4_isHere_19 ?_
    refine lv_iload_n hx hb dX4_isHere_20 rfl (lv_at hl 1 rfl) ?_
    refine lv_iload_n hx hb dX4_isHere_21 rfl (lv_at hl 2 rfl) ?_
    obtain ⟨y3, hy3, hf⟩ := obind hf
    refine cg_i (ws := [k4_0 aM vM, k4_1 cI aM vM, k4_2 cI aM vM, k4_3 cI aM vM, k4_4 cI aM vM, k4_5 cJ aM vM, k4_6 cI aM vM, k4_7 cJ aM vM, k4_8 cJ aM vM, k4_9 cI aM vM]) (wc := []) (wr := [k4_0 aM vM, k4_1 cI aM vM, k4_2 cI aM vM, k4_3 cI aM vM, k4_4 cI aM vM, k4_5 cJ aM vM, k4_6 cI aM vM, k4_7 cJ aM vM, k4_8 cJ aM vM, k4_9 cI aM vM]) (w1 := []) (wo := [k4_0 aM vM, k4_1 cI aM vM, k4_2 cI aM vM, k4_3 cI aM vM, k4_4 cI aM vM, k4_5 cJ aM vM, k4_6 cI aM vM, k4_7 cJ aM vM, k4_8 cJ aM vM, k4_9 cI aM vM]) hP hD hS hA (va_runS (As := [.int ((p4_text vM) ((p4_spot vM)).toNatClampNeg), .int i1, .int i2]) (rest := []) ⟨hx, hb, hml, hown, hts⟩ (mX4_in l dC dI cI cJ  H.size ((p4_text vM) ((p4_spot vM)).toNatClampNeg) i1 i2 y3 hy3) (va_cwS 3 hts gX4_isHere_X4_in rfl rfl rfl (by decide +kernel) ⟨Nat.le_of_ble_eq_true rfl, Nat.le_of_ble_eq_true rfl⟩) ⟨cFB, cPre hK hN hS (va_free (wc := []) hD hS hA [] rfl) (hP.sub [] rfl) (hD.sub [] rfl rfl)⟩ rfl rfl hl.1 rfl (lv_room (Nat.le_of_ble_eq_true rfl)) dX4_isHere_22 ⟨Nat.le_of_ble_eq_true rfl, Nat.le_of_ble_eq_true rfl⟩) [] [0, 1, 2, 3, 4, 5, 6, 7, 8, 9] [0, 1, 2, 3, 4, 5, 6, 7, 8, 9] rfl rfl rfl (by decide +kernel) rfl rfl (fun H locs hP hD hS => ?_)
    refine lv_if_eq (tgt := 32) hx hb dX4_isHere_25 (by decide) (fun c4 => ?_) (fun c4 => ?_)
    · have hf := oif_t c4 hf
      refine lv_iconst (v := 0) hx hb dX4_isHere_32 (by decide) ?_
      obtain rfl := Option.some.inj hf
      exact W.zret (v := 0) hx hb hr rfl (fun t ht hW => ⟨⟨0, (), rfl, rfl, by rw [ht]; exact hP, hD⟩, hS.F ht⟩) hS.2.2 dX4_isHere_33
    · have hf := oif_f c4 hf
      refine lv_iconst (v := 1) hx hb dX4_isHere_28 (by decide) ?_
      refine lv_goto (tgt := 33) hx hb dX4_isHere_29 (by decide) ?_
      obtain rfl := Option.some.inj hf
      exact W.zret (v := 1) hx hb hr rfl (fun t ht hW => ⟨⟨1, (), rfl, rfl, by rw [ht]; exact hP, hD⟩, hS.F ht⟩) hS.2.2 dX4_isHere_33
def fX4_passes_21 (vM : BX4) (x2 : Int32) (st1 : Int32) (st2 : Int32) : Option (Int32 × BX4) :=
  elet (s4_spot vM (st1 + st2)) (fun b1 => if zB x2 = true then (some (x2, b1)) else none)
def fX4_passes (vM : BX4) (i1 : Int32) : Option (Int32 × BX4) :=
  (fX4_isHere vM i1 i1).bind (fun y3 => if y3 = 0 then (fX4_passes_21 vM y3 (p4_spot vM) (0 : Int32)) else (fX4_passes_21 vM y3 (p4_spot vM) (1 : Int32)))
set_option maxHeartbeats 8000000 in
set_option maxRecDepth 100000 in
theorem mX4_passes (l : Launch) (dC : Nat → ClassId) (dI : Nat → Nat → Nat) (cI cJ : ClassId) (aM : Nat → Nat) (sz : Nat) (vM : BX4) (i1 : Int32) (y : (Int32 × BX4)) (hf : fX4_passes vM i1 = some y) : Met l yX4_passes wsX4_passes ({ frames := 2, cells := 0, slots := 0, locals := 44 }) (cPc dC dI cI cJ [.ref (aM 0), .int i1] [k4_0 aM vM, k4_1 cI aM vM, k4_2 cI aM vM, k4_3 cI aM vM, k4_4 cI aM vM, k4_5 cJ aM vM, k4_6 cI aM vM, k4_7 cJ aM vM, k4_8 cJ aM vM, k4_9 cI aM vM] sz) (va_Qi (fun r (_ : Unit) => r = y.1) (fun _ t => cB dC dI (va_A [k4_0 aM vM, k4_1 cI aM vM, k4_2 cI aM vM, k4_3 cI aM vM, k4_4 cI aM vM, k4_5 cJ aM vM, k4_6 cI aM vM, k4_7 cJ aM vM, k4_8 cJ aM vM, k4_9 cI aM vM] sz) [k4_0 aM y.2, k4_1 cI aM y.2, k4_2 cI aM y.2, k4_3 cI aM y.2, k4_4 cI aM y.2, k4_5 cJ aM y.2, k4_6 cI aM y.2, k4_7 cJ aM y.2, k4_8 cJ aM y.2, k4_9 cI aM y.2] t) (va_A [k4_0 aM vM, k4_1 cI aM vM, k4_2 cI aM vM, k4_3 cI aM vM, k4_4 cI aM vM, k4_5 cJ aM vM, k4_6 cI aM vM, k4_7 cJ aM vM, k4_8 cJ aM vM, k4_9 cI aM vM] sz)) 0 0 (va_A [k4_0 aM vM, k4_1 cI aM vM, k4_2 cI aM vM, k4_3 cI aM vM, k4_4 cI aM vM, k4_5 cJ aM vM, k4_6 cI aM vM, k4_7 cJ aM vM, k4_8 cJ aM vM, k4_9 cI aM vM] sz) := by
  refine Met.ofW (cc := cX4_passes) (maxL := 3) (ret := (some .boolean)) (by decide) rfl ?_
  intro p e s m args below meth c s₁ B hml hv
  obtain ⟨rfl, hsz, hP, hK, hD0, hN⟩ := hv
  have hx := B.exec
  have hb := B.bytes
  have hr := B.returns
  have hts := atoms_spec (ws := wsX4_passes) B.pre
  have hown : s.vm.findClass RX4 = some m.cls := findClass_of_methodNamed B.named
  have hlocks := B.notSynchronized
  subst hsz
  have hD := hD0.self (sz := s.heap.size)
  generalize hAe : va_A [k4_0 aM vM, k4_1 cI aM vM, k4_2 cI aM vM, k4_3 cI aM vM, k4_4 cI aM vM, k4_5 cJ aM vM, k4_6 cI aM vM, k4_7 cJ aM vM, k4_8 cJ aM vM, k4_9 cI aM vM] s.heap.size = A at hD hN ⊢
  have hA : ∀ q : Nat, s.heap.size ≤ q → A q := fun q h => by rw [← hAe]; exact Or.inr h
  have hP : va_P (dC, dI) vwCl [k4_0 aM vM, k4_1 cI aM vM, k4_2 cI aM vM, k4_3 cI aM vM, k4_4 cI aM vM, k4_5 cJ aM vM, k4_6 cI aM vM, k4_7 cJ aM vM, k4_8 cJ aM vM, k4_9 cI aM vM] s.heap := hP
  have hl := lv_entry ([.ref (aM 0), .int i1]) (n := 3) (Nat.le_of_ble_eq_true rfl)
  rw [lg_entry_eq]
  generalize (lg_sl ([.ref (aM 0), .int i1]) ++ List.replicate (3 - (lg_sl ([.ref (aM 0), .int i1])).length) Slot.unset).toArray = ls at hl ⊢
  have hl : lv_has ls 3 [(0, .ref (aM 0)), (1, .int i1)] := hl
  have hiX4 : ∀ w ∈ u_ws RX4 TX4 21, w ∈ wsX4_passes := by decide +kernel
  have hgX4_165 := hts (.fieldLink RX4 165 "SpringPlatesModel" "spot" "I") (by decide +kernel)
  refine nameH (fun H locs hHe hLe => ?_)
  have hP : va_P (dC, dI) vwCl [k4_0 aM vM, k4_1 cI aM vM, k4_2 cI aM vM, k4_3 cI aM vM, k4_4 cI aM vM, k4_5 cJ aM vM, k4_6 cI aM vM, k4_7 cJ aM vM, k4_8 cJ aM vM, k4_9 cI aM vM] H := by rw [hHe]; exact hP
  have hS : va_S A s.heap H locs := by rw [hHe, hLe]; exact va_S.rf
  refine withW (fun WW hWW => ?_)
  have J21 : ∀ (vM : BX4) (x2 : Int32) (st1 : Int32) (st2 : Int32) (H : Heap) (locs : List Loc) (ls : Array Slot), va_P (dC, dI) vwCl [k4_0 aM vM, k4_1 cI aM vM, k4_2 cI aM vM, k4_3 cI aM vM, k4_4 cI aM vM, k4_5 cJ aM vM, k4_6 cI aM vM, k4_7 cJ aM vM, k4_8 cJ aM vM, k4_9 cI aM vM] H → va_D A [k4_0 aM vM, k4_1 cI aM vM, k4_2 cI aM vM, k4_3 cI aM vM, k4_4 cI aM vM, k4_5 cJ aM vM, k4_6 cI aM vM, k4_7 cJ aM vM, k4_8 cJ aM vM, k4_9 cI aM vM] → va_S A s.heap H locs → lv_has ls 3 [(2, .int x2)] → fX4_passes_21 vM x2 st1 st2 = some y → WW H locs 0 0 ls 21 [.int st2, .int st1, .ref (aM 0)] := by
    intro vM x2 st1 st2 H locs ls hP hD hS hl hf
    unfold fX4_passes_21 at hf
    refine (hWW _ _ _ _ _ _ _).2 ?_
    refine lv_iadd hx hb dX4_passes_21 ?_
    obtain ⟨b1, eb1, hf⟩ := elet_out hf
    refine va_put (D := (dC, dI)) (ci := 4) (v := .int (st1 + st2)) (ty := .int) (C := RX4) (T := TX4) (N := 21) hx hb hts hiX4 tyX4 tyX4_ok nmX4 hown hK hP hD hS 0 rfl rfl 16 (by decide) hgX4_165 (fun _ h9 => h9) rfl (by decide +kernel) rfl rfl (Nat.le_of_ble_eq_true rfl) dX4_passes_22 (fun H locs hP hD hS => ?_)
    have hP : va_P (dC, dI) vwCl [k4_0 aM b1, k4_1 cI aM b1, k4_2 cI aM b1, k4_3 cI aM b1, k4_4 cI aM b1, k4_5 cJ aM b1, k4_6 cI aM b1, k4_7 cJ aM b1, k4_8 cJ aM b1, k4_9 cI aM b1] H := by rw [eb1]; exact hP
    have hD : va_D A [k4_0 aM b1, k4_1 cI aM b1, k4_2 cI aM b1, k4_3 cI aM b1, k4_4 cI aM b1, k4_5 cJ aM b1, k4_6 cI aM b1, k4_7 cJ aM b1, k4_8 cJ aM b1, k4_9 cI aM b1] := by rw [eb1]; exact hD
    refine lv_iload_n hx hb dX4_passes_25 rfl (lv_at hl 0 rfl) ?_
    obtain ⟨hz2, hf⟩ := ozb hf
    obtain rfl := Option.some.inj hf
    exact W.zret (v := x2) hx hb hr hz2 (fun t ht hW => ⟨⟨x2, (), rfl, rfl, by rw [ht]; exact hP, hD⟩, hS.F ht⟩) hS.2.2 dX4_passes_26
  refine (hWW _ _ _ _ _ _ _).2 ?_
  unfold fX4_passes at hf
  refine lv_aload_n hx hb dX4_passes_0 rfl (lv_at hl 0 rfl) ?_
  refine lv_iload_n hx hb dX4_passes_1 rfl (lv_at hl 1 rfl) ?_
  refine lv_iload_n hx hb dX4_passes_2 rfl (lv_at hl 1 rfl) ?_
  obtain ⟨y3, hy3, hf⟩ := obind hf
  refine cg_i (ws := [k4_0 aM vM, k4_1 cI aM vM, k4_2 cI aM vM, k4_3 cI aM vM, k4_4 cI aM vM, k4_5 cJ aM vM, k4_6 cI aM vM, k4_7 cJ aM vM, k4_8 cJ aM vM, k4_9 cI aM vM]) (wc := [k4_0 aM vM, k4_1 cI aM vM, k4_2 cI aM vM, k4_3 cI aM vM, k4_4 cI aM vM, k4_5 cJ aM vM, k4_6 cI aM vM, k4_7 cJ aM vM, k4_8 cJ aM vM, k4_9 cI aM vM]) (wr := []) (w1 := [k4_0 aM vM, k4_1 cI aM vM, k4_2 cI aM vM, k4_3 cI aM vM, k4_4 cI aM vM, k4_5 cJ aM vM, k4_6 cI aM vM, k4_7 cJ aM vM, k4_8 cJ aM vM, k4_9 cI aM vM]) (wo := [k4_0 aM vM, k4_1 cI aM vM, k4_2 cI aM vM, k4_3 cI aM vM, k4_4 cI aM vM, k4_5 cJ aM vM, k4_6 cI aM vM, k4_7 cJ aM vM, k4_8 cJ aM vM, k4_9 cI aM vM]) hP hD hS hA (va_runV (As := [.int i1, .int i1]) (rest := []) ⟨hx, hb, hml, hown, hts⟩ (mX4_isHere l dC dI cI cJ aM H.size vM i1 i1 y3 hy3) (cwV 2 hts gX4_passes_X4_isHere rfl rfl rfl (by decide +kernel) ⟨Nat.le_of_ble_eq_true rfl, Nat.le_of_ble_eq_true rfl⟩) ⟨cFB, va_recv hK hP (ci := 4) (q0 := 0) rfl rfl, cPre hK hN hS (va_free (wc := [k4_0 aM vM, k4_1 cI aM vM, k4_2 cI aM vM, k4_3 cI aM vM, k4_4 cI aM vM, k4_5 cJ aM vM, k4_6 cI aM vM, k4_7 cJ aM vM, k4_8 cJ aM vM, k4_9 cI aM vM]) hD hS hA [0, 1, 2, 3, 4, 5, 6, 7, 8, 9] rfl) (hP.sub [0, 1, 2, 3, 4, 5, 6, 7, 8, 9] rfl) (hD.sub [0, 1, 2, 3, 4, 5, 6, 7, 8, 9] rfl rfl)⟩ rfl rfl hl.1 rfl (lv_room (Nat.le_of_ble_eq_true rfl)) dX4_passes_3 ⟨Nat.le_of_ble_eq_true rfl, Nat.le_of_ble_eq_true rfl⟩) [0, 1, 2, 3, 4, 5, 6, 7, 8, 9] [] [0, 1, 2, 3, 4, 5, 6, 7, 8, 9] rfl rfl rfl (by decide +kernel) rfl rfl (fun H locs hP hD hS => ?_)
  refine lv_istore_n (lv' := [(2, .int y3), (0, .ref (aM 0)), (1, .int i1)]) hx hb dX4_passes_6 rfl hl (by decide) rfl (fun ls hl => ?_)
  refine lv_aload_n hx hb dX4_passes_7 rfl (lv_at hl 1 rfl) ?_
  refine lv_dup hx hb dX4_passes_8 rfl ?_
  refine va_get (D := (dC, dI)) (ci := 4) (v := .int (p4_spot vM)) (C := RX4) (T := TX4) (N := 21) hx hb hts hiX4 hown hK hP 0 rfl rfl 16 (by decide) hgX4_165 (fun _ h9 => h9) rfl dX4_passes_9 ?_
  refine lv_iload_n hx hb dX4_passes_12 rfl (lv_at hl 0 rfl) ?_
  refine lv_if_eq (tgt := 20) hx hb dX4_passes_13 (by decide) (fun c4 => ?_) (fun c4 => ?_)
  · have hf := oif_t c4 hf
    refine lv_iconst (v := 0) hx hb dX4_passes_20 (by decide) ?_
    exact (hWW _ _ _ _ _ _ _).1 (J21 vM y3 (p4_spot vM) (0 : Int32) H locs ls hP hD hS (lv_sub hl [0] rfl) hf)
  · have hf := oif_f c4 hf
    refine lv_iconst (v := 1) hx hb dX4_passes_16 (by decide) ?_
    refine lv_goto (tgt := 21) hx hb dX4_passes_17 (by decide) ?_
    exact (hWW _ _ _ _ _ _ _).1 (J21 vM y3 (p4_spot vM) (1 : Int32) H locs ls hP hD hS (lv_sub hl [0] rfl) hf)
def fX4_number_74 (vM : BX4) (x2 : Int32) (x3 : Int32) : Option (Int32 × BX4) :=
  if (p4_spot vM) ≤ x3 then (some (0, vM)) else ((fX4_passes vM x2).bind (fun y10 => if y10.1 = 0 then (some (0, y10.2)) else (some (1, y10.2))))
def fX4_number_12_b (k12 : BX4 → Int32 → Int32 → Int32 → Option (Int32 × BX4)) (vM : BX4) (x1 : Int32) (x2 : Int32) (x3 : Int32) : Option (Int32 × BX4) :=
  (fX4_isHere vM (48 : Int32) (57 : Int32)).bind (fun y1 => if y1 = 0 then (fX4_number_74 vM x2 x3) else (if (2 : Int32) ≤ ((p4_spot vM) - x3) then (fX4_number_74 vM x2 x3) else (if inB x1 3 = true then (if inB (p4_spot vM) 60 = true then (if inB x1 3 = true then (elet (s4_told vM (upd (p4_told vM) (x1).toNatClampNeg ((((10 : Int32) * ((p4_told vM) (x1).toNatClampNeg)) + ((p4_text vM) ((p4_spot vM)).toNatClampNeg)) - (48 : Int32)))) (fun b7 => elet (s4_spot b7 ((p4_spot b7) + (1 : Int32))) (fun b8 => k12 b8 x1 x2 x3))) else none) else none) else none)))
def fX4_number_12 : Nat → BX4 → Int32 → Int32 → Int32 → Option (Int32 × BX4)
  | 0 => fun _ _ _ _ => none
  | n + 1 => fX4_number_12_b (fX4_number_12 n)
def fX4_number (vM : BX4) (i1 : Int32) (i2 : Int32) : Option (Int32 × BX4) :=
  elet (p4_spot vM) (fun z12 => if inB i1 3 = true then (elet (s4_told vM (upd (p4_told vM) (i1).toNatClampNeg 0)) (fun b14 => fX4_number_12 FU b14 i1 i2 z12)) else none)
set_option maxHeartbeats 8000000 in
set_option maxRecDepth 100000 in
theorem mX4_number (l : Launch) (dC : Nat → ClassId) (dI : Nat → Nat → Nat) (cI cJ : ClassId) (aM : Nat → Nat) (sz : Nat) (vM : BX4) (i1 : Int32) (i2 : Int32) (y : (Int32 × BX4)) (hf : fX4_number vM i1 i2 = some y) : Met l yX4_number wsX4_number ({ frames := 3, cells := 0, slots := 0, locals := 66 }) (cPc dC dI cI cJ [.ref (aM 0), .int i1, .int i2] [k4_0 aM vM, k4_1 cI aM vM, k4_2 cI aM vM, k4_3 cI aM vM, k4_4 cI aM vM, k4_5 cJ aM vM, k4_6 cI aM vM, k4_7 cJ aM vM, k4_8 cJ aM vM, k4_9 cI aM vM] sz) (va_Qi (fun r (_ : Unit) => r = y.1) (fun _ t => cB dC dI (va_A [k4_0 aM vM, k4_1 cI aM vM, k4_2 cI aM vM, k4_3 cI aM vM, k4_4 cI aM vM, k4_5 cJ aM vM, k4_6 cI aM vM, k4_7 cJ aM vM, k4_8 cJ aM vM, k4_9 cI aM vM] sz) [k4_0 aM y.2, k4_1 cI aM y.2, k4_2 cI aM y.2, k4_3 cI aM y.2, k4_4 cI aM y.2, k4_5 cJ aM y.2, k4_6 cI aM y.2, k4_7 cJ aM y.2, k4_8 cJ aM y.2, k4_9 cI aM y.2] t) (va_A [k4_0 aM vM, k4_1 cI aM vM, k4_2 cI aM vM, k4_3 cI aM vM, k4_4 cI aM vM, k4_5 cJ aM vM, k4_6 cI aM vM, k4_7 cJ aM vM, k4_8 cJ aM vM, k4_9 cI aM vM] sz)) 0 0 (va_A [k4_0 aM vM, k4_1 cI aM vM, k4_2 cI aM vM, k4_3 cI aM vM, k4_4 cI aM vM, k4_5 cJ aM vM, k4_6 cI aM vM, k4_7 cJ aM vM, k4_8 cJ aM vM, k4_9 cI aM vM] sz) := by
  refine Met.ofW (cc := cX4_number) (maxL := 4) (ret := (some .boolean)) (by decide) rfl ?_
  intro p e s m args below meth c s₁ B hml hv
  obtain ⟨rfl, hsz, hP, hK, hD0, hN⟩ := hv
  have hx := B.exec
  have hb := B.bytes
  have hr := B.returns
  have hts := atoms_spec (ws := wsX4_number) B.pre
  have hown : s.vm.findClass RX4 = some m.cls := findClass_of_methodNamed B.named
  have hlocks := B.notSynchronized
  subst hsz
  have hD := hD0.self (sz := s.heap.size)
  generalize hAe : va_A [k4_0 aM vM, k4_1 cI aM vM, k4_2 cI aM vM, k4_3 cI aM vM, k4_4 cI aM vM, k4_5 cJ aM vM, k4_6 cI aM vM, k4_7 cJ aM vM, k4_8 cJ aM vM, k4_9 cI aM vM] s.heap.size = A at hD hN ⊢
  have hA : ∀ q : Nat, s.heap.size ≤ q → A q := fun q h => by rw [← hAe]; exact Or.inr h
  have hP : va_P (dC, dI) vwCl [k4_0 aM vM, k4_1 cI aM vM, k4_2 cI aM vM, k4_3 cI aM vM, k4_4 cI aM vM, k4_5 cJ aM vM, k4_6 cI aM vM, k4_7 cJ aM vM, k4_8 cJ aM vM, k4_9 cI aM vM] s.heap := hP
  have hl := lv_entry ([.ref (aM 0), .int i1, .int i2]) (n := 4) (Nat.le_of_ble_eq_true rfl)
  rw [lg_entry_eq]
  generalize (lg_sl ([.ref (aM 0), .int i1, .int i2]) ++ List.replicate (4 - (lg_sl ([.ref (aM 0), .int i1, .int i2])).length) Slot.unset).toArray = ls at hl ⊢
  have hl : lv_has ls 4 [(0, .ref (aM 0)), (1, .int i1), (2, .int i2)] := hl
  have hiX4 : ∀ w ∈ u_ws RX4 TX4 21, w ∈ wsX4_number := by decide +kernel
  have hgX4_165 := hts (.fieldLink RX4 165 "SpringPlatesModel" "spot" "I") (by decide +kernel)
  have hgX4_35 := hts (.fieldLink RX4 35 "SpringPlatesModel" "told" "[I") (by decide +kernel)
  have hgX4_19 := hts (.fieldLink RX4 19 "SpringPlatesModel" "text" "[I") (by decide +kernel)
  refine nameH (fun H locs hHe hLe => ?_)
  have hP : va_P (dC, dI) vwCl [k4_0 aM vM, k4_1 cI aM vM, k4_2 cI aM vM, k4_3 cI aM vM, k4_4 cI aM vM, k4_5 cJ aM vM, k4_6 cI aM vM, k4_7 cJ aM vM, k4_8 cJ aM vM, k4_9 cI aM vM] H := by rw [hHe]; exact hP
  have hS : va_S A s.heap H locs := by rw [hHe, hLe]; exact va_S.rf
  refine withW (fun WW hWW => ?_)
  have J74 : ∀ (vM : BX4) (x2 : Int32) (x3 : Int32) (H : Heap) (locs : List Loc) (ls : Array Slot), va_P (dC, dI) vwCl [k4_0 aM vM, k4_1 cI aM vM, k4_2 cI aM vM, k4_3 cI aM vM, k4_4 cI aM vM, k4_5 cJ aM vM, k4_6 cI aM vM, k4_7 cJ aM vM, k4_8 cJ aM vM, k4_9 cI aM vM] H → va_D A [k4_0 aM vM, k4_1 cI aM vM, k4_2 cI aM vM, k4_3 cI aM vM, k4_4 cI aM vM, k4_5 cJ aM vM, k4_6 cI aM vM, k4_7 cJ aM vM, k4_8 cJ aM vM, k4_9 cI aM vM] → va_S A s.heap H locs → lv_has ls 4 [(0, .ref (aM 0)), (2, .int x2), (3, .int x3)] → fX4_number_74 vM x2 x3 = some y → WW H locs 0 0 ls 74 [] := by
    intro vM x2 x3 H locs ls hP hD hS hl hf
    unfold fX4_number_74 at hf
    refine (hWW _ _ _ _ _ _ _).2 ?_
    refine lv_aload_n hx hb dX4_number_74 rfl (lv_at hl 0 rfl) ?_
    refine va_get (D := (dC, dI)) (ci := 4) (v := .int (p4_spot vM)) (C := RX4) (T := TX4) (N := 21) hx hb hts hiX4 hown hK hP 0 rfl rfl 16 (by decide) hgX4_165 (fun _ h9 => h9) rfl dX4_number_75 ?_
    refine lv_iload_n hx hb dX4_number_78 rfl (lv_at hl 2 rfl) ?_
    refine lv_icmp_le (tgt := 94) hx hb dX4_number_79 (by decide) (fun c9 => ?_) (fun c9 => ?_)
    · have hf := oif_t c9 hf
      refine lv_iconst (v := 0) hx hb dX4_number_94 (by decide) ?_
      obtain rfl := Option.some.inj hf
      exact W.zret (v := 0) hx hb hr rfl (fun t ht hW => ⟨⟨0, (), rfl, rfl, by rw [ht]; exact hP, hD⟩, hS.F ht⟩) hS.2.2 dX4_number_95
    · have hf := oif_f c9 hf
      refine lv_aload_n hx hb dX4_number_82 rfl (lv_at hl 0 rfl) ?_
      refine lv_iload_n hx hb dX4_number_83 rfl (lv_at hl 1 rfl) ?_
      obtain ⟨y10, hy10, hf⟩ := obind hf
      refine cg_i (ws := [k4_0 aM vM, k4_1 cI aM vM, k4_2 cI aM vM, k4_3 cI aM vM, k4_4 cI aM vM, k4_5 cJ aM vM, k4_6 cI aM vM, k4_7 cJ aM vM, k4_8 cJ aM vM, k4_9 cI aM vM]) (wc := [k4_0 aM vM, k4_1 cI aM vM, k4_2 cI aM vM, k4_3 cI aM vM, k4_4 cI aM vM, k4_5 cJ aM vM, k4_6 cI aM vM, k4_7 cJ aM vM, k4_8 cJ aM vM, k4_9 cI aM vM]) (wr := []) (w1 := [k4_0 aM y10.2, k4_1 cI aM y10.2, k4_2 cI aM y10.2, k4_3 cI aM y10.2, k4_4 cI aM y10.2, k4_5 cJ aM y10.2, k4_6 cI aM y10.2, k4_7 cJ aM y10.2, k4_8 cJ aM y10.2, k4_9 cI aM y10.2]) (wo := [k4_0 aM y10.2, k4_1 cI aM y10.2, k4_2 cI aM y10.2, k4_3 cI aM y10.2, k4_4 cI aM y10.2, k4_5 cJ aM y10.2, k4_6 cI aM y10.2, k4_7 cJ aM y10.2, k4_8 cJ aM y10.2, k4_9 cI aM y10.2]) hP hD hS hA (va_runV (As := [.int x2]) (rest := []) ⟨hx, hb, hml, hown, hts⟩ (mX4_passes l dC dI cI cJ aM H.size vM x2 y10 hy10) (cwV 1 hts gX4_number_X4_passes rfl rfl rfl (by decide +kernel) ⟨Nat.le_of_ble_eq_true rfl, Nat.le_of_ble_eq_true rfl⟩) ⟨cFB, va_recv hK hP (ci := 4) (q0 := 0) rfl rfl, cPre hK hN hS (va_free (wc := [k4_0 aM vM, k4_1 cI aM vM, k4_2 cI aM vM, k4_3 cI aM vM, k4_4 cI aM vM, k4_5 cJ aM vM, k4_6 cI aM vM, k4_7 cJ aM vM, k4_8 cJ aM vM, k4_9 cI aM vM]) hD hS hA [0, 1, 2, 3, 4, 5, 6, 7, 8, 9] rfl) (hP.sub [0, 1, 2, 3, 4, 5, 6, 7, 8, 9] rfl) (hD.sub [0, 1, 2, 3, 4, 5, 6, 7, 8, 9] rfl rfl)⟩ rfl rfl hl.1 rfl (lv_room (Nat.le_of_ble_eq_true rfl)) dX4_number_84 ⟨Nat.le_of_ble_eq_true rfl, Nat.le_of_ble_eq_true rfl⟩) [0, 1, 2, 3, 4, 5, 6, 7, 8, 9] [] [0, 1, 2, 3, 4, 5, 6, 7, 8, 9] rfl rfl rfl (by decide +kernel) rfl rfl (fun H locs hP hD hS => ?_)
      refine lv_if_eq (tgt := 94) hx hb dX4_number_87 (by decide) (fun c11 => ?_) (fun c11 => ?_)
      · have hf := oif_t c11 hf
        refine lv_iconst (v := 0) hx hb dX4_number_94 (by decide) ?_
        obtain rfl := Option.some.inj hf
        exact W.zret (v := 0) hx hb hr rfl (fun t ht hW => ⟨⟨0, (), rfl, rfl, by rw [ht]; exact hP, hD⟩, hS.F ht⟩) hS.2.2 dX4_number_95
      · have hf := oif_f c11 hf
        refine lv_iconst (v := 1) hx hb dX4_number_90 (by decide) ?_
        refine lv_goto (tgt := 95) hx hb dX4_number_91 (by decide) ?_
        obtain rfl := Option.some.inj hf
        exact W.zret (v := 1) hx hb hr rfl (fun t ht hW => ⟨⟨1, (), rfl, rfl, by rw [ht]; exact hP, hD⟩, hS.F ht⟩) hS.2.2 dX4_number_95
  have L12 : ∀ (n : Nat) (vM : BX4) (x1 : Int32) (x2 : Int32) (x3 : Int32) (H : Heap) (locs : List Loc) (ls : Array Slot), va_P (dC, dI) vwCl [k4_0 aM vM, k4_1 cI aM vM, k4_2 cI aM vM, k4_3 cI aM vM, k4_4 cI aM vM, k4_5 cJ aM vM, k4_6 cI aM vM, k4_7 cJ aM vM, k4_8 cJ aM vM, k4_9 cI aM vM] H → va_D A [k4_0 aM vM, k4_1 cI aM vM, k4_2 cI aM vM, k4_3 cI aM vM, k4_4 cI aM vM, k4_5 cJ aM vM, k4_6 cI aM vM, k4_7 cJ aM vM, k4_8 cJ aM vM, k4_9 cI aM vM] → va_S A s.heap H locs → lv_has ls 4 [(0, .ref (aM 0)), (1, .int x1), (2, .int x2), (3, .int x3)] → fX4_number_12 n vM x1 x2 x3 = some y → WW H locs 0 0 ls 12 [] := by
    intro n
    induction n with
    | zero =>
      intro vM x1 x2 x3 H locs ls hP hD hS hl hf
      exact onone hf
    | succ n ih =>
      intro vM x1 x2 x3 H locs ls hP hD hS hl hf
      have hf : fX4_number_12_b (fX4_number_12 n) vM x1 x2 x3 = some y := hf
      generalize fX4_number_12 n = k12 at hf ih
      have hk12 := ih
      clear ih
      unfold fX4_number_12_b at hf
      refine (hWW _ _ _ _ _ _ _).2 ?_
      refine lv_aload_n hx hb dX4_number_12 rfl (lv_at hl 0 rfl) ?_
      refine lv_bipush (v := 48) hx hb dX4_number_13 (by decide) ?_
      refine lv_bipush (v := 57) hx hb dX4_number_15 (by decide) ?_
      obtain ⟨y1, hy1, hf⟩ := obind hf
      refine cg_i (ws := [k4_0 aM vM, k4_1 cI aM vM, k4_2 cI aM vM, k4_3 cI aM vM, k4_4 cI aM vM, k4_5 cJ aM vM, k4_6 cI aM vM, k4_7 cJ aM vM, k4_8 cJ aM vM, k4_9 cI aM vM]) (wc := [k4_0 aM vM, k4_1 cI aM vM, k4_2 cI aM vM, k4_3 cI aM vM, k4_4 cI aM vM, k4_5 cJ aM vM, k4_6 cI aM vM, k4_7 cJ aM vM, k4_8 cJ aM vM, k4_9 cI aM vM]) (wr := []) (w1 := [k4_0 aM vM, k4_1 cI aM vM, k4_2 cI aM vM, k4_3 cI aM vM, k4_4 cI aM vM, k4_5 cJ aM vM, k4_6 cI aM vM, k4_7 cJ aM vM, k4_8 cJ aM vM, k4_9 cI aM vM]) (wo := [k4_0 aM vM, k4_1 cI aM vM, k4_2 cI aM vM, k4_3 cI aM vM, k4_4 cI aM vM, k4_5 cJ aM vM, k4_6 cI aM vM, k4_7 cJ aM vM, k4_8 cJ aM vM, k4_9 cI aM vM]) hP hD hS hA (va_runV (As := [.int 48, .int 57]) (rest := []) ⟨hx, hb, hml, hown, hts⟩ (mX4_isHere l dC dI cI cJ aM H.size vM (48 : Int32) (57 : Int32) y1 hy1) (cwV 2 hts gX4_number_X4_isHere rfl rfl rfl (by decide +kernel) ⟨Nat.le_of_ble_eq_true rfl, Nat.le_of_ble_eq_true rfl⟩) ⟨cFB, va_recv hK hP (ci := 4) (q0 := 0) rfl rfl, cPre hK hN hS (va_free (wc := [k4_0 aM vM, k4_1 cI aM vM, k4_2 cI aM vM, k4_3 cI aM vM, k4_4 cI aM vM, k4_5 cJ aM vM, k4_6 cI aM vM, k4_7 cJ aM vM, k4_8 cJ aM vM, k4_9 cI aM vM]) hD hS hA [0, 1, 2, 3, 4, 5, 6, 7, 8, 9] rfl) (hP.sub [0, 1, 2, 3, 4, 5, 6, 7, 8, 9] rfl) (hD.sub [0, 1, 2, 3, 4, 5, 6, 7, 8, 9] rfl rfl)⟩ rfl rfl hl.1 rfl (lv_room (Nat.le_of_ble_eq_true rfl)) dX4_number_17 ⟨Nat.le_of_ble_eq_true rfl, Nat.le_of_ble_eq_true rfl⟩) [0, 1, 2, 3, 4, 5, 6, 7, 8, 9] [] [0, 1, 2, 3, 4, 5, 6, 7, 8, 9] rfl rfl rfl (by decide +kernel) rfl rfl (fun H locs hP hD hS => ?_)
      refine lv_if_eq (tgt := 74) hx hb dX4_number_20 (by decide) (fun c2 => ?_) (fun c2 => ?_)
      · have hf := oif_t c2 hf
        exact (hWW _ _ _ _ _ _ _).1 (J74 vM x2 x3 H locs ls hP hD hS (lv_sub hl [0, 2, 3] rfl) hf)
      · have hf := oif_f c2 hf
        refine lv_aload_n hx hb dX4_number_23 rfl (lv_at hl 0 rfl) ?_
        refine va_get (D := (dC, dI)) (ci := 4) (v := .int (p4_spot vM)) (C := RX4) (T := TX4) (N := 21) hx hb hts hiX4 hown hK hP 0 rfl rfl 16 (by decide) hgX4_165 (fun _ h9 => h9) rfl dX4_number_24 ?_
        refine lv_iload_n hx hb dX4_number_27 rfl (lv_at hl 3 rfl) ?_
        refine lv_isub hx hb dX4_number_28 ?_
        refine lv_iconst (v := 2) hx hb dX4_number_29 (by decide) ?_
        refine lv_icmp_ge (tgt := 74) hx hb dX4_number_30 (by decide) (fun c3 => ?_) (fun c3 => ?_)
        · have hf := oif_t c3 hf
          exact (hWW _ _ _ _ _ _ _).1 (J74 vM x2 x3 H locs ls hP hD hS (lv_sub hl [0, 2, 3] rfl) hf)
        · have hf := oif_f c3 hf
          refine lv_aload_n hx hb dX4_number_33 rfl (lv_at hl 0 rfl) ?_
          refine va_get (D := (dC, dI)) (ci := 4) (v := .ref (aM 9)) (C := RX4) (T := TX4) (N := 21) hx hb hts hiX4 hown hK hP 0 rfl rfl 20 (by decide) hgX4_35 (fun _ h9 => h9) rfl dX4_number_34 ?_
          refine lv_iload_n hx hb dX4_number_37 rfl (lv_at hl 1 rfl) ?_
          refine lv_bipush (v := 10) hx hb dX4_number_38 (by decide) ?_
          refine lv_aload_n hx hb dX4_number_40 rfl (lv_at hl 0 rfl) ?_
          refine va_get (D := (dC, dI)) (ci := 4) (v := .ref (aM 9)) (C := RX4) (T := TX4) (N := 21) hx hb hts hiX4 hown hK hP 0 rfl rfl 20 (by decide) hgX4_35 (fun _ h9 => h9) rfl dX4_number_41 ?_
          refine lv_iload_n hx hb dX4_number_44 rfl (lv_at hl 1 rfl) ?_
          obtain ⟨hi4, hf⟩ := oinb rfl hf
          refine va_iald hx hb hK hP 9 0 rfl rfl hi4 dX4_number_45 ?_
          refine lv_imul hx hb dX4_number_46 ?_
          refine lv_aload_n hx hb dX4_number_47 rfl (lv_at hl 0 rfl) ?_
          refine va_get (D := (dC, dI)) (ci := 4) (v := .ref (aM 4)) (C := RX4) (T := TX4) (N := 21) hx hb hts hiX4 hown hK hP 0 rfl rfl 5 (by decide) hgX4_19 (fun _ h9 => h9) rfl dX4_number_48 ?_
          refine lv_aload_n hx hb dX4_number_51 rfl (lv_at hl 0 rfl) ?_
          refine va_get (D := (dC, dI)) (ci := 4) (v := .int (p4_spot vM)) (C := RX4) (T := TX4) (N := 21) hx hb hts hiX4 hown hK hP 0 rfl rfl 16 (by decide) hgX4_165 (fun _ h9 => h9) rfl dX4_number_52 ?_
          obtain ⟨hi5, hf⟩ := oinb rfl hf
          refine va_iald hx hb hK hP 4 0 rfl rfl hi5 dX4_number_55 ?_
          refine lv_iadd hx hb dX4_number_56 ?_
          refine lv_bipush (v := 48) hx hb dX4_number_57 (by decide) ?_
          refine lv_isub hx hb dX4_number_59 ?_
          obtain ⟨hi6, hf⟩ := oinb rfl hf
          obtain ⟨b7, eb7, hf⟩ := elet_out hf
          refine va_iast hx hb hK hP hD hS 9 0 rfl rfl hi6 dX4_number_60 (fun H locs hP hD hS => ?_)
          have hP : va_P (dC, dI) vwCl [k4_0 aM b7, k4_1 cI aM b7, k4_2 cI aM b7, k4_3 cI aM b7, k4_4 cI aM b7, k4_5 cJ aM b7, k4_6 cI aM b7, k4_7 cJ aM b7, k4_8 cJ aM b7, k4_9 cI aM b7] H := by rw [eb7]; exact hP
          have hD : va_D A [k4_0 aM b7, k4_1 cI aM b7, k4_2 cI aM b7, k4_3 cI aM b7, k4_4 cI aM b7, k4_5 cJ aM b7, k4_6 cI aM b7, k4_7 cJ aM b7, k4_8 cJ aM b7, k4_9 cI aM b7] := by rw [eb7]; exact hD
          refine lv_aload_n hx hb dX4_number_61 rfl (lv_at hl 0 rfl) ?_
          refine lv_dup hx hb dX4_number_62 rfl ?_
          refine va_get (D := (dC, dI)) (ci := 4) (v := .int (p4_spot b7)) (C := RX4) (T := TX4) (N := 21) hx hb hts hiX4 hown hK hP 0 rfl rfl 16 (by decide) hgX4_165 (fun _ h9 => h9) rfl dX4_number_63 ?_
          refine lv_iconst (v := 1) hx hb dX4_number_66 (by decide) ?_
          refine lv_iadd hx hb dX4_number_67 ?_
          obtain ⟨b8, eb8, hf⟩ := elet_out hf
          refine va_put (D := (dC, dI)) (ci := 4) (v := .int ((p4_spot b7) + (1 : Int32))) (ty := .int) (C := RX4) (T := TX4) (N := 21) hx hb hts hiX4 tyX4 tyX4_ok nmX4 hown hK hP hD hS 0 rfl rfl 16 (by decide) hgX4_165 (fun _ h9 => h9) rfl (by decide +kernel) rfl rfl (Nat.le_of_ble_eq_true rfl) dX4_number_68 (fun H locs hP hD hS => ?_)
          have hP : va_P (dC, dI) vwCl [k4_0 aM b8, k4_1 cI aM b8, k4_2 cI aM b8, k4_3 cI aM b8, k4_4 cI aM b8, k4_5 cJ aM b8, k4_6 cI aM b8, k4_7 cJ aM b8, k4_8 cJ aM b8, k4_9 cI aM b8] H := by rw [eb8]; exact hP
          have hD : va_D A [k4_0 aM b8, k4_1 cI aM b8, k4_2 cI aM b8, k4_3 cI aM b8, k4_4 cI aM b8, k4_5 cJ aM b8, k4_6 cI aM b8, k4_7 cJ aM b8, k4_8 cJ aM b8, k4_9 cI aM b8] := by rw [eb8]; exact hD
          refine lv_goto (tgt := 12) hx hb dX4_number_71 (by decide) ?_
          exact (hWW _ _ _ _ _ _ _).1 (hk12 b8 x1 x2 x3 H locs ls hP hD hS (lv_sub hl [0, 1, 2, 3] rfl) hf)
  refine (hWW _ _ _ _ _ _ _).2 ?_
  unfold fX4_number at hf
  refine lv_aload_n hx hb dX4_number_0 rfl (lv_at hl 0 rfl) ?_
  refine va_get (D := (dC, dI)) (ci := 4) (v := .int (p4_spot vM)) (C := RX4) (T := TX4) (N := 21) hx hb hts hiX4 hown hK hP 0 rfl rfl 16 (by decide) hgX4_165 (fun _ h9 => h9) rfl dX4_number_1 ?_
  obtain ⟨z12, ez12, hf⟩ := elet_out hf
  refine lvn_i ez12 ?_
  refine lv_istore_n (lv' := [(3, .int z12), (0, .ref (aM 0)), (1, .int i1), (2, .int i2)]) hx hb dX4_number_4 rfl hl (by decide) rfl (fun ls hl => ?_)
  refine lv_aload_n hx hb dX4_number_5 rfl (lv_at hl 1 rfl) ?_
  refine va_get (D := (dC, dI)) (ci := 4) (v := .ref (aM 9)) (C := RX4) (T := TX4) (N := 21) hx hb hts hiX4 hown hK hP 0 rfl rfl 20 (by decide) hgX4_35 (fun _ h9 => h9) rfl dX4_number_6 ?_
  refine lv_iload_n hx hb dX4_number_9 rfl (lv_at hl 2 rfl) ?_
  refine lv_iconst (v := 0) hx hb dX4_number_10 (by decide) ?_
  obtain ⟨hi13, hf⟩ := oinb rfl hf
  obtain ⟨b14, eb14, hf⟩ := elet_out hf
  refine va_iast hx hb hK hP hD hS 9 0 rfl rfl hi13 dX4_number_11 (fun H locs hP hD hS => ?_)
  have hP : va_P (dC, dI) vwCl [k4_0 aM b14, k4_1 cI aM b14, k4_2 cI aM b14, k4_3 cI aM b14, k4_4 cI aM b14, k4_5 cJ aM b14, k4_6 cI aM b14, k4_7 cJ aM b14, k4_8 cJ aM b14, k4_9 cI aM b14] H := by rw [eb14]; exact hP
  have hD : va_D A [k4_0 aM b14, k4_1 cI aM b14, k4_2 cI aM b14, k4_3 cI aM b14, k4_4 cI aM b14, k4_5 cJ aM b14, k4_6 cI aM b14, k4_7 cJ aM b14, k4_8 cJ aM b14, k4_9 cI aM b14] := by rw [eb14]; exact hD
  exact (hWW _ _ _ _ _ _ _).1 (L12 FU b14 i1 i2 z12 H locs ls hP hD hS (lv_sub hl [1, 2, 3, 0] rfl) hf)
def fX4_numbersOf_28 : Option Int32 :=
  some 2
def fX4_numbersOf_44 : Option Int32 :=
  some 1
def fX4_numbersOf (i0 : Int32) : Option Int32 :=
  if i0 = (107 : Int32) then (some 3) else (if i0 = (102 : Int32) then (fX4_numbersOf_28 ) else (if i0 = (108 : Int32) then (fX4_numbersOf_28 ) else (if i0 = (114 : Int32) then (fX4_numbersOf_28 ) else (if i0 = (119 : Int32) then (fX4_numbersOf_44 ) else (if i0 = (120 : Int32) then (fX4_numbersOf_44 ) else (if i0 = (112 : Int32) then (some 0) else (some (-1))))))))
set_option maxHeartbeats 8000000 in
set_option maxRecDepth 100000 in
theorem mX4_numbersOf (l : Launch) (dC : Nat → ClassId) (dI : Nat → Nat → Nat) (cI cJ : ClassId) (sz : Nat) (i0 : Int32) (y : Int32) (hf : fX4_numbersOf i0 = some y) : Met l yX4_numbersOf wsX4_numbersOf ({ frames := 0, cells := 0, slots := 0, locals := 0 }) (cPc dC dI cI cJ [.int i0] [] sz) (va_Qi (fun r (_ : Unit) => r = y) (fun _ t => cB dC dI (va_A [] sz) [] t) (va_A [] sz)) 0 0 (va_A [] sz) := by
  refine Met.ofW (cc := cX4_numbersOf) (maxL := 1) (ret := (some .int)) (by decide) rfl ?_
  intro p e s m args below meth c s₁ B hml hv
  obtain ⟨rfl, hsz, hP, hK, hD0, hN⟩ := hv
  have hx := B.exec
  have hb := B.bytes
  have hr := B.returns
  have hts := atoms_spec (ws := wsX4_numbersOf) B.pre
  have hown : s.vm.findClass RX4 = some m.cls := findClass_of_methodNamed B.named
  have hlocks := B.notSynchronized
  subst hsz
  have hD := hD0.self (sz := s.heap.size)
  generalize hAe : va_A [] s.heap.size = A at hD hN ⊢
  have hA : ∀ q : Nat, s.heap.size ≤ q → A q := fun q h => by rw [← hAe]; exact Or.inr h
  have hP : va_P (dC, dI) vwCl [] s.heap := hP
  have hl := lv_entry ([.int i0]) (n := 1) (Nat.le_of_ble_eq_true rfl)
  rw [lg_entry_eq]
  generalize (lg_sl ([.int i0]) ++ List.replicate (1 - (lg_sl ([.int i0])).length) Slot.unset).toArray = ls at hl ⊢
  have hl : lv_has ls 1 [(0, .int i0)] := hl
  refine nameH (fun H locs hHe hLe => ?_)
  have hP : va_P (dC, dI) vwCl [] H := by rw [hHe]; exact hP
  have hS : va_S A s.heap H locs := by rw [hHe, hLe]; exact va_S.rf
  refine withW (fun WW hWW => ?_)
  have J28 : ∀ (H : Heap) (locs : List Loc) (ls : Array Slot), va_P (dC, dI) vwCl [] H → va_D A [] → va_S A s.heap H locs → lv_has ls 1 [] → fX4_numbersOf_28  = some y → WW H locs 0 0 ls 28 [] := by
    intro  H locs ls hP hD hS hl hf
    unfold fX4_numbersOf_28 at hf
    refine (hWW _ _ _ _ _ _ _).2 ?_
    refine lv_iconst (v := 2) hx hb dX4_numbersOf_28 (by decide) ?_
    refine lv_goto (tgt := 59) hx hb dX4_numbersOf_29 (by decide) ?_
    obtain rfl := Option.some.inj hf
    exact W.iret (v := 2) hx hb hr (fun t ht hW => ⟨⟨2, (), rfl, rfl, by rw [ht]; exact hP, hD⟩, hS.F ht⟩) hS.2.2 dX4_numbersOf_59
  have J44 : ∀ (H : Heap) (locs : List Loc) (ls : Array Slot), va_P (dC, dI) vwCl [] H → va_D A [] → va_S A s.heap H locs → lv_has ls 1 [] → fX4_numbersOf_44  = some y → WW H locs 0 0 ls 44 [] := by
    intro  H locs ls hP hD hS hl hf
    unfold fX4_numbersOf_44 at hf
    refine (hWW _ _ _ _ _ _ _).2 ?_
    refine lv_iconst (v := 1) hx hb dX4_numbersOf_44 (by decide) ?_
    refine lv_goto (tgt := 59) hx hb dX4_numbersOf_45 (by decide) ?_
    obtain rfl := Option.some.inj hf
    exact W.iret (v := 1) hx hb hr (fun t ht hW => ⟨⟨1, (), rfl, rfl, by rw [ht]; exact hP, hD⟩, hS.F ht⟩) hS.2.2 dX4_numbersOf_59
  refine (hWW _ _ _ _ _ _ _).2 ?_
  unfold fX4_numbersOf at hf
  refine lv_iload_n hx hb dX4_numbersOf_0 rfl (lv_at hl 0 rfl) ?_
  refine lv_bipush (v := 107) hx hb dX4_numbersOf_1 (by decide) ?_
  refine lv_icmp_ne (tgt := 10) hx hb dX4_numbersOf_3 (by decide) (fun c1 => ?_) (fun c1 => ?_)
  · have hf := oif_f c1 hf
    refine lv_iload_n hx hb dX4_numbersOf_10 rfl (lv_at hl 0 rfl) ?_
    refine lv_bipush (v := 102) hx hb dX4_numbersOf_11 (by decide) ?_
    refine lv_icmp_eq (tgt := 28) hx hb dX4_numbersOf_13 (by decide) (fun c2 => ?_) (fun c2 => ?_)
    · have hf := oif_t c2 hf
      exact (hWW _ _ _ _ _ _ _).1 (J28  H locs ls hP hD hS (lv_sub hl [] rfl) hf)
    · have hf := oif_f c2 hf
      refine lv_iload_n hx hb dX4_numbersOf_16 rfl (lv_at hl 0 rfl) ?_
      refine lv_bipush (v := 108) hx hb dX4_numbersOf_17 (by decide) ?_
      refine lv_icmp_eq (tgt := 28) hx hb dX4_numbersOf_19 (by decide) (fun c3 => ?_) (fun c3 => ?_)
      · have hf := oif_t c3 hf
        exact (hWW _ _ _ _ _ _ _).1 (J28  H locs ls hP hD hS (lv_sub hl [] rfl) hf)
      · have hf := oif_f c3 hf
        refine lv_iload_n hx hb dX4_numbersOf_22 rfl (lv_at hl 0 rfl) ?_
        refine lv_bipush (v := 114) hx hb dX4_numbersOf_23 (by decide) ?_
        refine lv_icmp_ne (tgt := 32) hx hb dX4_numbersOf_25 (by decide) (fun c4 => ?_) (fun c4 => ?_)
        · have hf := oif_f c4 hf
          refine lv_iload_n hx hb dX4_numbersOf_32 rfl (lv_at hl 0 rfl) ?_
          refine lv_bipush (v := 119) hx hb dX4_numbersOf_33 (by decide) ?_
          refine lv_icmp_eq (tgt := 44) hx hb dX4_numbersOf_35 (by decide) (fun c5 => ?_) (fun c5 => ?_)
          · have hf := oif_t c5 hf
            exact (hWW _ _ _ _ _ _ _).1 (J44  H locs ls hP hD hS (lv_sub hl [] rfl) hf)
          · have hf := oif_f c5 hf
            refine lv_iload_n hx hb dX4_numbersOf_38 rfl (lv_at hl 0 rfl) ?_
            refine lv_bipush (v := 120) hx hb dX4_numbersOf_39 (by decide) ?_
            refine lv_icmp_ne (tgt := 48) hx hb dX4_numbersOf_41 (by decide) (fun c6 => ?_) (fun c6 => ?_)
            · have hf := oif_f c6 hf
              refine lv_iload_n hx hb dX4_numbersOf_48 rfl (lv_at hl 0 rfl) ?_
              refine lv_bipush (v := 112) hx hb dX4_numbersOf_49 (by decide) ?_
              refine lv_icmp_ne (tgt := 58) hx hb dX4_numbersOf_51 (by decide) (fun c7 => ?_) (fun c7 => ?_)
              · have hf := oif_f c7 hf
                refine lv_iconst (v := (-1)) hx hb dX4_numbersOf_58 (by decide) ?_
                obtain rfl := Option.some.inj hf
                exact W.iret (v := (-1)) hx hb hr (fun t ht hW => ⟨⟨(-1), (), rfl, rfl, by rw [ht]; exact hP, hD⟩, hS.F ht⟩) hS.2.2 dX4_numbersOf_59
              · have hf := oif_t c7 hf
                refine lv_iconst (v := 0) hx hb dX4_numbersOf_54 (by decide) ?_
                refine lv_goto (tgt := 59) hx hb dX4_numbersOf_55 (by decide) ?_
                obtain rfl := Option.some.inj hf
                exact W.iret (v := 0) hx hb hr (fun t ht hW => ⟨⟨0, (), rfl, rfl, by rw [ht]; exact hP, hD⟩, hS.F ht⟩) hS.2.2 dX4_numbersOf_59
            · have hf := oif_t c6 hf
              exact (hWW _ _ _ _ _ _ _).1 (J44  H locs ls hP hD hS (lv_sub hl [] rfl) hf)
        · have hf := oif_t c4 hf
          exact (hWW _ _ _ _ _ _ _).1 (J28  H locs ls hP hD hS (lv_sub hl [] rfl) hf)
  · have hf := oif_t c1 hf
    refine lv_iconst (v := 3) hx hb dX4_numbersOf_6 (by decide) ?_
    refine lv_goto (tgt := 59) hx hb dX4_numbersOf_7 (by decide) ?_
    obtain rfl := Option.some.inj hf
    exact W.iret (v := 3) hx hb hr (fun t ht hW => ⟨⟨3, (), rfl, rfl, by rw [ht]; exact hP, hD⟩, hS.F ht⟩) hS.2.2 dX4_numbersOf_59
def fX4_isForm_132 (k43 : BX4 → Int32 → Int32 → Int32 → Int32 → Option (Int32 × BX4)) (vM : BX4) (x1 : Int32) (x2 : Int32) (x3 : Int32) (x4 : Int32) (st1 : Int32) (st2 : Int32) : Option (Int32 × BX4) :=
  if inB st1 3 = true then (elet (s4_told vM (upd (p4_told vM) (st1).toNatClampNeg st2)) (fun b16 => elet (x4 + 1) (fun z17 => k43 b16 x1 x2 x3 z17))) else none
def fX4_isForm_99 (k43 : BX4 → Int32 → Int32 → Int32 → Int32 → Option (Int32 × BX4)) (vM : BX4) (x1 : Int32) (x2 : Int32) (x4 : Int32) (x5 : Int32) (st1 : Int32) (st2 : Int32) : Option (Int32 × BX4) :=
  (fX4_number vM st1 st2).bind (fun y10 => elet y10.1 (fun z11 => if x5 = 0 then (if inB x4 3 = true then (fX4_isForm_132 k43 y10.2 x1 x2 z11 x4 x4 ((p4_told y10.2) (x4).toNatClampNeg)) else none) else (if inB x4 3 = true then (fX4_isForm_132 k43 y10.2 x1 x2 z11 x4 x4 (-((p4_told y10.2) (x4).toNatClampNeg))) else none)))
def fX4_isForm_79 (k43 : BX4 → Int32 → Int32 → Int32 → Int32 → Option (Int32 × BX4)) (vM : BX4) (x1 : Int32) (x2 : Int32) (x4 : Int32) (st0 : Int32) : Option (Int32 × BX4) :=
  if x4 = (x2 - (1 : Int32)) then (fX4_isForm_99 k43 vM x1 x2 x4 st0 x4 (59 : Int32)) else (fX4_isForm_99 k43 vM x1 x2 x4 st0 x4 (44 : Int32))
def fX4_isForm_78 (k43 : BX4 → Int32 → Int32 → Int32 → Int32 → Option (Int32 × BX4)) (vM : BX4) (x1 : Int32) (x2 : Int32) (x4 : Int32) : Option (Int32 × BX4) :=
  fX4_isForm_79 k43 vM x1 x2 x4 (0 : Int32)
def fX4_isForm_43_b (k43 : BX4 → Int32 → Int32 → Int32 → Int32 → Option (Int32 × BX4)) (vM : BX4) (x1 : Int32) (x2 : Int32) (x3 : Int32) (x4 : Int32) : Option (Int32 × BX4) :=
  if x2 ≤ x4 then (if zB x3 = true then (some (x3, vM)) else none) else (if x3 = 0 then (if zB x3 = true then (some (x3, vM)) else none) else (if x1 = (102 : Int32) then (if x4 = (1 : Int32) then ((fX4_passes vM (45 : Int32)).bind (fun y7 => if y7.1 = 0 then (fX4_isForm_78 k43 y7.2 x1 x2 x4) else (fX4_isForm_79 k43 y7.2 x1 x2 x4 (1 : Int32)))) else (fX4_isForm_78 k43 vM x1 x2 x4)) else (fX4_isForm_78 k43 vM x1 x2 x4)))
def fX4_isForm_43 : Nat → BX4 → Int32 → Int32 → Int32 → Int32 → Option (Int32 × BX4)
  | 0 => fun _ _ _ _ _ => none
  | n + 1 => fX4_isForm_43_b (fX4_isForm_43 n)
def fX4_isForm_39 (vM : BX4) (x1 : Int32) (x2 : Int32) (st0 : Int32) : Option (Int32 × BX4) :=
  fX4_isForm_43 FU vM x1 x2 st0 (0 : Int32)
def fX4_isForm_34 (vM : BX4) (x1 : Int32) (x2 : Int32) : Option (Int32 × BX4) :=
  fX4_isForm_39 vM x1 x2 (1 : Int32)
def fX4_isForm (vM : BX4) (i1 : Int32) : Option (Int32 × BX4) :=
  (fX4_numbersOf i1).bind (fun y18 => if 0 ≤ y18 then (elet (s4_spot vM ((p4_spot vM) + (1 : Int32))) (fun b20 => if 0 < y18 then (fX4_isForm_34 b20 i1 y18) else ((fX4_passes b20 (59 : Int32)).bind (fun y22 => if y22.1 = 0 then (fX4_isForm_39 y22.2 i1 y18 (0 : Int32)) else (fX4_isForm_34 y22.2 i1 y18))))) else (some (0, vM)))
set_option maxHeartbeats 8000000 in
set_option maxRecDepth 100000 in
theorem mX4_isForm (l : Launch) (dC : Nat → ClassId) (dI : Nat → Nat → Nat) (cI cJ : ClassId) (aM : Nat → Nat) (sz : Nat) (vM : BX4) (i1 : Int32) (y : (Int32 × BX4)) (hf : fX4_isForm vM i1 = some y) : Met l yX4_isForm wsX4_isForm ({ frames := 4, cells := 0, slots := 0, locals := 89 }) (cPc dC dI cI cJ [.ref (aM 0), .int i1] [k4_0 aM vM, k4_1 cI aM vM, k4_2 cI aM vM, k4_3 cI aM vM, k4_4 cI aM vM, k4_5 cJ aM vM, k4_6 cI aM vM, k4_7 cJ aM vM, k4_8 cJ aM vM, k4_9 cI aM vM] sz) (va_Qi (fun r (_ : Unit) => r = y.1) (fun _ t => cB dC dI (va_A [k4_0 aM vM, k4_1 cI aM vM, k4_2 cI aM vM, k4_3 cI aM vM, k4_4 cI aM vM, k4_5 cJ aM vM, k4_6 cI aM vM, k4_7 cJ aM vM, k4_8 cJ aM vM, k4_9 cI aM vM] sz) [k4_0 aM y.2, k4_1 cI aM y.2, k4_2 cI aM y.2, k4_3 cI aM y.2, k4_4 cI aM y.2, k4_5 cJ aM y.2, k4_6 cI aM y.2, k4_7 cJ aM y.2, k4_8 cJ aM y.2, k4_9 cI aM y.2] t) (va_A [k4_0 aM vM, k4_1 cI aM vM, k4_2 cI aM vM, k4_3 cI aM vM, k4_4 cI aM vM, k4_5 cJ aM vM, k4_6 cI aM vM, k4_7 cJ aM vM, k4_8 cJ aM vM, k4_9 cI aM vM] sz)) 0 0 (va_A [k4_0 aM vM, k4_1 cI aM vM, k4_2 cI aM vM, k4_3 cI aM vM, k4_4 cI aM vM, k4_5 cJ aM vM, k4_6 cI aM vM, k4_7 cJ aM vM, k4_8 cJ aM vM, k4_9 cI aM vM] sz) := by
  refine Met.ofW (cc := cX4_isForm) (maxL := 6) (ret := (some .boolean)) (by decide) rfl ?_
  intro p e s m args below meth c s₁ B hml hv
  obtain ⟨rfl, hsz, hP, hK, hD0, hN⟩ := hv
  have hx := B.exec
  have hb := B.bytes
  have hr := B.returns
  have hts := atoms_spec (ws := wsX4_isForm) B.pre
  have hown : s.vm.findClass RX4 = some m.cls := findClass_of_methodNamed B.named
  have hlocks := B.notSynchronized
  subst hsz
  have hD := hD0.self (sz := s.heap.size)
  generalize hAe : va_A [k4_0 aM vM, k4_1 cI aM vM, k4_2 cI aM vM, k4_3 cI aM vM, k4_4 cI aM vM, k4_5 cJ aM vM, k4_6 cI aM vM, k4_7 cJ aM vM, k4_8 cJ aM vM, k4_9 cI aM vM] s.heap.size = A at hD hN ⊢
  have hA : ∀ q : Nat, s.heap.size ≤ q → A q := fun q h => by rw [← hAe]; exact Or.inr h
  have hP : va_P (dC, dI) vwCl [k4_0 aM vM, k4_1 cI aM vM, k4_2 cI aM vM, k4_3 cI aM vM, k4_4 cI aM vM, k4_5 cJ aM vM, k4_6 cI aM vM, k4_7 cJ aM vM, k4_8 cJ aM vM, k4_9 cI aM vM] s.heap := hP
  have hl := lv_entry ([.ref (aM 0), .int i1]) (n := 6) (Nat.le_of_ble_eq_true rfl)
  rw [lg_entry_eq]
  generalize (lg_sl ([.ref (aM 0), .int i1]) ++ List.replicate (6 - (lg_sl ([.ref (aM 0), .int i1])).length) Slot.unset).toArray = ls at hl ⊢
  have hl : lv_has ls 6 [(0, .ref (aM 0)), (1, .int i1)] := hl
  have hiX4 : ∀ w ∈ u_ws RX4 TX4 21, w ∈ wsX4_isForm := by decide +kernel
  have hgX4_35 := hts (.fieldLink RX4 35 "SpringPlatesModel" "told" "[I") (by decide +kernel)
  have hgX4_165 := hts (.fieldLink RX4 165 "SpringPlatesModel" "spot" "I") (by decide +kernel)
  refine nameH (fun H locs hHe hLe => ?_)
  have hP : va_P (dC, dI) vwCl [k4_0 aM vM, k4_1 cI aM vM, k4_2 cI aM vM, k4_3 cI aM vM, k4_4 cI aM vM, k4_5 cJ aM vM, k4_6 cI aM vM, k4_7 cJ aM vM, k4_8 cJ aM vM, k4_9 cI aM vM] H := by rw [hHe]; exact hP
  have hS : va_S A s.heap H locs := by rw [hHe, hLe]; exact va_S.rf
  refine withW (fun WW hWW => ?_)
  have J132 : ∀ (k43 : BX4 → Int32 → Int32 → Int32 → Int32 → Option (Int32 × BX4)) (hk43 : ∀ (vM : BX4) (x1 : Int32) (x2 : Int32) (x3 : Int32) (x4 : Int32) (H : Heap) (locs : List Loc) (ls : Array Slot), va_P (dC, dI) vwCl [k4_0 aM vM, k4_1 cI aM vM, k4_2 cI aM vM, k4_3 cI aM vM, k4_4 cI aM vM, k4_5 cJ aM vM, k4_6 cI aM vM, k4_7 cJ aM vM, k4_8 cJ aM vM, k4_9 cI aM vM] H → va_D A [k4_0 aM vM, k4_1 cI aM vM, k4_2 cI aM vM, k4_3 cI aM vM, k4_4 cI aM vM, k4_5 cJ aM vM, k4_6 cI aM vM, k4_7 cJ aM vM, k4_8 cJ aM vM, k4_9 cI aM vM] → va_S A s.heap H locs → lv_has ls 6 [(0, .ref (aM 0)), (1, .int x1), (2, .int x2), (3, .int x3), (4, .int x4)] → k43 vM x1 x2 x3 x4 = some y → WW H locs 0 0 ls 43 []) (vM : BX4) (x1 : Int32) (x2 : Int32) (x3 : Int32) (x4 : Int32) (st1 : Int32) (st2 : Int32) (H : Heap) (locs : List Loc) (ls : Array Slot), va_P (dC, dI) vwCl [k4_0 aM vM, k4_1 cI aM vM, k4_2 cI aM vM, k4_3 cI aM vM, k4_4 cI aM vM, k4_5 cJ aM vM, k4_6 cI aM vM, k4_7 cJ aM vM, k4_8 cJ aM vM, k4_9 cI aM vM] H → va_D A [k4_0 aM vM, k4_1 cI aM vM, k4_2 cI aM vM, k4_3 cI aM vM, k4_4 cI aM vM, k4_5 cJ aM vM, k4_6 cI aM vM, k4_7 cJ aM vM, k4_8 cJ aM vM, k4_9 cI aM vM] → va_S A s.heap H locs → lv_has ls 6 [(0, .ref (aM 0)), (1, .int x1), (2, .int x2), (3, .int x3), (4, .int x4)] → fX4_isForm_132 k43 vM x1 x2 x3 x4 st1 st2 = some y → WW H locs 0 0 ls 132 [.int st2, .int st1, .ref (aM 9)] := by
    intro k43 hk43 vM x1 x2 x3 x4 st1 st2 H locs ls hP hD hS hl hf
    unfold fX4_isForm_132 at hf
    refine (hWW _ _ _ _ _ _ _).2 ?_
    obtain ⟨hi15, hf⟩ := oinb rfl hf
    obtain ⟨b16, eb16, hf⟩ := elet_out hf
    refine va_iast hx hb hK hP hD hS 9 0 rfl rfl hi15 dX4_isForm_132 (fun H locs hP hD hS => ?_)
    have hP : va_P (dC, dI) vwCl [k4_0 aM b16, k4_1 cI aM b16, k4_2 cI aM b16, k4_3 cI aM b16, k4_4 cI aM b16, k4_5 cJ aM b16, k4_6 cI aM b16, k4_7 cJ aM b16, k4_8 cJ aM b16, k4_9 cI aM b16] H := by rw [eb16]; exact hP
    have hD : va_D A [k4_0 aM b16, k4_1 cI aM b16, k4_2 cI aM b16, k4_3 cI aM b16, k4_4 cI aM b16, k4_5 cJ aM b16, k4_6 cI aM b16, k4_7 cJ aM b16, k4_8 cJ aM b16, k4_9 cI aM b16] := by rw [eb16]; exact hD
    obtain ⟨z17, ez17, hf⟩ := elet_out hf
    refine lv_iinc (v := z17) (lv' := [(4, .int z17), (0, .ref (aM 0)), (1, .int x1), (2, .int x2), (3, .int x3)]) hx hb dX4_isForm_133 hl (k := 4) rfl (by rw [ez17]; rfl) (by decide) rfl (fun ls hl => ?_)
    refine lv_goto (tgt := 43) hx hb dX4_isForm_136 (by decide) ?_
    exact (hWW _ _ _ _ _ _ _).1 (hk43 b16 x1 x2 x3 z17 H locs ls hP hD hS (lv_sub hl [1, 2, 3, 4, 0] rfl) hf)
  have J99 : ∀ (k43 : BX4 → Int32 → Int32 → Int32 → Int32 → Option (Int32 × BX4)) (hk43 : ∀ (vM : BX4) (x1 : Int32) (x2 : Int32) (x3 : Int32) (x4 : Int32) (H : Heap) (locs : List Loc) (ls : Array Slot), va_P (dC, dI) vwCl [k4_0 aM vM, k4_1 cI aM vM, k4_2 cI aM vM, k4_3 cI aM vM, k4_4 cI aM vM, k4_5 cJ aM vM, k4_6 cI aM vM, k4_7 cJ aM vM, k4_8 cJ aM vM, k4_9 cI aM vM] H → va_D A [k4_0 aM vM, k4_1 cI aM vM, k4_2 cI aM vM, k4_3 cI aM vM, k4_4 cI aM vM, k4_5 cJ aM vM, k4_6 cI aM vM, k4_7 cJ aM vM, k4_8 cJ aM vM, k4_9 cI aM vM] → va_S A s.heap H locs → lv_has ls 6 [(0, .ref (aM 0)), (1, .int x1), (2, .int x2), (3, .int x3), (4, .int x4)] → k43 vM x1 x2 x3 x4 = some y → WW H locs 0 0 ls 43 []) (vM : BX4) (x1 : Int32) (x2 : Int32) (x4 : Int32) (x5 : Int32) (st1 : Int32) (st2 : Int32) (H : Heap) (locs : List Loc) (ls : Array Slot), va_P (dC, dI) vwCl [k4_0 aM vM, k4_1 cI aM vM, k4_2 cI aM vM, k4_3 cI aM vM, k4_4 cI aM vM, k4_5 cJ aM vM, k4_6 cI aM vM, k4_7 cJ aM vM, k4_8 cJ aM vM, k4_9 cI aM vM] H → va_D A [k4_0 aM vM, k4_1 cI aM vM, k4_2 cI aM vM, k4_3 cI aM vM, k4_4 cI aM vM, k4_5 cJ aM vM, k4_6 cI aM vM, k4_7 cJ aM vM, k4_8 cJ aM vM, k4_9 cI aM vM] → va_S A s.heap H locs → lv_has ls 6 [(0, .ref (aM 0)), (1, .int x1), (2, .int x2), (4, .int x4), (5, .int x5)] → fX4_isForm_99 k43 vM x1 x2 x4 x5 st1 st2 = some y → WW H locs 0 0 ls 99 [.int st2, .int st1, .ref (aM 0)] := by
    intro k43 hk43 vM x1 x2 x4 x5 st1 st2 H locs ls hP hD hS hl hf
    unfold fX4_isForm_99 at hf
    refine (hWW _ _ _ _ _ _ _).2 ?_
    obtain ⟨y10, hy10, hf⟩ := obind hf
    refine cg_i (ws := [k4_0 aM vM, k4_1 cI aM vM, k4_2 cI aM vM, k4_3 cI aM vM, k4_4 cI aM vM, k4_5 cJ aM vM, k4_6 cI aM vM, k4_7 cJ aM vM, k4_8 cJ aM vM, k4_9 cI aM vM]) (wc := [k4_0 aM vM, k4_1 cI aM vM, k4_2 cI aM vM, k4_3 cI aM vM, k4_4 cI aM vM, k4_5 cJ aM vM, k4_6 cI aM vM, k4_7 cJ aM vM, k4_8 cJ aM vM, k4_9 cI aM vM]) (wr := []) (w1 := [k4_0 aM y10.2, k4_1 cI aM y10.2, k4_2 cI aM y10.2, k4_3 cI aM y10.2, k4_4 cI aM y10.2, k4_5 cJ aM y10.2, k4_6 cI aM y10.2, k4_7 cJ aM y10.2, k4_8 cJ aM y10.2, k4_9 cI aM y10.2]) (wo := [k4_0 aM y10.2, k4_1 cI aM y10.2, k4_2 cI aM y10.2, k4_3 cI aM y10.2, k4_4 cI aM y10.2, k4_5 cJ aM y10.2, k4_6 cI aM y10.2, k4_7 cJ aM y10.2, k4_8 cJ aM y10.2, k4_9 cI aM y10.2]) hP hD hS hA (va_runV (As := [.int st1, .int st2]) (rest := []) ⟨hx, hb, hml, hown, hts⟩ (mX4_number l dC dI cI cJ aM H.size vM st1 st2 y10 hy10) (cwV 2 hts gX4_isForm_X4_number rfl rfl rfl (by decide +kernel) ⟨Nat.le_of_ble_eq_true rfl, Nat.le_of_ble_eq_true rfl⟩) ⟨cFB, va_recv hK hP (ci := 4) (q0 := 0) rfl rfl, cPre hK hN hS (va_free (wc := [k4_0 aM vM, k4_1 cI aM vM, k4_2 cI aM vM, k4_3 cI aM vM, k4_4 cI aM vM, k4_5 cJ aM vM, k4_6 cI aM vM, k4_7 cJ aM vM, k4_8 cJ aM vM, k4_9 cI aM vM]) hD hS hA [0, 1, 2, 3, 4, 5, 6, 7, 8, 9] rfl) (hP.sub [0, 1, 2, 3, 4, 5, 6, 7, 8, 9] rfl) (hD.sub [0, 1, 2, 3, 4, 5, 6, 7, 8, 9] rfl rfl)⟩ rfl rfl hl.1 rfl (lv_room (Nat.le_of_ble_eq_true rfl)) dX4_isForm_99 ⟨Nat.le_of_ble_eq_true rfl, Nat.le_of_ble_eq_true rfl⟩) [0, 1, 2, 3, 4, 5, 6, 7, 8, 9] [] [0, 1, 2, 3, 4, 5, 6, 7, 8, 9] rfl rfl rfl (by decide +kernel) rfl rfl (fun H locs hP hD hS => ?_)
    obtain ⟨z11, ez11, hf⟩ := elet_out hf
    refine lvn_i ez11 ?_
    refine lv_istore_n (lv' := [(3, .int z11), (0, .ref (aM 0)), (1, .int x1), (2, .int x2), (4, .int x4), (5, .int x5)]) hx hb dX4_isForm_102 rfl hl (by decide) rfl (fun ls hl => ?_)
    refine lv_aload_n hx hb dX4_isForm_103 rfl (lv_at hl 1 rfl) ?_
    refine va_get (D := (dC, dI)) (ci := 4) (v := .ref (aM 9)) (C := RX4) (T := TX4) (N := 21) hx hb hts hiX4 hown hK hP 0 rfl rfl 20 (by decide) hgX4_35 (fun _ h9 => h9) rfl dX4_isForm_104 ?_
    refine lv_iload hx hb dX4_isForm_107 (lv_at hl 4 rfl) ?_
    refine lv_iload hx hb dX4_isForm_109 (lv_at hl 5 rfl) ?_
    refine lv_if_eq (tgt := 125) hx hb dX4_isForm_111 (by decide) (fun c12 => ?_) (fun c12 => ?_)
    · have hf := oif_t c12 hf
      refine lv_aload_n hx hb dX4_isForm_125 rfl (lv_at hl 1 rfl) ?_
      refine va_get (D := (dC, dI)) (ci := 4) (v := .ref (aM 9)) (C := RX4) (T := TX4) (N := 21) hx hb hts hiX4 hown hK hP 0 rfl rfl 20 (by decide) hgX4_35 (fun _ h9 => h9) rfl dX4_isForm_126 ?_
      refine lv_iload hx hb dX4_isForm_129 (lv_at hl 4 rfl) ?_
      obtain ⟨hi13, hf⟩ := oinb rfl hf
      refine va_iald hx hb hK hP 9 0 rfl rfl hi13 dX4_isForm_131 ?_
      exact (hWW _ _ _ _ _ _ _).1 (J132 k43 hk43 y10.2 x1 x2 z11 x4 x4 ((p4_told y10.2) (x4).toNatClampNeg) H locs ls hP hD hS (lv_sub hl [1, 2, 3, 0, 4] rfl) hf)
    · have hf := oif_f c12 hf
      refine lv_aload_n hx hb dX4_isForm_114 rfl (lv_at hl 1 rfl) ?_
      refine va_get (D := (dC, dI)) (ci := 4) (v := .ref (aM 9)) (C := RX4) (T := TX4) (N := 21) hx hb hts hiX4 hown hK hP 0 rfl rfl 20 (by decide) hgX4_35 (fun _ h9 => h9) rfl dX4_isForm_115 ?_
      refine lv_iload hx hb dX4_isForm_118 (lv_at hl 4 rfl) ?_
      obtain ⟨hi14, hf⟩ := oinb rfl hf
      refine va_iald hx hb hK hP 9 0 rfl rfl hi14 dX4_isForm_120 ?_
      refine lv_ineg hx hb dX4_isForm_121 ?_
      refine lv_goto (tgt := 132) hx hb dX4_isForm_122 (by decide) ?_
      exact (hWW _ _ _ _ _ _ _).1 (J132 k43 hk43 y10.2 x1 x2 z11 x4 x4 (-((p4_told y10.2) (x4).toNatClampNeg)) H locs ls hP hD hS (lv_sub hl [1, 2, 3, 0, 4] rfl) hf)
  have J79 : ∀ (k43 : BX4 → Int32 → Int32 → Int32 → Int32 → Option (Int32 × BX4)) (hk43 : ∀ (vM : BX4) (x1 : Int32) (x2 : Int32) (x3 : Int32) (x4 : Int32) (H : Heap) (locs : List Loc) (ls : Array Slot), va_P (dC, dI) vwCl [k4_0 aM vM, k4_1 cI aM vM, k4_2 cI aM vM, k4_3 cI aM vM, k4_4 cI aM vM, k4_5 cJ aM vM, k4_6 cI aM vM, k4_7 cJ aM vM, k4_8 cJ aM vM, k4_9 cI aM vM] H → va_D A [k4_0 aM vM, k4_1 cI aM vM, k4_2 cI aM vM, k4_3 cI aM vM, k4_4 cI aM vM, k4_5 cJ aM vM, k4_6 cI aM vM, k4_7 cJ aM vM, k4_8 cJ aM vM, k4_9 cI aM vM] → va_S A s.heap H locs → lv_has ls 6 [(0, .ref (aM 0)), (1, .int x1), (2, .int x2), (3, .int x3), (4, .int x4)] → k43 vM x1 x2 x3 x4 = some y → WW H locs 0 0 ls 43 []) (vM : BX4) (x1 : Int32) (x2 : Int32) (x4 : Int32) (st0 : Int32) (H : Heap) (locs : List Loc) (ls : Array Slot), va_P (dC, dI) vwCl [k4_0 aM vM, k4_1 cI aM vM, k4_2 cI aM vM, k4_3 cI aM vM, k4_4 cI aM vM, k4_5 cJ aM vM, k4_6 cI aM vM, k4_7 cJ aM vM, k4_8 cJ aM vM, k4_9 cI aM vM] H → va_D A [k4_0 aM vM, k4_1 cI aM vM, k4_2 cI aM vM, k4_3 cI aM vM, k4_4 cI aM vM, k4_5 cJ aM vM, k4_6 cI aM vM, k4_7 cJ aM vM, k4_8 cJ aM vM, k4_9 cI aM vM] → va_S A s.heap H locs → lv_has ls 6 [(0, .ref (aM 0)), (1, .int x1), (2, .int x2), (4, .int x4)] → fX4_isForm_79 k43 vM x1 x2 x4 st0 = some y → WW H locs 0 0 ls 79 [.int st0] := by
    intro k43 hk43 vM x1 x2 x4 st0 H locs ls hP hD hS hl hf
    unfold fX4_isForm_79 at hf
    refine (hWW _ _ _ _ _ _ _).2 ?_
    refine lv_istore (lv' := [(5, .int st0), (0, .ref (aM 0)), (1, .int x1), (2, .int x2), (4, .int x4)]) hx hb dX4_isForm_79 hl (by decide) rfl (fun ls hl => ?_)
    refine lv_aload_n hx hb dX4_isForm_81 rfl (lv_at hl 1 rfl) ?_
    refine lv_iload hx hb dX4_isForm_82 (lv_at hl 4 rfl) ?_
    refine lv_iload hx hb dX4_isForm_84 (lv_at hl 4 rfl) ?_
    refine lv_iload_n hx hb dX4_isForm_86 rfl (lv_at hl 3 rfl) ?_
    refine lv_iconst (v := 1) hx hb dX4_isForm_87 (by decide) ?_
    refine lv_isub hx hb dX4_isForm_88 ?_
    refine lv_icmp_ne (tgt := 97) hx hb dX4_isForm_89 (by decide) (fun c9 => ?_) (fun c9 => ?_)
    · have hf := oif_f c9 hf
      refine lv_bipush (v := 44) hx hb dX4_isForm_97 (by decide) ?_
      exact (hWW _ _ _ _ _ _ _).1 (J99 k43 hk43 vM x1 x2 x4 st0 x4 (44 : Int32) H locs ls hP hD hS (lv_sub hl [1, 2, 3, 4, 0] rfl) hf)
    · have hf := oif_t c9 hf
      refine lv_bipush (v := 59) hx hb dX4_isForm_92 (by decide) ?_
      refine lv_goto (tgt := 99) hx hb dX4_isForm_94 (by decide) ?_
      exact (hWW _ _ _ _ _ _ _).1 (J99 k43 hk43 vM x1 x2 x4 st0 x4 (59 : Int32) H locs ls hP hD hS (lv_sub hl [1, 2, 3, 4, 0] rfl) hf)
  have J78 : ∀ (k43 : BX4 → Int32 → Int32 → Int32 → Int32 → Option (Int32 × BX4)) (hk43 : ∀ (vM : BX4) (x1 : Int32) (x2 : Int32) (x3 : Int32) (x4 : Int32) (H : Heap) (locs : List Loc) (ls : Array Slot), va_P (dC, dI) vwCl [k4_0 aM vM, k4_1 cI aM vM, k4_2 cI aM vM, k4_3 cI aM vM, k4_4 cI aM vM, k4_5 cJ aM vM, k4_6 cI aM vM, k4_7 cJ aM vM, k4_8 cJ aM vM, k4_9 cI aM vM] H → va_D A [k4_0 aM vM, k4_1 cI aM vM, k4_2 cI aM vM, k4_3 cI aM vM, k4_4 cI aM vM, k4_5 cJ aM vM, k4_6 cI aM vM, k4_7 cJ aM vM, k4_8 cJ aM vM, k4_9 cI aM vM] → va_S A s.heap H locs → lv_has ls 6 [(0, .ref (aM 0)), (1, .int x1), (2, .int x2), (3, .int x3), (4, .int x4)] → k43 vM x1 x2 x3 x4 = some y → WW H locs 0 0 ls 43 []) (vM : BX4) (x1 : Int32) (x2 : Int32) (x4 : Int32) (H : Heap) (locs : List Loc) (ls : Array Slot), va_P (dC, dI) vwCl [k4_0 aM vM, k4_1 cI aM vM, k4_2 cI aM vM, k4_3 cI aM vM, k4_4 cI aM vM, k4_5 cJ aM vM, k4_6 cI aM vM, k4_7 cJ aM vM, k4_8 cJ aM vM, k4_9 cI aM vM] H → va_D A [k4_0 aM vM, k4_1 cI aM vM, k4_2 cI aM vM, k4_3 cI aM vM, k4_4 cI aM vM, k4_5 cJ aM vM, k4_6 cI aM vM, k4_7 cJ aM vM, k4_8 cJ aM vM, k4_9 cI aM vM] → va_S A s.heap H locs → lv_has ls 6 [(0, .ref (aM 0)), (1, .int x1), (2, .int x2), (4, .int x4)] → fX4_isForm_78 k43 vM x1 x2 x4 = some y → WW H locs 0 0 ls 78 [] := by
    intro k43 hk43 vM x1 x2 x4 H locs ls hP hD hS hl hf
    unfold fX4_isForm_78 at hf
    refine (hWW _ _ _ _ _ _ _).2 ?_
    refine lv_iconst (v := 0) hx hb dX4_isForm_78 (by decide) ?_
    exact (hWW _ _ _ _ _ _ _).1 (J79 k43 hk43 vM x1 x2 x4 (0 : Int32) H locs ls hP hD hS (lv_sub hl [0, 1, 2, 3] rfl) hf)
  have L43 : ∀ (n : Nat) (vM : BX4) (x1 : Int32) (x2 : Int32) (x3 : Int32) (x4 : Int32) (H : Heap) (locs : List Loc) (ls : Array Slot), va_P (dC, dI) vwCl [k4_0 aM vM, k4_1 cI aM vM, k4_2 cI aM vM, k4_3 cI aM vM, k4_4 cI aM vM, k4_5 cJ aM vM, k4_6 cI aM vM, k4_7 cJ aM vM, k4_8 cJ aM vM, k4_9 cI aM vM] H → va_D A [k4_0 aM vM, k4_1 cI aM vM, k4_2 cI aM vM, k4_3 cI aM vM, k4_4 cI aM vM, k4_5 cJ aM vM, k4_6 cI aM vM, k4_7 cJ aM vM, k4_8 cJ aM vM, k4_9 cI aM vM] → va_S A s.heap H locs → lv_has ls 6 [(0, .ref (aM 0)), (1, .int x1), (2, .int x2), (3, .int x3), (4, .int x4)] → fX4_isForm_43 n vM x1 x2 x3 x4 = some y → WW H locs 0 0 ls 43 [] := by
    intro n
    induction n with
    | zero =>
      intro vM x1 x2 x3 x4 H locs ls hP hD hS hl hf
      exact onone hf
    | succ n ih =>
      intro vM x1 x2 x3 x4 H locs ls hP hD hS hl hf
      have hf : fX4_isForm_43_b (fX4_isForm_43 n) vM x1 x2 x3 x4 = some y := hf
      generalize fX4_isForm_43 n = k43 at hf ih
      have hk43 := ih
      clear ih
      unfold fX4_isForm_43_b at hf
      refine (hWW _ _ _ _ _ _ _).2 ?_
      refine lv_iload hx hb dX4_isForm_43 (lv_at hl 4 rfl) ?_
      refine lv_iload_n hx hb dX4_isForm_45 rfl (lv_at hl 2 rfl) ?_
      refine lv_icmp_ge (tgt := 139) hx hb dX4_isForm_46 (by decide) (fun c1 => ?_) (fun c1 => ?_)
      · have hf := oif_t c1 hf
        refine lv_iload_n hx hb dX4_isForm_139 rfl (lv_at hl 3 rfl) ?_
        obtain ⟨hz2, hf⟩ := ozb hf
        obtain rfl := Option.some.inj hf
        exact W.zret (v := x3) hx hb hr hz2 (fun t ht hW => ⟨⟨x3, (), rfl, rfl, by rw [ht]; exact hP, hD⟩, hS.F ht⟩) hS.2.2 dX4_isForm_140
      · have hf := oif_f c1 hf
        refine lv_iload_n hx hb dX4_isForm_49 rfl (lv_at hl 3 rfl) ?_
        refine lv_if_eq (tgt := 139) hx hb dX4_isForm_50 (by decide) (fun c3 => ?_) (fun c3 => ?_)
        · have hf := oif_t c3 hf
          refine lv_iload_n hx hb dX4_isForm_139 rfl (lv_at hl 3 rfl) ?_
          obtain ⟨hz4, hf⟩ := ozb hf
          obtain rfl := Option.some.inj hf
          exact W.zret (v := x3) hx hb hr hz4 (fun t ht hW => ⟨⟨x3, (), rfl, rfl, by rw [ht]; exact hP, hD⟩, hS.F ht⟩) hS.2.2 dX4_isForm_140
        · have hf := oif_f c3 hf
          refine lv_iload_n hx hb dX4_isForm_53 rfl (lv_at hl 1 rfl) ?_
          refine lv_bipush (v := 102) hx hb dX4_isForm_54 (by decide) ?_
          refine lv_icmp_ne (tgt := 78) hx hb dX4_isForm_56 (by decide) (fun c5 => ?_) (fun c5 => ?_)
          · have hf := oif_f c5 hf
            exact (hWW _ _ _ _ _ _ _).1 (J78 k43 hk43 vM x1 x2 x4 H locs ls hP hD hS (lv_sub hl [0, 1, 2, 4] rfl) hf)
          · have hf := oif_t c5 hf
            refine lv_iload hx hb dX4_isForm_59 (lv_at hl 4 rfl) ?_
            refine lv_iconst (v := 1) hx hb dX4_isForm_61 (by decide) ?_
            refine lv_icmp_ne (tgt := 78) hx hb dX4_isForm_62 (by decide) (fun c6 => ?_) (fun c6 => ?_)
            · have hf := oif_f c6 hf
              exact (hWW _ _ _ _ _ _ _).1 (J78 k43 hk43 vM x1 x2 x4 H locs ls hP hD hS (lv_sub hl [0, 1, 2, 4] rfl) hf)
            · have hf := oif_t c6 hf
              refine lv_aload_n hx hb dX4_isForm_65 rfl (lv_at hl 0 rfl) ?_
              refine lv_bipush (v := 45) hx hb dX4_isForm_66 (by decide) ?_
              obtain ⟨y7, hy7, hf⟩ := obind hf
              refine cg_i (ws := [k4_0 aM vM, k4_1 cI aM vM, k4_2 cI aM vM, k4_3 cI aM vM, k4_4 cI aM vM, k4_5 cJ aM vM, k4_6 cI aM vM, k4_7 cJ aM vM, k4_8 cJ aM vM, k4_9 cI aM vM]) (wc := [k4_0 aM vM, k4_1 cI aM vM, k4_2 cI aM vM, k4_3 cI aM vM, k4_4 cI aM vM, k4_5 cJ aM vM, k4_6 cI aM vM, k4_7 cJ aM vM, k4_8 cJ aM vM, k4_9 cI aM vM]) (wr := []) (w1 := [k4_0 aM y7.2, k4_1 cI aM y7.2, k4_2 cI aM y7.2, k4_3 cI aM y7.2, k4_4 cI aM y7.2, k4_5 cJ aM y7.2, k4_6 cI aM y7.2, k4_7 cJ aM y7.2, k4_8 cJ aM y7.2, k4_9 cI aM y7.2]) (wo := [k4_0 aM y7.2, k4_1 cI aM y7.2, k4_2 cI aM y7.2, k4_3 cI aM y7.2, k4_4 cI aM y7.2, k4_5 cJ aM y7.2, k4_6 cI aM y7.2, k4_7 cJ aM y7.2, k4_8 cJ aM y7.2, k4_9 cI aM y7.2]) hP hD hS hA (va_runV (As := [.int 45]) (rest := []) ⟨hx, hb, hml, hown, hts⟩ (mX4_passes l dC dI cI cJ aM H.size vM (45 : Int32) y7 hy7) (cwV 1 hts gX4_isForm_X4_passes rfl rfl rfl (by decide +kernel) ⟨Nat.le_of_ble_eq_true rfl, Nat.le_of_ble_eq_true rfl⟩) ⟨cFB, va_recv hK hP (ci := 4) (q0 := 0) rfl rfl, cPre hK hN hS (va_free (wc := [k4_0 aM vM, k4_1 cI aM vM, k4_2 cI aM vM, k4_3 cI aM vM, k4_4 cI aM vM, k4_5 cJ aM vM, k4_6 cI aM vM, k4_7 cJ aM vM, k4_8 cJ aM vM, k4_9 cI aM vM]) hD hS hA [0, 1, 2, 3, 4, 5, 6, 7, 8, 9] rfl) (hP.sub [0, 1, 2, 3, 4, 5, 6, 7, 8, 9] rfl) (hD.sub [0, 1, 2, 3, 4, 5, 6, 7, 8, 9] rfl rfl)⟩ rfl rfl hl.1 rfl (lv_room (Nat.le_of_ble_eq_true rfl)) dX4_isForm_68 ⟨Nat.le_of_ble_eq_true rfl, Nat.le_of_ble_eq_true rfl⟩) [0, 1, 2, 3, 4, 5, 6, 7, 8, 9] [] [0, 1, 2, 3, 4, 5, 6, 7, 8, 9] rfl rfl rfl (by decide +kernel) rfl rfl (fun H locs hP hD hS => ?_)
              refine lv_if_eq (tgt := 78) hx hb dX4_isForm_71 (by decide) (fun c8 => ?_) (fun c8 => ?_)
              · have hf := oif_t c8 hf
                exact (hWW _ _ _ _ _ _ _).1 (J78 k43 hk43 y7.2 x1 x2 x4 H locs ls hP hD hS (lv_sub hl [0, 1, 2, 4] rfl) hf)
              · have hf := oif_f c8 hf
                refine lv_iconst (v := 1) hx hb dX4_isForm_74 (by decide) ?_
                refine lv_goto (tgt := 79) hx hb dX4_isForm_75 (by decide) ?_
                exact (hWW _ _ _ _ _ _ _).1 (J79 k43 hk43 y7.2 x1 x2 x4 (1 : Int32) H locs ls hP hD hS (lv_sub hl [0, 1, 2, 4] rfl) hf)
  have J39 : ∀ (vM : BX4) (x1 : Int32) (x2 : Int32) (st0 : Int32) (H : Heap) (locs : List Loc) (ls : Array Slot), va_P (dC, dI) vwCl [k4_0 aM vM, k4_1 cI aM vM, k4_2 cI aM vM, k4_3 cI aM vM, k4_4 cI aM vM, k4_5 cJ aM vM, k4_6 cI aM vM, k4_7 cJ aM vM, k4_8 cJ aM vM, k4_9 cI aM vM] H → va_D A [k4_0 aM vM, k4_1 cI aM vM, k4_2 cI aM vM, k4_3 cI aM vM, k4_4 cI aM vM, k4_5 cJ aM vM, k4_6 cI aM vM, k4_7 cJ aM vM, k4_8 cJ aM vM, k4_9 cI aM vM] → va_S A s.heap H locs → lv_has ls 6 [(0, .ref (aM 0)), (1, .int x1), (2, .int x2)] → fX4_isForm_39 vM x1 x2 st0 = some y → WW H locs 0 0 ls 39 [.int st0] := by
    intro vM x1 x2 st0 H locs ls hP hD hS hl hf
    unfold fX4_isForm_39 at hf
    refine (hWW _ _ _ _ _ _ _).2 ?_
    refine lv_istore_n (lv' := [(3, .int st0), (0, .ref (aM 0)), (1, .int x1), (2, .int x2)]) hx hb dX4_isForm_39 rfl hl (by decide) rfl (fun ls hl => ?_)
    refine lv_iconst (v := 0) hx hb dX4_isForm_40 (by decide) ?_
    refine lv_istore (lv' := [(4, .int 0), (3, .int st0), (0, .ref (aM 0)), (1, .int x1), (2, .int x2)]) hx hb dX4_isForm_41 hl (by decide) rfl (fun ls hl => ?_)
    exact (hWW _ _ _ _ _ _ _).1 (L43 FU vM x1 x2 st0 (0 : Int32) H locs ls hP hD hS (lv_sub hl [2, 3, 4, 1, 0] rfl) hf)
  have J34 : ∀ (vM : BX4) (x1 : Int32) (x2 : Int32) (H : Heap) (locs : List Loc) (ls : Array Slot), va_P (dC, dI) vwCl [k4_0 aM vM, k4_1 cI aM vM, k4_2 cI aM vM, k4_3 cI aM vM, k4_4 cI aM vM, k4_5 cJ aM vM, k4_6 cI aM vM, k4_7 cJ aM vM, k4_8 cJ aM vM, k4_9 cI aM vM] H → va_D A [k4_0 aM vM, k4_1 cI aM vM, k4_2 cI aM vM, k4_3 cI aM vM, k4_4 cI aM vM, k4_5 cJ aM vM, k4_6 cI aM vM, k4_7 cJ aM vM, k4_8 cJ aM vM, k4_9 cI aM vM] → va_S A s.heap H locs → lv_has ls 6 [(0, .ref (aM 0)), (1, .int x1), (2, .int x2)] → fX4_isForm_34 vM x1 x2 = some y → WW H locs 0 0 ls 34 [] := by
    intro vM x1 x2 H locs ls hP hD hS hl hf
    unfold fX4_isForm_34 at hf
    refine (hWW _ _ _ _ _ _ _).2 ?_
    refine lv_iconst (v := 1) hx hb dX4_isForm_34 (by decide) ?_
    refine lv_goto (tgt := 39) hx hb dX4_isForm_35 (by decide) ?_
    exact (hWW _ _ _ _ _ _ _).1 (J39 vM x1 x2 (1 : Int32) H locs ls hP hD hS (lv_sub hl [0, 1, 2] rfl) hf)
  refine (hWW _ _ _ _ _ _ _).2 ?_
  unfold fX4_isForm at hf
  refine lv_iload_n hx hb dX4_isForm_0 rfl (lv_at hl 1 rfl) ?_
  obtain ⟨y18, hy18, hf⟩ := obind hf
  refine cg_i (ws := [k4_0 aM vM, k4_1 cI aM vM, k4_2 cI aM vM, k4_3 cI aM vM, k4_4 cI aM vM, k4_5 cJ aM vM, k4_6 cI aM vM, k4_7 cJ aM vM, k4_8 cJ aM vM, k4_9 cI aM vM]) (wc := []) (wr := [k4_0 aM vM, k4_1 cI aM vM, k4_2 cI aM vM, k4_3 cI aM vM, k4_4 cI aM vM, k4_5 cJ aM vM, k4_6 cI aM vM, k4_7 cJ aM vM, k4_8 cJ aM vM, k4_9 cI aM vM]) (w1 := []) (wo := [k4_0 aM vM, k4_1 cI aM vM, k4_2 cI aM vM, k4_3 cI aM vM, k4_4 cI aM vM, k4_5 cJ aM vM, k4_6 cI aM vM, k4_7 cJ aM vM, k4_8 cJ aM vM, k4_9 cI aM vM]) hP hD hS hA (va_runS (As := [.int i1]) (rest := []) ⟨hx, hb, hml, hown, hts⟩ (mX4_numbersOf l dC dI cI cJ  H.size i1 y18 hy18) (va_cwS 1 hts gX4_isForm_X4_numbersOf rfl rfl rfl (by decide +kernel) ⟨Nat.le_of_ble_eq_true rfl, Nat.le_of_ble_eq_true rfl⟩) ⟨cFB, cPre hK hN hS (va_free (wc := []) hD hS hA [] rfl) (hP.sub [] rfl) (hD.sub [] rfl rfl)⟩ rfl rfl hl.1 rfl (lv_room (Nat.le_of_ble_eq_true rfl)) dX4_isForm_1 ⟨Nat.le_of_ble_eq_true rfl, Nat.le_of_ble_eq_true rfl⟩) [] [0, 1, 2, 3, 4, 5, 6, 7, 8, 9] [0, 1, 2, 3, 4, 5, 6, 7, 8, 9] rfl rfl rfl (by decide +kernel) rfl rfl (fun H locs hP hD hS => ?_)
  refine lv_istore_n (lv' := [(2, .int y18), (0, .ref (aM 0)), (1, .int i1)]) hx hb dX4_isForm_4 rfl hl (by decide) rfl (fun ls hl => ?_)
  refine lv_iload_n hx hb dX4_isForm_5 rfl (lv_at hl 0 rfl) ?_
  refine lv_if_ge (tgt := 11) hx hb dX4_isForm_6 (by decide) (fun c19 => ?_) (fun c19 => ?_)
  · have hf := oif_t c19 hf
    refine lv_aload_n hx hb dX4_isForm_11 rfl (lv_at hl 1 rfl) ?_
    refine lv_dup hx hb dX4_isForm_12 rfl ?_
    refine va_get (D := (dC, dI)) (ci := 4) (v := .int (p4_spot vM)) (C := RX4) (T := TX4) (N := 21) hx hb hts hiX4 hown hK hP 0 rfl rfl 16 (by decide) hgX4_165 (fun _ h9 => h9) rfl dX4_isForm_13 ?_
    refine lv_iconst (v := 1) hx hb dX4_isForm_16 (by decide) ?_
    refine lv_iadd hx hb dX4_isForm_17 ?_
    obtain ⟨b20, eb20, hf⟩ := elet_out hf
    refine va_put (D := (dC, dI)) (ci := 4) (v := .int ((p4_spot vM) + (1 : Int32))) (ty := .int) (C := RX4) (T := TX4) (N := 21) hx hb hts hiX4 tyX4 tyX4_ok nmX4 hown hK hP hD hS 0 rfl rfl 16 (by decide) hgX4_165 (fun _ h9 => h9) rfl (by decide +kernel) rfl rfl (Nat.le_of_ble_eq_true rfl) dX4_isForm_18 (fun H locs hP hD hS => ?_)
    have hP : va_P (dC, dI) vwCl [k4_0 aM b20, k4_1 cI aM b20, k4_2 cI aM b20, k4_3 cI aM b20, k4_4 cI aM b20, k4_5 cJ aM b20, k4_6 cI aM b20, k4_7 cJ aM b20, k4_8 cJ aM b20, k4_9 cI aM b20] H := by rw [eb20]; exact hP
    have hD : va_D A [k4_0 aM b20, k4_1 cI aM b20, k4_2 cI aM b20, k4_3 cI aM b20, k4_4 cI aM b20, k4_5 cJ aM b20, k4_6 cI aM b20, k4_7 cJ aM b20, k4_8 cJ aM b20, k4_9 cI aM b20] := by rw [eb20]; exact hD
    refine lv_iload_n hx hb dX4_isForm_21 rfl (lv_at hl 0 rfl) ?_
    refine lv_if_gt (tgt := 34) hx hb dX4_isForm_22 (by decide) (fun c21 => ?_) (fun c21 => ?_)
    · have hf := oif_t c21 hf
      exact (hWW _ _ _ _ _ _ _).1 (J34 b20 i1 y18 H locs ls hP hD hS (lv_sub hl [1, 2, 0] rfl) hf)
    · have hf := oif_f c21 hf
      refine lv_aload_n hx hb dX4_isForm_25 rfl (lv_at hl 1 rfl) ?_
      refine lv_bipush (v := 59) hx hb dX4_isForm_26 (by decide) ?_
      obtain ⟨y22, hy22, hf⟩ := obind hf
      refine cg_i (ws := [k4_0 aM b20, k4_1 cI aM b20, k4_2 cI aM b20, k4_3 cI aM b20, k4_4 cI aM b20, k4_5 cJ aM b20, k4_6 cI aM b20, k4_7 cJ aM b20, k4_8 cJ aM b20, k4_9 cI aM b20]) (wc := [k4_0 aM b20, k4_1 cI aM b20, k4_2 cI aM b20, k4_3 cI aM b20, k4_4 cI aM b20, k4_5 cJ aM b20, k4_6 cI aM b20, k4_7 cJ aM b20, k4_8 cJ aM b20, k4_9 cI aM b20]) (wr := []) (w1 := [k4_0 aM y22.2, k4_1 cI aM y22.2, k4_2 cI aM y22.2, k4_3 cI aM y22.2, k4_4 cI aM y22.2, k4_5 cJ aM y22.2, k4_6 cI aM y22.2, k4_7 cJ aM y22.2, k4_8 cJ aM y22.2, k4_9 cI aM y22.2]) (wo := [k4_0 aM y22.2, k4_1 cI aM y22.2, k4_2 cI aM y22.2, k4_3 cI aM y22.2, k4_4 cI aM y22.2, k4_5 cJ aM y22.2, k4_6 cI aM y22.2, k4_7 cJ aM y22.2, k4_8 cJ aM y22.2, k4_9 cI aM y22.2]) hP hD hS hA (va_runV (As := [.int 59]) (rest := []) ⟨hx, hb, hml, hown, hts⟩ (mX4_passes l dC dI cI cJ aM H.size b20 (59 : Int32) y22 hy22) (cwV 1 hts gX4_isForm_X4_passes rfl rfl rfl (by decide +kernel) ⟨Nat.le_of_ble_eq_true rfl, Nat.le_of_ble_eq_true rfl⟩) ⟨cFB, va_recv hK hP (ci := 4) (q0 := 0) rfl rfl, cPre hK hN hS (va_free (wc := [k4_0 aM b20, k4_1 cI aM b20, k4_2 cI aM b20, k4_3 cI aM b20, k4_4 cI aM b20, k4_5 cJ aM b20, k4_6 cI aM b20, k4_7 cJ aM b20, k4_8 cJ aM b20, k4_9 cI aM b20]) hD hS hA [0, 1, 2, 3, 4, 5, 6, 7, 8, 9] rfl) (hP.sub [0, 1, 2, 3, 4, 5, 6, 7, 8, 9] rfl) (hD.sub [0, 1, 2, 3, 4, 5, 6, 7, 8, 9] rfl rfl)⟩ rfl rfl hl.1 rfl (lv_room (Nat.le_of_ble_eq_true rfl)) dX4_isForm_28 ⟨Nat.le_of_ble_eq_true rfl, Nat.le_of_ble_eq_true rfl⟩) [0, 1, 2, 3, 4, 5, 6, 7, 8, 9] [] [0, 1, 2, 3, 4, 5, 6, 7, 8, 9] rfl rfl rfl (by decide +kernel) rfl rfl (fun H locs hP hD hS => ?_)
      refine lv_if_eq (tgt := 38) hx hb dX4_isForm_31 (by decide) (fun c23 => ?_) (fun c23 => ?_)
      · have hf := oif_t c23 hf
        refine lv_iconst (v := 0) hx hb dX4_isForm_38 (by decide) ?_
        exact (hWW _ _ _ _ _ _ _).1 (J39 y22.2 i1 y18 (0 : Int32) H locs ls hP hD hS (lv_sub hl [1, 2, 0] rfl) hf)
      · have hf := oif_f c23 hf
        exact (hWW _ _ _ _ _ _ _).1 (J34 y22.2 i1 y18 H locs ls hP hD hS (lv_sub hl [1, 2, 0] rfl) hf)
  · have hf := oif_f c19 hf
    refine lv_iconst (v := 0) hx hb dX4_isForm_9 (by decide) ?_
    obtain rfl := Option.some.inj hf
    exact W.zret (v := 0) hx hb hr rfl (fun t ht hW => ⟨⟨0, (), rfl, rfl, by rw [ht]; exact hP, hD⟩, hS.F ht⟩) hS.2.2 dX4_isForm_10
def fX4_badNumber_152 (vM : BX4) : Option Int32 :=
  (fX4_isPlate vM ((p4_told vM) ((0 : Int32)).toNatClampNeg)).bind (fun y1 => if y1 = 0 then (some 0) else (if ((p4_told vM) ((1 : Int32)).toNatClampNeg) ≤ ((p4_s vM) ((0 : Int32)).toNatClampNeg) then (some (-1000004)) else (some 1)))
def fX4_badNumber_191 (vM : BX4) : Option Int32 :=
  (fX4_isPlate vM ((p4_told vM) ((0 : Int32)).toNatClampNeg)).bind (fun y4 => if y4 = 0 then (some 0) else (some (-1000004)))
def fX4_badNumber (vM : BX4) (i1 : Int32) : Option Int32 :=
  if i1 = 107 then ((fX4_isSpring vM ((p4_told vM) ((0 : Int32)).toNatClampNeg)).bind (fun y7 => if y7 = 0 then (some 0) else ((fX4_in ((p4_told vM) ((1 : Int32)).toNatClampNeg) (1 : Int32) (9 : Int32)).bind (fun y9 => if y9 = 0 then (some 1) else ((fX4_in ((p4_told vM) ((2 : Int32)).toNatClampNeg) (0 : Int32) (50 : Int32)).bind (fun y11 => if y11 = 0 then (some 2) else (some (-1000004)))))))) else (if i1 = 108 then (fX4_badNumber_152 vM) else (if i1 = 109 then (fX4_badNumber_191 vM) else (if i1 = 110 then (fX4_badNumber_191 vM) else (if i1 = 111 then (fX4_badNumber_191 vM) else (if i1 = 112 then (some (-1000004)) else (if i1 = 113 then (fX4_badNumber_191 vM) else (if i1 = 114 then (fX4_badNumber_152 vM) else (if i1 = 115 then (fX4_badNumber_191 vM) else (if i1 = 116 then (fX4_badNumber_191 vM) else (if i1 = 117 then (fX4_badNumber_191 vM) else (if i1 = 118 then (fX4_badNumber_191 vM) else (if i1 = 119 then ((fX4_in ((p4_told vM) ((0 : Int32)).toNatClampNeg) (10 : Int32) (99 : Int32)).bind (fun y25 => if y25 = 0 then (some 0) else (some (-1000004)))) else (fX4_badNumber_191 vM)))))))))))))
set_option maxHeartbeats 8000000 in
set_option maxRecDepth 100000 in
theorem mX4_badNumber (l : Launch) (dC : Nat → ClassId) (dI : Nat → Nat → Nat) (cI cJ : ClassId) (aM : Nat → Nat) (sz : Nat) (vM : BX4) (i1 : Int32) (y : Int32) (hf : fX4_badNumber vM i1 = some y) : Met l yX4_badNumber wsX4_badNumber ({ frames := 1, cells := 0, slots := 0, locals := 22 }) (cPc dC dI cI cJ [.ref (aM 0), .int i1] [k4_0 aM vM, k4_1 cI aM vM, k4_2 cI aM vM, k4_3 cI aM vM, k4_4 cI aM vM, k4_5 cJ aM vM, k4_6 cI aM vM, k4_7 cJ aM vM, k4_8 cJ aM vM, k4_9 cI aM vM] sz) (va_Qi (fun r (_ : Unit) => r = y) (fun _ t => cB dC dI (va_A [k4_0 aM vM, k4_1 cI aM vM, k4_2 cI aM vM, k4_3 cI aM vM, k4_4 cI aM vM, k4_5 cJ aM vM, k4_6 cI aM vM, k4_7 cJ aM vM, k4_8 cJ aM vM, k4_9 cI aM vM] sz) [k4_0 aM vM, k4_1 cI aM vM, k4_2 cI aM vM, k4_3 cI aM vM, k4_4 cI aM vM, k4_5 cJ aM vM, k4_6 cI aM vM, k4_7 cJ aM vM, k4_8 cJ aM vM, k4_9 cI aM vM] t) (va_A [k4_0 aM vM, k4_1 cI aM vM, k4_2 cI aM vM, k4_3 cI aM vM, k4_4 cI aM vM, k4_5 cJ aM vM, k4_6 cI aM vM, k4_7 cJ aM vM, k4_8 cJ aM vM, k4_9 cI aM vM] sz)) 0 0 (va_A [k4_0 aM vM, k4_1 cI aM vM, k4_2 cI aM vM, k4_3 cI aM vM, k4_4 cI aM vM, k4_5 cJ aM vM, k4_6 cI aM vM, k4_7 cJ aM vM, k4_8 cJ aM vM, k4_9 cI aM vM] sz) := by
  refine Met.ofW (cc := cX4_badNumber) (maxL := 2) (ret := (some .int)) (by decide) rfl ?_
  intro p e s m args below meth c s₁ B hml hv
  obtain ⟨rfl, hsz, hP, hK, hD0, hN⟩ := hv
  have hx := B.exec
  have hb := B.bytes
  have hr := B.returns
  have hts := atoms_spec (ws := wsX4_badNumber) B.pre
  have hown : s.vm.findClass RX4 = some m.cls := findClass_of_methodNamed B.named
  have hlocks := B.notSynchronized
  subst hsz
  have hD := hD0.self (sz := s.heap.size)
  generalize hAe : va_A [k4_0 aM vM, k4_1 cI aM vM, k4_2 cI aM vM, k4_3 cI aM vM, k4_4 cI aM vM, k4_5 cJ aM vM, k4_6 cI aM vM, k4_7 cJ aM vM, k4_8 cJ aM vM, k4_9 cI aM vM] s.heap.size = A at hD hN ⊢
  have hA : ∀ q : Nat, s.heap.size ≤ q → A q := fun q h => by rw [← hAe]; exact Or.inr h
  have hP : va_P (dC, dI) vwCl [k4_0 aM vM, k4_1 cI aM vM, k4_2 cI aM vM, k4_3 cI aM vM, k4_4 cI aM vM, k4_5 cJ aM vM, k4_6 cI aM vM, k4_7 cJ aM vM, k4_8 cJ aM vM, k4_9 cI aM vM] s.heap := hP
  have hl := lv_entry ([.ref (aM 0), .int i1]) (n := 2) (Nat.le_of_ble_eq_true rfl)
  rw [lg_entry_eq]
  generalize (lg_sl ([.ref (aM 0), .int i1]) ++ List.replicate (2 - (lg_sl ([.ref (aM 0), .int i1])).length) Slot.unset).toArray = ls at hl ⊢
  have hl : lv_has ls 2 [(0, .ref (aM 0)), (1, .int i1)] := hl
  have hiX4 : ∀ w ∈ u_ws RX4 TX4 21, w ∈ wsX4_badNumber := by decide +kernel
  have hgX4_35 := hts (.fieldLink RX4 35 "SpringPlatesModel" "told" "[I") (by decide +kernel)
  have hgX4_7 := hts (.fieldLink RX4 7 "SpringPlatesModel" "s" "[I") (by decide +kernel)
  have hc78 := hts (.constant RX4 78 (-1000004)) (by decide +kernel)
  refine nameH (fun H locs hHe hLe => ?_)
  have hP : va_P (dC, dI) vwCl [k4_0 aM vM, k4_1 cI aM vM, k4_2 cI aM vM, k4_3 cI aM vM, k4_4 cI aM vM, k4_5 cJ aM vM, k4_6 cI aM vM, k4_7 cJ aM vM, k4_8 cJ aM vM, k4_9 cI aM vM] H := by rw [hHe]; exact hP
  have hS : va_S A s.heap H locs := by rw [hHe, hLe]; exact va_S.rf
  refine withW (fun WW hWW => ?_)
  have J152 : ∀ (H : Heap) (locs : List Loc) (ls : Array Slot), va_P (dC, dI) vwCl [k4_0 aM vM, k4_1 cI aM vM, k4_2 cI aM vM, k4_3 cI aM vM, k4_4 cI aM vM, k4_5 cJ aM vM, k4_6 cI aM vM, k4_7 cJ aM vM, k4_8 cJ aM vM, k4_9 cI aM vM] H → va_D A [k4_0 aM vM, k4_1 cI aM vM, k4_2 cI aM vM, k4_3 cI aM vM, k4_4 cI aM vM, k4_5 cJ aM vM, k4_6 cI aM vM, k4_7 cJ aM vM, k4_8 cJ aM vM, k4_9 cI aM vM] → va_S A s.heap H locs → lv_has ls 2 [(0, .ref (aM 0))] → fX4_badNumber_152 vM = some y → WW H locs 0 0 ls 152 [] := by
    intro  H locs ls hP hD hS hl hf
    unfold fX4_badNumber_152 at hf
    refine (hWW _ _ _ _ _ _ _).2 ?_
    refine lv_aload_n hx hb dX4_badNumber_152 rfl (lv_at hl 0 rfl) ?_
    refine lv_aload_n hx hb dX4_badNumber_153 rfl (lv_at hl 0 rfl) ?_
    refine va_get (D := (dC, dI)) (ci := 4) (v := .ref (aM 9)) (C := RX4) (T := TX4) (N := 21) hx hb hts hiX4 hown hK hP 0 rfl rfl 20 (by decide) hgX4_35 (fun _ h9 => h9) rfl dX4_badNumber_154 ?_
    refine lv_iconst (v := 0) hx hb dX4_badNumber_157 (by decide) ?_
    refine va_iald hx hb hK hP 9 0 rfl rfl (vpc rfl) dX4_badNumber_158 ?_
    obtain ⟨y1, hy1, hf⟩ := obind hf
    refine cg_i (ws := [k4_0 aM vM, k4_1 cI aM vM, k4_2 cI aM vM, k4_3 cI aM vM, k4_4 cI aM vM, k4_5 cJ aM vM, k4_6 cI aM vM, k4_7 cJ aM vM, k4_8 cJ aM vM, k4_9 cI aM vM]) (wc := [k4_0 aM vM, k4_1 cI aM vM, k4_2 cI aM vM, k4_3 cI aM vM, k4_4 cI aM vM, k4_5 cJ aM vM, k4_6 cI aM vM, k4_7 cJ aM vM, k4_8 cJ aM vM, k4_9 cI aM vM]) (wr := []) (w1 := [k4_0 aM vM, k4_1 cI aM vM, k4_2 cI aM vM, k4_3 cI aM vM, k4_4 cI aM vM, k4_5 cJ aM vM, k4_6 cI aM vM, k4_7 cJ aM vM, k4_8 cJ aM vM, k4_9 cI aM vM]) (wo := [k4_0 aM vM, k4_1 cI aM vM, k4_2 cI aM vM, k4_3 cI aM vM, k4_4 cI aM vM, k4_5 cJ aM vM, k4_6 cI aM vM, k4_7 cJ aM vM, k4_8 cJ aM vM, k4_9 cI aM vM]) hP hD hS hA (va_runV (As := [.int ((p4_told vM) ((0 : Int32)).toNatClampNeg)]) (rest := []) ⟨hx, hb, hml, hown, hts⟩ (mX4_isPlate l dC dI cI cJ aM H.size vM ((p4_told vM) ((0 : Int32)).toNatClampNeg) y1 hy1) (cwV 1 hts gX4_badNumber_X4_isPlate rfl rfl rfl (by decide +kernel) ⟨Nat.le_of_ble_eq_true rfl, Nat.le_of_ble_eq_true rfl⟩) ⟨cFB, va_recv hK hP (ci := 4) (q0 := 0) rfl rfl, cPre hK hN hS (va_free (wc := [k4_0 aM vM, k4_1 cI aM vM, k4_2 cI aM vM, k4_3 cI aM vM, k4_4 cI aM vM, k4_5 cJ aM vM, k4_6 cI aM vM, k4_7 cJ aM vM, k4_8 cJ aM vM, k4_9 cI aM vM]) hD hS hA [0, 1, 2, 3, 4, 5, 6, 7, 8, 9] rfl) (hP.sub [0, 1, 2, 3, 4, 5, 6, 7, 8, 9] rfl) (hD.sub [0, 1, 2, 3, 4, 5, 6, 7, 8, 9] rfl rfl)⟩ rfl rfl hl.1 rfl (lv_room (Nat.le_of_ble_eq_true rfl)) dX4_badNumber_159 ⟨Nat.le_of_ble_eq_true rfl, Nat.le_of_ble_eq_true rfl⟩) [0, 1, 2, 3, 4, 5, 6, 7, 8, 9] [] [0, 1, 2, 3, 4, 5, 6, 7, 8, 9] rfl rfl rfl (by decide +kernel) rfl rfl (fun H locs hP hD hS => ?_)
    refine lv_if_ne (tgt := 169) hx hb dX4_badNumber_162 (by decide) (fun c2 => ?_) (fun c2 => ?_)
    · have hf := oif_f c2 hf
      refine lv_aload_n hx hb dX4_badNumber_169 rfl (lv_at hl 0 rfl) ?_
      refine va_get (D := (dC, dI)) (ci := 4) (v := .ref (aM 9)) (C := RX4) (T := TX4) (N := 21) hx hb hts hiX4 hown hK hP 0 rfl rfl 20 (by decide) hgX4_35 (fun _ h9 => h9) rfl dX4_badNumber_170 ?_
      refine lv_iconst (v := 1) hx hb dX4_badNumber_173 (by decide) ?_
      refine va_iald hx hb hK hP 9 0 rfl rfl (vpc rfl) dX4_badNumber_174 ?_
      refine lv_aload_n hx hb dX4_badNumber_175 rfl (lv_at hl 0 rfl) ?_
      refine va_get (D := (dC, dI)) (ci := 4) (v := .ref (aM 1)) (C := RX4) (T := TX4) (N := 21) hx hb hts hiX4 hown hK hP 0 rfl rfl 0 (by decide) hgX4_7 (fun _ h9 => h9) rfl dX4_badNumber_176 ?_
      refine lv_iconst (v := 0) hx hb dX4_badNumber_179 (by decide) ?_
      refine va_iald hx hb hK hP 1 0 rfl rfl (vpc rfl) dX4_badNumber_180 ?_
      refine lv_icmp_le (tgt := 188) hx hb dX4_badNumber_181 (by decide) (fun c3 => ?_) (fun c3 => ?_)
      · have hf := oif_t c3 hf
        refine lv_ldc (v := (-1000004)) hx hb hown hc78 dX4_badNumber_188 ?_
        obtain rfl := Option.some.inj hf
        exact W.iret (v := (-1000004)) hx hb hr (fun t ht hW => ⟨⟨(-1000004), (), rfl, rfl, by rw [ht]; exact hP, hD⟩, hS.F ht⟩) hS.2.2 dX4_badNumber_190
      · have hf := oif_f c3 hf
        refine lv_iconst (v := 1) hx hb dX4_badNumber_184 (by decide) ?_
        refine lv_goto (tgt := 190) hx hb dX4_badNumber_185 (by decide) ?_
        obtain rfl := Option.some.inj hf
        exact W.iret (v := 1) hx hb hr (fun t ht hW => ⟨⟨1, (), rfl, rfl, by rw [ht]; exact hP, hD⟩, hS.F ht⟩) hS.2.2 dX4_badNumber_190
    · have hf := oif_t c2 hf
      refine lv_iconst (v := 0) hx hb dX4_badNumber_165 (by decide) ?_
      refine lv_goto (tgt := 190) hx hb dX4_badNumber_166 (by decide) ?_
      obtain rfl := Option.some.inj hf
      exact W.iret (v := 0) hx hb hr (fun t ht hW => ⟨⟨0, (), rfl, rfl, by rw [ht]; exact hP, hD⟩, hS.F ht⟩) hS.2.2 dX4_badNumber_190
  have J191 : ∀ (H : Heap) (locs : List Loc) (ls : Array Slot), va_P (dC, dI) vwCl [k4_0 aM vM, k4_1 cI aM vM, k4_2 cI aM vM, k4_3 cI aM vM, k4_4 cI aM vM, k4_5 cJ aM vM, k4_6 cI aM vM, k4_7 cJ aM vM, k4_8 cJ aM vM, k4_9 cI aM vM] H → va_D A [k4_0 aM vM, k4_1 cI aM vM, k4_2 cI aM vM, k4_3 cI aM vM, k4_4 cI aM vM, k4_5 cJ aM vM, k4_6 cI aM vM, k4_7 cJ aM vM, k4_8 cJ aM vM, k4_9 cI aM vM] → va_S A s.heap H locs → lv_has ls 2 [(0, .ref (aM 0))] → fX4_badNumber_191 vM = some y → WW H locs 0 0 ls 191 [] := by
    intro  H locs ls hP hD hS hl hf
    unfold fX4_badNumber_191 at hf
    refine (hWW _ _ _ _ _ _ _).2 ?_
    refine lv_aload_n hx hb dX4_badNumber_191 rfl (lv_at hl 0 rfl) ?_
    refine lv_aload_n hx hb dX4_badNumber_192 rfl (lv_at hl 0 rfl) ?_
    refine va_get (D := (dC, dI)) (ci := 4) (v := .ref (aM 9)) (C := RX4) (T := TX4) (N := 21) hx hb hts hiX4 hown hK hP 0 rfl rfl 20 (by decide) hgX4_35 (fun _ h9 => h9) rfl dX4_badNumber_193 ?_
    refine lv_iconst (v := 0) hx hb dX4_badNumber_196 (by decide) ?_
    refine va_iald hx hb hK hP 9 0 rfl rfl (vpc rfl) dX4_badNumber_197 ?_
    obtain ⟨y4, hy4, hf⟩ := obind hf
    refine cg_i (ws := [k4_0 aM vM, k4_1 cI aM vM, k4_2 cI aM vM, k4_3 cI aM vM, k4_4 cI aM vM, k4_5 cJ aM vM, k4_6 cI aM vM, k4_7 cJ aM vM, k4_8 cJ aM vM, k4_9 cI aM vM]) (wc := [k4_0 aM vM, k4_1 cI aM vM, k4_2 cI aM vM, k4_3 cI aM vM, k4_4 cI aM vM, k4_5 cJ aM vM, k4_6 cI aM vM, k4_7 cJ aM vM, k4_8 cJ aM vM, k4_9 cI aM vM]) (wr := []) (w1 := [k4_0 aM vM, k4_1 cI aM vM, k4_2 cI aM vM, k4_3 cI aM vM, k4_4 cI aM vM, k4_5 cJ aM vM, k4_6 cI aM vM, k4_7 cJ aM vM, k4_8 cJ aM vM, k4_9 cI aM vM]) (wo := [k4_0 aM vM, k4_1 cI aM vM, k4_2 cI aM vM, k4_3 cI aM vM, k4_4 cI aM vM, k4_5 cJ aM vM, k4_6 cI aM vM, k4_7 cJ aM vM, k4_8 cJ aM vM, k4_9 cI aM vM]) hP hD hS hA (va_runV (As := [.int ((p4_told vM) ((0 : Int32)).toNatClampNeg)]) (rest := []) ⟨hx, hb, hml, hown, hts⟩ (mX4_isPlate l dC dI cI cJ aM H.size vM ((p4_told vM) ((0 : Int32)).toNatClampNeg) y4 hy4) (cwV 1 hts gX4_badNumber_X4_isPlate rfl rfl rfl (by decide +kernel) ⟨Nat.le_of_ble_eq_true rfl, Nat.le_of_ble_eq_true rfl⟩) ⟨cFB, va_recv hK hP (ci := 4) (q0 := 0) rfl rfl, cPre hK hN hS (va_free (wc := [k4_0 aM vM, k4_1 cI aM vM, k4_2 cI aM vM, k4_3 cI aM vM, k4_4 cI aM vM, k4_5 cJ aM vM, k4_6 cI aM vM, k4_7 cJ aM vM, k4_8 cJ aM vM, k4_9 cI aM vM]) hD hS hA [0, 1, 2, 3, 4, 5, 6, 7, 8, 9] rfl) (hP.sub [0, 1, 2, 3, 4, 5, 6, 7, 8, 9] rfl) (hD.sub [0, 1, 2, 3, 4, 5, 6, 7, 8, 9] rfl rfl)⟩ rfl rfl hl.1 rfl (lv_room (Nat.le_of_ble_eq_true rfl)) dX4_badNumber_198 ⟨Nat.le_of_ble_eq_true rfl, Nat.le_of_ble_eq_true rfl⟩) [0, 1, 2, 3, 4, 5, 6, 7, 8, 9] [] [0, 1, 2, 3, 4, 5, 6, 7, 8, 9] rfl rfl rfl (by decide +kernel) rfl rfl (fun H locs hP hD hS => ?_)
    refine lv_if_eq (tgt := 209) hx hb dX4_badNumber_201 (by decide) (fun c5 => ?_) (fun c5 => ?_)
    · have hf := oif_t c5 hf
      refine lv_iconst (v := 0) hx hb dX4_badNumber_209 (by decide) ?_
      obtain rfl := Option.some.inj hf
      exact W.iret (v := 0) hx hb hr (fun t ht hW => ⟨⟨0, (), rfl, rfl, by rw [ht]; exact hP, hD⟩, hS.F ht⟩) hS.2.2 dX4_badNumber_210
    · have hf := oif_f c5 hf
      refine lv_ldc (v := (-1000004)) hx hb hown hc78 dX4_badNumber_204 ?_
      refine lv_goto (tgt := 210) hx hb dX4_badNumber_206 (by decide) ?_
      obtain rfl := Option.some.inj hf
      exact W.iret (v := (-1000004)) hx hb hr (fun t ht hW => ⟨⟨(-1000004), (), rfl, rfl, by rw [ht]; exact hP, hD⟩, hS.F ht⟩) hS.2.2 dX4_badNumber_210
  refine (hWW _ _ _ _ _ _ _).2 ?_
  unfold fX4_badNumber at hf
  refine lv_iload_n hx hb dX4_badNumber_0 rfl (lv_at hl 1 rfl) ?_
  by_cases c6 : i1 = 107
  · have hf := oif_t c6 hf
    refine lv_tableIn (tgt := 94) hx hb dX4_badNumber_1 (by rw [c6]; decide) (by rw [c6]; decide) (by rw [c6]; rfl) (by decide) ?_
    refine lv_aload_n hx hb dX4_badNumber_94 rfl (lv_at hl 0 rfl) ?_
    refine lv_aload_n hx hb dX4_badNumber_95 rfl (lv_at hl 0 rfl) ?_
    refine va_get (D := (dC, dI)) (ci := 4) (v := .ref (aM 9)) (C := RX4) (T := TX4) (N := 21) hx hb hts hiX4 hown hK hP 0 rfl rfl 20 (by decide) hgX4_35 (fun _ h9 => h9) rfl dX4_badNumber_96 ?_
    refine lv_iconst (v := 0) hx hb dX4_badNumber_99 (by decide) ?_
    refine va_iald hx hb hK hP 9 0 rfl rfl (vpc rfl) dX4_badNumber_100 ?_
    obtain ⟨y7, hy7, hf⟩ := obind hf
    refine cg_i (ws := [k4_0 aM vM, k4_1 cI aM vM, k4_2 cI aM vM, k4_3 cI aM vM, k4_4 cI aM vM, k4_5 cJ aM vM, k4_6 cI aM vM, k4_7 cJ aM vM, k4_8 cJ aM vM, k4_9 cI aM vM]) (wc := [k4_0 aM vM, k4_1 cI aM vM, k4_2 cI aM vM, k4_3 cI aM vM, k4_4 cI aM vM, k4_5 cJ aM vM, k4_6 cI aM vM, k4_7 cJ aM vM, k4_8 cJ aM vM, k4_9 cI aM vM]) (wr := []) (w1 := [k4_0 aM vM, k4_1 cI aM vM, k4_2 cI aM vM, k4_3 cI aM vM, k4_4 cI aM vM, k4_5 cJ aM vM, k4_6 cI aM vM, k4_7 cJ aM vM, k4_8 cJ aM vM, k4_9 cI aM vM]) (wo := [k4_0 aM vM, k4_1 cI aM vM, k4_2 cI aM vM, k4_3 cI aM vM, k4_4 cI aM vM, k4_5 cJ aM vM, k4_6 cI aM vM, k4_7 cJ aM vM, k4_8 cJ aM vM, k4_9 cI aM vM]) hP hD hS hA (va_runV (As := [.int ((p4_told vM) ((0 : Int32)).toNatClampNeg)]) (rest := []) ⟨hx, hb, hml, hown, hts⟩ (mX4_isSpring l dC dI cI cJ aM H.size vM ((p4_told vM) ((0 : Int32)).toNatClampNeg) y7 hy7) (cwV 1 hts gX4_badNumber_X4_isSpring rfl rfl rfl (by decide +kernel) ⟨Nat.le_of_ble_eq_true rfl, Nat.le_of_ble_eq_true rfl⟩) ⟨cFB, va_recv hK hP (ci := 4) (q0 := 0) rfl rfl, cPre hK hN hS (va_free (wc := [k4_0 aM vM, k4_1 cI aM vM, k4_2 cI aM vM, k4_3 cI aM vM, k4_4 cI aM vM, k4_5 cJ aM vM, k4_6 cI aM vM, k4_7 cJ aM vM, k4_8 cJ aM vM, k4_9 cI aM vM]) hD hS hA [0, 1, 2, 3, 4, 5, 6, 7, 8, 9] rfl) (hP.sub [0, 1, 2, 3, 4, 5, 6, 7, 8, 9] rfl) (hD.sub [0, 1, 2, 3, 4, 5, 6, 7, 8, 9] rfl rfl)⟩ rfl rfl hl.1 rfl (lv_room (Nat.le_of_ble_eq_true rfl)) dX4_badNumber_101 ⟨Nat.le_of_ble_eq_true rfl, Nat.le_of_ble_eq_true rfl⟩) [0, 1, 2, 3, 4, 5, 6, 7, 8, 9] [] [0, 1, 2, 3, 4, 5, 6, 7, 8, 9] rfl rfl rfl (by decide +kernel) rfl rfl (fun H locs hP hD hS => ?_)
    refine lv_if_ne (tgt := 111) hx hb dX4_badNumber_104 (by decide) (fun c8 => ?_) (fun c8 => ?_)
    · have hf := oif_f c8 hf
      refine lv_aload_n hx hb dX4_badNumber_111 rfl (lv_at hl 0 rfl) ?_
      refine va_get (D := (dC, dI)) (ci := 4) (v := .ref (aM 9)) (C := RX4) (T := TX4) (N := 21) hx hb hts hiX4 hown hK hP 0 rfl rfl 20 (by decide) hgX4_35 (fun _ h9 => h9) rfl dX4_badNumber_112 ?_
      refine lv_iconst (v := 1) hx hb dX4_badNumber_115 (by decide) ?_
      refine va_iald hx hb hK hP 9 0 rfl rfl (vpc rfl) dX4_badNumber_116 ?_
      refine lv_iconst (v := 1) hx hb dX4_badNumber_117 (by decide) ?_
      refine lv_bipush (v := 9) hx hb dX4_badNumber_118 (by decide) ?_
      obtain ⟨y9, hy9, hf⟩ := obind hf
      refine cg_i (ws := [k4_0 aM vM, k4_1 cI aM vM, k4_2 cI aM vM, k4_3 cI aM vM, k4_4 cI aM vM, k4_5 cJ aM vM, k4_6 cI aM vM, k4_7 cJ aM vM, k4_8 cJ aM vM, k4_9 cI aM vM]) (wc := []) (wr := [k4_0 aM vM, k4_1 cI aM vM, k4_2 cI aM vM, k4_3 cI aM vM, k4_4 cI aM vM, k4_5 cJ aM vM, k4_6 cI aM vM, k4_7 cJ aM vM, k4_8 cJ aM vM, k4_9 cI aM vM]) (w1 := []) (wo := [k4_0 aM vM, k4_1 cI aM vM, k4_2 cI aM vM, k4_3 cI aM vM, k4_4 cI aM vM, k4_5 cJ aM vM, k4_6 cI aM vM, k4_7 cJ aM vM, k4_8 cJ aM vM, k4_9 cI aM vM]) hP hD hS hA (va_runS (As := [.int ((p4_told vM) ((1 : Int32)).toNatClampNeg), .int 1, .int 9]) (rest := []) ⟨hx, hb, hml, hown, hts⟩ (mX4_in l dC dI cI cJ  H.size ((p4_told vM) ((1 : Int32)).toNatClampNeg) (1 : Int32) (9 : Int32) y9 hy9) (va_cwS 3 hts gX4_badNumber_X4_in rfl rfl rfl (by decide +kernel) ⟨Nat.le_of_ble_eq_true rfl, Nat.le_of_ble_eq_true rfl⟩) ⟨cFB, cPre hK hN hS (va_free (wc := []) hD hS hA [] rfl) (hP.sub [] rfl) (hD.sub [] rfl rfl)⟩ rfl rfl hl.1 rfl (lv_room (Nat.le_of_ble_eq_true rfl)) dX4_badNumber_120 ⟨Nat.le_of_ble_eq_true rfl, Nat.le_of_ble_eq_true rfl⟩) [] [0, 1, 2, 3, 4, 5, 6, 7, 8, 9] [0, 1, 2, 3, 4, 5, 6, 7, 8, 9] rfl rfl rfl (by decide +kernel) rfl rfl (fun H locs hP hD hS => ?_)
      refine lv_if_ne (tgt := 130) hx hb dX4_badNumber_123 (by decide) (fun c10 => ?_) (fun c10 => ?_)
      · have hf := oif_f c10 hf
        refine lv_aload_n hx hb dX4_badNumber_130 rfl (lv_at hl 0 rfl) ?_
        refine va_get (D := (dC, dI)) (ci := 4) (v := .ref (aM 9)) (C := RX4) (T := TX4) (N := 21) hx hb hts hiX4 hown hK hP 0 rfl rfl 20 (by decide) hgX4_35 (fun _ h9 => h9) rfl dX4_badNumber_131 ?_
        refine lv_iconst (v := 2) hx hb dX4_badNumber_134 (by decide) ?_
        refine va_iald hx hb hK hP 9 0 rfl rfl (vpc rfl) dX4_badNumber_135 ?_
        refine lv_iconst (v := 0) hx hb dX4_badNumber_136 (by decide) ?_
        refine lv_bipush (v := 50) hx hb dX4_badNumber_137 (by decide) ?_
        obtain ⟨y11, hy11, hf⟩ := obind hf
        refine cg_i (ws := [k4_0 aM vM, k4_1 cI aM vM, k4_2 cI aM vM, k4_3 cI aM vM, k4_4 cI aM vM, k4_5 cJ aM vM, k4_6 cI aM vM, k4_7 cJ aM vM, k4_8 cJ aM vM, k4_9 cI aM vM]) (wc := []) (wr := [k4_0 aM vM, k4_1 cI aM vM, k4_2 cI aM vM, k4_3 cI aM vM, k4_4 cI aM vM, k4_5 cJ aM vM, k4_6 cI aM vM, k4_7 cJ aM vM, k4_8 cJ aM vM, k4_9 cI aM vM]) (w1 := []) (wo := [k4_0 aM vM, k4_1 cI aM vM, k4_2 cI aM vM, k4_3 cI aM vM, k4_4 cI aM vM, k4_5 cJ aM vM, k4_6 cI aM vM, k4_7 cJ aM vM, k4_8 cJ aM vM, k4_9 cI aM vM]) hP hD hS hA (va_runS (As := [.int ((p4_told vM) ((2 : Int32)).toNatClampNeg), .int 0, .int 50]) (rest := []) ⟨hx, hb, hml, hown, hts⟩ (mX4_in l dC dI cI cJ  H.size ((p4_told vM) ((2 : Int32)).toNatClampNeg) (0 : Int32) (50 : Int32) y11 hy11) (va_cwS 3 hts gX4_badNumber_X4_in rfl rfl rfl (by decide +kernel) ⟨Nat.le_of_ble_eq_true rfl, Nat.le_of_ble_eq_true rfl⟩) ⟨cFB, cPre hK hN hS (va_free (wc := []) hD hS hA [] rfl) (hP.sub [] rfl) (hD.sub [] rfl rfl)⟩ rfl rfl hl.1 rfl (lv_room (Nat.le_of_ble_eq_true rfl)) dX4_badNumber_139 ⟨Nat.le_of_ble_eq_true rfl, Nat.le_of_ble_eq_true rfl⟩) [] [0, 1, 2, 3, 4, 5, 6, 7, 8, 9] [0, 1, 2, 3, 4, 5, 6, 7, 8, 9] rfl rfl rfl (by decide +kernel) rfl rfl (fun H locs hP hD hS => ?_)
        refine lv_if_ne (tgt := 149) hx hb dX4_badNumber_142 (by decide) (fun c12 => ?_) (fun c12 => ?_)
        · have hf := oif_f c12 hf
          refine lv_ldc (v := (-1000004)) hx hb hown hc78 dX4_badNumber_149 ?_
          obtain rfl := Option.some.inj hf
          exact W.iret (v := (-1000004)) hx hb hr (fun t ht hW => ⟨⟨(-1000004), (), rfl, rfl, by rw [ht]; exact hP, hD⟩, hS.F ht⟩) hS.2.2 dX4_badNumber_151
        · have hf := oif_t c12 hf
          refine lv_iconst (v := 2) hx hb dX4_badNumber_145 (by decide) ?_
          refine lv_goto (tgt := 151) hx hb dX4_badNumber_146 (by decide) ?_
          obtain rfl := Option.some.inj hf
          exact W.iret (v := 2) hx hb hr (fun t ht hW => ⟨⟨2, (), rfl, rfl, by rw [ht]; exact hP, hD⟩, hS.F ht⟩) hS.2.2 dX4_badNumber_151
      · have hf := oif_t c10 hf
        refine lv_iconst (v := 1) hx hb dX4_badNumber_126 (by decide) ?_
        refine lv_goto (tgt := 151) hx hb dX4_badNumber_127 (by decide) ?_
        obtain rfl := Option.some.inj hf
        exact W.iret (v := 1) hx hb hr (fun t ht hW => ⟨⟨1, (), rfl, rfl, by rw [ht]; exact hP, hD⟩, hS.F ht⟩) hS.2.2 dX4_badNumber_151
    · have hf := oif_t c8 hf
      refine lv_iconst (v := 0) hx hb dX4_badNumber_107 (by decide) ?_
      refine lv_goto (tgt := 151) hx hb dX4_badNumber_108 (by decide) ?_
      obtain rfl := Option.some.inj hf
      exact W.iret (v := 0) hx hb hr (fun t ht hW => ⟨⟨0, (), rfl, rfl, by rw [ht]; exact hP, hD⟩, hS.F ht⟩) hS.2.2 dX4_badNumber_151
  · have hf := oif_f c6 hf
    by_cases c13 : i1 = 108
    · have hf := oif_t c13 hf
      refine lv_tableIn (tgt := 152) hx hb dX4_badNumber_1 (by rw [c13]; decide) (by rw [c13]; decide) (by rw [c13]; rfl) (by decide) ?_
      exact (hWW _ _ _ _ _ _ _).1 (J152  H locs ls hP hD hS (lv_sub hl [0] rfl) hf)
    · have hf := oif_f c13 hf
      by_cases c14 : i1 = 109
      · have hf := oif_t c14 hf
        refine lv_tableIn (tgt := 191) hx hb dX4_badNumber_1 (by rw [c14]; decide) (by rw [c14]; decide) (by rw [c14]; rfl) (by decide) ?_
        exact (hWW _ _ _ _ _ _ _).1 (J191  H locs ls hP hD hS (lv_sub hl [0] rfl) hf)
      · have hf := oif_f c14 hf
        by_cases c15 : i1 = 110
        · have hf := oif_t c15 hf
          refine lv_tableIn (tgt := 191) hx hb dX4_badNumber_1 (by rw [c15]; decide) (by rw [c15]; decide) (by rw [c15]; rfl) (by decide) ?_
          exact (hWW _ _ _ _ _ _ _).1 (J191  H locs ls hP hD hS (lv_sub hl [0] rfl) hf)
        · have hf := oif_f c15 hf
          by_cases c16 : i1 = 111
          · have hf := oif_t c16 hf
            refine lv_tableIn (tgt := 191) hx hb dX4_badNumber_1 (by rw [c16]; decide) (by rw [c16]; decide) (by rw [c16]; rfl) (by decide) ?_
            exact (hWW _ _ _ _ _ _ _).1 (J191  H locs ls hP hD hS (lv_sub hl [0] rfl) hf)
          · have hf := oif_f c16 hf
            by_cases c17 : i1 = 112
            · have hf := oif_t c17 hf
              refine lv_tableIn (tgt := 91) hx hb dX4_badNumber_1 (by rw [c17]; decide) (by rw [c17]; decide) (by rw [c17]; rfl) (by decide) ?_
              refine lv_ldc (v := (-1000004)) hx hb hown hc78 dX4_badNumber_91 ?_
              obtain rfl := Option.some.inj hf
              exact W.iret (v := (-1000004)) hx hb hr (fun t ht hW => ⟨⟨(-1000004), (), rfl, rfl, by rw [ht]; exact hP, hD⟩, hS.F ht⟩) hS.2.2 dX4_badNumber_93
            · have hf := oif_f c17 hf
              by_cases c18 : i1 = 113
              · have hf := oif_t c18 hf
                refine lv_tableIn (tgt := 191) hx hb dX4_badNumber_1 (by rw [c18]; decide) (by rw [c18]; decide) (by rw [c18]; rfl) (by decide) ?_
                exact (hWW _ _ _ _ _ _ _).1 (J191  H locs ls hP hD hS (lv_sub hl [0] rfl) hf)
              · have hf := oif_f c18 hf
                by_cases c19 : i1 = 114
                · have hf := oif_t c19 hf
                  refine lv_tableIn (tgt := 152) hx hb dX4_badNumber_1 (by rw [c19]; decide) (by rw [c19]; decide) (by rw [c19]; rfl) (by decide) ?_
                  exact (hWW _ _ _ _ _ _ _).1 (J152  H locs ls hP hD hS (lv_sub hl [0] rfl) hf)
                · have hf := oif_f c19 hf
                  by_cases c20 : i1 = 115
                  · have hf := oif_t c20 hf
                    refine lv_tableIn (tgt := 191) hx hb dX4_badNumber_1 (by rw [c20]; decide) (by rw [c20]; decide) (by rw [c20]; rfl) (by decide) ?_
                    exact (hWW _ _ _ _ _ _ _).1 (J191  H locs ls hP hD hS (lv_sub hl [0] rfl) hf)
                  · have hf := oif_f c20 hf
                    by_cases c21 : i1 = 116
                    · have hf := oif_t c21 hf
                      refine lv_tableIn (tgt := 191) hx hb dX4_badNumber_1 (by rw [c21]; decide) (by rw [c21]; decide) (by rw [c21]; rfl) (by decide) ?_
                      exact (hWW _ _ _ _ _ _ _).1 (J191  H locs ls hP hD hS (lv_sub hl [0] rfl) hf)
                    · have hf := oif_f c21 hf
                      by_cases c22 : i1 = 117
                      · have hf := oif_t c22 hf
                        refine lv_tableIn (tgt := 191) hx hb dX4_badNumber_1 (by rw [c22]; decide) (by rw [c22]; decide) (by rw [c22]; rfl) (by decide) ?_
                        exact (hWW _ _ _ _ _ _ _).1 (J191  H locs ls hP hD hS (lv_sub hl [0] rfl) hf)
                      · have hf := oif_f c22 hf
                        by_cases c23 : i1 = 118
                        · have hf := oif_t c23 hf
                          refine lv_tableIn (tgt := 191) hx hb dX4_badNumber_1 (by rw [c23]; decide) (by rw [c23]; decide) (by rw [c23]; rfl) (by decide) ?_
                          exact (hWW _ _ _ _ _ _ _).1 (J191  H locs ls hP hD hS (lv_sub hl [0] rfl) hf)
                        · have hf := oif_f c23 hf
                          by_cases c24 : i1 = 119
                          · have hf := oif_t c24 hf
                            refine lv_tableIn (tgt := 68) hx hb dX4_badNumber_1 (by rw [c24]; decide) (by rw [c24]; decide) (by rw [c24]; rfl) (by decide) ?_
                            refine lv_aload_n hx hb dX4_badNumber_68 rfl (lv_at hl 0 rfl) ?_
                            refine va_get (D := (dC, dI)) (ci := 4) (v := .ref (aM 9)) (C := RX4) (T := TX4) (N := 21) hx hb hts hiX4 hown hK hP 0 rfl rfl 20 (by decide) hgX4_35 (fun _ h9 => h9) rfl dX4_badNumber_69 ?_
                            refine lv_iconst (v := 0) hx hb dX4_badNumber_72 (by decide) ?_
                            refine va_iald hx hb hK hP 9 0 rfl rfl (vpc rfl) dX4_badNumber_73 ?_
                            refine lv_bipush (v := 10) hx hb dX4_badNumber_74 (by decide) ?_
                            refine lv_bipush (v := 99) hx hb dX4_badNumber_76 (by decide) ?_
                            obtain ⟨y25, hy25, hf⟩ := obind hf
                            refine cg_i (ws := [k4_0 aM vM, k4_1 cI aM vM, k4_2 cI aM vM, k4_3 cI aM vM, k4_4 cI aM vM, k4_5 cJ aM vM, k4_6 cI aM vM, k4_7 cJ aM vM, k4_8 cJ aM vM, k4_9 cI aM vM]) (wc := []) (wr := [k4_0 aM vM, k4_1 cI aM vM, k4_2 cI aM vM, k4_3 cI aM vM, k4_4 cI aM vM, k4_5 cJ aM vM, k4_6 cI aM vM, k4_7 cJ aM vM, k4_8 cJ aM vM, k4_9 cI aM vM]) (w1 := []) (wo := [k4_0 aM vM, k4_1 cI aM vM, k4_2 cI aM vM, k4_3 cI aM vM, k4_4 cI aM vM, k4_5 cJ aM vM, k4_6 cI aM vM, k4_7 cJ aM vM, k4_8 cJ aM vM, k4_9 cI aM vM]) hP hD hS hA (va_runS (As := [.int ((p4_told vM) ((0 : Int32)).toNatClampNeg), .int 10, .int 99]) (rest := []) ⟨hx, hb, hml, hown, hts⟩ (mX4_in l dC dI cI cJ  H.size ((p4_told vM) ((0 : Int32)).toNatClampNeg) (10 : Int32) (99 : Int32) y25 hy25) (va_cwS 3 hts gX4_badNumber_X4_in rfl rfl rfl (by decide +kernel) ⟨Nat.le_of_ble_eq_true rfl, Nat.le_of_ble_eq_true rfl⟩) ⟨cFB, cPre hK hN hS (va_free (wc := []) hD hS hA [] rfl) (hP.sub [] rfl) (hD.sub [] rfl rfl)⟩ rfl rfl hl.1 rfl (lv_room (Nat.le_of_ble_eq_true rfl)) dX4_badNumber_78 ⟨Nat.le_of_ble_eq_true rfl, Nat.le_of_ble_eq_true rfl⟩) [] [0, 1, 2, 3, 4, 5, 6, 7, 8, 9] [0, 1, 2, 3, 4, 5, 6, 7, 8, 9] rfl rfl rfl (by decide +kernel) rfl rfl (fun H locs hP hD hS => ?_)
                            refine lv_if_eq (tgt := 89) hx hb dX4_badNumber_81 (by decide) (fun c26 => ?_) (fun c26 => ?_)
                            · have hf := oif_t c26 hf
                              refine lv_iconst (v := 0) hx hb dX4_badNumber_89 (by decide) ?_
                              obtain rfl := Option.some.inj hf
                              exact W.iret (v := 0) hx hb hr (fun t ht hW => ⟨⟨0, (), rfl, rfl, by rw [ht]; exact hP, hD⟩, hS.F ht⟩) hS.2.2 dX4_badNumber_90
                            · have hf := oif_f c26 hf
                              refine lv_ldc (v := (-1000004)) hx hb hown hc78 dX4_badNumber_84 ?_
                              refine lv_goto (tgt := 90) hx hb dX4_badNumber_86 (by decide) ?_
                              obtain rfl := Option.some.inj hf
                              exact W.iret (v := (-1000004)) hx hb hr (fun t ht hW => ⟨⟨(-1000004), (), rfl, rfl, by rw [ht]; exact hP, hD⟩, hS.F ht⟩) hS.2.2 dX4_badNumber_90
                          · have hf := oif_f c24 hf
                            refine lv_tableOut (tgt := 191) hx hb dX4_badNumber_1 (by have t0 := toInt_ne (n := 107) rfl c6; have t1 := toInt_ne (n := 108) rfl c13; have t2 := toInt_ne (n := 109) rfl c14; have t3 := toInt_ne (n := 110) rfl c15; have t4 := toInt_ne (n := 111) rfl c16; have t5 := toInt_ne (n := 112) rfl c17; have t6 := toInt_ne (n := 113) rfl c18; have t7 := toInt_ne (n := 114) rfl c19; have t8 := toInt_ne (n := 115) rfl c20; have t9 := toInt_ne (n := 116) rfl c21; have t10 := toInt_ne (n := 117) rfl c22; have t11 := toInt_ne (n := 118) rfl c23; have t12 := toInt_ne (n := 119) rfl c24; omega) (by decide) ?_
                            exact (hWW _ _ _ _ _ _ _).1 (J191  H locs ls hP hD hS (lv_sub hl [0] rfl) hf)
def fX4_calls_180 (vM : BX4) : Option (Int32 × BX4) :=
  if inB ((16 : Int32) + ((p4_told vM) ((0 : Int32)).toNatClampNeg)) 24 = true then (elet (s4_s vM (upd (p4_s vM) (((16 : Int32) + ((p4_told vM) ((0 : Int32)).toNatClampNeg))).toNatClampNeg (-1))) (fun b2 => if inB ((20 : Int32) + ((p4_told b2) ((0 : Int32)).toNatClampNeg)) 24 = true then (elet (s4_s b2 (upd (p4_s b2) (((20 : Int32) + ((p4_told b2) ((0 : Int32)).toNatClampNeg))).toNatClampNeg (-1))) (fun b4 => some (0, b4))) else none)) else none
def fX4_calls (vM : BX4) (i1 : Int32) : Option (Int32 × BX4) :=
  if i1 = 102 then ((fX4_load vM ((p4_told vM) ((0 : Int32)).toNatClampNeg) ((p4_told vM) ((1 : Int32)).toNatClampNeg)).bind (fun y6 => some (y6.1, y6.2))) else (if i1 = 103 then (fX4_calls_180 vM) else (if i1 = 104 then (fX4_calls_180 vM) else (if i1 = 105 then (fX4_calls_180 vM) else (if i1 = 106 then (fX4_calls_180 vM) else (if i1 = 107 then ((fX4_spring vM ((p4_told vM) ((0 : Int32)).toNatClampNeg) ((p4_told vM) ((1 : Int32)).toNatClampNeg) ((p4_told vM) ((2 : Int32)).toNatClampNeg)).bind (fun y12 => some (y12.1, y12.2))) else (if i1 = 108 then ((fX4_stop vM ((p4_told vM) ((0 : Int32)).toNatClampNeg) (0 : Int32) ((p4_told vM) ((1 : Int32)).toNatClampNeg)).bind (fun y14 => some (y14.1, y14.2))) else (if i1 = 109 then (fX4_calls_180 vM) else (if i1 = 110 then (fX4_calls_180 vM) else (if i1 = 111 then (fX4_calls_180 vM) else (if i1 = 112 then ((fX4_plate vM).bind (fun y19 => some (y19.1, y19.2))) else (if i1 = 113 then (fX4_calls_180 vM) else (if i1 = 114 then ((fX4_stop vM ((p4_told vM) ((0 : Int32)).toNatClampNeg) (1 : Int32) ((p4_told vM) ((1 : Int32)).toNatClampNeg)).bind (fun y22 => some (y22.1, y22.2))) else (if i1 = 115 then (fX4_calls_180 vM) else (if i1 = 116 then (fX4_calls_180 vM) else (if i1 = 117 then (fX4_calls_180 vM) else (if i1 = 118 then (fX4_calls_180 vM) else (if i1 = 119 then ((fX4_width vM ((p4_told vM) ((0 : Int32)).toNatClampNeg)).bind (fun y28 => some (y28.1, y28.2))) else (fX4_calls_180 vM))))))))))))))))))
set_option maxHeartbeats 8000000 in
set_option maxRecDepth 100000 in
theorem mX4_calls (l : Launch) (dC : Nat → ClassId) (dI : Nat → Nat → Nat) (cI cJ : ClassId) (aM : Nat → Nat) (sz : Nat) (vM : BX4) (i1 : Int32) (y : (Int32 × BX4)) (hf : fX4_calls vM i1 = some y) : Met l yX4_calls wsX4_calls ({ frames := 3, cells := 0, slots := 0, locals := 70 }) (cPc dC dI cI cJ [.ref (aM 0), .int i1] [k4_0 aM vM, k4_1 cI aM vM, k4_2 cI aM vM, k4_3 cI aM vM, k4_4 cI aM vM, k4_5 cJ aM vM, k4_6 cI aM vM, k4_7 cJ aM vM, k4_8 cJ aM vM, k4_9 cI aM vM] sz) (va_Qi (fun r (_ : Unit) => r = y.1) (fun _ t => cB dC dI (va_A [k4_0 aM vM, k4_1 cI aM vM, k4_2 cI aM vM, k4_3 cI aM vM, k4_4 cI aM vM, k4_5 cJ aM vM, k4_6 cI aM vM, k4_7 cJ aM vM, k4_8 cJ aM vM, k4_9 cI aM vM] sz) [k4_0 aM y.2, k4_1 cI aM y.2, k4_2 cI aM y.2, k4_3 cI aM y.2, k4_4 cI aM y.2, k4_5 cJ aM y.2, k4_6 cI aM y.2, k4_7 cJ aM y.2, k4_8 cJ aM y.2, k4_9 cI aM y.2] t) (va_A [k4_0 aM vM, k4_1 cI aM vM, k4_2 cI aM vM, k4_3 cI aM vM, k4_4 cI aM vM, k4_5 cJ aM vM, k4_6 cI aM vM, k4_7 cJ aM vM, k4_8 cJ aM vM, k4_9 cI aM vM] sz)) 0 0 (va_A [k4_0 aM vM, k4_1 cI aM vM, k4_2 cI aM vM, k4_3 cI aM vM, k4_4 cI aM vM, k4_5 cJ aM vM, k4_6 cI aM vM, k4_7 cJ aM vM, k4_8 cJ aM vM, k4_9 cI aM vM] sz) := by
  refine Met.ofW (cc := cX4_calls) (maxL := 2) (ret := (some .int)) (by decide) rfl ?_
  intro p e s m args below meth c s₁ B hml hv
  obtain ⟨rfl, hsz, hP, hK, hD0, hN⟩ := hv
  have hx := B.exec
  have hb := B.bytes
  have hr := B.returns
  have hts := atoms_spec (ws := wsX4_calls) B.pre
  have hown : s.vm.findClass RX4 = some m.cls := findClass_of_methodNamed B.named
  have hlocks := B.notSynchronized
  subst hsz
  have hD := hD0.self (sz := s.heap.size)
  generalize hAe : va_A [k4_0 aM vM, k4_1 cI aM vM, k4_2 cI aM vM, k4_3 cI aM vM, k4_4 cI aM vM, k4_5 cJ aM vM, k4_6 cI aM vM, k4_7 cJ aM vM, k4_8 cJ aM vM, k4_9 cI aM vM] s.heap.size = A at hD hN ⊢
  have hA : ∀ q : Nat, s.heap.size ≤ q → A q := fun q h => by rw [← hAe]; exact Or.inr h
  have hP : va_P (dC, dI) vwCl [k4_0 aM vM, k4_1 cI aM vM, k4_2 cI aM vM, k4_3 cI aM vM, k4_4 cI aM vM, k4_5 cJ aM vM, k4_6 cI aM vM, k4_7 cJ aM vM, k4_8 cJ aM vM, k4_9 cI aM vM] s.heap := hP
  have hl := lv_entry ([.ref (aM 0), .int i1]) (n := 2) (Nat.le_of_ble_eq_true rfl)
  rw [lg_entry_eq]
  generalize (lg_sl ([.ref (aM 0), .int i1]) ++ List.replicate (2 - (lg_sl ([.ref (aM 0), .int i1])).length) Slot.unset).toArray = ls at hl ⊢
  have hl : lv_has ls 2 [(0, .ref (aM 0)), (1, .int i1)] := hl
  have hiX4 : ∀ w ∈ u_ws RX4 TX4 21, w ∈ wsX4_calls := by decide +kernel
  have hgX4_7 := hts (.fieldLink RX4 7 "SpringPlatesModel" "s" "[I") (by decide +kernel)
  have hgX4_35 := hts (.fieldLink RX4 35 "SpringPlatesModel" "told" "[I") (by decide +kernel)
  refine nameH (fun H locs hHe hLe => ?_)
  have hP : va_P (dC, dI) vwCl [k4_0 aM vM, k4_1 cI aM vM, k4_2 cI aM vM, k4_3 cI aM vM, k4_4 cI aM vM, k4_5 cJ aM vM, k4_6 cI aM vM, k4_7 cJ aM vM, k4_8 cJ aM vM, k4_9 cI aM vM] H := by rw [hHe]; exact hP
  have hS : va_S A s.heap H locs := by rw [hHe, hLe]; exact va_S.rf
  refine withW (fun WW hWW => ?_)
  have J180 : ∀ (vM : BX4) (H : Heap) (locs : List Loc) (ls : Array Slot), va_P (dC, dI) vwCl [k4_0 aM vM, k4_1 cI aM vM, k4_2 cI aM vM, k4_3 cI aM vM, k4_4 cI aM vM, k4_5 cJ aM vM, k4_6 cI aM vM, k4_7 cJ aM vM, k4_8 cJ aM vM, k4_9 cI aM vM] H → va_D A [k4_0 aM vM, k4_1 cI aM vM, k4_2 cI aM vM, k4_3 cI aM vM, k4_4 cI aM vM, k4_5 cJ aM vM, k4_6 cI aM vM, k4_7 cJ aM vM, k4_8 cJ aM vM, k4_9 cI aM vM] → va_S A s.heap H locs → lv_has ls 2 [(0, .ref (aM 0))] → fX4_calls_180 vM = some y → WW H locs 0 0 ls 180 [] := by
    intro vM H locs ls hP hD hS hl hf
    unfold fX4_calls_180 at hf
    refine (hWW _ _ _ _ _ _ _).2 ?_
    refine lv_aload_n hx hb dX4_calls_180 rfl (lv_at hl 0 rfl) ?_
    refine va_get (D := (dC, dI)) (ci := 4) (v := .ref (aM 1)) (C := RX4) (T := TX4) (N := 21) hx hb hts hiX4 hown hK hP 0 rfl rfl 0 (by decide) hgX4_7 (fun _ h9 => h9) rfl dX4_calls_181 ?_
    refine lv_bipush (v := 16) hx hb dX4_calls_184 (by decide) ?_
    refine lv_aload_n hx hb dX4_calls_186 rfl (lv_at hl 0 rfl) ?_
    refine va_get (D := (dC, dI)) (ci := 4) (v := .ref (aM 9)) (C := RX4) (T := TX4) (N := 21) hx hb hts hiX4 hown hK hP 0 rfl rfl 20 (by decide) hgX4_35 (fun _ h9 => h9) rfl dX4_calls_187 ?_
    refine lv_iconst (v := 0) hx hb dX4_calls_190 (by decide) ?_
    refine va_iald hx hb hK hP 9 0 rfl rfl (vpc rfl) dX4_calls_191 ?_
    refine lv_iadd hx hb dX4_calls_192 ?_
    refine lv_iconst (v := (-1)) hx hb dX4_calls_193 (by decide) ?_
    obtain ⟨hi1, hf⟩ := oinb rfl hf
    obtain ⟨b2, eb2, hf⟩ := elet_out hf
    refine va_iast hx hb hK hP hD hS 1 0 rfl rfl hi1 dX4_calls_194 (fun H locs hP hD hS => ?_)
    have hP : va_P (dC, dI) vwCl [k4_0 aM b2, k4_1 cI aM b2, k4_2 cI aM b2, k4_3 cI aM b2, k4_4 cI aM b2, k4_5 cJ aM b2, k4_6 cI aM b2, k4_7 cJ aM b2, k4_8 cJ aM b2, k4_9 cI aM b2] H := by rw [eb2]; exact hP
    have hD : va_D A [k4_0 aM b2, k4_1 cI aM b2, k4_2 cI aM b2, k4_3 cI aM b2, k4_4 cI aM b2, k4_5 cJ aM b2, k4_6 cI aM b2, k4_7 cJ aM b2, k4_8 cJ aM b2, k4_9 cI aM b2] := by rw [eb2]; exact hD
    refine lv_aload_n hx hb dX4_calls_195 rfl (lv_at hl 0 rfl) ?_
    refine va_get (D := (dC, dI)) (ci := 4) (v := .ref (aM 1)) (C := RX4) (T := TX4) (N := 21) hx hb hts hiX4 hown hK hP 0 rfl rfl 0 (by decide) hgX4_7 (fun _ h9 => h9) rfl dX4_calls_196 ?_
    refine lv_bipush (v := 20) hx hb dX4_calls_199 (by decide) ?_
    refine lv_aload_n hx hb dX4_calls_201 rfl (lv_at hl 0 rfl) ?_
    refine va_get (D := (dC, dI)) (ci := 4) (v := .ref (aM 9)) (C := RX4) (T := TX4) (N := 21) hx hb hts hiX4 hown hK hP 0 rfl rfl 20 (by decide) hgX4_35 (fun _ h9 => h9) rfl dX4_calls_202 ?_
    refine lv_iconst (v := 0) hx hb dX4_calls_205 (by decide) ?_
    refine va_iald hx hb hK hP 9 0 rfl rfl (vpc rfl) dX4_calls_206 ?_
    refine lv_iadd hx hb dX4_calls_207 ?_
    refine lv_iconst (v := (-1)) hx hb dX4_calls_208 (by decide) ?_
    obtain ⟨hi3, hf⟩ := oinb rfl hf
    obtain ⟨b4, eb4, hf⟩ := elet_out hf
    refine va_iast hx hb hK hP hD hS 1 0 rfl rfl hi3 dX4_calls_209 (fun H locs hP hD hS => ?_)
    have hP : va_P (dC, dI) vwCl [k4_0 aM b4, k4_1 cI aM b4, k4_2 cI aM b4, k4_3 cI aM b4, k4_4 cI aM b4, k4_5 cJ aM b4, k4_6 cI aM b4, k4_7 cJ aM b4, k4_8 cJ aM b4, k4_9 cI aM b4] H := by rw [eb4]; exact hP
    have hD : va_D A [k4_0 aM b4, k4_1 cI aM b4, k4_2 cI aM b4, k4_3 cI aM b4, k4_4 cI aM b4, k4_5 cJ aM b4, k4_6 cI aM b4, k4_7 cJ aM b4, k4_8 cJ aM b4, k4_9 cI aM b4] := by rw [eb4]; exact hD
    refine lv_iconst (v := 0) hx hb dX4_calls_210 (by decide) ?_
    obtain rfl := Option.some.inj hf
    exact W.iret (v := 0) hx hb hr (fun t ht hW => ⟨⟨0, (), rfl, rfl, by rw [ht]; exact hP, hD⟩, hS.F ht⟩) hS.2.2 dX4_calls_211
  refine (hWW _ _ _ _ _ _ _).2 ?_
  unfold fX4_calls at hf
  refine lv_iload_n hx hb dX4_calls_0 rfl (lv_at hl 1 rfl) ?_
  by_cases c5 : i1 = 102
  · have hf := oif_t c5 hf
    refine lv_tableIn (tgt := 127) hx hb dX4_calls_1 (by rw [c5]; decide) (by rw [c5]; decide) (by rw [c5]; rfl) (by decide) ?_
    refine lv_aload_n hx hb dX4_calls_127 rfl (lv_at hl 0 rfl) ?_
    refine lv_aload_n hx hb dX4_calls_128 rfl (lv_at hl 0 rfl) ?_
    refine va_get (D := (dC, dI)) (ci := 4) (v := .ref (aM 9)) (C := RX4) (T := TX4) (N := 21) hx hb hts hiX4 hown hK hP 0 rfl rfl 20 (by decide) hgX4_35 (fun _ h9 => h9) rfl dX4_calls_129 ?_
    refine lv_iconst (v := 0) hx hb dX4_calls_132 (by decide) ?_
    refine va_iald hx hb hK hP 9 0 rfl rfl (vpc rfl) dX4_calls_133 ?_
    refine lv_aload_n hx hb dX4_calls_134 rfl (lv_at hl 0 rfl) ?_
    refine va_get (D := (dC, dI)) (ci := 4) (v := .ref (aM 9)) (C := RX4) (T := TX4) (N := 21) hx hb hts hiX4 hown hK hP 0 rfl rfl 20 (by decide) hgX4_35 (fun _ h9 => h9) rfl dX4_calls_135 ?_
    refine lv_iconst (v := 1) hx hb dX4_calls_138 (by decide) ?_
    refine va_iald hx hb hK hP 9 0 rfl rfl (vpc rfl) dX4_calls_139 ?_
    obtain ⟨y6, hy6, hf⟩ := obind hf
    refine cg_i (ws := [k4_0 aM vM, k4_1 cI aM vM, k4_2 cI aM vM, k4_3 cI aM vM, k4_4 cI aM vM, k4_5 cJ aM vM, k4_6 cI aM vM, k4_7 cJ aM vM, k4_8 cJ aM vM, k4_9 cI aM vM]) (wc := [k4_0 aM vM, k4_1 cI aM vM, k4_2 cI aM vM, k4_3 cI aM vM, k4_4 cI aM vM, k4_5 cJ aM vM, k4_6 cI aM vM, k4_7 cJ aM vM, k4_8 cJ aM vM, k4_9 cI aM vM]) (wr := []) (w1 := [k4_0 aM y6.2, k4_1 cI aM y6.2, k4_2 cI aM y6.2, k4_3 cI aM y6.2, k4_4 cI aM y6.2, k4_5 cJ aM y6.2, k4_6 cI aM y6.2, k4_7 cJ aM y6.2, k4_8 cJ aM y6.2, k4_9 cI aM y6.2]) (wo := [k4_0 aM y6.2, k4_1 cI aM y6.2, k4_2 cI aM y6.2, k4_3 cI aM y6.2, k4_4 cI aM y6.2, k4_5 cJ aM y6.2, k4_6 cI aM y6.2, k4_7 cJ aM y6.2, k4_8 cJ aM y6.2, k4_9 cI aM y6.2]) hP hD hS hA (va_runV (As := [.int ((p4_told vM) ((0 : Int32)).toNatClampNeg), .int ((p4_told vM) ((1 : Int32)).toNatClampNeg)]) (rest := []) ⟨hx, hb, hml, hown, hts⟩ (mX4_load l dC dI cI cJ aM H.size vM ((p4_told vM) ((0 : Int32)).toNatClampNeg) ((p4_told vM) ((1 : Int32)).toNatClampNeg) y6 hy6) (cwV 2 hts gX4_calls_X4_load rfl rfl rfl (by decide +kernel) ⟨Nat.le_of_ble_eq_true rfl, Nat.le_of_ble_eq_true rfl⟩) ⟨cFB, va_recv hK hP (ci := 4) (q0 := 0) rfl rfl, cPre hK hN hS (va_free (wc := [k4_0 aM vM, k4_1 cI aM vM, k4_2 cI aM vM, k4_3 cI aM vM, k4_4 cI aM vM, k4_5 cJ aM vM, k4_6 cI aM vM, k4_7 cJ aM vM, k4_8 cJ aM vM, k4_9 cI aM vM]) hD hS hA [0, 1, 2, 3, 4, 5, 6, 7, 8, 9] rfl) (hP.sub [0, 1, 2, 3, 4, 5, 6, 7, 8, 9] rfl) (hD.sub [0, 1, 2, 3, 4, 5, 6, 7, 8, 9] rfl rfl)⟩ rfl rfl hl.1 rfl (lv_room (Nat.le_of_ble_eq_true rfl)) dX4_calls_140 ⟨Nat.le_of_ble_eq_true rfl, Nat.le_of_ble_eq_true rfl⟩) [0, 1, 2, 3, 4, 5, 6, 7, 8, 9] [] [0, 1, 2, 3, 4, 5, 6, 7, 8, 9] rfl rfl rfl (by decide +kernel) rfl rfl (fun H locs hP hD hS => ?_)
    obtain rfl := Option.some.inj hf
    exact W.iret (v := y6.1) hx hb hr (fun t ht hW => ⟨⟨y6.1, (), rfl, rfl, by rw [ht]; exact hP, hD⟩, hS.F ht⟩) hS.2.2 dX4_calls_143
  · have hf := oif_f c5 hf
    by_cases c7 : i1 = 103
    · have hf := oif_t c7 hf
      refine lv_tableIn (tgt := 180) hx hb dX4_calls_1 (by rw [c7]; decide) (by rw [c7]; decide) (by rw [c7]; rfl) (by decide) ?_
      exact (hWW _ _ _ _ _ _ _).1 (J180 vM H locs ls hP hD hS (lv_sub hl [0] rfl) hf)
    · have hf := oif_f c7 hf
      by_cases c8 : i1 = 104
      · have hf := oif_t c8 hf
        refine lv_tableIn (tgt := 180) hx hb dX4_calls_1 (by rw [c8]; decide) (by rw [c8]; decide) (by rw [c8]; rfl) (by decide) ?_
        exact (hWW _ _ _ _ _ _ _).1 (J180 vM H locs ls hP hD hS (lv_sub hl [0] rfl) hf)
      · have hf := oif_f c8 hf
        by_cases c9 : i1 = 105
        · have hf := oif_t c9 hf
          refine lv_tableIn (tgt := 180) hx hb dX4_calls_1 (by rw [c9]; decide) (by rw [c9]; decide) (by rw [c9]; rfl) (by decide) ?_
          exact (hWW _ _ _ _ _ _ _).1 (J180 vM H locs ls hP hD hS (lv_sub hl [0] rfl) hf)
        · have hf := oif_f c9 hf
          by_cases c10 : i1 = 106
          · have hf := oif_t c10 hf
            refine lv_tableIn (tgt := 180) hx hb dX4_calls_1 (by rw [c10]; decide) (by rw [c10]; decide) (by rw [c10]; rfl) (by decide) ?_
            exact (hWW _ _ _ _ _ _ _).1 (J180 vM H locs ls hP hD hS (lv_sub hl [0] rfl) hf)
          · have hf := oif_f c10 hf
            by_cases c11 : i1 = 107
            · have hf := oif_t c11 hf
              refine lv_tableIn (tgt := 104) hx hb dX4_calls_1 (by rw [c11]; decide) (by rw [c11]; decide) (by rw [c11]; rfl) (by decide) ?_
              refine lv_aload_n hx hb dX4_calls_104 rfl (lv_at hl 0 rfl) ?_
              refine lv_aload_n hx hb dX4_calls_105 rfl (lv_at hl 0 rfl) ?_
              refine va_get (D := (dC, dI)) (ci := 4) (v := .ref (aM 9)) (C := RX4) (T := TX4) (N := 21) hx hb hts hiX4 hown hK hP 0 rfl rfl 20 (by decide) hgX4_35 (fun _ h9 => h9) rfl dX4_calls_106 ?_
              refine lv_iconst (v := 0) hx hb dX4_calls_109 (by decide) ?_
              refine va_iald hx hb hK hP 9 0 rfl rfl (vpc rfl) dX4_calls_110 ?_
              refine lv_aload_n hx hb dX4_calls_111 rfl (lv_at hl 0 rfl) ?_
              refine va_get (D := (dC, dI)) (ci := 4) (v := .ref (aM 9)) (C := RX4) (T := TX4) (N := 21) hx hb hts hiX4 hown hK hP 0 rfl rfl 20 (by decide) hgX4_35 (fun _ h9 => h9) rfl dX4_calls_112 ?_
              refine lv_iconst (v := 1) hx hb dX4_calls_115 (by decide) ?_
              refine va_iald hx hb hK hP 9 0 rfl rfl (vpc rfl) dX4_calls_116 ?_
              refine lv_aload_n hx hb dX4_calls_117 rfl (lv_at hl 0 rfl) ?_
              refine va_get (D := (dC, dI)) (ci := 4) (v := .ref (aM 9)) (C := RX4) (T := TX4) (N := 21) hx hb hts hiX4 hown hK hP 0 rfl rfl 20 (by decide) hgX4_35 (fun _ h9 => h9) rfl dX4_calls_118 ?_
              refine lv_iconst (v := 2) hx hb dX4_calls_121 (by decide) ?_
              refine va_iald hx hb hK hP 9 0 rfl rfl (vpc rfl) dX4_calls_122 ?_
              obtain ⟨y12, hy12, hf⟩ := obind hf
              refine cg_i (ws := [k4_0 aM vM, k4_1 cI aM vM, k4_2 cI aM vM, k4_3 cI aM vM, k4_4 cI aM vM, k4_5 cJ aM vM, k4_6 cI aM vM, k4_7 cJ aM vM, k4_8 cJ aM vM, k4_9 cI aM vM]) (wc := [k4_0 aM vM, k4_1 cI aM vM, k4_2 cI aM vM, k4_3 cI aM vM, k4_4 cI aM vM, k4_5 cJ aM vM, k4_6 cI aM vM, k4_7 cJ aM vM, k4_8 cJ aM vM, k4_9 cI aM vM]) (wr := []) (w1 := [k4_0 aM y12.2, k4_1 cI aM y12.2, k4_2 cI aM y12.2, k4_3 cI aM y12.2, k4_4 cI aM y12.2, k4_5 cJ aM y12.2, k4_6 cI aM y12.2, k4_7 cJ aM y12.2, k4_8 cJ aM y12.2, k4_9 cI aM y12.2]) (wo := [k4_0 aM y12.2, k4_1 cI aM y12.2, k4_2 cI aM y12.2, k4_3 cI aM y12.2, k4_4 cI aM y12.2, k4_5 cJ aM y12.2, k4_6 cI aM y12.2, k4_7 cJ aM y12.2, k4_8 cJ aM y12.2, k4_9 cI aM y12.2]) hP hD hS hA (va_runV (As := [.int ((p4_told vM) ((0 : Int32)).toNatClampNeg), .int ((p4_told vM) ((1 : Int32)).toNatClampNeg), .int ((p4_told vM) ((2 : Int32)).toNatClampNeg)]) (rest := []) ⟨hx, hb, hml, hown, hts⟩ (mX4_spring l dC dI cI cJ aM H.size vM ((p4_told vM) ((0 : Int32)).toNatClampNeg) ((p4_told vM) ((1 : Int32)).toNatClampNeg) ((p4_told vM) ((2 : Int32)).toNatClampNeg) y12 hy12) (cwV 3 hts gX4_calls_X4_spring rfl rfl rfl (by decide +kernel) ⟨Nat.le_of_ble_eq_true rfl, Nat.le_of_ble_eq_true rfl⟩) ⟨cFB, va_recv hK hP (ci := 4) (q0 := 0) rfl rfl, cPre hK hN hS (va_free (wc := [k4_0 aM vM, k4_1 cI aM vM, k4_2 cI aM vM, k4_3 cI aM vM, k4_4 cI aM vM, k4_5 cJ aM vM, k4_6 cI aM vM, k4_7 cJ aM vM, k4_8 cJ aM vM, k4_9 cI aM vM]) hD hS hA [0, 1, 2, 3, 4, 5, 6, 7, 8, 9] rfl) (hP.sub [0, 1, 2, 3, 4, 5, 6, 7, 8, 9] rfl) (hD.sub [0, 1, 2, 3, 4, 5, 6, 7, 8, 9] rfl rfl)⟩ rfl rfl hl.1 rfl (lv_room (Nat.le_of_ble_eq_true rfl)) dX4_calls_123 ⟨Nat.le_of_ble_eq_true rfl, Nat.le_of_ble_eq_true rfl⟩) [0, 1, 2, 3, 4, 5, 6, 7, 8, 9] [] [0, 1, 2, 3, 4, 5, 6, 7, 8, 9] rfl rfl rfl (by decide +kernel) rfl rfl (fun H locs hP hD hS => ?_)
              obtain rfl := Option.some.inj hf
              exact W.iret (v := y12.1) hx hb hr (fun t ht hW => ⟨⟨y12.1, (), rfl, rfl, by rw [ht]; exact hP, hD⟩, hS.F ht⟩) hS.2.2 dX4_calls_126
            · have hf := oif_f c11 hf
              by_cases c13 : i1 = 108
              · have hf := oif_t c13 hf
                refine lv_tableIn (tgt := 144) hx hb dX4_calls_1 (by rw [c13]; decide) (by rw [c13]; decide) (by rw [c13]; rfl) (by decide) ?_
                refine lv_aload_n hx hb dX4_calls_144 rfl (lv_at hl 0 rfl) ?_
                refine lv_aload_n hx hb dX4_calls_145 rfl (lv_at hl 0 rfl) ?_
                refine va_get (D := (dC, dI)) (ci := 4) (v := .ref (aM 9)) (C := RX4) (T := TX4) (N := 21) hx hb hts hiX4 hown hK hP 0 rfl rfl 20 (by decide) hgX4_35 (fun _ h9 => h9) rfl dX4_calls_146 ?_
                refine lv_iconst (v := 0) hx hb dX4_calls_149 (by decide) ?_
                refine va_iald hx hb hK hP 9 0 rfl rfl (vpc rfl) dX4_calls_150 ?_
                refine lv_iconst (v := 0) hx hb dX4_calls_151 (by decide) ?_
                refine lv_aload_n hx hb dX4_calls_152 rfl (lv_at hl 0 rfl) ?_
                refine va_get (D := (dC, dI)) (ci := 4) (v := .ref (aM 9)) (C := RX4) (T := TX4) (N := 21) hx hb hts hiX4 hown hK hP 0 rfl rfl 20 (by decide) hgX4_35 (fun _ h9 => h9) rfl dX4_calls_153 ?_
                refine lv_iconst (v := 1) hx hb dX4_calls_156 (by decide) ?_
                refine va_iald hx hb hK hP 9 0 rfl rfl (vpc rfl) dX4_calls_157 ?_
                obtain ⟨y14, hy14, hf⟩ := obind hf
                refine cg_i (ws := [k4_0 aM vM, k4_1 cI aM vM, k4_2 cI aM vM, k4_3 cI aM vM, k4_4 cI aM vM, k4_5 cJ aM vM, k4_6 cI aM vM, k4_7 cJ aM vM, k4_8 cJ aM vM, k4_9 cI aM vM]) (wc := [k4_0 aM vM, k4_1 cI aM vM, k4_2 cI aM vM, k4_3 cI aM vM, k4_4 cI aM vM, k4_5 cJ aM vM, k4_6 cI aM vM, k4_7 cJ aM vM, k4_8 cJ aM vM, k4_9 cI aM vM]) (wr := []) (w1 := [k4_0 aM y14.2, k4_1 cI aM y14.2, k4_2 cI aM y14.2, k4_3 cI aM y14.2, k4_4 cI aM y14.2, k4_5 cJ aM y14.2, k4_6 cI aM y14.2, k4_7 cJ aM y14.2, k4_8 cJ aM y14.2, k4_9 cI aM y14.2]) (wo := [k4_0 aM y14.2, k4_1 cI aM y14.2, k4_2 cI aM y14.2, k4_3 cI aM y14.2, k4_4 cI aM y14.2, k4_5 cJ aM y14.2, k4_6 cI aM y14.2, k4_7 cJ aM y14.2, k4_8 cJ aM y14.2, k4_9 cI aM y14.2]) hP hD hS hA (va_runV (As := [.int ((p4_told vM) ((0 : Int32)).toNatClampNeg), .int 0, .int ((p4_told vM) ((1 : Int32)).toNatClampNeg)]) (rest := []) ⟨hx, hb, hml, hown, hts⟩ (mX4_stop l dC dI cI cJ aM H.size vM ((p4_told vM) ((0 : Int32)).toNatClampNeg) (0 : Int32) ((p4_told vM) ((1 : Int32)).toNatClampNeg) y14 hy14) (cwV 3 hts gX4_calls_X4_stop rfl rfl rfl (by decide +kernel) ⟨Nat.le_of_ble_eq_true rfl, Nat.le_of_ble_eq_true rfl⟩) ⟨cFB, va_recv hK hP (ci := 4) (q0 := 0) rfl rfl, cPre hK hN hS (va_free (wc := [k4_0 aM vM, k4_1 cI aM vM, k4_2 cI aM vM, k4_3 cI aM vM, k4_4 cI aM vM, k4_5 cJ aM vM, k4_6 cI aM vM, k4_7 cJ aM vM, k4_8 cJ aM vM, k4_9 cI aM vM]) hD hS hA [0, 1, 2, 3, 4, 5, 6, 7, 8, 9] rfl) (hP.sub [0, 1, 2, 3, 4, 5, 6, 7, 8, 9] rfl) (hD.sub [0, 1, 2, 3, 4, 5, 6, 7, 8, 9] rfl rfl)⟩ rfl rfl hl.1 rfl (lv_room (Nat.le_of_ble_eq_true rfl)) dX4_calls_158 ⟨Nat.le_of_ble_eq_true rfl, Nat.le_of_ble_eq_true rfl⟩) [0, 1, 2, 3, 4, 5, 6, 7, 8, 9] [] [0, 1, 2, 3, 4, 5, 6, 7, 8, 9] rfl rfl rfl (by decide +kernel) rfl rfl (fun H locs hP hD hS => ?_)
                obtain rfl := Option.some.inj hf
                exact W.iret (v := y14.1) hx hb hr (fun t ht hW => ⟨⟨y14.1, (), rfl, rfl, by rw [ht]; exact hP, hD⟩, hS.F ht⟩) hS.2.2 dX4_calls_161
              · have hf := oif_f c13 hf
                by_cases c15 : i1 = 109
                · have hf := oif_t c15 hf
                  refine lv_tableIn (tgt := 180) hx hb dX4_calls_1 (by rw [c15]; decide) (by rw [c15]; decide) (by rw [c15]; rfl) (by decide) ?_
                  exact (hWW _ _ _ _ _ _ _).1 (J180 vM H locs ls hP hD hS (lv_sub hl [0] rfl) hf)
                · have hf := oif_f c15 hf
                  by_cases c16 : i1 = 110
                  · have hf := oif_t c16 hf
                    refine lv_tableIn (tgt := 180) hx hb dX4_calls_1 (by rw [c16]; decide) (by rw [c16]; decide) (by rw [c16]; rfl) (by decide) ?_
                    exact (hWW _ _ _ _ _ _ _).1 (J180 vM H locs ls hP hD hS (lv_sub hl [0] rfl) hf)
                  · have hf := oif_f c16 hf
                    by_cases c17 : i1 = 111
                    · have hf := oif_t c17 hf
                      refine lv_tableIn (tgt := 180) hx hb dX4_calls_1 (by rw [c17]; decide) (by rw [c17]; decide) (by rw [c17]; rfl) (by decide) ?_
                      exact (hWW _ _ _ _ _ _ _).1 (J180 vM H locs ls hP hD hS (lv_sub hl [0] rfl) hf)
                    · have hf := oif_f c17 hf
                      by_cases c18 : i1 = 112
                      · have hf := oif_t c18 hf
                        refine lv_tableIn (tgt := 99) hx hb dX4_calls_1 (by rw [c18]; decide) (by rw [c18]; decide) (by rw [c18]; rfl) (by decide) ?_
                        refine lv_aload_n hx hb dX4_calls_99 rfl (lv_at hl 0 rfl) ?_
                        obtain ⟨y19, hy19, hf⟩ := obind hf
                        refine cg_i (ws := [k4_0 aM vM, k4_1 cI aM vM, k4_2 cI aM vM, k4_3 cI aM vM, k4_4 cI aM vM, k4_5 cJ aM vM, k4_6 cI aM vM, k4_7 cJ aM vM, k4_8 cJ aM vM, k4_9 cI aM vM]) (wc := [k4_0 aM vM, k4_1 cI aM vM, k4_2 cI aM vM, k4_3 cI aM vM, k4_4 cI aM vM, k4_5 cJ aM vM, k4_6 cI aM vM, k4_7 cJ aM vM, k4_8 cJ aM vM, k4_9 cI aM vM]) (wr := []) (w1 := [k4_0 aM y19.2, k4_1 cI aM y19.2, k4_2 cI aM y19.2, k4_3 cI aM y19.2, k4_4 cI aM y19.2, k4_5 cJ aM y19.2, k4_6 cI aM y19.2, k4_7 cJ aM y19.2, k4_8 cJ aM y19.2, k4_9 cI aM y19.2]) (wo := [k4_0 aM y19.2, k4_1 cI aM y19.2, k4_2 cI aM y19.2, k4_3 cI aM y19.2, k4_4 cI aM y19.2, k4_5 cJ aM y19.2, k4_6 cI aM y19.2, k4_7 cJ aM y19.2, k4_8 cJ aM y19.2, k4_9 cI aM y19.2]) hP hD hS hA (va_runV (As := []) (rest := []) ⟨hx, hb, hml, hown, hts⟩ (mX4_plate l dC dI cI cJ aM H.size vM y19 hy19) (cwV 0 hts gX4_calls_X4_plate rfl rfl rfl (by decide +kernel) ⟨Nat.le_of_ble_eq_true rfl, Nat.le_of_ble_eq_true rfl⟩) ⟨cFB, va_recv hK hP (ci := 4) (q0 := 0) rfl rfl, cPre hK hN hS (va_free (wc := [k4_0 aM vM, k4_1 cI aM vM, k4_2 cI aM vM, k4_3 cI aM vM, k4_4 cI aM vM, k4_5 cJ aM vM, k4_6 cI aM vM, k4_7 cJ aM vM, k4_8 cJ aM vM, k4_9 cI aM vM]) hD hS hA [0, 1, 2, 3, 4, 5, 6, 7, 8, 9] rfl) (hP.sub [0, 1, 2, 3, 4, 5, 6, 7, 8, 9] rfl) (hD.sub [0, 1, 2, 3, 4, 5, 6, 7, 8, 9] rfl rfl)⟩ rfl rfl hl.1 rfl (lv_room (Nat.le_of_ble_eq_true rfl)) dX4_calls_100 ⟨Nat.le_of_ble_eq_true rfl, Nat.le_of_ble_eq_true rfl⟩) [0, 1, 2, 3, 4, 5, 6, 7, 8, 9] [] [0, 1, 2, 3, 4, 5, 6, 7, 8, 9] rfl rfl rfl (by decide +kernel) rfl rfl (fun H locs hP hD hS => ?_)
                        obtain rfl := Option.some.inj hf
                        exact W.iret (v := y19.1) hx hb hr (fun t ht hW => ⟨⟨y19.1, (), rfl, rfl, by rw [ht]; exact hP, hD⟩, hS.F ht⟩) hS.2.2 dX4_calls_103
                      · have hf := oif_f c18 hf
                        by_cases c20 : i1 = 113
                        · have hf := oif_t c20 hf
                          refine lv_tableIn (tgt := 180) hx hb dX4_calls_1 (by rw [c20]; decide) (by rw [c20]; decide) (by rw [c20]; rfl) (by decide) ?_
                          exact (hWW _ _ _ _ _ _ _).1 (J180 vM H locs ls hP hD hS (lv_sub hl [0] rfl) hf)
                        · have hf := oif_f c20 hf
                          by_cases c21 : i1 = 114
                          · have hf := oif_t c21 hf
                            refine lv_tableIn (tgt := 162) hx hb dX4_calls_1 (by rw [c21]; decide) (by rw [c21]; decide) (by rw [c21]; rfl) (by decide) ?_
                            refine lv_aload_n hx hb dX4_calls_162 rfl (lv_at hl 0 rfl) ?_
                            refine lv_aload_n hx hb dX4_calls_163 rfl (lv_at hl 0 rfl) ?_
                            refine va_get (D := (dC, dI)) (ci := 4) (v := .ref (aM 9)) (C := RX4) (T := TX4) (N := 21) hx hb hts hiX4 hown hK hP 0 rfl rfl 20 (by decide) hgX4_35 (fun _ h9 => h9) rfl dX4_calls_164 ?_
                            refine lv_iconst (v := 0) hx hb dX4_calls_167 (by decide) ?_
                            refine va_iald hx hb hK hP 9 0 rfl rfl (vpc rfl) dX4_calls_168 ?_
                            refine lv_iconst (v := 1) hx hb dX4_calls_169 (by decide) ?_
                            refine lv_aload_n hx hb dX4_calls_170 rfl (lv_at hl 0 rfl) ?_
                            refine va_get (D := (dC, dI)) (ci := 4) (v := .ref (aM 9)) (C := RX4) (T := TX4) (N := 21) hx hb hts hiX4 hown hK hP 0 rfl rfl 20 (by decide) hgX4_35 (fun _ h9 => h9) rfl dX4_calls_171 ?_
                            refine lv_iconst (v := 1) hx hb dX4_calls_174 (by decide) ?_
                            refine va_iald hx hb hK hP 9 0 rfl rfl (vpc rfl) dX4_calls_175 ?_
                            obtain ⟨y22, hy22, hf⟩ := obind hf
                            refine cg_i (ws := [k4_0 aM vM, k4_1 cI aM vM, k4_2 cI aM vM, k4_3 cI aM vM, k4_4 cI aM vM, k4_5 cJ aM vM, k4_6 cI aM vM, k4_7 cJ aM vM, k4_8 cJ aM vM, k4_9 cI aM vM]) (wc := [k4_0 aM vM, k4_1 cI aM vM, k4_2 cI aM vM, k4_3 cI aM vM, k4_4 cI aM vM, k4_5 cJ aM vM, k4_6 cI aM vM, k4_7 cJ aM vM, k4_8 cJ aM vM, k4_9 cI aM vM]) (wr := []) (w1 := [k4_0 aM y22.2, k4_1 cI aM y22.2, k4_2 cI aM y22.2, k4_3 cI aM y22.2, k4_4 cI aM y22.2, k4_5 cJ aM y22.2, k4_6 cI aM y22.2, k4_7 cJ aM y22.2, k4_8 cJ aM y22.2, k4_9 cI aM y22.2]) (wo := [k4_0 aM y22.2, k4_1 cI aM y22.2, k4_2 cI aM y22.2, k4_3 cI aM y22.2, k4_4 cI aM y22.2, k4_5 cJ aM y22.2, k4_6 cI aM y22.2, k4_7 cJ aM y22.2, k4_8 cJ aM y22.2, k4_9 cI aM y22.2]) hP hD hS hA (va_runV (As := [.int ((p4_told vM) ((0 : Int32)).toNatClampNeg), .int 1, .int ((p4_told vM) ((1 : Int32)).toNatClampNeg)]) (rest := []) ⟨hx, hb, hml, hown, hts⟩ (mX4_stop l dC dI cI cJ aM H.size vM ((p4_told vM) ((0 : Int32)).toNatClampNeg) (1 : Int32) ((p4_told vM) ((1 : Int32)).toNatClampNeg) y22 hy22) (cwV 3 hts gX4_calls_X4_stop rfl rfl rfl (by decide +kernel) ⟨Nat.le_of_ble_eq_true rfl, Nat.le_of_ble_eq_true rfl⟩) ⟨cFB, va_recv hK hP (ci := 4) (q0 := 0) rfl rfl, cPre hK hN hS (va_free (wc := [k4_0 aM vM, k4_1 cI aM vM, k4_2 cI aM vM, k4_3 cI aM vM, k4_4 cI aM vM, k4_5 cJ aM vM, k4_6 cI aM vM, k4_7 cJ aM vM, k4_8 cJ aM vM, k4_9 cI aM vM]) hD hS hA [0, 1, 2, 3, 4, 5, 6, 7, 8, 9] rfl) (hP.sub [0, 1, 2, 3, 4, 5, 6, 7, 8, 9] rfl) (hD.sub [0, 1, 2, 3, 4, 5, 6, 7, 8, 9] rfl rfl)⟩ rfl rfl hl.1 rfl (lv_room (Nat.le_of_ble_eq_true rfl)) dX4_calls_176 ⟨Nat.le_of_ble_eq_true rfl, Nat.le_of_ble_eq_true rfl⟩) [0, 1, 2, 3, 4, 5, 6, 7, 8, 9] [] [0, 1, 2, 3, 4, 5, 6, 7, 8, 9] rfl rfl rfl (by decide +kernel) rfl rfl (fun H locs hP hD hS => ?_)
                            obtain rfl := Option.some.inj hf
                            exact W.iret (v := y22.1) hx hb hr (fun t ht hW => ⟨⟨y22.1, (), rfl, rfl, by rw [ht]; exact hP, hD⟩, hS.F ht⟩) hS.2.2 dX4_calls_179
                          · have hf := oif_f c21 hf
                            by_cases c23 : i1 = 115
                            · have hf := oif_t c23 hf
                              refine lv_tableIn (tgt := 180) hx hb dX4_calls_1 (by rw [c23]; decide) (by rw [c23]; decide) (by rw [c23]; rfl) (by decide) ?_
                              exact (hWW _ _ _ _ _ _ _).1 (J180 vM H locs ls hP hD hS (lv_sub hl [0] rfl) hf)
                            · have hf := oif_f c23 hf
                              by_cases c24 : i1 = 116
                              · have hf := oif_t c24 hf
                                refine lv_tableIn (tgt := 180) hx hb dX4_calls_1 (by rw [c24]; decide) (by rw [c24]; decide) (by rw [c24]; rfl) (by decide) ?_
                                exact (hWW _ _ _ _ _ _ _).1 (J180 vM H locs ls hP hD hS (lv_sub hl [0] rfl) hf)
                              · have hf := oif_f c24 hf
                                by_cases c25 : i1 = 117
                                · have hf := oif_t c25 hf
                                  refine lv_tableIn (tgt := 180) hx hb dX4_calls_1 (by rw [c25]; decide) (by rw [c25]; decide) (by rw [c25]; rfl) (by decide) ?_
                                  exact (hWW _ _ _ _ _ _ _).1 (J180 vM H locs ls hP hD hS (lv_sub hl [0] rfl) hf)
                                · have hf := oif_f c25 hf
                                  by_cases c26 : i1 = 118
                                  · have hf := oif_t c26 hf
                                    refine lv_tableIn (tgt := 180) hx hb dX4_calls_1 (by rw [c26]; decide) (by rw [c26]; decide) (by rw [c26]; rfl) (by decide) ?_
                                    exact (hWW _ _ _ _ _ _ _).1 (J180 vM H locs ls hP hD hS (lv_sub hl [0] rfl) hf)
                                  · have hf := oif_f c26 hf
                                    by_cases c27 : i1 = 119
                                    · have hf := oif_t c27 hf
                                      refine lv_tableIn (tgt := 88) hx hb dX4_calls_1 (by rw [c27]; decide) (by rw [c27]; decide) (by rw [c27]; rfl) (by decide) ?_
                                      refine lv_aload_n hx hb dX4_calls_88 rfl (lv_at hl 0 rfl) ?_
                                      refine lv_aload_n hx hb dX4_calls_89 rfl (lv_at hl 0 rfl) ?_
                                      refine va_get (D := (dC, dI)) (ci := 4) (v := .ref (aM 9)) (C := RX4) (T := TX4) (N := 21) hx hb hts hiX4 hown hK hP 0 rfl rfl 20 (by decide) hgX4_35 (fun _ h9 => h9) rfl dX4_calls_90 ?_
                                      refine lv_iconst (v := 0) hx hb dX4_calls_93 (by decide) ?_
                                      refine va_iald hx hb hK hP 9 0 rfl rfl (vpc rfl) dX4_calls_94 ?_
                                      obtain ⟨y28, hy28, hf⟩ := obind hf
                                      refine cg_i (ws := [k4_0 aM vM, k4_1 cI aM vM, k4_2 cI aM vM, k4_3 cI aM vM, k4_4 cI aM vM, k4_5 cJ aM vM, k4_6 cI aM vM, k4_7 cJ aM vM, k4_8 cJ aM vM, k4_9 cI aM vM]) (wc := [k4_0 aM vM, k4_1 cI aM vM, k4_2 cI aM vM, k4_3 cI aM vM, k4_4 cI aM vM, k4_5 cJ aM vM, k4_6 cI aM vM, k4_7 cJ aM vM, k4_8 cJ aM vM, k4_9 cI aM vM]) (wr := []) (w1 := [k4_0 aM y28.2, k4_1 cI aM y28.2, k4_2 cI aM y28.2, k4_3 cI aM y28.2, k4_4 cI aM y28.2, k4_5 cJ aM y28.2, k4_6 cI aM y28.2, k4_7 cJ aM y28.2, k4_8 cJ aM y28.2, k4_9 cI aM y28.2]) (wo := [k4_0 aM y28.2, k4_1 cI aM y28.2, k4_2 cI aM y28.2, k4_3 cI aM y28.2, k4_4 cI aM y28.2, k4_5 cJ aM y28.2, k4_6 cI aM y28.2, k4_7 cJ aM y28.2, k4_8 cJ aM y28.2, k4_9 cI aM y28.2]) hP hD hS hA (va_runV (As := [.int ((p4_told vM) ((0 : Int32)).toNatClampNeg)]) (rest := []) ⟨hx, hb, hml, hown, hts⟩ (mX4_width l dC dI cI cJ aM H.size vM ((p4_told vM) ((0 : Int32)).toNatClampNeg) y28 hy28) (cwV 1 hts gX4_calls_X4_width rfl rfl rfl (by decide +kernel) ⟨Nat.le_of_ble_eq_true rfl, Nat.le_of_ble_eq_true rfl⟩) ⟨cFB, va_recv hK hP (ci := 4) (q0 := 0) rfl rfl, cPre hK hN hS (va_free (wc := [k4_0 aM vM, k4_1 cI aM vM, k4_2 cI aM vM, k4_3 cI aM vM, k4_4 cI aM vM, k4_5 cJ aM vM, k4_6 cI aM vM, k4_7 cJ aM vM, k4_8 cJ aM vM, k4_9 cI aM vM]) hD hS hA [0, 1, 2, 3, 4, 5, 6, 7, 8, 9] rfl) (hP.sub [0, 1, 2, 3, 4, 5, 6, 7, 8, 9] rfl) (hD.sub [0, 1, 2, 3, 4, 5, 6, 7, 8, 9] rfl rfl)⟩ rfl rfl hl.1 rfl (lv_room (Nat.le_of_ble_eq_true rfl)) dX4_calls_95 ⟨Nat.le_of_ble_eq_true rfl, Nat.le_of_ble_eq_true rfl⟩) [0, 1, 2, 3, 4, 5, 6, 7, 8, 9] [] [0, 1, 2, 3, 4, 5, 6, 7, 8, 9] rfl rfl rfl (by decide +kernel) rfl rfl (fun H locs hP hD hS => ?_)
                                      obtain rfl := Option.some.inj hf
                                      exact W.iret (v := y28.1) hx hb hr (fun t ht hW => ⟨⟨y28.1, (), rfl, rfl, by rw [ht]; exact hP, hD⟩, hS.F ht⟩) hS.2.2 dX4_calls_98
                                    · have hf := oif_f c27 hf
                                      refine lv_tableOut (tgt := 180) hx hb dX4_calls_1 (by have t0 := toInt_ne (n := 102) rfl c5; have t1 := toInt_ne (n := 103) rfl c7; have t2 := toInt_ne (n := 104) rfl c8; have t3 := toInt_ne (n := 105) rfl c9; have t4 := toInt_ne (n := 106) rfl c10; have t5 := toInt_ne (n := 107) rfl c11; have t6 := toInt_ne (n := 108) rfl c13; have t7 := toInt_ne (n := 109) rfl c15; have t8 := toInt_ne (n := 110) rfl c16; have t9 := toInt_ne (n := 111) rfl c17; have t10 := toInt_ne (n := 112) rfl c18; have t11 := toInt_ne (n := 113) rfl c20; have t12 := toInt_ne (n := 114) rfl c21; have t13 := toInt_ne (n := 115) rfl c23; have t14 := toInt_ne (n := 116) rfl c24; have t15 := toInt_ne (n := 117) rfl c25; have t16 := toInt_ne (n := 118) rfl c26; have t17 := toInt_ne (n := 119) rfl c27; omega) (by decide) ?_
                                      exact (hWW _ _ _ _ _ _ _).1 (J180 vM H locs ls hP hD hS (lv_sub hl [0] rfl) hf)
def fX4_does_71 (vM : BX4) : Option (Int32 × BX4) :=
  some (3, vM)
def fX4_does (vM : BX4) : Option (Int32 × BX4) :=
  elet (p4_spot vM) (fun z1 => if inB (p4_spot vM) 60 = true then (elet ((p4_text vM) ((p4_spot vM)).toNatClampNeg) (fun z3 => (fX4_isForm vM z3).bind (fun y4 => if y4.1 = 0 then (elet (s4_cause y4.2 ((p4_spot y4.2) - z1)) (fun b13 => some (1, b13))) else ((fX4_badNumber y4.2 z3).bind (fun y6 => elet (s4_cause y4.2 y6) (fun b7 => if (p4_cause b7) < 0 then ((fX4_calls b7 z3).bind (fun y9 => elet y9.1 (fun z10 => if z10 = (-1000002 : Int32) then (fX4_does_71 y9.2) else (if z10 = (-1000003 : Int32) then (fX4_does_71 y9.2) else (some (0, y9.2)))))) else (some (2, b7)))))))) else none)
set_option maxHeartbeats 8000000 in
set_option maxRecDepth 100000 in
theorem mX4_does (l : Launch) (dC : Nat → ClassId) (dI : Nat → Nat → Nat) (cI cJ : ClassId) (aM : Nat → Nat) (sz : Nat) (vM : BX4) (y : (Int32 × BX4)) (hf : fX4_does vM = some y) : Met l yX4_does wsX4_does ({ frames := 5, cells := 0, slots := 0, locals := 114 }) (cPc dC dI cI cJ [.ref (aM 0)] [k4_0 aM vM, k4_1 cI aM vM, k4_2 cI aM vM, k4_3 cI aM vM, k4_4 cI aM vM, k4_5 cJ aM vM, k4_6 cI aM vM, k4_7 cJ aM vM, k4_8 cJ aM vM, k4_9 cI aM vM] sz) (va_Qi (fun r (_ : Unit) => r = y.1) (fun _ t => cB dC dI (va_A [k4_0 aM vM, k4_1 cI aM vM, k4_2 cI aM vM, k4_3 cI aM vM, k4_4 cI aM vM, k4_5 cJ aM vM, k4_6 cI aM vM, k4_7 cJ aM vM, k4_8 cJ aM vM, k4_9 cI aM vM] sz) [k4_0 aM y.2, k4_1 cI aM y.2, k4_2 cI aM y.2, k4_3 cI aM y.2, k4_4 cI aM y.2, k4_5 cJ aM y.2, k4_6 cI aM y.2, k4_7 cJ aM y.2, k4_8 cJ aM y.2, k4_9 cI aM y.2] t) (va_A [k4_0 aM vM, k4_1 cI aM vM, k4_2 cI aM vM, k4_3 cI aM vM, k4_4 cI aM vM, k4_5 cJ aM vM, k4_6 cI aM vM, k4_7 cJ aM vM, k4_8 cJ aM vM, k4_9 cI aM vM] sz)) 0 0 (va_A [k4_0 aM vM, k4_1 cI aM vM, k4_2 cI aM vM, k4_3 cI aM vM, k4_4 cI aM vM, k4_5 cJ aM vM, k4_6 cI aM vM, k4_7 cJ aM vM, k4_8 cJ aM vM, k4_9 cI aM vM] sz) := by
  refine Met.ofW (cc := cX4_does) (maxL := 4) (ret := (some .int)) (by decide) rfl ?_
  intro p e s m args below meth c s₁ B hml hv
  obtain ⟨rfl, hsz, hP, hK, hD0, hN⟩ := hv
  have hx := B.exec
  have hb := B.bytes
  have hr := B.returns
  have hts := atoms_spec (ws := wsX4_does) B.pre
  have hown : s.vm.findClass RX4 = some m.cls := findClass_of_methodNamed B.named
  have hlocks := B.notSynchronized
  subst hsz
  have hD := hD0.self (sz := s.heap.size)
  generalize hAe : va_A [k4_0 aM vM, k4_1 cI aM vM, k4_2 cI aM vM, k4_3 cI aM vM, k4_4 cI aM vM, k4_5 cJ aM vM, k4_6 cI aM vM, k4_7 cJ aM vM, k4_8 cJ aM vM, k4_9 cI aM vM] s.heap.size = A at hD hN ⊢
  have hA : ∀ q : Nat, s.heap.size ≤ q → A q := fun q h => by rw [← hAe]; exact Or.inr h
  have hP : va_P (dC, dI) vwCl [k4_0 aM vM, k4_1 cI aM vM, k4_2 cI aM vM, k4_3 cI aM vM, k4_4 cI aM vM, k4_5 cJ aM vM, k4_6 cI aM vM, k4_7 cJ aM vM, k4_8 cJ aM vM, k4_9 cI aM vM] s.heap := hP
  have hl := lv_entry ([.ref (aM 0)]) (n := 4) (Nat.le_of_ble_eq_true rfl)
  rw [lg_entry_eq]
  generalize (lg_sl ([.ref (aM 0)]) ++ List.replicate (4 - (lg_sl ([.ref (aM 0)])).length) Slot.unset).toArray = ls at hl ⊢
  have hl : lv_has ls 4 [(0, .ref (aM 0))] := hl
  have hiX4 : ∀ w ∈ u_ws RX4 TX4 21, w ∈ wsX4_does := by decide +kernel
  have hgX4_165 := hts (.fieldLink RX4 165 "SpringPlatesModel" "spot" "I") (by decide +kernel)
  have hgX4_19 := hts (.fieldLink RX4 19 "SpringPlatesModel" "text" "[I") (by decide +kernel)
  have hgX4_199 := hts (.fieldLink RX4 199 "SpringPlatesModel" "cause" "I") (by decide +kernel)
  have hc58 := hts (.constant RX4 58 (-1000002)) (by decide +kernel)
  have hc62 := hts (.constant RX4 62 (-1000003)) (by decide +kernel)
  refine nameH (fun H locs hHe hLe => ?_)
  have hP : va_P (dC, dI) vwCl [k4_0 aM vM, k4_1 cI aM vM, k4_2 cI aM vM, k4_3 cI aM vM, k4_4 cI aM vM, k4_5 cJ aM vM, k4_6 cI aM vM, k4_7 cJ aM vM, k4_8 cJ aM vM, k4_9 cI aM vM] H := by rw [hHe]; exact hP
  have hS : va_S A s.heap H locs := by rw [hHe, hLe]; exact va_S.rf
  refine withW (fun WW hWW => ?_)
  have J71 : ∀ (vM : BX4) (H : Heap) (locs : List Loc) (ls : Array Slot), va_P (dC, dI) vwCl [k4_0 aM vM, k4_1 cI aM vM, k4_2 cI aM vM, k4_3 cI aM vM, k4_4 cI aM vM, k4_5 cJ aM vM, k4_6 cI aM vM, k4_7 cJ aM vM, k4_8 cJ aM vM, k4_9 cI aM vM] H → va_D A [k4_0 aM vM, k4_1 cI aM vM, k4_2 cI aM vM, k4_3 cI aM vM, k4_4 cI aM vM, k4_5 cJ aM vM, k4_6 cI aM vM, k4_7 cJ aM vM, k4_8 cJ aM vM, k4_9 cI aM vM] → va_S A s.heap H locs → lv_has ls 4 [] → fX4_does_71 vM = some y → WW H locs 0 0 ls 71 [] := by
    intro vM H locs ls hP hD hS hl hf
    unfold fX4_does_71 at hf
    refine (hWW _ _ _ _ _ _ _).2 ?_
    refine lv_iconst (v := 3) hx hb dX4_does_71 (by decide) ?_
    refine lv_goto (tgt := 76) hx hb dX4_does_72 (by decide) ?_
    obtain rfl := Option.some.inj hf
    exact W.iret (v := 3) hx hb hr (fun t ht hW => ⟨⟨3, (), rfl, rfl, by rw [ht]; exact hP, hD⟩, hS.F ht⟩) hS.2.2 dX4_does_76
  refine (hWW _ _ _ _ _ _ _).2 ?_
  unfold fX4_does at hf
  refine lv_aload_n hx hb dX4_does_0 rfl (lv_at hl 0 rfl) ?_
  refine va_get (D := (dC, dI)) (ci := 4) (v := .int (p4_spot vM)) (C := RX4) (T := TX4) (N := 21) hx hb hts hiX4 hown hK hP 0 rfl rfl 16 (by decide) hgX4_165 (fun _ h9 => h9) rfl dX4_does_1 ?_
  obtain ⟨z1, ez1, hf⟩ := elet_out hf
  refine lvn_i ez1 ?_
  refine lv_istore_n (lv' := [(1, .int z1), (0, .ref (aM 0))]) hx hb dX4_does_4 rfl hl (by decide) rfl (fun ls hl => ?_)
  refine lv_aload_n hx hb dX4_does_5 rfl (lv_at hl 1 rfl) ?_
  refine va_get (D := (dC, dI)) (ci := 4) (v := .ref (aM 4)) (C := RX4) (T := TX4) (N := 21) hx hb hts hiX4 hown hK hP 0 rfl rfl 5 (by decide) hgX4_19 (fun _ h9 => h9) rfl dX4_does_6 ?_
  refine lv_aload_n hx hb dX4_does_9 rfl (lv_at hl 1 rfl) ?_
  refine va_get (D := (dC, dI)) (ci := 4) (v := .int (p4_spot vM)) (C := RX4) (T := TX4) (N := 21) hx hb hts hiX4 hown hK hP 0 rfl rfl 16 (by decide) hgX4_165 (fun _ h9 => h9) rfl dX4_does_10 ?_
  obtain ⟨hi2, hf⟩ := oinb rfl hf
  refine va_iald hx hb hK hP 4 0 rfl rfl hi2 dX4_does_13 ?_
  obtain ⟨z3, ez3, hf⟩ := elet_out hf
  refine lvn_i ez3 ?_
  refine lv_istore_n (lv' := [(2, .int z3), (1, .int z1), (0, .ref (aM 0))]) hx hb dX4_does_14 rfl hl (by decide) rfl (fun ls hl => ?_)
  refine lv_aload_n hx hb dX4_does_15 rfl (lv_at hl 2 rfl) ?_
  refine lv_iload_n hx hb dX4_does_16 rfl (lv_at hl 0 rfl) ?_
  obtain ⟨y4, hy4, hf⟩ := obind hf
  refine cg_i (ws := [k4_0 aM vM, k4_1 cI aM vM, k4_2 cI aM vM, k4_3 cI aM vM, k4_4 cI aM vM, k4_5 cJ aM vM, k4_6 cI aM vM, k4_7 cJ aM vM, k4_8 cJ aM vM, k4_9 cI aM vM]) (wc := [k4_0 aM vM, k4_1 cI aM vM, k4_2 cI aM vM, k4_3 cI aM vM, k4_4 cI aM vM, k4_5 cJ aM vM, k4_6 cI aM vM, k4_7 cJ aM vM, k4_8 cJ aM vM, k4_9 cI aM vM]) (wr := []) (w1 := [k4_0 aM y4.2, k4_1 cI aM y4.2, k4_2 cI aM y4.2, k4_3 cI aM y4.2, k4_4 cI aM y4.2, k4_5 cJ aM y4.2, k4_6 cI aM y4.2, k4_7 cJ aM y4.2, k4_8 cJ aM y4.2, k4_9 cI aM y4.2]) (wo := [k4_0 aM y4.2, k4_1 cI aM y4.2, k4_2 cI aM y4.2, k4_3 cI aM y4.2, k4_4 cI aM y4.2, k4_5 cJ aM y4.2, k4_6 cI aM y4.2, k4_7 cJ aM y4.2, k4_8 cJ aM y4.2, k4_9 cI aM y4.2]) hP hD hS hA (va_runV (As := [.int z3]) (rest := []) ⟨hx, hb, hml, hown, hts⟩ (mX4_isForm l dC dI cI cJ aM H.size vM z3 y4 hy4) (cwV 1 hts gX4_does_X4_isForm rfl rfl rfl (by decide +kernel) ⟨Nat.le_of_ble_eq_true rfl, Nat.le_of_ble_eq_true rfl⟩) ⟨cFB, va_recv hK hP (ci := 4) (q0 := 0) rfl rfl, cPre hK hN hS (va_free (wc := [k4_0 aM vM, k4_1 cI aM vM, k4_2 cI aM vM, k4_3 cI aM vM, k4_4 cI aM vM, k4_5 cJ aM vM, k4_6 cI aM vM, k4_7 cJ aM vM, k4_8 cJ aM vM, k4_9 cI aM vM]) hD hS hA [0, 1, 2, 3, 4, 5, 6, 7, 8, 9] rfl) (hP.sub [0, 1, 2, 3, 4, 5, 6, 7, 8, 9] rfl) (hD.sub [0, 1, 2, 3, 4, 5, 6, 7, 8, 9] rfl rfl)⟩ rfl rfl hl.1 rfl (lv_room (Nat.le_of_ble_eq_true rfl)) dX4_does_17 ⟨Nat.le_of_ble_eq_true rfl, Nat.le_of_ble_eq_true rfl⟩) [0, 1, 2, 3, 4, 5, 6, 7, 8, 9] [] [0, 1, 2, 3, 4, 5, 6, 7, 8, 9] rfl rfl rfl (by decide +kernel) rfl rfl (fun H locs hP hD hS => ?_)
  refine lv_if_ne (tgt := 35) hx hb dX4_does_20 (by decide) (fun c5 => ?_) (fun c5 => ?_)
  · have hf := oif_f c5 hf
    refine lv_aload_n hx hb dX4_does_35 rfl (lv_at hl 2 rfl) ?_
    refine lv_aload_n hx hb dX4_does_36 rfl (lv_at hl 2 rfl) ?_
    refine lv_iload_n hx hb dX4_does_37 rfl (lv_at hl 0 rfl) ?_
    obtain ⟨y6, hy6, hf⟩ := obind hf
    refine cg_i (ws := [k4_0 aM y4.2, k4_1 cI aM y4.2, k4_2 cI aM y4.2, k4_3 cI aM y4.2, k4_4 cI aM y4.2, k4_5 cJ aM y4.2, k4_6 cI aM y4.2, k4_7 cJ aM y4.2, k4_8 cJ aM y4.2, k4_9 cI aM y4.2]) (wc := [k4_0 aM y4.2, k4_1 cI aM y4.2, k4_2 cI aM y4.2, k4_3 cI aM y4.2, k4_4 cI aM y4.2, k4_5 cJ aM y4.2, k4_6 cI aM y4.2, k4_7 cJ aM y4.2, k4_8 cJ aM y4.2, k4_9 cI aM y4.2]) (wr := []) (w1 := [k4_0 aM y4.2, k4_1 cI aM y4.2, k4_2 cI aM y4.2, k4_3 cI aM y4.2, k4_4 cI aM y4.2, k4_5 cJ aM y4.2, k4_6 cI aM y4.2, k4_7 cJ aM y4.2, k4_8 cJ aM y4.2, k4_9 cI aM y4.2]) (wo := [k4_0 aM y4.2, k4_1 cI aM y4.2, k4_2 cI aM y4.2, k4_3 cI aM y4.2, k4_4 cI aM y4.2, k4_5 cJ aM y4.2, k4_6 cI aM y4.2, k4_7 cJ aM y4.2, k4_8 cJ aM y4.2, k4_9 cI aM y4.2]) hP hD hS hA (va_runV (As := [.int z3]) (rest := [.ref (aM 0)]) ⟨hx, hb, hml, hown, hts⟩ (mX4_badNumber l dC dI cI cJ aM H.size y4.2 z3 y6 hy6) (cwV 1 hts gX4_does_X4_badNumber rfl rfl rfl (by decide +kernel) ⟨Nat.le_of_ble_eq_true rfl, Nat.le_of_ble_eq_true rfl⟩) ⟨cFB, va_recv hK hP (ci := 4) (q0 := 0) rfl rfl, cPre hK hN hS (va_free (wc := [k4_0 aM y4.2, k4_1 cI aM y4.2, k4_2 cI aM y4.2, k4_3 cI aM y4.2, k4_4 cI aM y4.2, k4_5 cJ aM y4.2, k4_6 cI aM y4.2, k4_7 cJ aM y4.2, k4_8 cJ aM y4.2, k4_9 cI aM y4.2]) hD hS hA [0, 1, 2, 3, 4, 5, 6, 7, 8, 9] rfl) (hP.sub [0, 1, 2, 3, 4, 5, 6, 7, 8, 9] rfl) (hD.sub [0, 1, 2, 3, 4, 5, 6, 7, 8, 9] rfl rfl)⟩ rfl rfl hl.1 rfl (lv_room (Nat.le_of_ble_eq_true rfl)) dX4_does_38 ⟨Nat.le_of_ble_eq_true rfl, Nat.le_of_ble_eq_true rfl⟩) [0, 1, 2, 3, 4, 5, 6, 7, 8, 9] [] [0, 1, 2, 3, 4, 5, 6, 7, 8, 9] rfl rfl rfl (by decide +kernel) rfl rfl (fun H locs hP hD hS => ?_)
    obtain ⟨b7, eb7, hf⟩ := elet_out hf
    refine va_put (D := (dC, dI)) (ci := 4) (v := .int y6) (ty := .int) (C := RX4) (T := TX4) (N := 21) hx hb hts hiX4 tyX4 tyX4_ok nmX4 hown hK hP hD hS 0 rfl rfl 18 (by decide) hgX4_199 (fun _ h9 => h9) rfl (by decide +kernel) rfl rfl (Nat.le_of_ble_eq_true rfl) dX4_does_41 (fun H locs hP hD hS => ?_)
    have hP : va_P (dC, dI) vwCl [k4_0 aM b7, k4_1 cI aM b7, k4_2 cI aM b7, k4_3 cI aM b7, k4_4 cI aM b7, k4_5 cJ aM b7, k4_6 cI aM b7, k4_7 cJ aM b7, k4_8 cJ aM b7, k4_9 cI aM b7] H := by rw [eb7]; exact hP
    have hD : va_D A [k4_0 aM b7, k4_1 cI aM b7, k4_2 cI aM b7, k4_3 cI aM b7, k4_4 cI aM b7, k4_5 cJ aM b7, k4_6 cI aM b7, k4_7 cJ aM b7, k4_8 cJ aM b7, k4_9 cI aM b7] := by rw [eb7]; exact hD
    refine lv_aload_n hx hb dX4_does_44 rfl (lv_at hl 2 rfl) ?_
    refine va_get (D := (dC, dI)) (ci := 4) (v := .int (p4_cause b7)) (C := RX4) (T := TX4) (N := 21) hx hb hts hiX4 hown hK hP 0 rfl rfl 18 (by decide) hgX4_199 (fun _ h9 => h9) rfl dX4_does_45 ?_
    refine lv_if_lt (tgt := 53) hx hb dX4_does_48 (by decide) (fun c8 => ?_) (fun c8 => ?_)
    · have hf := oif_t c8 hf
      refine lv_aload_n hx hb dX4_does_53 rfl (lv_at hl 2 rfl) ?_
      refine lv_iload_n hx hb dX4_does_54 rfl (lv_at hl 0 rfl) ?_
      obtain ⟨y9, hy9, hf⟩ := obind hf
      refine cg_i (ws := [k4_0 aM b7, k4_1 cI aM b7, k4_2 cI aM b7, k4_3 cI aM b7, k4_4 cI aM b7, k4_5 cJ aM b7, k4_6 cI aM b7, k4_7 cJ aM b7, k4_8 cJ aM b7, k4_9 cI aM b7]) (wc := [k4_0 aM b7, k4_1 cI aM b7, k4_2 cI aM b7, k4_3 cI aM b7, k4_4 cI aM b7, k4_5 cJ aM b7, k4_6 cI aM b7, k4_7 cJ aM b7, k4_8 cJ aM b7, k4_9 cI aM b7]) (wr := []) (w1 := [k4_0 aM y9.2, k4_1 cI aM y9.2, k4_2 cI aM y9.2, k4_3 cI aM y9.2, k4_4 cI aM y9.2, k4_5 cJ aM y9.2, k4_6 cI aM y9.2, k4_7 cJ aM y9.2, k4_8 cJ aM y9.2, k4_9 cI aM y9.2]) (wo := [k4_0 aM y9.2, k4_1 cI aM y9.2, k4_2 cI aM y9.2, k4_3 cI aM y9.2, k4_4 cI aM y9.2, k4_5 cJ aM y9.2, k4_6 cI aM y9.2, k4_7 cJ aM y9.2, k4_8 cJ aM y9.2, k4_9 cI aM y9.2]) hP hD hS hA (va_runV (As := [.int z3]) (rest := []) ⟨hx, hb, hml, hown, hts⟩ (mX4_calls l dC dI cI cJ aM H.size b7 z3 y9 hy9) (cwV 1 hts gX4_does_X4_calls rfl rfl rfl (by decide +kernel) ⟨Nat.le_of_ble_eq_true rfl, Nat.le_of_ble_eq_true rfl⟩) ⟨cFB, va_recv hK hP (ci := 4) (q0 := 0) rfl rfl, cPre hK hN hS (va_free (wc := [k4_0 aM b7, k4_1 cI aM b7, k4_2 cI aM b7, k4_3 cI aM b7, k4_4 cI aM b7, k4_5 cJ aM b7, k4_6 cI aM b7, k4_7 cJ aM b7, k4_8 cJ aM b7, k4_9 cI aM b7]) hD hS hA [0, 1, 2, 3, 4, 5, 6, 7, 8, 9] rfl) (hP.sub [0, 1, 2, 3, 4, 5, 6, 7, 8, 9] rfl) (hD.sub [0, 1, 2, 3, 4, 5, 6, 7, 8, 9] rfl rfl)⟩ rfl rfl hl.1 rfl (lv_room (Nat.le_of_ble_eq_true rfl)) dX4_does_55 ⟨Nat.le_of_ble_eq_true rfl, Nat.le_of_ble_eq_true rfl⟩) [0, 1, 2, 3, 4, 5, 6, 7, 8, 9] [] [0, 1, 2, 3, 4, 5, 6, 7, 8, 9] rfl rfl rfl (by decide +kernel) rfl rfl (fun H locs hP hD hS => ?_)
      obtain ⟨z10, ez10, hf⟩ := elet_out hf
      refine lvn_i ez10 ?_
      refine lv_istore_n (lv' := [(3, .int z10), (2, .int z3), (1, .int z1), (0, .ref (aM 0))]) hx hb dX4_does_58 rfl hl (by decide) rfl (fun ls hl => ?_)
      refine lv_iload_n hx hb dX4_does_59 rfl (lv_at hl 0 rfl) ?_
      refine lv_ldc (v := (-1000002)) hx hb hown hc58 dX4_does_60 ?_
      refine lv_icmp_eq (tgt := 71) hx hb dX4_does_62 (by decide) (fun c11 => ?_) (fun c11 => ?_)
      · have hf := oif_t c11 hf
        exact (hWW _ _ _ _ _ _ _).1 (J71 y9.2 H locs ls hP hD hS (lv_sub hl [] rfl) hf)
      · have hf := oif_f c11 hf
        refine lv_iload_n hx hb dX4_does_65 rfl (lv_at hl 0 rfl) ?_
        refine lv_ldc (v := (-1000003)) hx hb hown hc62 dX4_does_66 ?_
        refine lv_icmp_ne (tgt := 75) hx hb dX4_does_68 (by decide) (fun c12 => ?_) (fun c12 => ?_)
        · have hf := oif_f c12 hf
          refine lv_iconst (v := 0) hx hb dX4_does_75 (by decide) ?_
          obtain rfl := Option.some.inj hf
          exact W.iret (v := 0) hx hb hr (fun t ht hW => ⟨⟨0, (), rfl, rfl, by rw [ht]; exact hP, hD⟩, hS.F ht⟩) hS.2.2 dX4_does_76
        · have hf := oif_t c12 hf
          exact (hWW _ _ _ _ _ _ _).1 (J71 y9.2 H locs ls hP hD hS (lv_sub hl [] rfl) hf)
    · have hf := oif_f c8 hf
      refine lv_iconst (v := 2) hx hb dX4_does_51 (by decide) ?_
      obtain rfl := Option.some.inj hf
      exact W.iret (v := 2) hx hb hr (fun t ht hW => ⟨⟨2, (), rfl, rfl, by rw [ht]; exact hP, hD⟩, hS.F ht⟩) hS.2.2 dX4_does_52
  · have hf := oif_t c5 hf
    refine lv_aload_n hx hb dX4_does_23 rfl (lv_at hl 2 rfl) ?_
    refine lv_aload_n hx hb dX4_does_24 rfl (lv_at hl 2 rfl) ?_
    refine va_get (D := (dC, dI)) (ci := 4) (v := .int (p4_spot y4.2)) (C := RX4) (T := TX4) (N := 21) hx hb hts hiX4 hown hK hP 0 rfl rfl 16 (by decide) hgX4_165 (fun _ h9 => h9) rfl dX4_does_25 ?_
    refine lv_iload_n hx hb dX4_does_28 rfl (lv_at hl 1 rfl) ?_
    refine lv_isub hx hb dX4_does_29 ?_
    obtain ⟨b13, eb13, hf⟩ := elet_out hf
    refine va_put (D := (dC, dI)) (ci := 4) (v := .int ((p4_spot y4.2) - z1)) (ty := .int) (C := RX4) (T := TX4) (N := 21) hx hb hts hiX4 tyX4 tyX4_ok nmX4 hown hK hP hD hS 0 rfl rfl 18 (by decide) hgX4_199 (fun _ h9 => h9) rfl (by decide +kernel) rfl rfl (Nat.le_of_ble_eq_true rfl) dX4_does_30 (fun H locs hP hD hS => ?_)
    have hP : va_P (dC, dI) vwCl [k4_0 aM b13, k4_1 cI aM b13, k4_2 cI aM b13, k4_3 cI aM b13, k4_4 cI aM b13, k4_5 cJ aM b13, k4_6 cI aM b13, k4_7 cJ aM b13, k4_8 cJ aM b13, k4_9 cI aM b13] H := by rw [eb13]; exact hP
    have hD : va_D A [k4_0 aM b13, k4_1 cI aM b13, k4_2 cI aM b13, k4_3 cI aM b13, k4_4 cI aM b13, k4_5 cJ aM b13, k4_6 cI aM b13, k4_7 cJ aM b13, k4_8 cJ aM b13, k4_9 cI aM b13] := by rw [eb13]; exact hD
    refine lv_iconst (v := 1) hx hb dX4_does_33 (by decide) ?_
    obtain rfl := Option.some.inj hf
    exact W.iret (v := 1) hx hb hr (fun t ht hW => ⟨⟨1, (), rfl, rfl, by rw [ht]; exact hP, hD⟩, hS.F ht⟩) hS.2.2 dX4_does_34
def fX4_plays_66 (vM : BX4) (x1 : Int32) : Option (Int32 × BX4) :=
  elet (s4_runs vM 0) (fun b7 => if (p4_reason b7) = 0 then (some ((-1000004), b7)) else (some (x1, b7)))
def fX4_plays_22_b (k22 : BX4 → Int32 → Option (Int32 × BX4)) (vM : BX4) (x1 : Int32) : Option (Int32 × BX4) :=
  if (p4_typed vM) ≤ (p4_spot vM) then (fX4_plays_66 vM x1) else (if (p4_reason vM) = 0 then (elet (p4_spot vM) (fun z3 => (fX4_does vM).bind (fun y4 => elet (s4_reason y4.2 y4.1) (fun b5 => elet (s4_settings b5 ((p4_settings b5) + (1 : Int32))) (fun b6 => k22 b6 z3))))) else (fX4_plays_66 vM x1))
def fX4_plays_22 : Nat → BX4 → Int32 → Option (Int32 × BX4)
  | 0 => fun _ _ => none
  | n + 1 => fX4_plays_22_b (fX4_plays_22 n)
def fX4_plays (vM : BX4) : Option (Int32 × BX4) :=
  elet (s4_runs vM 1) (fun b9 => elet (s4_spot b9 0) (fun b10 => elet (s4_reason b10 0) (fun b11 => elet (s4_settings b11 0) (fun b12 => fX4_plays_22 FU b12 (0 : Int32)))))
set_option maxHeartbeats 8000000 in
set_option maxRecDepth 100000 in
theorem mX4_plays (l : Launch) (dC : Nat → ClassId) (dI : Nat → Nat → Nat) (cI cJ : ClassId) (aM : Nat → Nat) (sz : Nat) (vM : BX4) (y : (Int32 × BX4)) (hf : fX4_plays vM = some y) : Met l yX4_plays wsX4_plays ({ frames := 6, cells := 0, slots := 0, locals := 137 }) (cPc dC dI cI cJ [.ref (aM 0)] [k4_0 aM vM, k4_1 cI aM vM, k4_2 cI aM vM, k4_3 cI aM vM, k4_4 cI aM vM, k4_5 cJ aM vM, k4_6 cI aM vM, k4_7 cJ aM vM, k4_8 cJ aM vM, k4_9 cI aM vM] sz) (va_Qi (fun r (_ : Unit) => r = y.1) (fun _ t => cB dC dI (va_A [k4_0 aM vM, k4_1 cI aM vM, k4_2 cI aM vM, k4_3 cI aM vM, k4_4 cI aM vM, k4_5 cJ aM vM, k4_6 cI aM vM, k4_7 cJ aM vM, k4_8 cJ aM vM, k4_9 cI aM vM] sz) [k4_0 aM y.2, k4_1 cI aM y.2, k4_2 cI aM y.2, k4_3 cI aM y.2, k4_4 cI aM y.2, k4_5 cJ aM y.2, k4_6 cI aM y.2, k4_7 cJ aM y.2, k4_8 cJ aM y.2, k4_9 cI aM y.2] t) (va_A [k4_0 aM vM, k4_1 cI aM vM, k4_2 cI aM vM, k4_3 cI aM vM, k4_4 cI aM vM, k4_5 cJ aM vM, k4_6 cI aM vM, k4_7 cJ aM vM, k4_8 cJ aM vM, k4_9 cI aM vM] sz)) 0 0 (va_A [k4_0 aM vM, k4_1 cI aM vM, k4_2 cI aM vM, k4_3 cI aM vM, k4_4 cI aM vM, k4_5 cJ aM vM, k4_6 cI aM vM, k4_7 cJ aM vM, k4_8 cJ aM vM, k4_9 cI aM vM] sz) := by
  refine Met.ofW (cc := cX4_plays) (maxL := 2) (ret := (some .int)) (by decide) rfl ?_
  intro p e s m args below meth c s₁ B hml hv
  obtain ⟨rfl, hsz, hP, hK, hD0, hN⟩ := hv
  have hx := B.exec
  have hb := B.bytes
  have hr := B.returns
  have hts := atoms_spec (ws := wsX4_plays) B.pre
  have hown : s.vm.findClass RX4 = some m.cls := findClass_of_methodNamed B.named
  have hlocks := B.notSynchronized
  subst hsz
  have hD := hD0.self (sz := s.heap.size)
  generalize hAe : va_A [k4_0 aM vM, k4_1 cI aM vM, k4_2 cI aM vM, k4_3 cI aM vM, k4_4 cI aM vM, k4_5 cJ aM vM, k4_6 cI aM vM, k4_7 cJ aM vM, k4_8 cJ aM vM, k4_9 cI aM vM] s.heap.size = A at hD hN ⊢
  have hA : ∀ q : Nat, s.heap.size ≤ q → A q := fun q h => by rw [← hAe]; exact Or.inr h
  have hP : va_P (dC, dI) vwCl [k4_0 aM vM, k4_1 cI aM vM, k4_2 cI aM vM, k4_3 cI aM vM, k4_4 cI aM vM, k4_5 cJ aM vM, k4_6 cI aM vM, k4_7 cJ aM vM, k4_8 cJ aM vM, k4_9 cI aM vM] s.heap := hP
  have hl := lv_entry ([.ref (aM 0)]) (n := 2) (Nat.le_of_ble_eq_true rfl)
  rw [lg_entry_eq]
  generalize (lg_sl ([.ref (aM 0)]) ++ List.replicate (2 - (lg_sl ([.ref (aM 0)])).length) Slot.unset).toArray = ls at hl ⊢
  have hl : lv_has ls 2 [(0, .ref (aM 0))] := hl
  have hiX4 : ∀ w ∈ u_ws RX4 TX4 21, w ∈ wsX4_plays := by decide +kernel
  have hgX4_165 := hts (.fieldLink RX4 165 "SpringPlatesModel" "spot" "I") (by decide +kernel)
  have hgX4_162 := hts (.fieldLink RX4 162 "SpringPlatesModel" "typed" "I") (by decide +kernel)
  have hgX4_208 := hts (.fieldLink RX4 208 "SpringPlatesModel" "reason" "I") (by decide +kernel)
  have hgX4_211 := hts (.fieldLink RX4 211 "SpringPlatesModel" "settings" "I") (by decide +kernel)
  have hgX4_38 := hts (.fieldLink RX4 38 "SpringPlatesModel" "runs" "Z") (by decide +kernel)
  have hc78 := hts (.constant RX4 78 (-1000004)) (by decide +kernel)
  refine nameH (fun H locs hHe hLe => ?_)
  have hP : va_P (dC, dI) vwCl [k4_0 aM vM, k4_1 cI aM vM, k4_2 cI aM vM, k4_3 cI aM vM, k4_4 cI aM vM, k4_5 cJ aM vM, k4_6 cI aM vM, k4_7 cJ aM vM, k4_8 cJ aM vM, k4_9 cI aM vM] H := by rw [hHe]; exact hP
  have hS : va_S A s.heap H locs := by rw [hHe, hLe]; exact va_S.rf
  refine withW (fun WW hWW => ?_)
  have J66 : ∀ (vM : BX4) (x1 : Int32) (H : Heap) (locs : List Loc) (ls : Array Slot), va_P (dC, dI) vwCl [k4_0 aM vM, k4_1 cI aM vM, k4_2 cI aM vM, k4_3 cI aM vM, k4_4 cI aM vM, k4_5 cJ aM vM, k4_6 cI aM vM, k4_7 cJ aM vM, k4_8 cJ aM vM, k4_9 cI aM vM] H → va_D A [k4_0 aM vM, k4_1 cI aM vM, k4_2 cI aM vM, k4_3 cI aM vM, k4_4 cI aM vM, k4_5 cJ aM vM, k4_6 cI aM vM, k4_7 cJ aM vM, k4_8 cJ aM vM, k4_9 cI aM vM] → va_S A s.heap H locs → lv_has ls 2 [(0, .ref (aM 0)), (1, .int x1)] → fX4_plays_66 vM x1 = some y → WW H locs 0 0 ls 66 [] := by
    intro vM x1 H locs ls hP hD hS hl hf
    unfold fX4_plays_66 at hf
    refine (hWW _ _ _ _ _ _ _).2 ?_
    refine lv_aload_n hx hb dX4_plays_66 rfl (lv_at hl 0 rfl) ?_
    refine lv_iconst (v := 0) hx hb dX4_plays_67 (by decide) ?_
    obtain ⟨b7, eb7, hf⟩ := elet_out hf
    refine va_put (D := (dC, dI)) (ci := 4) (v := .int 0) (ty := .boolean) (C := RX4) (T := TX4) (N := 21) hx hb hts hiX4 tyX4 tyX4_ok nmX4 hown hK hP hD hS 0 rfl rfl 4 (by decide) hgX4_38 (fun _ h9 => h9) rfl (by decide +kernel) rfl rfl (Nat.le_of_ble_eq_true rfl) dX4_plays_68 (fun H locs hP hD hS => ?_)
    have hP : va_P (dC, dI) vwCl [k4_0 aM b7, k4_1 cI aM b7, k4_2 cI aM b7, k4_3 cI aM b7, k4_4 cI aM b7, k4_5 cJ aM b7, k4_6 cI aM b7, k4_7 cJ aM b7, k4_8 cJ aM b7, k4_9 cI aM b7] H := by rw [eb7]; exact hP
    have hD : va_D A [k4_0 aM b7, k4_1 cI aM b7, k4_2 cI aM b7, k4_3 cI aM b7, k4_4 cI aM b7, k4_5 cJ aM b7, k4_6 cI aM b7, k4_7 cJ aM b7, k4_8 cJ aM b7, k4_9 cI aM b7] := by rw [eb7]; exact hD
    refine lv_aload_n hx hb dX4_plays_71 rfl (lv_at hl 0 rfl) ?_
    refine va_get (D := (dC, dI)) (ci := 4) (v := .int (p4_reason b7)) (C := RX4) (T := TX4) (N := 21) hx hb hts hiX4 hown hK hP 0 rfl rfl 17 (by decide) hgX4_208 (fun _ h9 => h9) rfl dX4_plays_72 ?_
    refine lv_if_ne (tgt := 83) hx hb dX4_plays_75 (by decide) (fun c8 => ?_) (fun c8 => ?_)
    · have hf := oif_f c8 hf
      refine lv_iload_n hx hb dX4_plays_83 rfl (lv_at hl 1 rfl) ?_
      obtain rfl := Option.some.inj hf
      exact W.iret (v := x1) hx hb hr (fun t ht hW => ⟨⟨x1, (), rfl, rfl, by rw [ht]; exact hP, hD⟩, hS.F ht⟩) hS.2.2 dX4_plays_84
    · have hf := oif_t c8 hf
      refine lv_ldc (v := (-1000004)) hx hb hown hc78 dX4_plays_78 ?_
      refine lv_goto (tgt := 84) hx hb dX4_plays_80 (by decide) ?_
      obtain rfl := Option.some.inj hf
      exact W.iret (v := (-1000004)) hx hb hr (fun t ht hW => ⟨⟨(-1000004), (), rfl, rfl, by rw [ht]; exact hP, hD⟩, hS.F ht⟩) hS.2.2 dX4_plays_84
  have L22 : ∀ (n : Nat) (vM : BX4) (x1 : Int32) (H : Heap) (locs : List Loc) (ls : Array Slot), va_P (dC, dI) vwCl [k4_0 aM vM, k4_1 cI aM vM, k4_2 cI aM vM, k4_3 cI aM vM, k4_4 cI aM vM, k4_5 cJ aM vM, k4_6 cI aM vM, k4_7 cJ aM vM, k4_8 cJ aM vM, k4_9 cI aM vM] H → va_D A [k4_0 aM vM, k4_1 cI aM vM, k4_2 cI aM vM, k4_3 cI aM vM, k4_4 cI aM vM, k4_5 cJ aM vM, k4_6 cI aM vM, k4_7 cJ aM vM, k4_8 cJ aM vM, k4_9 cI aM vM] → va_S A s.heap H locs → lv_has ls 2 [(0, .ref (aM 0)), (1, .int x1)] → fX4_plays_22 n vM x1 = some y → WW H locs 0 0 ls 22 [] := by
    intro n
    induction n with
    | zero =>
      intro vM x1 H locs ls hP hD hS hl hf
      exact onone hf
    | succ n ih =>
      intro vM x1 H locs ls hP hD hS hl hf
      have hf : fX4_plays_22_b (fX4_plays_22 n) vM x1 = some y := hf
      generalize fX4_plays_22 n = k22 at hf ih
      have hk22 := ih
      clear ih
      unfold fX4_plays_22_b at hf
      refine (hWW _ _ _ _ _ _ _).2 ?_
      refine lv_aload_n hx hb dX4_plays_22 rfl (lv_at hl 0 rfl) ?_
      refine va_get (D := (dC, dI)) (ci := 4) (v := .int (p4_spot vM)) (C := RX4) (T := TX4) (N := 21) hx hb hts hiX4 hown hK hP 0 rfl rfl 16 (by decide) hgX4_165 (fun _ h9 => h9) rfl dX4_plays_23 ?_
      refine lv_aload_n hx hb dX4_plays_26 rfl (lv_at hl 0 rfl) ?_
      refine va_get (D := (dC, dI)) (ci := 4) (v := .int (p4_typed vM)) (C := RX4) (T := TX4) (N := 21) hx hb hts hiX4 hown hK hP 0 rfl rfl 6 (by decide) hgX4_162 (fun _ h9 => h9) rfl dX4_plays_27 ?_
      refine lv_icmp_ge (tgt := 66) hx hb dX4_plays_30 (by decide) (fun c1 => ?_) (fun c1 => ?_)
      · have hf := oif_t c1 hf
        exact (hWW _ _ _ _ _ _ _).1 (J66 vM x1 H locs ls hP hD hS (lv_sub hl [0, 1] rfl) hf)
      · have hf := oif_f c1 hf
        refine lv_aload_n hx hb dX4_plays_33 rfl (lv_at hl 0 rfl) ?_
        refine va_get (D := (dC, dI)) (ci := 4) (v := .int (p4_reason vM)) (C := RX4) (T := TX4) (N := 21) hx hb hts hiX4 hown hK hP 0 rfl rfl 17 (by decide) hgX4_208 (fun _ h9 => h9) rfl dX4_plays_34 ?_
        refine lv_if_ne (tgt := 66) hx hb dX4_plays_37 (by decide) (fun c2 => ?_) (fun c2 => ?_)
        · have hf := oif_f c2 hf
          exact (hWW _ _ _ _ _ _ _).1 (J66 vM x1 H locs ls hP hD hS (lv_sub hl [0, 1] rfl) hf)
        · have hf := oif_t c2 hf
          refine lv_aload_n hx hb dX4_plays_40 rfl (lv_at hl 0 rfl) ?_
          refine va_get (D := (dC, dI)) (ci := 4) (v := .int (p4_spot vM)) (C := RX4) (T := TX4) (N := 21) hx hb hts hiX4 hown hK hP 0 rfl rfl 16 (by decide) hgX4_165 (fun _ h9 => h9) rfl dX4_plays_41 ?_
          obtain ⟨z3, ez3, hf⟩ := elet_out hf
          refine lvn_i ez3 ?_
          refine lv_istore_n (lv' := [(1, .int z3), (0, .ref (aM 0))]) hx hb dX4_plays_44 rfl hl (by decide) rfl (fun ls hl => ?_)
          refine lv_aload_n hx hb dX4_plays_45 rfl (lv_at hl 1 rfl) ?_
          refine lv_aload_n hx hb dX4_plays_46 rfl (lv_at hl 1 rfl) ?_
          obtain ⟨y4, hy4, hf⟩ := obind hf
          refine cg_i (ws := [k4_0 aM vM, k4_1 cI aM vM, k4_2 cI aM vM, k4_3 cI aM vM, k4_4 cI aM vM, k4_5 cJ aM vM, k4_6 cI aM vM, k4_7 cJ aM vM, k4_8 cJ aM vM, k4_9 cI aM vM]) (wc := [k4_0 aM vM, k4_1 cI aM vM, k4_2 cI aM vM, k4_3 cI aM vM, k4_4 cI aM vM, k4_5 cJ aM vM, k4_6 cI aM vM, k4_7 cJ aM vM, k4_8 cJ aM vM, k4_9 cI aM vM]) (wr := []) (w1 := [k4_0 aM y4.2, k4_1 cI aM y4.2, k4_2 cI aM y4.2, k4_3 cI aM y4.2, k4_4 cI aM y4.2, k4_5 cJ aM y4.2, k4_6 cI aM y4.2, k4_7 cJ aM y4.2, k4_8 cJ aM y4.2, k4_9 cI aM y4.2]) (wo := [k4_0 aM y4.2, k4_1 cI aM y4.2, k4_2 cI aM y4.2, k4_3 cI aM y4.2, k4_4 cI aM y4.2, k4_5 cJ aM y4.2, k4_6 cI aM y4.2, k4_7 cJ aM y4.2, k4_8 cJ aM y4.2, k4_9 cI aM y4.2]) hP hD hS hA (va_runV (As := []) (rest := [.ref (aM 0)]) ⟨hx, hb, hml, hown, hts⟩ (mX4_does l dC dI cI cJ aM H.size vM y4 hy4) (cwV 0 hts gX4_plays_X4_does rfl rfl rfl (by decide +kernel) ⟨Nat.le_of_ble_eq_true rfl, Nat.le_of_ble_eq_true rfl⟩) ⟨cFB, va_recv hK hP (ci := 4) (q0 := 0) rfl rfl, cPre hK hN hS (va_free (wc := [k4_0 aM vM, k4_1 cI aM vM, k4_2 cI aM vM, k4_3 cI aM vM, k4_4 cI aM vM, k4_5 cJ aM vM, k4_6 cI aM vM, k4_7 cJ aM vM, k4_8 cJ aM vM, k4_9 cI aM vM]) hD hS hA [0, 1, 2, 3, 4, 5, 6, 7, 8, 9] rfl) (hP.sub [0, 1, 2, 3, 4, 5, 6, 7, 8, 9] rfl) (hD.sub [0, 1, 2, 3, 4, 5, 6, 7, 8, 9] rfl rfl)⟩ rfl rfl hl.1 rfl (lv_room (Nat.le_of_ble_eq_true rfl)) dX4_plays_47 ⟨Nat.le_of_ble_eq_true rfl, Nat.le_of_ble_eq_true rfl⟩) [0, 1, 2, 3, 4, 5, 6, 7, 8, 9] [] [0, 1, 2, 3, 4, 5, 6, 7, 8, 9] rfl rfl rfl (by decide +kernel) rfl rfl (fun H locs hP hD hS => ?_)
          obtain ⟨b5, eb5, hf⟩ := elet_out hf
          refine va_put (D := (dC, dI)) (ci := 4) (v := .int y4.1) (ty := .int) (C := RX4) (T := TX4) (N := 21) hx hb hts hiX4 tyX4 tyX4_ok nmX4 hown hK hP hD hS 0 rfl rfl 17 (by decide) hgX4_208 (fun _ h9 => h9) rfl (by decide +kernel) rfl rfl (Nat.le_of_ble_eq_true rfl) dX4_plays_50 (fun H locs hP hD hS => ?_)
          have hP : va_P (dC, dI) vwCl [k4_0 aM b5, k4_1 cI aM b5, k4_2 cI aM b5, k4_3 cI aM b5, k4_4 cI aM b5, k4_5 cJ aM b5, k4_6 cI aM b5, k4_7 cJ aM b5, k4_8 cJ aM b5, k4_9 cI aM b5] H := by rw [eb5]; exact hP
          have hD : va_D A [k4_0 aM b5, k4_1 cI aM b5, k4_2 cI aM b5, k4_3 cI aM b5, k4_4 cI aM b5, k4_5 cJ aM b5, k4_6 cI aM b5, k4_7 cJ aM b5, k4_8 cJ aM b5, k4_9 cI aM b5] := by rw [eb5]; exact hD
          refine lv_aload_n hx hb dX4_plays_53 rfl (lv_at hl 1 rfl) ?_
          refine lv_dup hx hb dX4_plays_54 rfl ?_
          refine va_get (D := (dC, dI)) (ci := 4) (v := .int (p4_settings b5)) (C := RX4) (T := TX4) (N := 21) hx hb hts hiX4 hown hK hP 0 rfl rfl 19 (by decide) hgX4_211 (fun _ h9 => h9) rfl dX4_plays_55 ?_
          refine lv_iconst (v := 1) hx hb dX4_plays_58 (by decide) ?_
          refine lv_iadd hx hb dX4_plays_59 ?_
          obtain ⟨b6, eb6, hf⟩ := elet_out hf
          refine va_put (D := (dC, dI)) (ci := 4) (v := .int ((p4_settings b5) + (1 : Int32))) (ty := .int) (C := RX4) (T := TX4) (N := 21) hx hb hts hiX4 tyX4 tyX4_ok nmX4 hown hK hP hD hS 0 rfl rfl 19 (by decide) hgX4_211 (fun _ h9 => h9) rfl (by decide +kernel) rfl rfl (Nat.le_of_ble_eq_true rfl) dX4_plays_60 (fun H locs hP hD hS => ?_)
          have hP : va_P (dC, dI) vwCl [k4_0 aM b6, k4_1 cI aM b6, k4_2 cI aM b6, k4_3 cI aM b6, k4_4 cI aM b6, k4_5 cJ aM b6, k4_6 cI aM b6, k4_7 cJ aM b6, k4_8 cJ aM b6, k4_9 cI aM b6] H := by rw [eb6]; exact hP
          have hD : va_D A [k4_0 aM b6, k4_1 cI aM b6, k4_2 cI aM b6, k4_3 cI aM b6, k4_4 cI aM b6, k4_5 cJ aM b6, k4_6 cI aM b6, k4_7 cJ aM b6, k4_8 cJ aM b6, k4_9 cI aM b6] := by rw [eb6]; exact hD
          refine lv_goto (tgt := 22) hx hb dX4_plays_63 (by decide) ?_
          exact (hWW _ _ _ _ _ _ _).1 (hk22 b6 z3 H locs ls hP hD hS (lv_sub hl [1, 0] rfl) hf)
  refine (hWW _ _ _ _ _ _ _).2 ?_
  unfold fX4_plays at hf
  refine lv_aload_n hx hb dX4_plays_0 rfl (lv_at hl 0 rfl) ?_
  refine lv_iconst (v := 1) hx hb dX4_plays_1 (by decide) ?_
  obtain ⟨b9, eb9, hf⟩ := elet_out hf
  refine va_put (D := (dC, dI)) (ci := 4) (v := .int 1) (ty := .boolean) (C := RX4) (T := TX4) (N := 21) hx hb hts hiX4 tyX4 tyX4_ok nmX4 hown hK hP hD hS 0 rfl rfl 4 (by decide) hgX4_38 (fun _ h9 => h9) rfl (by decide +kernel) rfl rfl (Nat.le_of_ble_eq_true rfl) dX4_plays_2 (fun H locs hP hD hS => ?_)
  have hP : va_P (dC, dI) vwCl [k4_0 aM b9, k4_1 cI aM b9, k4_2 cI aM b9, k4_3 cI aM b9, k4_4 cI aM b9, k4_5 cJ aM b9, k4_6 cI aM b9, k4_7 cJ aM b9, k4_8 cJ aM b9, k4_9 cI aM b9] H := by rw [eb9]; exact hP
  have hD : va_D A [k4_0 aM b9, k4_1 cI aM b9, k4_2 cI aM b9, k4_3 cI aM b9, k4_4 cI aM b9, k4_5 cJ aM b9, k4_6 cI aM b9, k4_7 cJ aM b9, k4_8 cJ aM b9, k4_9 cI aM b9] := by rw [eb9]; exact hD
  refine lv_aload_n hx hb dX4_plays_5 rfl (lv_at hl 0 rfl) ?_
  refine lv_iconst (v := 0) hx hb dX4_plays_6 (by decide) ?_
  obtain ⟨b10, eb10, hf⟩ := elet_out hf
  refine va_put (D := (dC, dI)) (ci := 4) (v := .int 0) (ty := .int) (C := RX4) (T := TX4) (N := 21) hx hb hts hiX4 tyX4 tyX4_ok nmX4 hown hK hP hD hS 0 rfl rfl 16 (by decide) hgX4_165 (fun _ h9 => h9) rfl (by decide +kernel) rfl rfl (Nat.le_of_ble_eq_true rfl) dX4_plays_7 (fun H locs hP hD hS => ?_)
  have hP : va_P (dC, dI) vwCl [k4_0 aM b10, k4_1 cI aM b10, k4_2 cI aM b10, k4_3 cI aM b10, k4_4 cI aM b10, k4_5 cJ aM b10, k4_6 cI aM b10, k4_7 cJ aM b10, k4_8 cJ aM b10, k4_9 cI aM b10] H := by rw [eb10]; exact hP
  have hD : va_D A [k4_0 aM b10, k4_1 cI aM b10, k4_2 cI aM b10, k4_3 cI aM b10, k4_4 cI aM b10, k4_5 cJ aM b10, k4_6 cI aM b10, k4_7 cJ aM b10, k4_8 cJ aM b10, k4_9 cI aM b10] := by rw [eb10]; exact hD
  refine lv_aload_n hx hb dX4_plays_10 rfl (lv_at hl 0 rfl) ?_
  refine lv_iconst (v := 0) hx hb dX4_plays_11 (by decide) ?_
  obtain ⟨b11, eb11, hf⟩ := elet_out hf
  refine va_put (D := (dC, dI)) (ci := 4) (v := .int 0) (ty := .int) (C := RX4) (T := TX4) (N := 21) hx hb hts hiX4 tyX4 tyX4_ok nmX4 hown hK hP hD hS 0 rfl rfl 17 (by decide) hgX4_208 (fun _ h9 => h9) rfl (by decide +kernel) rfl rfl (Nat.le_of_ble_eq_true rfl) dX4_plays_12 (fun H locs hP hD hS => ?_)
  have hP : va_P (dC, dI) vwCl [k4_0 aM b11, k4_1 cI aM b11, k4_2 cI aM b11, k4_3 cI aM b11, k4_4 cI aM b11, k4_5 cJ aM b11, k4_6 cI aM b11, k4_7 cJ aM b11, k4_8 cJ aM b11, k4_9 cI aM b11] H := by rw [eb11]; exact hP
  have hD : va_D A [k4_0 aM b11, k4_1 cI aM b11, k4_2 cI aM b11, k4_3 cI aM b11, k4_4 cI aM b11, k4_5 cJ aM b11, k4_6 cI aM b11, k4_7 cJ aM b11, k4_8 cJ aM b11, k4_9 cI aM b11] := by rw [eb11]; exact hD
  refine lv_aload_n hx hb dX4_plays_15 rfl (lv_at hl 0 rfl) ?_
  refine lv_iconst (v := 0) hx hb dX4_plays_16 (by decide) ?_
  obtain ⟨b12, eb12, hf⟩ := elet_out hf
  refine va_put (D := (dC, dI)) (ci := 4) (v := .int 0) (ty := .int) (C := RX4) (T := TX4) (N := 21) hx hb hts hiX4 tyX4 tyX4_ok nmX4 hown hK hP hD hS 0 rfl rfl 19 (by decide) hgX4_211 (fun _ h9 => h9) rfl (by decide +kernel) rfl rfl (Nat.le_of_ble_eq_true rfl) dX4_plays_17 (fun H locs hP hD hS => ?_)
  have hP : va_P (dC, dI) vwCl [k4_0 aM b12, k4_1 cI aM b12, k4_2 cI aM b12, k4_3 cI aM b12, k4_4 cI aM b12, k4_5 cJ aM b12, k4_6 cI aM b12, k4_7 cJ aM b12, k4_8 cJ aM b12, k4_9 cI aM b12] H := by rw [eb12]; exact hP
  have hD : va_D A [k4_0 aM b12, k4_1 cI aM b12, k4_2 cI aM b12, k4_3 cI aM b12, k4_4 cI aM b12, k4_5 cJ aM b12, k4_6 cI aM b12, k4_7 cJ aM b12, k4_8 cJ aM b12, k4_9 cI aM b12] := by rw [eb12]; exact hD
  refine lv_iconst (v := 0) hx hb dX4_plays_20 (by decide) ?_
  refine lv_istore_n (lv' := [(1, .int 0), (0, .ref (aM 0))]) hx hb dX4_plays_21 rfl hl (by decide) rfl (fun ls hl => ?_)
  exact (hWW _ _ _ _ _ _ _).1 (L22 FU b12 (0 : Int32) H locs ls hP hD hS (lv_sub hl [1, 0] rfl) hf)
def fX4_fault_49 (vM : BX4) (x2 : Int32) : Option (Int32 × BX4) :=
  some (x2, vM)
def fX4_fault (vM : BX4) (i1 : Int32) : Option (Int32 × BX4) :=
  (fX4_in i1 (0 : Int32) (2 : Int32)).bind (fun y1 => if y1 = 0 then (some ((-1000001), vM)) else ((fX4_copies (p4_s vM) (p4_held vM)).bind (fun y3 => (fX4_plays (s4_held vM y3)).bind (fun y4 => elet y4.1 (fun z5 => (fX4_copies (p4_held y4.2) (p4_s y4.2)).bind (fun y6 => if z5 = (-1000004 : Int32) then (fX4_fault_49 (s4_s y4.2 y6) z5) else (if i1 = 0 then (fX4_fault_49 (s4_s y4.2 y6) z5) else (if i1 = (1 : Int32) then (some ((p4_reason (s4_s y4.2 y6)), (s4_s y4.2 y6))) else (if (p4_reason (s4_s y4.2 y6)) = (3 : Int32) then (some ((-1000004), (s4_s y4.2 y6))) else (some ((p4_cause (s4_s y4.2 y6)), (s4_s y4.2 y6))))))))))))
set_option maxHeartbeats 8000000 in
set_option maxRecDepth 100000 in
theorem mX4_fault (l : Launch) (dC : Nat → ClassId) (dI : Nat → Nat → Nat) (cI cJ : ClassId) (aM : Nat → Nat) (sz : Nat) (vM : BX4) (i1 : Int32) (y : (Int32 × BX4)) (hf : fX4_fault vM i1 = some y) : Met l yX4_fault wsX4_fault ({ frames := 7, cells := 0, slots := 0, locals := 158 }) (cPc dC dI cI cJ [.ref (aM 0), .int i1] [k4_0 aM vM, k4_1 cI aM vM, k4_2 cI aM vM, k4_3 cI aM vM, k4_4 cI aM vM, k4_5 cJ aM vM, k4_6 cI aM vM, k4_7 cJ aM vM, k4_8 cJ aM vM, k4_9 cI aM vM] sz) (va_Qi (fun r (_ : Unit) => r = y.1) (fun _ t => cB dC dI (va_A [k4_0 aM vM, k4_1 cI aM vM, k4_2 cI aM vM, k4_3 cI aM vM, k4_4 cI aM vM, k4_5 cJ aM vM, k4_6 cI aM vM, k4_7 cJ aM vM, k4_8 cJ aM vM, k4_9 cI aM vM] sz) [k4_0 aM y.2, k4_1 cI aM y.2, k4_2 cI aM y.2, k4_3 cI aM y.2, k4_4 cI aM y.2, k4_5 cJ aM y.2, k4_6 cI aM y.2, k4_7 cJ aM y.2, k4_8 cJ aM y.2, k4_9 cI aM y.2] t) (va_A [k4_0 aM vM, k4_1 cI aM vM, k4_2 cI aM vM, k4_3 cI aM vM, k4_4 cI aM vM, k4_5 cJ aM vM, k4_6 cI aM vM, k4_7 cJ aM vM, k4_8 cJ aM vM, k4_9 cI aM vM] sz)) 0 0 (va_A [k4_0 aM vM, k4_1 cI aM vM, k4_2 cI aM vM, k4_3 cI aM vM, k4_4 cI aM vM, k4_5 cJ aM vM, k4_6 cI aM vM, k4_7 cJ aM vM, k4_8 cJ aM vM, k4_9 cI aM vM] sz) := by
  refine Met.ofW (cc := cX4_fault) (maxL := 3) (ret := (some .int)) (by decide) rfl ?_
  intro p e s m args below meth c s₁ B hml hv
  obtain ⟨rfl, hsz, hP, hK, hD0, hN⟩ := hv
  have hx := B.exec
  have hb := B.bytes
  have hr := B.returns
  have hts := atoms_spec (ws := wsX4_fault) B.pre
  have hown : s.vm.findClass RX4 = some m.cls := findClass_of_methodNamed B.named
  have hlocks := B.notSynchronized
  subst hsz
  have hD := hD0.self (sz := s.heap.size)
  generalize hAe : va_A [k4_0 aM vM, k4_1 cI aM vM, k4_2 cI aM vM, k4_3 cI aM vM, k4_4 cI aM vM, k4_5 cJ aM vM, k4_6 cI aM vM, k4_7 cJ aM vM, k4_8 cJ aM vM, k4_9 cI aM vM] s.heap.size = A at hD hN ⊢
  have hA : ∀ q : Nat, s.heap.size ≤ q → A q := fun q h => by rw [← hAe]; exact Or.inr h
  have hP : va_P (dC, dI) vwCl [k4_0 aM vM, k4_1 cI aM vM, k4_2 cI aM vM, k4_3 cI aM vM, k4_4 cI aM vM, k4_5 cJ aM vM, k4_6 cI aM vM, k4_7 cJ aM vM, k4_8 cJ aM vM, k4_9 cI aM vM] s.heap := hP
  have hl := lv_entry ([.ref (aM 0), .int i1]) (n := 3) (Nat.le_of_ble_eq_true rfl)
  rw [lg_entry_eq]
  generalize (lg_sl ([.ref (aM 0), .int i1]) ++ List.replicate (3 - (lg_sl ([.ref (aM 0), .int i1])).length) Slot.unset).toArray = ls at hl ⊢
  have hl : lv_has ls 3 [(0, .ref (aM 0)), (1, .int i1)] := hl
  have hiX4 : ∀ w ∈ u_ws RX4 TX4 21, w ∈ wsX4_fault := by decide +kernel
  have hgX4_7 := hts (.fieldLink RX4 7 "SpringPlatesModel" "s" "[I") (by decide +kernel)
  have hgX4_16 := hts (.fieldLink RX4 16 "SpringPlatesModel" "held" "[I") (by decide +kernel)
  have hc78 := hts (.constant RX4 78 (-1000004)) (by decide +kernel)
  have hgX4_208 := hts (.fieldLink RX4 208 "SpringPlatesModel" "reason" "I") (by decide +kernel)
  have hgX4_199 := hts (.fieldLink RX4 199 "SpringPlatesModel" "cause" "I") (by decide +kernel)
  have hc57 := hts (.constant RX4 57 (-1000001)) (by decide +kernel)
  refine nameH (fun H locs hHe hLe => ?_)
  have hP : va_P (dC, dI) vwCl [k4_0 aM vM, k4_1 cI aM vM, k4_2 cI aM vM, k4_3 cI aM vM, k4_4 cI aM vM, k4_5 cJ aM vM, k4_6 cI aM vM, k4_7 cJ aM vM, k4_8 cJ aM vM, k4_9 cI aM vM] H := by rw [hHe]; exact hP
  have hS : va_S A s.heap H locs := by rw [hHe, hLe]; exact va_S.rf
  refine withW (fun WW hWW => ?_)
  have J49 : ∀ (vM : BX4) (x2 : Int32) (H : Heap) (locs : List Loc) (ls : Array Slot), va_P (dC, dI) vwCl [k4_0 aM vM, k4_1 cI aM vM, k4_2 cI aM vM, k4_3 cI aM vM, k4_4 cI aM vM, k4_5 cJ aM vM, k4_6 cI aM vM, k4_7 cJ aM vM, k4_8 cJ aM vM, k4_9 cI aM vM] H → va_D A [k4_0 aM vM, k4_1 cI aM vM, k4_2 cI aM vM, k4_3 cI aM vM, k4_4 cI aM vM, k4_5 cJ aM vM, k4_6 cI aM vM, k4_7 cJ aM vM, k4_8 cJ aM vM, k4_9 cI aM vM] → va_S A s.heap H locs → lv_has ls 3 [(2, .int x2)] → fX4_fault_49 vM x2 = some y → WW H locs 0 0 ls 49 [] := by
    intro vM x2 H locs ls hP hD hS hl hf
    unfold fX4_fault_49 at hf
    refine (hWW _ _ _ _ _ _ _).2 ?_
    refine lv_iload_n hx hb dX4_fault_49 rfl (lv_at hl 0 rfl) ?_
    refine lv_goto (tgt := 82) hx hb dX4_fault_50 (by decide) ?_
    obtain rfl := Option.some.inj hf
    exact W.iret (v := x2) hx hb hr (fun t ht hW => ⟨⟨x2, (), rfl, rfl, by rw [ht]; exact hP, hD⟩, hS.F ht⟩) hS.2.2 dX4_fault_82
  refine (hWW _ _ _ _ _ _ _).2 ?_
  unfold fX4_fault at hf
  refine lv_iload_n hx hb dX4_fault_0 rfl (lv_at hl 1 rfl) ?_
  refine lv_iconst (v := 0) hx hb dX4_fault_1 (by decide) ?_
  refine lv_iconst (v := 2) hx hb dX4_fault_2 (by decide) ?_
  obtain ⟨y1, hy1, hf⟩ := obind hf
  refine cg_i (ws := [k4_0 aM vM, k4_1 cI aM vM, k4_2 cI aM vM, k4_3 cI aM vM, k4_4 cI aM vM, k4_5 cJ aM vM, k4_6 cI aM vM, k4_7 cJ aM vM, k4_8 cJ aM vM, k4_9 cI aM vM]) (wc := []) (wr := [k4_0 aM vM, k4_1 cI aM vM, k4_2 cI aM vM, k4_3 cI aM vM, k4_4 cI aM vM, k4_5 cJ aM vM, k4_6 cI aM vM, k4_7 cJ aM vM, k4_8 cJ aM vM, k4_9 cI aM vM]) (w1 := []) (wo := [k4_0 aM vM, k4_1 cI aM vM, k4_2 cI aM vM, k4_3 cI aM vM, k4_4 cI aM vM, k4_5 cJ aM vM, k4_6 cI aM vM, k4_7 cJ aM vM, k4_8 cJ aM vM, k4_9 cI aM vM]) hP hD hS hA (va_runS (As := [.int i1, .int 0, .int 2]) (rest := []) ⟨hx, hb, hml, hown, hts⟩ (mX4_in l dC dI cI cJ  H.size i1 (0 : Int32) (2 : Int32) y1 hy1) (va_cwS 3 hts gX4_fault_X4_in rfl rfl rfl (by decide +kernel) ⟨Nat.le_of_ble_eq_true rfl, Nat.le_of_ble_eq_true rfl⟩) ⟨cFB, cPre hK hN hS (va_free (wc := []) hD hS hA [] rfl) (hP.sub [] rfl) (hD.sub [] rfl rfl)⟩ rfl rfl hl.1 rfl (lv_room (Nat.le_of_ble_eq_true rfl)) dX4_fault_3 ⟨Nat.le_of_ble_eq_true rfl, Nat.le_of_ble_eq_true rfl⟩) [] [0, 1, 2, 3, 4, 5, 6, 7, 8, 9] [0, 1, 2, 3, 4, 5, 6, 7, 8, 9] rfl rfl rfl (by decide +kernel) rfl rfl (fun H locs hP hD hS => ?_)
  refine lv_if_ne (tgt := 12) hx hb dX4_fault_6 (by decide) (fun c2 => ?_) (fun c2 => ?_)
  · have hf := oif_f c2 hf
    refine lv_aload_n hx hb dX4_fault_12 rfl (lv_at hl 0 rfl) ?_
    refine va_get (D := (dC, dI)) (ci := 4) (v := .ref (aM 1)) (C := RX4) (T := TX4) (N := 21) hx hb hts hiX4 hown hK hP 0 rfl rfl 0 (by decide) hgX4_7 (fun _ h9 => h9) rfl dX4_fault_13 ?_
    refine lv_aload_n hx hb dX4_fault_16 rfl (lv_at hl 0 rfl) ?_
    refine va_get (D := (dC, dI)) (ci := 4) (v := .ref (aM 3)) (C := RX4) (T := TX4) (N := 21) hx hb hts hiX4 hown hK hP 0 rfl rfl 2 (by decide) hgX4_16 (fun _ h9 => h9) rfl dX4_fault_17 ?_
    obtain ⟨y3, hy3, hf⟩ := obind hf
    refine cg_v (ws := [k4_0 aM vM, k4_1 cI aM vM, k4_2 cI aM vM, k4_3 cI aM vM, k4_4 cI aM vM, k4_5 cJ aM vM, k4_6 cI aM vM, k4_7 cJ aM vM, k4_8 cJ aM vM, k4_9 cI aM vM]) (wc := [k4_1 cI aM vM, k4_3 cI aM vM]) (wr := [k4_0 aM vM, k4_2 cI aM vM, k4_4 cI aM vM, k4_5 cJ aM vM, k4_6 cI aM vM, k4_7 cJ aM vM, k4_8 cJ aM vM, k4_9 cI aM vM]) (w1 := [k4_1 cI aM (s4_held vM y3), k4_3 cI aM (s4_held vM y3)]) (wo := [k4_0 aM (s4_held vM y3), k4_1 cI aM (s4_held vM y3), k4_2 cI aM (s4_held vM y3), k4_3 cI aM (s4_held vM y3), k4_4 cI aM (s4_held vM y3), k4_5 cJ aM (s4_held vM y3), k4_6 cI aM (s4_held vM y3), k4_7 cJ aM (s4_held vM y3), k4_8 cJ aM (s4_held vM y3), k4_9 cI aM (s4_held vM y3)]) hP hD hS hA (va_runS (As := [.ref (aM 1), .ref (aM 3)]) (rest := []) ⟨hx, hb, hml, hown, hts⟩ (mX4_copies l dC dI cI cJ (aM 1) (aM 3) H.size (p4_s vM) (p4_held vM) y3 hy3) (va_cwS 2 hts gX4_fault_X4_copies rfl rfl rfl (by decide +kernel) ⟨Nat.le_of_ble_eq_true rfl, Nat.le_of_ble_eq_true rfl⟩) ⟨cFB, cPre hK hN hS (va_free (wc := [k4_1 cI aM vM, k4_3 cI aM vM]) hD hS hA [1, 3] rfl) (hP.sub [1, 3] rfl) (hD.sub [1, 3] rfl rfl)⟩ rfl rfl hl.1 rfl (lv_room (Nat.le_of_ble_eq_true rfl)) dX4_fault_20 ⟨Nat.le_of_ble_eq_true rfl, Nat.le_of_ble_eq_true rfl⟩) [1, 3] [0, 2, 4, 5, 6, 7, 8, 9] [0, 8, 1, 9, 2, 3, 4, 5, 6, 7] rfl rfl rfl (by decide +kernel) rfl rfl (fun H locs hP hD hS => ?_)
    refine lv_aload_n hx hb dX4_fault_23 rfl (lv_at hl 0 rfl) ?_
    obtain ⟨y4, hy4, hf⟩ := obind hf
    refine cg_i (ws := [k4_0 aM (s4_held vM y3), k4_1 cI aM (s4_held vM y3), k4_2 cI aM (s4_held vM y3), k4_3 cI aM (s4_held vM y3), k4_4 cI aM (s4_held vM y3), k4_5 cJ aM (s4_held vM y3), k4_6 cI aM (s4_held vM y3), k4_7 cJ aM (s4_held vM y3), k4_8 cJ aM (s4_held vM y3), k4_9 cI aM (s4_held vM y3)]) (wc := [k4_0 aM (s4_held vM y3), k4_1 cI aM (s4_held vM y3), k4_2 cI aM (s4_held vM y3), k4_3 cI aM (s4_held vM y3), k4_4 cI aM (s4_held vM y3), k4_5 cJ aM (s4_held vM y3), k4_6 cI aM (s4_held vM y3), k4_7 cJ aM (s4_held vM y3), k4_8 cJ aM (s4_held vM y3), k4_9 cI aM (s4_held vM y3)]) (wr := []) (w1 := [k4_0 aM y4.2, k4_1 cI aM y4.2, k4_2 cI aM y4.2, k4_3 cI aM y4.2, k4_4 cI aM y4.2, k4_5 cJ aM y4.2, k4_6 cI aM y4.2, k4_7 cJ aM y4.2, k4_8 cJ aM y4.2, k4_9 cI aM y4.2]) (wo := [k4_0 aM y4.2, k4_1 cI aM y4.2, k4_2 cI aM y4.2, k4_3 cI aM y4.2, k4_4 cI aM y4.2, k4_5 cJ aM y4.2, k4_6 cI aM y4.2, k4_7 cJ aM y4.2, k4_8 cJ aM y4.2, k4_9 cI aM y4.2]) hP hD hS hA (va_runV (As := []) (rest := []) ⟨hx, hb, hml, hown, hts⟩ (mX4_plays l dC dI cI cJ aM H.size (s4_held vM y3) y4 hy4) (cwV 0 hts gX4_fault_X4_plays rfl rfl rfl (by decide +kernel) ⟨Nat.le_of_ble_eq_true rfl, Nat.le_of_ble_eq_true rfl⟩) ⟨cFB, va_recv hK hP (ci := 4) (q0 := 0) rfl rfl, cPre hK hN hS (va_free (wc := [k4_0 aM (s4_held vM y3), k4_1 cI aM (s4_held vM y3), k4_2 cI aM (s4_held vM y3), k4_3 cI aM (s4_held vM y3), k4_4 cI aM (s4_held vM y3), k4_5 cJ aM (s4_held vM y3), k4_6 cI aM (s4_held vM y3), k4_7 cJ aM (s4_held vM y3), k4_8 cJ aM (s4_held vM y3), k4_9 cI aM (s4_held vM y3)]) hD hS hA [0, 1, 2, 3, 4, 5, 6, 7, 8, 9] rfl) (hP.sub [0, 1, 2, 3, 4, 5, 6, 7, 8, 9] rfl) (hD.sub [0, 1, 2, 3, 4, 5, 6, 7, 8, 9] rfl rfl)⟩ rfl rfl hl.1 rfl (lv_room (Nat.le_of_ble_eq_true rfl)) dX4_fault_24 ⟨Nat.le_of_ble_eq_true rfl, Nat.le_of_ble_eq_true rfl⟩) [0, 1, 2, 3, 4, 5, 6, 7, 8, 9] [] [0, 1, 2, 3, 4, 5, 6, 7, 8, 9] rfl rfl rfl (by decide +kernel) rfl rfl (fun H locs hP hD hS => ?_)
    obtain ⟨z5, ez5, hf⟩ := elet_out hf
    refine lvn_i ez5 ?_
    refine lv_istore_n (lv' := [(2, .int z5), (0, .ref (aM 0)), (1, .int i1)]) hx hb dX4_fault_27 rfl hl (by decide) rfl (fun ls hl => ?_)
    refine lv_aload_n hx hb dX4_fault_28 rfl (lv_at hl 1 rfl) ?_
    refine va_get (D := (dC, dI)) (ci := 4) (v := .ref (aM 3)) (C := RX4) (T := TX4) (N := 21) hx hb hts hiX4 hown hK hP 0 rfl rfl 2 (by decide) hgX4_16 (fun _ h9 => h9) rfl dX4_fault_29 ?_
    refine lv_aload_n hx hb dX4_fault_32 rfl (lv_at hl 1 rfl) ?_
    refine va_get (D := (dC, dI)) (ci := 4) (v := .ref (aM 1)) (C := RX4) (T := TX4) (N := 21) hx hb hts hiX4 hown hK hP 0 rfl rfl 0 (by decide) hgX4_7 (fun _ h9 => h9) rfl dX4_fault_33 ?_
    obtain ⟨y6, hy6, hf⟩ := obind hf
    refine cg_v (ws := [k4_0 aM y4.2, k4_1 cI aM y4.2, k4_2 cI aM y4.2, k4_3 cI aM y4.2, k4_4 cI aM y4.2, k4_5 cJ aM y4.2, k4_6 cI aM y4.2, k4_7 cJ aM y4.2, k4_8 cJ aM y4.2, k4_9 cI aM y4.2]) (wc := [k4_3 cI aM y4.2, k4_1 cI aM y4.2]) (wr := [k4_0 aM y4.2, k4_2 cI aM y4.2, k4_4 cI aM y4.2, k4_5 cJ aM y4.2, k4_6 cI aM y4.2, k4_7 cJ aM y4.2, k4_8 cJ aM y4.2, k4_9 cI aM y4.2]) (w1 := [k4_3 cI aM (s4_s y4.2 y6), k4_1 cI aM (s4_s y4.2 y6)]) (wo := [k4_0 aM (s4_s y4.2 y6), k4_1 cI aM (s4_s y4.2 y6), k4_2 cI aM (s4_s y4.2 y6), k4_3 cI aM (s4_s y4.2 y6), k4_4 cI aM (s4_s y4.2 y6), k4_5 cJ aM (s4_s y4.2 y6), k4_6 cI aM (s4_s y4.2 y6), k4_7 cJ aM (s4_s y4.2 y6), k4_8 cJ aM (s4_s y4.2 y6), k4_9 cI aM (s4_s y4.2 y6)]) hP hD hS hA (va_runS (As := [.ref (aM 3), .ref (aM 1)]) (rest := []) ⟨hx, hb, hml, hown, hts⟩ (mX4_copies l dC dI cI cJ (aM 3) (aM 1) H.size (p4_held y4.2) (p4_s y4.2) y6 hy6) (va_cwS 2 hts gX4_fault_X4_copies rfl rfl rfl (by decide +kernel) ⟨Nat.le_of_ble_eq_true rfl, Nat.le_of_ble_eq_true rfl⟩) ⟨cFB, cPre hK hN hS (va_free (wc := [k4_3 cI aM y4.2, k4_1 cI aM y4.2]) hD hS hA [3, 1] rfl) (hP.sub [3, 1] rfl) (hD.sub [3, 1] rfl rfl)⟩ rfl rfl hl.1 rfl (lv_room (Nat.le_of_ble_eq_true rfl)) dX4_fault_36 ⟨Nat.le_of_ble_eq_true rfl, Nat.le_of_ble_eq_true rfl⟩) [3, 1] [0, 2, 4, 5, 6, 7, 8, 9] [0, 9, 1, 8, 2, 3, 4, 5, 6, 7] rfl rfl rfl (by decide +kernel) rfl rfl (fun H locs hP hD hS => ?_)
    refine lv_iload_n hx hb dX4_fault_39 rfl (lv_at hl 0 rfl) ?_
    refine lv_ldc (v := (-1000004)) hx hb hown hc78 dX4_fault_40 ?_
    refine lv_icmp_eq (tgt := 49) hx hb dX4_fault_42 (by decide) (fun c7 => ?_) (fun c7 => ?_)
    · have hf := oif_t c7 hf
      exact (hWW _ _ _ _ _ _ _).1 (J49 (s4_s y4.2 y6) z5 H locs ls hP hD hS (lv_sub hl [0] rfl) hf)
    · have hf := oif_f c7 hf
      refine lv_iload_n hx hb dX4_fault_45 rfl (lv_at hl 2 rfl) ?_
      refine lv_if_ne (tgt := 53) hx hb dX4_fault_46 (by decide) (fun c8 => ?_) (fun c8 => ?_)
      · have hf := oif_f c8 hf
        refine lv_iload_n hx hb dX4_fault_53 rfl (lv_at hl 2 rfl) ?_
        refine lv_iconst (v := 1) hx hb dX4_fault_54 (by decide) ?_
        refine lv_icmp_ne (tgt := 65) hx hb dX4_fault_55 (by decide) (fun c9 => ?_) (fun c9 => ?_)
        · have hf := oif_f c9 hf
          refine lv_aload_n hx hb dX4_fault_65 rfl (lv_at hl 1 rfl) ?_
          refine va_get (D := (dC, dI)) (ci := 4) (v := .int (p4_reason (s4_s y4.2 y6))) (C := RX4) (T := TX4) (N := 21) hx hb hts hiX4 hown hK hP 0 rfl rfl 17 (by decide) hgX4_208 (fun _ h9 => h9) rfl dX4_fault_66 ?_
          refine lv_iconst (v := 3) hx hb dX4_fault_69 (by decide) ?_
          refine lv_icmp_ne (tgt := 78) hx hb dX4_fault_70 (by decide) (fun c10 => ?_) (fun c10 => ?_)
          · have hf := oif_f c10 hf
            refine lv_aload_n hx hb dX4_fault_78 rfl (lv_at hl 1 rfl) ?_
            refine va_get (D := (dC, dI)) (ci := 4) (v := .int (p4_cause (s4_s y4.2 y6))) (C := RX4) (T := TX4) (N := 21) hx hb hts hiX4 hown hK hP 0 rfl rfl 18 (by decide) hgX4_199 (fun _ h9 => h9) rfl dX4_fault_79 ?_
            obtain rfl := Option.some.inj hf
            exact W.iret (v := (p4_cause (s4_s y4.2 y6))) hx hb hr (fun t ht hW => ⟨⟨(p4_cause (s4_s y4.2 y6)), (), rfl, rfl, by rw [ht]; exact hP, hD⟩, hS.F ht⟩) hS.2.2 dX4_fault_82
          · have hf := oif_t c10 hf
            refine lv_ldc (v := (-1000004)) hx hb hown hc78 dX4_fault_73 ?_
            refine lv_goto (tgt := 82) hx hb dX4_fault_75 (by decide) ?_
            obtain rfl := Option.some.inj hf
            exact W.iret (v := (-1000004)) hx hb hr (fun t ht hW => ⟨⟨(-1000004), (), rfl, rfl, by rw [ht]; exact hP, hD⟩, hS.F ht⟩) hS.2.2 dX4_fault_82
        · have hf := oif_t c9 hf
          refine lv_aload_n hx hb dX4_fault_58 rfl (lv_at hl 1 rfl) ?_
          refine va_get (D := (dC, dI)) (ci := 4) (v := .int (p4_reason (s4_s y4.2 y6))) (C := RX4) (T := TX4) (N := 21) hx hb hts hiX4 hown hK hP 0 rfl rfl 17 (by decide) hgX4_208 (fun _ h9 => h9) rfl dX4_fault_59 ?_
          refine lv_goto (tgt := 82) hx hb dX4_fault_62 (by decide) ?_
          obtain rfl := Option.some.inj hf
          exact W.iret (v := (p4_reason (s4_s y4.2 y6))) hx hb hr (fun t ht hW => ⟨⟨(p4_reason (s4_s y4.2 y6)), (), rfl, rfl, by rw [ht]; exact hP, hD⟩, hS.F ht⟩) hS.2.2 dX4_fault_82
      · have hf := oif_t c8 hf
        exact (hWW _ _ _ _ _ _ _).1 (J49 (s4_s y4.2 y6) z5 H locs ls hP hD hS (lv_sub hl [0] rfl) hf)
  · have hf := oif_t c2 hf
    refine lv_ldc (v := (-1000001)) hx hb hown hc57 dX4_fault_9 ?_
    obtain rfl := Option.some.inj hf
    exact W.iret (v := (-1000001)) hx hb hr (fun t ht hW => ⟨⟨(-1000001), (), rfl, rfl, by rw [ht]; exact hP, hD⟩, hS.F ht⟩) hS.2.2 dX4_fault_11
def fX4_play (vM : BX4) : Option (Int32 × BX4) :=
  (fX4_copies (p4_s vM) (p4_held vM)).bind (fun y1 => (fX4_plays (s4_held vM y1)).bind (fun y2 => elet y2.1 (fun z3 => (fX4_copies (p4_held y2.2) (p4_s y2.2)).bind (fun y4 => if z3 = (-1000004 : Int32) then ((fX4_changes (s4_s y2.2 y4)).bind (fun y6 => (fX4_plays y6).bind (fun y7 => if y7.1 = (-1000004 : Int32) then (some ((p4_settings y7.2), y7.2)) else (some ((-1000004), y7.2))))) else (some ((-1000002), (s4_s y2.2 y4)))))))
set_option maxHeartbeats 8000000 in
set_option maxRecDepth 100000 in
theorem mX4_play (l : Launch) (dC : Nat → ClassId) (dI : Nat → Nat → Nat) (cI cJ : ClassId) (aM : Nat → Nat) (sz : Nat) (vM : BX4) (y : (Int32 × BX4)) (hf : fX4_play vM = some y) : Met l yX4_play wsX4_play ({ frames := 7, cells := 0, slots := 0, locals := 158 }) (cPc dC dI cI cJ [.ref (aM 0)] [k4_0 aM vM, k4_1 cI aM vM, k4_2 cI aM vM, k4_3 cI aM vM, k4_4 cI aM vM, k4_5 cJ aM vM, k4_6 cI aM vM, k4_7 cJ aM vM, k4_8 cJ aM vM, k4_9 cI aM vM] sz) (va_Qi (fun r (_ : Unit) => r = y.1) (fun _ t => cB dC dI (va_A [k4_0 aM vM, k4_1 cI aM vM, k4_2 cI aM vM, k4_3 cI aM vM, k4_4 cI aM vM, k4_5 cJ aM vM, k4_6 cI aM vM, k4_7 cJ aM vM, k4_8 cJ aM vM, k4_9 cI aM vM] sz) [k4_0 aM y.2, k4_1 cI aM y.2, k4_2 cI aM y.2, k4_3 cI aM y.2, k4_4 cI aM y.2, k4_5 cJ aM y.2, k4_6 cI aM y.2, k4_7 cJ aM y.2, k4_8 cJ aM y.2, k4_9 cI aM y.2] t) (va_A [k4_0 aM vM, k4_1 cI aM vM, k4_2 cI aM vM, k4_3 cI aM vM, k4_4 cI aM vM, k4_5 cJ aM vM, k4_6 cI aM vM, k4_7 cJ aM vM, k4_8 cJ aM vM, k4_9 cI aM vM] sz)) 0 0 (va_A [k4_0 aM vM, k4_1 cI aM vM, k4_2 cI aM vM, k4_3 cI aM vM, k4_4 cI aM vM, k4_5 cJ aM vM, k4_6 cI aM vM, k4_7 cJ aM vM, k4_8 cJ aM vM, k4_9 cI aM vM] sz) := by
  refine Met.ofW (cc := cX4_play) (maxL := 2) (ret := (some .int)) (by decide) rfl ?_
  intro p e s m args below meth c s₁ B hml hv
  obtain ⟨rfl, hsz, hP, hK, hD0, hN⟩ := hv
  have hx := B.exec
  have hb := B.bytes
  have hr := B.returns
  have hts := atoms_spec (ws := wsX4_play) B.pre
  have hown : s.vm.findClass RX4 = some m.cls := findClass_of_methodNamed B.named
  have hlocks := B.notSynchronized
  subst hsz
  have hD := hD0.self (sz := s.heap.size)
  generalize hAe : va_A [k4_0 aM vM, k4_1 cI aM vM, k4_2 cI aM vM, k4_3 cI aM vM, k4_4 cI aM vM, k4_5 cJ aM vM, k4_6 cI aM vM, k4_7 cJ aM vM, k4_8 cJ aM vM, k4_9 cI aM vM] s.heap.size = A at hD hN ⊢
  have hA : ∀ q : Nat, s.heap.size ≤ q → A q := fun q h => by rw [← hAe]; exact Or.inr h
  have hP : va_P (dC, dI) vwCl [k4_0 aM vM, k4_1 cI aM vM, k4_2 cI aM vM, k4_3 cI aM vM, k4_4 cI aM vM, k4_5 cJ aM vM, k4_6 cI aM vM, k4_7 cJ aM vM, k4_8 cJ aM vM, k4_9 cI aM vM] s.heap := hP
  have hl := lv_entry ([.ref (aM 0)]) (n := 2) (Nat.le_of_ble_eq_true rfl)
  rw [lg_entry_eq]
  generalize (lg_sl ([.ref (aM 0)]) ++ List.replicate (2 - (lg_sl ([.ref (aM 0)])).length) Slot.unset).toArray = ls at hl ⊢
  have hl : lv_has ls 2 [(0, .ref (aM 0))] := hl
  have hiX4 : ∀ w ∈ u_ws RX4 TX4 21, w ∈ wsX4_play := by decide +kernel
  have hgX4_7 := hts (.fieldLink RX4 7 "SpringPlatesModel" "s" "[I") (by decide +kernel)
  have hgX4_16 := hts (.fieldLink RX4 16 "SpringPlatesModel" "held" "[I") (by decide +kernel)
  have hc78 := hts (.constant RX4 78 (-1000004)) (by decide +kernel)
  have hgX4_211 := hts (.fieldLink RX4 211 "SpringPlatesModel" "settings" "I") (by decide +kernel)
  have hc58 := hts (.constant RX4 58 (-1000002)) (by decide +kernel)
  refine nameH (fun H locs hHe hLe => ?_)
  have hP : va_P (dC, dI) vwCl [k4_0 aM vM, k4_1 cI aM vM, k4_2 cI aM vM, k4_3 cI aM vM, k4_4 cI aM vM, k4_5 cJ aM vM, k4_6 cI aM vM, k4_7 cJ aM vM, k4_8 cJ aM vM, k4_9 cI aM vM] H := by rw [hHe]; exact hP
  have hS : va_S A s.heap H locs := by rw [hHe, hLe]; exact va_S.rf
  unfold fX4_play at hf
  refine lv_aload_n hx hb dX4_play_0 rfl (lv_at hl 0 rfl) ?_
  refine va_get (D := (dC, dI)) (ci := 4) (v := .ref (aM 1)) (C := RX4) (T := TX4) (N := 21) hx hb hts hiX4 hown hK hP 0 rfl rfl 0 (by decide) hgX4_7 (fun _ h9 => h9) rfl dX4_play_1 ?_
  refine lv_aload_n hx hb dX4_play_4 rfl (lv_at hl 0 rfl) ?_
  refine va_get (D := (dC, dI)) (ci := 4) (v := .ref (aM 3)) (C := RX4) (T := TX4) (N := 21) hx hb hts hiX4 hown hK hP 0 rfl rfl 2 (by decide) hgX4_16 (fun _ h9 => h9) rfl dX4_play_5 ?_
  obtain ⟨y1, hy1, hf⟩ := obind hf
  refine cg_v (ws := [k4_0 aM vM, k4_1 cI aM vM, k4_2 cI aM vM, k4_3 cI aM vM, k4_4 cI aM vM, k4_5 cJ aM vM, k4_6 cI aM vM, k4_7 cJ aM vM, k4_8 cJ aM vM, k4_9 cI aM vM]) (wc := [k4_1 cI aM vM, k4_3 cI aM vM]) (wr := [k4_0 aM vM, k4_2 cI aM vM, k4_4 cI aM vM, k4_5 cJ aM vM, k4_6 cI aM vM, k4_7 cJ aM vM, k4_8 cJ aM vM, k4_9 cI aM vM]) (w1 := [k4_1 cI aM (s4_held vM y1), k4_3 cI aM (s4_held vM y1)]) (wo := [k4_0 aM (s4_held vM y1), k4_1 cI aM (s4_held vM y1), k4_2 cI aM (s4_held vM y1), k4_3 cI aM (s4_held vM y1), k4_4 cI aM (s4_held vM y1), k4_5 cJ aM (s4_held vM y1), k4_6 cI aM (s4_held vM y1), k4_7 cJ aM (s4_held vM y1), k4_8 cJ aM (s4_held vM y1), k4_9 cI aM (s4_held vM y1)]) hP hD hS hA (va_runS (As := [.ref (aM 1), .ref (aM 3)]) (rest := []) ⟨hx, hb, hml, hown, hts⟩ (mX4_copies l dC dI cI cJ (aM 1) (aM 3) H.size (p4_s vM) (p4_held vM) y1 hy1) (va_cwS 2 hts gX4_play_X4_copies rfl rfl rfl (by decide +kernel) ⟨Nat.le_of_ble_eq_true rfl, Nat.le_of_ble_eq_true rfl⟩) ⟨cFB, cPre hK hN hS (va_free (wc := [k4_1 cI aM vM, k4_3 cI aM vM]) hD hS hA [1, 3] rfl) (hP.sub [1, 3] rfl) (hD.sub [1, 3] rfl rfl)⟩ rfl rfl hl.1 rfl (lv_room (Nat.le_of_ble_eq_true rfl)) dX4_play_8 ⟨Nat.le_of_ble_eq_true rfl, Nat.le_of_ble_eq_true rfl⟩) [1, 3] [0, 2, 4, 5, 6, 7, 8, 9] [0, 8, 1, 9, 2, 3, 4, 5, 6, 7] rfl rfl rfl (by decide +kernel) rfl rfl (fun H locs hP hD hS => ?_)
  refine lv_aload_n hx hb dX4_play_11 rfl (lv_at hl 0 rfl) ?_
  obtain ⟨y2, hy2, hf⟩ := obind hf
  refine cg_i (ws := [k4_0 aM (s4_held vM y1), k4_1 cI aM (s4_held vM y1), k4_2 cI aM (s4_held vM y1), k4_3 cI aM (s4_held vM y1), k4_4 cI aM (s4_held vM y1), k4_5 cJ aM (s4_held vM y1), k4_6 cI aM (s4_held vM y1), k4_7 cJ aM (s4_held vM y1), k4_8 cJ aM (s4_held vM y1), k4_9 cI aM (s4_held vM y1)]) (wc := [k4_0 aM (s4_held vM y1), k4_1 cI aM (s4_held vM y1), k4_2 cI aM (s4_held vM y1), k4_3 cI aM (s4_held vM y1), k4_4 cI aM (s4_held vM y1), k4_5 cJ aM (s4_held vM y1), k4_6 cI aM (s4_held vM y1), k4_7 cJ aM (s4_held vM y1), k4_8 cJ aM (s4_held vM y1), k4_9 cI aM (s4_held vM y1)]) (wr := []) (w1 := [k4_0 aM y2.2, k4_1 cI aM y2.2, k4_2 cI aM y2.2, k4_3 cI aM y2.2, k4_4 cI aM y2.2, k4_5 cJ aM y2.2, k4_6 cI aM y2.2, k4_7 cJ aM y2.2, k4_8 cJ aM y2.2, k4_9 cI aM y2.2]) (wo := [k4_0 aM y2.2, k4_1 cI aM y2.2, k4_2 cI aM y2.2, k4_3 cI aM y2.2, k4_4 cI aM y2.2, k4_5 cJ aM y2.2, k4_6 cI aM y2.2, k4_7 cJ aM y2.2, k4_8 cJ aM y2.2, k4_9 cI aM y2.2]) hP hD hS hA (va_runV (As := []) (rest := []) ⟨hx, hb, hml, hown, hts⟩ (mX4_plays l dC dI cI cJ aM H.size (s4_held vM y1) y2 hy2) (cwV 0 hts gX4_play_X4_plays rfl rfl rfl (by decide +kernel) ⟨Nat.le_of_ble_eq_true rfl, Nat.le_of_ble_eq_true rfl⟩) ⟨cFB, va_recv hK hP (ci := 4) (q0 := 0) rfl rfl, cPre hK hN hS (va_free (wc := [k4_0 aM (s4_held vM y1), k4_1 cI aM (s4_held vM y1), k4_2 cI aM (s4_held vM y1), k4_3 cI aM (s4_held vM y1), k4_4 cI aM (s4_held vM y1), k4_5 cJ aM (s4_held vM y1), k4_6 cI aM (s4_held vM y1), k4_7 cJ aM (s4_held vM y1), k4_8 cJ aM (s4_held vM y1), k4_9 cI aM (s4_held vM y1)]) hD hS hA [0, 1, 2, 3, 4, 5, 6, 7, 8, 9] rfl) (hP.sub [0, 1, 2, 3, 4, 5, 6, 7, 8, 9] rfl) (hD.sub [0, 1, 2, 3, 4, 5, 6, 7, 8, 9] rfl rfl)⟩ rfl rfl hl.1 rfl (lv_room (Nat.le_of_ble_eq_true rfl)) dX4_play_12 ⟨Nat.le_of_ble_eq_true rfl, Nat.le_of_ble_eq_true rfl⟩) [0, 1, 2, 3, 4, 5, 6, 7, 8, 9] [] [0, 1, 2, 3, 4, 5, 6, 7, 8, 9] rfl rfl rfl (by decide +kernel) rfl rfl (fun H locs hP hD hS => ?_)
  obtain ⟨z3, ez3, hf⟩ := elet_out hf
  refine lvn_i ez3 ?_
  refine lv_istore_n (lv' := [(1, .int z3), (0, .ref (aM 0))]) hx hb dX4_play_15 rfl hl (by decide) rfl (fun ls hl => ?_)
  refine lv_aload_n hx hb dX4_play_16 rfl (lv_at hl 1 rfl) ?_
  refine va_get (D := (dC, dI)) (ci := 4) (v := .ref (aM 3)) (C := RX4) (T := TX4) (N := 21) hx hb hts hiX4 hown hK hP 0 rfl rfl 2 (by decide) hgX4_16 (fun _ h9 => h9) rfl dX4_play_17 ?_
  refine lv_aload_n hx hb dX4_play_20 rfl (lv_at hl 1 rfl) ?_
  refine va_get (D := (dC, dI)) (ci := 4) (v := .ref (aM 1)) (C := RX4) (T := TX4) (N := 21) hx hb hts hiX4 hown hK hP 0 rfl rfl 0 (by decide) hgX4_7 (fun _ h9 => h9) rfl dX4_play_21 ?_
  obtain ⟨y4, hy4, hf⟩ := obind hf
  refine cg_v (ws := [k4_0 aM y2.2, k4_1 cI aM y2.2, k4_2 cI aM y2.2, k4_3 cI aM y2.2, k4_4 cI aM y2.2, k4_5 cJ aM y2.2, k4_6 cI aM y2.2, k4_7 cJ aM y2.2, k4_8 cJ aM y2.2, k4_9 cI aM y2.2]) (wc := [k4_3 cI aM y2.2, k4_1 cI aM y2.2]) (wr := [k4_0 aM y2.2, k4_2 cI aM y2.2, k4_4 cI aM y2.2, k4_5 cJ aM y2.2, k4_6 cI aM y2.2, k4_7 cJ aM y2.2, k4_8 cJ aM y2.2, k4_9 cI aM y2.2]) (w1 := [k4_3 cI aM (s4_s y2.2 y4), k4_1 cI aM (s4_s y2.2 y4)]) (wo := [k4_0 aM (s4_s y2.2 y4), k4_1 cI aM (s4_s y2.2 y4), k4_2 cI aM (s4_s y2.2 y4), k4_3 cI aM (s4_s y2.2 y4), k4_4 cI aM (s4_s y2.2 y4), k4_5 cJ aM (s4_s y2.2 y4), k4_6 cI aM (s4_s y2.2 y4), k4_7 cJ aM (s4_s y2.2 y4), k4_8 cJ aM (s4_s y2.2 y4), k4_9 cI aM (s4_s y2.2 y4)]) hP hD hS hA (va_runS (As := [.ref (aM 3), .ref (aM 1)]) (rest := []) ⟨hx, hb, hml, hown, hts⟩ (mX4_copies l dC dI cI cJ (aM 3) (aM 1) H.size (p4_held y2.2) (p4_s y2.2) y4 hy4) (va_cwS 2 hts gX4_play_X4_copies rfl rfl rfl (by decide +kernel) ⟨Nat.le_of_ble_eq_true rfl, Nat.le_of_ble_eq_true rfl⟩) ⟨cFB, cPre hK hN hS (va_free (wc := [k4_3 cI aM y2.2, k4_1 cI aM y2.2]) hD hS hA [3, 1] rfl) (hP.sub [3, 1] rfl) (hD.sub [3, 1] rfl rfl)⟩ rfl rfl hl.1 rfl (lv_room (Nat.le_of_ble_eq_true rfl)) dX4_play_24 ⟨Nat.le_of_ble_eq_true rfl, Nat.le_of_ble_eq_true rfl⟩) [3, 1] [0, 2, 4, 5, 6, 7, 8, 9] [0, 9, 1, 8, 2, 3, 4, 5, 6, 7] rfl rfl rfl (by decide +kernel) rfl rfl (fun H locs hP hD hS => ?_)
  refine lv_iload_n hx hb dX4_play_27 rfl (lv_at hl 0 rfl) ?_
  refine lv_ldc (v := (-1000004)) hx hb hown hc78 dX4_play_28 ?_
  refine lv_icmp_eq (tgt := 36) hx hb dX4_play_30 (by decide) (fun c5 => ?_) (fun c5 => ?_)
  · have hf := oif_t c5 hf
    refine lv_aload_n hx hb dX4_play_36 rfl (lv_at hl 1 rfl) ?_
    obtain ⟨y6, hy6, hf⟩ := obind hf
    refine cg_v (ws := [k4_0 aM (s4_s y2.2 y4), k4_1 cI aM (s4_s y2.2 y4), k4_2 cI aM (s4_s y2.2 y4), k4_3 cI aM (s4_s y2.2 y4), k4_4 cI aM (s4_s y2.2 y4), k4_5 cJ aM (s4_s y2.2 y4), k4_6 cI aM (s4_s y2.2 y4), k4_7 cJ aM (s4_s y2.2 y4), k4_8 cJ aM (s4_s y2.2 y4), k4_9 cI aM (s4_s y2.2 y4)]) (wc := [k4_0 aM (s4_s y2.2 y4), k4_1 cI aM (s4_s y2.2 y4), k4_2 cI aM (s4_s y2.2 y4), k4_3 cI aM (s4_s y2.2 y4), k4_4 cI aM (s4_s y2.2 y4), k4_5 cJ aM (s4_s y2.2 y4), k4_6 cI aM (s4_s y2.2 y4), k4_7 cJ aM (s4_s y2.2 y4), k4_8 cJ aM (s4_s y2.2 y4), k4_9 cI aM (s4_s y2.2 y4)]) (wr := []) (w1 := [k4_0 aM y6, k4_1 cI aM y6, k4_2 cI aM y6, k4_3 cI aM y6, k4_4 cI aM y6, k4_5 cJ aM y6, k4_6 cI aM y6, k4_7 cJ aM y6, k4_8 cJ aM y6, k4_9 cI aM y6]) (wo := [k4_0 aM y6, k4_1 cI aM y6, k4_2 cI aM y6, k4_3 cI aM y6, k4_4 cI aM y6, k4_5 cJ aM y6, k4_6 cI aM y6, k4_7 cJ aM y6, k4_8 cJ aM y6, k4_9 cI aM y6]) hP hD hS hA (va_runV (As := []) (rest := []) ⟨hx, hb, hml, hown, hts⟩ (mX4_changes l dC dI cI cJ aM H.size (s4_s y2.2 y4) y6 hy6) (cwV 0 hts gX4_play_X4_changes rfl rfl rfl (by decide +kernel) ⟨Nat.le_of_ble_eq_true rfl, Nat.le_of_ble_eq_true rfl⟩) ⟨cFB, va_recv hK hP (ci := 4) (q0 := 0) rfl rfl, cPre hK hN hS (va_free (wc := [k4_0 aM (s4_s y2.2 y4), k4_1 cI aM (s4_s y2.2 y4), k4_2 cI aM (s4_s y2.2 y4), k4_3 cI aM (s4_s y2.2 y4), k4_4 cI aM (s4_s y2.2 y4), k4_5 cJ aM (s4_s y2.2 y4), k4_6 cI aM (s4_s y2.2 y4), k4_7 cJ aM (s4_s y2.2 y4), k4_8 cJ aM (s4_s y2.2 y4), k4_9 cI aM (s4_s y2.2 y4)]) hD hS hA [0, 1, 2, 3, 4, 5, 6, 7, 8, 9] rfl) (hP.sub [0, 1, 2, 3, 4, 5, 6, 7, 8, 9] rfl) (hD.sub [0, 1, 2, 3, 4, 5, 6, 7, 8, 9] rfl rfl)⟩ rfl rfl hl.1 rfl (lv_room (Nat.le_of_ble_eq_true rfl)) dX4_play_37 ⟨Nat.le_of_ble_eq_true rfl, Nat.le_of_ble_eq_true rfl⟩) [0, 1, 2, 3, 4, 5, 6, 7, 8, 9] [] [0, 1, 2, 3, 4, 5, 6, 7, 8, 9] rfl rfl rfl (by decide +kernel) rfl rfl (fun H locs hP hD hS => ?_)
    refine lv_aload_n hx hb dX4_play_40 rfl (lv_at hl 1 rfl) ?_
    obtain ⟨y7, hy7, hf⟩ := obind hf
    refine cg_i (ws := [k4_0 aM y6, k4_1 cI aM y6, k4_2 cI aM y6, k4_3 cI aM y6, k4_4 cI aM y6, k4_5 cJ aM y6, k4_6 cI aM y6, k4_7 cJ aM y6, k4_8 cJ aM y6, k4_9 cI aM y6]) (wc := [k4_0 aM y6, k4_1 cI aM y6, k4_2 cI aM y6, k4_3 cI aM y6, k4_4 cI aM y6, k4_5 cJ aM y6, k4_6 cI aM y6, k4_7 cJ aM y6, k4_8 cJ aM y6, k4_9 cI aM y6]) (wr := []) (w1 := [k4_0 aM y7.2, k4_1 cI aM y7.2, k4_2 cI aM y7.2, k4_3 cI aM y7.2, k4_4 cI aM y7.2, k4_5 cJ aM y7.2, k4_6 cI aM y7.2, k4_7 cJ aM y7.2, k4_8 cJ aM y7.2, k4_9 cI aM y7.2]) (wo := [k4_0 aM y7.2, k4_1 cI aM y7.2, k4_2 cI aM y7.2, k4_3 cI aM y7.2, k4_4 cI aM y7.2, k4_5 cJ aM y7.2, k4_6 cI aM y7.2, k4_7 cJ aM y7.2, k4_8 cJ aM y7.2, k4_9 cI aM y7.2]) hP hD hS hA (va_runV (As := []) (rest := []) ⟨hx, hb, hml, hown, hts⟩ (mX4_plays l dC dI cI cJ aM H.size y6 y7 hy7) (cwV 0 hts gX4_play_X4_plays rfl rfl rfl (by decide +kernel) ⟨Nat.le_of_ble_eq_true rfl, Nat.le_of_ble_eq_true rfl⟩) ⟨cFB, va_recv hK hP (ci := 4) (q0 := 0) rfl rfl, cPre hK hN hS (va_free (wc := [k4_0 aM y6, k4_1 cI aM y6, k4_2 cI aM y6, k4_3 cI aM y6, k4_4 cI aM y6, k4_5 cJ aM y6, k4_6 cI aM y6, k4_7 cJ aM y6, k4_8 cJ aM y6, k4_9 cI aM y6]) hD hS hA [0, 1, 2, 3, 4, 5, 6, 7, 8, 9] rfl) (hP.sub [0, 1, 2, 3, 4, 5, 6, 7, 8, 9] rfl) (hD.sub [0, 1, 2, 3, 4, 5, 6, 7, 8, 9] rfl rfl)⟩ rfl rfl hl.1 rfl (lv_room (Nat.le_of_ble_eq_true rfl)) dX4_play_41 ⟨Nat.le_of_ble_eq_true rfl, Nat.le_of_ble_eq_true rfl⟩) [0, 1, 2, 3, 4, 5, 6, 7, 8, 9] [] [0, 1, 2, 3, 4, 5, 6, 7, 8, 9] rfl rfl rfl (by decide +kernel) rfl rfl (fun H locs hP hD hS => ?_)
    refine lv_ldc (v := (-1000004)) hx hb hown hc78 dX4_play_44 ?_
    refine lv_icmp_ne (tgt := 56) hx hb dX4_play_46 (by decide) (fun c8 => ?_) (fun c8 => ?_)
    · have hf := oif_f c8 hf
      refine lv_ldc (v := (-1000004)) hx hb hown hc78 dX4_play_56 ?_
      obtain rfl := Option.some.inj hf
      exact W.iret (v := (-1000004)) hx hb hr (fun t ht hW => ⟨⟨(-1000004), (), rfl, rfl, by rw [ht]; exact hP, hD⟩, hS.F ht⟩) hS.2.2 dX4_play_58
    · have hf := oif_t c8 hf
      refine lv_aload_n hx hb dX4_play_49 rfl (lv_at hl 1 rfl) ?_
      refine va_get (D := (dC, dI)) (ci := 4) (v := .int (p4_settings y7.2)) (C := RX4) (T := TX4) (N := 21) hx hb hts hiX4 hown hK hP 0 rfl rfl 19 (by decide) hgX4_211 (fun _ h9 => h9) rfl dX4_play_50 ?_
      refine lv_goto (tgt := 58) hx hb dX4_play_53 (by decide) ?_
      obtain rfl := Option.some.inj hf
      exact W.iret (v := (p4_settings y7.2)) hx hb hr (fun t ht hW => ⟨⟨(p4_settings y7.2), (), rfl, rfl, by rw [ht]; exact hP, hD⟩, hS.F ht⟩) hS.2.2 dX4_play_58
  · have hf := oif_f c5 hf
    refine lv_ldc (v := (-1000002)) hx hb hown hc58 dX4_play_33 ?_
    obtain rfl := Option.some.inj hf
    exact W.iret (v := (-1000002)) hx hb hr (fun t ht hW => ⟨⟨(-1000002), (), rfl, rfl, by rw [ht]; exact hP, hD⟩, hS.F ht⟩) hS.2.2 dX4_play_35
