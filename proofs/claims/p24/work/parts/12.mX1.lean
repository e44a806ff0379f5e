def fX3_isSide_9 : Option Int32 :=
  some 1
def fX3_isSide (i0 : Int32) : Option Int32 :=
  if i0 = 0 then (fX3_isSide_9 ) else (if i0 = (1 : Int32) then (fX3_isSide_9 ) else (some 0))
set_option maxHeartbeats 8000000 in
set_option maxRecDepth 100000 in
theorem mX3_isSide (l : Launch) (dC : Nat → ClassId) (dI : Nat → Nat → Nat) (cI cJ : ClassId) (sz : Nat) (i0 : Int32) (y : Int32) (hf : fX3_isSide i0 = some y) : Met l yX3_isSide wsX3_isSide ({ frames := 0, cells := 0, slots := 0, locals := 0 }) (cPc dC dI cI cJ [.int i0] [] sz) (va_Qi (fun r (_ : Unit) => r = y) (fun _ t => cB dC dI (va_A [] sz) [] t) (va_A [] sz)) 0 0 (va_A [] sz) := by
  refine Met.ofW (cc := cX3_isSide) (maxL := 1) (ret := (some .boolean)) (by decide) rfl ?_
  intro p e s m args below meth c s₁ B hml hv
  obtain ⟨rfl, hsz, hP, hK, hD0, hN⟩ := hv
  have hx := B.exec
  have hb := B.bytes
  have hr := B.returns
  have hts := atoms_spec (ws := wsX3_isSide) B.pre
  have hown : s.vm.findClass RX3 = some m.cls := findClass_of_methodNamed B.named
  have hlocks := B.notSynchronized
  subst hsz
  have hD := hD0.self (sz := s.heap.size)
  generalize hAe : va_A [] s.heap.size = A at hD hN ⊢
  have hA : ∀ q : Nat, s.heap.size ≤ q → A q := fun q h => by rw [← hAe]; exact Or.inr h
  have hP : va_P (dC, dI) vwCl [] s.heap := hP
  have hl := lv_entry ([.int i0]) (n := 1) (Nat.le_of_ble_eq_true rfl)
  rw [lg_entry_eq]
  generalize (lg_sl ([.int i0]) ++ List.replicate (1 - (lg_sl ([.int i0])).length) Slot.unset).toArray = ls at hl ⊢
  have hl : lv_has ls 1 [(0, .int i0)] := hl
  refine nameH (fun H locs hHe hLe => ?_)
  have hP : va_P (dC, dI) vwCl [] H := by rw [hHe]; exact hP
  have hS : va_S A s.heap H locs := by rw [hHe, hLe]; exact va_S.rf
  refine withW (fun WW hWW => ?_)
  have J9 : ∀ (H : Heap) (locs : List Loc) (ls : Array Slot), va_P (dC, dI) vwCl [] H → va_D A [] → va_S A s.heap H locs → lv_has ls 1 [] → fX3_isSide_9  = some y → WW H locs 0 0 ls 9 [] := by
    intro  H locs ls hP hD hS hl hf
    unfold fX3_isSide_9 at hf
    refine (hWW _ _ _ _ _ _ _).2 ?_
    refine lv_iconst (v := 1) hx hb dX3_isSide_9 (by decide) ?_
    refine lv_goto (tgt := 14) hx hb dX3_isSide_10 (by decide) ?_
    obtain rfl := Option.some.inj hf
    exact W.zret (v := 1) hx hb hr rfl (fun t ht hW => ⟨⟨1, (), rfl, rfl, by rw [ht]; exact hP, hD⟩, hS.F ht⟩) hS.2.2 dX3_isSide_14
  refine (hWW _ _ _ _ _ _ _).2 ?_
  unfold fX3_isSide at hf
  refine lv_iload_n hx hb dX3_isSide_0 rfl (lv_at hl 0 rfl) ?_
  refine lv_if_eq (tgt := 9) hx hb dX3_isSide_1 (by decide) (fun c1 => ?_) (fun c1 => ?_)
  · have hf := oif_t c1 hf
    exact (hWW _ _ _ _ _ _ _).1 (J9  H locs ls hP hD hS (lv_sub hl [] rfl) hf)
  · have hf := oif_f c1 hf
    refine lv_iload_n hx hb dX3_isSide_4 rfl (lv_at hl 0 rfl) ?_
    refine lv_iconst (v := 1) hx hb dX3_isSide_5 (by decide) ?_
    refine lv_icmp_ne (tgt := 13) hx hb dX3_isSide_6 (by decide) (fun c2 => ?_) (fun c2 => ?_)
    · have hf := oif_f c2 hf
      refine lv_iconst (v := 0) hx hb dX3_isSide_13 (by decide) ?_
      obtain rfl := Option.some.inj hf
      exact W.zret (v := 0) hx hb hr rfl (fun t ht hW => ⟨⟨0, (), rfl, rfl, by rw [ht]; exact hP, hD⟩, hS.F ht⟩) hS.2.2 dX3_isSide_14
    · have hf := oif_t c2 hf
      exact (hWW _ _ _ _ _ _ _).1 (J9  H locs ls hP hD hS (lv_sub hl [] rfl) hf)
def fX3_isPart_9 : Option Int32 :=
  some 1
def fX3_isPart (i0 : Int32) : Option Int32 :=
  if i0 = 0 then (fX3_isPart_9 ) else (if i0 = (1 : Int32) then (fX3_isPart_9 ) else (some 0))
set_option maxHeartbeats 8000000 in
set_option maxRecDepth 100000 in
theorem mX3_isPart (l : Launch) (dC : Nat → ClassId) (dI : Nat → Nat → Nat) (cI cJ : ClassId) (sz : Nat) (i0 : Int32) (y : Int32) (hf : fX3_isPart i0 = some y) : Met l yX3_isPart wsX3_isPart ({ frames := 0, cells := 0, slots := 0, locals := 0 }) (cPc dC dI cI cJ [.int i0] [] sz) (va_Qi (fun r (_ : Unit) => r = y) (fun _ t => cB dC dI (va_A [] sz) [] t) (va_A [] sz)) 0 0 (va_A [] sz) := by
  refine Met.ofW (cc := cX3_isPart) (maxL := 1) (ret := (some .boolean)) (by decide) rfl ?_
  intro p e s m args below meth c s₁ B hml hv
  obtain ⟨rfl, hsz, hP, hK, hD0, hN⟩ := hv
  have hx := B.exec
  have hb := B.bytes
  have hr := B.returns
  have hts := atoms_spec (ws := wsX3_isPart) B.pre
  have hown : s.vm.findClass RX3 = some m.cls := findClass_of_methodNamed B.named
  have hlocks := B.notSynchronized
  subst hsz
  have hD := hD0.self (sz := s.heap.size)
  generalize hAe : va_A [] s.heap.size = A at hD hN ⊢
  have hA : ∀ q : Nat, s.heap.size ≤ q → A q := fun q h => by rw [← hAe]; exact Or.inr h
  have hP : va_P (dC, dI) vwCl [] s.heap := hP
  have hl := lv_entry ([.int i0]) (n := 1) (Nat.le_of_ble_eq_true rfl)
  rw [lg_entry_eq]
  generalize (lg_sl ([.int i0]) ++ List.replicate (1 - (lg_sl ([.int i0])).length) Slot.unset).toArray = ls at hl ⊢
  have hl : lv_has ls 1 [(0, .int i0)] := hl
  refine nameH (fun H locs hHe hLe => ?_)
  have hP : va_P (dC, dI) vwCl [] H := by rw [hHe]; exact hP
  have hS : va_S A s.heap H locs := by rw [hHe, hLe]; exact va_S.rf
  refine withW (fun WW hWW => ?_)
  have J9 : ∀ (H : Heap) (locs : List Loc) (ls : Array Slot), va_P (dC, dI) vwCl [] H → va_D A [] → va_S A s.heap H locs → lv_has ls 1 [] → fX3_isPart_9  = some y → WW H locs 0 0 ls 9 [] := by
    intro  H locs ls hP hD hS hl hf
    unfold fX3_isPart_9 at hf
    refine (hWW _ _ _ _ _ _ _).2 ?_
    refine lv_iconst (v := 1) hx hb dX3_isPart_9 (by decide) ?_
    refine lv_goto (tgt := 14) hx hb dX3_isPart_10 (by decide) ?_
    obtain rfl := Option.some.inj hf
    exact W.zret (v := 1) hx hb hr rfl (fun t ht hW => ⟨⟨1, (), rfl, rfl, by rw [ht]; exact hP, hD⟩, hS.F ht⟩) hS.2.2 dX3_isPart_14
  refine (hWW _ _ _ _ _ _ _).2 ?_
  unfold fX3_isPart at hf
  refine lv_iload_n hx hb dX3_isPart_0 rfl (lv_at hl 0 rfl) ?_
  refine lv_if_eq (tgt := 9) hx hb dX3_isPart_1 (by decide) (fun c1 => ?_) (fun c1 => ?_)
  · have hf := oif_t c1 hf
    exact (hWW _ _ _ _ _ _ _).1 (J9  H locs ls hP hD hS (lv_sub hl [] rfl) hf)
  · have hf := oif_f c1 hf
    refine lv_iload_n hx hb dX3_isPart_4 rfl (lv_at hl 0 rfl) ?_
    refine lv_iconst (v := 1) hx hb dX3_isPart_5 (by decide) ?_
    refine lv_icmp_ne (tgt := 13) hx hb dX3_isPart_6 (by decide) (fun c2 => ?_) (fun c2 => ?_)
    · have hf := oif_f c2 hf
      refine lv_iconst (v := 0) hx hb dX3_isPart_13 (by decide) ?_
      obtain rfl := Option.some.inj hf
      exact W.zret (v := 0) hx hb hr rfl (fun t ht hW => ⟨⟨0, (), rfl, rfl, by rw [ht]; exact hP, hD⟩, hS.F ht⟩) hS.2.2 dX3_isPart_14
    · have hf := oif_t c2 hf
      exact (hWW _ _ _ _ _ _ _).1 (J9  H locs ls hP hD hS (lv_sub hl [] rfl) hf)
def fX3_isError (i0 : Int32) : Option Int32 :=
  if (-1000001 : Int32) < i0 then (some 0) else (some 1)
set_option maxHeartbeats 8000000 in
set_option maxRecDepth 100000 in
theorem mX3_isError (l : Launch) (dC : Nat → ClassId) (dI : Nat → Nat → Nat) (cI cJ : ClassId) (sz : Nat) (i0 : Int32) (y : Int32) (hf : fX3_isError i0 = some y) : Met l yX3_isError wsX3_isError ({ frames := 0, cells := 0, slots := 0, locals := 0 }) (cPc dC dI cI cJ [.int i0] [] sz) (va_Qi (fun r (_ : Unit) => r = y) (fun _ t => cB dC dI (va_A [] sz) [] t) (va_A [] sz)) 0 0 (va_A [] sz) := by
  refine Met.ofW (cc := cX3_isError) (maxL := 1) (ret := (some .boolean)) (by decide) rfl ?_
  intro p e s m args below meth c s₁ B hml hv
  obtain ⟨rfl, hsz, hP, hK, hD0, hN⟩ := hv
  have hx := B.exec
  have hb := B.bytes
  have hr := B.returns
  have hts := atoms_spec (ws := wsX3_isError) B.pre
  have hown : s.vm.findClass RX3 = some m.cls := findClass_of_methodNamed B.named
  have hlocks := B.notSynchronized
  subst hsz
  have hD := hD0.self (sz := s.heap.size)
  generalize hAe : va_A [] s.heap.size = A at hD hN ⊢
  have hA : ∀ q : Nat, s.heap.size ≤ q → A q := fun q h => by rw [← hAe]; exact Or.inr h
  have hP : va_P (dC, dI) vwCl [] s.heap := hP
  have hl := lv_entry ([.int i0]) (n := 1) (Nat.le_of_ble_eq_true rfl)
  rw [lg_entry_eq]
  generalize (lg_sl ([.int i0]) ++ List.replicate (1 - (lg_sl ([.int i0])).length) Slot.unset).toArray = ls at hl ⊢
  have hl : lv_has ls 1 [(0, .int i0)] := hl
  have hc84 := hts (.constant RX3 84 (-1000001)) (by decide +kernel)
  refine nameH (fun H locs hHe hLe => ?_)
  have hP : va_P (dC, dI) vwCl [] H := by rw [hHe]; exact hP
  have hS : va_S A s.heap H locs := by rw [hHe, hLe]; exact va_S.rf
  unfold fX3_isError at hf
  refine lv_iload_n hx hb dX3_isError_0 rfl (lv_at hl 0 rfl) ?_
  refine lv_ldc (v := (-1000001)) hx hb hown hc84 dX3_isError_1 ?_
  refine lv_icmp_gt (tgt := 10) hx hb dX3_isError_3 (by decide) (fun c1 => ?_) (fun c1 => ?_)
  · have hf := oif_t c1 hf
    refine lv_iconst (v := 0) hx hb dX3_isError_10 (by decide) ?_
    obtain rfl := Option.some.inj hf
    exact W.zret (v := 0) hx hb hr rfl (fun t ht hW => ⟨⟨0, (), rfl, rfl, by rw [ht]; exact hP, hD⟩, hS.F ht⟩) hS.2.2 dX3_isError_11
  · have hf := oif_f c1 hf
    refine lv_iconst (v := 1) hx hb dX3_isError_6 (by decide) ?_
    refine lv_goto (tgt := 11) hx hb dX3_isError_7 (by decide) ?_
    obtain rfl := Option.some.inj hf
    exact W.zret (v := 1) hx hb hr rfl (fun t ht hW => ⟨⟨1, (), rfl, rfl, by rw [ht]; exact hP, hD⟩, hS.F ht⟩) hS.2.2 dX3_isError_11
def fX3_greatestDivisor_15_b (k15 : Int64 → Int64 → Int32 → Option Int64) (l4 : Int64) (l6 : Int64) (x8 : Int32) : Option Int64 :=
  if (200 : Int32) ≤ x8 then (some l4) else (if (lg_cmp l6 (0 : Int64)) = 0 then (some l4) else (if l6 = 0 then none else (elet (l4 - l4 / l6 * l6) (fun z4 => elet (x8 + 1) (fun z5 => k15 l6 z4 z5)))))
def fX3_greatestDivisor_15 : Nat → Int64 → Int64 → Int32 → Option Int64
  | 0 => fun _ _ _ => none
  | n + 1 => fX3_greatestDivisor_15_b (fX3_greatestDivisor_15 n)
def fX3_greatestDivisor (j0 : Int64) (j2 : Int64) : Option Int64 :=
  elet (if 0 < j0 then j0 else -j0) (fun z6 => elet (if 0 < j2 then j2 else -j2) (fun z7 => fX3_greatestDivisor_15 FU z6 z7 (0 : Int32)))
set_option maxHeartbeats 8000000 in
set_option maxRecDepth 100000 in
theorem mX3_greatestDivisor (l : Launch) (dC : Nat → ClassId) (dI : Nat → Nat → Nat) (cI cJ : ClassId) (sz : Nat) (j0 : Int64) (j2 : Int64) (y : Int64) (hf : fX3_greatestDivisor j0 j2 = some y) : Met l yX3_greatestDivisor wsX3_greatestDivisor ({ frames := 1, cells := 0, slots := 0, locals := 23 }) (cPc dC dI cI cJ [.long j0, .long j2] [] sz) (va_Ql (fun r (_ : Unit) => r = y) (fun _ t => cB dC dI (va_A [] sz) [] t) (va_A [] sz)) 0 0 (va_A [] sz) := by
  refine Met.ofW (cc := cX3_greatestDivisor) (maxL := 11) (ret := (some .long)) (by decide) rfl ?_
  intro p e s m args below meth c s₁ B hml hv
  obtain ⟨rfl, hsz, hP, hK, hD0, hN⟩ := hv
  have hx := B.exec
  have hb := B.bytes
  have hr := B.returns
  have hts := atoms_spec (ws := wsX3_greatestDivisor) B.pre
  have hown : s.vm.findClass RX3 = some m.cls := findClass_of_methodNamed B.named
  have hlocks := B.notSynchronized
  subst hsz
  have hD := hD0.self (sz := s.heap.size)
  generalize hAe : va_A [] s.heap.size = A at hD hN ⊢
  have hA : ∀ q : Nat, s.heap.size ≤ q → A q := fun q h => by rw [← hAe]; exact Or.inr h
  have hP : va_P (dC, dI) vwCl [] s.heap := hP
  have hl := lv_entry ([.long j0, .long j2]) (n := 11) (Nat.le_of_ble_eq_true rfl)
  rw [lg_entry_eq]
  generalize (lg_sl ([.long j0, .long j2]) ++ List.replicate (11 - (lg_sl ([.long j0, .long j2])).length) Slot.unset).toArray = ls at hl ⊢
  have hl : lv_has ls 11 [(0, .long j0), (2, .long j2)] := hl
  refine nameH (fun H locs hHe hLe => ?_)
  have hP : va_P (dC, dI) vwCl [] H := by rw [hHe]; exact hP
  have hS : va_S A s.heap H locs := by rw [hHe, hLe]; exact va_S.rf
  refine withW (fun WW hWW => ?_)
  have L15 : ∀ (n : Nat) (l4 : Int64) (l6 : Int64) (x8 : Int32) (H : Heap) (locs : List Loc) (ls : Array Slot), va_P (dC, dI) vwCl [] H → va_D A [] → va_S A s.heap H locs → lv_has ls 11 [(4, .long l4), (6, .long l6), (8, .int x8)] → fX3_greatestDivisor_15 n l4 l6 x8 = some y → WW H locs 0 0 ls 15 [] := by
    intro n
    induction n with
    | zero =>
      intro l4 l6 x8 H locs ls hP hD hS hl hf
      exact onone hf
    | succ n ih =>
      intro l4 l6 x8 H locs ls hP hD hS hl hf
      have hf : fX3_greatestDivisor_15_b (fX3_greatestDivisor_15 n) l4 l6 x8 = some y := hf
      generalize fX3_greatestDivisor_15 n = k15 at hf ih
      have hk15 := ih
      clear ih
      unfold fX3_greatestDivisor_15_b at hf
      refine (hWW _ _ _ _ _ _ _).2 ?_
      refine lv_iload hx hb dX3_greatestDivisor_15 (lv_at hl 2 rfl) ?_
      refine lv_sipush (v := 200) hx hb dX3_greatestDivisor_17 (by decide) ?_
      refine lv_icmp_ge (tgt := 51) hx hb dX3_greatestDivisor_20 (by decide) (fun c1 => ?_) (fun c1 => ?_)
      · have hf := oif_t c1 hf
        refine lv_lload hx hb dX3_greatestDivisor_51 (lv_at hl 0 rfl) ?_
        obtain rfl := Option.some.inj hf
        exact W.lret (v := l4) hx hb hr (fun t ht hW => ⟨⟨l4, (), rfl, rfl, by rw [ht]; exact hP, hD⟩, hS.F ht⟩) hS.2.2 dX3_greatestDivisor_53
      · have hf := oif_f c1 hf
        refine lv_lload hx hb dX3_greatestDivisor_23 (lv_at hl 1 rfl) ?_
        refine lv_lconst (v := 0) hx hb dX3_greatestDivisor_25 (by decide) ?_
        refine W.lcmp hx hb dX3_greatestDivisor_26 ?_
        refine lv_if_eq (tgt := 51) hx hb dX3_greatestDivisor_27 (by decide) (fun c2 => ?_) (fun c2 => ?_)
        · have hf := oif_t c2 hf
          refine lv_lload hx hb dX3_greatestDivisor_51 (lv_at hl 0 rfl) ?_
          obtain rfl := Option.some.inj hf
          exact W.lret (v := l4) hx hb hr (fun t ht hW => ⟨⟨l4, (), rfl, rfl, by rw [ht]; exact hP, hD⟩, hS.F ht⟩) hS.2.2 dX3_greatestDivisor_53
        · have hf := oif_f c2 hf
          refine lv_lload hx hb dX3_greatestDivisor_30 (lv_at hl 0 rfl) ?_
          refine lv_lload hx hb dX3_greatestDivisor_32 (lv_at hl 1 rfl) ?_
          obtain ⟨hd3, hf⟩ := odiv hf
          refine lv_lrem hx hb dX3_greatestDivisor_34 hd3 ?_
          obtain ⟨z4, ez4, hf⟩ := elet_out hf
          refine lvn_l ez4 ?_
          refine lv_lstore (lv' := [(9, .long z4), (4, .long l4), (6, .long l6), (8, .int x8)]) hx hb dX3_greatestDivisor_35 hl (by decide) rfl (fun ls hl => ?_)
          refine lv_lload hx hb dX3_greatestDivisor_37 (lv_at hl 2 rfl) ?_
          refine lv_lstore (lv' := [(4, .long l6), (9, .long z4), (6, .long l6), (8, .int x8)]) hx hb dX3_greatestDivisor_39 hl (by decide) rfl (fun ls hl => ?_)
          refine lv_lload hx hb dX3_greatestDivisor_41 (lv_at hl 1 rfl) ?_
          refine lv_lstore (lv' := [(6, .long z4), (4, .long l6), (9, .long z4), (8, .int x8)]) hx hb dX3_greatestDivisor_43 hl (by decide) rfl (fun ls hl => ?_)
          obtain ⟨z5, ez5, hf⟩ := elet_out hf
          refine lv_iinc (v := z5) (lv' := [(8, .int z5), (6, .long z4), (4, .long l6), (9, .long z4)]) hx hb dX3_greatestDivisor_45 hl (k := 3) rfl (by rw [ez5]; rfl) (by decide) rfl (fun ls hl => ?_)
          refine lv_goto (tgt := 15) hx hb dX3_greatestDivisor_48 (by decide) ?_
          exact (hWW _ _ _ _ _ _ _).1 (hk15 l6 z4 z5 H locs ls hP hD hS (lv_sub hl [2, 1, 0] rfl) hf)
  refine (hWW _ _ _ _ _ _ _).2 ?_
  unfold fX3_greatestDivisor at hf
  refine lv_lload_n hx hb dX3_greatestDivisor_0 rfl (lv_at hl 0 rfl) ?_
  refine va_mabs_long hx hb (hml.trans hl.1.symm) hown (hts (.methodLink RX3 180 Lib.MathLoose.abs_long.x) (by decide +kernel)) (hts (.static Lib.MathLoose.abs_long.x) (by decide +kernel)) (hts (.initialized "java/lang/Math") (by decide +kernel)) (hts (.code Lib.MathLoose.abs_long.x Lib.MathLoose.abs_long.code 2 (some .long)) (by decide +kernel)) (Nat.le_of_ble_eq_true rfl) (Nat.le_of_ble_eq_true rfl) (Nat.le_of_ble_eq_true rfl) (Nat.le_of_ble_eq_true rfl) dX3_greatestDivisor_1 ?_
  obtain ⟨z6, ez6, hf⟩ := elet_out hf
  refine lvn_l ez6 ?_
  refine lv_lstore (lv' := [(4, .long z6), (0, .long j0), (2, .long j2)]) hx hb dX3_greatestDivisor_4 hl (by decide) rfl (fun ls hl => ?_)
  refine lv_lload_n hx hb dX3_greatestDivisor_6 rfl (lv_at hl 2 rfl) ?_
  refine va_mabs_long hx hb (hml.trans hl.1.symm) hown (hts (.methodLink RX3 180 Lib.MathLoose.abs_long.x) (by decide +kernel)) (hts (.static Lib.MathLoose.abs_long.x) (by decide +kernel)) (hts (.initialized "java/lang/Math") (by decide +kernel)) (hts (.code Lib.MathLoose.abs_long.x Lib.MathLoose.abs_long.code 2 (some .long)) (by decide +kernel)) (Nat.le_of_ble_eq_true rfl) (Nat.le_of_ble_eq_true rfl) (Nat.le_of_ble_eq_true rfl) (Nat.le_of_ble_eq_true rfl) dX3_greatestDivisor_7 ?_
  obtain ⟨z7, ez7, hf⟩ := elet_out hf
  refine lvn_l ez7 ?_
  refine lv_lstore (lv' := [(6, .long z7), (4, .long z6), (0, .long j0), (2, .long j2)]) hx hb dX3_greatestDivisor_10 hl (by decide) rfl (fun ls hl => ?_)
  refine lv_iconst (v := 0) hx hb dX3_greatestDivisor_12 (by decide) ?_
  refine lv_istore (lv' := [(8, .int 0), (6, .long z7), (4, .long z6), (0, .long j0), (2, .long j2)]) hx hb dX3_greatestDivisor_13 hl (by decide) rfl (fun ls hl => ?_)
  exact (hWW _ _ _ _ _ _ _).1 (L15 FU z6 z7 (0 : Int32) H locs ls hP hD hS (lv_sub hl [2, 1, 0] rfl) hf)
def fX3_inLowestTerms_17 (l5 : Int64) (st0 : Int64) : Option Int64 :=
  if (lg_cmp l5 (1 : Int64)) ≤ 0 then (some st0) else (if l5 = 0 then none else (some (st0 / l5)))
def fX3_inLowestTerms (j0 : Int64) (j2 : Int64) (i4 : Int32) : Option Int64 :=
  (fX3_greatestDivisor j0 j2).bind (fun y3 => if i4 = 0 then (fX3_inLowestTerms_17 y3 j0) else (fX3_inLowestTerms_17 y3 j2))
set_option maxHeartbeats 8000000 in
set_option maxRecDepth 100000 in
theorem mX3_inLowestTerms (l : Launch) (dC : Nat → ClassId) (dI : Nat → Nat → Nat) (cI cJ : ClassId) (sz : Nat) (j0 : Int64) (j2 : Int64) (i4 : Int32) (y : Int64) (hf : fX3_inLowestTerms j0 j2 i4 = some y) : Met l yX3_inLowestTerms wsX3_inLowestTerms ({ frames := 2, cells := 0, slots := 0, locals := 53 }) (cPc dC dI cI cJ [.long j0, .long j2, .int i4] [] sz) (va_Ql (fun r (_ : Unit) => r = y) (fun _ t => cB dC dI (va_A [] sz) [] t) (va_A [] sz)) 0 0 (va_A [] sz) := by
  refine Met.ofW (cc := cX3_inLowestTerms) (maxL := 9) (ret := (some .long)) (by decide) rfl ?_
  intro p e s m args below meth c s₁ B hml hv
  obtain ⟨rfl, hsz, hP, hK, hD0, hN⟩ := hv
  have hx := B.exec
  have hb := B.bytes
  have hr := B.returns
  have hts := atoms_spec (ws := wsX3_inLowestTerms) B.pre
  have hown : s.vm.findClass RX3 = some m.cls := findClass_of_methodNamed B.named
  have hlocks := B.notSynchronized
  subst hsz
  have hD := hD0.self (sz := s.heap.size)
  generalize hAe : va_A [] s.heap.size = A at hD hN ⊢
  have hA : ∀ q : Nat, s.heap.size ≤ q → A q := fun q h => by rw [← hAe]; exact Or.inr h
  have hP : va_P (dC, dI) vwCl [] s.heap := hP
  have hl := lv_entry ([.long j0, .long j2, .int i4]) (n := 9) (Nat.le_of_ble_eq_true rfl)
  rw [lg_entry_eq]
  generalize (lg_sl ([.long j0, .long j2, .int i4]) ++ List.replicate (9 - (lg_sl ([.long j0, .long j2, .int i4])).length) Slot.unset).toArray = ls at hl ⊢
  have hl : lv_has ls 9 [(0, .long j0), (2, .long j2), (4, .int i4)] := hl
  refine nameH (fun H locs hHe hLe => ?_)
  have hP : va_P (dC, dI) vwCl [] H := by rw [hHe]; exact hP
  have hS : va_S A s.heap H locs := by rw [hHe, hLe]; exact va_S.rf
  refine withW (fun WW hWW => ?_)
  have J17 : ∀ (l5 : Int64) (st0 : Int64) (H : Heap) (locs : List Loc) (ls : Array Slot), va_P (dC, dI) vwCl [] H → va_D A [] → va_S A s.heap H locs → lv_has ls 9 [(5, .long l5)] → fX3_inLowestTerms_17 l5 st0 = some y → WW H locs 0 0 ls 17 [.long st0] := by
    intro l5 st0 H locs ls hP hD hS hl hf
    unfold fX3_inLowestTerms_17 at hf
    refine (hWW _ _ _ _ _ _ _).2 ?_
    refine lv_lstore (lv' := [(7, .long st0), (5, .long l5)]) hx hb dX3_inLowestTerms_17 hl (by decide) rfl (fun ls hl => ?_)
    refine lv_lload hx hb dX3_inLowestTerms_19 (lv_at hl 1 rfl) ?_
    refine lv_lconst (v := 1) hx hb dX3_inLowestTerms_21 (by decide) ?_
    refine W.lcmp hx hb dX3_inLowestTerms_22 ?_
    refine lv_if_le (tgt := 34) hx hb dX3_inLowestTerms_23 (by decide) (fun c1 => ?_) (fun c1 => ?_)
    · have hf := oif_t c1 hf
      refine lv_lload hx hb dX3_inLowestTerms_34 (lv_at hl 0 rfl) ?_
      obtain rfl := Option.some.inj hf
      exact W.lret (v := st0) hx hb hr (fun t ht hW => ⟨⟨st0, (), rfl, rfl, by rw [ht]; exact hP, hD⟩, hS.F ht⟩) hS.2.2 dX3_inLowestTerms_36
    · have hf := oif_f c1 hf
      refine lv_lload hx hb dX3_inLowestTerms_26 (lv_at hl 0 rfl) ?_
      refine lv_lload hx hb dX3_inLowestTerms_28 (lv_at hl 1 rfl) ?_
      obtain ⟨hd2, hf⟩ := odiv hf
      refine lv_ldiv hx hb dX3_inLowestTerms_30 hd2 ?_
      refine lv_goto (tgt := 36) hx hb dX3_inLowestTerms_31 (by decide) ?_
      obtain rfl := Option.some.inj hf
      exact W.lret (v := (st0 / l5)) hx hb hr (fun t ht hW => ⟨⟨(st0 / l5), (), rfl, rfl, by rw [ht]; exact hP, hD⟩, hS.F ht⟩) hS.2.2 dX3_inLowestTerms_36
  refine (hWW _ _ _ _ _ _ _).2 ?_
  unfold fX3_inLowestTerms at hf
  refine lv_lload_n hx hb dX3_inLowestTerms_0 rfl (lv_at hl 0 rfl) ?_
  refine lv_lload_n hx hb dX3_inLowestTerms_1 rfl (lv_at hl 1 rfl) ?_
  obtain ⟨y3, hy3, hf⟩ := obind hf
  refine cg_l (ws := []) (wc := []) (wr := []) (w1 := []) (wo := []) hP hD hS hA (va_runS (As := [.long j0, .long j2]) (rest := []) ⟨hx, hb, hml, hown, hts⟩ (mX3_greatestDivisor l dC dI cI cJ  H.size j0 j2 y3 hy3) (va_cwS 2 hts gX3_inLowestTerms_X3_greatestDivisor rfl rfl rfl (by decide +kernel) ⟨Nat.le_of_ble_eq_true rfl, Nat.le_of_ble_eq_true rfl⟩) ⟨cFB, cPre hK hN hS (va_free (wc := []) hD hS hA [] rfl) (hP.sub [] rfl) (hD.sub [] rfl rfl)⟩ rfl rfl hl.1 rfl (lv_room (Nat.le_of_ble_eq_true rfl)) dX3_inLowestTerms_2 ⟨Nat.le_of_ble_eq_true rfl, Nat.le_of_ble_eq_true rfl⟩) [] [] [] rfl rfl rfl (by decide +kernel) rfl rfl (fun H locs hP hD hS => ?_)
  refine lv_lstore (lv' := [(5, .long y3), (0, .long j0), (2, .long j2), (4, .int i4)]) hx hb dX3_inLowestTerms_5 hl (by decide) rfl (fun ls hl => ?_)
  refine lv_iload hx hb dX3_inLowestTerms_7 (lv_at hl 3 rfl) ?_
  refine lv_if_ne (tgt := 16) hx hb dX3_inLowestTerms_9 (by decide) (fun c4 => ?_) (fun c4 => ?_)
  · have hf := oif_f c4 hf
    refine lv_lload_n hx hb dX3_inLowestTerms_16 rfl (lv_at hl 2 rfl) ?_
    exact (hWW _ _ _ _ _ _ _).1 (J17 y3 j2 H locs ls hP hD hS (lv_sub hl [0] rfl) hf)
  · have hf := oif_t c4 hf
    refine lv_lload_n hx hb dX3_inLowestTerms_12 rfl (lv_at hl 1 rfl) ?_
    refine lv_goto (tgt := 17) hx hb dX3_inLowestTerms_13 (by decide) ?_
    exact (hWW _ _ _ _ _ _ _).1 (J17 y3 j0 H locs ls hP hD hS (lv_sub hl [0] rfl) hf)
def fX3_forcePart (j0 : Int64) (j2 : Int64) (i4 : Int32) : Option Int32 :=
  (fX3_inLowestTerms j0 j2 i4).bind (fun y1 => elet ((y1).toInt32) (fun z2 => if i4 = 0 then (some (z2 + (1000000000 : Int32))) else (some z2)))
set_option maxHeartbeats 8000000 in
set_option maxRecDepth 100000 in
theorem mX3_forcePart (l : Launch) (dC : Nat → ClassId) (dI : Nat → Nat → Nat) (cI cJ : ClassId) (sz : Nat) (j0 : Int64) (j2 : Int64) (i4 : Int32) (y : Int32) (hf : fX3_forcePart j0 j2 i4 = some y) : Met l yX3_forcePart wsX3_forcePart ({ frames := 3, cells := 0, slots := 0, locals := 81 }) (cPc dC dI cI cJ [.long j0, .long j2, .int i4] [] sz) (va_Qi (fun r (_ : Unit) => r = y) (fun _ t => cB dC dI (va_A [] sz) [] t) (va_A [] sz)) 0 0 (va_A [] sz) := by
  refine Met.ofW (cc := cX3_forcePart) (maxL := 6) (ret := (some .int)) (by decide) rfl ?_
  intro p e s m args below meth c s₁ B hml hv
  obtain ⟨rfl, hsz, hP, hK, hD0, hN⟩ := hv
  have hx := B.exec
  have hb := B.bytes
  have hr := B.returns
  have hts := atoms_spec (ws := wsX3_forcePart) B.pre
  have hown : s.vm.findClass RX3 = some m.cls := findClass_of_methodNamed B.named
  have hlocks := B.notSynchronized
  subst hsz
  have hD := hD0.self (sz := s.heap.size)
  generalize hAe : va_A [] s.heap.size = A at hD hN ⊢
  have hA : ∀ q : Nat, s.heap.size ≤ q → A q := fun q h => by rw [← hAe]; exact Or.inr h
  have hP : va_P (dC, dI) vwCl [] s.heap := hP
  have hl := lv_entry ([.long j0, .long j2, .int i4]) (n := 6) (Nat.le_of_ble_eq_true rfl)
  rw [lg_entry_eq]
  generalize (lg_sl ([.long j0, .long j2, .int i4]) ++ List.replicate (6 - (lg_sl ([.long j0, .long j2, .int i4])).length) Slot.unset).toArray = ls at hl ⊢
  have hl : lv_has ls 6 [(0, .long j0), (2, .long j2), (4, .int i4)] := hl
  have hc175 := hts (.constant RX3 175 1000000000) (by decide +kernel)
  refine nameH (fun H locs hHe hLe => ?_)
  have hP : va_P (dC, dI) vwCl [] H := by rw [hHe]; exact hP
  have hS : va_S A s.heap H locs := by rw [hHe, hLe]; exact va_S.rf
  unfold fX3_forcePart at hf
  refine lv_lload_n hx hb dX3_forcePart_0 rfl (lv_at hl 0 rfl) ?_
  refine lv_lload_n hx hb dX3_forcePart_1 rfl (lv_at hl 1 rfl) ?_
  refine lv_iload hx hb dX3_forcePart_2 (lv_at hl 2 rfl) ?_
  obtain ⟨y1, hy1, hf⟩ := obind hf
  refine cg_l (ws := []) (wc := []) (wr := []) (w1 := []) (wo := []) hP hD hS hA (va_runS (As := [.long j0, .long j2, .int i4]) (rest := []) ⟨hx, hb, hml, hown, hts⟩ (mX3_inLowestTerms l dC dI cI cJ  H.size j0 j2 i4 y1 hy1) (va_cwS 3 hts gX3_forcePart_X3_inLowestTerms rfl rfl rfl (by decide +kernel) ⟨Nat.le_of_ble_eq_true rfl, Nat.le_of_ble_eq_true rfl⟩) ⟨cFB, cPre hK hN hS (va_free (wc := []) hD hS hA [] rfl) (hP.sub [] rfl) (hD.sub [] rfl rfl)⟩ rfl rfl hl.1 rfl (lv_room (Nat.le_of_ble_eq_true rfl)) dX3_forcePart_4 ⟨Nat.le_of_ble_eq_true rfl, Nat.le_of_ble_eq_true rfl⟩) [] [] [] rfl rfl rfl (by decide +kernel) rfl rfl (fun H locs hP hD hS => ?_)
  refine lv_l2i (v := (y1).toInt32) hx hb dX3_forcePart_7 rfl ?_
  obtain ⟨z2, ez2, hf⟩ := elet_out hf
  refine lvn_i ez2 ?_
  refine lv_istore (lv' := [(5, .int z2), (0, .long j0), (2, .long j2), (4, .int i4)]) hx hb dX3_forcePart_8 hl (by decide) rfl (fun ls hl => ?_)
  refine lv_iload hx hb dX3_forcePart_10 (lv_at hl 3 rfl) ?_
  refine lv_if_ne (tgt := 23) hx hb dX3_forcePart_12 (by decide) (fun c3 => ?_) (fun c3 => ?_)
  · have hf := oif_f c3 hf
    refine lv_iload hx hb dX3_forcePart_23 (lv_at hl 0 rfl) ?_
    obtain rfl := Option.some.inj hf
    exact W.iret (v := z2) hx hb hr (fun t ht hW => ⟨⟨z2, (), rfl, rfl, by rw [ht]; exact hP, hD⟩, hS.F ht⟩) hS.2.2 dX3_forcePart_25
  · have hf := oif_t c3 hf
    refine lv_iload hx hb dX3_forcePart_15 (lv_at hl 0 rfl) ?_
    refine lv_ldc (v := 1000000000) hx hb hown hc175 dX3_forcePart_17 ?_
    refine lv_iadd hx hb dX3_forcePart_19 ?_
    refine lv_goto (tgt := 25) hx hb dX3_forcePart_20 (by decide) ?_
    obtain rfl := Option.some.inj hf
    exact W.iret (v := (z2 + (1000000000 : Int32))) hx hb hr (fun t ht hW => ⟨⟨(z2 + (1000000000 : Int32)), (), rfl, rfl, by rw [ht]; exact hP, hD⟩, hS.F ht⟩) hS.2.2 dX3_forcePart_25
def fX3_placeOrNotFound (i0 : Int32) : Option Int32 :=
  if i0 = (-1 : Int32) then (some (-1000004)) else (some i0)
set_option maxHeartbeats 8000000 in
set_option maxRecDepth 100000 in
theorem mX3_placeOrNotFound (l : Launch) (dC : Nat → ClassId) (dI : Nat → Nat → Nat) (cI cJ : ClassId) (sz : Nat) (i0 : Int32) (y : Int32) (hf : fX3_placeOrNotFound i0 = some y) : Met l yX3_placeOrNotFound wsX3_placeOrNotFound ({ frames := 0, cells := 0, slots := 0, locals := 0 }) (cPc dC dI cI cJ [.int i0] [] sz) (va_Qi (fun r (_ : Unit) => r = y) (fun _ t => cB dC dI (va_A [] sz) [] t) (va_A [] sz)) 0 0 (va_A [] sz) := by
  refine Met.ofW (cc := cX3_placeOrNotFound) (maxL := 1) (ret := (some .int)) (by decide) rfl ?_
  intro p e s m args below meth c s₁ B hml hv
  obtain ⟨rfl, hsz, hP, hK, hD0, hN⟩ := hv
  have hx := B.exec
  have hb := B.bytes
  have hr := B.returns
  have hts := atoms_spec (ws := wsX3_placeOrNotFound) B.pre
  have hown : s.vm.findClass RX3 = some m.cls := findClass_of_methodNamed B.named
  have hlocks := B.notSynchronized
  subst hsz
  have hD := hD0.self (sz := s.heap.size)
  generalize hAe : va_A [] s.heap.size = A at hD hN ⊢
  have hA : ∀ q : Nat, s.heap.size ≤ q → A q := fun q h => by rw [← hAe]; exact Or.inr h
  have hP : va_P (dC, dI) vwCl [] s.heap := hP
  have hl := lv_entry ([.int i0]) (n := 1) (Nat.le_of_ble_eq_true rfl)
  rw [lg_entry_eq]
  generalize (lg_sl ([.int i0]) ++ List.replicate (1 - (lg_sl ([.int i0])).length) Slot.unset).toArray = ls at hl ⊢
  have hl : lv_has ls 1 [(0, .int i0)] := hl
  have hc101 := hts (.constant RX3 101 (-1000004)) (by decide +kernel)
  refine nameH (fun H locs hHe hLe => ?_)
  have hP : va_P (dC, dI) vwCl [] H := by rw [hHe]; exact hP
  have hS : va_S A s.heap H locs := by rw [hHe, hLe]; exact va_S.rf
  unfold fX3_placeOrNotFound at hf
  refine lv_iload_n hx hb dX3_placeOrNotFound_0 rfl (lv_at hl 0 rfl) ?_
  refine lv_iconst (v := (-1)) hx hb dX3_placeOrNotFound_1 (by decide) ?_
  refine lv_icmp_ne (tgt := 10) hx hb dX3_placeOrNotFound_2 (by decide) (fun c1 => ?_) (fun c1 => ?_)
  · have hf := oif_f c1 hf
    refine lv_iload_n hx hb dX3_placeOrNotFound_10 rfl (lv_at hl 0 rfl) ?_
    obtain rfl := Option.some.inj hf
    exact W.iret (v := i0) hx hb hr (fun t ht hW => ⟨⟨i0, (), rfl, rfl, by rw [ht]; exact hP, hD⟩, hS.F ht⟩) hS.2.2 dX3_placeOrNotFound_11
  · have hf := oif_t c1 hf
    refine lv_ldc (v := (-1000004)) hx hb hown hc101 dX3_placeOrNotFound_5 ?_
    refine lv_goto (tgt := 11) hx hb dX3_placeOrNotFound_7 (by decide) ?_
    obtain rfl := Option.some.inj hf
    exact W.iret (v := (-1000004)) hx hb hr (fun t ht hW => ⟨⟨(-1000004), (), rfl, rfl, by rw [ht]; exact hP, hD⟩, hS.F ht⟩) hS.2.2 dX3_placeOrNotFound_11
def fX0_setStop (vL : BX0) (i1 : Int32) (i2 : Int32) (i3 : Int32) : Option (Int32 × BX0) :=
  (fX0_hasPlate vL i1).bind (fun y1 => if y1 = 0 then (some ((-1000001), vL)) else ((fX3_isSide i2).bind (fun y3 => if y3 = 0 then (some ((-1000001), vL)) else (if i3 < 0 then (some ((-1000001), vL)) else (if i3 ≤ (p0_width vL) then ((fX0_stopOf vL i1 i2).bind (fun y7 => if inB (((2 : Int32) * i1) + i2) 8 = true then (elet (s0_stops vL (upd (p0_stops vL) ((((2 : Int32) * i1) + i2)).toNatClampNeg i3)) (fun b9 => (fX0_allowsRow b9).bind (fun y10 => if y10 = 0 then (if inB (((2 : Int32) * i1) + i2) 8 = true then (elet (s0_stops b9 (upd (p0_stops b9) ((((2 : Int32) * i1) + i2)).toNatClampNeg y7)) (fun b13 => some ((-1000002), b13))) else none) else (some (y7, b9))))) else none)) else (some ((-1000001), vL)))))))
set_option maxHeartbeats 8000000 in
set_option maxRecDepth 100000 in
theorem mX0_setStop (l : Launch) (dC : Nat → ClassId) (dI : Nat → Nat → Nat) (cI cJ : ClassId) (aL : Nat → Nat) (sz : Nat) (vL : BX0) (i1 : Int32) (i2 : Int32) (i3 : Int32) (y : (Int32 × BX0)) (hf : fX0_setStop vL i1 i2 i3 = some y) : Met l yX0_setStop wsX0_setStop ({ frames := 3, cells := 0, slots := 0, locals := 66 }) (cPc dC dI cI cJ [.ref (aL 0), .int i1, .int i2, .int i3] [k0_0 aL vL, k0_1 cI aL vL, k0_2 cI aL vL, k0_3 cI aL vL, k0_4 cI aL vL] sz) (va_Qi (fun r (_ : Unit) => r = y.1) (fun _ t => cB dC dI (va_A [k0_0 aL vL, k0_1 cI aL vL, k0_2 cI aL vL, k0_3 cI aL vL, k0_4 cI aL vL] sz) [k0_0 aL y.2, k0_1 cI aL y.2, k0_2 cI aL y.2, k0_3 cI aL y.2, k0_4 cI aL y.2] t) (va_A [k0_0 aL vL, k0_1 cI aL vL, k0_2 cI aL vL, k0_3 cI aL vL, k0_4 cI aL vL] sz)) 0 0 (va_A [k0_0 aL vL, k0_1 cI aL vL, k0_2 cI aL vL, k0_3 cI aL vL, k0_4 cI aL vL] sz) := by
  refine Met.ofW (cc := cX0_setStop) (maxL := 5) (ret := (some .int)) (by decide) rfl ?_
  intro p e s m args below meth c s₁ B hml hv
  obtain ⟨rfl, hsz, hP, hK, hD0, hN⟩ := hv
  have hx := B.exec
  have hb := B.bytes
  have hr := B.returns
  have hts := atoms_spec (ws := wsX0_setStop) B.pre
  have hown : s.vm.findClass RX0 = some m.cls := findClass_of_methodNamed B.named
  have hlocks := B.notSynchronized
  subst hsz
  have hD := hD0.self (sz := s.heap.size)
  generalize hAe : va_A [k0_0 aL vL, k0_1 cI aL vL, k0_2 cI aL vL, k0_3 cI aL vL, k0_4 cI aL vL] s.heap.size = A at hD hN ⊢
  have hA : ∀ q : Nat, s.heap.size ≤ q → A q := fun q h => by rw [← hAe]; exact Or.inr h
  have hP : va_P (dC, dI) vwCl [k0_0 aL vL, k0_1 cI aL vL, k0_2 cI aL vL, k0_3 cI aL vL, k0_4 cI aL vL] s.heap := hP
  have hl := lv_entry ([.ref (aL 0), .int i1, .int i2, .int i3]) (n := 5) (Nat.le_of_ble_eq_true rfl)
  rw [lg_entry_eq]
  generalize (lg_sl ([.ref (aL 0), .int i1, .int i2, .int i3]) ++ List.replicate (5 - (lg_sl ([.ref (aL 0), .int i1, .int i2, .int i3])).length) Slot.unset).toArray = ls at hl ⊢
  have hl : lv_has ls 5 [(0, .ref (aL 0)), (1, .int i1), (2, .int i2), (3, .int i3)] := hl
  have hc55 := hts (.constant RX0 55 (-1000001)) (by decide +kernel)
  have hiX0 : ∀ w ∈ u_ws RX0 TX0 6, w ∈ wsX0_setStop := by decide +kernel
  have hgX0_9 := hts (.fieldLink RX0 9 "SpringPlates$Layout" "width" "I") (by decide +kernel)
  have hgX0_28 := hts (.fieldLink RX0 28 "SpringPlates$Layout" "stops" "[I") (by decide +kernel)
  have hc60 := hts (.constant RX0 60 (-1000002)) (by decide +kernel)
  refine nameH (fun H locs hHe hLe => ?_)
  have hP : va_P (dC, dI) vwCl [k0_0 aL vL, k0_1 cI aL vL, k0_2 cI aL vL, k0_3 cI aL vL, k0_4 cI aL vL] H := by rw [hHe]; exact hP
  have hS : va_S A s.heap H locs := by rw [hHe, hLe]; exact va_S.rf
  unfold fX0_setStop at hf
  refine lv_aload_n hx hb dX0_setStop_0 rfl (lv_at hl 0 rfl) ?_
  refine lv_iload_n hx hb dX0_setStop_1 rfl (lv_at hl 1 rfl) ?_
  obtain ⟨y1, hy1, hf⟩ := obind hf
  refine cg_i (ws := [k0_0 aL vL, k0_1 cI aL vL, k0_2 cI aL vL, k0_3 cI aL vL, k0_4 cI aL vL]) (wc := [k0_0 aL vL, k0_1 cI aL vL, k0_2 cI aL vL, k0_3 cI aL vL, k0_4 cI aL vL]) (wr := []) (w1 := [k0_0 aL vL, k0_1 cI aL vL, k0_2 cI aL vL, k0_3 cI aL vL, k0_4 cI aL vL]) (wo := [k0_0 aL vL, k0_1 cI aL vL, k0_2 cI aL vL, k0_3 cI aL vL, k0_4 cI aL vL]) hP hD hS hA (va_runV (As := [.int i1]) (rest := []) ⟨hx, hb, hml, hown, hts⟩ (mX0_hasPlate l dC dI cI cJ aL H.size vL i1 y1 hy1) (cwV 1 hts gX0_setStop_X0_hasPlate rfl rfl rfl (by decide +kernel) ⟨Nat.le_of_ble_eq_true rfl, Nat.le_of_ble_eq_true rfl⟩) ⟨cFB, va_recv hK hP (ci := 0) (q0 := 0) rfl rfl, cPre hK hN hS (va_free (wc := [k0_0 aL vL, k0_1 cI aL vL, k0_2 cI aL vL, k0_3 cI aL vL, k0_4 cI aL vL]) hD hS hA [0, 1, 2, 3, 4] rfl) (hP.sub [0, 1, 2, 3, 4] rfl) (hD.sub [0, 1, 2, 3, 4] rfl rfl)⟩ rfl rfl hl.1 rfl (lv_room (Nat.le_of_ble_eq_true rfl)) dX0_setStop_2 ⟨Nat.le_of_ble_eq_true rfl, Nat.le_of_ble_eq_true rfl⟩) [0, 1, 2, 3, 4] [] [0, 1, 2, 3, 4] rfl rfl rfl (by decide +kernel) rfl rfl (fun H locs hP hD hS => ?_)
  refine lv_if_eq (tgt := 27) hx hb dX0_setStop_5 (by decide) (fun c2 => ?_) (fun c2 => ?_)
  · have hf := oif_t c2 hf
    refine lv_ldc (v := (-1000001)) hx hb hown hc55 dX0_setStop_27 ?_
    obtain rfl := Option.some.inj hf
    exact W.iret (v := (-1000001)) hx hb hr (fun t ht hW => ⟨⟨(-1000001), (), rfl, rfl, by rw [ht]; exact hP, hD⟩, hS.F ht⟩) hS.2.2 dX0_setStop_29
  · have hf := oif_f c2 hf
    refine lv_iload_n hx hb dX0_setStop_8 rfl (lv_at hl 2 rfl) ?_
    obtain ⟨y3, hy3, hf⟩ := obind hf
    refine cg_i (ws := [k0_0 aL vL, k0_1 cI aL vL, k0_2 cI aL vL, k0_3 cI aL vL, k0_4 cI aL vL]) (wc := []) (wr := [k0_0 aL vL, k0_1 cI aL vL, k0_2 cI aL vL, k0_3 cI aL vL, k0_4 cI aL vL]) (w1 := []) (wo := [k0_0 aL vL, k0_1 cI aL vL, k0_2 cI aL vL, k0_3 cI aL vL, k0_4 cI aL vL]) hP hD hS hA (va_runSN (As := [.int i2]) (rest := []) ⟨hx, hb, hml, hown, hts⟩ (mX3_isSide l dC dI cI cJ  H.size i2 y3 hy3) ⟨va_cnB 1 hts gX0_setStop_X3_isSide_n68 rfl rfl rfl hN.1.2.2.1 (hts (.initialized RX3) (by decide +kernel)) (by decide +kernel) ⟨Nat.le_of_ble_eq_true rfl, Nat.le_of_ble_eq_true rfl⟩, hts (.static yX3_isSide) (by decide +kernel), trivial⟩ ⟨cFB, cPre hK hN hS (va_free (wc := []) hD hS hA [] rfl) (hP.sub [] rfl) (hD.sub [] rfl rfl)⟩ rfl rfl hl.1 rfl (lv_room (Nat.le_of_ble_eq_true rfl)) dX0_setStop_9 ⟨Nat.le_of_ble_eq_true rfl, Nat.le_of_ble_eq_true rfl⟩) [] [0, 1, 2, 3, 4] [0, 1, 2, 3, 4] rfl rfl rfl (by decide +kernel) rfl rfl (fun H locs hP hD hS => ?_)
    refine lv_if_eq (tgt := 27) hx hb dX0_setStop_12 (by decide) (fun c4 => ?_) (fun c4 => ?_)
    · have hf := oif_t c4 hf
      refine lv_ldc (v := (-1000001)) hx hb hown hc55 dX0_setStop_27 ?_
      obtain rfl := Option.some.inj hf
      exact W.iret (v := (-1000001)) hx hb hr (fun t ht hW => ⟨⟨(-1000001), (), rfl, rfl, by rw [ht]; exact hP, hD⟩, hS.F ht⟩) hS.2.2 dX0_setStop_29
    · have hf := oif_f c4 hf
      refine lv_iload_n hx hb dX0_setStop_15 rfl (lv_at hl 3 rfl) ?_
      refine lv_if_lt (tgt := 27) hx hb dX0_setStop_16 (by decide) (fun c5 => ?_) (fun c5 => ?_)
      · have hf := oif_t c5 hf
        refine lv_ldc (v := (-1000001)) hx hb hown hc55 dX0_setStop_27 ?_
        obtain rfl := Option.some.inj hf
        exact W.iret (v := (-1000001)) hx hb hr (fun t ht hW => ⟨⟨(-1000001), (), rfl, rfl, by rw [ht]; exact hP, hD⟩, hS.F ht⟩) hS.2.2 dX0_setStop_29
      · have hf := oif_f c5 hf
        refine lv_iload_n hx hb dX0_setStop_19 rfl (lv_at hl 3 rfl) ?_
        refine lv_aload_n hx hb dX0_setStop_20 rfl (lv_at hl 0 rfl) ?_
        refine va_get (D := (dC, dI)) (ci := 0) (v := .int (p0_width vL)) (C := RX0) (T := TX0) (N := 6) hx hb hts hiX0 hown hK hP 0 rfl rfl 0 (by decide) hgX0_9 (fun _ h9 => h9) rfl dX0_setStop_21 ?_
        refine lv_icmp_le (tgt := 30) hx hb dX0_setStop_24 (by decide) (fun c6 => ?_) (fun c6 => ?_)
        · have hf := oif_t c6 hf
          refine lv_aload_n hx hb dX0_setStop_30 rfl (lv_at hl 0 rfl) ?_
          refine lv_iload_n hx hb dX0_setStop_31 rfl (lv_at hl 1 rfl) ?_
          refine lv_iload_n hx hb dX0_setStop_32 rfl (lv_at hl 2 rfl) ?_
          obtain ⟨y7, hy7, hf⟩ := obind hf
          refine cg_i (ws := [k0_0 aL vL, k0_1 cI aL vL, k0_2 cI aL vL, k0_3 cI aL vL, k0_4 cI aL vL]) (wc := [k0_0 aL vL, k0_1 cI aL vL, k0_2 cI aL vL, k0_3 cI aL vL, k0_4 cI aL vL]) (wr := []) (w1 := [k0_0 aL vL, k0_1 cI aL vL, k0_2 cI aL vL, k0_3 cI aL vL, k0_4 cI aL vL]) (wo := [k0_0 aL vL, k0_1 cI aL vL, k0_2 cI aL vL, k0_3 cI aL vL, k0_4 cI aL vL]) hP hD hS hA (va_runV (As := [.int i1, .int i2]) (rest := []) ⟨hx, hb, hml, hown, hts⟩ (mX0_stopOf l dC dI cI cJ aL H.size vL i1 i2 y7 hy7) (cwV 2 hts gX0_setStop_X0_stopOf rfl rfl rfl (by decide +kernel) ⟨Nat.le_of_ble_eq_true rfl, Nat.le_of_ble_eq_true rfl⟩) ⟨cFB, va_recv hK hP (ci := 0) (q0 := 0) rfl rfl, cPre hK hN hS (va_free (wc := [k0_0 aL vL, k0_1 cI aL vL, k0_2 cI aL vL, k0_3 cI aL vL, k0_4 cI aL vL]) hD hS hA [0, 1, 2, 3, 4] rfl) (hP.sub [0, 1, 2, 3, 4] rfl) (hD.sub [0, 1, 2, 3, 4] rfl rfl)⟩ rfl rfl hl.1 rfl (lv_room (Nat.le_of_ble_eq_true rfl)) dX0_setStop_33 ⟨Nat.le_of_ble_eq_true rfl, Nat.le_of_ble_eq_true rfl⟩) [0, 1, 2, 3, 4] [] [0, 1, 2, 3, 4] rfl rfl rfl (by decide +kernel) rfl rfl (fun H locs hP hD hS => ?_)
          refine lv_istore (lv' := [(4, .int y7), (0, .ref (aL 0)), (1, .int i1), (2, .int i2), (3, .int i3)]) hx hb dX0_setStop_36 hl (by decide) rfl (fun ls hl => ?_)
          refine lv_aload_n hx hb dX0_setStop_38 rfl (lv_at hl 1 rfl) ?_
          refine va_get (D := (dC, dI)) (ci := 0) (v := .ref (aL 4)) (C := RX0) (T := TX0) (N := 6) hx hb hts hiX0 hown hK hP 0 rfl rfl 5 (by decide) hgX0_28 (fun _ h9 => h9) rfl dX0_setStop_39 ?_
          refine lv_iconst (v := 2) hx hb dX0_setStop_42 (by decide) ?_
          refine lv_iload_n hx hb dX0_setStop_43 rfl (lv_at hl 2 rfl) ?_
          refine lv_imul hx hb dX0_setStop_44 ?_
          refine lv_iload_n hx hb dX0_setStop_45 rfl (lv_at hl 3 rfl) ?_
          refine lv_iadd hx hb dX0_setStop_46 ?_
          refine lv_iload_n hx hb dX0_setStop_47 rfl (lv_at hl 4 rfl) ?_
          obtain ⟨hi8, hf⟩ := oinb rfl hf
          obtain ⟨b9, eb9, hf⟩ := elet_out hf
          refine va_iast hx hb hK hP hD hS 4 0 rfl rfl hi8 dX0_setStop_48 (fun H locs hP hD hS => ?_)
          have hP : va_P (dC, dI) vwCl [k0_0 aL b9, k0_1 cI aL b9, k0_2 cI aL b9, k0_3 cI aL b9, k0_4 cI aL b9] H := by rw [eb9]; exact hP
          have hD : va_D A [k0_0 aL b9, k0_1 cI aL b9, k0_2 cI aL b9, k0_3 cI aL b9, k0_4 cI aL b9] := by rw [eb9]; exact hD
          refine lv_aload_n hx hb dX0_setStop_49 rfl (lv_at hl 1 rfl) ?_
          obtain ⟨y10, hy10, hf⟩ := obind hf
          refine cg_i (ws := [k0_0 aL b9, k0_1 cI aL b9, k0_2 cI aL b9, k0_3 cI aL b9, k0_4 cI aL b9]) (wc := [k0_0 aL b9, k0_1 cI aL b9, k0_2 cI aL b9, k0_3 cI aL b9, k0_4 cI aL b9]) (wr := []) (w1 := [k0_0 aL b9, k0_1 cI aL b9, k0_2 cI aL b9, k0_3 cI aL b9, k0_4 cI aL b9]) (wo := [k0_0 aL b9, k0_1 cI aL b9, k0_2 cI aL b9, k0_3 cI aL b9, k0_4 cI aL b9]) hP hD hS hA (va_runV (As := []) (rest := []) ⟨hx, hb, hml, hown, hts⟩ (mX0_allowsRow l dC dI cI cJ aL H.size b9 y10 hy10) (cwV 0 hts gX0_setStop_X0_allowsRow rfl rfl rfl (by decide +kernel) ⟨Nat.le_of_ble_eq_true rfl, Nat.le_of_ble_eq_true rfl⟩) ⟨cFB, va_recv hK hP (ci := 0) (q0 := 0) rfl rfl, cPre hK hN hS (va_free (wc := [k0_0 aL b9, k0_1 cI aL b9, k0_2 cI aL b9, k0_3 cI aL b9, k0_4 cI aL b9]) hD hS hA [0, 1, 2, 3, 4] rfl) (hP.sub [0, 1, 2, 3, 4] rfl) (hD.sub [0, 1, 2, 3, 4] rfl rfl)⟩ rfl rfl hl.1 rfl (lv_room (Nat.le_of_ble_eq_true rfl)) dX0_setStop_50 ⟨Nat.le_of_ble_eq_true rfl, Nat.le_of_ble_eq_true rfl⟩) [0, 1, 2, 3, 4] [] [0, 1, 2, 3, 4] rfl rfl rfl (by decide +kernel) rfl rfl (fun H locs hP hD hS => ?_)
          refine lv_if_ne (tgt := 71) hx hb dX0_setStop_53 (by decide) (fun c11 => ?_) (fun c11 => ?_)
          · have hf := oif_f c11 hf
            refine lv_iload hx hb dX0_setStop_71 (lv_at hl 0 rfl) ?_
            obtain rfl := Option.some.inj hf
            exact W.iret (v := y7) hx hb hr (fun t ht hW => ⟨⟨y7, (), rfl, rfl, by rw [ht]; exact hP, hD⟩, hS.F ht⟩) hS.2.2 dX0_setStop_73
          · have hf := oif_t c11 hf
            refine lv_aload_n hx hb dX0_setStop_56 rfl (lv_at hl 1 rfl) ?_
            refine va_get (D := (dC, dI)) (ci := 0) (v := .ref (aL 4)) (C := RX0) (T := TX0) (N := 6) hx hb hts hiX0 hown hK hP 0 rfl rfl 5 (by decide) hgX0_28 (fun _ h9 => h9) rfl dX0_setStop_57 ?_
            refine lv_iconst (v := 2) hx hb dX0_setStop_60 (by decide) ?_
            refine lv_iload_n hx hb dX0_setStop_61 rfl (lv_at hl 2 rfl) ?_
            refine lv_imul hx hb dX0_setStop_62 ?_
            refine lv_iload_n hx hb dX0_setStop_63 rfl (lv_at hl 3 rfl) ?_
            refine lv_iadd hx hb dX0_setStop_64 ?_
            refine lv_iload hx hb dX0_setStop_65 (lv_at hl 0 rfl) ?_
            obtain ⟨hi12, hf⟩ := oinb rfl hf
            obtain ⟨b13, eb13, hf⟩ := elet_out hf
            refine va_iast hx hb hK hP hD hS 4 0 rfl rfl hi12 dX0_setStop_67 (fun H locs hP hD hS => ?_)
            have hP : va_P (dC, dI) vwCl [k0_0 aL b13, k0_1 cI aL b13, k0_2 cI aL b13, k0_3 cI aL b13, k0_4 cI aL b13] H := by rw [eb13]; exact hP
            have hD : va_D A [k0_0 aL b13, k0_1 cI aL b13, k0_2 cI aL b13, k0_3 cI aL b13, k0_4 cI aL b13] := by rw [eb13]; exact hD
            refine lv_ldc (v := (-1000002)) hx hb hown hc60 dX0_setStop_68 ?_
            obtain rfl := Option.some.inj hf
            exact W.iret (v := (-1000002)) hx hb hr (fun t ht hW => ⟨⟨(-1000002), (), rfl, rfl, by rw [ht]; exact hP, hD⟩, hS.F ht⟩) hS.2.2 dX0_setStop_70
        · have hf := oif_f c6 hf
          refine lv_ldc (v := (-1000001)) hx hb hown hc55 dX0_setStop_27 ?_
          obtain rfl := Option.some.inj hf
          exact W.iret (v := (-1000001)) hx hb hr (fun t ht hW => ⟨⟨(-1000001), (), rfl, rfl, by rw [ht]; exact hP, hD⟩, hS.F ht⟩) hS.2.2 dX0_setStop_29
def fX0_removeStop (vL : BX0) (i1 : Int32) (i2 : Int32) : Option (Int32 × BX0) :=
  (fX0_hasPlate vL i1).bind (fun y1 => if y1 = 0 then (some ((-1000001), vL)) else ((fX3_isSide i2).bind (fun y3 => if y3 = 0 then (some ((-1000001), vL)) else ((fX0_stopOf vL i1 i2).bind (fun y5 => if y5 = (-1 : Int32) then (some ((-1000002), vL)) else (if inB (((2 : Int32) * i1) + i2) 8 = true then (elet (s0_stops vL (upd (p0_stops vL) ((((2 : Int32) * i1) + i2)).toNatClampNeg (-1))) (fun b8 => some (y5, b8))) else none))))))
set_option maxHeartbeats 8000000 in
set_option maxRecDepth 100000 in
theorem mX0_removeStop (l : Launch) (dC : Nat → ClassId) (dI : Nat → Nat → Nat) (cI cJ : ClassId) (aL : Nat → Nat) (sz : Nat) (vL : BX0) (i1 : Int32) (i2 : Int32) (y : (Int32 × BX0)) (hf : fX0_removeStop vL i1 i2 = some y) : Met l yX0_removeStop wsX0_removeStop ({ frames := 1, cells := 0, slots := 0, locals := 22 }) (cPc dC dI cI cJ [.ref (aL 0), .int i1, .int i2] [k0_0 aL vL, k0_1 cI aL vL, k0_2 cI aL vL, k0_3 cI aL vL, k0_4 cI aL vL] sz) (va_Qi (fun r (_ : Unit) => r = y.1) (fun _ t => cB dC dI (va_A [k0_0 aL vL, k0_1 cI aL vL, k0_2 cI aL vL, k0_3 cI aL vL, k0_4 cI aL vL] sz) [k0_0 aL y.2, k0_1 cI aL y.2, k0_2 cI aL y.2, k0_3 cI aL y.2, k0_4 cI aL y.2] t) (va_A [k0_0 aL vL, k0_1 cI aL vL, k0_2 cI aL vL, k0_3 cI aL vL, k0_4 cI aL vL] sz)) 0 0 (va_A [k0_0 aL vL, k0_1 cI aL vL, k0_2 cI aL vL, k0_3 cI aL vL, k0_4 cI aL vL] sz) := by
  refine Met.ofW (cc := cX0_removeStop) (maxL := 4) (ret := (some .int)) (by decide) rfl ?_
  intro p e s m args below meth c s₁ B hml hv
  obtain ⟨rfl, hsz, hP, hK, hD0, hN⟩ := hv
  have hx := B.exec
  have hb := B.bytes
  have hr := B.returns
  have hts := atoms_spec (ws := wsX0_removeStop) B.pre
  have hown : s.vm.findClass RX0 = some m.cls := findClass_of_methodNamed B.named
  have hlocks := B.notSynchronized
  subst hsz
  have hD := hD0.self (sz := s.heap.size)
  generalize hAe : va_A [k0_0 aL vL, k0_1 cI aL vL, k0_2 cI aL vL, k0_3 cI aL vL, k0_4 cI aL vL] s.heap.size = A at hD hN ⊢
  have hA : ∀ q : Nat, s.heap.size ≤ q → A q := fun q h => by rw [← hAe]; exact Or.inr h
  have hP : va_P (dC, dI) vwCl [k0_0 aL vL, k0_1 cI aL vL, k0_2 cI aL vL, k0_3 cI aL vL, k0_4 cI aL vL] s.heap := hP
  have hl := lv_entry ([.ref (aL 0), .int i1, .int i2]) (n := 4) (Nat.le_of_ble_eq_true rfl)
  rw [lg_entry_eq]
  generalize (lg_sl ([.ref (aL 0), .int i1, .int i2]) ++ List.replicate (4 - (lg_sl ([.ref (aL 0), .int i1, .int i2])).length) Slot.unset).toArray = ls at hl ⊢
  have hl : lv_has ls 4 [(0, .ref (aL 0)), (1, .int i1), (2, .int i2)] := hl
  have hc55 := hts (.constant RX0 55 (-1000001)) (by decide +kernel)
  have hiX0 : ∀ w ∈ u_ws RX0 TX0 6, w ∈ wsX0_removeStop := by decide +kernel
  have hgX0_28 := hts (.fieldLink RX0 28 "SpringPlates$Layout" "stops" "[I") (by decide +kernel)
  have hc60 := hts (.constant RX0 60 (-1000002)) (by decide +kernel)
  refine nameH (fun H locs hHe hLe => ?_)
  have hP : va_P (dC, dI) vwCl [k0_0 aL vL, k0_1 cI aL vL, k0_2 cI aL vL, k0_3 cI aL vL, k0_4 cI aL vL] H := by rw [hHe]; exact hP
  have hS : va_S A s.heap H locs := by rw [hHe, hLe]; exact va_S.rf
  unfold fX0_removeStop at hf
  refine lv_aload_n hx hb dX0_removeStop_0 rfl (lv_at hl 0 rfl) ?_
  refine lv_iload_n hx hb dX0_removeStop_1 rfl (lv_at hl 1 rfl) ?_
  obtain ⟨y1, hy1, hf⟩ := obind hf
  refine cg_i (ws := [k0_0 aL vL, k0_1 cI aL vL, k0_2 cI aL vL, k0_3 cI aL vL, k0_4 cI aL vL]) (wc := [k0_0 aL vL, k0_1 cI aL vL, k0_2 cI aL vL, k0_3 cI aL vL, k0_4 cI aL vL]) (wr := []) (w1 := [k0_0 aL vL, k0_1 cI aL vL, k0_2 cI aL vL, k0_3 cI aL vL, k0_4 cI aL vL]) (wo := [k0_0 aL vL, k0_1 cI aL vL, k0_2 cI aL vL, k0_3 cI aL vL, k0_4 cI aL vL]) hP hD hS hA (va_runV (As := [.int i1]) (rest := []) ⟨hx, hb, hml, hown, hts⟩ (mX0_hasPlate l dC dI cI cJ aL H.size vL i1 y1 hy1) (cwV 1 hts gX0_removeStop_X0_hasPlate rfl rfl rfl (by decide +kernel) ⟨Nat.le_of_ble_eq_true rfl, Nat.le_of_ble_eq_true rfl⟩) ⟨cFB, va_recv hK hP (ci := 0) (q0 := 0) rfl rfl, cPre hK hN hS (va_free (wc := [k0_0 aL vL, k0_1 cI aL vL, k0_2 cI aL vL, k0_3 cI aL vL, k0_4 cI aL vL]) hD hS hA [0, 1, 2, 3, 4] rfl) (hP.sub [0, 1, 2, 3, 4] rfl) (hD.sub [0, 1, 2, 3, 4] rfl rfl)⟩ rfl rfl hl.1 rfl (lv_room (Nat.le_of_ble_eq_true rfl)) dX0_removeStop_2 ⟨Nat.le_of_ble_eq_true rfl, Nat.le_of_ble_eq_true rfl⟩) [0, 1, 2, 3, 4] [] [0, 1, 2, 3, 4] rfl rfl rfl (by decide +kernel) rfl rfl (fun H locs hP hD hS => ?_)
  refine lv_if_eq (tgt := 15) hx hb dX0_removeStop_5 (by decide) (fun c2 => ?_) (fun c2 => ?_)
  · have hf := oif_t c2 hf
    refine lv_ldc (v := (-1000001)) hx hb hown hc55 dX0_removeStop_15 ?_
    obtain rfl := Option.some.inj hf
    exact W.iret (v := (-1000001)) hx hb hr (fun t ht hW => ⟨⟨(-1000001), (), rfl, rfl, by rw [ht]; exact hP, hD⟩, hS.F ht⟩) hS.2.2 dX0_removeStop_17
  · have hf := oif_f c2 hf
    refine lv_iload_n hx hb dX0_removeStop_8 rfl (lv_at hl 2 rfl) ?_
    obtain ⟨y3, hy3, hf⟩ := obind hf
    refine cg_i (ws := [k0_0 aL vL, k0_1 cI aL vL, k0_2 cI aL vL, k0_3 cI aL vL, k0_4 cI aL vL]) (wc := []) (wr := [k0_0 aL vL, k0_1 cI aL vL, k0_2 cI aL vL, k0_3 cI aL vL, k0_4 cI aL vL]) (w1 := []) (wo := [k0_0 aL vL, k0_1 cI aL vL, k0_2 cI aL vL, k0_3 cI aL vL, k0_4 cI aL vL]) hP hD hS hA (va_runSN (As := [.int i2]) (rest := []) ⟨hx, hb, hml, hown, hts⟩ (mX3_isSide l dC dI cI cJ  H.size i2 y3 hy3) ⟨va_cnB 1 hts gX0_removeStop_X3_isSide_n68 rfl rfl rfl hN.1.2.2.1 (hts (.initialized RX3) (by decide +kernel)) (by decide +kernel) ⟨Nat.le_of_ble_eq_true rfl, Nat.le_of_ble_eq_true rfl⟩, hts (.static yX3_isSide) (by decide +kernel), trivial⟩ ⟨cFB, cPre hK hN hS (va_free (wc := []) hD hS hA [] rfl) (hP.sub [] rfl) (hD.sub [] rfl rfl)⟩ rfl rfl hl.1 rfl (lv_room (Nat.le_of_ble_eq_true rfl)) dX0_removeStop_9 ⟨Nat.le_of_ble_eq_true rfl, Nat.le_of_ble_eq_true rfl⟩) [] [0, 1, 2, 3, 4] [0, 1, 2, 3, 4] rfl rfl rfl (by decide +kernel) rfl rfl (fun H locs hP hD hS => ?_)
    refine lv_if_ne (tgt := 18) hx hb dX0_removeStop_12 (by decide) (fun c4 => ?_) (fun c4 => ?_)
    · have hf := oif_f c4 hf
      refine lv_aload_n hx hb dX0_removeStop_18 rfl (lv_at hl 0 rfl) ?_
      refine lv_iload_n hx hb dX0_removeStop_19 rfl (lv_at hl 1 rfl) ?_
      refine lv_iload_n hx hb dX0_removeStop_20 rfl (lv_at hl 2 rfl) ?_
      obtain ⟨y5, hy5, hf⟩ := obind hf
      refine cg_i (ws := [k0_0 aL vL, k0_1 cI aL vL, k0_2 cI aL vL, k0_3 cI aL vL, k0_4 cI aL vL]) (wc := [k0_0 aL vL, k0_1 cI aL vL, k0_2 cI aL vL, k0_3 cI aL vL, k0_4 cI aL vL]) (wr := []) (w1 := [k0_0 aL vL, k0_1 cI aL vL, k0_2 cI aL vL, k0_3 cI aL vL, k0_4 cI aL vL]) (wo := [k0_0 aL vL, k0_1 cI aL vL, k0_2 cI aL vL, k0_3 cI aL vL, k0_4 cI aL vL]) hP hD hS hA (va_runV (As := [.int i1, .int i2]) (rest := []) ⟨hx, hb, hml, hown, hts⟩ (mX0_stopOf l dC dI cI cJ aL H.size vL i1 i2 y5 hy5) (cwV 2 hts gX0_removeStop_X0_stopOf rfl rfl rfl (by decide +kernel) ⟨Nat.le_of_ble_eq_true rfl, Nat.le_of_ble_eq_true rfl⟩) ⟨cFB, va_recv hK hP (ci := 0) (q0 := 0) rfl rfl, cPre hK hN hS (va_free (wc := [k0_0 aL vL, k0_1 cI aL vL, k0_2 cI aL vL, k0_3 cI aL vL, k0_4 cI aL vL]) hD hS hA [0, 1, 2, 3, 4] rfl) (hP.sub [0, 1, 2, 3, 4] rfl) (hD.sub [0, 1, 2, 3, 4] rfl rfl)⟩ rfl rfl hl.1 rfl (lv_room (Nat.le_of_ble_eq_true rfl)) dX0_removeStop_21 ⟨Nat.le_of_ble_eq_true rfl, Nat.le_of_ble_eq_true rfl⟩) [0, 1, 2, 3, 4] [] [0, 1, 2, 3, 4] rfl rfl rfl (by decide +kernel) rfl rfl (fun H locs hP hD hS => ?_)
      refine lv_istore_n (lv' := [(3, .int y5), (0, .ref (aL 0)), (1, .int i1), (2, .int i2)]) hx hb dX0_removeStop_24 rfl hl (by decide) rfl (fun ls hl => ?_)
      refine lv_iload_n hx hb dX0_removeStop_25 rfl (lv_at hl 0 rfl) ?_
      refine lv_iconst (v := (-1)) hx hb dX0_removeStop_26 (by decide) ?_
      refine lv_icmp_ne (tgt := 33) hx hb dX0_removeStop_27 (by decide) (fun c6 => ?_) (fun c6 => ?_)
      · have hf := oif_f c6 hf
        refine lv_aload_n hx hb dX0_removeStop_33 rfl (lv_at hl 1 rfl) ?_
        refine va_get (D := (dC, dI)) (ci := 0) (v := .ref (aL 4)) (C := RX0) (T := TX0) (N := 6) hx hb hts hiX0 hown hK hP 0 rfl rfl 5 (by decide) hgX0_28 (fun _ h9 => h9) rfl dX0_removeStop_34 ?_
        refine lv_iconst (v := 2) hx hb dX0_removeStop_37 (by decide) ?_
        refine lv_iload_n hx hb dX0_removeStop_38 rfl (lv_at hl 2 rfl) ?_
        refine lv_imul hx hb dX0_removeStop_39 ?_
        refine lv_iload_n hx hb dX0_removeStop_40 rfl (lv_at hl 3 rfl) ?_
        refine lv_iadd hx hb dX0_removeStop_41 ?_
        refine lv_iconst (v := (-1)) hx hb dX0_removeStop_42 (by decide) ?_
        obtain ⟨hi7, hf⟩ := oinb rfl hf
        obtain ⟨b8, eb8, hf⟩ := elet_out hf
        refine va_iast hx hb hK hP hD hS 4 0 rfl rfl hi7 dX0_removeStop_43 (fun H locs hP hD hS => ?_)
        have hP : va_P (dC, dI) vwCl [k0_0 aL b8, k0_1 cI aL b8, k0_2 cI aL b8, k0_3 cI aL b8, k0_4 cI aL b8] H := by rw [eb8]; exact hP
        have hD : va_D A [k0_0 aL b8, k0_1 cI aL b8, k0_2 cI aL b8, k0_3 cI aL b8, k0_4 cI aL b8] := by rw [eb8]; exact hD
        refine lv_iload_n hx hb dX0_removeStop_44 rfl (lv_at hl 0 rfl) ?_
        obtain rfl := Option.some.inj hf
        exact W.iret (v := y5) hx hb hr (fun t ht hW => ⟨⟨y5, (), rfl, rfl, by rw [ht]; exact hP, hD⟩, hS.F ht⟩) hS.2.2 dX0_removeStop_45
      · have hf := oif_t c6 hf
        refine lv_ldc (v := (-1000002)) hx hb hown hc60 dX0_removeStop_30 ?_
        obtain rfl := Option.some.inj hf
        exact W.iret (v := (-1000002)) hx hb hr (fun t ht hW => ⟨⟨(-1000002), (), rfl, rfl, by rw [ht]; exact hP, hD⟩, hS.F ht⟩) hS.2.2 dX0_removeStop_32
    · have hf := oif_t c4 hf
      refine lv_ldc (v := (-1000001)) hx hb hown hc55 dX0_removeStop_15 ?_
      obtain rfl := Option.some.inj hf
      exact W.iret (v := (-1000001)) hx hb hr (fun t ht hW => ⟨⟨(-1000001), (), rfl, rfl, by rw [ht]; exact hP, hD⟩, hS.F ht⟩) hS.2.2 dX0_removeStop_17
def fJ9_floorDiv_f86c9 (j0 : Int64) (j2 : Int64) : Option Int64 :=
  if j2 = 0 then none else (elet (j0 / j2) (fun z2 => if 0 ≤ (lg_cmp (j0 ^^^ j2) (0 : Int64)) then (some z2) else (if (lg_cmp (z2 * j2) j0) = 0 then (some z2) else (some (z2 - (1 : Int64))))))
set_option maxHeartbeats 8000000 in
set_option maxRecDepth 100000 in
theorem mJ9_floorDiv_f86c9 (l : Launch) (dC : Nat → ClassId) (dI : Nat → Nat → Nat) (cI cJ : ClassId) (sz : Nat) (j0 : Int64) (j2 : Int64) (y : Int64) (hf : fJ9_floorDiv_f86c9 j0 j2 = some y) : Met l yJ9_floorDiv_f86c9 wsJ9_floorDiv_f86c9 ({ frames := 0, cells := 0, slots := 0, locals := 0 }) (cPc dC dI cI cJ [.long j0, .long j2] [] sz) (va_Ql (fun r (_ : Unit) => r = y) (fun _ t => cB dC dI (va_A [] sz) [] t) (va_A [] sz)) 0 0 (va_A [] sz) := by
  refine va_MetF (cc := cJ9_floorDiv_f86c9) (maxL := 6) (ret := (some .long)) (by decide +kernel) rfl ?_
  intro p e s m args below meth c s₁ B hml hv
  obtain ⟨rfl, hsz, hP, hK, hD0, hN⟩ := hv
  have hx := B.exec
  have hb := B.bytes
  have hr := B.returns
  have hts := atoms_spec (ws := wsJ9_floorDiv_f86c9) B.pre
  have hown : s.vm.findClass RJ9 = some m.cls := findClass_of_methodNamed B.named
  have hlocks := B.notSynchronized
  subst hsz
  have hD := hD0.self (sz := s.heap.size)
  generalize hAe : va_A [] s.heap.size = A at hD hN ⊢
  have hA : ∀ q : Nat, s.heap.size ≤ q → A q := fun q h => by rw [← hAe]; exact Or.inr h
  have hP : va_P (dC, dI) vwCl [] s.heap := hP
  have hl := lv_entry ([.long j0, .long j2]) (n := 6) (Nat.le_of_ble_eq_true rfl)
  rw [lg_entry_eq]
  generalize (lg_sl ([.long j0, .long j2]) ++ List.replicate (6 - (lg_sl ([.long j0, .long j2])).length) Slot.unset).toArray = ls at hl ⊢
  have hl : lv_has ls 6 [(0, .long j0), (2, .long j2)] := hl
  refine nameH (fun H locs hHe hLe => ?_)
  have hP : va_P (dC, dI) vwCl [] H := by rw [hHe]; exact hP
  have hS : va_S A s.heap H locs := by rw [hHe, hLe]; exact va_S.rf
  unfold fJ9_floorDiv_f86c9 at hf
  refine lv_lload_n hx hb dJ9_floorDiv_f86c9_0 rfl (lv_at hl 0 rfl) ?_
  refine lv_lload_n hx hb dJ9_floorDiv_f86c9_1 rfl (lv_at hl 1 rfl) ?_
  obtain ⟨hd1, hf⟩ := odiv hf
  refine lv_ldiv hx hb dJ9_floorDiv_f86c9_2 hd1 ?_
  obtain ⟨z2, ez2, hf⟩ := elet_out hf
  refine lvn_l ez2 ?_
  refine lv_lstore (lv' := [(4, .long z2), (0, .long j0), (2, .long j2)]) hx hb dJ9_floorDiv_f86c9_3 hl (by decide) rfl (fun ls hl => ?_)
  refine lv_lload_n hx hb dJ9_floorDiv_f86c9_5 rfl (lv_at hl 1 rfl) ?_
  refine lv_lload_n hx hb dJ9_floorDiv_f86c9_6 rfl (lv_at hl 2 rfl) ?_
  refine lv_lxor hx hb dJ9_floorDiv_f86c9_7 ?_
  refine lv_lconst (v := 0) hx hb dJ9_floorDiv_f86c9_8 (by decide) ?_
  refine W.lcmp hx hb dJ9_floorDiv_f86c9_9 ?_
  refine lv_if_ge (tgt := 27) hx hb dJ9_floorDiv_f86c9_10 (by decide) (fun c3 => ?_) (fun c3 => ?_)
  · have hf := oif_t c3 hf
    refine lv_lload hx hb dJ9_floorDiv_f86c9_27 (lv_at hl 0 rfl) ?_
    obtain rfl := Option.some.inj hf
    exact W.lret (v := z2) hx hb hr (fun t ht hW => ⟨⟨z2, (), rfl, rfl, by rw [ht]; exact hP, hD⟩, hS.F ht⟩) hS.2.2 dJ9_floorDiv_f86c9_29
  · have hf := oif_f c3 hf
    refine lv_lload hx hb dJ9_floorDiv_f86c9_13 (lv_at hl 0 rfl) ?_
    refine lv_lload_n hx hb dJ9_floorDiv_f86c9_15 rfl (lv_at hl 2 rfl) ?_
    refine lv_lmul hx hb dJ9_floorDiv_f86c9_16 ?_
    refine lv_lload_n hx hb dJ9_floorDiv_f86c9_17 rfl (lv_at hl 1 rfl) ?_
    refine W.lcmp hx hb dJ9_floorDiv_f86c9_18 ?_
    refine lv_if_eq (tgt := 27) hx hb dJ9_floorDiv_f86c9_19 (by decide) (fun c4 => ?_) (fun c4 => ?_)
    · have hf := oif_t c4 hf
      refine lv_lload hx hb dJ9_floorDiv_f86c9_27 (lv_at hl 0 rfl) ?_
      obtain rfl := Option.some.inj hf
      exact W.lret (v := z2) hx hb hr (fun t ht hW => ⟨⟨z2, (), rfl, rfl, by rw [ht]; exact hP, hD⟩, hS.F ht⟩) hS.2.2 dJ9_floorDiv_f86c9_29
    · have hf := oif_f c4 hf
      refine lv_lload hx hb dJ9_floorDiv_f86c9_22 (lv_at hl 0 rfl) ?_
      refine lv_lconst (v := 1) hx hb dJ9_floorDiv_f86c9_24 (by decide) ?_
      refine lv_lsub hx hb dJ9_floorDiv_f86c9_25 ?_
      obtain rfl := Option.some.inj hf
      exact W.lret (v := (z2 - (1 : Int64))) hx hb hr (fun t ht hW => ⟨⟨(z2 - (1 : Int64)), (), rfl, rfl, by rw [ht]; exact hP, hD⟩, hS.F ht⟩) hS.2.2 dJ9_floorDiv_f86c9_26
def fX1_upperPlaceOf (vQ : BX1) (i1 : Int32) : Option Int64 :=
  if inB (i1 + (1 : Int32)) 6 = true then (some ((p1_spots vQ) ((i1 + (1 : Int32))).toNatClampNeg)) else none
set_option maxHeartbeats 8000000 in
set_option maxRecDepth 100000 in
theorem mX1_upperPlaceOf (l : Launch) (dC : Nat → ClassId) (dI : Nat → Nat → Nat) (cI cJ : ClassId) (aQ : Nat → Nat) (sz : Nat) (vQ : BX1) (i1 : Int32) (y : Int64) (hf : fX1_upperPlaceOf vQ i1 = some y) : Met l yX1_upperPlaceOf wsX1_upperPlaceOf ({ frames := 0, cells := 0, slots := 0, locals := 0 }) (cPc dC dI cI cJ [.ref (aQ 0), .int i1] [k1_0 aQ vQ, k1_1 cJ aQ vQ, k1_2 cI aQ vQ, k1_3 cI aQ vQ, k1_4 cI aQ vQ, k1_5 cJ aQ vQ, k1_6 cJ aQ vQ, k1_7 cJ aQ vQ, k1_8 cJ aQ vQ, k1_9 cJ aQ vQ] sz) (va_Ql (fun r (_ : Unit) => r = y) (fun _ t => cB dC dI (va_A [k1_0 aQ vQ, k1_1 cJ aQ vQ, k1_2 cI aQ vQ, k1_3 cI aQ vQ, k1_4 cI aQ vQ, k1_5 cJ aQ vQ, k1_6 cJ aQ vQ, k1_7 cJ aQ vQ, k1_8 cJ aQ vQ, k1_9 cJ aQ vQ] sz) [k1_0 aQ vQ, k1_1 cJ aQ vQ, k1_2 cI aQ vQ, k1_3 cI aQ vQ, k1_4 cI aQ vQ, k1_5 cJ aQ vQ, k1_6 cJ aQ vQ, k1_7 cJ aQ vQ, k1_8 cJ aQ vQ, k1_9 cJ aQ vQ] t) (va_A [k1_0 aQ vQ, k1_1 cJ aQ vQ, k1_2 cI aQ vQ, k1_3 cI aQ vQ, k1_4 cI aQ vQ, k1_5 cJ aQ vQ, k1_6 cJ aQ vQ, k1_7 cJ aQ vQ, k1_8 cJ aQ vQ, k1_9 cJ aQ vQ] sz)) 0 0 (va_A [k1_0 aQ vQ, k1_1 cJ aQ vQ, k1_2 cI aQ vQ, k1_3 cI aQ vQ, k1_4 cI aQ vQ, k1_5 cJ aQ vQ, k1_6 cJ aQ vQ, k1_7 cJ aQ vQ, k1_8 cJ aQ vQ, k1_9 cJ aQ vQ] sz) := by
  refine Met.ofW (cc := cX1_upperPlaceOf) (maxL := 2) (ret := (some .long)) (by decide) rfl ?_
  intro p e s m args below meth c s₁ B hml hv
  obtain ⟨rfl, hsz, hP, hK, hD0, hN⟩ := hv
  have hx := B.exec
  have hb := B.bytes
  have hr := B.returns
  have hts := atoms_spec (ws := wsX1_upperPlaceOf) B.pre
  have hown : s.vm.findClass RX1 = some m.cls := findClass_of_methodNamed B.named
  have hlocks := B.notSynchronized
  subst hsz
  have hD := hD0.self (sz := s.heap.size)
  generalize hAe : va_A [k1_0 aQ vQ, k1_1 cJ aQ vQ, k1_2 cI aQ vQ, k1_3 cI aQ vQ, k1_4 cI aQ vQ, k1_5 cJ aQ vQ, k1_6 cJ aQ vQ, k1_7 cJ aQ vQ, k1_8 cJ aQ vQ, k1_9 cJ aQ vQ] s.heap.size = A at hD hN ⊢
  have hA : ∀ q : Nat, s.heap.size ≤ q → A q := fun q h => by rw [← hAe]; exact Or.inr h
  have hP : va_P (dC, dI) vwCl [k1_0 aQ vQ, k1_1 cJ aQ vQ, k1_2 cI aQ vQ, k1_3 cI aQ vQ, k1_4 cI aQ vQ, k1_5 cJ aQ vQ, k1_6 cJ aQ vQ, k1_7 cJ aQ vQ, k1_8 cJ aQ vQ, k1_9 cJ aQ vQ] s.heap := hP
  have hl := lv_entry ([.ref (aQ 0), .int i1]) (n := 2) (Nat.le_of_ble_eq_true rfl)
  rw [lg_entry_eq]
  generalize (lg_sl ([.ref (aQ 0), .int i1]) ++ List.replicate (2 - (lg_sl ([.ref (aQ 0), .int i1])).length) Slot.unset).toArray = ls at hl ⊢
  have hl : lv_has ls 2 [(0, .ref (aQ 0)), (1, .int i1)] := hl
  have hiX1 : ∀ w ∈ u_ws RX1 TX1 10, w ∈ wsX1_upperPlaceOf := by decide +kernel
  have hgX1_9 := hts (.fieldLink RX1 9 "SpringPlates$Rest" "spots" "[J") (by decide +kernel)
  refine nameH (fun H locs hHe hLe => ?_)
  have hP : va_P (dC, dI) vwCl [k1_0 aQ vQ, k1_1 cJ aQ vQ, k1_2 cI aQ vQ, k1_3 cI aQ vQ, k1_4 cI aQ vQ, k1_5 cJ aQ vQ, k1_6 cJ aQ vQ, k1_7 cJ aQ vQ, k1_8 cJ aQ vQ, k1_9 cJ aQ vQ] H := by rw [hHe]; exact hP
  have hS : va_S A s.heap H locs := by rw [hHe, hLe]; exact va_S.rf
  unfold fX1_upperPlaceOf at hf
  refine lv_aload_n hx hb dX1_upperPlaceOf_0 rfl (lv_at hl 0 rfl) ?_
  refine va_get (D := (dC, dI)) (ci := 1) (v := .ref (aQ 1)) (C := RX1) (T := TX1) (N := 10) hx hb hts hiX1 hown hK hP 0 rfl rfl 0 (by decide) hgX1_9 (fun _ h9 => h9) rfl dX1_upperPlaceOf_1 ?_
  refine lv_iload_n hx hb dX1_upperPlaceOf_4 rfl (lv_at hl 1 rfl) ?_
  refine lv_iconst (v := 1) hx hb dX1_upperPlaceOf_5 (by decide) ?_
  refine lv_iadd hx hb dX1_upperPlaceOf_6 ?_
  obtain ⟨hi1, hf⟩ := oinb rfl hf
  refine va_lald hx hb hK hP 1 1 rfl rfl hi1 dX1_upperPlaceOf_7 ?_
  obtain rfl := Option.some.inj hf
  exact W.lret (v := ((p1_spots vQ) ((i1 + (1 : Int32))).toNatClampNeg)) hx hb hr (fun t ht hW => ⟨⟨((p1_spots vQ) ((i1 + (1 : Int32))).toNatClampNeg), (), rfl, rfl, by rw [ht]; exact hP, hD⟩, hS.F ht⟩) hS.2.2 dX1_upperPlaceOf_8
def fX1_wholePlaceOf (vQ : BX1) (i1 : Int32) : Option Int32 :=
  if (lg_cmp (p1_lower vQ) (0 : Int64)) ≤ 0 then (some 0) else (if inB (i1 + (1 : Int32)) 6 = true then ((fJ9_floorDiv_f86c9 ((p1_spots vQ) ((i1 + (1 : Int32))).toNatClampNeg) (p1_lower vQ)).bind (fun y3 => some ((y3).toInt32))) else none)
set_option maxHeartbeats 8000000 in
set_option maxRecDepth 100000 in
theorem mX1_wholePlaceOf (l : Launch) (dC : Nat → ClassId) (dI : Nat → Nat → Nat) (cI cJ : ClassId) (aQ : Nat → Nat) (sz : Nat) (vQ : BX1) (i1 : Int32) (y : Int32) (hf : fX1_wholePlaceOf vQ i1 = some y) : Met l yX1_wholePlaceOf wsX1_wholePlaceOf ({ frames := 1, cells := 0, slots := 0, locals := 25 }) (cPc dC dI cI cJ [.ref (aQ 0), .int i1] [k1_0 aQ vQ, k1_1 cJ aQ vQ, k1_2 cI aQ vQ, k1_3 cI aQ vQ, k1_4 cI aQ vQ, k1_5 cJ aQ vQ, k1_6 cJ aQ vQ, k1_7 cJ aQ vQ, k1_8 cJ aQ vQ, k1_9 cJ aQ vQ] sz) (va_Qi (fun r (_ : Unit) => r = y) (fun _ t => cB dC dI (va_A [k1_0 aQ vQ, k1_1 cJ aQ vQ, k1_2 cI aQ vQ, k1_3 cI aQ vQ, k1_4 cI aQ vQ, k1_5 cJ aQ vQ, k1_6 cJ aQ vQ, k1_7 cJ aQ vQ, k1_8 cJ aQ vQ, k1_9 cJ aQ vQ] sz) [k1_0 aQ vQ, k1_1 cJ aQ vQ, k1_2 cI aQ vQ, k1_3 cI aQ vQ, k1_4 cI aQ vQ, k1_5 cJ aQ vQ, k1_6 cJ aQ vQ, k1_7 cJ aQ vQ, k1_8 cJ aQ vQ, k1_9 cJ aQ vQ] t) (va_A [k1_0 aQ vQ, k1_1 cJ aQ vQ, k1_2 cI aQ vQ, k1_3 cI aQ vQ, k1_4 cI aQ vQ, k1_5 cJ aQ vQ, k1_6 cJ aQ vQ, k1_7 cJ aQ vQ, k1_8 cJ aQ vQ, k1_9 cJ aQ vQ] sz)) 0 0 (va_A [k1_0 aQ vQ, k1_1 cJ aQ vQ, k1_2 cI aQ vQ, k1_3 cI aQ vQ, k1_4 cI aQ vQ, k1_5 cJ aQ vQ, k1_6 cJ aQ vQ, k1_7 cJ aQ vQ, k1_8 cJ aQ vQ, k1_9 cJ aQ vQ] sz) := by
  refine Met.ofW (cc := cX1_wholePlaceOf) (maxL := 2) (ret := (some .int)) (by decide) rfl ?_
  intro p e s m args below meth c s₁ B hml hv
  obtain ⟨rfl, hsz, hP, hK, hD0, hN⟩ := hv
  have hx := B.exec
  have hb := B.bytes
  have hr := B.returns
  have hts := atoms_spec (ws := wsX1_wholePlaceOf) B.pre
  have hown : s.vm.findClass RX1 = some m.cls := findClass_of_methodNamed B.named
  have hlocks := B.notSynchronized
  subst hsz
  have hD := hD0.self (sz := s.heap.size)
  generalize hAe : va_A [k1_0 aQ vQ, k1_1 cJ aQ vQ, k1_2 cI aQ vQ, k1_3 cI aQ vQ, k1_4 cI aQ vQ, k1_5 cJ aQ vQ, k1_6 cJ aQ vQ, k1_7 cJ aQ vQ, k1_8 cJ aQ vQ, k1_9 cJ aQ vQ] s.heap.size = A at hD hN ⊢
  have hA : ∀ q : Nat, s.heap.size ≤ q → A q := fun q h => by rw [← hAe]; exact Or.inr h
  have hP : va_P (dC, dI) vwCl [k1_0 aQ vQ, k1_1 cJ aQ vQ, k1_2 cI aQ vQ, k1_3 cI aQ vQ, k1_4 cI aQ vQ, k1_5 cJ aQ vQ, k1_6 cJ aQ vQ, k1_7 cJ aQ vQ, k1_8 cJ aQ vQ, k1_9 cJ aQ vQ] s.heap := hP
  have hl := lv_entry ([.ref (aQ 0), .int i1]) (n := 2) (Nat.le_of_ble_eq_true rfl)
  rw [lg_entry_eq]
  generalize (lg_sl ([.ref (aQ 0), .int i1]) ++ List.replicate (2 - (lg_sl ([.ref (aQ 0), .int i1])).length) Slot.unset).toArray = ls at hl ⊢
  have hl : lv_has ls 2 [(0, .ref (aQ 0)), (1, .int i1)] := hl
  have hiX1 : ∀ w ∈ u_ws RX1 TX1 10, w ∈ wsX1_wholePlaceOf := by decide +kernel
  have hgX1_15 := hts (.fieldLink RX1 15 "SpringPlates$Rest" "lower" "J") (by decide +kernel)
  have hgX1_9 := hts (.fieldLink RX1 9 "SpringPlates$Rest" "spots" "[J") (by decide +kernel)
  refine nameH (fun H locs hHe hLe => ?_)
  have hP : va_P (dC, dI) vwCl [k1_0 aQ vQ, k1_1 cJ aQ vQ, k1_2 cI aQ vQ, k1_3 cI aQ vQ, k1_4 cI aQ vQ, k1_5 cJ aQ vQ, k1_6 cJ aQ vQ, k1_7 cJ aQ vQ, k1_8 cJ aQ vQ, k1_9 cJ aQ vQ] H := by rw [hHe]; exact hP
  have hS : va_S A s.heap H locs := by rw [hHe, hLe]; exact va_S.rf
  unfold fX1_wholePlaceOf at hf
  refine lv_aload_n hx hb dX1_wholePlaceOf_0 rfl (lv_at hl 0 rfl) ?_
  refine va_get (D := (dC, dI)) (ci := 1) (v := .long (p1_lower vQ)) (C := RX1) (T := TX1) (N := 10) hx hb hts hiX1 hown hK hP 0 rfl rfl 1 (by decide) hgX1_15 (fun _ h9 => h9) rfl dX1_wholePlaceOf_1 ?_
  refine lv_lconst (v := 0) hx hb dX1_wholePlaceOf_4 (by decide) ?_
  refine W.lcmp hx hb dX1_wholePlaceOf_5 ?_
  refine lv_if_le (tgt := 28) hx hb dX1_wholePlaceOf_6 (by decide) (fun c1 => ?_) (fun c1 => ?_)
  · have hf := oif_t c1 hf
    refine lv_iconst (v := 0) hx hb dX1_wholePlaceOf_28 (by decide) ?_
    obtain rfl := Option.some.inj hf
    exact W.iret (v := 0) hx hb hr (fun t ht hW => ⟨⟨0, (), rfl, rfl, by rw [ht]; exact hP, hD⟩, hS.F ht⟩) hS.2.2 dX1_wholePlaceOf_29
  · have hf := oif_f c1 hf
    refine lv_aload_n hx hb dX1_wholePlaceOf_9 rfl (lv_at hl 0 rfl) ?_
    refine va_get (D := (dC, dI)) (ci := 1) (v := .ref (aQ 1)) (C := RX1) (T := TX1) (N := 10) hx hb hts hiX1 hown hK hP 0 rfl rfl 0 (by decide) hgX1_9 (fun _ h9 => h9) rfl dX1_wholePlaceOf_10 ?_
    refine lv_iload_n hx hb dX1_wholePlaceOf_13 rfl (lv_at hl 1 rfl) ?_
    refine lv_iconst (v := 1) hx hb dX1_wholePlaceOf_14 (by decide) ?_
    refine lv_iadd hx hb dX1_wholePlaceOf_15 ?_
    obtain ⟨hi2, hf⟩ := oinb rfl hf
    refine va_lald hx hb hK hP 1 1 rfl rfl hi2 dX1_wholePlaceOf_16 ?_
    refine lv_aload_n hx hb dX1_wholePlaceOf_17 rfl (lv_at hl 0 rfl) ?_
    refine va_get (D := (dC, dI)) (ci := 1) (v := .long (p1_lower vQ)) (C := RX1) (T := TX1) (N := 10) hx hb hts hiX1 hown hK hP 0 rfl rfl 1 (by decide) hgX1_15 (fun _ h9 => h9) rfl dX1_wholePlaceOf_18 ?_
    obtain ⟨y3, hy3, hf⟩ := obind hf
    refine cg_l (ws := [k1_0 aQ vQ, k1_1 cJ aQ vQ, k1_2 cI aQ vQ, k1_3 cI aQ vQ, k1_4 cI aQ vQ, k1_5 cJ aQ vQ, k1_6 cJ aQ vQ, k1_7 cJ aQ vQ, k1_8 cJ aQ vQ, k1_9 cJ aQ vQ]) (wc := []) (wr := [k1_0 aQ vQ, k1_1 cJ aQ vQ, k1_2 cI aQ vQ, k1_3 cI aQ vQ, k1_4 cI aQ vQ, k1_5 cJ aQ vQ, k1_6 cJ aQ vQ, k1_7 cJ aQ vQ, k1_8 cJ aQ vQ, k1_9 cJ aQ vQ]) (w1 := []) (wo := [k1_0 aQ vQ, k1_1 cJ aQ vQ, k1_2 cI aQ vQ, k1_3 cI aQ vQ, k1_4 cI aQ vQ, k1_5 cJ aQ vQ, k1_6 cJ aQ vQ, k1_7 cJ aQ vQ, k1_8 cJ aQ vQ, k1_9 cJ aQ vQ]) hP hD hS hA (va_runS (As := [.long ((p1_spots vQ) ((i1 + (1 : Int32))).toNatClampNeg), .long (p1_lower vQ)]) (rest := []) ⟨hx, hb, hml, hown, hts⟩ (mJ9_floorDiv_f86c9 l dC dI cI cJ H.size ((p1_spots vQ) ((i1 + (1 : Int32))).toNatClampNeg) (p1_lower vQ) y3 hy3) (va_cwS 2 hts gX1_wholePlaceOf_J9_floorDiv_f86c9 rfl rfl rfl (by decide +kernel) ⟨Nat.le_of_ble_eq_true rfl, Nat.le_of_ble_eq_true rfl⟩) ⟨cFB, cPre hK hN hS (va_free (wc := []) hD hS hA [] rfl) (hP.sub [] rfl) (hD.sub [] rfl rfl)⟩ rfl rfl hl.1 rfl (lv_room (Nat.le_of_ble_eq_true rfl)) dX1_wholePlaceOf_21 ⟨Nat.le_of_ble_eq_true rfl, Nat.le_of_ble_eq_true rfl⟩) [] [0, 1, 2, 3, 4, 5, 6, 7, 8, 9] [0, 1, 2, 3, 4, 5, 6, 7, 8, 9] rfl rfl rfl (by decide +kernel) rfl rfl (fun H locs hP hD hS => ?_)
    refine lv_l2i (v := (y3).toInt32) hx hb dX1_wholePlaceOf_24 rfl ?_
    refine lv_goto (tgt := 29) hx hb dX1_wholePlaceOf_25 (by decide) ?_
    obtain rfl := Option.some.inj hf
    exact W.iret (v := (y3).toInt32) hx hb hr (fun t ht hW => ⟨⟨(y3).toInt32, (), rfl, rfl, by rw [ht]; exact hP, hD⟩, hS.F ht⟩) hS.2.2 dX1_wholePlaceOf_29
def fX1_isAt (vQ : BX1) (i1 : Int32) (i2 : Int32) : Option Int32 :=
  if inB (i1 + (1 : Int32)) 6 = true then (if (lg_cmp ((p1_spots vQ) ((i1 + (1 : Int32))).toNatClampNeg) ((i2).toInt64 * (p1_lower vQ))) = 0 then (some 1) else (some 0)) else none
set_option maxHeartbeats 8000000 in
set_option maxRecDepth 100000 in
theorem mX1_isAt (l : Launch) (dC : Nat → ClassId) (dI : Nat → Nat → Nat) (cI cJ : ClassId) (aQ : Nat → Nat) (sz : Nat) (vQ : BX1) (i1 : Int32) (i2 : Int32) (y : Int32) (hf : fX1_isAt vQ i1 i2 = some y) : Met l yX1_isAt wsX1_isAt ({ frames := 0, cells := 0, slots := 0, locals := 0 }) (cPc dC dI cI cJ [.ref (aQ 0), .int i1, .int i2] [k1_0 aQ vQ, k1_1 cJ aQ vQ, k1_2 cI aQ vQ, k1_3 cI aQ vQ, k1_4 cI aQ vQ, k1_5 cJ aQ vQ, k1_6 cJ aQ vQ, k1_7 cJ aQ vQ, k1_8 cJ aQ vQ, k1_9 cJ aQ vQ] sz) (va_Qi (fun r (_ : Unit) => r = y) (fun _ t => cB dC dI (va_A [k1_0 aQ vQ, k1_1 cJ aQ vQ, k1_2 cI aQ vQ, k1_3 cI aQ vQ, k1_4 cI aQ vQ, k1_5 cJ aQ vQ, k1_6 cJ aQ vQ, k1_7 cJ aQ vQ, k1_8 cJ aQ vQ, k1_9 cJ aQ vQ] sz) [k1_0 aQ vQ, k1_1 cJ aQ vQ, k1_2 cI aQ vQ, k1_3 cI aQ vQ, k1_4 cI aQ vQ, k1_5 cJ aQ vQ, k1_6 cJ aQ vQ, k1_7 cJ aQ vQ, k1_8 cJ aQ vQ, k1_9 cJ aQ vQ] t) (va_A [k1_0 aQ vQ, k1_1 cJ aQ vQ, k1_2 cI aQ vQ, k1_3 cI aQ vQ, k1_4 cI aQ vQ, k1_5 cJ aQ vQ, k1_6 cJ aQ vQ, k1_7 cJ aQ vQ, k1_8 cJ aQ vQ, k1_9 cJ aQ vQ] sz)) 0 0 (va_A [k1_0 aQ vQ, k1_1 cJ aQ vQ, k1_2 cI aQ vQ, k1_3 cI aQ vQ, k1_4 cI aQ vQ, k1_5 cJ aQ vQ, k1_6 cJ aQ vQ, k1_7 cJ aQ vQ, k1_8 cJ aQ vQ, k1_9 cJ aQ vQ] sz) := by
  refine Met.ofW (cc := cX1_isAt) (maxL := 3) (ret := (some .boolean)) (by decide) rfl ?_
  intro p e s m args below meth c s₁ B hml hv
  obtain ⟨rfl, hsz, hP, hK, hD0, hN⟩ := hv
  have hx := B.exec
  have hb := B.bytes
  have hr := B.returns
  have hts := atoms_spec (ws := wsX1_isAt) B.pre
  have hown : s.vm.findClass RX1 = some m.cls := findClass_of_methodNamed B.named
  have hlocks := B.notSynchronized
  subst hsz
  have hD := hD0.self (sz := s.heap.size)
  generalize hAe : va_A [k1_0 aQ vQ, k1_1 cJ aQ vQ, k1_2 cI aQ vQ, k1_3 cI aQ vQ, k1_4 cI aQ vQ, k1_5 cJ aQ vQ, k1_6 cJ aQ vQ, k1_7 cJ aQ vQ, k1_8 cJ aQ vQ, k1_9 cJ aQ vQ] s.heap.size = A at hD hN ⊢
  have hA : ∀ q : Nat, s.heap.size ≤ q → A q := fun q h => by rw [← hAe]; exact Or.inr h
  have hP : va_P (dC, dI) vwCl [k1_0 aQ vQ, k1_1 cJ aQ vQ, k1_2 cI aQ vQ, k1_3 cI aQ vQ, k1_4 cI aQ vQ, k1_5 cJ aQ vQ, k1_6 cJ aQ vQ, k1_7 cJ aQ vQ, k1_8 cJ aQ vQ, k1_9 cJ aQ vQ] s.heap := hP
  have hl := lv_entry ([.ref (aQ 0), .int i1, .int i2]) (n := 3) (Nat.le_of_ble_eq_true rfl)
  rw [lg_entry_eq]
  generalize (lg_sl ([.ref (aQ 0), .int i1, .int i2]) ++ List.replicate (3 - (lg_sl ([.ref (aQ 0), .int i1, .int i2])).length) Slot.unset).toArray = ls at hl ⊢
  have hl : lv_has ls 3 [(0, .ref (aQ 0)), (1, .int i1), (2, .int i2)] := hl
  have hiX1 : ∀ w ∈ u_ws RX1 TX1 10, w ∈ wsX1_isAt := by decide +kernel
  have hgX1_9 := hts (.fieldLink RX1 9 "SpringPlates$Rest" "spots" "[J") (by decide +kernel)
  have hgX1_15 := hts (.fieldLink RX1 15 "SpringPlates$Rest" "lower" "J") (by decide +kernel)
  refine nameH (fun H locs hHe hLe => ?_)
  have hP : va_P (dC, dI) vwCl [k1_0 aQ vQ, k1_1 cJ aQ vQ, k1_2 cI aQ vQ, k1_3 cI aQ vQ, k1_4 cI aQ vQ, k1_5 cJ aQ vQ, k1_6 cJ aQ vQ, k1_7 cJ aQ vQ, k1_8 cJ aQ vQ, k1_9 cJ aQ vQ] H := by rw [hHe]; exact hP
  have hS : va_S A s.heap H locs := by rw [hHe, hLe]; exact va_S.rf
  unfold fX1_isAt at hf
  refine lv_aload_n hx hb dX1_isAt_0 rfl (lv_at hl 0 rfl) ?_
  refine va_get (D := (dC, dI)) (ci := 1) (v := .ref (aQ 1)) (C := RX1) (T := TX1) (N := 10) hx hb hts hiX1 hown hK hP 0 rfl rfl 0 (by decide) hgX1_9 (fun _ h9 => h9) rfl dX1_isAt_1 ?_
  refine lv_iload_n hx hb dX1_isAt_4 rfl (lv_at hl 1 rfl) ?_
  refine lv_iconst (v := 1) hx hb dX1_isAt_5 (by decide) ?_
  refine lv_iadd hx hb dX1_isAt_6 ?_
  obtain ⟨hi1, hf⟩ := oinb rfl hf
  refine va_lald hx hb hK hP 1 1 rfl rfl hi1 dX1_isAt_7 ?_
  refine lv_iload_n hx hb dX1_isAt_8 rfl (lv_at hl 2 rfl) ?_
  refine lv_i2l (v := (i2).toInt64) hx hb dX1_isAt_9 rfl ?_
  refine lv_aload_n hx hb dX1_isAt_10 rfl (lv_at hl 0 rfl) ?_
  refine va_get (D := (dC, dI)) (ci := 1) (v := .long (p1_lower vQ)) (C := RX1) (T := TX1) (N := 10) hx hb hts hiX1 hown hK hP 0 rfl rfl 1 (by decide) hgX1_15 (fun _ h9 => h9) rfl dX1_isAt_11 ?_
  refine lv_lmul hx hb dX1_isAt_14 ?_
  refine W.lcmp hx hb dX1_isAt_15 ?_
  refine lv_if_ne (tgt := 23) hx hb dX1_isAt_16 (by decide) (fun c2 => ?_) (fun c2 => ?_)
  · have hf := oif_f c2 hf
    refine lv_iconst (v := 0) hx hb dX1_isAt_23 (by decide) ?_
    obtain rfl := Option.some.inj hf
    exact W.zret (v := 0) hx hb hr rfl (fun t ht hW => ⟨⟨0, (), rfl, rfl, by rw [ht]; exact hP, hD⟩, hS.F ht⟩) hS.2.2 dX1_isAt_24
  · have hf := oif_t c2 hf
    refine lv_iconst (v := 1) hx hb dX1_isAt_19 (by decide) ?_
    refine lv_goto (tgt := 24) hx hb dX1_isAt_20 (by decide) ?_
    obtain rfl := Option.some.inj hf
    exact W.zret (v := 1) hx hb hr rfl (fun t ht hW => ⟨⟨1, (), rfl, rfl, by rw [ht]; exact hP, hD⟩, hS.F ht⟩) hS.2.2 dX1_isAt_24
def fX1_touchesNext (vQ : BX1) (i1 : Int32) : Option Int32 :=
  if inB (i1 + (1 : Int32)) 6 = true then (if inB (i1 + (2 : Int32)) 6 = true then (if (lg_cmp ((p1_spots vQ) ((i1 + (1 : Int32))).toNatClampNeg) ((p1_spots vQ) ((i1 + (2 : Int32))).toNatClampNeg)) = 0 then (some 1) else (some 0)) else none) else none
set_option maxHeartbeats 8000000 in
set_option maxRecDepth 100000 in
theorem mX1_touchesNext (l : Launch) (dC : Nat → ClassId) (dI : Nat → Nat → Nat) (cI cJ : ClassId) (aQ : Nat → Nat) (sz : Nat) (vQ : BX1) (i1 : Int32) (y : Int32) (hf : fX1_touchesNext vQ i1 = some y) : Met l yX1_touchesNext wsX1_touchesNext ({ frames := 0, cells := 0, slots := 0, locals := 0 }) (cPc dC dI cI cJ [.ref (aQ 0), .int i1] [k1_0 aQ vQ, k1_1 cJ aQ vQ, k1_2 cI aQ vQ, k1_3 cI aQ vQ, k1_4 cI aQ vQ, k1_5 cJ aQ vQ, k1_6 cJ aQ vQ, k1_7 cJ aQ vQ, k1_8 cJ aQ vQ, k1_9 cJ aQ vQ] sz) (va_Qi (fun r (_ : Unit) => r = y) (fun _ t => cB dC dI (va_A [k1_0 aQ vQ, k1_1 cJ aQ vQ, k1_2 cI aQ vQ, k1_3 cI aQ vQ, k1_4 cI aQ vQ, k1_5 cJ aQ vQ, k1_6 cJ aQ vQ, k1_7 cJ aQ vQ, k1_8 cJ aQ vQ, k1_9 cJ aQ vQ] sz) [k1_0 aQ vQ, k1_1 cJ aQ vQ, k1_2 cI aQ vQ, k1_3 cI aQ vQ, k1_4 cI aQ vQ, k1_5 cJ aQ vQ, k1_6 cJ aQ vQ, k1_7 cJ aQ vQ, k1_8 cJ aQ vQ, k1_9 cJ aQ vQ] t) (va_A [k1_0 aQ vQ, k1_1 cJ aQ vQ, k1_2 cI aQ vQ, k1_3 cI aQ vQ, k1_4 cI aQ vQ, k1_5 cJ aQ vQ, k1_6 cJ aQ vQ, k1_7 cJ aQ vQ, k1_8 cJ aQ vQ, k1_9 cJ aQ vQ] sz)) 0 0 (va_A [k1_0 aQ vQ, k1_1 cJ aQ vQ, k1_2 cI aQ vQ, k1_3 cI aQ vQ, k1_4 cI aQ vQ, k1_5 cJ aQ vQ, k1_6 cJ aQ vQ, k1_7 cJ aQ vQ, k1_8 cJ aQ vQ, k1_9 cJ aQ vQ] sz) := by
  refine Met.ofW (cc := cX1_touchesNext) (maxL := 2) (ret := (some .boolean)) (by decide) rfl ?_
  intro p e s m args below meth c s₁ B hml hv
  obtain ⟨rfl, hsz, hP, hK, hD0, hN⟩ := hv
  have hx := B.exec
  have hb := B.bytes
  have hr := B.returns
  have hts := atoms_spec (ws := wsX1_touchesNext) B.pre
  have hown : s.vm.findClass RX1 = some m.cls := findClass_of_methodNamed B.named
  have hlocks := B.notSynchronized
  subst hsz
  have hD := hD0.self (sz := s.heap.size)
  generalize hAe : va_A [k1_0 aQ vQ, k1_1 cJ aQ vQ, k1_2 cI aQ vQ, k1_3 cI aQ vQ, k1_4 cI aQ vQ, k1_5 cJ aQ vQ, k1_6 cJ aQ vQ, k1_7 cJ aQ vQ, k1_8 cJ aQ vQ, k1_9 cJ aQ vQ] s.heap.size = A at hD hN ⊢
  have hA : ∀ q : Nat, s.heap.size ≤ q → A q := fun q h => by rw [← hAe]; exact Or.inr h
  have hP : va_P (dC, dI) vwCl [k1_0 aQ vQ, k1_1 cJ aQ vQ, k1_2 cI aQ vQ, k1_3 cI aQ vQ, k1_4 cI aQ vQ, k1_5 cJ aQ vQ, k1_6 cJ aQ vQ, k1_7 cJ aQ vQ, k1_8 cJ aQ vQ, k1_9 cJ aQ vQ] s.heap := hP
  have hl := lv_entry ([.ref (aQ 0), .int i1]) (n := 2) (Nat.le_of_ble_eq_true rfl)
  rw [lg_entry_eq]
  generalize (lg_sl ([.ref (aQ 0), .int i1]) ++ List.replicate (2 - (lg_sl ([.ref (aQ 0), .int i1])).length) Slot.unset).toArray = ls at hl ⊢
  have hl : lv_has ls 2 [(0, .ref (aQ 0)), (1, .int i1)] := hl
  have hiX1 : ∀ w ∈ u_ws RX1 TX1 10, w ∈ wsX1_touchesNext := by decide +kernel
  have hgX1_9 := hts (.fieldLink RX1 9 "SpringPlates$Rest" "spots" "[J") (by decide +kernel)
  refine nameH (fun H locs hHe hLe => ?_)
  have hP : va_P (dC, dI) vwCl [k1_0 aQ vQ, k1_1 cJ aQ vQ, k1_2 cI aQ vQ, k1_3 cI aQ vQ, k1_4 cI aQ vQ, k1_5 cJ aQ vQ, k1_6 cJ aQ vQ, k1_7 cJ aQ vQ, k1_8 cJ aQ vQ, k1_9 cJ aQ vQ] H := by rw [hHe]; exact hP
  have hS : va_S A s.heap H locs := by rw [hHe, hLe]; exact va_S.rf
  unfold fX1_touchesNext at hf
  refine lv_aload_n hx hb dX1_touchesNext_0 rfl (lv_at hl 0 rfl) ?_
  refine va_get (D := (dC, dI)) (ci := 1) (v := .ref (aQ 1)) (C := RX1) (T := TX1) (N := 10) hx hb hts hiX1 hown hK hP 0 rfl rfl 0 (by decide) hgX1_9 (fun _ h9 => h9) rfl dX1_touchesNext_1 ?_
  refine lv_iload_n hx hb dX1_touchesNext_4 rfl (lv_at hl 1 rfl) ?_
  refine lv_iconst (v := 1) hx hb dX1_touchesNext_5 (by decide) ?_
  refine lv_iadd hx hb dX1_touchesNext_6 ?_
  obtain ⟨hi1, hf⟩ := oinb rfl hf
  refine va_lald hx hb hK hP 1 1 rfl rfl hi1 dX1_touchesNext_7 ?_
  refine lv_aload_n hx hb dX1_touchesNext_8 rfl (lv_at hl 0 rfl) ?_
  refine va_get (D := (dC, dI)) (ci := 1) (v := .ref (aQ 1)) (C := RX1) (T := TX1) (N := 10) hx hb hts hiX1 hown hK hP 0 rfl rfl 0 (by decide) hgX1_9 (fun _ h9 => h9) rfl dX1_touchesNext_9 ?_
  refine lv_iload_n hx hb dX1_touchesNext_12 rfl (lv_at hl 1 rfl) ?_
  refine lv_iconst (v := 2) hx hb dX1_touchesNext_13 (by decide) ?_
  refine lv_iadd hx hb dX1_touchesNext_14 ?_
  obtain ⟨hi2, hf⟩ := oinb rfl hf
  refine va_lald hx hb hK hP 1 1 rfl rfl hi2 dX1_touchesNext_15 ?_
  refine W.lcmp hx hb dX1_touchesNext_16 ?_
  refine lv_if_ne (tgt := 24) hx hb dX1_touchesNext_17 (by decide) (fun c3 => ?_) (fun c3 => ?_)
  · have hf := oif_f c3 hf
    refine lv_iconst (v := 0) hx hb dX1_touchesNext_24 (by decide) ?_
    obtain rfl := Option.some.inj hf
    exact W.zret (v := 0) hx hb hr rfl (fun t ht hW => ⟨⟨0, (), rfl, rfl, by rw [ht]; exact hP, hD⟩, hS.F ht⟩) hS.2.2 dX1_touchesNext_25
  · have hf := oif_t c3 hf
    refine lv_iconst (v := 1) hx hb dX1_touchesNext_20 (by decide) ?_
    refine lv_goto (tgt := 25) hx hb dX1_touchesNext_21 (by decide) ?_
    obtain rfl := Option.some.inj hf
    exact W.zret (v := 1) hx hb hr rfl (fun t ht hW => ⟨⟨1, (), rfl, rfl, by rw [ht]; exact hP, hD⟩, hS.F ht⟩) hS.2.2 dX1_touchesNext_25
def fX1_tensionOf (vL : BX0) (vQ : BX1) (i2 : Int32) : Option Int64 :=
  if inB (i2 + (1 : Int32)) 6 = true then (if inB i2 6 = true then (elet (((p1_spots vQ) ((i2 + (1 : Int32))).toNatClampNeg) - ((p1_spots vQ) (i2).toNatClampNeg)) (fun z3 => if inB i2 5 = true then (if inB i2 5 = true then (some ((((p0_strengths vL) (i2).toNatClampNeg)).toInt64 * (z3 - ((((p0_lengths vL) (i2).toNatClampNeg)).toInt64 * (p1_lower vQ))))) else none) else none)) else none) else none
set_option maxHeartbeats 8000000 in
set_option maxRecDepth 100000 in
theorem mX1_tensionOf (l : Launch) (dC : Nat → ClassId) (dI : Nat → Nat → Nat) (cI cJ : ClassId) (aL : Nat → Nat) (aQ : Nat → Nat) (sz : Nat) (vL : BX0) (vQ : BX1) (i2 : Int32) (y : Int64) (hf : fX1_tensionOf vL vQ i2 = some y) : Met l yX1_tensionOf wsX1_tensionOf ({ frames := 0, cells := 0, slots := 0, locals := 0 }) (cPc dC dI cI cJ [.ref (aQ 0), .ref (aL 0), .int i2] [k0_0 aL vL, k0_1 cI aL vL, k0_2 cI aL vL, k0_3 cI aL vL, k0_4 cI aL vL, k1_0 aQ vQ, k1_1 cJ aQ vQ, k1_2 cI aQ vQ, k1_3 cI aQ vQ, k1_4 cI aQ vQ, k1_5 cJ aQ vQ, k1_6 cJ aQ vQ, k1_7 cJ aQ vQ, k1_8 cJ aQ vQ, k1_9 cJ aQ vQ] sz) (va_Ql (fun r (_ : Unit) => r = y) (fun _ t => cB dC dI (va_A [k0_0 aL vL, k0_1 cI aL vL, k0_2 cI aL vL, k0_3 cI aL vL, k0_4 cI aL vL, k1_0 aQ vQ, k1_1 cJ aQ vQ, k1_2 cI aQ vQ, k1_3 cI aQ vQ, k1_4 cI aQ vQ, k1_5 cJ aQ vQ, k1_6 cJ aQ vQ, k1_7 cJ aQ vQ, k1_8 cJ aQ vQ, k1_9 cJ aQ vQ] sz) [k0_0 aL vL, k0_1 cI aL vL, k0_2 cI aL vL, k0_3 cI aL vL, k0_4 cI aL vL, k1_0 aQ vQ, k1_1 cJ aQ vQ, k1_2 cI aQ vQ, k1_3 cI aQ vQ, k1_4 cI aQ vQ, k1_5 cJ aQ vQ, k1_6 cJ aQ vQ, k1_7 cJ aQ vQ, k1_8 cJ aQ vQ, k1_9 cJ aQ vQ] t) (va_A [k0_0 aL vL, k0_1 cI aL vL, k0_2 cI aL vL, k0_3 cI aL vL, k0_4 cI aL vL, k1_0 aQ vQ, k1_1 cJ aQ vQ, k1_2 cI aQ vQ, k1_3 cI aQ vQ, k1_4 cI aQ vQ, k1_5 cJ aQ vQ, k1_6 cJ aQ vQ, k1_7 cJ aQ vQ, k1_8 cJ aQ vQ, k1_9 cJ aQ vQ] sz)) 0 0 (va_A [k0_0 aL vL, k0_1 cI aL vL, k0_2 cI aL vL, k0_3 cI aL vL, k0_4 cI aL vL, k1_0 aQ vQ, k1_1 cJ aQ vQ, k1_2 cI aQ vQ, k1_3 cI aQ vQ, k1_4 cI aQ vQ, k1_5 cJ aQ vQ, k1_6 cJ aQ vQ, k1_7 cJ aQ vQ, k1_8 cJ aQ vQ, k1_9 cJ aQ vQ] sz) := by
  refine Met.ofW (cc := cX1_tensionOf) (maxL := 5) (ret := (some .long)) (by decide) rfl ?_
  intro p e s m args below meth c s₁ B hml hv
  obtain ⟨rfl, hsz, hP, hK, hD0, hN⟩ := hv
  have hx := B.exec
  have hb := B.bytes
  have hr := B.returns
  have hts := atoms_spec (ws := wsX1_tensionOf) B.pre
  have hown : s.vm.findClass RX1 = some m.cls := findClass_of_methodNamed B.named
  have hlocks := B.notSynchronized
  subst hsz
  have hD := hD0.self (sz := s.heap.size)
  generalize hAe : va_A [k0_0 aL vL, k0_1 cI aL vL, k0_2 cI aL vL, k0_3 cI aL vL, k0_4 cI aL vL, k1_0 aQ vQ, k1_1 cJ aQ vQ, k1_2 cI aQ vQ, k1_3 cI aQ vQ, k1_4 cI aQ vQ, k1_5 cJ aQ vQ, k1_6 cJ aQ vQ, k1_7 cJ aQ vQ, k1_8 cJ aQ vQ, k1_9 cJ aQ vQ] s.heap.size = A at hD hN ⊢
  have hA : ∀ q : Nat, s.heap.size ≤ q → A q := fun q h => by rw [← hAe]; exact Or.inr h
  have hP : va_P (dC, dI) vwCl [k0_0 aL vL, k0_1 cI aL vL, k0_2 cI aL vL, k0_3 cI aL vL, k0_4 cI aL vL, k1_0 aQ vQ, k1_1 cJ aQ vQ, k1_2 cI aQ vQ, k1_3 cI aQ vQ, k1_4 cI aQ vQ, k1_5 cJ aQ vQ, k1_6 cJ aQ vQ, k1_7 cJ aQ vQ, k1_8 cJ aQ vQ, k1_9 cJ aQ vQ] s.heap := hP
  have hl := lv_entry ([.ref (aQ 0), .ref (aL 0), .int i2]) (n := 5) (Nat.le_of_ble_eq_true rfl)
  rw [lg_entry_eq]
  generalize (lg_sl ([.ref (aQ 0), .ref (aL 0), .int i2]) ++ List.replicate (5 - (lg_sl ([.ref (aQ 0), .ref (aL 0), .int i2])).length) Slot.unset).toArray = ls at hl ⊢
  have hl : lv_has ls 5 [(0, .ref (aQ 0)), (1, .ref (aL 0)), (2, .int i2)] := hl
  have hiX1 : ∀ w ∈ u_ws RX1 TX1 10, w ∈ wsX1_tensionOf := by decide +kernel
  have hgX1_9 := hts (.fieldLink RX1 9 "SpringPlates$Rest" "spots" "[J") (by decide +kernel)
  have hiX0 : ∀ w ∈ u_ws RX0 TX0 6, w ∈ wsX1_tensionOf := by decide +kernel
  have hgX0_50 := hts (.fieldLink RX1 50 "SpringPlates$Layout" "strengths" "[I") (by decide +kernel)
  have hgX0_55 := hts (.fieldLink RX1 55 "SpringPlates$Layout" "lengths" "[I") (by decide +kernel)
  have hgX1_15 := hts (.fieldLink RX1 15 "SpringPlates$Rest" "lower" "J") (by decide +kernel)
  refine nameH (fun H locs hHe hLe => ?_)
  have hP : va_P (dC, dI) vwCl [k0_0 aL vL, k0_1 cI aL vL, k0_2 cI aL vL, k0_3 cI aL vL, k0_4 cI aL vL, k1_0 aQ vQ, k1_1 cJ aQ vQ, k1_2 cI aQ vQ, k1_3 cI aQ vQ, k1_4 cI aQ vQ, k1_5 cJ aQ vQ, k1_6 cJ aQ vQ, k1_7 cJ aQ vQ, k1_8 cJ aQ vQ, k1_9 cJ aQ vQ] H := by rw [hHe]; exact hP
  have hS : va_S A s.heap H locs := by rw [hHe, hLe]; exact va_S.rf
  unfold fX1_tensionOf at hf
  refine lv_aload_n hx hb dX1_tensionOf_0 rfl (lv_at hl 0 rfl) ?_
  refine va_get (D := (dC, dI)) (ci := 1) (v := .ref (aQ 1)) (C := RX1) (T := TX1) (N := 10) hx hb hts hiX1 hown hK hP 5 rfl rfl 0 (by decide) hgX1_9 (fun _ h9 => h9) rfl dX1_tensionOf_1 ?_
  refine lv_iload_n hx hb dX1_tensionOf_4 rfl (lv_at hl 2 rfl) ?_
  refine lv_iconst (v := 1) hx hb dX1_tensionOf_5 (by decide) ?_
  refine lv_iadd hx hb dX1_tensionOf_6 ?_
  obtain ⟨hi1, hf⟩ := oinb rfl hf
  refine va_lald hx hb hK hP 6 1 rfl rfl hi1 dX1_tensionOf_7 ?_
  refine lv_aload_n hx hb dX1_tensionOf_8 rfl (lv_at hl 0 rfl) ?_
  refine va_get (D := (dC, dI)) (ci := 1) (v := .ref (aQ 1)) (C := RX1) (T := TX1) (N := 10) hx hb hts hiX1 hown hK hP 5 rfl rfl 0 (by decide) hgX1_9 (fun _ h9 => h9) rfl dX1_tensionOf_9 ?_
  refine lv_iload_n hx hb dX1_tensionOf_12 rfl (lv_at hl 2 rfl) ?_
  obtain ⟨hi2, hf⟩ := oinb rfl hf
  refine va_lald hx hb hK hP 6 1 rfl rfl hi2 dX1_tensionOf_13 ?_
  refine lv_lsub hx hb dX1_tensionOf_14 ?_
  obtain ⟨z3, ez3, hf⟩ := elet_out hf
  refine lvn_l ez3 ?_
  refine lv_lstore_n (lv' := [(3, .long z3), (0, .ref (aQ 0)), (1, .ref (aL 0)), (2, .int i2)]) hx hb dX1_tensionOf_15 rfl hl (by decide) rfl (fun ls hl => ?_)
  refine lv_aload_n hx hb dX1_tensionOf_16 rfl (lv_at hl 2 rfl) ?_
  refine va_get (D := (dC, dI)) (ci := 0) (v := .ref (aL 1)) (C := RX0) (T := TX0) (N := 6) hx hb hts hiX0 hown hK hP 0 rfl rfl 2 (by decide) hgX0_50 (fun _ h9 => h9) rfl dX1_tensionOf_17 ?_
  refine lv_iload_n hx hb dX1_tensionOf_20 rfl (lv_at hl 3 rfl) ?_
  obtain ⟨hi4, hf⟩ := oinb rfl hf
  refine va_iald hx hb hK hP 1 0 rfl rfl hi4 dX1_tensionOf_21 ?_
  refine lv_i2l (v := (((p0_strengths vL) (i2).toNatClampNeg)).toInt64) hx hb dX1_tensionOf_22 rfl ?_
  refine lv_lload_n hx hb dX1_tensionOf_23 rfl (lv_at hl 0 rfl) ?_
  refine lv_aload_n hx hb dX1_tensionOf_24 rfl (lv_at hl 2 rfl) ?_
  refine va_get (D := (dC, dI)) (ci := 0) (v := .ref (aL 2)) (C := RX0) (T := TX0) (N := 6) hx hb hts hiX0 hown hK hP 0 rfl rfl 3 (by decide) hgX0_55 (fun _ h9 => h9) rfl dX1_tensionOf_25 ?_
  refine lv_iload_n hx hb dX1_tensionOf_28 rfl (lv_at hl 3 rfl) ?_
  obtain ⟨hi5, hf⟩ := oinb rfl hf
  refine va_iald hx hb hK hP 2 0 rfl rfl hi5 dX1_tensionOf_29 ?_
  refine lv_i2l (v := (((p0_lengths vL) (i2).toNatClampNeg)).toInt64) hx hb dX1_tensionOf_30 rfl ?_
  refine lv_aload_n hx hb dX1_tensionOf_31 rfl (lv_at hl 1 rfl) ?_
  refine va_get (D := (dC, dI)) (ci := 1) (v := .long (p1_lower vQ)) (C := RX1) (T := TX1) (N := 10) hx hb hts hiX1 hown hK hP 5 rfl rfl 1 (by decide) hgX1_15 (fun _ h9 => h9) rfl dX1_tensionOf_32 ?_
  refine lv_lmul hx hb dX1_tensionOf_35 ?_
  refine lv_lsub hx hb dX1_tensionOf_36 ?_
  refine lv_lmul hx hb dX1_tensionOf_37 ?_
  obtain rfl := Option.some.inj hf
  exact W.lret (v := ((((p0_strengths vL) (i2).toNatClampNeg)).toInt64 * (z3 - ((((p0_lengths vL) (i2).toNatClampNeg)).toInt64 * (p1_lower vQ))))) hx hb hr (fun t ht hW => ⟨⟨((((p0_strengths vL) (i2).toNatClampNeg)).toInt64 * (z3 - ((((p0_lengths vL) (i2).toNatClampNeg)).toInt64 * (p1_lower vQ)))), (), rfl, rfl, by rw [ht]; exact hP, hD⟩, hS.F ht⟩) hS.2.2 dX1_tensionOf_38
def fX1_forceOn (vL : BX0) (vQ : BX1) (i2 : Int32) (i3 : Int32) : Option Int64 :=
  (fX0_sumOfLoads vL i2 i3).bind (fun y1 => elet ((y1).toInt64 * (p1_lower vQ)) (fun z2 => (fX1_tensionOf vL vQ (i3 + (1 : Int32))).bind (fun y3 => (fX1_tensionOf vL vQ i2).bind (fun y4 => some ((z2 + y3) - y4)))))
set_option maxHeartbeats 8000000 in
set_option maxRecDepth 100000 in
theorem mX1_forceOn (l : Launch) (dC : Nat → ClassId) (dI : Nat → Nat → Nat) (cI cJ : ClassId) (aL : Nat → Nat) (aQ : Nat → Nat) (sz : Nat) (vL : BX0) (vQ : BX1) (i2 : Int32) (i3 : Int32) (y : Int64) (hf : fX1_forceOn vL vQ i2 i3 = some y) : Met l yX1_forceOn wsX1_forceOn ({ frames := 1, cells := 0, slots := 0, locals := 24 }) (cPc dC dI cI cJ [.ref (aQ 0), .ref (aL 0), .int i2, .int i3] [k0_0 aL vL, k0_1 cI aL vL, k0_2 cI aL vL, k0_3 cI aL vL, k0_4 cI aL vL, k1_0 aQ vQ, k1_1 cJ aQ vQ, k1_2 cI aQ vQ, k1_3 cI aQ vQ, k1_4 cI aQ vQ, k1_5 cJ aQ vQ, k1_6 cJ aQ vQ, k1_7 cJ aQ vQ, k1_8 cJ aQ vQ, k1_9 cJ aQ vQ] sz) (va_Ql (fun r (_ : Unit) => r = y) (fun _ t => cB dC dI (va_A [k0_0 aL vL, k0_1 cI aL vL, k0_2 cI aL vL, k0_3 cI aL vL, k0_4 cI aL vL, k1_0 aQ vQ, k1_1 cJ aQ vQ, k1_2 cI aQ vQ, k1_3 cI aQ vQ, k1_4 cI aQ vQ, k1_5 cJ aQ vQ, k1_6 cJ aQ vQ, k1_7 cJ aQ vQ, k1_8 cJ aQ vQ, k1_9 cJ aQ vQ] sz) [k0_0 aL vL, k0_1 cI aL vL, k0_2 cI aL vL, k0_3 cI aL vL, k0_4 cI aL vL, k1_0 aQ vQ, k1_1 cJ aQ vQ, k1_2 cI aQ vQ, k1_3 cI aQ vQ, k1_4 cI aQ vQ, k1_5 cJ aQ vQ, k1_6 cJ aQ vQ, k1_7 cJ aQ vQ, k1_8 cJ aQ vQ, k1_9 cJ aQ vQ] t) (va_A [k0_0 aL vL, k0_1 cI aL vL, k0_2 cI aL vL, k0_3 cI aL vL, k0_4 cI aL vL, k1_0 aQ vQ, k1_1 cJ aQ vQ, k1_2 cI aQ vQ, k1_3 cI aQ vQ, k1_4 cI aQ vQ, k1_5 cJ aQ vQ, k1_6 cJ aQ vQ, k1_7 cJ aQ vQ, k1_8 cJ aQ vQ, k1_9 cJ aQ vQ] sz)) 0 0 (va_A [k0_0 aL vL, k0_1 cI aL vL, k0_2 cI aL vL, k0_3 cI aL vL, k0_4 cI aL vL, k1_0 aQ vQ, k1_1 cJ aQ vQ, k1_2 cI aQ vQ, k1_3 cI aQ vQ, k1_4 cI aQ vQ, k1_5 cJ aQ vQ, k1_6 cJ aQ vQ, k1_7 cJ aQ vQ, k1_8 cJ aQ vQ, k1_9 cJ aQ vQ] sz) := by
  refine Met.ofW (cc := cX1_forceOn) (maxL := 6) (ret := (some .long)) (by decide) rfl ?_
  intro p e s m args below meth c s₁ B hml hv
  obtain ⟨rfl, hsz, hP, hK, hD0, hN⟩ := hv
  have hx := B.exec
  have hb := B.bytes
  have hr := B.returns
  have hts := atoms_spec (ws := wsX1_forceOn) B.pre
  have hown : s.vm.findClass RX1 = some m.cls := findClass_of_methodNamed B.named
  have hlocks := B.notSynchronized
  subst hsz
  have hD := hD0.self (sz := s.heap.size)
  generalize hAe : va_A [k0_0 aL vL, k0_1 cI aL vL, k0_2 cI aL vL, k0_3 cI aL vL, k0_4 cI aL vL, k1_0 aQ vQ, k1_1 cJ aQ vQ, k1_2 cI aQ vQ, k1_3 cI aQ vQ, k1_4 cI aQ vQ, k1_5 cJ aQ vQ, k1_6 cJ aQ vQ, k1_7 cJ aQ vQ, k1_8 cJ aQ vQ, k1_9 cJ aQ vQ] s.heap.size = A at hD hN ⊢
  have hA : ∀ q : Nat, s.heap.size ≤ q → A q := fun q h => by rw [← hAe]; exact Or.inr h
  have hP : va_P (dC, dI) vwCl [k0_0 aL vL, k0_1 cI aL vL, k0_2 cI aL vL, k0_3 cI aL vL, k0_4 cI aL vL, k1_0 aQ vQ, k1_1 cJ aQ vQ, k1_2 cI aQ vQ, k1_3 cI aQ vQ, k1_4 cI aQ vQ, k1_5 cJ aQ vQ, k1_6 cJ aQ vQ, k1_7 cJ aQ vQ, k1_8 cJ aQ vQ, k1_9 cJ aQ vQ] s.heap := hP
  have hl := lv_entry ([.ref (aQ 0), .ref (aL 0), .int i2, .int i3]) (n := 6) (Nat.le_of_ble_eq_true rfl)
  rw [lg_entry_eq]
  generalize (lg_sl ([.ref (aQ 0), .ref (aL 0), .int i2, .int i3]) ++ List.replicate (6 - (lg_sl ([.ref (aQ 0), .ref (aL 0), .int i2, .int i3])).length) Slot.unset).toArray = ls at hl ⊢
  have hl : lv_has ls 6 [(0, .ref (aQ 0)), (1, .ref (aL 0)), (2, .int i2), (3, .int i3)] := hl
  have hiX1 : ∀ w ∈ u_ws RX1 TX1 10, w ∈ wsX1_forceOn := by decide +kernel
  have hgX1_15 := hts (.fieldLink RX1 15 "SpringPlates$Rest" "lower" "J") (by decide +kernel)
  refine nameH (fun H locs hHe hLe => ?_)
  have hP : va_P (dC, dI) vwCl [k0_0 aL vL, k0_1 cI aL vL, k0_2 cI aL vL, k0_3 cI aL vL, k0_4 cI aL vL, k1_0 aQ vQ, k1_1 cJ aQ vQ, k1_2 cI aQ vQ, k1_3 cI aQ vQ, k1_4 cI aQ vQ, k1_5 cJ aQ vQ, k1_6 cJ aQ vQ, k1_7 cJ aQ vQ, k1_8 cJ aQ vQ, k1_9 cJ aQ vQ] H := by rw [hHe]; exact hP
  have hS : va_S A s.heap H locs := by rw [hHe, hLe]; exact va_S.rf
  unfold fX1_forceOn at hf
  refine lv_aload_n hx hb dX1_forceOn_0 rfl (lv_at hl 1 rfl) ?_
  refine lv_iload_n hx hb dX1_forceOn_1 rfl (lv_at hl 2 rfl) ?_
  refine lv_iload_n hx hb dX1_forceOn_2 rfl (lv_at hl 3 rfl) ?_
  obtain ⟨y1, hy1, hf⟩ := obind hf
  refine cg_i (ws := [k0_0 aL vL, k0_1 cI aL vL, k0_2 cI aL vL, k0_3 cI aL vL, k0_4 cI aL vL, k1_0 aQ vQ, k1_1 cJ aQ vQ, k1_2 cI aQ vQ, k1_3 cI aQ vQ, k1_4 cI aQ vQ, k1_5 cJ aQ vQ, k1_6 cJ aQ vQ, k1_7 cJ aQ vQ, k1_8 cJ aQ vQ, k1_9 cJ aQ vQ]) (wc := [k0_0 aL vL, k0_1 cI aL vL, k0_2 cI aL vL, k0_3 cI aL vL, k0_4 cI aL vL]) (wr := [k1_0 aQ vQ, k1_1 cJ aQ vQ, k1_2 cI aQ vQ, k1_3 cI aQ vQ, k1_4 cI aQ vQ, k1_5 cJ aQ vQ, k1_6 cJ aQ vQ, k1_7 cJ aQ vQ, k1_8 cJ aQ vQ, k1_9 cJ aQ vQ]) (w1 := [k0_0 aL vL, k0_1 cI aL vL, k0_2 cI aL vL, k0_3 cI aL vL, k0_4 cI aL vL]) (wo := [k0_0 aL vL, k0_1 cI aL vL, k0_2 cI aL vL, k0_3 cI aL vL, k0_4 cI aL vL, k1_0 aQ vQ, k1_1 cJ aQ vQ, k1_2 cI aQ vQ, k1_3 cI aQ vQ, k1_4 cI aQ vQ, k1_5 cJ aQ vQ, k1_6 cJ aQ vQ, k1_7 cJ aQ vQ, k1_8 cJ aQ vQ, k1_9 cJ aQ vQ]) hP hD hS hA (va_runV (As := [.int i2, .int i3]) (rest := []) ⟨hx, hb, hml, hown, hts⟩ (mX0_sumOfLoads l dC dI cI cJ aL H.size vL i2 i3 y1 hy1) (cwV 2 hts gX1_forceOn_X0_sumOfLoads rfl rfl rfl (by decide +kernel) ⟨Nat.le_of_ble_eq_true rfl, Nat.le_of_ble_eq_true rfl⟩) ⟨cFB, va_recv hK hP (ci := 0) (q0 := 0) rfl rfl, cPre hK hN hS (va_free (wc := [k0_0 aL vL, k0_1 cI aL vL, k0_2 cI aL vL, k0_3 cI aL vL, k0_4 cI aL vL]) hD hS hA [0, 1, 2, 3, 4] rfl) (hP.sub [0, 1, 2, 3, 4] rfl) (hD.sub [0, 1, 2, 3, 4] rfl rfl)⟩ rfl rfl hl.1 rfl (lv_room (Nat.le_of_ble_eq_true rfl)) dX1_forceOn_3 ⟨Nat.le_of_ble_eq_true rfl, Nat.le_of_ble_eq_true rfl⟩) [0, 1, 2, 3, 4] [5, 6, 7, 8, 9, 10, 11, 12, 13, 14] [10, 11, 12, 13, 14, 0, 1, 2, 3, 4, 5, 6, 7, 8, 9] rfl rfl rfl (by decide +kernel) rfl rfl (fun H locs hP hD hS => ?_)
  refine lv_i2l (v := (y1).toInt64) hx hb dX1_forceOn_6 rfl ?_
  refine lv_aload_n hx hb dX1_forceOn_7 rfl (lv_at hl 0 rfl) ?_
  refine va_get (D := (dC, dI)) (ci := 1) (v := .long (p1_lower vQ)) (C := RX1) (T := TX1) (N := 10) hx hb hts hiX1 hown hK hP 5 rfl rfl 1 (by decide) hgX1_15 (fun _ h9 => h9) rfl dX1_forceOn_8 ?_
  refine lv_lmul hx hb dX1_forceOn_11 ?_
  obtain ⟨z2, ez2, hf⟩ := elet_out hf
  refine lvn_l ez2 ?_
  refine lv_lstore (lv' := [(4, .long z2), (0, .ref (aQ 0)), (1, .ref (aL 0)), (2, .int i2), (3, .int i3)]) hx hb dX1_forceOn_12 hl (by decide) rfl (fun ls hl => ?_)
  refine lv_lload hx hb dX1_forceOn_14 (lv_at hl 0 rfl) ?_
  refine lv_aload_n hx hb dX1_forceOn_16 rfl (lv_at hl 1 rfl) ?_
  refine lv_aload_n hx hb dX1_forceOn_17 rfl (lv_at hl 2 rfl) ?_
  refine lv_iload_n hx hb dX1_forceOn_18 rfl (lv_at hl 4 rfl) ?_
  refine lv_iconst (v := 1) hx hb dX1_forceOn_19 (by decide) ?_
  refine lv_iadd hx hb dX1_forceOn_20 ?_
  obtain ⟨y3, hy3, hf⟩ := obind hf
  refine cg_l (ws := [k0_0 aL vL, k0_1 cI aL vL, k0_2 cI aL vL, k0_3 cI aL vL, k0_4 cI aL vL, k1_0 aQ vQ, k1_1 cJ aQ vQ, k1_2 cI aQ vQ, k1_3 cI aQ vQ, k1_4 cI aQ vQ, k1_5 cJ aQ vQ, k1_6 cJ aQ vQ, k1_7 cJ aQ vQ, k1_8 cJ aQ vQ, k1_9 cJ aQ vQ]) (wc := [k0_0 aL vL, k0_1 cI aL vL, k0_2 cI aL vL, k0_3 cI aL vL, k0_4 cI aL vL, k1_0 aQ vQ, k1_1 cJ aQ vQ, k1_2 cI aQ vQ, k1_3 cI aQ vQ, k1_4 cI aQ vQ, k1_5 cJ aQ vQ, k1_6 cJ aQ vQ, k1_7 cJ aQ vQ, k1_8 cJ aQ vQ, k1_9 cJ aQ vQ]) (wr := []) (w1 := [k0_0 aL vL, k0_1 cI aL vL, k0_2 cI aL vL, k0_3 cI aL vL, k0_4 cI aL vL, k1_0 aQ vQ, k1_1 cJ aQ vQ, k1_2 cI aQ vQ, k1_3 cI aQ vQ, k1_4 cI aQ vQ, k1_5 cJ aQ vQ, k1_6 cJ aQ vQ, k1_7 cJ aQ vQ, k1_8 cJ aQ vQ, k1_9 cJ aQ vQ]) (wo := [k0_0 aL vL, k0_1 cI aL vL, k0_2 cI aL vL, k0_3 cI aL vL, k0_4 cI aL vL, k1_0 aQ vQ, k1_1 cJ aQ vQ, k1_2 cI aQ vQ, k1_3 cI aQ vQ, k1_4 cI aQ vQ, k1_5 cJ aQ vQ, k1_6 cJ aQ vQ, k1_7 cJ aQ vQ, k1_8 cJ aQ vQ, k1_9 cJ aQ vQ]) hP hD hS hA (va_runV (As := [.ref (aL 0), .int (i3 + (1 : Int32))]) (rest := [.long z2]) ⟨hx, hb, hml, hown, hts⟩ (mX1_tensionOf l dC dI cI cJ aL aQ H.size vL vQ (i3 + (1 : Int32)) y3 hy3) (cwV 2 hts gX1_forceOn_X1_tensionOf rfl rfl rfl (by decide +kernel) ⟨Nat.le_of_ble_eq_true rfl, Nat.le_of_ble_eq_true rfl⟩) ⟨cFB, va_recv hK hP (ci := 1) (q0 := 5) rfl rfl, cPre hK hN hS (va_free (wc := [k0_0 aL vL, k0_1 cI aL vL, k0_2 cI aL vL, k0_3 cI aL vL, k0_4 cI aL vL, k1_0 aQ vQ, k1_1 cJ aQ vQ, k1_2 cI aQ vQ, k1_3 cI aQ vQ, k1_4 cI aQ vQ, k1_5 cJ aQ vQ, k1_6 cJ aQ vQ, k1_7 cJ aQ vQ, k1_8 cJ aQ vQ, k1_9 cJ aQ vQ]) hD hS hA [0, 1, 2, 3, 4, 5, 6, 7, 8, 9, 10, 11, 12, 13, 14] rfl) (hP.sub [0, 1, 2, 3, 4, 5, 6, 7, 8, 9, 10, 11, 12, 13, 14] rfl) (hD.sub [0, 1, 2, 3, 4, 5, 6, 7, 8, 9, 10, 11, 12, 13, 14] rfl rfl)⟩ rfl rfl hl.1 rfl (lv_room (Nat.le_of_ble_eq_true rfl)) dX1_forceOn_21 ⟨Nat.le_of_ble_eq_true rfl, Nat.le_of_ble_eq_true rfl⟩) [0, 1, 2, 3, 4, 5, 6, 7, 8, 9, 10, 11, 12, 13, 14] [] [0, 1, 2, 3, 4, 5, 6, 7, 8, 9, 10, 11, 12, 13, 14] rfl rfl rfl (by decide +kernel) rfl rfl (fun H locs hP hD hS => ?_)
  refine lv_ladd hx hb dX1_forceOn_24 ?_
  refine lv_aload_n hx hb dX1_forceOn_25 rfl (lv_at hl 1 rfl) ?_
  refine lv_aload_n hx hb dX1_forceOn_26 rfl (lv_at hl 2 rfl) ?_
  refine lv_iload_n hx hb dX1_forceOn_27 rfl (lv_at hl 3 rfl) ?_
  obtain ⟨y4, hy4, hf⟩ := obind hf
  refine cg_l (ws := [k0_0 aL vL, k0_1 cI aL vL, k0_2 cI aL vL, k0_3 cI aL vL, k0_4 cI aL vL, k1_0 aQ vQ, k1_1 cJ aQ vQ, k1_2 cI aQ vQ, k1_3 cI aQ vQ, k1_4 cI aQ vQ, k1_5 cJ aQ vQ, k1_6 cJ aQ vQ, k1_7 cJ aQ vQ, k1_8 cJ aQ vQ, k1_9 cJ aQ vQ]) (wc := [k0_0 aL vL, k0_1 cI aL vL, k0_2 cI aL vL, k0_3 cI aL vL, k0_4 cI aL vL, k1_0 aQ vQ, k1_1 cJ aQ vQ, k1_2 cI aQ vQ, k1_3 cI aQ vQ, k1_4 cI aQ vQ, k1_5 cJ aQ vQ, k1_6 cJ aQ vQ, k1_7 cJ aQ vQ, k1_8 cJ aQ vQ, k1_9 cJ aQ vQ]) (wr := []) (w1 := [k0_0 aL vL, k0_1 cI aL vL, k0_2 cI aL vL, k0_3 cI aL vL, k0_4 cI aL vL, k1_0 aQ vQ, k1_1 cJ aQ vQ, k1_2 cI aQ vQ, k1_3 cI aQ vQ, k1_4 cI aQ vQ, k1_5 cJ aQ vQ, k1_6 cJ aQ vQ, k1_7 cJ aQ vQ, k1_8 cJ aQ vQ, k1_9 cJ aQ vQ]) (wo := [k0_0 aL vL, k0_1 cI aL vL, k0_2 cI aL vL, k0_3 cI aL vL, k0_4 cI aL vL, k1_0 aQ vQ, k1_1 cJ aQ vQ, k1_2 cI aQ vQ, k1_3 cI aQ vQ, k1_4 cI aQ vQ, k1_5 cJ aQ vQ, k1_6 cJ aQ vQ, k1_7 cJ aQ vQ, k1_8 cJ aQ vQ, k1_9 cJ aQ vQ]) hP hD hS hA (va_runV (As := [.ref (aL 0), .int i2]) (rest := [.long (z2 + y3)]) ⟨hx, hb, hml, hown, hts⟩ (mX1_tensionOf l dC dI cI cJ aL aQ H.size vL vQ i2 y4 hy4) (cwV 2 hts gX1_forceOn_X1_tensionOf rfl rfl rfl (by decide +kernel) ⟨Nat.le_of_ble_eq_true rfl, Nat.le_of_ble_eq_true rfl⟩) ⟨cFB, va_recv hK hP (ci := 1) (q0 := 5) rfl rfl, cPre hK hN hS (va_free (wc := [k0_0 aL vL, k0_1 cI aL vL, k0_2 cI aL vL, k0_3 cI aL vL, k0_4 cI aL vL, k1_0 aQ vQ, k1_1 cJ aQ vQ, k1_2 cI aQ vQ, k1_3 cI aQ vQ, k1_4 cI aQ vQ, k1_5 cJ aQ vQ, k1_6 cJ aQ vQ, k1_7 cJ aQ vQ, k1_8 cJ aQ vQ, k1_9 cJ aQ vQ]) hD hS hA [0, 1, 2, 3, 4, 5, 6, 7, 8, 9, 10, 11, 12, 13, 14] rfl) (hP.sub [0, 1, 2, 3, 4, 5, 6, 7, 8, 9, 10, 11, 12, 13, 14] rfl) (hD.sub [0, 1, 2, 3, 4, 5, 6, 7, 8, 9, 10, 11, 12, 13, 14] rfl rfl)⟩ rfl rfl hl.1 rfl (lv_room (Nat.le_of_ble_eq_true rfl)) dX1_forceOn_28 ⟨Nat.le_of_ble_eq_true rfl, Nat.le_of_ble_eq_true rfl⟩) [0, 1, 2, 3, 4, 5, 6, 7, 8, 9, 10, 11, 12, 13, 14] [] [0, 1, 2, 3, 4, 5, 6, 7, 8, 9, 10, 11, 12, 13, 14] rfl rfl rfl (by decide +kernel) rfl rfl (fun H locs hP hD hS => ?_)
  refine lv_lsub hx hb dX1_forceOn_31 ?_
  obtain rfl := Option.some.inj hf
  exact W.lret (v := ((z2 + y3) - y4)) hx hb hr (fun t ht hW => ⟨⟨((z2 + y3) - y4), (), rfl, rfl, by rw [ht]; exact hP, hD⟩, hS.F ht⟩) hS.2.2 dX1_forceOn_32
def fX1_boundPlates_47_b (k47 : BX0 → BX1 → Int32 → Int32 → Option BX1) (vL : BX0) (vQ : BX1) (x2 : Int32) (x3 : Int32) : Option BX1 :=
  if x3 < 0 then (some vQ) else ((fX0_rightBoundOf vL x3).bind (fun y10 => elet (if y10 < x2 then y10 else x2) (fun z11 => if inB x3 4 = true then (elet (s1_highest vQ (upd (p1_highest vQ) (x3).toNatClampNeg z11)) (fun b13 => elet (x3 + (-1)) (fun z14 => k47 vL b13 z11 z14))) else none)))
def fX1_boundPlates_47 : Nat → BX0 → BX1 → Int32 → Int32 → Option BX1
  | 0 => fun _ _ _ _ => none
  | n + 1 => fX1_boundPlates_47_b (fX1_boundPlates_47 n)
def fX1_boundPlates_4_b (k4 : BX0 → BX1 → Int32 → Int32 → Option BX1) (vL : BX0) (vQ : BX1) (x2 : Int32) (x3 : Int32) : Option BX1 :=
  if (p0_plates vL) ≤ x3 then (elet (p0_width vL) (fun z2 => elet ((p0_plates vL) - (1 : Int32)) (fun z3 => fX1_boundPlates_47 FU vL vQ z2 z3))) else ((fX0_leftBoundOf vL x3).bind (fun y4 => elet (if x2 < y4 then y4 else x2) (fun z5 => if inB x3 4 = true then (elet (s1_lowest vQ (upd (p1_lowest vQ) (x3).toNatClampNeg z5)) (fun b7 => elet (x3 + 1) (fun z8 => k4 vL b7 z5 z8))) else none)))
def fX1_boundPlates_4 : Nat → BX0 → BX1 → Int32 → Int32 → Option BX1
  | 0 => fun _ _ _ _ => none
  | n + 1 => fX1_boundPlates_4_b (fX1_boundPlates_4 n)
def fX1_boundPlates (vL : BX0) (vQ : BX1) : Option BX1 :=
  fX1_boundPlates_4 FU vL vQ (0 : Int32) (0 : Int32)
set_option maxHeartbeats 8000000 in
set_option maxRecDepth 100000 in
theorem mX1_boundPlates (l : Launch) (dC : Nat → ClassId) (dI : Nat → Nat → Nat) (cI cJ : ClassId) (aL : Nat → Nat) (aQ : Nat → Nat) (sz : Nat) (vL : BX0) (vQ : BX1) (y : BX1) (hf : fX1_boundPlates vL vQ = some y) : Met l yX1_boundPlates wsX1_boundPlates ({ frames := 2, cells := 0, slots := 0, locals := 44 }) (cPc dC dI cI cJ [.ref (aQ 0), .ref (aL 0)] [k0_0 aL vL, k0_1 cI aL vL, k0_2 cI aL vL, k0_3 cI aL vL, k0_4 cI aL vL, k1_0 aQ vQ, k1_1 cJ aQ vQ, k1_2 cI aQ vQ, k1_3 cI aQ vQ, k1_4 cI aQ vQ, k1_5 cJ aQ vQ, k1_6 cJ aQ vQ, k1_7 cJ aQ vQ, k1_8 cJ aQ vQ, k1_9 cJ aQ vQ] sz) (va_Qv (fun (_ : Unit) => True) (fun _ t => cB dC dI (va_A [k0_0 aL vL, k0_1 cI aL vL, k0_2 cI aL vL, k0_3 cI aL vL, k0_4 cI aL vL, k1_0 aQ vQ, k1_1 cJ aQ vQ, k1_2 cI aQ vQ, k1_3 cI aQ vQ, k1_4 cI aQ vQ, k1_5 cJ aQ vQ, k1_6 cJ aQ vQ, k1_7 cJ aQ vQ, k1_8 cJ aQ vQ, k1_9 cJ aQ vQ] sz) [k0_0 aL vL, k0_1 cI aL vL, k0_2 cI aL vL, k0_3 cI aL vL, k0_4 cI aL vL, k1_0 aQ y, k1_1 cJ aQ y, k1_2 cI aQ y, k1_3 cI aQ y, k1_4 cI aQ y, k1_5 cJ aQ y, k1_6 cJ aQ y, k1_7 cJ aQ y, k1_8 cJ aQ y, k1_9 cJ aQ y] t) (va_A [k0_0 aL vL, k0_1 cI aL vL, k0_2 cI aL vL, k0_3 cI aL vL, k0_4 cI aL vL, k1_0 aQ vQ, k1_1 cJ aQ vQ, k1_2 cI aQ vQ, k1_3 cI aQ vQ, k1_4 cI aQ vQ, k1_5 cJ aQ vQ, k1_6 cJ aQ vQ, k1_7 cJ aQ vQ, k1_8 cJ aQ vQ, k1_9 cJ aQ vQ] sz)) 0 0 (va_A [k0_0 aL vL, k0_1 cI aL vL, k0_2 cI aL vL, k0_3 cI aL vL, k0_4 cI aL vL, k1_0 aQ vQ, k1_1 cJ aQ vQ, k1_2 cI aQ vQ, k1_3 cI aQ vQ, k1_4 cI aQ vQ, k1_5 cJ aQ vQ, k1_6 cJ aQ vQ, k1_7 cJ aQ vQ, k1_8 cJ aQ vQ, k1_9 cJ aQ vQ] sz) := by
  refine Met.ofW (cc := cX1_boundPlates) (maxL := 4) (ret := none) (by decide) rfl ?_
  intro p e s m args below meth c s₁ B hml hv
  obtain ⟨rfl, hsz, hP, hK, hD0, hN⟩ := hv
  have hx := B.exec
  have hb := B.bytes
  have hr := B.returns
  have hts := atoms_spec (ws := wsX1_boundPlates) B.pre
  have hown : s.vm.findClass RX1 = some m.cls := findClass_of_methodNamed B.named
  have hlocks := B.notSynchronized
  subst hsz
  have hD := hD0.self (sz := s.heap.size)
  generalize hAe : va_A [k0_0 aL vL, k0_1 cI aL vL, k0_2 cI aL vL, k0_3 cI aL vL, k0_4 cI aL vL, k1_0 aQ vQ, k1_1 cJ aQ vQ, k1_2 cI aQ vQ, k1_3 cI aQ vQ, k1_4 cI aQ vQ, k1_5 cJ aQ vQ, k1_6 cJ aQ vQ, k1_7 cJ aQ vQ, k1_8 cJ aQ vQ, k1_9 cJ aQ vQ] s.heap.size = A at hD hN ⊢
  have hA : ∀ q : Nat, s.heap.size ≤ q → A q := fun q h => by rw [← hAe]; exact Or.inr h
  have hP : va_P (dC, dI) vwCl [k0_0 aL vL, k0_1 cI aL vL, k0_2 cI aL vL, k0_3 cI aL vL, k0_4 cI aL vL, k1_0 aQ vQ, k1_1 cJ aQ vQ, k1_2 cI aQ vQ, k1_3 cI aQ vQ, k1_4 cI aQ vQ, k1_5 cJ aQ vQ, k1_6 cJ aQ vQ, k1_7 cJ aQ vQ, k1_8 cJ aQ vQ, k1_9 cJ aQ vQ] s.heap := hP
  have hl := lv_entry ([.ref (aQ 0), .ref (aL 0)]) (n := 4) (Nat.le_of_ble_eq_true rfl)
  rw [lg_entry_eq]
  generalize (lg_sl ([.ref (aQ 0), .ref (aL 0)]) ++ List.replicate (4 - (lg_sl ([.ref (aQ 0), .ref (aL 0)])).length) Slot.unset).toArray = ls at hl ⊢
  have hl : lv_has ls 4 [(0, .ref (aQ 0)), (1, .ref (aL 0))] := hl
  have hiX0 : ∀ w ∈ u_ws RX0 TX0 6, w ∈ wsX1_boundPlates := by decide +kernel
  have hgX0_74 := hts (.fieldLink RX1 74 "SpringPlates$Layout" "plates" "I") (by decide +kernel)
  have hgX0_102 := hts (.fieldLink RX1 102 "SpringPlates$Layout" "width" "I") (by decide +kernel)
  have hiX1 : ∀ w ∈ u_ws RX1 TX1 10, w ∈ wsX1_boundPlates := by decide +kernel
  have hgX1_19 := hts (.fieldLink RX1 19 "SpringPlates$Rest" "lowest" "[I") (by decide +kernel)
  have hgX1_23 := hts (.fieldLink RX1 23 "SpringPlates$Rest" "highest" "[I") (by decide +kernel)
  refine nameH (fun H locs hHe hLe => ?_)
  have hP : va_P (dC, dI) vwCl [k0_0 aL vL, k0_1 cI aL vL, k0_2 cI aL vL, k0_3 cI aL vL, k0_4 cI aL vL, k1_0 aQ vQ, k1_1 cJ aQ vQ, k1_2 cI aQ vQ, k1_3 cI aQ vQ, k1_4 cI aQ vQ, k1_5 cJ aQ vQ, k1_6 cJ aQ vQ, k1_7 cJ aQ vQ, k1_8 cJ aQ vQ, k1_9 cJ aQ vQ] H := by rw [hHe]; exact hP
  have hS : va_S A s.heap H locs := by rw [hHe, hLe]; exact va_S.rf
  refine withW (fun WW hWW => ?_)
  have L47 : ∀ (n : Nat) (vQ : BX1) (x2 : Int32) (x3 : Int32) (H : Heap) (locs : List Loc) (ls : Array Slot), va_P (dC, dI) vwCl [k0_0 aL vL, k0_1 cI aL vL, k0_2 cI aL vL, k0_3 cI aL vL, k0_4 cI aL vL, k1_0 aQ vQ, k1_1 cJ aQ vQ, k1_2 cI aQ vQ, k1_3 cI aQ vQ, k1_4 cI aQ vQ, k1_5 cJ aQ vQ, k1_6 cJ aQ vQ, k1_7 cJ aQ vQ, k1_8 cJ aQ vQ, k1_9 cJ aQ vQ] H → va_D A [k0_0 aL vL, k0_1 cI aL vL, k0_2 cI aL vL, k0_3 cI aL vL, k0_4 cI aL vL, k1_0 aQ vQ, k1_1 cJ aQ vQ, k1_2 cI aQ vQ, k1_3 cI aQ vQ, k1_4 cI aQ vQ, k1_5 cJ aQ vQ, k1_6 cJ aQ vQ, k1_7 cJ aQ vQ, k1_8 cJ aQ vQ, k1_9 cJ aQ vQ] → va_S A s.heap H locs → lv_has ls 4 [(0, .ref (aQ 0)), (1, .ref (aL 0)), (2, .int x2), (3, .int x3)] → fX1_boundPlates_47 n vL vQ x2 x3 = some y → WW H locs 0 0 ls 47 [] := by
    intro n
    induction n with
    | zero =>
      intro vQ x2 x3 H locs ls hP hD hS hl hf
      exact onone hf
    | succ n ih =>
      intro vQ x2 x3 H locs ls hP hD hS hl hf
      have hf : fX1_boundPlates_47_b (fX1_boundPlates_47 n) vL vQ x2 x3 = some y := hf
      generalize fX1_boundPlates_47 n = k47 at hf ih
      have hk47 := ih
      clear ih
      unfold fX1_boundPlates_47_b at hf
      refine (hWW _ _ _ _ _ _ _).2 ?_
      refine lv_iload_n hx hb dX1_boundPlates_47 rfl (lv_at hl 3 rfl) ?_
      refine lv_if_lt (tgt := 74) hx hb dX1_boundPlates_48 (by decide) (fun c9 => ?_) (fun c9 => ?_)
      · have hf := oif_t c9 hf
        obtain rfl := Option.some.inj hf
        exact W.vret hx hb hr (fun t ht hW => ⟨⟨(), rfl, trivial, by rw [ht]; exact hP, hD⟩, hS.F ht⟩) hS.2.2 dX1_boundPlates_74
      · have hf := oif_f c9 hf
        refine lv_iload_n hx hb dX1_boundPlates_51 rfl (lv_at hl 2 rfl) ?_
        refine lv_aload_n hx hb dX1_boundPlates_52 rfl (lv_at hl 1 rfl) ?_
        refine lv_iload_n hx hb dX1_boundPlates_53 rfl (lv_at hl 3 rfl) ?_
        obtain ⟨y10, hy10, hf⟩ := obind hf
        refine cg_i (ws := [k0_0 aL vL, k0_1 cI aL vL, k0_2 cI aL vL, k0_3 cI aL vL, k0_4 cI aL vL, k1_0 aQ vQ, k1_1 cJ aQ vQ, k1_2 cI aQ vQ, k1_3 cI aQ vQ, k1_4 cI aQ vQ, k1_5 cJ aQ vQ, k1_6 cJ aQ vQ, k1_7 cJ aQ vQ, k1_8 cJ aQ vQ, k1_9 cJ aQ vQ]) (wc := [k0_0 aL vL, k0_1 cI aL vL, k0_2 cI aL vL, k0_3 cI aL vL, k0_4 cI aL vL]) (wr := [k1_0 aQ vQ, k1_1 cJ aQ vQ, k1_2 cI aQ vQ, k1_3 cI aQ vQ, k1_4 cI aQ vQ, k1_5 cJ aQ vQ, k1_6 cJ aQ vQ, k1_7 cJ aQ vQ, k1_8 cJ aQ vQ, k1_9 cJ aQ vQ]) (w1 := [k0_0 aL vL, k0_1 cI aL vL, k0_2 cI aL vL, k0_3 cI aL vL, k0_4 cI aL vL]) (wo := [k0_0 aL vL, k0_1 cI aL vL, k0_2 cI aL vL, k0_3 cI aL vL, k0_4 cI aL vL, k1_0 aQ vQ, k1_1 cJ aQ vQ, k1_2 cI aQ vQ, k1_3 cI aQ vQ, k1_4 cI aQ vQ, k1_5 cJ aQ vQ, k1_6 cJ aQ vQ, k1_7 cJ aQ vQ, k1_8 cJ aQ vQ, k1_9 cJ aQ vQ]) hP hD hS hA (va_runV (As := [.int x3]) (rest := [.int x2]) ⟨hx, hb, hml, hown, hts⟩ (mX0_rightBoundOf l dC dI cI cJ aL H.size vL x3 y10 hy10) (cwV 1 hts gX1_boundPlates_X0_rightBoundOf rfl rfl rfl (by decide +kernel) ⟨Nat.le_of_ble_eq_true rfl, Nat.le_of_ble_eq_true rfl⟩) ⟨cFB, va_recv hK hP (ci := 0) (q0 := 0) rfl rfl, cPre hK hN hS (va_free (wc := [k0_0 aL vL, k0_1 cI aL vL, k0_2 cI aL vL, k0_3 cI aL vL, k0_4 cI aL vL]) hD hS hA [0, 1, 2, 3, 4] rfl) (hP.sub [0, 1, 2, 3, 4] rfl) (hD.sub [0, 1, 2, 3, 4] rfl rfl)⟩ rfl rfl hl.1 rfl (lv_room (Nat.le_of_ble_eq_true rfl)) dX1_boundPlates_54 ⟨Nat.le_of_ble_eq_true rfl, Nat.le_of_ble_eq_true rfl⟩) [0, 1, 2, 3, 4] [5, 6, 7, 8, 9, 10, 11, 12, 13, 14] [10, 11, 12, 13, 14, 0, 1, 2, 3, 4, 5, 6, 7, 8, 9] rfl rfl rfl (by decide +kernel) rfl rfl (fun H locs hP hD hS => ?_)
        refine va_mmin hx hb (hml.trans hl.1.symm) hown (hts (.methodLink RX1 108 Lib.Math.min.name) (by decide +kernel)) (hts (.static Lib.Math.min.name) (by decide +kernel)) (hts (.initialized "java/lang/Math") (by decide +kernel)) (hts (.code Lib.Math.min.name Lib.Math.min.code 2 (some .int)) (by decide +kernel)) (Nat.le_of_ble_eq_true rfl) (Nat.le_of_ble_eq_true rfl) (Nat.le_of_ble_eq_true rfl) (Nat.le_of_ble_eq_true rfl) dX1_boundPlates_57 ?_
        obtain ⟨z11, ez11, hf⟩ := elet_out hf
        refine lvn_i ez11 ?_
        refine lv_istore_n (lv' := [(2, .int z11), (0, .ref (aQ 0)), (1, .ref (aL 0)), (3, .int x3)]) hx hb dX1_boundPlates_60 rfl hl (by decide) rfl (fun ls hl => ?_)
        refine lv_aload_n hx hb dX1_boundPlates_61 rfl (lv_at hl 1 rfl) ?_
        refine va_get (D := (dC, dI)) (ci := 1) (v := .ref (aQ 3)) (C := RX1) (T := TX1) (N := 10) hx hb hts hiX1 hown hK hP 5 rfl rfl 3 (by decide) hgX1_23 (fun _ h9 => h9) rfl dX1_boundPlates_62 ?_
        refine lv_iload_n hx hb dX1_boundPlates_65 rfl (lv_at hl 3 rfl) ?_
        refine lv_iload_n hx hb dX1_boundPlates_66 rfl (lv_at hl 0 rfl) ?_
        obtain ⟨hi12, hf⟩ := oinb rfl hf
        obtain ⟨b13, eb13, hf⟩ := elet_out hf
        refine va_iast hx hb hK hP hD hS 8 0 rfl rfl hi12 dX1_boundPlates_67 (fun H locs hP hD hS => ?_)
        have hP : va_P (dC, dI) vwCl [k0_0 aL vL, k0_1 cI aL vL, k0_2 cI aL vL, k0_3 cI aL vL, k0_4 cI aL vL, k1_0 aQ b13, k1_1 cJ aQ b13, k1_2 cI aQ b13, k1_3 cI aQ b13, k1_4 cI aQ b13, k1_5 cJ aQ b13, k1_6 cJ aQ b13, k1_7 cJ aQ b13, k1_8 cJ aQ b13, k1_9 cJ aQ b13] H := by rw [eb13]; exact hP
        have hD : va_D A [k0_0 aL vL, k0_1 cI aL vL, k0_2 cI aL vL, k0_3 cI aL vL, k0_4 cI aL vL, k1_0 aQ b13, k1_1 cJ aQ b13, k1_2 cI aQ b13, k1_3 cI aQ b13, k1_4 cI aQ b13, k1_5 cJ aQ b13, k1_6 cJ aQ b13, k1_7 cJ aQ b13, k1_8 cJ aQ b13, k1_9 cJ aQ b13] := by rw [eb13]; exact hD
        obtain ⟨z14, ez14, hf⟩ := elet_out hf
        refine lv_iinc (v := z14) (lv' := [(3, .int z14), (2, .int z11), (0, .ref (aQ 0)), (1, .ref (aL 0))]) hx hb dX1_boundPlates_68 hl (k := 3) rfl (by rw [ez14]; rfl) (by decide) rfl (fun ls hl => ?_)
        refine lv_goto (tgt := 47) hx hb dX1_boundPlates_71 (by decide) ?_
        exact (hWW _ _ _ _ _ _ _).1 (hk47 b13 z11 z14 H locs ls hP hD hS (lv_sub hl [2, 3, 1, 0] rfl) hf)
  have L4 : ∀ (n : Nat) (vQ : BX1) (x2 : Int32) (x3 : Int32) (H : Heap) (locs : List Loc) (ls : Array Slot), va_P (dC, dI) vwCl [k0_0 aL vL, k0_1 cI aL vL, k0_2 cI aL vL, k0_3 cI aL vL, k0_4 cI aL vL, k1_0 aQ vQ, k1_1 cJ aQ vQ, k1_2 cI aQ vQ, k1_3 cI aQ vQ, k1_4 cI aQ vQ, k1_5 cJ aQ vQ, k1_6 cJ aQ vQ, k1_7 cJ aQ vQ, k1_8 cJ aQ vQ, k1_9 cJ aQ vQ] H → va_D A [k0_0 aL vL, k0_1 cI aL vL, k0_2 cI aL vL, k0_3 cI aL vL, k0_4 cI aL vL, k1_0 aQ vQ, k1_1 cJ aQ vQ, k1_2 cI aQ vQ, k1_3 cI aQ vQ, k1_4 cI aQ vQ, k1_5 cJ aQ vQ, k1_6 cJ aQ vQ, k1_7 cJ aQ vQ, k1_8 cJ aQ vQ, k1_9 cJ aQ vQ] → va_S A s.heap H locs → lv_has ls 4 [(0, .ref (aQ 0)), (1, .ref (aL 0)), (2, .int x2), (3, .int x3)] → fX1_boundPlates_4 n vL vQ x2 x3 = some y → WW H locs 0 0 ls 4 [] := by
    intro n
    induction n with
    | zero =>
      intro vQ x2 x3 H locs ls hP hD hS hl hf
      exact onone hf
    | succ n ih =>
      intro vQ x2 x3 H locs ls hP hD hS hl hf
      have hf : fX1_boundPlates_4_b (fX1_boundPlates_4 n) vL vQ x2 x3 = some y := hf
      generalize fX1_boundPlates_4 n = k4 at hf ih
      have hk4 := ih
      clear ih
      unfold fX1_boundPlates_4_b at hf
      refine (hWW _ _ _ _ _ _ _).2 ?_
      refine lv_iload_n hx hb dX1_boundPlates_4 rfl (lv_at hl 3 rfl) ?_
      refine lv_aload_n hx hb dX1_boundPlates_5 rfl (lv_at hl 1 rfl) ?_
      refine va_get (D := (dC, dI)) (ci := 0) (v := .int (p0_plates vL)) (C := RX0) (T := TX0) (N := 6) hx hb hts hiX0 hown hK hP 0 rfl rfl 1 (by decide) hgX0_74 (fun _ h9 => h9) rfl dX1_boundPlates_6 ?_
      refine lv_icmp_ge (tgt := 35) hx hb dX1_boundPlates_9 (by decide) (fun c1 => ?_) (fun c1 => ?_)
      · have hf := oif_t c1 hf
        refine lv_aload_n hx hb dX1_boundPlates_35 rfl (lv_at hl 1 rfl) ?_
        refine va_get (D := (dC, dI)) (ci := 0) (v := .int (p0_width vL)) (C := RX0) (T := TX0) (N := 6) hx hb hts hiX0 hown hK hP 0 rfl rfl 0 (by decide) hgX0_102 (fun _ h9 => h9) rfl dX1_boundPlates_36 ?_
        obtain ⟨z2, ez2, hf⟩ := elet_out hf
        refine lvn_i ez2 ?_
        refine lv_istore_n (lv' := [(2, .int z2), (0, .ref (aQ 0)), (1, .ref (aL 0)), (3, .int x3)]) hx hb dX1_boundPlates_39 rfl hl (by decide) rfl (fun ls hl => ?_)
        refine lv_aload_n hx hb dX1_boundPlates_40 rfl (lv_at hl 2 rfl) ?_
        refine va_get (D := (dC, dI)) (ci := 0) (v := .int (p0_plates vL)) (C := RX0) (T := TX0) (N := 6) hx hb hts hiX0 hown hK hP 0 rfl rfl 1 (by decide) hgX0_74 (fun _ h9 => h9) rfl dX1_boundPlates_41 ?_
        refine lv_iconst (v := 1) hx hb dX1_boundPlates_44 (by decide) ?_
        refine lv_isub hx hb dX1_boundPlates_45 ?_
        obtain ⟨z3, ez3, hf⟩ := elet_out hf
        refine lvn_i ez3 ?_
        refine lv_istore_n (lv' := [(3, .int z3), (2, .int z2), (0, .ref (aQ 0)), (1, .ref (aL 0))]) hx hb dX1_boundPlates_46 rfl hl (by decide) rfl (fun ls hl => ?_)
        exact (hWW _ _ _ _ _ _ _).1 (L47 FU vQ z2 z3 H locs ls hP hD hS (lv_sub hl [2, 3, 1, 0] rfl) hf)
      · have hf := oif_f c1 hf
        refine lv_iload_n hx hb dX1_boundPlates_12 rfl (lv_at hl 2 rfl) ?_
        refine lv_aload_n hx hb dX1_boundPlates_13 rfl (lv_at hl 1 rfl) ?_
        refine lv_iload_n hx hb dX1_boundPlates_14 rfl (lv_at hl 3 rfl) ?_
        obtain ⟨y4, hy4, hf⟩ := obind hf
        refine cg_i (ws := [k0_0 aL vL, k0_1 cI aL vL, k0_2 cI aL vL, k0_3 cI aL vL, k0_4 cI aL vL, k1_0 aQ vQ, k1_1 cJ aQ vQ, k1_2 cI aQ vQ, k1_3 cI aQ vQ, k1_4 cI aQ vQ, k1_5 cJ aQ vQ, k1_6 cJ aQ vQ, k1_7 cJ aQ vQ, k1_8 cJ aQ vQ, k1_9 cJ aQ vQ]) (wc := [k0_0 aL vL, k0_1 cI aL vL, k0_2 cI aL vL, k0_3 cI aL vL, k0_4 cI aL vL]) (wr := [k1_0 aQ vQ, k1_1 cJ aQ vQ, k1_2 cI aQ vQ, k1_3 cI aQ vQ, k1_4 cI aQ vQ, k1_5 cJ aQ vQ, k1_6 cJ aQ vQ, k1_7 cJ aQ vQ, k1_8 cJ aQ vQ, k1_9 cJ aQ vQ]) (w1 := [k0_0 aL vL, k0_1 cI aL vL, k0_2 cI aL vL, k0_3 cI aL vL, k0_4 cI aL vL]) (wo := [k0_0 aL vL, k0_1 cI aL vL, k0_2 cI aL vL, k0_3 cI aL vL, k0_4 cI aL vL, k1_0 aQ vQ, k1_1 cJ aQ vQ, k1_2 cI aQ vQ, k1_3 cI aQ vQ, k1_4 cI aQ vQ, k1_5 cJ aQ vQ, k1_6 cJ aQ vQ, k1_7 cJ aQ vQ, k1_8 cJ aQ vQ, k1_9 cJ aQ vQ]) hP hD hS hA (va_runV (As := [.int x3]) (rest := [.int x2]) ⟨hx, hb, hml, hown, hts⟩ (mX0_leftBoundOf l dC dI cI cJ aL H.size vL x3 y4 hy4) (cwV 1 hts gX1_boundPlates_X0_leftBoundOf rfl rfl rfl (by decide +kernel) ⟨Nat.le_of_ble_eq_true rfl, Nat.le_of_ble_eq_true rfl⟩) ⟨cFB, va_recv hK hP (ci := 0) (q0 := 0) rfl rfl, cPre hK hN hS (va_free (wc := [k0_0 aL vL, k0_1 cI aL vL, k0_2 cI aL vL, k0_3 cI aL vL, k0_4 cI aL vL]) hD hS hA [0, 1, 2, 3, 4] rfl) (hP.sub [0, 1, 2, 3, 4] rfl) (hD.sub [0, 1, 2, 3, 4] rfl rfl)⟩ rfl rfl hl.1 rfl (lv_room (Nat.le_of_ble_eq_true rfl)) dX1_boundPlates_15 ⟨Nat.le_of_ble_eq_true rfl, Nat.le_of_ble_eq_true rfl⟩) [0, 1, 2, 3, 4] [5, 6, 7, 8, 9, 10, 11, 12, 13, 14] [10, 11, 12, 13, 14, 0, 1, 2, 3, 4, 5, 6, 7, 8, 9] rfl rfl rfl (by decide +kernel) rfl rfl (fun H locs hP hD hS => ?_)
        refine va_mmax hx hb (hml.trans hl.1.symm) hown (hts (.methodLink RX1 99 Lib.Math.max.name) (by decide +kernel)) (hts (.static Lib.Math.max.name) (by decide +kernel)) (hts (.initialized "java/lang/Math") (by decide +kernel)) (hts (.code Lib.Math.max.name Lib.Math.max.code 2 (some .int)) (by decide +kernel)) (Nat.le_of_ble_eq_true rfl) (Nat.le_of_ble_eq_true rfl) (Nat.le_of_ble_eq_true rfl) (Nat.le_of_ble_eq_true rfl) dX1_boundPlates_18 ?_
        obtain ⟨z5, ez5, hf⟩ := elet_out hf
        refine lvn_i ez5 ?_
        refine lv_istore_n (lv' := [(2, .int z5), (0, .ref (aQ 0)), (1, .ref (aL 0)), (3, .int x3)]) hx hb dX1_boundPlates_21 rfl hl (by decide) rfl (fun ls hl => ?_)
        refine lv_aload_n hx hb dX1_boundPlates_22 rfl (lv_at hl 1 rfl) ?_
        refine va_get (D := (dC, dI)) (ci := 1) (v := .ref (aQ 2)) (C := RX1) (T := TX1) (N := 10) hx hb hts hiX1 hown hK hP 5 rfl rfl 2 (by decide) hgX1_19 (fun _ h9 => h9) rfl dX1_boundPlates_23 ?_
        refine lv_iload_n hx hb dX1_boundPlates_26 rfl (lv_at hl 3 rfl) ?_
        refine lv_iload_n hx hb dX1_boundPlates_27 rfl (lv_at hl 0 rfl) ?_
        obtain ⟨hi6, hf⟩ := oinb rfl hf
        obtain ⟨b7, eb7, hf⟩ := elet_out hf
        refine va_iast hx hb hK hP hD hS 7 0 rfl rfl hi6 dX1_boundPlates_28 (fun H locs hP hD hS => ?_)
        have hP : va_P (dC, dI) vwCl [k0_0 aL vL, k0_1 cI aL vL, k0_2 cI aL vL, k0_3 cI aL vL, k0_4 cI aL vL, k1_0 aQ b7, k1_1 cJ aQ b7, k1_2 cI aQ b7, k1_3 cI aQ b7, k1_4 cI aQ b7, k1_5 cJ aQ b7, k1_6 cJ aQ b7, k1_7 cJ aQ b7, k1_8 cJ aQ b7, k1_9 cJ aQ b7] H := by rw [eb7]; exact hP
        have hD : va_D A [k0_0 aL vL, k0_1 cI aL vL, k0_2 cI aL vL, k0_3 cI aL vL, k0_4 cI aL vL, k1_0 aQ b7, k1_1 cJ aQ b7, k1_2 cI aQ b7, k1_3 cI aQ b7, k1_4 cI aQ b7, k1_5 cJ aQ b7, k1_6 cJ aQ b7, k1_7 cJ aQ b7, k1_8 cJ aQ b7, k1_9 cJ aQ b7] := by rw [eb7]; exact hD
        obtain ⟨z8, ez8, hf⟩ := elet_out hf
        refine lv_iinc (v := z8) (lv' := [(3, .int z8), (2, .int z5), (0, .ref (aQ 0)), (1, .ref (aL 0))]) hx hb dX1_boundPlates_29 hl (k := 3) rfl (by rw [ez8]; rfl) (by decide) rfl (fun ls hl => ?_)
        refine lv_goto (tgt := 4) hx hb dX1_boundPlates_32 (by decide) ?_
        exact (hWW _ _ _ _ _ _ _).1 (hk4 b7 z5 z8 H locs ls hP hD hS (lv_sub hl [2, 3, 1, 0] rfl) hf)
  refine (hWW _ _ _ _ _ _ _).2 ?_
  unfold fX1_boundPlates at hf
  refine lv_iconst (v := 0) hx hb dX1_boundPlates_0 (by decide) ?_
  refine lv_istore_n (lv' := [(2, .int 0), (0, .ref (aQ 0)), (1, .ref (aL 0))]) hx hb dX1_boundPlates_1 rfl hl (by decide) rfl (fun ls hl => ?_)
  refine lv_iconst (v := 0) hx hb dX1_boundPlates_2 (by decide) ?_
  refine lv_istore_n (lv' := [(3, .int 0), (2, .int 0), (0, .ref (aQ 0)), (1, .ref (aL 0))]) hx hb dX1_boundPlates_3 rfl hl (by decide) rfl (fun ls hl => ?_)
  exact (hWW _ _ _ _ _ _ _).1 (L4 FU vQ (0 : Int32) (0 : Int32) H locs ls hP hD hS (lv_sub hl [2, 3, 1, 0] rfl) hf)
def fX1_takeGuess_2_b (k2 : BX0 → BX1 → Int32 → Int32 → Option BX1) (vL : BX0) (vQ : BX1) (x2 : Int32) (x3 : Int32) : Option BX1 :=
  if (p0_plates vL) ≤ x3 then (some vQ) else (if inB x3 4 = true then (elet (s1_holds vQ (upd (p1_holds vQ) (x3).toNatClampNeg ((x2 >>> (((2 : Int32) * x3) &&& 31)) &&& (3 : Int32)))) (fun b3 => elet (x3 + 1) (fun z4 => k2 vL b3 x2 z4))) else none)
def fX1_takeGuess_2 : Nat → BX0 → BX1 → Int32 → Int32 → Option BX1
  | 0 => fun _ _ _ _ => none
  | n + 1 => fX1_takeGuess_2_b (fX1_takeGuess_2 n)
def fX1_takeGuess (vL : BX0) (vQ : BX1) (i2 : Int32) : Option BX1 :=
  fX1_takeGuess_2 FU vL vQ i2 (0 : Int32)
set_option maxHeartbeats 8000000 in
set_option maxRecDepth 100000 in
theorem mX1_takeGuess (l : Launch) (dC : Nat → ClassId) (dI : Nat → Nat → Nat) (cI cJ : ClassId) (aL : Nat → Nat) (aQ : Nat → Nat) (sz : Nat) (vL : BX0) (vQ : BX1) (i2 : Int32) (y : BX1) (hf : fX1_takeGuess vL vQ i2 = some y) : Met l yX1_takeGuess wsX1_takeGuess ({ frames := 0, cells := 0, slots := 0, locals := 0 }) (cPc dC dI cI cJ [.ref (aQ 0), .ref (aL 0), .int i2] [k0_0 aL vL, k0_1 cI aL vL, k0_2 cI aL vL, k0_3 cI aL vL, k0_4 cI aL vL, k1_0 aQ vQ, k1_1 cJ aQ vQ, k1_2 cI aQ vQ, k1_3 cI aQ vQ, k1_4 cI aQ vQ, k1_5 cJ aQ vQ, k1_6 cJ aQ vQ, k1_7 cJ aQ vQ, k1_8 cJ aQ vQ, k1_9 cJ aQ vQ] sz) (va_Qv (fun (_ : Unit) => True) (fun _ t => cB dC dI (va_A [k0_0 aL vL, k0_1 cI aL vL, k0_2 cI aL vL, k0_3 cI aL vL, k0_4 cI aL vL, k1_0 aQ vQ, k1_1 cJ aQ vQ, k1_2 cI aQ vQ, k1_3 cI aQ vQ, k1_4 cI aQ vQ, k1_5 cJ aQ vQ, k1_6 cJ aQ vQ, k1_7 cJ aQ vQ, k1_8 cJ aQ vQ, k1_9 cJ aQ vQ] sz) [k0_0 aL vL, k0_1 cI aL vL, k0_2 cI aL vL, k0_3 cI aL vL, k0_4 cI aL vL, k1_0 aQ y, k1_1 cJ aQ y, k1_2 cI aQ y, k1_3 cI aQ y, k1_4 cI aQ y, k1_5 cJ aQ y, k1_6 cJ aQ y, k1_7 cJ aQ y, k1_8 cJ aQ y, k1_9 cJ aQ y] t) (va_A [k0_0 aL vL, k0_1 cI aL vL, k0_2 cI aL vL, k0_3 cI aL vL, k0_4 cI aL vL, k1_0 aQ vQ, k1_1 cJ aQ vQ, k1_2 cI aQ vQ, k1_3 cI aQ vQ, k1_4 cI aQ vQ, k1_5 cJ aQ vQ, k1_6 cJ aQ vQ, k1_7 cJ aQ vQ, k1_8 cJ aQ vQ, k1_9 cJ aQ vQ] sz)) 0 0 (va_A [k0_0 aL vL, k0_1 cI aL vL, k0_2 cI aL vL, k0_3 cI aL vL, k0_4 cI aL vL, k1_0 aQ vQ, k1_1 cJ aQ vQ, k1_2 cI aQ vQ, k1_3 cI aQ vQ, k1_4 cI aQ vQ, k1_5 cJ aQ vQ, k1_6 cJ aQ vQ, k1_7 cJ aQ vQ, k1_8 cJ aQ vQ, k1_9 cJ aQ vQ] sz) := by
  refine Met.ofW (cc := cX1_takeGuess) (maxL := 4) (ret := none) (by decide) rfl ?_
  intro p e s m args below meth c s₁ B hml hv
  obtain ⟨rfl, hsz, hP, hK, hD0, hN⟩ := hv
  have hx := B.exec
  have hb := B.bytes
  have hr := B.returns
  have hts := atoms_spec (ws := wsX1_takeGuess) B.pre
  have hown : s.vm.findClass RX1 = some m.cls := findClass_of_methodNamed B.named
  have hlocks := B.notSynchronized
  subst hsz
  have hD := hD0.self (sz := s.heap.size)
  generalize hAe : va_A [k0_0 aL vL, k0_1 cI aL vL, k0_2 cI aL vL, k0_3 cI aL vL, k0_4 cI aL vL, k1_0 aQ vQ, k1_1 cJ aQ vQ, k1_2 cI aQ vQ, k1_3 cI aQ vQ, k1_4 cI aQ vQ, k1_5 cJ aQ vQ, k1_6 cJ aQ vQ, k1_7 cJ aQ vQ, k1_8 cJ aQ vQ, k1_9 cJ aQ vQ] s.heap.size = A at hD hN ⊢
  have hA : ∀ q : Nat, s.heap.size ≤ q → A q := fun q h => by rw [← hAe]; exact Or.inr h
  have hP : va_P (dC, dI) vwCl [k0_0 aL vL, k0_1 cI aL vL, k0_2 cI aL vL, k0_3 cI aL vL, k0_4 cI aL vL, k1_0 aQ vQ, k1_1 cJ aQ vQ, k1_2 cI aQ vQ, k1_3 cI aQ vQ, k1_4 cI aQ vQ, k1_5 cJ aQ vQ, k1_6 cJ aQ vQ, k1_7 cJ aQ vQ, k1_8 cJ aQ vQ, k1_9 cJ aQ vQ] s.heap := hP
  have hl := lv_entry ([.ref (aQ 0), .ref (aL 0), .int i2]) (n := 4) (Nat.le_of_ble_eq_true rfl)
  rw [lg_entry_eq]
  generalize (lg_sl ([.ref (aQ 0), .ref (aL 0), .int i2]) ++ List.replicate (4 - (lg_sl ([.ref (aQ 0), .ref (aL 0), .int i2])).length) Slot.unset).toArray = ls at hl ⊢
  have hl : lv_has ls 4 [(0, .ref (aQ 0)), (1, .ref (aL 0)), (2, .int i2)] := hl
  have hiX0 : ∀ w ∈ u_ws RX0 TX0 6, w ∈ wsX1_takeGuess := by decide +kernel
  have hgX0_74 := hts (.fieldLink RX1 74 "SpringPlates$Layout" "plates" "I") (by decide +kernel)
  have hiX1 : ∀ w ∈ u_ws RX1 TX1 10, w ∈ wsX1_takeGuess := by decide +kernel
  have hgX1_26 := hts (.fieldLink RX1 26 "SpringPlates$Rest" "holds" "[I") (by decide +kernel)
  refine nameH (fun H locs hHe hLe => ?_)
  have hP : va_P (dC, dI) vwCl [k0_0 aL vL, k0_1 cI aL vL, k0_2 cI aL vL, k0_3 cI aL vL, k0_4 cI aL vL, k1_0 aQ vQ, k1_1 cJ aQ vQ, k1_2 cI aQ vQ, k1_3 cI aQ vQ, k1_4 cI aQ vQ, k1_5 cJ aQ vQ, k1_6 cJ aQ vQ, k1_7 cJ aQ vQ, k1_8 cJ aQ vQ, k1_9 cJ aQ vQ] H := by rw [hHe]; exact hP
  have hS : va_S A s.heap H locs := by rw [hHe, hLe]; exact va_S.rf
  refine withW (fun WW hWW => ?_)
  have L2 : ∀ (n : Nat) (vQ : BX1) (x2 : Int32) (x3 : Int32) (H : Heap) (locs : List Loc) (ls : Array Slot), va_P (dC, dI) vwCl [k0_0 aL vL, k0_1 cI aL vL, k0_2 cI aL vL, k0_3 cI aL vL, k0_4 cI aL vL, k1_0 aQ vQ, k1_1 cJ aQ vQ, k1_2 cI aQ vQ, k1_3 cI aQ vQ, k1_4 cI aQ vQ, k1_5 cJ aQ vQ, k1_6 cJ aQ vQ, k1_7 cJ aQ vQ, k1_8 cJ aQ vQ, k1_9 cJ aQ vQ] H → va_D A [k0_0 aL vL, k0_1 cI aL vL, k0_2 cI aL vL, k0_3 cI aL vL, k0_4 cI aL vL, k1_0 aQ vQ, k1_1 cJ aQ vQ, k1_2 cI aQ vQ, k1_3 cI aQ vQ, k1_4 cI aQ vQ, k1_5 cJ aQ vQ, k1_6 cJ aQ vQ, k1_7 cJ aQ vQ, k1_8 cJ aQ vQ, k1_9 cJ aQ vQ] → va_S A s.heap H locs → lv_has ls 4 [(0, .ref (aQ 0)), (1, .ref (aL 0)), (2, .int x2), (3, .int x3)] → fX1_takeGuess_2 n vL vQ x2 x3 = some y → WW H locs 0 0 ls 2 [] := by
    intro n
    induction n with
    | zero =>
      intro vQ x2 x3 H locs ls hP hD hS hl hf
      exact onone hf
    | succ n ih =>
      intro vQ x2 x3 H locs ls hP hD hS hl hf
      have hf : fX1_takeGuess_2_b (fX1_takeGuess_2 n) vL vQ x2 x3 = some y := hf
      generalize fX1_takeGuess_2 n = k2 at hf ih
      have hk2 := ih
      clear ih
      unfold fX1_takeGuess_2_b at hf
      refine (hWW _ _ _ _ _ _ _).2 ?_
      refine lv_iload_n hx hb dX1_takeGuess_2 rfl (lv_at hl 3 rfl) ?_
      refine lv_aload_n hx hb dX1_takeGuess_3 rfl (lv_at hl 1 rfl) ?_
      refine va_get (D := (dC, dI)) (ci := 0) (v := .int (p0_plates vL)) (C := RX0) (T := TX0) (N := 6) hx hb hts hiX0 hown hK hP 0 rfl rfl 1 (by decide) hgX0_74 (fun _ h9 => h9) rfl dX1_takeGuess_4 ?_
      refine lv_icmp_ge (tgt := 29) hx hb dX1_takeGuess_7 (by decide) (fun c1 => ?_) (fun c1 => ?_)
      · have hf := oif_t c1 hf
        obtain rfl := Option.some.inj hf
        exact W.vret hx hb hr (fun t ht hW => ⟨⟨(), rfl, trivial, by rw [ht]; exact hP, hD⟩, hS.F ht⟩) hS.2.2 dX1_takeGuess_29
      · have hf := oif_f c1 hf
        refine lv_aload_n hx hb dX1_takeGuess_10 rfl (lv_at hl 0 rfl) ?_
        refine va_get (D := (dC, dI)) (ci := 1) (v := .ref (aQ 4)) (C := RX1) (T := TX1) (N := 10) hx hb hts hiX1 hown hK hP 5 rfl rfl 4 (by decide) hgX1_26 (fun _ h9 => h9) rfl dX1_takeGuess_11 ?_
        refine lv_iload_n hx hb dX1_takeGuess_14 rfl (lv_at hl 3 rfl) ?_
        refine lv_iload_n hx hb dX1_takeGuess_15 rfl (lv_at hl 2 rfl) ?_
        refine lv_iconst (v := 2) hx hb dX1_takeGuess_16 (by decide) ?_
        refine lv_iload_n hx hb dX1_takeGuess_17 rfl (lv_at hl 3 rfl) ?_
        refine lv_imul hx hb dX1_takeGuess_18 ?_
        refine lv_ishr hx hb dX1_takeGuess_19 ?_
        refine lv_iconst (v := 3) hx hb dX1_takeGuess_20 (by decide) ?_
        refine lv_iand hx hb dX1_takeGuess_21 ?_
        obtain ⟨hi2, hf⟩ := oinb rfl hf
        obtain ⟨b3, eb3, hf⟩ := elet_out hf
        refine va_iast hx hb hK hP hD hS 9 0 rfl rfl hi2 dX1_takeGuess_22 (fun H locs hP hD hS => ?_)
        have hP : va_P (dC, dI) vwCl [k0_0 aL vL, k0_1 cI aL vL, k0_2 cI aL vL, k0_3 cI aL vL, k0_4 cI aL vL, k1_0 aQ b3, k1_1 cJ aQ b3, k1_2 cI aQ b3, k1_3 cI aQ b3, k1_4 cI aQ b3, k1_5 cJ aQ b3, k1_6 cJ aQ b3, k1_7 cJ aQ b3, k1_8 cJ aQ b3, k1_9 cJ aQ b3] H := by rw [eb3]; exact hP
        have hD : va_D A [k0_0 aL vL, k0_1 cI aL vL, k0_2 cI aL vL, k0_3 cI aL vL, k0_4 cI aL vL, k1_0 aQ b3, k1_1 cJ aQ b3, k1_2 cI aQ b3, k1_3 cI aQ b3, k1_4 cI aQ b3, k1_5 cJ aQ b3, k1_6 cJ aQ b3, k1_7 cJ aQ b3, k1_8 cJ aQ b3, k1_9 cJ aQ b3] := by rw [eb3]; exact hD
        obtain ⟨z4, ez4, hf⟩ := elet_out hf
        refine lv_iinc (v := z4) (lv' := [(3, .int z4), (0, .ref (aQ 0)), (1, .ref (aL 0)), (2, .int x2)]) hx hb dX1_takeGuess_23 hl (k := 3) rfl (by rw [ez4]; rfl) (by decide) rfl (fun ls hl => ?_)
        refine lv_goto (tgt := 2) hx hb dX1_takeGuess_26 (by decide) ?_
        exact (hWW _ _ _ _ _ _ _).1 (hk2 b3 x2 z4 H locs ls hP hD hS (lv_sub hl [1, 2, 3, 0] rfl) hf)
  refine (hWW _ _ _ _ _ _ _).2 ?_
  unfold fX1_takeGuess at hf
  refine lv_iconst (v := 0) hx hb dX1_takeGuess_0 (by decide) ?_
  refine lv_istore_n (lv' := [(3, .int 0), (0, .ref (aQ 0)), (1, .ref (aL 0)), (2, .int i2)]) hx hb dX1_takeGuess_1 rfl hl (by decide) rfl (fun ls hl => ?_)
  exact (hWW _ _ _ _ _ _ _).1 (L2 FU vQ i2 (0 : Int32) H locs ls hP hD hS (lv_sub hl [1, 2, 3, 0] rfl) hf)
def fX1_putPlate (vQ : BX1) (i1 : Int32) (j2 : Int64) (j4 : Int64) (j6 : Int64) : Option BX1 :=
  if inB i1 4 = true then (elet (s1_constants vQ (vp_updL (p1_constants vQ) (i1).toNatClampNeg j2)) (fun b2 => if inB i1 4 = true then (elet (s1_slopes b2 (vp_updL (p1_slopes b2) (i1).toNatClampNeg j4)) (fun b4 => if inB i1 4 = true then (elet (s1_divisors b4 (vp_updL (p1_divisors b4) (i1).toNatClampNeg j6)) (fun b6 => some b6)) else none)) else none)) else none
set_option maxHeartbeats 8000000 in
set_option maxRecDepth 100000 in
theorem mX1_putPlate (l : Launch) (dC : Nat → ClassId) (dI : Nat → Nat → Nat) (cI cJ : ClassId) (aQ : Nat → Nat) (sz : Nat) (vQ : BX1) (i1 : Int32) (j2 : Int64) (j4 : Int64) (j6 : Int64) (y : BX1) (hf : fX1_putPlate vQ i1 j2 j4 j6 = some y) : Met l yX1_putPlate wsX1_putPlate ({ frames := 0, cells := 0, slots := 0, locals := 0 }) (cPc dC dI cI cJ [.ref (aQ 0), .int i1, .long j2, .long j4, .long j6] [k1_0 aQ vQ, k1_1 cJ aQ vQ, k1_2 cI aQ vQ, k1_3 cI aQ vQ, k1_4 cI aQ vQ, k1_5 cJ aQ vQ, k1_6 cJ aQ vQ, k1_7 cJ aQ vQ, k1_8 cJ aQ vQ, k1_9 cJ aQ vQ] sz) (va_Qv (fun (_ : Unit) => True) (fun _ t => cB dC dI (va_A [k1_0 aQ vQ, k1_1 cJ aQ vQ, k1_2 cI aQ vQ, k1_3 cI aQ vQ, k1_4 cI aQ vQ, k1_5 cJ aQ vQ, k1_6 cJ aQ vQ, k1_7 cJ aQ vQ, k1_8 cJ aQ vQ, k1_9 cJ aQ vQ] sz) [k1_0 aQ y, k1_1 cJ aQ y, k1_2 cI aQ y, k1_3 cI aQ y, k1_4 cI aQ y, k1_5 cJ aQ y, k1_6 cJ aQ y, k1_7 cJ aQ y, k1_8 cJ aQ y, k1_9 cJ aQ y] t) (va_A [k1_0 aQ vQ, k1_1 cJ aQ vQ, k1_2 cI aQ vQ, k1_3 cI aQ vQ, k1_4 cI aQ vQ, k1_5 cJ aQ vQ, k1_6 cJ aQ vQ, k1_7 cJ aQ vQ, k1_8 cJ aQ vQ, k1_9 cJ aQ vQ] sz)) 0 0 (va_A [k1_0 aQ vQ, k1_1 cJ aQ vQ, k1_2 cI aQ vQ, k1_3 cI aQ vQ, k1_4 cI aQ vQ, k1_5 cJ aQ vQ, k1_6 cJ aQ vQ, k1_7 cJ aQ vQ, k1_8 cJ aQ vQ, k1_9 cJ aQ vQ] sz) := by
  refine Met.ofW (cc := cX1_putPlate) (maxL := 8) (ret := none) (by decide) rfl ?_
  intro p e s m args below meth c s₁ B hml hv
  obtain ⟨rfl, hsz, hP, hK, hD0, hN⟩ := hv
  have hx := B.exec
  have hb := B.bytes
  have hr := B.returns
  have hts := atoms_spec (ws := wsX1_putPlate) B.pre
  have hown : s.vm.findClass RX1 = some m.cls := findClass_of_methodNamed B.named
  have hlocks := B.notSynchronized
  subst hsz
  have hD := hD0.self (sz := s.heap.size)
  generalize hAe : va_A [k1_0 aQ vQ, k1_1 cJ aQ vQ, k1_2 cI aQ vQ, k1_3 cI aQ vQ, k1_4 cI aQ vQ, k1_5 cJ aQ vQ, k1_6 cJ aQ vQ, k1_7 cJ aQ vQ, k1_8 cJ aQ vQ, k1_9 cJ aQ vQ] s.heap.size = A at hD hN ⊢
  have hA : ∀ q : Nat, s.heap.size ≤ q → A q := fun q h => by rw [← hAe]; exact Or.inr h
  have hP : va_P (dC, dI) vwCl [k1_0 aQ vQ, k1_1 cJ aQ vQ, k1_2 cI aQ vQ, k1_3 cI aQ vQ, k1_4 cI aQ vQ, k1_5 cJ aQ vQ, k1_6 cJ aQ vQ, k1_7 cJ aQ vQ, k1_8 cJ aQ vQ, k1_9 cJ aQ vQ] s.heap := hP
  have hl := lv_entry ([.ref (aQ 0), .int i1, .long j2, .long j4, .long j6]) (n := 8) (Nat.le_of_ble_eq_true rfl)
  rw [lg_entry_eq]
  generalize (lg_sl ([.ref (aQ 0), .int i1, .long j2, .long j4, .long j6]) ++ List.replicate (8 - (lg_sl ([.ref (aQ 0), .int i1, .long j2, .long j4, .long j6])).length) Slot.unset).toArray = ls at hl ⊢
  have hl : lv_has ls 8 [(0, .ref (aQ 0)), (1, .int i1), (2, .long j2), (4, .long j4), (6, .long j6)] := hl
  have hiX1 : ∀ w ∈ u_ws RX1 TX1 10, w ∈ wsX1_putPlate := by decide +kernel
  have hgX1_29 := hts (.fieldLink RX1 29 "SpringPlates$Rest" "constants" "[J") (by decide +kernel)
  have hgX1_32 := hts (.fieldLink RX1 32 "SpringPlates$Rest" "slopes" "[J") (by decide +kernel)
  have hgX1_35 := hts (.fieldLink RX1 35 "SpringPlates$Rest" "divisors" "[J") (by decide +kernel)
  refine nameH (fun H locs hHe hLe => ?_)
  have hP : va_P (dC, dI) vwCl [k1_0 aQ vQ, k1_1 cJ aQ vQ, k1_2 cI aQ vQ, k1_3 cI aQ vQ, k1_4 cI aQ vQ, k1_5 cJ aQ vQ, k1_6 cJ aQ vQ, k1_7 cJ aQ vQ, k1_8 cJ aQ vQ, k1_9 cJ aQ vQ] H := by rw [hHe]; exact hP
  have hS : va_S A s.heap H locs := by rw [hHe, hLe]; exact va_S.rf
  unfold fX1_putPlate at hf
  refine lv_aload_n hx hb dX1_putPlate_0 rfl (lv_at hl 0 rfl) ?_
  refine va_get (D := (dC, dI)) (ci := 1) (v := .ref (aQ 5)) (C := RX1) (T := TX1) (N := 10) hx hb hts hiX1 hown hK hP 0 rfl rfl 5 (by decide) hgX1_29 (fun _ h9 => h9) rfl dX1_putPlate_1 ?_
  refine lv_iload_n hx hb dX1_putPlate_4 rfl (lv_at hl 1 rfl) ?_
  refine lv_lload_n hx hb dX1_putPlate_5 rfl (lv_at hl 2 rfl) ?_
  obtain ⟨hi1, hf⟩ := oinb rfl hf
  obtain ⟨b2, eb2, hf⟩ := elet_out hf
  refine va_last hx hb hK hP hD hS 5 1 rfl rfl hi1 dX1_putPlate_6 (fun H locs hP hD hS => ?_)
  have hP : va_P (dC, dI) vwCl [k1_0 aQ b2, k1_1 cJ aQ b2, k1_2 cI aQ b2, k1_3 cI aQ b2, k1_4 cI aQ b2, k1_5 cJ aQ b2, k1_6 cJ aQ b2, k1_7 cJ aQ b2, k1_8 cJ aQ b2, k1_9 cJ aQ b2] H := by rw [eb2]; exact hP
  have hD : va_D A [k1_0 aQ b2, k1_1 cJ aQ b2, k1_2 cI aQ b2, k1_3 cI aQ b2, k1_4 cI aQ b2, k1_5 cJ aQ b2, k1_6 cJ aQ b2, k1_7 cJ aQ b2, k1_8 cJ aQ b2, k1_9 cJ aQ b2] := by rw [eb2]; exact hD
  refine lv_aload_n hx hb dX1_putPlate_7 rfl (lv_at hl 0 rfl) ?_
  refine va_get (D := (dC, dI)) (ci := 1) (v := .ref (aQ 6)) (C := RX1) (T := TX1) (N := 10) hx hb hts hiX1 hown hK hP 0 rfl rfl 6 (by decide) hgX1_32 (fun _ h9 => h9) rfl dX1_putPlate_8 ?_
  refine lv_iload_n hx hb dX1_putPlate_11 rfl (lv_at hl 1 rfl) ?_
  refine lv_lload hx hb dX1_putPlate_12 (lv_at hl 3 rfl) ?_
  obtain ⟨hi3, hf⟩ := oinb rfl hf
  obtain ⟨b4, eb4, hf⟩ := elet_out hf
  refine va_last hx hb hK hP hD hS 6 1 rfl rfl hi3 dX1_putPlate_14 (fun H locs hP hD hS => ?_)
  have hP : va_P (dC, dI) vwCl [k1_0 aQ b4, k1_1 cJ aQ b4, k1_2 cI aQ b4, k1_3 cI aQ b4, k1_4 cI aQ b4, k1_5 cJ aQ b4, k1_6 cJ aQ b4, k1_7 cJ aQ b4, k1_8 cJ aQ b4, k1_9 cJ aQ b4] H := by rw [eb4]; exact hP
  have hD : va_D A [k1_0 aQ b4, k1_1 cJ aQ b4, k1_2 cI aQ b4, k1_3 cI aQ b4, k1_4 cI aQ b4, k1_5 cJ aQ b4, k1_6 cJ aQ b4, k1_7 cJ aQ b4, k1_8 cJ aQ b4, k1_9 cJ aQ b4] := by rw [eb4]; exact hD
  refine lv_aload_n hx hb dX1_putPlate_15 rfl (lv_at hl 0 rfl) ?_
  refine va_get (D := (dC, dI)) (ci := 1) (v := .ref (aQ 7)) (C := RX1) (T := TX1) (N := 10) hx hb hts hiX1 hown hK hP 0 rfl rfl 7 (by decide) hgX1_35 (fun _ h9 => h9) rfl dX1_putPlate_16 ?_
  refine lv_iload_n hx hb dX1_putPlate_19 rfl (lv_at hl 1 rfl) ?_
  refine lv_lload hx hb dX1_putPlate_20 (lv_at hl 4 rfl) ?_
  obtain ⟨hi5, hf⟩ := oinb rfl hf
  obtain ⟨b6, eb6, hf⟩ := elet_out hf
  refine va_last hx hb hK hP hD hS 7 1 rfl rfl hi5 dX1_putPlate_22 (fun H locs hP hD hS => ?_)
  have hP : va_P (dC, dI) vwCl [k1_0 aQ b6, k1_1 cJ aQ b6, k1_2 cI aQ b6, k1_3 cI aQ b6, k1_4 cI aQ b6, k1_5 cJ aQ b6, k1_6 cJ aQ b6, k1_7 cJ aQ b6, k1_8 cJ aQ b6, k1_9 cJ aQ b6] H := by rw [eb6]; exact hP
  have hD : va_D A [k1_0 aQ b6, k1_1 cJ aQ b6, k1_2 cI aQ b6, k1_3 cI aQ b6, k1_4 cI aQ b6, k1_5 cJ aQ b6, k1_6 cJ aQ b6, k1_7 cJ aQ b6, k1_8 cJ aQ b6, k1_9 cJ aQ b6] := by rw [eb6]; exact hD
  obtain rfl := Option.some.inj hf
  exact W.vret hx hb hr (fun t ht hW => ⟨⟨(), rfl, trivial, by rw [ht]; exact hP, hD⟩, hS.F ht⟩) hS.2.2 dX1_putPlate_23
def fX1_expressPlaces_204 (k13 : BX0 → BX1 → Int32 → Int64 → Int64 → Int64 → Int32 → Option BX1) (vL : BX0) (vQ : BX1) (x2 : Int32) (l3 : Int64) (l5 : Int64) (l7 : Int64) (x9 : Int32) : Option BX1 :=
  elet (x9 + 1) (fun z24 => k13 vL vQ x2 l3 l5 l7 z24)
def fX1_expressPlaces_188 (k13 : BX0 → BX1 → Int32 → Int64 → Int64 → Int64 → Int32 → Option BX1) (vL : BX0) (vQ : BX1) (l3 : Int64) (l5 : Int64) (l7 : Int64) (x9 : Int32) : Option BX1 :=
  (fX1_putPlate vQ x9 l3 l5 l7).bind (fun y22 => elet (x9 + (1 : Int32)) (fun z23 => fX1_expressPlaces_204 k13 vL y22 z23 l3 l5 l7 x9))
def fX1_expressPlaces_181 (k13 : BX0 → BX1 → Int32 → Int64 → Int64 → Int64 → Int32 → Option BX1) (vL : BX0) (vQ : BX1) (x9 : Int32) (st0 : Int64) : Option BX1 :=
  fX1_expressPlaces_188 k13 vL vQ st0 (0 : Int64) (1 : Int64) x9
def fX1_expressPlaces_13_b (k13 : BX0 → BX1 → Int32 → Int64 → Int64 → Int64 → Int32 → Option BX1) (vL : BX0) (vQ : BX1) (x2 : Int32) (l3 : Int64) (l5 : Int64) (l7 : Int64) (x9 : Int32) : Option BX1 :=
  if (p0_plates vL) ≤ x9 then (some vQ) else (if inB x9 4 = true then (if ((p1_holds vQ) (x9).toNatClampNeg) = (3 : Int32) then ((fX1_putPlate vQ x9 (0 : Int64) (1 : Int64) (1 : Int64)).bind (fun y21 => fX1_expressPlaces_204 k13 vL y21 x2 l3 l5 l7 x9)) else (if inB x9 4 = true then (if ((p1_holds vQ) (x9).toNatClampNeg) = 0 then (if inB x2 5 = true then (elet ((((p0_strengths vL) (x2).toNatClampNeg)).toInt64) (fun z11 => if inB (x9 + (1 : Int32)) 5 = true then (elet ((((p0_strengths vL) ((x9 + (1 : Int32))).toNatClampNeg)).toInt64) (fun z13 => (fX0_sumOfLoads vL x2 x9).bind (fun y14 => if inB x2 5 = true then (if inB (x9 + (1 : Int32)) 5 = true then (elet (((y14).toInt64 + (z11 * (((p0_lengths vL) (x2).toNatClampNeg)).toInt64)) - (z13 * (((p0_lengths vL) ((x9 + (1 : Int32))).toNatClampNeg)).toInt64)) (fun z17 => elet ((l7 * z17) + (z11 * l3)) (fun z18 => elet (z13 * l7) (fun z19 => elet (((z11 + z13) * l7) - (z11 * l5)) (fun z20 => fX1_expressPlaces_188 k13 vL vQ z18 z19 z20 x9))))) else none) else none))) else none)) else none) else (if inB x9 4 = true then (if ((p1_holds vQ) (x9).toNatClampNeg) = (1 : Int32) then (if inB x9 4 = true then (fX1_expressPlaces_181 k13 vL vQ x9 ((((p1_lowest vQ) (x9).toNatClampNeg)).toInt64)) else none) else (if inB x2 4 = true then (fX1_expressPlaces_181 k13 vL vQ x9 ((((p1_highest vQ) (x2).toNatClampNeg)).toInt64)) else none)) else none)) else none)) else none)
def fX1_expressPlaces_13 : Nat → BX0 → BX1 → Int32 → Int64 → Int64 → Int64 → Int32 → Option BX1
  | 0 => fun _ _ _ _ _ _ _ => none
  | n + 1 => fX1_expressPlaces_13_b (fX1_expressPlaces_13 n)
def fX1_expressPlaces (vL : BX0) (vQ : BX1) : Option BX1 :=
  fX1_expressPlaces_13 FU vL vQ (0 : Int32) (0 : Int64) (0 : Int64) (1 : Int64) (0 : Int32)
set_option maxHeartbeats 8000000 in
set_option maxRecDepth 100000 in
theorem mX1_expressPlaces (l : Launch) (dC : Nat → ClassId) (dI : Nat → Nat → Nat) (cI cJ : ClassId) (aL : Nat → Nat) (aQ : Nat → Nat) (sz : Nat) (vL : BX0) (vQ : BX1) (y : BX1) (hf : fX1_expressPlaces vL vQ = some y) : Met l yX1_expressPlaces wsX1_expressPlaces ({ frames := 1, cells := 0, slots := 0, locals := 27 }) (cPc dC dI cI cJ [.ref (aQ 0), .ref (aL 0)] [k0_0 aL vL, k0_1 cI aL vL, k0_2 cI aL vL, k0_3 cI aL vL, k0_4 cI aL vL, k1_0 aQ vQ, k1_1 cJ aQ vQ, k1_2 cI aQ vQ, k1_3 cI aQ vQ, k1_4 cI aQ vQ, k1_5 cJ aQ vQ, k1_6 cJ aQ vQ, k1_7 cJ aQ vQ, k1_8 cJ aQ vQ, k1_9 cJ aQ vQ] sz) (va_Qv (fun (_ : Unit) => True) (fun _ t => cB dC dI (va_A [k0_0 aL vL, k0_1 cI aL vL, k0_2 cI aL vL, k0_3 cI aL vL, k0_4 cI aL vL, k1_0 aQ vQ, k1_1 cJ aQ vQ, k1_2 cI aQ vQ, k1_3 cI aQ vQ, k1_4 cI aQ vQ, k1_5 cJ aQ vQ, k1_6 cJ aQ vQ, k1_7 cJ aQ vQ, k1_8 cJ aQ vQ, k1_9 cJ aQ vQ] sz) [k0_0 aL vL, k0_1 cI aL vL, k0_2 cI aL vL, k0_3 cI aL vL, k0_4 cI aL vL, k1_0 aQ y, k1_1 cJ aQ y, k1_2 cI aQ y, k1_3 cI aQ y, k1_4 cI aQ y, k1_5 cJ aQ y, k1_6 cJ aQ y, k1_7 cJ aQ y, k1_8 cJ aQ y, k1_9 cJ aQ y] t) (va_A [k0_0 aL vL, k0_1 cI aL vL, k0_2 cI aL vL, k0_3 cI aL vL, k0_4 cI aL vL, k1_0 aQ vQ, k1_1 cJ aQ vQ, k1_2 cI aQ vQ, k1_3 cI aQ vQ, k1_4 cI aQ vQ, k1_5 cJ aQ vQ, k1_6 cJ aQ vQ, k1_7 cJ aQ vQ, k1_8 cJ aQ vQ, k1_9 cJ aQ vQ] sz)) 0 0 (va_A [k0_0 aL vL, k0_1 cI aL vL, k0_2 cI aL vL, k0_3 cI aL vL, k0_4 cI aL vL, k1_0 aQ vQ, k1_1 cJ aQ vQ, k1_2 cI aQ vQ, k1_3 cI aQ vQ, k1_4 cI aQ vQ, k1_5 cJ aQ vQ, k1_6 cJ aQ vQ, k1_7 cJ aQ vQ, k1_8 cJ aQ vQ, k1_9 cJ aQ vQ] sz) := by
  refine Met.ofW (cc := cX1_expressPlaces) (maxL := 18) (ret := none) (by decide) rfl ?_
  intro p e s m args below meth c s₁ B hml hv
  obtain ⟨rfl, hsz, hP, hK, hD0, hN⟩ := hv
  have hx := B.exec
  have hb := B.bytes
  have hr := B.returns
  have hts := atoms_spec (ws := wsX1_expressPlaces) B.pre
  have hown : s.vm.findClass RX1 = some m.cls := findClass_of_methodNamed B.named
  have hlocks := B.notSynchronized
  subst hsz
  have hD := hD0.self (sz := s.heap.size)
  generalize hAe : va_A [k0_0 aL vL, k0_1 cI aL vL, k0_2 cI aL vL, k0_3 cI aL vL, k0_4 cI aL vL, k1_0 aQ vQ, k1_1 cJ aQ vQ, k1_2 cI aQ vQ, k1_3 cI aQ vQ, k1_4 cI aQ vQ, k1_5 cJ aQ vQ, k1_6 cJ aQ vQ, k1_7 cJ aQ vQ, k1_8 cJ aQ vQ, k1_9 cJ aQ vQ] s.heap.size = A at hD hN ⊢
  have hA : ∀ q : Nat, s.heap.size ≤ q → A q := fun q h => by rw [← hAe]; exact Or.inr h
  have hP : va_P (dC, dI) vwCl [k0_0 aL vL, k0_1 cI aL vL, k0_2 cI aL vL, k0_3 cI aL vL, k0_4 cI aL vL, k1_0 aQ vQ, k1_1 cJ aQ vQ, k1_2 cI aQ vQ, k1_3 cI aQ vQ, k1_4 cI aQ vQ, k1_5 cJ aQ vQ, k1_6 cJ aQ vQ, k1_7 cJ aQ vQ, k1_8 cJ aQ vQ, k1_9 cJ aQ vQ] s.heap := hP
  have hl := lv_entry ([.ref (aQ 0), .ref (aL 0)]) (n := 18) (Nat.le_of_ble_eq_true rfl)
  rw [lg_entry_eq]
  generalize (lg_sl ([.ref (aQ 0), .ref (aL 0)]) ++ List.replicate (18 - (lg_sl ([.ref (aQ 0), .ref (aL 0)])).length) Slot.unset).toArray = ls at hl ⊢
  have hl : lv_has ls 18 [(0, .ref (aQ 0)), (1, .ref (aL 0))] := hl
  have hiX0 : ∀ w ∈ u_ws RX0 TX0 6, w ∈ wsX1_expressPlaces := by decide +kernel
  have hgX0_74 := hts (.fieldLink RX1 74 "SpringPlates$Layout" "plates" "I") (by decide +kernel)
  have hiX1 : ∀ w ∈ u_ws RX1 TX1 10, w ∈ wsX1_expressPlaces := by decide +kernel
  have hgX1_26 := hts (.fieldLink RX1 26 "SpringPlates$Rest" "holds" "[I") (by decide +kernel)
  have hgX1_23 := hts (.fieldLink RX1 23 "SpringPlates$Rest" "highest" "[I") (by decide +kernel)
  have hgX1_19 := hts (.fieldLink RX1 19 "SpringPlates$Rest" "lowest" "[I") (by decide +kernel)
  have hgX0_50 := hts (.fieldLink RX1 50 "SpringPlates$Layout" "strengths" "[I") (by decide +kernel)
  have hgX0_55 := hts (.fieldLink RX1 55 "SpringPlates$Layout" "lengths" "[I") (by decide +kernel)
  refine nameH (fun H locs hHe hLe => ?_)
  have hP : va_P (dC, dI) vwCl [k0_0 aL vL, k0_1 cI aL vL, k0_2 cI aL vL, k0_3 cI aL vL, k0_4 cI aL vL, k1_0 aQ vQ, k1_1 cJ aQ vQ, k1_2 cI aQ vQ, k1_3 cI aQ vQ, k1_4 cI aQ vQ, k1_5 cJ aQ vQ, k1_6 cJ aQ vQ, k1_7 cJ aQ vQ, k1_8 cJ aQ vQ, k1_9 cJ aQ vQ] H := by rw [hHe]; exact hP
  have hS : va_S A s.heap H locs := by rw [hHe, hLe]; exact va_S.rf
  refine withW (fun WW hWW => ?_)
  have J204 : ∀ (k13 : BX0 → BX1 → Int32 → Int64 → Int64 → Int64 → Int32 → Option BX1) (hk13 : ∀ (vQ : BX1) (x2 : Int32) (l3 : Int64) (l5 : Int64) (l7 : Int64) (x9 : Int32) (H : Heap) (locs : List Loc) (ls : Array Slot), va_P (dC, dI) vwCl [k0_0 aL vL, k0_1 cI aL vL, k0_2 cI aL vL, k0_3 cI aL vL, k0_4 cI aL vL, k1_0 aQ vQ, k1_1 cJ aQ vQ, k1_2 cI aQ vQ, k1_3 cI aQ vQ, k1_4 cI aQ vQ, k1_5 cJ aQ vQ, k1_6 cJ aQ vQ, k1_7 cJ aQ vQ, k1_8 cJ aQ vQ, k1_9 cJ aQ vQ] H → va_D A [k0_0 aL vL, k0_1 cI aL vL, k0_2 cI aL vL, k0_3 cI aL vL, k0_4 cI aL vL, k1_0 aQ vQ, k1_1 cJ aQ vQ, k1_2 cI aQ vQ, k1_3 cI aQ vQ, k1_4 cI aQ vQ, k1_5 cJ aQ vQ, k1_6 cJ aQ vQ, k1_7 cJ aQ vQ, k1_8 cJ aQ vQ, k1_9 cJ aQ vQ] → va_S A s.heap H locs → lv_has ls 18 [(0, .ref (aQ 0)), (1, .ref (aL 0)), (2, .int x2), (3, .long l3), (5, .long l5), (7, .long l7), (9, .int x9)] → k13 vL vQ x2 l3 l5 l7 x9 = some y → WW H locs 0 0 ls 13 []) (vQ : BX1) (x2 : Int32) (l3 : Int64) (l5 : Int64) (l7 : Int64) (x9 : Int32) (H : Heap) (locs : List Loc) (ls : Array Slot), va_P (dC, dI) vwCl [k0_0 aL vL, k0_1 cI aL vL, k0_2 cI aL vL, k0_3 cI aL vL, k0_4 cI aL vL, k1_0 aQ vQ, k1_1 cJ aQ vQ, k1_2 cI aQ vQ, k1_3 cI aQ vQ, k1_4 cI aQ vQ, k1_5 cJ aQ vQ, k1_6 cJ aQ vQ, k1_7 cJ aQ vQ, k1_8 cJ aQ vQ, k1_9 cJ aQ vQ] H → va_D A [k0_0 aL vL, k0_1 cI aL vL, k0_2 cI aL vL, k0_3 cI aL vL, k0_4 cI aL vL, k1_0 aQ vQ, k1_1 cJ aQ vQ, k1_2 cI aQ vQ, k1_3 cI aQ vQ, k1_4 cI aQ vQ, k1_5 cJ aQ vQ, k1_6 cJ aQ vQ, k1_7 cJ aQ vQ, k1_8 cJ aQ vQ, k1_9 cJ aQ vQ] → va_S A s.heap H locs → lv_has ls 18 [(0, .ref (aQ 0)), (1, .ref (aL 0)), (2, .int x2), (3, .long l3), (5, .long l5), (7, .long l7), (9, .int x9)] → fX1_expressPlaces_204 k13 vL vQ x2 l3 l5 l7 x9 = some y → WW H locs 0 0 ls 204 [] := by
    intro k13 hk13 vQ x2 l3 l5 l7 x9 H locs ls hP hD hS hl hf
    unfold fX1_expressPlaces_204 at hf
    refine (hWW _ _ _ _ _ _ _).2 ?_
    obtain ⟨z24, ez24, hf⟩ := elet_out hf
    refine lv_iinc (v := z24) (lv' := [(9, .int z24), (0, .ref (aQ 0)), (1, .ref (aL 0)), (2, .int x2), (3, .long l3), (5, .long l5), (7, .long l7)]) hx hb dX1_expressPlaces_204 hl (k := 6) rfl (by rw [ez24]; rfl) (by decide) rfl (fun ls hl => ?_)
    refine lv_goto (tgt := 13) hx hb dX1_expressPlaces_207 (by decide) ?_
    exact (hWW _ _ _ _ _ _ _).1 (hk13 vQ x2 l3 l5 l7 z24 H locs ls hP hD hS (lv_sub hl [1, 2, 3, 4, 5, 6, 0] rfl) hf)
  have J188 : ∀ (k13 : BX0 → BX1 → Int32 → Int64 → Int64 → Int64 → Int32 → Option BX1) (hk13 : ∀ (vQ : BX1) (x2 : Int32) (l3 : Int64) (l5 : Int64) (l7 : Int64) (x9 : Int32) (H : Heap) (locs : List Loc) (ls : Array Slot), va_P (dC, dI) vwCl [k0_0 aL vL, k0_1 cI aL vL, k0_2 cI aL vL, k0_3 cI aL vL, k0_4 cI aL vL, k1_0 aQ vQ, k1_1 cJ aQ vQ, k1_2 cI aQ vQ, k1_3 cI aQ vQ, k1_4 cI aQ vQ, k1_5 cJ aQ vQ, k1_6 cJ aQ vQ, k1_7 cJ aQ vQ, k1_8 cJ aQ vQ, k1_9 cJ aQ vQ] H → va_D A [k0_0 aL vL, k0_1 cI aL vL, k0_2 cI aL vL, k0_3 cI aL vL, k0_4 cI aL vL, k1_0 aQ vQ, k1_1 cJ aQ vQ, k1_2 cI aQ vQ, k1_3 cI aQ vQ, k1_4 cI aQ vQ, k1_5 cJ aQ vQ, k1_6 cJ aQ vQ, k1_7 cJ aQ vQ, k1_8 cJ aQ vQ, k1_9 cJ aQ vQ] → va_S A s.heap H locs → lv_has ls 18 [(0, .ref (aQ 0)), (1, .ref (aL 0)), (2, .int x2), (3, .long l3), (5, .long l5), (7, .long l7), (9, .int x9)] → k13 vL vQ x2 l3 l5 l7 x9 = some y → WW H locs 0 0 ls 13 []) (vQ : BX1) (l3 : Int64) (l5 : Int64) (l7 : Int64) (x9 : Int32) (H : Heap) (locs : List Loc) (ls : Array Slot), va_P (dC, dI) vwCl [k0_0 aL vL, k0_1 cI aL vL, k0_2 cI aL vL, k0_3 cI aL vL, k0_4 cI aL vL, k1_0 aQ vQ, k1_1 cJ aQ vQ, k1_2 cI aQ vQ, k1_3 cI aQ vQ, k1_4 cI aQ vQ, k1_5 cJ aQ vQ, k1_6 cJ aQ vQ, k1_7 cJ aQ vQ, k1_8 cJ aQ vQ, k1_9 cJ aQ vQ] H → va_D A [k0_0 aL vL, k0_1 cI aL vL, k0_2 cI aL vL, k0_3 cI aL vL, k0_4 cI aL vL, k1_0 aQ vQ, k1_1 cJ aQ vQ, k1_2 cI aQ vQ, k1_3 cI aQ vQ, k1_4 cI aQ vQ, k1_5 cJ aQ vQ, k1_6 cJ aQ vQ, k1_7 cJ aQ vQ, k1_8 cJ aQ vQ, k1_9 cJ aQ vQ] → va_S A s.heap H locs → lv_has ls 18 [(0, .ref (aQ 0)), (1, .ref (aL 0)), (3, .long l3), (5, .long l5), (7, .long l7), (9, .int x9)] → fX1_expressPlaces_188 k13 vL vQ l3 l5 l7 x9 = some y → WW H locs 0 0 ls 188 [] := by
    intro k13 hk13 vQ l3 l5 l7 x9 H locs ls hP hD hS hl hf
    unfold fX1_expressPlaces_188 at hf
    refine (hWW _ _ _ _ _ _ _).2 ?_
    refine lv_aload_n hx hb dX1_expressPlaces_188 rfl (lv_at hl 0 rfl) ?_
    refine lv_iload hx hb dX1_expressPlaces_189 (lv_at hl 5 rfl) ?_
    refine lv_lload_n hx hb dX1_expressPlaces_191 rfl (lv_at hl 2 rfl) ?_
    refine lv_lload hx hb dX1_expressPlaces_192 (lv_at hl 3 rfl) ?_
    refine lv_lload hx hb dX1_expressPlaces_194 (lv_at hl 4 rfl) ?_
    obtain ⟨y22, hy22, hf⟩ := obind hf
    refine cg_v (ws := [k0_0 aL vL, k0_1 cI aL vL, k0_2 cI aL vL, k0_3 cI aL vL, k0_4 cI aL vL, k1_0 aQ vQ, k1_1 cJ aQ vQ, k1_2 cI aQ vQ, k1_3 cI aQ vQ, k1_4 cI aQ vQ, k1_5 cJ aQ vQ, k1_6 cJ aQ vQ, k1_7 cJ aQ vQ, k1_8 cJ aQ vQ, k1_9 cJ aQ vQ]) (wc := [k1_0 aQ vQ, k1_1 cJ aQ vQ, k1_2 cI aQ vQ, k1_3 cI aQ vQ, k1_4 cI aQ vQ, k1_5 cJ aQ vQ, k1_6 cJ aQ vQ, k1_7 cJ aQ vQ, k1_8 cJ aQ vQ, k1_9 cJ aQ vQ]) (wr := [k0_0 aL vL, k0_1 cI aL vL, k0_2 cI aL vL, k0_3 cI aL vL, k0_4 cI aL vL]) (w1 := [k1_0 aQ y22, k1_1 cJ aQ y22, k1_2 cI aQ y22, k1_3 cI aQ y22, k1_4 cI aQ y22, k1_5 cJ aQ y22, k1_6 cJ aQ y22, k1_7 cJ aQ y22, k1_8 cJ aQ y22, k1_9 cJ aQ y22]) (wo := [k0_0 aL vL, k0_1 cI aL vL, k0_2 cI aL vL, k0_3 cI aL vL, k0_4 cI aL vL, k1_0 aQ y22, k1_1 cJ aQ y22, k1_2 cI aQ y22, k1_3 cI aQ y22, k1_4 cI aQ y22, k1_5 cJ aQ y22, k1_6 cJ aQ y22, k1_7 cJ aQ y22, k1_8 cJ aQ y22, k1_9 cJ aQ y22]) hP hD hS hA (va_runV (As := [.int x9, .long l3, .long l5, .long l7]) (rest := []) ⟨hx, hb, hml, hown, hts⟩ (mX1_putPlate l dC dI cI cJ aQ H.size vQ x9 l3 l5 l7 y22 hy22) (cwV 4 hts gX1_expressPlaces_X1_putPlate rfl rfl rfl (by decide +kernel) ⟨Nat.le_of_ble_eq_true rfl, Nat.le_of_ble_eq_true rfl⟩) ⟨cFB, va_recv hK hP (ci := 1) (q0 := 5) rfl rfl, cPre hK hN hS (va_free (wc := [k1_0 aQ vQ, k1_1 cJ aQ vQ, k1_2 cI aQ vQ, k1_3 cI aQ vQ, k1_4 cI aQ vQ, k1_5 cJ aQ vQ, k1_6 cJ aQ vQ, k1_7 cJ aQ vQ, k1_8 cJ aQ vQ, k1_9 cJ aQ vQ]) hD hS hA [5, 6, 7, 8, 9, 10, 11, 12, 13, 14] rfl) (hP.sub [5, 6, 7, 8, 9, 10, 11, 12, 13, 14] rfl) (hD.sub [5, 6, 7, 8, 9, 10, 11, 12, 13, 14] rfl rfl)⟩ rfl rfl hl.1 rfl (lv_room (Nat.le_of_ble_eq_true rfl)) dX1_expressPlaces_196 ⟨Nat.le_of_ble_eq_true rfl, Nat.le_of_ble_eq_true rfl⟩) [5, 6, 7, 8, 9, 10, 11, 12, 13, 14] [0, 1, 2, 3, 4] [0, 1, 2, 3, 4, 5, 6, 7, 8, 9, 10, 11, 12, 13, 14] rfl rfl rfl (by decide +kernel) rfl rfl (fun H locs hP hD hS => ?_)
    refine lv_iload hx hb dX1_expressPlaces_199 (lv_at hl 5 rfl) ?_
    refine lv_iconst (v := 1) hx hb dX1_expressPlaces_201 (by decide) ?_
    refine lv_iadd hx hb dX1_expressPlaces_202 ?_
    obtain ⟨z23, ez23, hf⟩ := elet_out hf
    refine lvn_i ez23 ?_
    refine lv_istore_n (lv' := [(2, .int z23), (0, .ref (aQ 0)), (1, .ref (aL 0)), (3, .long l3), (5, .long l5), (7, .long l7), (9, .int x9)]) hx hb dX1_expressPlaces_203 rfl hl (by decide) rfl (fun ls hl => ?_)
    exact (hWW _ _ _ _ _ _ _).1 (J204 k13 hk13 y22 z23 l3 l5 l7 x9 H locs ls hP hD hS (lv_sub hl [1, 2, 0, 3, 4, 5, 6] rfl) hf)
  have J181 : ∀ (k13 : BX0 → BX1 → Int32 → Int64 → Int64 → Int64 → Int32 → Option BX1) (hk13 : ∀ (vQ : BX1) (x2 : Int32) (l3 : Int64) (l5 : Int64) (l7 : Int64) (x9 : Int32) (H : Heap) (locs : List Loc) (ls : Array Slot), va_P (dC, dI) vwCl [k0_0 aL vL, k0_1 cI aL vL, k0_2 cI aL vL, k0_3 cI aL vL, k0_4 cI aL vL, k1_0 aQ vQ, k1_1 cJ aQ vQ, k1_2 cI aQ vQ, k1_3 cI aQ vQ, k1_4 cI aQ vQ, k1_5 cJ aQ vQ, k1_6 cJ aQ vQ, k1_7 cJ aQ vQ, k1_8 cJ aQ vQ, k1_9 cJ aQ vQ] H → va_D A [k0_0 aL vL, k0_1 cI aL vL, k0_2 cI aL vL, k0_3 cI aL vL, k0_4 cI aL vL, k1_0 aQ vQ, k1_1 cJ aQ vQ, k1_2 cI aQ vQ, k1_3 cI aQ vQ, k1_4 cI aQ vQ, k1_5 cJ aQ vQ, k1_6 cJ aQ vQ, k1_7 cJ aQ vQ, k1_8 cJ aQ vQ, k1_9 cJ aQ vQ] → va_S A s.heap H locs → lv_has ls 18 [(0, .ref (aQ 0)), (1, .ref (aL 0)), (2, .int x2), (3, .long l3), (5, .long l5), (7, .long l7), (9, .int x9)] → k13 vL vQ x2 l3 l5 l7 x9 = some y → WW H locs 0 0 ls 13 []) (vQ : BX1) (x9 : Int32) (st0 : Int64) (H : Heap) (locs : List Loc) (ls : Array Slot), va_P (dC, dI) vwCl [k0_0 aL vL, k0_1 cI aL vL, k0_2 cI aL vL, k0_3 cI aL vL, k0_4 cI aL vL, k1_0 aQ vQ, k1_1 cJ aQ vQ, k1_2 cI aQ vQ, k1_3 cI aQ vQ, k1_4 cI aQ vQ, k1_5 cJ aQ vQ, k1_6 cJ aQ vQ, k1_7 cJ aQ vQ, k1_8 cJ aQ vQ, k1_9 cJ aQ vQ] H → va_D A [k0_0 aL vL, k0_1 cI aL vL, k0_2 cI aL vL, k0_3 cI aL vL, k0_4 cI aL vL, k1_0 aQ vQ, k1_1 cJ aQ vQ, k1_2 cI aQ vQ, k1_3 cI aQ vQ, k1_4 cI aQ vQ, k1_5 cJ aQ vQ, k1_6 cJ aQ vQ, k1_7 cJ aQ vQ, k1_8 cJ aQ vQ, k1_9 cJ aQ vQ] → va_S A s.heap H locs → lv_has ls 18 [(0, .ref (aQ 0)), (1, .ref (aL 0)), (9, .int x9)] → fX1_expressPlaces_181 k13 vL vQ x9 st0 = some y → WW H locs 0 0 ls 181 [.long st0] := by
    intro k13 hk13 vQ x9 st0 H locs ls hP hD hS hl hf
    unfold fX1_expressPlaces_181 at hf
    refine (hWW _ _ _ _ _ _ _).2 ?_
    refine lv_lstore_n (lv' := [(3, .long st0), (0, .ref (aQ 0)), (1, .ref (aL 0)), (9, .int x9)]) hx hb dX1_expressPlaces_181 rfl hl (by decide) rfl (fun ls hl => ?_)
    refine lv_lconst (v := 0) hx hb dX1_expressPlaces_182 (by decide) ?_
    refine lv_lstore (lv' := [(5, .long 0), (3, .long st0), (0, .ref (aQ 0)), (1, .ref (aL 0)), (9, .int x9)]) hx hb dX1_expressPlaces_183 hl (by decide) rfl (fun ls hl => ?_)
    refine lv_lconst (v := 1) hx hb dX1_expressPlaces_185 (by decide) ?_
    refine lv_lstore (lv' := [(7, .long 1), (5, .long 0), (3, .long st0), (0, .ref (aQ 0)), (1, .ref (aL 0)), (9, .int x9)]) hx hb dX1_expressPlaces_186 hl (by decide) rfl (fun ls hl => ?_)
    exact (hWW _ _ _ _ _ _ _).1 (J188 k13 hk13 vQ st0 (0 : Int64) (1 : Int64) x9 H locs ls hP hD hS (lv_sub hl [3, 4, 2, 1, 0, 5] rfl) hf)
  have L13 : ∀ (n : Nat) (vQ : BX1) (x2 : Int32) (l3 : Int64) (l5 : Int64) (l7 : Int64) (x9 : Int32) (H : Heap) (locs : List Loc) (ls : Array Slot), va_P (dC, dI) vwCl [k0_0 aL vL, k0_1 cI aL vL, k0_2 cI aL vL, k0_3 cI aL vL, k0_4 cI aL vL, k1_0 aQ vQ, k1_1 cJ aQ vQ, k1_2 cI aQ vQ, k1_3 cI aQ vQ, k1_4 cI aQ vQ, k1_5 cJ aQ vQ, k1_6 cJ aQ vQ, k1_7 cJ aQ vQ, k1_8 cJ aQ vQ, k1_9 cJ aQ vQ] H → va_D A [k0_0 aL vL, k0_1 cI aL vL, k0_2 cI aL vL, k0_3 cI aL vL, k0_4 cI aL vL, k1_0 aQ vQ, k1_1 cJ aQ vQ, k1_2 cI aQ vQ, k1_3 cI aQ vQ, k1_4 cI aQ vQ, k1_5 cJ aQ vQ, k1_6 cJ aQ vQ, k1_7 cJ aQ vQ, k1_8 cJ aQ vQ, k1_9 cJ aQ vQ] → va_S A s.heap H locs → lv_has ls 18 [(0, .ref (aQ 0)), (1, .ref (aL 0)), (2, .int x2), (3, .long l3), (5, .long l5), (7, .long l7), (9, .int x9)] → fX1_expressPlaces_13 n vL vQ x2 l3 l5 l7 x9 = some y → WW H locs 0 0 ls 13 [] := by
    intro n
    induction n with
    | zero =>
      intro vQ x2 l3 l5 l7 x9 H locs ls hP hD hS hl hf
      exact onone hf
    | succ n ih =>
      intro vQ x2 l3 l5 l7 x9 H locs ls hP hD hS hl hf
      have hf : fX1_expressPlaces_13_b (fX1_expressPlaces_13 n) vL vQ x2 l3 l5 l7 x9 = some y := hf
      generalize fX1_expressPlaces_13 n = k13 at hf ih
      have hk13 := ih
      clear ih
      unfold fX1_expressPlaces_13_b at hf
      refine (hWW _ _ _ _ _ _ _).2 ?_
      refine lv_iload hx hb dX1_expressPlaces_13 (lv_at hl 6 rfl) ?_
      refine lv_aload_n hx hb dX1_expressPlaces_15 rfl (lv_at hl 1 rfl) ?_
      refine va_get (D := (dC, dI)) (ci := 0) (v := .int (p0_plates vL)) (C := RX0) (T := TX0) (N := 6) hx hb hts hiX0 hown hK hP 0 rfl rfl 1 (by decide) hgX0_74 (fun _ h9 => h9) rfl dX1_expressPlaces_16 ?_
      refine lv_icmp_ge (tgt := 210) hx hb dX1_expressPlaces_19 (by decide) (fun c1 => ?_) (fun c1 => ?_)
      · have hf := oif_t c1 hf
        obtain rfl := Option.some.inj hf
        exact W.vret hx hb hr (fun t ht hW => ⟨⟨(), rfl, trivial, by rw [ht]; exact hP, hD⟩, hS.F ht⟩) hS.2.2 dX1_expressPlaces_210
      · have hf := oif_f c1 hf
        refine lv_aload_n hx hb dX1_expressPlaces_22 rfl (lv_at hl 0 rfl) ?_
        refine va_get (D := (dC, dI)) (ci := 1) (v := .ref (aQ 4)) (C := RX1) (T := TX1) (N := 10) hx hb hts hiX1 hown hK hP 5 rfl rfl 4 (by decide) hgX1_26 (fun _ h9 => h9) rfl dX1_expressPlaces_23 ?_
        refine lv_iload hx hb dX1_expressPlaces_26 (lv_at hl 6 rfl) ?_
        obtain ⟨hi2, hf⟩ := oinb rfl hf
        refine va_iald hx hb hK hP 9 0 rfl rfl hi2 dX1_expressPlaces_28 ?_
        refine lv_iconst (v := 3) hx hb dX1_expressPlaces_29 (by decide) ?_
        refine lv_icmp_ne (tgt := 45) hx hb dX1_expressPlaces_30 (by decide) (fun c3 => ?_) (fun c3 => ?_)
        · have hf := oif_f c3 hf
          refine lv_aload_n hx hb dX1_expressPlaces_45 rfl (lv_at hl 0 rfl) ?_
          refine va_get (D := (dC, dI)) (ci := 1) (v := .ref (aQ 4)) (C := RX1) (T := TX1) (N := 10) hx hb hts hiX1 hown hK hP 5 rfl rfl 4 (by decide) hgX1_26 (fun _ h9 => h9) rfl dX1_expressPlaces_46 ?_
          refine lv_iload hx hb dX1_expressPlaces_49 (lv_at hl 6 rfl) ?_
          obtain ⟨hi4, hf⟩ := oinb rfl hf
          refine va_iald hx hb hK hP 9 0 rfl rfl hi4 dX1_expressPlaces_51 ?_
          refine lv_if_ne (tgt := 152) hx hb dX1_expressPlaces_52 (by decide) (fun c5 => ?_) (fun c5 => ?_)
          · have hf := oif_f c5 hf
            refine lv_aload_n hx hb dX1_expressPlaces_152 rfl (lv_at hl 0 rfl) ?_
            refine va_get (D := (dC, dI)) (ci := 1) (v := .ref (aQ 4)) (C := RX1) (T := TX1) (N := 10) hx hb hts hiX1 hown hK hP 5 rfl rfl 4 (by decide) hgX1_26 (fun _ h9 => h9) rfl dX1_expressPlaces_153 ?_
            refine lv_iload hx hb dX1_expressPlaces_156 (lv_at hl 6 rfl) ?_
            obtain ⟨hi6, hf⟩ := oinb rfl hf
            refine va_iald hx hb hK hP 9 0 rfl rfl hi6 dX1_expressPlaces_158 ?_
            refine lv_iconst (v := 1) hx hb dX1_expressPlaces_159 (by decide) ?_
            refine lv_icmp_ne (tgt := 174) hx hb dX1_expressPlaces_160 (by decide) (fun c7 => ?_) (fun c7 => ?_)
            · have hf := oif_f c7 hf
              refine lv_aload_n hx hb dX1_expressPlaces_174 rfl (lv_at hl 0 rfl) ?_
              refine va_get (D := (dC, dI)) (ci := 1) (v := .ref (aQ 3)) (C := RX1) (T := TX1) (N := 10) hx hb hts hiX1 hown hK hP 5 rfl rfl 3 (by decide) hgX1_23 (fun _ h9 => h9) rfl dX1_expressPlaces_175 ?_
              refine lv_iload_n hx hb dX1_expressPlaces_178 rfl (lv_at hl 2 rfl) ?_
              obtain ⟨hi8, hf⟩ := oinb rfl hf
              refine va_iald hx hb hK hP 8 0 rfl rfl hi8 dX1_expressPlaces_179 ?_
              refine lv_i2l (v := (((p1_highest vQ) (x2).toNatClampNeg)).toInt64) hx hb dX1_expressPlaces_180 rfl ?_
              exact (hWW _ _ _ _ _ _ _).1 (J181 k13 hk13 vQ x9 ((((p1_highest vQ) (x2).toNatClampNeg)).toInt64) H locs ls hP hD hS (lv_sub hl [0, 1, 6] rfl) hf)
            · have hf := oif_t c7 hf
              refine lv_aload_n hx hb dX1_expressPlaces_163 rfl (lv_at hl 0 rfl) ?_
              refine va_get (D := (dC, dI)) (ci := 1) (v := .ref (aQ 2)) (C := RX1) (T := TX1) (N := 10) hx hb hts hiX1 hown hK hP 5 rfl rfl 2 (by decide) hgX1_19 (fun _ h9 => h9) rfl dX1_expressPlaces_164 ?_
              refine lv_iload hx hb dX1_expressPlaces_167 (lv_at hl 6 rfl) ?_
              obtain ⟨hi9, hf⟩ := oinb rfl hf
              refine va_iald hx hb hK hP 7 0 rfl rfl hi9 dX1_expressPlaces_169 ?_
              refine lv_i2l (v := (((p1_lowest vQ) (x9).toNatClampNeg)).toInt64) hx hb dX1_expressPlaces_170 rfl ?_
              refine lv_goto (tgt := 181) hx hb dX1_expressPlaces_171 (by decide) ?_
              exact (hWW _ _ _ _ _ _ _).1 (J181 k13 hk13 vQ x9 ((((p1_lowest vQ) (x9).toNatClampNeg)).toInt64) H locs ls hP hD hS (lv_sub hl [0, 1, 6] rfl) hf)
          · have hf := oif_t c5 hf
            refine lv_aload_n hx hb dX1_expressPlaces_55 rfl (lv_at hl 1 rfl) ?_
            refine va_get (D := (dC, dI)) (ci := 0) (v := .ref (aL 1)) (C := RX0) (T := TX0) (N := 6) hx hb hts hiX0 hown hK hP 0 rfl rfl 2 (by decide) hgX0_50 (fun _ h9 => h9) rfl dX1_expressPlaces_56 ?_
            refine lv_iload_n hx hb dX1_expressPlaces_59 rfl (lv_at hl 2 rfl) ?_
            obtain ⟨hi10, hf⟩ := oinb rfl hf
            refine va_iald hx hb hK hP 1 0 rfl rfl hi10 dX1_expressPlaces_60 ?_
            refine lv_i2l (v := (((p0_strengths vL) (x2).toNatClampNeg)).toInt64) hx hb dX1_expressPlaces_61 rfl ?_
            obtain ⟨z11, ez11, hf⟩ := elet_out hf
            refine lvn_l ez11 ?_
            refine lv_lstore (lv' := [(10, .long z11), (0, .ref (aQ 0)), (1, .ref (aL 0)), (2, .int x2), (3, .long l3), (5, .long l5), (7, .long l7), (9, .int x9)]) hx hb dX1_expressPlaces_62 hl (by decide) rfl (fun ls hl => ?_)
            refine lv_aload_n hx hb dX1_expressPlaces_64 rfl (lv_at hl 2 rfl) ?_
            refine va_get (D := (dC, dI)) (ci := 0) (v := .ref (aL 1)) (C := RX0) (T := TX0) (N := 6) hx hb hts hiX0 hown hK hP 0 rfl rfl 2 (by decide) hgX0_50 (fun _ h9 => h9) rfl dX1_expressPlaces_65 ?_
            refine lv_iload hx hb dX1_expressPlaces_68 (lv_at hl 7 rfl) ?_
            refine lv_iconst (v := 1) hx hb dX1_expressPlaces_70 (by decide) ?_
            refine lv_iadd hx hb dX1_expressPlaces_71 ?_
            obtain ⟨hi12, hf⟩ := oinb rfl hf
            refine va_iald hx hb hK hP 1 0 rfl rfl hi12 dX1_expressPlaces_72 ?_
            refine lv_i2l (v := (((p0_strengths vL) ((x9 + (1 : Int32))).toNatClampNeg)).toInt64) hx hb dX1_expressPlaces_73 rfl ?_
            obtain ⟨z13, ez13, hf⟩ := elet_out hf
            refine lvn_l ez13 ?_
            refine lv_lstore (lv' := [(12, .long z13), (10, .long z11), (0, .ref (aQ 0)), (1, .ref (aL 0)), (2, .int x2), (3, .long l3), (5, .long l5), (7, .long l7), (9, .int x9)]) hx hb dX1_expressPlaces_74 hl (by decide) rfl (fun ls hl => ?_)
            refine lv_aload_n hx hb dX1_expressPlaces_76 rfl (lv_at hl 3 rfl) ?_
            refine lv_iload_n hx hb dX1_expressPlaces_77 rfl (lv_at hl 4 rfl) ?_
            refine lv_iload hx hb dX1_expressPlaces_78 (lv_at hl 8 rfl) ?_
            obtain ⟨y14, hy14, hf⟩ := obind hf
            refine cg_i (ws := [k0_0 aL vL, k0_1 cI aL vL, k0_2 cI aL vL, k0_3 cI aL vL, k0_4 cI aL vL, k1_0 aQ vQ, k1_1 cJ aQ vQ, k1_2 cI aQ vQ, k1_3 cI aQ vQ, k1_4 cI aQ vQ, k1_5 cJ aQ vQ, k1_6 cJ aQ vQ, k1_7 cJ aQ vQ, k1_8 cJ aQ vQ, k1_9 cJ aQ vQ]) (wc := [k0_0 aL vL, k0_1 cI aL vL, k0_2 cI aL vL, k0_3 cI aL vL, k0_4 cI aL vL]) (wr := [k1_0 aQ vQ, k1_1 cJ aQ vQ, k1_2 cI aQ vQ, k1_3 cI aQ vQ, k1_4 cI aQ vQ, k1_5 cJ aQ vQ, k1_6 cJ aQ vQ, k1_7 cJ aQ vQ, k1_8 cJ aQ vQ, k1_9 cJ aQ vQ]) (w1 := [k0_0 aL vL, k0_1 cI aL vL, k0_2 cI aL vL, k0_3 cI aL vL, k0_4 cI aL vL]) (wo := [k0_0 aL vL, k0_1 cI aL vL, k0_2 cI aL vL, k0_3 cI aL vL, k0_4 cI aL vL, k1_0 aQ vQ, k1_1 cJ aQ vQ, k1_2 cI aQ vQ, k1_3 cI aQ vQ, k1_4 cI aQ vQ, k1_5 cJ aQ vQ, k1_6 cJ aQ vQ, k1_7 cJ aQ vQ, k1_8 cJ aQ vQ, k1_9 cJ aQ vQ]) hP hD hS hA (va_runV (As := [.int x2, .int x9]) (rest := []) ⟨hx, hb, hml, hown, hts⟩ (mX0_sumOfLoads l dC dI cI cJ aL H.size vL x2 x9 y14 hy14) (cwV 2 hts gX1_expressPlaces_X0_sumOfLoads rfl rfl rfl (by decide +kernel) ⟨Nat.le_of_ble_eq_true rfl, Nat.le_of_ble_eq_true rfl⟩) ⟨cFB, va_recv hK hP (ci := 0) (q0 := 0) rfl rfl, cPre hK hN hS (va_free (wc := [k0_0 aL vL, k0_1 cI aL vL, k0_2 cI aL vL, k0_3 cI aL vL, k0_4 cI aL vL]) hD hS hA [0, 1, 2, 3, 4] rfl) (hP.sub [0, 1, 2, 3, 4] rfl) (hD.sub [0, 1, 2, 3, 4] rfl rfl)⟩ rfl rfl hl.1 rfl (lv_room (Nat.le_of_ble_eq_true rfl)) dX1_expressPlaces_80 ⟨Nat.le_of_ble_eq_true rfl, Nat.le_of_ble_eq_true rfl⟩) [0, 1, 2, 3, 4] [5, 6, 7, 8, 9, 10, 11, 12, 13, 14] [10, 11, 12, 13, 14, 0, 1, 2, 3, 4, 5, 6, 7, 8, 9] rfl rfl rfl (by decide +kernel) rfl rfl (fun H locs hP hD hS => ?_)
            refine lv_i2l (v := (y14).toInt64) hx hb dX1_expressPlaces_83 rfl ?_
            refine lv_lload hx hb dX1_expressPlaces_84 (lv_at hl 1 rfl) ?_
            refine lv_aload_n hx hb dX1_expressPlaces_86 rfl (lv_at hl 3 rfl) ?_
            refine va_get (D := (dC, dI)) (ci := 0) (v := .ref (aL 2)) (C := RX0) (T := TX0) (N := 6) hx hb hts hiX0 hown hK hP 0 rfl rfl 3 (by decide) hgX0_55 (fun _ h9 => h9) rfl dX1_expressPlaces_87 ?_
            refine lv_iload_n hx hb dX1_expressPlaces_90 rfl (lv_at hl 4 rfl) ?_
            obtain ⟨hi15, hf⟩ := oinb rfl hf
            refine va_iald hx hb hK hP 2 0 rfl rfl hi15 dX1_expressPlaces_91 ?_
            refine lv_i2l (v := (((p0_lengths vL) (x2).toNatClampNeg)).toInt64) hx hb dX1_expressPlaces_92 rfl ?_
            refine lv_lmul hx hb dX1_expressPlaces_93 ?_
            refine lv_ladd hx hb dX1_expressPlaces_94 ?_
            refine lv_lload hx hb dX1_expressPlaces_95 (lv_at hl 0 rfl) ?_
            refine lv_aload_n hx hb dX1_expressPlaces_97 rfl (lv_at hl 3 rfl) ?_
            refine va_get (D := (dC, dI)) (ci := 0) (v := .ref (aL 2)) (C := RX0) (T := TX0) (N := 6) hx hb hts hiX0 hown hK hP 0 rfl rfl 3 (by decide) hgX0_55 (fun _ h9 => h9) rfl dX1_expressPlaces_98 ?_
            refine lv_iload hx hb dX1_expressPlaces_101 (lv_at hl 8 rfl) ?_
            refine lv_iconst (v := 1) hx hb dX1_expressPlaces_103 (by decide) ?_
            refine lv_iadd hx hb dX1_expressPlaces_104 ?_
            obtain ⟨hi16, hf⟩ := oinb rfl hf
            refine va_iald hx hb hK hP 2 0 rfl rfl hi16 dX1_expressPlaces_105 ?_
            refine lv_i2l (v := (((p0_lengths vL) ((x9 + (1 : Int32))).toNatClampNeg)).toInt64) hx hb dX1_expressPlaces_106 rfl ?_
            refine lv_lmul hx hb dX1_expressPlaces_107 ?_
            refine lv_lsub hx hb dX1_expressPlaces_108 ?_
            obtain ⟨z17, ez17, hf⟩ := elet_out hf
            refine lvn_l ez17 ?_
            refine lv_lstore (lv' := [(14, .long z17), (12, .long z13), (10, .long z11), (0, .ref (aQ 0)), (1, .ref (aL 0)), (2, .int x2), (3, .long l3), (5, .long l5), (7, .long l7), (9, .int x9)]) hx hb dX1_expressPlaces_109 hl (by decide) rfl (fun ls hl => ?_)
            refine lv_lload hx hb dX1_expressPlaces_111 (lv_at hl 8 rfl) ?_
            refine lv_lload hx hb dX1_expressPlaces_113 (lv_at hl 0 rfl) ?_
            refine lv_lmul hx hb dX1_expressPlaces_115 ?_
            refine lv_lload hx hb dX1_expressPlaces_116 (lv_at hl 2 rfl) ?_
            refine lv_lload_n hx hb dX1_expressPlaces_118 rfl (lv_at hl 6 rfl) ?_
            refine lv_lmul hx hb dX1_expressPlaces_119 ?_
            refine lv_ladd hx hb dX1_expressPlaces_120 ?_
            obtain ⟨z18, ez18, hf⟩ := elet_out hf
            refine lvn_l ez18 ?_
            refine lv_lstore_n (lv' := [(3, .long z18), (14, .long z17), (12, .long z13), (10, .long z11), (0, .ref (aQ 0)), (1, .ref (aL 0)), (2, .int x2), (5, .long l5), (7, .long l7), (9, .int x9)]) hx hb dX1_expressPlaces_121 rfl hl (by decide) rfl (fun ls hl => ?_)
            refine lv_lload hx hb dX1_expressPlaces_122 (lv_at hl 2 rfl) ?_
            refine lv_lload hx hb dX1_expressPlaces_124 (lv_at hl 8 rfl) ?_
            refine lv_lmul hx hb dX1_expressPlaces_126 ?_
            obtain ⟨z19, ez19, hf⟩ := elet_out hf
            refine lvn_l ez19 ?_
            refine lv_lstore (lv' := [(16, .long z19), (3, .long z18), (14, .long z17), (12, .long z13), (10, .long z11), (0, .ref (aQ 0)), (1, .ref (aL 0)), (2, .int x2), (5, .long l5), (7, .long l7), (9, .int x9)]) hx hb dX1_expressPlaces_127 hl (by decide) rfl (fun ls hl => ?_)
            refine lv_lload hx hb dX1_expressPlaces_129 (lv_at hl 4 rfl) ?_
            refine lv_lload hx hb dX1_expressPlaces_131 (lv_at hl 3 rfl) ?_
            refine lv_ladd hx hb dX1_expressPlaces_133 ?_
            refine lv_lload hx hb dX1_expressPlaces_134 (lv_at hl 9 rfl) ?_
            refine lv_lmul hx hb dX1_expressPlaces_136 ?_
            refine lv_lload hx hb dX1_expressPlaces_137 (lv_at hl 4 rfl) ?_
            refine lv_lload hx hb dX1_expressPlaces_139 (lv_at hl 8 rfl) ?_
            refine lv_lmul hx hb dX1_expressPlaces_141 ?_
            refine lv_lsub hx hb dX1_expressPlaces_142 ?_
            obtain ⟨z20, ez20, hf⟩ := elet_out hf
            refine lvn_l ez20 ?_
            refine lv_lstore (lv' := [(7, .long z20), (16, .long z19), (3, .long z18), (14, .long z17), (12, .long z13), (10, .long z11), (0, .ref (aQ 0)), (1, .ref (aL 0)), (2, .int x2), (5, .long l5), (9, .int x9)]) hx hb dX1_expressPlaces_143 hl (by decide) rfl (fun ls hl => ?_)
            refine lv_lload hx hb dX1_expressPlaces_145 (lv_at hl 1 rfl) ?_
            refine lv_lstore (lv' := [(5, .long z19), (7, .long z20), (16, .long z19), (3, .long z18), (14, .long z17), (12, .long z13), (10, .long z11), (0, .ref (aQ 0)), (1, .ref (aL 0)), (2, .int x2), (9, .int x9)]) hx hb dX1_expressPlaces_147 hl (by decide) rfl (fun ls hl => ?_)
            refine lv_goto (tgt := 188) hx hb dX1_expressPlaces_149 (by decide) ?_
            exact (hWW _ _ _ _ _ _ _).1 (J188 k13 hk13 vQ z18 z19 z20 x9 H locs ls hP hD hS (lv_sub hl [7, 8, 3, 0, 1, 10] rfl) hf)
        · have hf := oif_t c3 hf
          refine lv_aload_n hx hb dX1_expressPlaces_33 rfl (lv_at hl 0 rfl) ?_
          refine lv_iload hx hb dX1_expressPlaces_34 (lv_at hl 6 rfl) ?_
          refine lv_lconst (v := 0) hx hb dX1_expressPlaces_36 (by decide) ?_
          refine lv_lconst (v := 1) hx hb dX1_expressPlaces_37 (by decide) ?_
          refine lv_lconst (v := 1) hx hb dX1_expressPlaces_38 (by decide) ?_
          obtain ⟨y21, hy21, hf⟩ := obind hf
          refine cg_v (ws := [k0_0 aL vL, k0_1 cI aL vL, k0_2 cI aL vL, k0_3 cI aL vL, k0_4 cI aL vL, k1_0 aQ vQ, k1_1 cJ aQ vQ, k1_2 cI aQ vQ, k1_3 cI aQ vQ, k1_4 cI aQ vQ, k1_5 cJ aQ vQ, k1_6 cJ aQ vQ, k1_7 cJ aQ vQ, k1_8 cJ aQ vQ, k1_9 cJ aQ vQ]) (wc := [k1_0 aQ vQ, k1_1 cJ aQ vQ, k1_2 cI aQ vQ, k1_3 cI aQ vQ, k1_4 cI aQ vQ, k1_5 cJ aQ vQ, k1_6 cJ aQ vQ, k1_7 cJ aQ vQ, k1_8 cJ aQ vQ, k1_9 cJ aQ vQ]) (wr := [k0_0 aL vL, k0_1 cI aL vL, k0_2 cI aL vL, k0_3 cI aL vL, k0_4 cI aL vL]) (w1 := [k1_0 aQ y21, k1_1 cJ aQ y21, k1_2 cI aQ y21, k1_3 cI aQ y21, k1_4 cI aQ y21, k1_5 cJ aQ y21, k1_6 cJ aQ y21, k1_7 cJ aQ y21, k1_8 cJ aQ y21, k1_9 cJ aQ y21]) (wo := [k0_0 aL vL, k0_1 cI aL vL, k0_2 cI aL vL, k0_3 cI aL vL, k0_4 cI aL vL, k1_0 aQ y21, k1_1 cJ aQ y21, k1_2 cI aQ y21, k1_3 cI aQ y21, k1_4 cI aQ y21, k1_5 cJ aQ y21, k1_6 cJ aQ y21, k1_7 cJ aQ y21, k1_8 cJ aQ y21, k1_9 cJ aQ y21]) hP hD hS hA (va_runV (As := [.int x9, .long 0, .long 1, .long 1]) (rest := []) ⟨hx, hb, hml, hown, hts⟩ (mX1_putPlate l dC dI cI cJ aQ H.size vQ x9 (0 : Int64) (1 : Int64) (1 : Int64) y21 hy21) (cwV 4 hts gX1_expressPlaces_X1_putPlate rfl rfl rfl (by decide +kernel) ⟨Nat.le_of_ble_eq_true rfl, Nat.le_of_ble_eq_true rfl⟩) ⟨cFB, va_recv hK hP (ci := 1) (q0 := 5) rfl rfl, cPre hK hN hS (va_free (wc := [k1_0 aQ vQ, k1_1 cJ aQ vQ, k1_2 cI aQ vQ, k1_3 cI aQ vQ, k1_4 cI aQ vQ, k1_5 cJ aQ vQ, k1_6 cJ aQ vQ, k1_7 cJ aQ vQ, k1_8 cJ aQ vQ, k1_9 cJ aQ vQ]) hD hS hA [5, 6, 7, 8, 9, 10, 11, 12, 13, 14] rfl) (hP.sub [5, 6, 7, 8, 9, 10, 11, 12, 13, 14] rfl) (hD.sub [5, 6, 7, 8, 9, 10, 11, 12, 13, 14] rfl rfl)⟩ rfl rfl hl.1 rfl (lv_room (Nat.le_of_ble_eq_true rfl)) dX1_expressPlaces_39 ⟨Nat.le_of_ble_eq_true rfl, Nat.le_of_ble_eq_true rfl⟩) [5, 6, 7, 8, 9, 10, 11, 12, 13, 14] [0, 1, 2, 3, 4] [0, 1, 2, 3, 4, 5, 6, 7, 8, 9, 10, 11, 12, 13, 14] rfl rfl rfl (by decide +kernel) rfl rfl (fun H locs hP hD hS => ?_)
          refine lv_goto (tgt := 204) hx hb dX1_expressPlaces_42 (by decide) ?_
          exact (hWW _ _ _ _ _ _ _).1 (J204 k13 hk13 y21 x2 l3 l5 l7 x9 H locs ls hP hD hS (lv_sub hl [0, 1, 2, 3, 4, 5, 6] rfl) hf)
  refine (hWW _ _ _ _ _ _ _).2 ?_
  unfold fX1_expressPlaces at hf
  refine lv_iconst (v := 0) hx hb dX1_expressPlaces_0 (by decide) ?_
  refine lv_istore_n (lv' := [(2, .int 0), (0, .ref (aQ 0)), (1, .ref (aL 0))]) hx hb dX1_expressPlaces_1 rfl hl (by decide) rfl (fun ls hl => ?_)
  refine lv_lconst (v := 0) hx hb dX1_expressPlaces_2 (by decide) ?_
  refine lv_lstore_n (lv' := [(3, .long 0), (2, .int 0), (0, .ref (aQ 0)), (1, .ref (aL 0))]) hx hb dX1_expressPlaces_3 rfl hl (by decide) rfl (fun ls hl => ?_)
  refine lv_lconst (v := 0) hx hb dX1_expressPlaces_4 (by decide) ?_
  refine lv_lstore (lv' := [(5, .long 0), (3, .long 0), (2, .int 0), (0, .ref (aQ 0)), (1, .ref (aL 0))]) hx hb dX1_expressPlaces_5 hl (by decide) rfl (fun ls hl => ?_)
  refine lv_lconst (v := 1) hx hb dX1_expressPlaces_7 (by decide) ?_
  refine lv_lstore (lv' := [(7, .long 1), (5, .long 0), (3, .long 0), (2, .int 0), (0, .ref (aQ 0)), (1, .ref (aL 0))]) hx hb dX1_expressPlaces_8 hl (by decide) rfl (fun ls hl => ?_)
  refine lv_iconst (v := 0) hx hb dX1_expressPlaces_10 (by decide) ?_
  refine lv_istore (lv' := [(9, .int 0), (7, .long 1), (5, .long 0), (3, .long 0), (2, .int 0), (0, .ref (aQ 0)), (1, .ref (aL 0))]) hx hb dX1_expressPlaces_11 hl (by decide) rfl (fun ls hl => ?_)
  exact (hWW _ _ _ _ _ _ _).1 (L13 FU vQ (0 : Int32) (0 : Int64) (0 : Int64) (1 : Int64) (0 : Int32) H locs ls hP hD hS (lv_sub hl [5, 6, 4, 3, 2, 1, 0] rfl) hf)
def fX1_findPlaces_86 (k17 : BX0 → BX1 → Int64 → Int64 → Int32 → Option (Int32 × BX1)) (vL : BX0) (vQ : BX1) (l2 : Int64) (l4 : Int64) (x6 : Int32) (l7 : Int64) (l9 : Int64) : Option (Int32 × BX1) :=
  if inB x6 4 = true then (if (lg_cmp l7 ((((p1_lowest vQ) (x6).toNatClampNeg)).toInt64 * l9)) < 0 then (some (0, vQ)) else (if inB x6 4 = true then (if 0 < (lg_cmp l7 ((((p1_highest vQ) (x6).toNatClampNeg)).toInt64 * l9)) then (some (0, vQ)) else (if (lg_cmp (l7 * l4) (l2 * l9)) ≤ 0 then (if inB x6 4 = true then (elet (s1_uppers vQ (vp_updL (p1_uppers vQ) (x6).toNatClampNeg l7)) (fun b19 => if inB x6 4 = true then (elet (s1_lowers b19 (vp_updL (p1_lowers b19) (x6).toNatClampNeg l9)) (fun b21 => elet (x6 + (-1)) (fun z22 => k17 vL b21 l7 l9 z22))) else none)) else none) else (some (0, vQ)))) else none)) else none
def fX1_findPlaces_17_b (k17 : BX0 → BX1 → Int64 → Int64 → Int32 → Option (Int32 × BX1)) (vL : BX0) (vQ : BX1) (l2 : Int64) (l4 : Int64) (x6 : Int32) : Option (Int32 × BX1) :=
  if x6 < 0 then (some (1, vQ)) else (if inB x6 4 = true then (if inB x6 4 = true then (elet ((((p1_constants vQ) (x6).toNatClampNeg) * l4) + (((p1_slopes vQ) (x6).toNatClampNeg) * l2)) (fun z4 => if inB x6 4 = true then (elet (((p1_divisors vQ) (x6).toNatClampNeg) * l4) (fun z6 => (fX3_greatestDivisor z4 z6).bind (fun y7 => if (lg_cmp y7 (1 : Int64)) ≤ 0 then (fX1_findPlaces_86 k17 vL vQ l2 l4 x6 z4 z6) else (if y7 = 0 then none else (elet (z4 / y7) (fun z10 => if y7 = 0 then none else (elet (z6 / y7) (fun z12 => fX1_findPlaces_86 k17 vL vQ l2 l4 x6 z10 z12)))))))) else none)) else none) else none)
def fX1_findPlaces_17 : Nat → BX0 → BX1 → Int64 → Int64 → Int32 → Option (Int32 × BX1)
  | 0 => fun _ _ _ _ _ => none
  | n + 1 => fX1_findPlaces_17_b (fX1_findPlaces_17 n)
def fX1_findPlaces (vL : BX0) (vQ : BX1) : Option (Int32 × BX1) :=
  elet (((p0_width vL)).toInt64) (fun z23 => elet ((p0_plates vL) - (1 : Int32)) (fun z24 => fX1_findPlaces_17 FU vL vQ z23 (1 : Int64) z24))
set_option maxHeartbeats 8000000 in
set_option maxRecDepth 100000 in
theorem mX1_findPlaces (l : Launch) (dC : Nat → ClassId) (dI : Nat → Nat → Nat) (cI cJ : ClassId) (aL : Nat → Nat) (aQ : Nat → Nat) (sz : Nat) (vL : BX0) (vQ : BX1) (y : (Int32 × BX1)) (hf : fX1_findPlaces vL vQ = some y) : Met l yX1_findPlaces wsX1_findPlaces ({ frames := 2, cells := 0, slots := 0, locals := 53 }) (cPc dC dI cI cJ [.ref (aQ 0), .ref (aL 0)] [k0_0 aL vL, k0_1 cI aL vL, k0_2 cI aL vL, k0_3 cI aL vL, k0_4 cI aL vL, k1_0 aQ vQ, k1_1 cJ aQ vQ, k1_2 cI aQ vQ, k1_3 cI aQ vQ, k1_4 cI aQ vQ, k1_5 cJ aQ vQ, k1_6 cJ aQ vQ, k1_7 cJ aQ vQ, k1_8 cJ aQ vQ, k1_9 cJ aQ vQ] sz) (va_Qi (fun r (_ : Unit) => r = y.1) (fun _ t => cB dC dI (va_A [k0_0 aL vL, k0_1 cI aL vL, k0_2 cI aL vL, k0_3 cI aL vL, k0_4 cI aL vL, k1_0 aQ vQ, k1_1 cJ aQ vQ, k1_2 cI aQ vQ, k1_3 cI aQ vQ, k1_4 cI aQ vQ, k1_5 cJ aQ vQ, k1_6 cJ aQ vQ, k1_7 cJ aQ vQ, k1_8 cJ aQ vQ, k1_9 cJ aQ vQ] sz) [k0_0 aL vL, k0_1 cI aL vL, k0_2 cI aL vL, k0_3 cI aL vL, k0_4 cI aL vL, k1_0 aQ y.2, k1_1 cJ aQ y.2, k1_2 cI aQ y.2, k1_3 cI aQ y.2, k1_4 cI aQ y.2, k1_5 cJ aQ y.2, k1_6 cJ aQ y.2, k1_7 cJ aQ y.2, k1_8 cJ aQ y.2, k1_9 cJ aQ y.2] t) (va_A [k0_0 aL vL, k0_1 cI aL vL, k0_2 cI aL vL, k0_3 cI aL vL, k0_4 cI aL vL, k1_0 aQ vQ, k1_1 cJ aQ vQ, k1_2 cI aQ vQ, k1_3 cI aQ vQ, k1_4 cI aQ vQ, k1_5 cJ aQ vQ, k1_6 cJ aQ vQ, k1_7 cJ aQ vQ, k1_8 cJ aQ vQ, k1_9 cJ aQ vQ] sz)) 0 0 (va_A [k0_0 aL vL, k0_1 cI aL vL, k0_2 cI aL vL, k0_3 cI aL vL, k0_4 cI aL vL, k1_0 aQ vQ, k1_1 cJ aQ vQ, k1_2 cI aQ vQ, k1_3 cI aQ vQ, k1_4 cI aQ vQ, k1_5 cJ aQ vQ, k1_6 cJ aQ vQ, k1_7 cJ aQ vQ, k1_8 cJ aQ vQ, k1_9 cJ aQ vQ] sz) := by
  refine Met.ofW (cc := cX1_findPlaces) (maxL := 13) (ret := (some .boolean)) (by decide) rfl ?_
  intro p e s m args below meth c s₁ B hml hv
  obtain ⟨rfl, hsz, hP, hK, hD0, hN⟩ := hv
  have hx := B.exec
  have hb := B.bytes
  have hr := B.returns
  have hts := atoms_spec (ws := wsX1_findPlaces) B.pre
  have hown : s.vm.findClass RX1 = some m.cls := findClass_of_methodNamed B.named
  have hlocks := B.notSynchronized
  subst hsz
  have hD := hD0.self (sz := s.heap.size)
  generalize hAe : va_A [k0_0 aL vL, k0_1 cI aL vL, k0_2 cI aL vL, k0_3 cI aL vL, k0_4 cI aL vL, k1_0 aQ vQ, k1_1 cJ aQ vQ, k1_2 cI aQ vQ, k1_3 cI aQ vQ, k1_4 cI aQ vQ, k1_5 cJ aQ vQ, k1_6 cJ aQ vQ, k1_7 cJ aQ vQ, k1_8 cJ aQ vQ, k1_9 cJ aQ vQ] s.heap.size = A at hD hN ⊢
  have hA : ∀ q : Nat, s.heap.size ≤ q → A q := fun q h => by rw [← hAe]; exact Or.inr h
  have hP : va_P (dC, dI) vwCl [k0_0 aL vL, k0_1 cI aL vL, k0_2 cI aL vL, k0_3 cI aL vL, k0_4 cI aL vL, k1_0 aQ vQ, k1_1 cJ aQ vQ, k1_2 cI aQ vQ, k1_3 cI aQ vQ, k1_4 cI aQ vQ, k1_5 cJ aQ vQ, k1_6 cJ aQ vQ, k1_7 cJ aQ vQ, k1_8 cJ aQ vQ, k1_9 cJ aQ vQ] s.heap := hP
  have hl := lv_entry ([.ref (aQ 0), .ref (aL 0)]) (n := 13) (Nat.le_of_ble_eq_true rfl)
  rw [lg_entry_eq]
  generalize (lg_sl ([.ref (aQ 0), .ref (aL 0)]) ++ List.replicate (13 - (lg_sl ([.ref (aQ 0), .ref (aL 0)])).length) Slot.unset).toArray = ls at hl ⊢
  have hl : lv_has ls 13 [(0, .ref (aQ 0)), (1, .ref (aL 0))] := hl
  have hiX1 : ∀ w ∈ u_ws RX1 TX1 10, w ∈ wsX1_findPlaces := by decide +kernel
  have hgX1_29 := hts (.fieldLink RX1 29 "SpringPlates$Rest" "constants" "[J") (by decide +kernel)
  have hgX1_32 := hts (.fieldLink RX1 32 "SpringPlates$Rest" "slopes" "[J") (by decide +kernel)
  have hgX1_35 := hts (.fieldLink RX1 35 "SpringPlates$Rest" "divisors" "[J") (by decide +kernel)
  have hgX1_19 := hts (.fieldLink RX1 19 "SpringPlates$Rest" "lowest" "[I") (by decide +kernel)
  have hgX1_23 := hts (.fieldLink RX1 23 "SpringPlates$Rest" "highest" "[I") (by decide +kernel)
  have hgX1_38 := hts (.fieldLink RX1 38 "SpringPlates$Rest" "uppers" "[J") (by decide +kernel)
  have hgX1_41 := hts (.fieldLink RX1 41 "SpringPlates$Rest" "lowers" "[J") (by decide +kernel)
  have hiX0 : ∀ w ∈ u_ws RX0 TX0 6, w ∈ wsX1_findPlaces := by decide +kernel
  have hgX0_102 := hts (.fieldLink RX1 102 "SpringPlates$Layout" "width" "I") (by decide +kernel)
  have hgX0_74 := hts (.fieldLink RX1 74 "SpringPlates$Layout" "plates" "I") (by decide +kernel)
  refine nameH (fun H locs hHe hLe => ?_)
  have hP : va_P (dC, dI) vwCl [k0_0 aL vL, k0_1 cI aL vL, k0_2 cI aL vL, k0_3 cI aL vL, k0_4 cI aL vL, k1_0 aQ vQ, k1_1 cJ aQ vQ, k1_2 cI aQ vQ, k1_3 cI aQ vQ, k1_4 cI aQ vQ, k1_5 cJ aQ vQ, k1_6 cJ aQ vQ, k1_7 cJ aQ vQ, k1_8 cJ aQ vQ, k1_9 cJ aQ vQ] H := by rw [hHe]; exact hP
  have hS : va_S A s.heap H locs := by rw [hHe, hLe]; exact va_S.rf
  refine withW (fun WW hWW => ?_)
  have J86 : ∀ (k17 : BX0 → BX1 → Int64 → Int64 → Int32 → Option (Int32 × BX1)) (hk17 : ∀ (vQ : BX1) (l2 : Int64) (l4 : Int64) (x6 : Int32) (H : Heap) (locs : List Loc) (ls : Array Slot), va_P (dC, dI) vwCl [k0_0 aL vL, k0_1 cI aL vL, k0_2 cI aL vL, k0_3 cI aL vL, k0_4 cI aL vL, k1_0 aQ vQ, k1_1 cJ aQ vQ, k1_2 cI aQ vQ, k1_3 cI aQ vQ, k1_4 cI aQ vQ, k1_5 cJ aQ vQ, k1_6 cJ aQ vQ, k1_7 cJ aQ vQ, k1_8 cJ aQ vQ, k1_9 cJ aQ vQ] H → va_D A [k0_0 aL vL, k0_1 cI aL vL, k0_2 cI aL vL, k0_3 cI aL vL, k0_4 cI aL vL, k1_0 aQ vQ, k1_1 cJ aQ vQ, k1_2 cI aQ vQ, k1_3 cI aQ vQ, k1_4 cI aQ vQ, k1_5 cJ aQ vQ, k1_6 cJ aQ vQ, k1_7 cJ aQ vQ, k1_8 cJ aQ vQ, k1_9 cJ aQ vQ] → va_S A s.heap H locs → lv_has ls 13 [(0, .ref (aQ 0)), (2, .long l2), (4, .long l4), (6, .int x6)] → k17 vL vQ l2 l4 x6 = some y → WW H locs 0 0 ls 17 []) (vQ : BX1) (l2 : Int64) (l4 : Int64) (x6 : Int32) (l7 : Int64) (l9 : Int64) (H : Heap) (locs : List Loc) (ls : Array Slot), va_P (dC, dI) vwCl [k0_0 aL vL, k0_1 cI aL vL, k0_2 cI aL vL, k0_3 cI aL vL, k0_4 cI aL vL, k1_0 aQ vQ, k1_1 cJ aQ vQ, k1_2 cI aQ vQ, k1_3 cI aQ vQ, k1_4 cI aQ vQ, k1_5 cJ aQ vQ, k1_6 cJ aQ vQ, k1_7 cJ aQ vQ, k1_8 cJ aQ vQ, k1_9 cJ aQ vQ] H → va_D A [k0_0 aL vL, k0_1 cI aL vL, k0_2 cI aL vL, k0_3 cI aL vL, k0_4 cI aL vL, k1_0 aQ vQ, k1_1 cJ aQ vQ, k1_2 cI aQ vQ, k1_3 cI aQ vQ, k1_4 cI aQ vQ, k1_5 cJ aQ vQ, k1_6 cJ aQ vQ, k1_7 cJ aQ vQ, k1_8 cJ aQ vQ, k1_9 cJ aQ vQ] → va_S A s.heap H locs → lv_has ls 13 [(0, .ref (aQ 0)), (2, .long l2), (4, .long l4), (6, .int x6), (7, .long l7), (9, .long l9)] → fX1_findPlaces_86 k17 vL vQ l2 l4 x6 l7 l9 = some y → WW H locs 0 0 ls 86 [] := by
    intro k17 hk17 vQ l2 l4 x6 l7 l9 H locs ls hP hD hS hl hf
    unfold fX1_findPlaces_86 at hf
    refine (hWW _ _ _ _ _ _ _).2 ?_
    refine lv_lload hx hb dX1_findPlaces_86 (lv_at hl 4 rfl) ?_
    refine lv_aload_n hx hb dX1_findPlaces_88 rfl (lv_at hl 0 rfl) ?_
    refine va_get (D := (dC, dI)) (ci := 1) (v := .ref (aQ 2)) (C := RX1) (T := TX1) (N := 10) hx hb hts hiX1 hown hK hP 5 rfl rfl 2 (by decide) hgX1_19 (fun _ h9 => h9) rfl dX1_findPlaces_89 ?_
    refine lv_iload hx hb dX1_findPlaces_92 (lv_at hl 3 rfl) ?_
    obtain ⟨hi13, hf⟩ := oinb rfl hf
    refine va_iald hx hb hK hP 7 0 rfl rfl hi13 dX1_findPlaces_94 ?_
    refine lv_i2l (v := (((p1_lowest vQ) (x6).toNatClampNeg)).toInt64) hx hb dX1_findPlaces_95 rfl ?_
    refine lv_lload hx hb dX1_findPlaces_96 (lv_at hl 5 rfl) ?_
    refine lv_lmul hx hb dX1_findPlaces_98 ?_
    refine W.lcmp hx hb dX1_findPlaces_99 ?_
    refine lv_if_lt (tgt := 133) hx hb dX1_findPlaces_100 (by decide) (fun c14 => ?_) (fun c14 => ?_)
    · have hf := oif_t c14 hf
      refine lv_iconst (v := 0) hx hb dX1_findPlaces_133 (by decide) ?_
      obtain rfl := Option.some.inj hf
      exact W.zret (v := 0) hx hb hr rfl (fun t ht hW => ⟨⟨0, (), rfl, rfl, by rw [ht]; exact hP, hD⟩, hS.F ht⟩) hS.2.2 dX1_findPlaces_134
    · have hf := oif_f c14 hf
      refine lv_lload hx hb dX1_findPlaces_103 (lv_at hl 4 rfl) ?_
      refine lv_aload_n hx hb dX1_findPlaces_105 rfl (lv_at hl 0 rfl) ?_
      refine va_get (D := (dC, dI)) (ci := 1) (v := .ref (aQ 3)) (C := RX1) (T := TX1) (N := 10) hx hb hts hiX1 hown hK hP 5 rfl rfl 3 (by decide) hgX1_23 (fun _ h9 => h9) rfl dX1_findPlaces_106 ?_
      refine lv_iload hx hb dX1_findPlaces_109 (lv_at hl 3 rfl) ?_
      obtain ⟨hi15, hf⟩ := oinb rfl hf
      refine va_iald hx hb hK hP 8 0 rfl rfl hi15 dX1_findPlaces_111 ?_
      refine lv_i2l (v := (((p1_highest vQ) (x6).toNatClampNeg)).toInt64) hx hb dX1_findPlaces_112 rfl ?_
      refine lv_lload hx hb dX1_findPlaces_113 (lv_at hl 5 rfl) ?_
      refine lv_lmul hx hb dX1_findPlaces_115 ?_
      refine W.lcmp hx hb dX1_findPlaces_116 ?_
      refine lv_if_gt (tgt := 133) hx hb dX1_findPlaces_117 (by decide) (fun c16 => ?_) (fun c16 => ?_)
      · have hf := oif_t c16 hf
        refine lv_iconst (v := 0) hx hb dX1_findPlaces_133 (by decide) ?_
        obtain rfl := Option.some.inj hf
        exact W.zret (v := 0) hx hb hr rfl (fun t ht hW => ⟨⟨0, (), rfl, rfl, by rw [ht]; exact hP, hD⟩, hS.F ht⟩) hS.2.2 dX1_findPlaces_134
      · have hf := oif_f c16 hf
        refine lv_lload hx hb dX1_findPlaces_120 (lv_at hl 4 rfl) ?_
        refine lv_lload hx hb dX1_findPlaces_122 (lv_at hl 2 rfl) ?_
        refine lv_lmul hx hb dX1_findPlaces_124 ?_
        refine lv_lload_n hx hb dX1_findPlaces_125 rfl (lv_at hl 1 rfl) ?_
        refine lv_lload hx hb dX1_findPlaces_126 (lv_at hl 5 rfl) ?_
        refine lv_lmul hx hb dX1_findPlaces_128 ?_
        refine W.lcmp hx hb dX1_findPlaces_129 ?_
        refine lv_if_le (tgt := 135) hx hb dX1_findPlaces_130 (by decide) (fun c17 => ?_) (fun c17 => ?_)
        · have hf := oif_t c17 hf
          refine lv_aload_n hx hb dX1_findPlaces_135 rfl (lv_at hl 0 rfl) ?_
          refine va_get (D := (dC, dI)) (ci := 1) (v := .ref (aQ 8)) (C := RX1) (T := TX1) (N := 10) hx hb hts hiX1 hown hK hP 5 rfl rfl 8 (by decide) hgX1_38 (fun _ h9 => h9) rfl dX1_findPlaces_136 ?_
          refine lv_iload hx hb dX1_findPlaces_139 (lv_at hl 3 rfl) ?_
          refine lv_lload hx hb dX1_findPlaces_141 (lv_at hl 4 rfl) ?_
          obtain ⟨hi18, hf⟩ := oinb rfl hf
          obtain ⟨b19, eb19, hf⟩ := elet_out hf
          refine va_last hx hb hK hP hD hS 13 1 rfl rfl hi18 dX1_findPlaces_143 (fun H locs hP hD hS => ?_)
          have hP : va_P (dC, dI) vwCl [k0_0 aL vL, k0_1 cI aL vL, k0_2 cI aL vL, k0_3 cI aL vL, k0_4 cI aL vL, k1_0 aQ b19, k1_1 cJ aQ b19, k1_2 cI aQ b19, k1_3 cI aQ b19, k1_4 cI aQ b19, k1_5 cJ aQ b19, k1_6 cJ aQ b19, k1_7 cJ aQ b19, k1_8 cJ aQ b19, k1_9 cJ aQ b19] H := by rw [eb19]; exact hP
          have hD : va_D A [k0_0 aL vL, k0_1 cI aL vL, k0_2 cI aL vL, k0_3 cI aL vL, k0_4 cI aL vL, k1_0 aQ b19, k1_1 cJ aQ b19, k1_2 cI aQ b19, k1_3 cI aQ b19, k1_4 cI aQ b19, k1_5 cJ aQ b19, k1_6 cJ aQ b19, k1_7 cJ aQ b19, k1_8 cJ aQ b19, k1_9 cJ aQ b19] := by rw [eb19]; exact hD
          refine lv_aload_n hx hb dX1_findPlaces_144 rfl (lv_at hl 0 rfl) ?_
          refine va_get (D := (dC, dI)) (ci := 1) (v := .ref (aQ 9)) (C := RX1) (T := TX1) (N := 10) hx hb hts hiX1 hown hK hP 5 rfl rfl 9 (by decide) hgX1_41 (fun _ h9 => h9) rfl dX1_findPlaces_145 ?_
          refine lv_iload hx hb dX1_findPlaces_148 (lv_at hl 3 rfl) ?_
          refine lv_lload hx hb dX1_findPlaces_150 (lv_at hl 5 rfl) ?_
          obtain ⟨hi20, hf⟩ := oinb rfl hf
          obtain ⟨b21, eb21, hf⟩ := elet_out hf
          refine va_last hx hb hK hP hD hS 14 1 rfl rfl hi20 dX1_findPlaces_152 (fun H locs hP hD hS => ?_)
          have hP : va_P (dC, dI) vwCl [k0_0 aL vL, k0_1 cI aL vL, k0_2 cI aL vL, k0_3 cI aL vL, k0_4 cI aL vL, k1_0 aQ b21, k1_1 cJ aQ b21, k1_2 cI aQ b21, k1_3 cI aQ b21, k1_4 cI aQ b21, k1_5 cJ aQ b21, k1_6 cJ aQ b21, k1_7 cJ aQ b21, k1_8 cJ aQ b21, k1_9 cJ aQ b21] H := by rw [eb21]; exact hP
          have hD : va_D A [k0_0 aL vL, k0_1 cI aL vL, k0_2 cI aL vL, k0_3 cI aL vL, k0_4 cI aL vL, k1_0 aQ b21, k1_1 cJ aQ b21, k1_2 cI aQ b21, k1_3 cI aQ b21, k1_4 cI aQ b21, k1_5 cJ aQ b21, k1_6 cJ aQ b21, k1_7 cJ aQ b21, k1_8 cJ aQ b21, k1_9 cJ aQ b21] := by rw [eb21]; exact hD
          refine lv_lload hx hb dX1_findPlaces_153 (lv_at hl 4 rfl) ?_
          refine lv_lstore_n (lv' := [(2, .long l7), (0, .ref (aQ 0)), (4, .long l4), (6, .int x6), (7, .long l7), (9, .long l9)]) hx hb dX1_findPlaces_155 rfl hl (by decide) rfl (fun ls hl => ?_)
          refine lv_lload hx hb dX1_findPlaces_156 (lv_at hl 5 rfl) ?_
          refine lv_lstore (lv' := [(4, .long l9), (2, .long l7), (0, .ref (aQ 0)), (6, .int x6), (7, .long l7), (9, .long l9)]) hx hb dX1_findPlaces_158 hl (by decide) rfl (fun ls hl => ?_)
          obtain ⟨z22, ez22, hf⟩ := elet_out hf
          refine lv_iinc (v := z22) (lv' := [(6, .int z22), (4, .long l9), (2, .long l7), (0, .ref (aQ 0)), (7, .long l7), (9, .long l9)]) hx hb dX1_findPlaces_160 hl (k := 3) rfl (by rw [ez22]; rfl) (by decide) rfl (fun ls hl => ?_)
          refine lv_goto (tgt := 17) hx hb dX1_findPlaces_163 (by decide) ?_
          exact (hWW _ _ _ _ _ _ _).1 (hk17 b21 l7 l9 z22 H locs ls hP hD hS (lv_sub hl [3, 2, 1, 0] rfl) hf)
        · have hf := oif_f c17 hf
          refine lv_iconst (v := 0) hx hb dX1_findPlaces_133 (by decide) ?_
          obtain rfl := Option.some.inj hf
          exact W.zret (v := 0) hx hb hr rfl (fun t ht hW => ⟨⟨0, (), rfl, rfl, by rw [ht]; exact hP, hD⟩, hS.F ht⟩) hS.2.2 dX1_findPlaces_134
  have L17 : ∀ (n : Nat) (vQ : BX1) (l2 : Int64) (l4 : Int64) (x6 : Int32) (H : Heap) (locs : List Loc) (ls : Array Slot), va_P (dC, dI) vwCl [k0_0 aL vL, k0_1 cI aL vL, k0_2 cI aL vL, k0_3 cI aL vL, k0_4 cI aL vL, k1_0 aQ vQ, k1_1 cJ aQ vQ, k1_2 cI aQ vQ, k1_3 cI aQ vQ, k1_4 cI aQ vQ, k1_5 cJ aQ vQ, k1_6 cJ aQ vQ, k1_7 cJ aQ vQ, k1_8 cJ aQ vQ, k1_9 cJ aQ vQ] H → va_D A [k0_0 aL vL, k0_1 cI aL vL, k0_2 cI aL vL, k0_3 cI aL vL, k0_4 cI aL vL, k1_0 aQ vQ, k1_1 cJ aQ vQ, k1_2 cI aQ vQ, k1_3 cI aQ vQ, k1_4 cI aQ vQ, k1_5 cJ aQ vQ, k1_6 cJ aQ vQ, k1_7 cJ aQ vQ, k1_8 cJ aQ vQ, k1_9 cJ aQ vQ] → va_S A s.heap H locs → lv_has ls 13 [(0, .ref (aQ 0)), (2, .long l2), (4, .long l4), (6, .int x6)] → fX1_findPlaces_17 n vL vQ l2 l4 x6 = some y → WW H locs 0 0 ls 17 [] := by
    intro n
    induction n with
    | zero =>
      intro vQ l2 l4 x6 H locs ls hP hD hS hl hf
      exact onone hf
    | succ n ih =>
      intro vQ l2 l4 x6 H locs ls hP hD hS hl hf
      have hf : fX1_findPlaces_17_b (fX1_findPlaces_17 n) vL vQ l2 l4 x6 = some y := hf
      generalize fX1_findPlaces_17 n = k17 at hf ih
      have hk17 := ih
      clear ih
      unfold fX1_findPlaces_17_b at hf
      refine (hWW _ _ _ _ _ _ _).2 ?_
      refine lv_iload hx hb dX1_findPlaces_17 (lv_at hl 3 rfl) ?_
      refine lv_if_lt (tgt := 166) hx hb dX1_findPlaces_19 (by decide) (fun c1 => ?_) (fun c1 => ?_)
      · have hf := oif_t c1 hf
        refine lv_iconst (v := 1) hx hb dX1_findPlaces_166 (by decide) ?_
        obtain rfl := Option.some.inj hf
        exact W.zret (v := 1) hx hb hr rfl (fun t ht hW => ⟨⟨1, (), rfl, rfl, by rw [ht]; exact hP, hD⟩, hS.F ht⟩) hS.2.2 dX1_findPlaces_167
      · have hf := oif_f c1 hf
        refine lv_aload_n hx hb dX1_findPlaces_22 rfl (lv_at hl 0 rfl) ?_
        refine va_get (D := (dC, dI)) (ci := 1) (v := .ref (aQ 5)) (C := RX1) (T := TX1) (N := 10) hx hb hts hiX1 hown hK hP 5 rfl rfl 5 (by decide) hgX1_29 (fun _ h9 => h9) rfl dX1_findPlaces_23 ?_
        refine lv_iload hx hb dX1_findPlaces_26 (lv_at hl 3 rfl) ?_
        obtain ⟨hi2, hf⟩ := oinb rfl hf
        refine va_lald hx hb hK hP 10 1 rfl rfl hi2 dX1_findPlaces_28 ?_
        refine lv_lload hx hb dX1_findPlaces_29 (lv_at hl 2 rfl) ?_
        refine lv_lmul hx hb dX1_findPlaces_31 ?_
        refine lv_aload_n hx hb dX1_findPlaces_32 rfl (lv_at hl 0 rfl) ?_
        refine va_get (D := (dC, dI)) (ci := 1) (v := .ref (aQ 6)) (C := RX1) (T := TX1) (N := 10) hx hb hts hiX1 hown hK hP 5 rfl rfl 6 (by decide) hgX1_32 (fun _ h9 => h9) rfl dX1_findPlaces_33 ?_
        refine lv_iload hx hb dX1_findPlaces_36 (lv_at hl 3 rfl) ?_
        obtain ⟨hi3, hf⟩ := oinb rfl hf
        refine va_lald hx hb hK hP 11 1 rfl rfl hi3 dX1_findPlaces_38 ?_
        refine lv_lload_n hx hb dX1_findPlaces_39 rfl (lv_at hl 1 rfl) ?_
        refine lv_lmul hx hb dX1_findPlaces_40 ?_
        refine lv_ladd hx hb dX1_findPlaces_41 ?_
        obtain ⟨z4, ez4, hf⟩ := elet_out hf
        refine lvn_l ez4 ?_
        refine lv_lstore (lv' := [(7, .long z4), (0, .ref (aQ 0)), (2, .long l2), (4, .long l4), (6, .int x6)]) hx hb dX1_findPlaces_42 hl (by decide) rfl (fun ls hl => ?_)
        refine lv_aload_n hx hb dX1_findPlaces_44 rfl (lv_at hl 1 rfl) ?_
        refine va_get (D := (dC, dI)) (ci := 1) (v := .ref (aQ 7)) (C := RX1) (T := TX1) (N := 10) hx hb hts hiX1 hown hK hP 5 rfl rfl 7 (by decide) hgX1_35 (fun _ h9 => h9) rfl dX1_findPlaces_45 ?_
        refine lv_iload hx hb dX1_findPlaces_48 (lv_at hl 4 rfl) ?_
        obtain ⟨hi5, hf⟩ := oinb rfl hf
        refine va_lald hx hb hK hP 12 1 rfl rfl hi5 dX1_findPlaces_50 ?_
        refine lv_lload hx hb dX1_findPlaces_51 (lv_at hl 3 rfl) ?_
        refine lv_lmul hx hb dX1_findPlaces_53 ?_
        obtain ⟨z6, ez6, hf⟩ := elet_out hf
        refine lvn_l ez6 ?_
        refine lv_lstore (lv' := [(9, .long z6), (7, .long z4), (0, .ref (aQ 0)), (2, .long l2), (4, .long l4), (6, .int x6)]) hx hb dX1_findPlaces_54 hl (by decide) rfl (fun ls hl => ?_)
        refine lv_lload hx hb dX1_findPlaces_56 (lv_at hl 1 rfl) ?_
        refine lv_lload hx hb dX1_findPlaces_58 (lv_at hl 0 rfl) ?_
        obtain ⟨y7, hy7, hf⟩ := obind hf
        refine cg_l (ws := [k0_0 aL vL, k0_1 cI aL vL, k0_2 cI aL vL, k0_3 cI aL vL, k0_4 cI aL vL, k1_0 aQ vQ, k1_1 cJ aQ vQ, k1_2 cI aQ vQ, k1_3 cI aQ vQ, k1_4 cI aQ vQ, k1_5 cJ aQ vQ, k1_6 cJ aQ vQ, k1_7 cJ aQ vQ, k1_8 cJ aQ vQ, k1_9 cJ aQ vQ]) (wc := []) (wr := [k0_0 aL vL, k0_1 cI aL vL, k0_2 cI aL vL, k0_3 cI aL vL, k0_4 cI aL vL, k1_0 aQ vQ, k1_1 cJ aQ vQ, k1_2 cI aQ vQ, k1_3 cI aQ vQ, k1_4 cI aQ vQ, k1_5 cJ aQ vQ, k1_6 cJ aQ vQ, k1_7 cJ aQ vQ, k1_8 cJ aQ vQ, k1_9 cJ aQ vQ]) (w1 := []) (wo := [k0_0 aL vL, k0_1 cI aL vL, k0_2 cI aL vL, k0_3 cI aL vL, k0_4 cI aL vL, k1_0 aQ vQ, k1_1 cJ aQ vQ, k1_2 cI aQ vQ, k1_3 cI aQ vQ, k1_4 cI aQ vQ, k1_5 cJ aQ vQ, k1_6 cJ aQ vQ, k1_7 cJ aQ vQ, k1_8 cJ aQ vQ, k1_9 cJ aQ vQ]) hP hD hS hA (va_runSN (As := [.long z4, .long z6]) (rest := []) ⟨hx, hb, hml, hown, hts⟩ (mX3_greatestDivisor l dC dI cI cJ  H.size z4 z6 y7 hy7) ⟨va_cnB 2 hts gX1_findPlaces_X3_greatestDivisor_n115 rfl rfl rfl hN.1.2.2.2 (hts (.initialized RX3) (by decide +kernel)) (by decide +kernel) ⟨Nat.le_of_ble_eq_true rfl, Nat.le_of_ble_eq_true rfl⟩, hts (.static yX3_greatestDivisor) (by decide +kernel), trivial⟩ ⟨cFB, cPre hK hN hS (va_free (wc := []) hD hS hA [] rfl) (hP.sub [] rfl) (hD.sub [] rfl rfl)⟩ rfl rfl hl.1 rfl (lv_room (Nat.le_of_ble_eq_true rfl)) dX1_findPlaces_60 ⟨Nat.le_of_ble_eq_true rfl, Nat.le_of_ble_eq_true rfl⟩) [] [0, 1, 2, 3, 4, 5, 6, 7, 8, 9, 10, 11, 12, 13, 14] [0, 1, 2, 3, 4, 5, 6, 7, 8, 9, 10, 11, 12, 13, 14] rfl rfl rfl (by decide +kernel) rfl rfl (fun H locs hP hD hS => ?_)
        refine lv_lstore (lv' := [(11, .long y7), (9, .long z6), (7, .long z4), (0, .ref (aQ 0)), (2, .long l2), (4, .long l4), (6, .int x6)]) hx hb dX1_findPlaces_63 hl (by decide) rfl (fun ls hl => ?_)
        refine lv_lload hx hb dX1_findPlaces_65 (lv_at hl 0 rfl) ?_
        refine lv_lconst (v := 1) hx hb dX1_findPlaces_67 (by decide) ?_
        refine W.lcmp hx hb dX1_findPlaces_68 ?_
        refine lv_if_le (tgt := 86) hx hb dX1_findPlaces_69 (by decide) (fun c8 => ?_) (fun c8 => ?_)
        · have hf := oif_t c8 hf
          exact (hWW _ _ _ _ _ _ _).1 (J86 k17 hk17 vQ l2 l4 x6 z4 z6 H locs ls hP hD hS (lv_sub hl [3, 4, 5, 6, 2, 1] rfl) hf)
        · have hf := oif_f c8 hf
          refine lv_lload hx hb dX1_findPlaces_72 (lv_at hl 2 rfl) ?_
          refine lv_lload hx hb dX1_findPlaces_74 (lv_at hl 0 rfl) ?_
          obtain ⟨hd9, hf⟩ := odiv hf
          refine lv_ldiv hx hb dX1_findPlaces_76 hd9 ?_
          obtain ⟨z10, ez10, hf⟩ := elet_out hf
          refine lvn_l ez10 ?_
          refine lv_lstore (lv' := [(7, .long z10), (11, .long y7), (9, .long z6), (0, .ref (aQ 0)), (2, .long l2), (4, .long l4), (6, .int x6)]) hx hb dX1_findPlaces_77 hl (by decide) rfl (fun ls hl => ?_)
          refine lv_lload hx hb dX1_findPlaces_79 (lv_at hl 2 rfl) ?_
          refine lv_lload hx hb dX1_findPlaces_81 (lv_at hl 1 rfl) ?_
          obtain ⟨hd11, hf⟩ := odiv hf
          refine lv_ldiv hx hb dX1_findPlaces_83 hd11 ?_
          obtain ⟨z12, ez12, hf⟩ := elet_out hf
          refine lvn_l ez12 ?_
          refine lv_lstore (lv' := [(9, .long z12), (7, .long z10), (11, .long y7), (0, .ref (aQ 0)), (2, .long l2), (4, .long l4), (6, .int x6)]) hx hb dX1_findPlaces_84 hl (by decide) rfl (fun ls hl => ?_)
          exact (hWW _ _ _ _ _ _ _).1 (J86 k17 hk17 vQ l2 l4 x6 z10 z12 H locs ls hP hD hS (lv_sub hl [3, 4, 5, 6, 1, 0] rfl) hf)
  refine (hWW _ _ _ _ _ _ _).2 ?_
  unfold fX1_findPlaces at hf
  refine lv_aload_n hx hb dX1_findPlaces_0 rfl (lv_at hl 1 rfl) ?_
  refine va_get (D := (dC, dI)) (ci := 0) (v := .int (p0_width vL)) (C := RX0) (T := TX0) (N := 6) hx hb hts hiX0 hown hK hP 0 rfl rfl 0 (by decide) hgX0_102 (fun _ h9 => h9) rfl dX1_findPlaces_1 ?_
  refine lv_i2l (v := ((p0_width vL)).toInt64) hx hb dX1_findPlaces_4 rfl ?_
  obtain ⟨z23, ez23, hf⟩ := elet_out hf
  refine lvn_l ez23 ?_
  refine lv_lstore_n (lv' := [(2, .long z23), (0, .ref (aQ 0)), (1, .ref (aL 0))]) hx hb dX1_findPlaces_5 rfl hl (by decide) rfl (fun ls hl => ?_)
  refine lv_lconst (v := 1) hx hb dX1_findPlaces_6 (by decide) ?_
  refine lv_lstore (lv' := [(4, .long 1), (2, .long z23), (0, .ref (aQ 0)), (1, .ref (aL 0))]) hx hb dX1_findPlaces_7 hl (by decide) rfl (fun ls hl => ?_)
  refine lv_aload_n hx hb dX1_findPlaces_9 rfl (lv_at hl 3 rfl) ?_
  refine va_get (D := (dC, dI)) (ci := 0) (v := .int (p0_plates vL)) (C := RX0) (T := TX0) (N := 6) hx hb hts hiX0 hown hK hP 0 rfl rfl 1 (by decide) hgX0_74 (fun _ h9 => h9) rfl dX1_findPlaces_10 ?_
  refine lv_iconst (v := 1) hx hb dX1_findPlaces_13 (by decide) ?_
  refine lv_isub hx hb dX1_findPlaces_14 ?_
  obtain ⟨z24, ez24, hf⟩ := elet_out hf
  refine lvn_i ez24 ?_
  refine lv_istore (lv' := [(6, .int z24), (4, .long 1), (2, .long z23), (0, .ref (aQ 0)), (1, .ref (aL 0))]) hx hb dX1_findPlaces_15 hl (by decide) rfl (fun ls hl => ?_)
  exact (hWW _ _ _ _ _ _ _).1 (L17 FU vQ z23 (1 : Int64) z24 H locs ls hP hD hS (lv_sub hl [3, 2, 1, 0] rfl) hf)
def fX1_shareLower_52 (k7 : BX0 → BX1 → Int32 → Option BX1) (vL : BX0) (vQ : BX1) (x2 : Int32) : Option BX1 :=
  elet (x2 + 1) (fun z9 => k7 vL vQ z9)
def fX1_shareLower_112 (k67 : BX0 → BX1 → Int32 → Option BX1) (vL : BX0) (vQ : BX1) (x2 : Int32) : Option BX1 :=
  elet (x2 + 1) (fun z20 => k67 vL vQ z20)
def fX1_shareLower_67_b (k67 : BX0 → BX1 → Int32 → Option BX1) (vL : BX0) (vQ : BX1) (x2 : Int32) : Option BX1 :=
  if (p0_plates vL) ≤ x2 then (if inB ((p0_plates vL) + (1 : Int32)) 6 = true then (elet (s1_spots vQ (vp_updL (p1_spots vQ) (((p0_plates vL) + (1 : Int32))).toNatClampNeg (((p0_width vL)).toInt64 * (p1_lower vQ)))) (fun b12 => some b12)) else none) else (if inB x2 4 = true then (if (lg_cmp ((p1_lowers vQ) (x2).toNatClampNeg) (0 : Int64)) ≤ 0 then (fX1_shareLower_112 k67 vL vQ x2) else (if inB x2 4 = true then (if inB x2 4 = true then (if ((p1_lowers vQ) (x2).toNatClampNeg) = 0 then none else (if inB (x2 + (1 : Int32)) 6 = true then (elet (s1_spots vQ (vp_updL (p1_spots vQ) ((x2 + (1 : Int32))).toNatClampNeg (((p1_uppers vQ) (x2).toNatClampNeg) * ((p1_lower vQ) / ((p1_lowers vQ) (x2).toNatClampNeg))))) (fun b19 => fX1_shareLower_112 k67 vL b19 x2)) else none)) else none) else none)) else none)
def fX1_shareLower_67 : Nat → BX0 → BX1 → Int32 → Option BX1
  | 0 => fun _ _ _ => none
  | n + 1 => fX1_shareLower_67_b (fX1_shareLower_67 n)
def fX1_shareLower_7_b (k7 : BX0 → BX1 → Int32 → Option BX1) (vL : BX0) (vQ : BX1) (x2 : Int32) : Option BX1 :=
  if (p0_plates vL) ≤ x2 then (elet (s1_spots vQ (vp_updL (p1_spots vQ) ((0 : Int32)).toNatClampNeg 0)) (fun b2 => fX1_shareLower_67 FU vL b2 (0 : Int32))) else (if inB x2 4 = true then ((fX3_greatestDivisor (p1_lower vQ) ((p1_lowers vQ) (x2).toNatClampNeg)).bind (fun y4 => if (lg_cmp y4 (0 : Int64)) ≤ 0 then (fX1_shareLower_52 k7 vL vQ x2) else (if y4 = 0 then none else (if inB x2 4 = true then (elet (s1_lower vQ (((p1_lower vQ) / y4) * ((p1_lowers vQ) (x2).toNatClampNeg))) (fun b8 => fX1_shareLower_52 k7 vL b8 x2)) else none)))) else none)
def fX1_shareLower_7 : Nat → BX0 → BX1 → Int32 → Option BX1
  | 0 => fun _ _ _ => none
  | n + 1 => fX1_shareLower_7_b (fX1_shareLower_7 n)
def fX1_shareLower (vL : BX0) (vQ : BX1) : Option BX1 :=
  elet (s1_lower vQ 1) (fun b21 => fX1_shareLower_7 FU vL b21 (0 : Int32))
set_option maxHeartbeats 8000000 in
set_option maxRecDepth 100000 in
theorem mX1_shareLower (l : Launch) (dC : Nat → ClassId) (dI : Nat → Nat → Nat) (cI cJ : ClassId) (aL : Nat → Nat) (aQ : Nat → Nat) (sz : Nat) (vL : BX0) (vQ : BX1) (y : BX1) (hf : fX1_shareLower vL vQ = some y) : Met l yX1_shareLower wsX1_shareLower ({ frames := 2, cells := 0, slots := 0, locals := 53 }) (cPc dC dI cI cJ [.ref (aQ 0), .ref (aL 0)] [k0_0 aL vL, k0_1 cI aL vL, k0_2 cI aL vL, k0_3 cI aL vL, k0_4 cI aL vL, k1_0 aQ vQ, k1_1 cJ aQ vQ, k1_2 cI aQ vQ, k1_3 cI aQ vQ, k1_4 cI aQ vQ, k1_5 cJ aQ vQ, k1_6 cJ aQ vQ, k1_7 cJ aQ vQ, k1_8 cJ aQ vQ, k1_9 cJ aQ vQ] sz) (va_Qv (fun (_ : Unit) => True) (fun _ t => cB dC dI (va_A [k0_0 aL vL, k0_1 cI aL vL, k0_2 cI aL vL, k0_3 cI aL vL, k0_4 cI aL vL, k1_0 aQ vQ, k1_1 cJ aQ vQ, k1_2 cI aQ vQ, k1_3 cI aQ vQ, k1_4 cI aQ vQ, k1_5 cJ aQ vQ, k1_6 cJ aQ vQ, k1_7 cJ aQ vQ, k1_8 cJ aQ vQ, k1_9 cJ aQ vQ] sz) [k0_0 aL vL, k0_1 cI aL vL, k0_2 cI aL vL, k0_3 cI aL vL, k0_4 cI aL vL, k1_0 aQ y, k1_1 cJ aQ y, k1_2 cI aQ y, k1_3 cI aQ y, k1_4 cI aQ y, k1_5 cJ aQ y, k1_6 cJ aQ y, k1_7 cJ aQ y, k1_8 cJ aQ y, k1_9 cJ aQ y] t) (va_A [k0_0 aL vL, k0_1 cI aL vL, k0_2 cI aL vL, k0_3 cI aL vL, k0_4 cI aL vL, k1_0 aQ vQ, k1_1 cJ aQ vQ, k1_2 cI aQ vQ, k1_3 cI aQ vQ, k1_4 cI aQ vQ, k1_5 cJ aQ vQ, k1_6 cJ aQ vQ, k1_7 cJ aQ vQ, k1_8 cJ aQ vQ, k1_9 cJ aQ vQ] sz)) 0 0 (va_A [k0_0 aL vL, k0_1 cI aL vL, k0_2 cI aL vL, k0_3 cI aL vL, k0_4 cI aL vL, k1_0 aQ vQ, k1_1 cJ aQ vQ, k1_2 cI aQ vQ, k1_3 cI aQ vQ, k1_4 cI aQ vQ, k1_5 cJ aQ vQ, k1_6 cJ aQ vQ, k1_7 cJ aQ vQ, k1_8 cJ aQ vQ, k1_9 cJ aQ vQ] sz) := by
  refine Met.ofW (cc := cX1_shareLower) (maxL := 5) (ret := none) (by decide) rfl ?_
  intro p e s m args below meth c s₁ B hml hv
  obtain ⟨rfl, hsz, hP, hK, hD0, hN⟩ := hv
  have hx := B.exec
  have hb := B.bytes
  have hr := B.returns
  have hts := atoms_spec (ws := wsX1_shareLower) B.pre
  have hown : s.vm.findClass RX1 = some m.cls := findClass_of_methodNamed B.named
  have hlocks := B.notSynchronized
  subst hsz
  have hD := hD0.self (sz := s.heap.size)
  generalize hAe : va_A [k0_0 aL vL, k0_1 cI aL vL, k0_2 cI aL vL, k0_3 cI aL vL, k0_4 cI aL vL, k1_0 aQ vQ, k1_1 cJ aQ vQ, k1_2 cI aQ vQ, k1_3 cI aQ vQ, k1_4 cI aQ vQ, k1_5 cJ aQ vQ, k1_6 cJ aQ vQ, k1_7 cJ aQ vQ, k1_8 cJ aQ vQ, k1_9 cJ aQ vQ] s.heap.size = A at hD hN ⊢
  have hA : ∀ q : Nat, s.heap.size ≤ q → A q := fun q h => by rw [← hAe]; exact Or.inr h
  have hP : va_P (dC, dI) vwCl [k0_0 aL vL, k0_1 cI aL vL, k0_2 cI aL vL, k0_3 cI aL vL, k0_4 cI aL vL, k1_0 aQ vQ, k1_1 cJ aQ vQ, k1_2 cI aQ vQ, k1_3 cI aQ vQ, k1_4 cI aQ vQ, k1_5 cJ aQ vQ, k1_6 cJ aQ vQ, k1_7 cJ aQ vQ, k1_8 cJ aQ vQ, k1_9 cJ aQ vQ] s.heap := hP
  have hl := lv_entry ([.ref (aQ 0), .ref (aL 0)]) (n := 5) (Nat.le_of_ble_eq_true rfl)
  rw [lg_entry_eq]
  generalize (lg_sl ([.ref (aQ 0), .ref (aL 0)]) ++ List.replicate (5 - (lg_sl ([.ref (aQ 0), .ref (aL 0)])).length) Slot.unset).toArray = ls at hl ⊢
  have hl : lv_has ls 5 [(0, .ref (aQ 0)), (1, .ref (aL 0))] := hl
  have hiX0 : ∀ w ∈ u_ws RX0 TX0 6, w ∈ wsX1_shareLower := by decide +kernel
  have hgX0_74 := hts (.fieldLink RX1 74 "SpringPlates$Layout" "plates" "I") (by decide +kernel)
  have hiX1 : ∀ w ∈ u_ws RX1 TX1 10, w ∈ wsX1_shareLower := by decide +kernel
  have hgX1_9 := hts (.fieldLink RX1 9 "SpringPlates$Rest" "spots" "[J") (by decide +kernel)
  have hgX1_15 := hts (.fieldLink RX1 15 "SpringPlates$Rest" "lower" "J") (by decide +kernel)
  have hgX1_41 := hts (.fieldLink RX1 41 "SpringPlates$Rest" "lowers" "[J") (by decide +kernel)
  have hgX0_102 := hts (.fieldLink RX1 102 "SpringPlates$Layout" "width" "I") (by decide +kernel)
  have hgX1_38 := hts (.fieldLink RX1 38 "SpringPlates$Rest" "uppers" "[J") (by decide +kernel)
  refine nameH (fun H locs hHe hLe => ?_)
  have hP : va_P (dC, dI) vwCl [k0_0 aL vL, k0_1 cI aL vL, k0_2 cI aL vL, k0_3 cI aL vL, k0_4 cI aL vL, k1_0 aQ vQ, k1_1 cJ aQ vQ, k1_2 cI aQ vQ, k1_3 cI aQ vQ, k1_4 cI aQ vQ, k1_5 cJ aQ vQ, k1_6 cJ aQ vQ, k1_7 cJ aQ vQ, k1_8 cJ aQ vQ, k1_9 cJ aQ vQ] H := by rw [hHe]; exact hP
  have hS : va_S A s.heap H locs := by rw [hHe, hLe]; exact va_S.rf
  refine withW (fun WW hWW => ?_)
  have J52 : ∀ (k7 : BX0 → BX1 → Int32 → Option BX1) (hk7 : ∀ (vQ : BX1) (x2 : Int32) (H : Heap) (locs : List Loc) (ls : Array Slot), va_P (dC, dI) vwCl [k0_0 aL vL, k0_1 cI aL vL, k0_2 cI aL vL, k0_3 cI aL vL, k0_4 cI aL vL, k1_0 aQ vQ, k1_1 cJ aQ vQ, k1_2 cI aQ vQ, k1_3 cI aQ vQ, k1_4 cI aQ vQ, k1_5 cJ aQ vQ, k1_6 cJ aQ vQ, k1_7 cJ aQ vQ, k1_8 cJ aQ vQ, k1_9 cJ aQ vQ] H → va_D A [k0_0 aL vL, k0_1 cI aL vL, k0_2 cI aL vL, k0_3 cI aL vL, k0_4 cI aL vL, k1_0 aQ vQ, k1_1 cJ aQ vQ, k1_2 cI aQ vQ, k1_3 cI aQ vQ, k1_4 cI aQ vQ, k1_5 cJ aQ vQ, k1_6 cJ aQ vQ, k1_7 cJ aQ vQ, k1_8 cJ aQ vQ, k1_9 cJ aQ vQ] → va_S A s.heap H locs → lv_has ls 5 [(0, .ref (aQ 0)), (1, .ref (aL 0)), (2, .int x2)] → k7 vL vQ x2 = some y → WW H locs 0 0 ls 7 []) (vQ : BX1) (x2 : Int32) (H : Heap) (locs : List Loc) (ls : Array Slot), va_P (dC, dI) vwCl [k0_0 aL vL, k0_1 cI aL vL, k0_2 cI aL vL, k0_3 cI aL vL, k0_4 cI aL vL, k1_0 aQ vQ, k1_1 cJ aQ vQ, k1_2 cI aQ vQ, k1_3 cI aQ vQ, k1_4 cI aQ vQ, k1_5 cJ aQ vQ, k1_6 cJ aQ vQ, k1_7 cJ aQ vQ, k1_8 cJ aQ vQ, k1_9 cJ aQ vQ] H → va_D A [k0_0 aL vL, k0_1 cI aL vL, k0_2 cI aL vL, k0_3 cI aL vL, k0_4 cI aL vL, k1_0 aQ vQ, k1_1 cJ aQ vQ, k1_2 cI aQ vQ, k1_3 cI aQ vQ, k1_4 cI aQ vQ, k1_5 cJ aQ vQ, k1_6 cJ aQ vQ, k1_7 cJ aQ vQ, k1_8 cJ aQ vQ, k1_9 cJ aQ vQ] → va_S A s.heap H locs → lv_has ls 5 [(0, .ref (aQ 0)), (1, .ref (aL 0)), (2, .int x2)] → fX1_shareLower_52 k7 vL vQ x2 = some y → WW H locs 0 0 ls 52 [] := by
    intro k7 hk7 vQ x2 H locs ls hP hD hS hl hf
    unfold fX1_shareLower_52 at hf
    refine (hWW _ _ _ _ _ _ _).2 ?_
    obtain ⟨z9, ez9, hf⟩ := elet_out hf
    refine lv_iinc (v := z9) (lv' := [(2, .int z9), (0, .ref (aQ 0)), (1, .ref (aL 0))]) hx hb dX1_shareLower_52 hl (k := 2) rfl (by rw [ez9]; rfl) (by decide) rfl (fun ls hl => ?_)
    refine lv_goto (tgt := 7) hx hb dX1_shareLower_55 (by decide) ?_
    exact (hWW _ _ _ _ _ _ _).1 (hk7 vQ z9 H locs ls hP hD hS (lv_sub hl [1, 2, 0] rfl) hf)
  have J112 : ∀ (k67 : BX0 → BX1 → Int32 → Option BX1) (hk67 : ∀ (vQ : BX1) (x2 : Int32) (H : Heap) (locs : List Loc) (ls : Array Slot), va_P (dC, dI) vwCl [k0_0 aL vL, k0_1 cI aL vL, k0_2 cI aL vL, k0_3 cI aL vL, k0_4 cI aL vL, k1_0 aQ vQ, k1_1 cJ aQ vQ, k1_2 cI aQ vQ, k1_3 cI aQ vQ, k1_4 cI aQ vQ, k1_5 cJ aQ vQ, k1_6 cJ aQ vQ, k1_7 cJ aQ vQ, k1_8 cJ aQ vQ, k1_9 cJ aQ vQ] H → va_D A [k0_0 aL vL, k0_1 cI aL vL, k0_2 cI aL vL, k0_3 cI aL vL, k0_4 cI aL vL, k1_0 aQ vQ, k1_1 cJ aQ vQ, k1_2 cI aQ vQ, k1_3 cI aQ vQ, k1_4 cI aQ vQ, k1_5 cJ aQ vQ, k1_6 cJ aQ vQ, k1_7 cJ aQ vQ, k1_8 cJ aQ vQ, k1_9 cJ aQ vQ] → va_S A s.heap H locs → lv_has ls 5 [(0, .ref (aQ 0)), (1, .ref (aL 0)), (2, .int x2)] → k67 vL vQ x2 = some y → WW H locs 0 0 ls 67 []) (vQ : BX1) (x2 : Int32) (H : Heap) (locs : List Loc) (ls : Array Slot), va_P (dC, dI) vwCl [k0_0 aL vL, k0_1 cI aL vL, k0_2 cI aL vL, k0_3 cI aL vL, k0_4 cI aL vL, k1_0 aQ vQ, k1_1 cJ aQ vQ, k1_2 cI aQ vQ, k1_3 cI aQ vQ, k1_4 cI aQ vQ, k1_5 cJ aQ vQ, k1_6 cJ aQ vQ, k1_7 cJ aQ vQ, k1_8 cJ aQ vQ, k1_9 cJ aQ vQ] H → va_D A [k0_0 aL vL, k0_1 cI aL vL, k0_2 cI aL vL, k0_3 cI aL vL, k0_4 cI aL vL, k1_0 aQ vQ, k1_1 cJ aQ vQ, k1_2 cI aQ vQ, k1_3 cI aQ vQ, k1_4 cI aQ vQ, k1_5 cJ aQ vQ, k1_6 cJ aQ vQ, k1_7 cJ aQ vQ, k1_8 cJ aQ vQ, k1_9 cJ aQ vQ] → va_S A s.heap H locs → lv_has ls 5 [(0, .ref (aQ 0)), (1, .ref (aL 0)), (2, .int x2)] → fX1_shareLower_112 k67 vL vQ x2 = some y → WW H locs 0 0 ls 112 [] := by
    intro k67 hk67 vQ x2 H locs ls hP hD hS hl hf
    unfold fX1_shareLower_112 at hf
    refine (hWW _ _ _ _ _ _ _).2 ?_
    obtain ⟨z20, ez20, hf⟩ := elet_out hf
    refine lv_iinc (v := z20) (lv' := [(2, .int z20), (0, .ref (aQ 0)), (1, .ref (aL 0))]) hx hb dX1_shareLower_112 hl (k := 2) rfl (by rw [ez20]; rfl) (by decide) rfl (fun ls hl => ?_)
    refine lv_goto (tgt := 67) hx hb dX1_shareLower_115 (by decide) ?_
    exact (hWW _ _ _ _ _ _ _).1 (hk67 vQ z20 H locs ls hP hD hS (lv_sub hl [1, 2, 0] rfl) hf)
  have L67 : ∀ (n : Nat) (vQ : BX1) (x2 : Int32) (H : Heap) (locs : List Loc) (ls : Array Slot), va_P (dC, dI) vwCl [k0_0 aL vL, k0_1 cI aL vL, k0_2 cI aL vL, k0_3 cI aL vL, k0_4 cI aL vL, k1_0 aQ vQ, k1_1 cJ aQ vQ, k1_2 cI aQ vQ, k1_3 cI aQ vQ, k1_4 cI aQ vQ, k1_5 cJ aQ vQ, k1_6 cJ aQ vQ, k1_7 cJ aQ vQ, k1_8 cJ aQ vQ, k1_9 cJ aQ vQ] H → va_D A [k0_0 aL vL, k0_1 cI aL vL, k0_2 cI aL vL, k0_3 cI aL vL, k0_4 cI aL vL, k1_0 aQ vQ, k1_1 cJ aQ vQ, k1_2 cI aQ vQ, k1_3 cI aQ vQ, k1_4 cI aQ vQ, k1_5 cJ aQ vQ, k1_6 cJ aQ vQ, k1_7 cJ aQ vQ, k1_8 cJ aQ vQ, k1_9 cJ aQ vQ] → va_S A s.heap H locs → lv_has ls 5 [(0, .ref (aQ 0)), (1, .ref (aL 0)), (2, .int x2)] → fX1_shareLower_67 n vL vQ x2 = some y → WW H locs 0 0 ls 67 [] := by
    intro n
    induction n with
    | zero =>
      intro vQ x2 H locs ls hP hD hS hl hf
      exact onone hf
    | succ n ih =>
      intro vQ x2 H locs ls hP hD hS hl hf
      have hf : fX1_shareLower_67_b (fX1_shareLower_67 n) vL vQ x2 = some y := hf
      generalize fX1_shareLower_67 n = k67 at hf ih
      have hk67 := ih
      clear ih
      unfold fX1_shareLower_67_b at hf
      refine (hWW _ _ _ _ _ _ _).2 ?_
      refine lv_iload_n hx hb dX1_shareLower_67 rfl (lv_at hl 2 rfl) ?_
      refine lv_aload_n hx hb dX1_shareLower_68 rfl (lv_at hl 1 rfl) ?_
      refine va_get (D := (dC, dI)) (ci := 0) (v := .int (p0_plates vL)) (C := RX0) (T := TX0) (N := 6) hx hb hts hiX0 hown hK hP 0 rfl rfl 1 (by decide) hgX0_74 (fun _ h9 => h9) rfl dX1_shareLower_69 ?_
      refine lv_icmp_ge (tgt := 118) hx hb dX1_shareLower_72 (by decide) (fun c10 => ?_) (fun c10 => ?_)
      · have hf := oif_t c10 hf
        refine lv_aload_n hx hb dX1_shareLower_118 rfl (lv_at hl 0 rfl) ?_
        refine va_get (D := (dC, dI)) (ci := 1) (v := .ref (aQ 1)) (C := RX1) (T := TX1) (N := 10) hx hb hts hiX1 hown hK hP 5 rfl rfl 0 (by decide) hgX1_9 (fun _ h9 => h9) rfl dX1_shareLower_119 ?_
        refine lv_aload_n hx hb dX1_shareLower_122 rfl (lv_at hl 1 rfl) ?_
        refine va_get (D := (dC, dI)) (ci := 0) (v := .int (p0_plates vL)) (C := RX0) (T := TX0) (N := 6) hx hb hts hiX0 hown hK hP 0 rfl rfl 1 (by decide) hgX0_74 (fun _ h9 => h9) rfl dX1_shareLower_123 ?_
        refine lv_iconst (v := 1) hx hb dX1_shareLower_126 (by decide) ?_
        refine lv_iadd hx hb dX1_shareLower_127 ?_
        refine lv_aload_n hx hb dX1_shareLower_128 rfl (lv_at hl 1 rfl) ?_
        refine va_get (D := (dC, dI)) (ci := 0) (v := .int (p0_width vL)) (C := RX0) (T := TX0) (N := 6) hx hb hts hiX0 hown hK hP 0 rfl rfl 0 (by decide) hgX0_102 (fun _ h9 => h9) rfl dX1_shareLower_129 ?_
        refine lv_i2l (v := ((p0_width vL)).toInt64) hx hb dX1_shareLower_132 rfl ?_
        refine lv_aload_n hx hb dX1_shareLower_133 rfl (lv_at hl 0 rfl) ?_
        refine va_get (D := (dC, dI)) (ci := 1) (v := .long (p1_lower vQ)) (C := RX1) (T := TX1) (N := 10) hx hb hts hiX1 hown hK hP 5 rfl rfl 1 (by decide) hgX1_15 (fun _ h9 => h9) rfl dX1_shareLower_134 ?_
        refine lv_lmul hx hb dX1_shareLower_137 ?_
        obtain ⟨hi11, hf⟩ := oinb rfl hf
        obtain ⟨b12, eb12, hf⟩ := elet_out hf
        refine va_last hx hb hK hP hD hS 6 1 rfl rfl hi11 dX1_shareLower_138 (fun H locs hP hD hS => ?_)
        have hP : va_P (dC, dI) vwCl [k0_0 aL vL, k0_1 cI aL vL, k0_2 cI aL vL, k0_3 cI aL vL, k0_4 cI aL vL, k1_0 aQ b12, k1_1 cJ aQ b12, k1_2 cI aQ b12, k1_3 cI aQ b12, k1_4 cI aQ b12, k1_5 cJ aQ b12, k1_6 cJ aQ b12, k1_7 cJ aQ b12, k1_8 cJ aQ b12, k1_9 cJ aQ b12] H := by rw [eb12]; exact hP
        have hD : va_D A [k0_0 aL vL, k0_1 cI aL vL, k0_2 cI aL vL, k0_3 cI aL vL, k0_4 cI aL vL, k1_0 aQ b12, k1_1 cJ aQ b12, k1_2 cI aQ b12, k1_3 cI aQ b12, k1_4 cI aQ b12, k1_5 cJ aQ b12, k1_6 cJ aQ b12, k1_7 cJ aQ b12, k1_8 cJ aQ b12, k1_9 cJ aQ b12] := by rw [eb12]; exact hD
        obtain rfl := Option.some.inj hf
        exact W.vret hx hb hr (fun t ht hW => ⟨⟨(), rfl, trivial, by rw [ht]; exact hP, hD⟩, hS.F ht⟩) hS.2.2 dX1_shareLower_139
      · have hf := oif_f c10 hf
        refine lv_aload_n hx hb dX1_shareLower_75 rfl (lv_at hl 0 rfl) ?_
        refine va_get (D := (dC, dI)) (ci := 1) (v := .ref (aQ 9)) (C := RX1) (T := TX1) (N := 10) hx hb hts hiX1 hown hK hP 5 rfl rfl 9 (by decide) hgX1_41 (fun _ h9 => h9) rfl dX1_shareLower_76 ?_
        refine lv_iload_n hx hb dX1_shareLower_79 rfl (lv_at hl 2 rfl) ?_
        obtain ⟨hi13, hf⟩ := oinb rfl hf
        refine va_lald hx hb hK hP 14 1 rfl rfl hi13 dX1_shareLower_80 ?_
        refine lv_lconst (v := 0) hx hb dX1_shareLower_81 (by decide) ?_
        refine W.lcmp hx hb dX1_shareLower_82 ?_
        refine lv_if_le (tgt := 112) hx hb dX1_shareLower_83 (by decide) (fun c14 => ?_) (fun c14 => ?_)
        · have hf := oif_t c14 hf
          exact (hWW _ _ _ _ _ _ _).1 (J112 k67 hk67 vQ x2 H locs ls hP hD hS (lv_sub hl [0, 1, 2] rfl) hf)
        · have hf := oif_f c14 hf
          refine lv_aload_n hx hb dX1_shareLower_86 rfl (lv_at hl 0 rfl) ?_
          refine va_get (D := (dC, dI)) (ci := 1) (v := .ref (aQ 1)) (C := RX1) (T := TX1) (N := 10) hx hb hts hiX1 hown hK hP 5 rfl rfl 0 (by decide) hgX1_9 (fun _ h9 => h9) rfl dX1_shareLower_87 ?_
          refine lv_iload_n hx hb dX1_shareLower_90 rfl (lv_at hl 2 rfl) ?_
          refine lv_iconst (v := 1) hx hb dX1_shareLower_91 (by decide) ?_
          refine lv_iadd hx hb dX1_shareLower_92 ?_
          refine lv_aload_n hx hb dX1_shareLower_93 rfl (lv_at hl 0 rfl) ?_
          refine va_get (D := (dC, dI)) (ci := 1) (v := .ref (aQ 8)) (C := RX1) (T := TX1) (N := 10) hx hb hts hiX1 hown hK hP 5 rfl rfl 8 (by decide) hgX1_38 (fun _ h9 => h9) rfl dX1_shareLower_94 ?_
          refine lv_iload_n hx hb dX1_shareLower_97 rfl (lv_at hl 2 rfl) ?_
          obtain ⟨hi15, hf⟩ := oinb rfl hf
          refine va_lald hx hb hK hP 13 1 rfl rfl hi15 dX1_shareLower_98 ?_
          refine lv_aload_n hx hb dX1_shareLower_99 rfl (lv_at hl 0 rfl) ?_
          refine va_get (D := (dC, dI)) (ci := 1) (v := .long (p1_lower vQ)) (C := RX1) (T := TX1) (N := 10) hx hb hts hiX1 hown hK hP 5 rfl rfl 1 (by decide) hgX1_15 (fun _ h9 => h9) rfl dX1_shareLower_100 ?_
          refine lv_aload_n hx hb dX1_shareLower_103 rfl (lv_at hl 0 rfl) ?_
          refine va_get (D := (dC, dI)) (ci := 1) (v := .ref (aQ 9)) (C := RX1) (T := TX1) (N := 10) hx hb hts hiX1 hown hK hP 5 rfl rfl 9 (by decide) hgX1_41 (fun _ h9 => h9) rfl dX1_shareLower_104 ?_
          refine lv_iload_n hx hb dX1_shareLower_107 rfl (lv_at hl 2 rfl) ?_
          obtain ⟨hi16, hf⟩ := oinb rfl hf
          refine va_lald hx hb hK hP 14 1 rfl rfl hi16 dX1_shareLower_108 ?_
          obtain ⟨hd17, hf⟩ := odiv hf
          refine lv_ldiv hx hb dX1_shareLower_109 hd17 ?_
          refine lv_lmul hx hb dX1_shareLower_110 ?_
          obtain ⟨hi18, hf⟩ := oinb rfl hf
          obtain ⟨b19, eb19, hf⟩ := elet_out hf
          refine va_last hx hb hK hP hD hS 6 1 rfl rfl hi18 dX1_shareLower_111 (fun H locs hP hD hS => ?_)
          have hP : va_P (dC, dI) vwCl [k0_0 aL vL, k0_1 cI aL vL, k0_2 cI aL vL, k0_3 cI aL vL, k0_4 cI aL vL, k1_0 aQ b19, k1_1 cJ aQ b19, k1_2 cI aQ b19, k1_3 cI aQ b19, k1_4 cI aQ b19, k1_5 cJ aQ b19, k1_6 cJ aQ b19, k1_7 cJ aQ b19, k1_8 cJ aQ b19, k1_9 cJ aQ b19] H := by rw [eb19]; exact hP
          have hD : va_D A [k0_0 aL vL, k0_1 cI aL vL, k0_2 cI aL vL, k0_3 cI aL vL, k0_4 cI aL vL, k1_0 aQ b19, k1_1 cJ aQ b19, k1_2 cI aQ b19, k1_3 cI aQ b19, k1_4 cI aQ b19, k1_5 cJ aQ b19, k1_6 cJ aQ b19, k1_7 cJ aQ b19, k1_8 cJ aQ b19, k1_9 cJ aQ b19] := by rw [eb19]; exact hD
          exact (hWW _ _ _ _ _ _ _).1 (J112 k67 hk67 b19 x2 H locs ls hP hD hS (lv_sub hl [0, 1, 2] rfl) hf)
  have L7 : ∀ (n : Nat) (vQ : BX1) (x2 : Int32) (H : Heap) (locs : List Loc) (ls : Array Slot), va_P (dC, dI) vwCl [k0_0 aL vL, k0_1 cI aL vL, k0_2 cI aL vL, k0_3 cI aL vL, k0_4 cI aL vL, k1_0 aQ vQ, k1_1 cJ aQ vQ, k1_2 cI aQ vQ, k1_3 cI aQ vQ, k1_4 cI aQ vQ, k1_5 cJ aQ vQ, k1_6 cJ aQ vQ, k1_7 cJ aQ vQ, k1_8 cJ aQ vQ, k1_9 cJ aQ vQ] H → va_D A [k0_0 aL vL, k0_1 cI aL vL, k0_2 cI aL vL, k0_3 cI aL vL, k0_4 cI aL vL, k1_0 aQ vQ, k1_1 cJ aQ vQ, k1_2 cI aQ vQ, k1_3 cI aQ vQ, k1_4 cI aQ vQ, k1_5 cJ aQ vQ, k1_6 cJ aQ vQ, k1_7 cJ aQ vQ, k1_8 cJ aQ vQ, k1_9 cJ aQ vQ] → va_S A s.heap H locs → lv_has ls 5 [(0, .ref (aQ 0)), (1, .ref (aL 0)), (2, .int x2)] → fX1_shareLower_7 n vL vQ x2 = some y → WW H locs 0 0 ls 7 [] := by
    intro n
    induction n with
    | zero =>
      intro vQ x2 H locs ls hP hD hS hl hf
      exact onone hf
    | succ n ih =>
      intro vQ x2 H locs ls hP hD hS hl hf
      have hf : fX1_shareLower_7_b (fX1_shareLower_7 n) vL vQ x2 = some y := hf
      generalize fX1_shareLower_7 n = k7 at hf ih
      have hk7 := ih
      clear ih
      unfold fX1_shareLower_7_b at hf
      refine (hWW _ _ _ _ _ _ _).2 ?_
      refine lv_iload_n hx hb dX1_shareLower_7 rfl (lv_at hl 2 rfl) ?_
      refine lv_aload_n hx hb dX1_shareLower_8 rfl (lv_at hl 1 rfl) ?_
      refine va_get (D := (dC, dI)) (ci := 0) (v := .int (p0_plates vL)) (C := RX0) (T := TX0) (N := 6) hx hb hts hiX0 hown hK hP 0 rfl rfl 1 (by decide) hgX0_74 (fun _ h9 => h9) rfl dX1_shareLower_9 ?_
      refine lv_icmp_ge (tgt := 58) hx hb dX1_shareLower_12 (by decide) (fun c1 => ?_) (fun c1 => ?_)
      · have hf := oif_t c1 hf
        refine lv_aload_n hx hb dX1_shareLower_58 rfl (lv_at hl 0 rfl) ?_
        refine va_get (D := (dC, dI)) (ci := 1) (v := .ref (aQ 1)) (C := RX1) (T := TX1) (N := 10) hx hb hts hiX1 hown hK hP 5 rfl rfl 0 (by decide) hgX1_9 (fun _ h9 => h9) rfl dX1_shareLower_59 ?_
        refine lv_iconst (v := 0) hx hb dX1_shareLower_62 (by decide) ?_
        refine lv_lconst (v := 0) hx hb dX1_shareLower_63 (by decide) ?_
        obtain ⟨b2, eb2, hf⟩ := elet_out hf
        refine va_last hx hb hK hP hD hS 6 1 rfl rfl (vpc rfl) dX1_shareLower_64 (fun H locs hP hD hS => ?_)
        have hP : va_P (dC, dI) vwCl [k0_0 aL vL, k0_1 cI aL vL, k0_2 cI aL vL, k0_3 cI aL vL, k0_4 cI aL vL, k1_0 aQ b2, k1_1 cJ aQ b2, k1_2 cI aQ b2, k1_3 cI aQ b2, k1_4 cI aQ b2, k1_5 cJ aQ b2, k1_6 cJ aQ b2, k1_7 cJ aQ b2, k1_8 cJ aQ b2, k1_9 cJ aQ b2] H := by rw [eb2]; exact hP
        have hD : va_D A [k0_0 aL vL, k0_1 cI aL vL, k0_2 cI aL vL, k0_3 cI aL vL, k0_4 cI aL vL, k1_0 aQ b2, k1_1 cJ aQ b2, k1_2 cI aQ b2, k1_3 cI aQ b2, k1_4 cI aQ b2, k1_5 cJ aQ b2, k1_6 cJ aQ b2, k1_7 cJ aQ b2, k1_8 cJ aQ b2, k1_9 cJ aQ b2] := by rw [eb2]; exact hD
        refine lv_iconst (v := 0) hx hb dX1_shareLower_65 (by decide) ?_
        refine lv_istore_n (lv' := [(2, .int 0), (0, .ref (aQ 0)), (1, .ref (aL 0))]) hx hb dX1_shareLower_66 rfl hl (by decide) rfl (fun ls hl => ?_)
        exact (hWW _ _ _ _ _ _ _).1 (L67 FU b2 (0 : Int32) H locs ls hP hD hS (lv_sub hl [1, 2, 0] rfl) hf)
      · have hf := oif_f c1 hf
        refine lv_aload_n hx hb dX1_shareLower_15 rfl (lv_at hl 0 rfl) ?_
        refine va_get (D := (dC, dI)) (ci := 1) (v := .long (p1_lower vQ)) (C := RX1) (T := TX1) (N := 10) hx hb hts hiX1 hown hK hP 5 rfl rfl 1 (by decide) hgX1_15 (fun _ h9 => h9) rfl dX1_shareLower_16 ?_
        refine lv_aload_n hx hb dX1_shareLower_19 rfl (lv_at hl 0 rfl) ?_
        refine va_get (D := (dC, dI)) (ci := 1) (v := .ref (aQ 9)) (C := RX1) (T := TX1) (N := 10) hx hb hts hiX1 hown hK hP 5 rfl rfl 9 (by decide) hgX1_41 (fun _ h9 => h9) rfl dX1_shareLower_20 ?_
        refine lv_iload_n hx hb dX1_shareLower_23 rfl (lv_at hl 2 rfl) ?_
        obtain ⟨hi3, hf⟩ := oinb rfl hf
        refine va_lald hx hb hK hP 14 1 rfl rfl hi3 dX1_shareLower_24 ?_
        obtain ⟨y4, hy4, hf⟩ := obind hf
        refine cg_l (ws := [k0_0 aL vL, k0_1 cI aL vL, k0_2 cI aL vL, k0_3 cI aL vL, k0_4 cI aL vL, k1_0 aQ vQ, k1_1 cJ aQ vQ, k1_2 cI aQ vQ, k1_3 cI aQ vQ, k1_4 cI aQ vQ, k1_5 cJ aQ vQ, k1_6 cJ aQ vQ, k1_7 cJ aQ vQ, k1_8 cJ aQ vQ, k1_9 cJ aQ vQ]) (wc := []) (wr := [k0_0 aL vL, k0_1 cI aL vL, k0_2 cI aL vL, k0_3 cI aL vL, k0_4 cI aL vL, k1_0 aQ vQ, k1_1 cJ aQ vQ, k1_2 cI aQ vQ, k1_3 cI aQ vQ, k1_4 cI aQ vQ, k1_5 cJ aQ vQ, k1_6 cJ aQ vQ, k1_7 cJ aQ vQ, k1_8 cJ aQ vQ, k1_9 cJ aQ vQ]) (w1 := []) (wo := [k0_0 aL vL, k0_1 cI aL vL, k0_2 cI aL vL, k0_3 cI aL vL, k0_4 cI aL vL, k1_0 aQ vQ, k1_1 cJ aQ vQ, k1_2 cI aQ vQ, k1_3 cI aQ vQ, k1_4 cI aQ vQ, k1_5 cJ aQ vQ, k1_6 cJ aQ vQ, k1_7 cJ aQ vQ, k1_8 cJ aQ vQ, k1_9 cJ aQ vQ]) hP hD hS hA (va_runSN (As := [.long (p1_lower vQ), .long ((p1_lowers vQ) (x2).toNatClampNeg)]) (rest := []) ⟨hx, hb, hml, hown, hts⟩ (mX3_greatestDivisor l dC dI cI cJ  H.size (p1_lower vQ) ((p1_lowers vQ) (x2).toNatClampNeg) y4 hy4) ⟨va_cnB 2 hts gX1_shareLower_X3_greatestDivisor_n115 rfl rfl rfl hN.1.2.2.2 (hts (.initialized RX3) (by decide +kernel)) (by decide +kernel) ⟨Nat.le_of_ble_eq_true rfl, Nat.le_of_ble_eq_true rfl⟩, hts (.static yX3_greatestDivisor) (by decide +kernel), trivial⟩ ⟨cFB, cPre hK hN hS (va_free (wc := []) hD hS hA [] rfl) (hP.sub [] rfl) (hD.sub [] rfl rfl)⟩ rfl rfl hl.1 rfl (lv_room (Nat.le_of_ble_eq_true rfl)) dX1_shareLower_25 ⟨Nat.le_of_ble_eq_true rfl, Nat.le_of_ble_eq_true rfl⟩) [] [0, 1, 2, 3, 4, 5, 6, 7, 8, 9, 10, 11, 12, 13, 14] [0, 1, 2, 3, 4, 5, 6, 7, 8, 9, 10, 11, 12, 13, 14] rfl rfl rfl (by decide +kernel) rfl rfl (fun H locs hP hD hS => ?_)
        refine lv_lstore_n (lv' := [(3, .long y4), (0, .ref (aQ 0)), (1, .ref (aL 0)), (2, .int x2)]) hx hb dX1_shareLower_28 rfl hl (by decide) rfl (fun ls hl => ?_)
        refine lv_lload_n hx hb dX1_shareLower_29 rfl (lv_at hl 0 rfl) ?_
        refine lv_lconst (v := 0) hx hb dX1_shareLower_30 (by decide) ?_
        refine W.lcmp hx hb dX1_shareLower_31 ?_
        refine lv_if_le (tgt := 52) hx hb dX1_shareLower_32 (by decide) (fun c5 => ?_) (fun c5 => ?_)
        · have hf := oif_t c5 hf
          exact (hWW _ _ _ _ _ _ _).1 (J52 k7 hk7 vQ x2 H locs ls hP hD hS (lv_sub hl [1, 2, 3] rfl) hf)
        · have hf := oif_f c5 hf
          refine lv_aload_n hx hb dX1_shareLower_35 rfl (lv_at hl 1 rfl) ?_
          refine lv_aload_n hx hb dX1_shareLower_36 rfl (lv_at hl 1 rfl) ?_
          refine va_get (D := (dC, dI)) (ci := 1) (v := .long (p1_lower vQ)) (C := RX1) (T := TX1) (N := 10) hx hb hts hiX1 hown hK hP 5 rfl rfl 1 (by decide) hgX1_15 (fun _ h9 => h9) rfl dX1_shareLower_37 ?_
          refine lv_lload_n hx hb dX1_shareLower_40 rfl (lv_at hl 0 rfl) ?_
          obtain ⟨hd6, hf⟩ := odiv hf
          refine lv_ldiv hx hb dX1_shareLower_41 hd6 ?_
          refine lv_aload_n hx hb dX1_shareLower_42 rfl (lv_at hl 1 rfl) ?_
          refine va_get (D := (dC, dI)) (ci := 1) (v := .ref (aQ 9)) (C := RX1) (T := TX1) (N := 10) hx hb hts hiX1 hown hK hP 5 rfl rfl 9 (by decide) hgX1_41 (fun _ h9 => h9) rfl dX1_shareLower_43 ?_
          refine lv_iload_n hx hb dX1_shareLower_46 rfl (lv_at hl 3 rfl) ?_
          obtain ⟨hi7, hf⟩ := oinb rfl hf
          refine va_lald hx hb hK hP 14 1 rfl rfl hi7 dX1_shareLower_47 ?_
          refine lv_lmul hx hb dX1_shareLower_48 ?_
          obtain ⟨b8, eb8, hf⟩ := elet_out hf
          refine va_put (D := (dC, dI)) (ci := 1) (v := .long (((p1_lower vQ) / y4) * ((p1_lowers vQ) (x2).toNatClampNeg))) (ty := .long) (C := RX1) (T := TX1) (N := 10) hx hb hts hiX1 tyX1 tyX1_ok nmX1 hown hK hP hD hS 5 rfl rfl 1 (by decide) hgX1_15 (fun _ h9 => h9) rfl (by decide +kernel) rfl rfl (Nat.le_of_ble_eq_true rfl) dX1_shareLower_49 (fun H locs hP hD hS => ?_)
          have hP : va_P (dC, dI) vwCl [k0_0 aL vL, k0_1 cI aL vL, k0_2 cI aL vL, k0_3 cI aL vL, k0_4 cI aL vL, k1_0 aQ b8, k1_1 cJ aQ b8, k1_2 cI aQ b8, k1_3 cI aQ b8, k1_4 cI aQ b8, k1_5 cJ aQ b8, k1_6 cJ aQ b8, k1_7 cJ aQ b8, k1_8 cJ aQ b8, k1_9 cJ aQ b8] H := by rw [eb8]; exact hP
          have hD : va_D A [k0_0 aL vL, k0_1 cI aL vL, k0_2 cI aL vL, k0_3 cI aL vL, k0_4 cI aL vL, k1_0 aQ b8, k1_1 cJ aQ b8, k1_2 cI aQ b8, k1_3 cI aQ b8, k1_4 cI aQ b8, k1_5 cJ aQ b8, k1_6 cJ aQ b8, k1_7 cJ aQ b8, k1_8 cJ aQ b8, k1_9 cJ aQ b8] := by rw [eb8]; exact hD
          exact (hWW _ _ _ _ _ _ _).1 (J52 k7 hk7 b8 x2 H locs ls hP hD hS (lv_sub hl [1, 2, 3] rfl) hf)
  refine (hWW _ _ _ _ _ _ _).2 ?_
  unfold fX1_shareLower at hf
  refine lv_aload_n hx hb dX1_shareLower_0 rfl (lv_at hl 0 rfl) ?_
  refine lv_lconst (v := 1) hx hb dX1_shareLower_1 (by decide) ?_
  obtain ⟨b21, eb21, hf⟩ := elet_out hf
  refine va_put (D := (dC, dI)) (ci := 1) (v := .long 1) (ty := .long) (C := RX1) (T := TX1) (N := 10) hx hb hts hiX1 tyX1 tyX1_ok nmX1 hown hK hP hD hS 5 rfl rfl 1 (by decide) hgX1_15 (fun _ h9 => h9) rfl (by decide +kernel) rfl rfl (Nat.le_of_ble_eq_true rfl) dX1_shareLower_2 (fun H locs hP hD hS => ?_)
  have hP : va_P (dC, dI) vwCl [k0_0 aL vL, k0_1 cI aL vL, k0_2 cI aL vL, k0_3 cI aL vL, k0_4 cI aL vL, k1_0 aQ b21, k1_1 cJ aQ b21, k1_2 cI aQ b21, k1_3 cI aQ b21, k1_4 cI aQ b21, k1_5 cJ aQ b21, k1_6 cJ aQ b21, k1_7 cJ aQ b21, k1_8 cJ aQ b21, k1_9 cJ aQ b21] H := by rw [eb21]; exact hP
  have hD : va_D A [k0_0 aL vL, k0_1 cI aL vL, k0_2 cI aL vL, k0_3 cI aL vL, k0_4 cI aL vL, k1_0 aQ b21, k1_1 cJ aQ b21, k1_2 cI aQ b21, k1_3 cI aQ b21, k1_4 cI aQ b21, k1_5 cJ aQ b21, k1_6 cJ aQ b21, k1_7 cJ aQ b21, k1_8 cJ aQ b21, k1_9 cJ aQ b21] := by rw [eb21]; exact hD
  refine lv_iconst (v := 0) hx hb dX1_shareLower_5 (by decide) ?_
  refine lv_istore_n (lv' := [(2, .int 0), (0, .ref (aQ 0)), (1, .ref (aL 0))]) hx hb dX1_shareLower_6 rfl hl (by decide) rfl (fun ls hl => ?_)
  exact (hWW _ _ _ _ _ _ _).1 (L7 FU b21 (0 : Int32) H locs ls hP hD hS (lv_sub hl [1, 2, 0] rfl) hf)
def fX1_moveTogether_39 (vL : BX0) (vQ : BX1) (x2 : Int32) (st0 : Int32) : Option Int32 :=
  if st0 = 0 then (if inB x2 4 = true then ((fX1_isAt vQ x2 ((p1_highest vQ) (x2).toNatClampNeg)).bind (fun y3 => if y3 = 0 then (some 1) else (some 0))) else none) else (some 0)
def fX1_moveTogether_38 (vL : BX0) (vQ : BX1) (x2 : Int32) : Option Int32 :=
  fX1_moveTogether_39 vL vQ x2 (0 : Int32)
def fX1_moveTogether_92 (vL : BX0) (vQ : BX1) (x3 : Int32) (st0 : Int32) : Option Int32 :=
  if st0 = 0 then (if inB x3 4 = true then ((fX1_isAt vQ x3 ((p1_lowest vQ) (x3).toNatClampNeg)).bind (fun y7 => if y7 = 0 then (some 1) else (some 0))) else none) else (some 0)
def fX1_moveTogether_91 (vL : BX0) (vQ : BX1) (x3 : Int32) : Option Int32 :=
  fX1_moveTogether_92 vL vQ x3 (0 : Int32)
def fX1_moveTogether (vL : BX0) (vQ : BX1) (i2 : Int32) (i3 : Int32) : Option Int32 :=
  (fX1_forceOn vL vQ i2 i3).bind (fun y9 => if (lg_cmp y9 (0 : Int64)) ≤ 0 then (if 0 ≤ (lg_cmp y9 (0 : Int64)) then (some 0) else (if i2 ≤ 0 then (fX1_moveTogether_91 vL vQ i3) else ((fX1_touchesNext vQ (i2 - (1 : Int32))).bind (fun y13 => if y13 = 0 then (fX1_moveTogether_91 vL vQ i3) else (fX1_moveTogether_92 vL vQ i3 (1 : Int32)))))) else (if (p0_plates vL) ≤ (i3 + (1 : Int32)) then (fX1_moveTogether_38 vL vQ i2) else ((fX1_touchesNext vQ i3).bind (fun y16 => if y16 = 0 then (fX1_moveTogether_38 vL vQ i2) else (fX1_moveTogether_39 vL vQ i2 (1 : Int32))))))
set_option maxHeartbeats 8000000 in
set_option maxRecDepth 100000 in
theorem mX1_moveTogether (l : Launch) (dC : Nat → ClassId) (dI : Nat → Nat → Nat) (cI cJ : ClassId) (aL : Nat → Nat) (aQ : Nat → Nat) (sz : Nat) (vL : BX0) (vQ : BX1) (i2 : Int32) (i3 : Int32) (y : Int32) (hf : fX1_moveTogether vL vQ i2 i3 = some y) : Met l yX1_moveTogether wsX1_moveTogether ({ frames := 2, cells := 0, slots := 0, locals := 49 }) (cPc dC dI cI cJ [.ref (aQ 0), .ref (aL 0), .int i2, .int i3] [k0_0 aL vL, k0_1 cI aL vL, k0_2 cI aL vL, k0_3 cI aL vL, k0_4 cI aL vL, k1_0 aQ vQ, k1_1 cJ aQ vQ, k1_2 cI aQ vQ, k1_3 cI aQ vQ, k1_4 cI aQ vQ, k1_5 cJ aQ vQ, k1_6 cJ aQ vQ, k1_7 cJ aQ vQ, k1_8 cJ aQ vQ, k1_9 cJ aQ vQ] sz) (va_Qi (fun r (_ : Unit) => r = y) (fun _ t => cB dC dI (va_A [k0_0 aL vL, k0_1 cI aL vL, k0_2 cI aL vL, k0_3 cI aL vL, k0_4 cI aL vL, k1_0 aQ vQ, k1_1 cJ aQ vQ, k1_2 cI aQ vQ, k1_3 cI aQ vQ, k1_4 cI aQ vQ, k1_5 cJ aQ vQ, k1_6 cJ aQ vQ, k1_7 cJ aQ vQ, k1_8 cJ aQ vQ, k1_9 cJ aQ vQ] sz) [k0_0 aL vL, k0_1 cI aL vL, k0_2 cI aL vL, k0_3 cI aL vL, k0_4 cI aL vL, k1_0 aQ vQ, k1_1 cJ aQ vQ, k1_2 cI aQ vQ, k1_3 cI aQ vQ, k1_4 cI aQ vQ, k1_5 cJ aQ vQ, k1_6 cJ aQ vQ, k1_7 cJ aQ vQ, k1_8 cJ aQ vQ, k1_9 cJ aQ vQ] t) (va_A [k0_0 aL vL, k0_1 cI aL vL, k0_2 cI aL vL, k0_3 cI aL vL, k0_4 cI aL vL, k1_0 aQ vQ, k1_1 cJ aQ vQ, k1_2 cI aQ vQ, k1_3 cI aQ vQ, k1_4 cI aQ vQ, k1_5 cJ aQ vQ, k1_6 cJ aQ vQ, k1_7 cJ aQ vQ, k1_8 cJ aQ vQ, k1_9 cJ aQ vQ] sz)) 0 0 (va_A [k0_0 aL vL, k0_1 cI aL vL, k0_2 cI aL vL, k0_3 cI aL vL, k0_4 cI aL vL, k1_0 aQ vQ, k1_1 cJ aQ vQ, k1_2 cI aQ vQ, k1_3 cI aQ vQ, k1_4 cI aQ vQ, k1_5 cJ aQ vQ, k1_6 cJ aQ vQ, k1_7 cJ aQ vQ, k1_8 cJ aQ vQ, k1_9 cJ aQ vQ] sz) := by
  refine Met.ofW (cc := cX1_moveTogether) (maxL := 7) (ret := (some .boolean)) (by decide) rfl ?_
  intro p e s m args below meth c s₁ B hml hv
  obtain ⟨rfl, hsz, hP, hK, hD0, hN⟩ := hv
  have hx := B.exec
  have hb := B.bytes
  have hr := B.returns
  have hts := atoms_spec (ws := wsX1_moveTogether) B.pre
  have hown : s.vm.findClass RX1 = some m.cls := findClass_of_methodNamed B.named
  have hlocks := B.notSynchronized
  subst hsz
  have hD := hD0.self (sz := s.heap.size)
  generalize hAe : va_A [k0_0 aL vL, k0_1 cI aL vL, k0_2 cI aL vL, k0_3 cI aL vL, k0_4 cI aL vL, k1_0 aQ vQ, k1_1 cJ aQ vQ, k1_2 cI aQ vQ, k1_3 cI aQ vQ, k1_4 cI aQ vQ, k1_5 cJ aQ vQ, k1_6 cJ aQ vQ, k1_7 cJ aQ vQ, k1_8 cJ aQ vQ, k1_9 cJ aQ vQ] s.heap.size = A at hD hN ⊢
  have hA : ∀ q : Nat, s.heap.size ≤ q → A q := fun q h => by rw [← hAe]; exact Or.inr h
  have hP : va_P (dC, dI) vwCl [k0_0 aL vL, k0_1 cI aL vL, k0_2 cI aL vL, k0_3 cI aL vL, k0_4 cI aL vL, k1_0 aQ vQ, k1_1 cJ aQ vQ, k1_2 cI aQ vQ, k1_3 cI aQ vQ, k1_4 cI aQ vQ, k1_5 cJ aQ vQ, k1_6 cJ aQ vQ, k1_7 cJ aQ vQ, k1_8 cJ aQ vQ, k1_9 cJ aQ vQ] s.heap := hP
  have hl := lv_entry ([.ref (aQ 0), .ref (aL 0), .int i2, .int i3]) (n := 7) (Nat.le_of_ble_eq_true rfl)
  rw [lg_entry_eq]
  generalize (lg_sl ([.ref (aQ 0), .ref (aL 0), .int i2, .int i3]) ++ List.replicate (7 - (lg_sl ([.ref (aQ 0), .ref (aL 0), .int i2, .int i3])).length) Slot.unset).toArray = ls at hl ⊢
  have hl : lv_has ls 7 [(0, .ref (aQ 0)), (1, .ref (aL 0)), (2, .int i2), (3, .int i3)] := hl
  have hiX1 : ∀ w ∈ u_ws RX1 TX1 10, w ∈ wsX1_moveTogether := by decide +kernel
  have hgX1_23 := hts (.fieldLink RX1 23 "SpringPlates$Rest" "highest" "[I") (by decide +kernel)
  have hgX1_19 := hts (.fieldLink RX1 19 "SpringPlates$Rest" "lowest" "[I") (by decide +kernel)
  have hiX0 : ∀ w ∈ u_ws RX0 TX0 6, w ∈ wsX1_moveTogether := by decide +kernel
  have hgX0_74 := hts (.fieldLink RX1 74 "SpringPlates$Layout" "plates" "I") (by decide +kernel)
  refine nameH (fun H locs hHe hLe => ?_)
  have hP : va_P (dC, dI) vwCl [k0_0 aL vL, k0_1 cI aL vL, k0_2 cI aL vL, k0_3 cI aL vL, k0_4 cI aL vL, k1_0 aQ vQ, k1_1 cJ aQ vQ, k1_2 cI aQ vQ, k1_3 cI aQ vQ, k1_4 cI aQ vQ, k1_5 cJ aQ vQ, k1_6 cJ aQ vQ, k1_7 cJ aQ vQ, k1_8 cJ aQ vQ, k1_9 cJ aQ vQ] H := by rw [hHe]; exact hP
  have hS : va_S A s.heap H locs := by rw [hHe, hLe]; exact va_S.rf
  refine withW (fun WW hWW => ?_)
  have J39 : ∀ (x2 : Int32) (st0 : Int32) (H : Heap) (locs : List Loc) (ls : Array Slot), va_P (dC, dI) vwCl [k0_0 aL vL, k0_1 cI aL vL, k0_2 cI aL vL, k0_3 cI aL vL, k0_4 cI aL vL, k1_0 aQ vQ, k1_1 cJ aQ vQ, k1_2 cI aQ vQ, k1_3 cI aQ vQ, k1_4 cI aQ vQ, k1_5 cJ aQ vQ, k1_6 cJ aQ vQ, k1_7 cJ aQ vQ, k1_8 cJ aQ vQ, k1_9 cJ aQ vQ] H → va_D A [k0_0 aL vL, k0_1 cI aL vL, k0_2 cI aL vL, k0_3 cI aL vL, k0_4 cI aL vL, k1_0 aQ vQ, k1_1 cJ aQ vQ, k1_2 cI aQ vQ, k1_3 cI aQ vQ, k1_4 cI aQ vQ, k1_5 cJ aQ vQ, k1_6 cJ aQ vQ, k1_7 cJ aQ vQ, k1_8 cJ aQ vQ, k1_9 cJ aQ vQ] → va_S A s.heap H locs → lv_has ls 7 [(0, .ref (aQ 0)), (2, .int x2)] → fX1_moveTogether_39 vL vQ x2 st0 = some y → WW H locs 0 0 ls 39 [.int st0] := by
    intro x2 st0 H locs ls hP hD hS hl hf
    unfold fX1_moveTogether_39 at hf
    refine (hWW _ _ _ _ _ _ _).2 ?_
    refine lv_istore (lv' := [(6, .int st0), (0, .ref (aQ 0)), (2, .int x2)]) hx hb dX1_moveTogether_39 hl (by decide) rfl (fun ls hl => ?_)
    refine lv_iload hx hb dX1_moveTogether_41 (lv_at hl 0 rfl) ?_
    refine lv_if_ne (tgt := 64) hx hb dX1_moveTogether_43 (by decide) (fun c1 => ?_) (fun c1 => ?_)
    · have hf := oif_f c1 hf
      refine lv_iconst (v := 0) hx hb dX1_moveTogether_64 (by decide) ?_
      obtain rfl := Option.some.inj hf
      exact W.zret (v := 0) hx hb hr rfl (fun t ht hW => ⟨⟨0, (), rfl, rfl, by rw [ht]; exact hP, hD⟩, hS.F ht⟩) hS.2.2 dX1_moveTogether_65
    · have hf := oif_t c1 hf
      refine lv_aload_n hx hb dX1_moveTogether_46 rfl (lv_at hl 1 rfl) ?_
      refine lv_iload_n hx hb dX1_moveTogether_47 rfl (lv_at hl 2 rfl) ?_
      refine lv_aload_n hx hb dX1_moveTogether_48 rfl (lv_at hl 1 rfl) ?_
      refine va_get (D := (dC, dI)) (ci := 1) (v := .ref (aQ 3)) (C := RX1) (T := TX1) (N := 10) hx hb hts hiX1 hown hK hP 5 rfl rfl 3 (by decide) hgX1_23 (fun _ h9 => h9) rfl dX1_moveTogether_49 ?_
      refine lv_iload_n hx hb dX1_moveTogether_52 rfl (lv_at hl 2 rfl) ?_
      obtain ⟨hi2, hf⟩ := oinb rfl hf
      refine va_iald hx hb hK hP 8 0 rfl rfl hi2 dX1_moveTogether_53 ?_
      obtain ⟨y3, hy3, hf⟩ := obind hf
      refine cg_i (ws := [k0_0 aL vL, k0_1 cI aL vL, k0_2 cI aL vL, k0_3 cI aL vL, k0_4 cI aL vL, k1_0 aQ vQ, k1_1 cJ aQ vQ, k1_2 cI aQ vQ, k1_3 cI aQ vQ, k1_4 cI aQ vQ, k1_5 cJ aQ vQ, k1_6 cJ aQ vQ, k1_7 cJ aQ vQ, k1_8 cJ aQ vQ, k1_9 cJ aQ vQ]) (wc := [k1_0 aQ vQ, k1_1 cJ aQ vQ, k1_2 cI aQ vQ, k1_3 cI aQ vQ, k1_4 cI aQ vQ, k1_5 cJ aQ vQ, k1_6 cJ aQ vQ, k1_7 cJ aQ vQ, k1_8 cJ aQ vQ, k1_9 cJ aQ vQ]) (wr := [k0_0 aL vL, k0_1 cI aL vL, k0_2 cI aL vL, k0_3 cI aL vL, k0_4 cI aL vL]) (w1 := [k1_0 aQ vQ, k1_1 cJ aQ vQ, k1_2 cI aQ vQ, k1_3 cI aQ vQ, k1_4 cI aQ vQ, k1_5 cJ aQ vQ, k1_6 cJ aQ vQ, k1_7 cJ aQ vQ, k1_8 cJ aQ vQ, k1_9 cJ aQ vQ]) (wo := [k0_0 aL vL, k0_1 cI aL vL, k0_2 cI aL vL, k0_3 cI aL vL, k0_4 cI aL vL, k1_0 aQ vQ, k1_1 cJ aQ vQ, k1_2 cI aQ vQ, k1_3 cI aQ vQ, k1_4 cI aQ vQ, k1_5 cJ aQ vQ, k1_6 cJ aQ vQ, k1_7 cJ aQ vQ, k1_8 cJ aQ vQ, k1_9 cJ aQ vQ]) hP hD hS hA (va_runV (As := [.int x2, .int ((p1_highest vQ) (x2).toNatClampNeg)]) (rest := []) ⟨hx, hb, hml, hown, hts⟩ (mX1_isAt l dC dI cI cJ aQ H.size vQ x2 ((p1_highest vQ) (x2).toNatClampNeg) y3 hy3) (cwV 2 hts gX1_moveTogether_X1_isAt rfl rfl rfl (by decide +kernel) ⟨Nat.le_of_ble_eq_true rfl, Nat.le_of_ble_eq_true rfl⟩) ⟨cFB, va_recv hK hP (ci := 1) (q0 := 5) rfl rfl, cPre hK hN hS (va_free (wc := [k1_0 aQ vQ, k1_1 cJ aQ vQ, k1_2 cI aQ vQ, k1_3 cI aQ vQ, k1_4 cI aQ vQ, k1_5 cJ aQ vQ, k1_6 cJ aQ vQ, k1_7 cJ aQ vQ, k1_8 cJ aQ vQ, k1_9 cJ aQ vQ]) hD hS hA [5, 6, 7, 8, 9, 10, 11, 12, 13, 14] rfl) (hP.sub [5, 6, 7, 8, 9, 10, 11, 12, 13, 14] rfl) (hD.sub [5, 6, 7, 8, 9, 10, 11, 12, 13, 14] rfl rfl)⟩ rfl rfl hl.1 rfl (lv_room (Nat.le_of_ble_eq_true rfl)) dX1_moveTogether_54 ⟨Nat.le_of_ble_eq_true rfl, Nat.le_of_ble_eq_true rfl⟩) [5, 6, 7, 8, 9, 10, 11, 12, 13, 14] [0, 1, 2, 3, 4] [0, 1, 2, 3, 4, 5, 6, 7, 8, 9, 10, 11, 12, 13, 14] rfl rfl rfl (by decide +kernel) rfl rfl (fun H locs hP hD hS => ?_)
      refine lv_if_ne (tgt := 64) hx hb dX1_moveTogether_57 (by decide) (fun c4 => ?_) (fun c4 => ?_)
      · have hf := oif_f c4 hf
        refine lv_iconst (v := 0) hx hb dX1_moveTogether_64 (by decide) ?_
        obtain rfl := Option.some.inj hf
        exact W.zret (v := 0) hx hb hr rfl (fun t ht hW => ⟨⟨0, (), rfl, rfl, by rw [ht]; exact hP, hD⟩, hS.F ht⟩) hS.2.2 dX1_moveTogether_65
      · have hf := oif_t c4 hf
        refine lv_iconst (v := 1) hx hb dX1_moveTogether_60 (by decide) ?_
        refine lv_goto (tgt := 65) hx hb dX1_moveTogether_61 (by decide) ?_
        obtain rfl := Option.some.inj hf
        exact W.zret (v := 1) hx hb hr rfl (fun t ht hW => ⟨⟨1, (), rfl, rfl, by rw [ht]; exact hP, hD⟩, hS.F ht⟩) hS.2.2 dX1_moveTogether_65
  have J38 : ∀ (x2 : Int32) (H : Heap) (locs : List Loc) (ls : Array Slot), va_P (dC, dI) vwCl [k0_0 aL vL, k0_1 cI aL vL, k0_2 cI aL vL, k0_3 cI aL vL, k0_4 cI aL vL, k1_0 aQ vQ, k1_1 cJ aQ vQ, k1_2 cI aQ vQ, k1_3 cI aQ vQ, k1_4 cI aQ vQ, k1_5 cJ aQ vQ, k1_6 cJ aQ vQ, k1_7 cJ aQ vQ, k1_8 cJ aQ vQ, k1_9 cJ aQ vQ] H → va_D A [k0_0 aL vL, k0_1 cI aL vL, k0_2 cI aL vL, k0_3 cI aL vL, k0_4 cI aL vL, k1_0 aQ vQ, k1_1 cJ aQ vQ, k1_2 cI aQ vQ, k1_3 cI aQ vQ, k1_4 cI aQ vQ, k1_5 cJ aQ vQ, k1_6 cJ aQ vQ, k1_7 cJ aQ vQ, k1_8 cJ aQ vQ, k1_9 cJ aQ vQ] → va_S A s.heap H locs → lv_has ls 7 [(0, .ref (aQ 0)), (2, .int x2)] → fX1_moveTogether_38 vL vQ x2 = some y → WW H locs 0 0 ls 38 [] := by
    intro x2 H locs ls hP hD hS hl hf
    unfold fX1_moveTogether_38 at hf
    refine (hWW _ _ _ _ _ _ _).2 ?_
    refine lv_iconst (v := 0) hx hb dX1_moveTogether_38 (by decide) ?_
    exact (hWW _ _ _ _ _ _ _).1 (J39 x2 (0 : Int32) H locs ls hP hD hS (lv_sub hl [0, 1] rfl) hf)
  have J92 : ∀ (x3 : Int32) (st0 : Int32) (H : Heap) (locs : List Loc) (ls : Array Slot), va_P (dC, dI) vwCl [k0_0 aL vL, k0_1 cI aL vL, k0_2 cI aL vL, k0_3 cI aL vL, k0_4 cI aL vL, k1_0 aQ vQ, k1_1 cJ aQ vQ, k1_2 cI aQ vQ, k1_3 cI aQ vQ, k1_4 cI aQ vQ, k1_5 cJ aQ vQ, k1_6 cJ aQ vQ, k1_7 cJ aQ vQ, k1_8 cJ aQ vQ, k1_9 cJ aQ vQ] H → va_D A [k0_0 aL vL, k0_1 cI aL vL, k0_2 cI aL vL, k0_3 cI aL vL, k0_4 cI aL vL, k1_0 aQ vQ, k1_1 cJ aQ vQ, k1_2 cI aQ vQ, k1_3 cI aQ vQ, k1_4 cI aQ vQ, k1_5 cJ aQ vQ, k1_6 cJ aQ vQ, k1_7 cJ aQ vQ, k1_8 cJ aQ vQ, k1_9 cJ aQ vQ] → va_S A s.heap H locs → lv_has ls 7 [(0, .ref (aQ 0)), (3, .int x3)] → fX1_moveTogether_92 vL vQ x3 st0 = some y → WW H locs 0 0 ls 92 [.int st0] := by
    intro x3 st0 H locs ls hP hD hS hl hf
    unfold fX1_moveTogether_92 at hf
    refine (hWW _ _ _ _ _ _ _).2 ?_
    refine lv_istore (lv' := [(6, .int st0), (0, .ref (aQ 0)), (3, .int x3)]) hx hb dX1_moveTogether_92 hl (by decide) rfl (fun ls hl => ?_)
    refine lv_iload hx hb dX1_moveTogether_94 (lv_at hl 0 rfl) ?_
    refine lv_if_ne (tgt := 117) hx hb dX1_moveTogether_96 (by decide) (fun c5 => ?_) (fun c5 => ?_)
    · have hf := oif_f c5 hf
      refine lv_iconst (v := 0) hx hb dX1_moveTogether_117 (by decide) ?_
      obtain rfl := Option.some.inj hf
      exact W.zret (v := 0) hx hb hr rfl (fun t ht hW => ⟨⟨0, (), rfl, rfl, by rw [ht]; exact hP, hD⟩, hS.F ht⟩) hS.2.2 dX1_moveTogether_118
    · have hf := oif_t c5 hf
      refine lv_aload_n hx hb dX1_moveTogether_99 rfl (lv_at hl 1 rfl) ?_
      refine lv_iload_n hx hb dX1_moveTogether_100 rfl (lv_at hl 2 rfl) ?_
      refine lv_aload_n hx hb dX1_moveTogether_101 rfl (lv_at hl 1 rfl) ?_
      refine va_get (D := (dC, dI)) (ci := 1) (v := .ref (aQ 2)) (C := RX1) (T := TX1) (N := 10) hx hb hts hiX1 hown hK hP 5 rfl rfl 2 (by decide) hgX1_19 (fun _ h9 => h9) rfl dX1_moveTogether_102 ?_
      refine lv_iload_n hx hb dX1_moveTogether_105 rfl (lv_at hl 2 rfl) ?_
      obtain ⟨hi6, hf⟩ := oinb rfl hf
      refine va_iald hx hb hK hP 7 0 rfl rfl hi6 dX1_moveTogether_106 ?_
      obtain ⟨y7, hy7, hf⟩ := obind hf
      refine cg_i (ws := [k0_0 aL vL, k0_1 cI aL vL, k0_2 cI aL vL, k0_3 cI aL vL, k0_4 cI aL vL, k1_0 aQ vQ, k1_1 cJ aQ vQ, k1_2 cI aQ vQ, k1_3 cI aQ vQ, k1_4 cI aQ vQ, k1_5 cJ aQ vQ, k1_6 cJ aQ vQ, k1_7 cJ aQ vQ, k1_8 cJ aQ vQ, k1_9 cJ aQ vQ]) (wc := [k1_0 aQ vQ, k1_1 cJ aQ vQ, k1_2 cI aQ vQ, k1_3 cI aQ vQ, k1_4 cI aQ vQ, k1_5 cJ aQ vQ, k1_6 cJ aQ vQ, k1_7 cJ aQ vQ, k1_8 cJ aQ vQ, k1_9 cJ aQ vQ]) (wr := [k0_0 aL vL, k0_1 cI aL vL, k0_2 cI aL vL, k0_3 cI aL vL, k0_4 cI aL vL]) (w1 := [k1_0 aQ vQ, k1_1 cJ aQ vQ, k1_2 cI aQ vQ, k1_3 cI aQ vQ, k1_4 cI aQ vQ, k1_5 cJ aQ vQ, k1_6 cJ aQ vQ, k1_7 cJ aQ vQ, k1_8 cJ aQ vQ, k1_9 cJ aQ vQ]) (wo := [k0_0 aL vL, k0_1 cI aL vL, k0_2 cI aL vL, k0_3 cI aL vL, k0_4 cI aL vL, k1_0 aQ vQ, k1_1 cJ aQ vQ, k1_2 cI aQ vQ, k1_3 cI aQ vQ, k1_4 cI aQ vQ, k1_5 cJ aQ vQ, k1_6 cJ aQ vQ, k1_7 cJ aQ vQ, k1_8 cJ aQ vQ, k1_9 cJ aQ vQ]) hP hD hS hA (va_runV (As := [.int x3, .int ((p1_lowest vQ) (x3).toNatClampNeg)]) (rest := []) ⟨hx, hb, hml, hown, hts⟩ (mX1_isAt l dC dI cI cJ aQ H.size vQ x3 ((p1_lowest vQ) (x3).toNatClampNeg) y7 hy7) (cwV 2 hts gX1_moveTogether_X1_isAt rfl rfl rfl (by decide +kernel) ⟨Nat.le_of_ble_eq_true rfl, Nat.le_of_ble_eq_true rfl⟩) ⟨cFB, va_recv hK hP (ci := 1) (q0 := 5) rfl rfl, cPre hK hN hS (va_free (wc := [k1_0 aQ vQ, k1_1 cJ aQ vQ, k1_2 cI aQ vQ, k1_3 cI aQ vQ, k1_4 cI aQ vQ, k1_5 cJ aQ vQ, k1_6 cJ aQ vQ, k1_7 cJ aQ vQ, k1_8 cJ aQ vQ, k1_9 cJ aQ vQ]) hD hS hA [5, 6, 7, 8, 9, 10, 11, 12, 13, 14] rfl) (hP.sub [5, 6, 7, 8, 9, 10, 11, 12, 13, 14] rfl) (hD.sub [5, 6, 7, 8, 9, 10, 11, 12, 13, 14] rfl rfl)⟩ rfl rfl hl.1 rfl (lv_room (Nat.le_of_ble_eq_true rfl)) dX1_moveTogether_107 ⟨Nat.le_of_ble_eq_true rfl, Nat.le_of_ble_eq_true rfl⟩) [5, 6, 7, 8, 9, 10, 11, 12, 13, 14] [0, 1, 2, 3, 4] [0, 1, 2, 3, 4, 5, 6, 7, 8, 9, 10, 11, 12, 13, 14] rfl rfl rfl (by decide +kernel) rfl rfl (fun H locs hP hD hS => ?_)
      refine lv_if_ne (tgt := 117) hx hb dX1_moveTogether_110 (by decide) (fun c8 => ?_) (fun c8 => ?_)
      · have hf := oif_f c8 hf
        refine lv_iconst (v := 0) hx hb dX1_moveTogether_117 (by decide) ?_
        obtain rfl := Option.some.inj hf
        exact W.zret (v := 0) hx hb hr rfl (fun t ht hW => ⟨⟨0, (), rfl, rfl, by rw [ht]; exact hP, hD⟩, hS.F ht⟩) hS.2.2 dX1_moveTogether_118
      · have hf := oif_t c8 hf
        refine lv_iconst (v := 1) hx hb dX1_moveTogether_113 (by decide) ?_
        refine lv_goto (tgt := 118) hx hb dX1_moveTogether_114 (by decide) ?_
        obtain rfl := Option.some.inj hf
        exact W.zret (v := 1) hx hb hr rfl (fun t ht hW => ⟨⟨1, (), rfl, rfl, by rw [ht]; exact hP, hD⟩, hS.F ht⟩) hS.2.2 dX1_moveTogether_118
  have J91 : ∀ (x3 : Int32) (H : Heap) (locs : List Loc) (ls : Array Slot), va_P (dC, dI) vwCl [k0_0 aL vL, k0_1 cI aL vL, k0_2 cI aL vL, k0_3 cI aL vL, k0_4 cI aL vL, k1_0 aQ vQ, k1_1 cJ aQ vQ, k1_2 cI aQ vQ, k1_3 cI aQ vQ, k1_4 cI aQ vQ, k1_5 cJ aQ vQ, k1_6 cJ aQ vQ, k1_7 cJ aQ vQ, k1_8 cJ aQ vQ, k1_9 cJ aQ vQ] H → va_D A [k0_0 aL vL, k0_1 cI aL vL, k0_2 cI aL vL, k0_3 cI aL vL, k0_4 cI aL vL, k1_0 aQ vQ, k1_1 cJ aQ vQ, k1_2 cI aQ vQ, k1_3 cI aQ vQ, k1_4 cI aQ vQ, k1_5 cJ aQ vQ, k1_6 cJ aQ vQ, k1_7 cJ aQ vQ, k1_8 cJ aQ vQ, k1_9 cJ aQ vQ] → va_S A s.heap H locs → lv_has ls 7 [(0, .ref (aQ 0)), (3, .int x3)] → fX1_moveTogether_91 vL vQ x3 = some y → WW H locs 0 0 ls 91 [] := by
    intro x3 H locs ls hP hD hS hl hf
    unfold fX1_moveTogether_91 at hf
    refine (hWW _ _ _ _ _ _ _).2 ?_
    refine lv_iconst (v := 0) hx hb dX1_moveTogether_91 (by decide) ?_
    exact (hWW _ _ _ _ _ _ _).1 (J92 x3 (0 : Int32) H locs ls hP hD hS (lv_sub hl [0, 1] rfl) hf)
  refine (hWW _ _ _ _ _ _ _).2 ?_
  unfold fX1_moveTogether at hf
  refine lv_aload_n hx hb dX1_moveTogether_0 rfl (lv_at hl 0 rfl) ?_
  refine lv_aload_n hx hb dX1_moveTogether_1 rfl (lv_at hl 1 rfl) ?_
  refine lv_iload_n hx hb dX1_moveTogether_2 rfl (lv_at hl 2 rfl) ?_
  refine lv_iload_n hx hb dX1_moveTogether_3 rfl (lv_at hl 3 rfl) ?_
  obtain ⟨y9, hy9, hf⟩ := obind hf
  refine cg_l (ws := [k0_0 aL vL, k0_1 cI aL vL, k0_2 cI aL vL, k0_3 cI aL vL, k0_4 cI aL vL, k1_0 aQ vQ, k1_1 cJ aQ vQ, k1_2 cI aQ vQ, k1_3 cI aQ vQ, k1_4 cI aQ vQ, k1_5 cJ aQ vQ, k1_6 cJ aQ vQ, k1_7 cJ aQ vQ, k1_8 cJ aQ vQ, k1_9 cJ aQ vQ]) (wc := [k0_0 aL vL, k0_1 cI aL vL, k0_2 cI aL vL, k0_3 cI aL vL, k0_4 cI aL vL, k1_0 aQ vQ, k1_1 cJ aQ vQ, k1_2 cI aQ vQ, k1_3 cI aQ vQ, k1_4 cI aQ vQ, k1_5 cJ aQ vQ, k1_6 cJ aQ vQ, k1_7 cJ aQ vQ, k1_8 cJ aQ vQ, k1_9 cJ aQ vQ]) (wr := []) (w1 := [k0_0 aL vL, k0_1 cI aL vL, k0_2 cI aL vL, k0_3 cI aL vL, k0_4 cI aL vL, k1_0 aQ vQ, k1_1 cJ aQ vQ, k1_2 cI aQ vQ, k1_3 cI aQ vQ, k1_4 cI aQ vQ, k1_5 cJ aQ vQ, k1_6 cJ aQ vQ, k1_7 cJ aQ vQ, k1_8 cJ aQ vQ, k1_9 cJ aQ vQ]) (wo := [k0_0 aL vL, k0_1 cI aL vL, k0_2 cI aL vL, k0_3 cI aL vL, k0_4 cI aL vL, k1_0 aQ vQ, k1_1 cJ aQ vQ, k1_2 cI aQ vQ, k1_3 cI aQ vQ, k1_4 cI aQ vQ, k1_5 cJ aQ vQ, k1_6 cJ aQ vQ, k1_7 cJ aQ vQ, k1_8 cJ aQ vQ, k1_9 cJ aQ vQ]) hP hD hS hA (va_runV (As := [.ref (aL 0), .int i2, .int i3]) (rest := []) ⟨hx, hb, hml, hown, hts⟩ (mX1_forceOn l dC dI cI cJ aL aQ H.size vL vQ i2 i3 y9 hy9) (cwV 3 hts gX1_moveTogether_X1_forceOn rfl rfl rfl (by decide +kernel) ⟨Nat.le_of_ble_eq_true rfl, Nat.le_of_ble_eq_true rfl⟩) ⟨cFB, va_recv hK hP (ci := 1) (q0 := 5) rfl rfl, cPre hK hN hS (va_free (wc := [k0_0 aL vL, k0_1 cI aL vL, k0_2 cI aL vL, k0_3 cI aL vL, k0_4 cI aL vL, k1_0 aQ vQ, k1_1 cJ aQ vQ, k1_2 cI aQ vQ, k1_3 cI aQ vQ, k1_4 cI aQ vQ, k1_5 cJ aQ vQ, k1_6 cJ aQ vQ, k1_7 cJ aQ vQ, k1_8 cJ aQ vQ, k1_9 cJ aQ vQ]) hD hS hA [0, 1, 2, 3, 4, 5, 6, 7, 8, 9, 10, 11, 12, 13, 14] rfl) (hP.sub [0, 1, 2, 3, 4, 5, 6, 7, 8, 9, 10, 11, 12, 13, 14] rfl) (hD.sub [0, 1, 2, 3, 4, 5, 6, 7, 8, 9, 10, 11, 12, 13, 14] rfl rfl)⟩ rfl rfl hl.1 rfl (lv_room (Nat.le_of_ble_eq_true rfl)) dX1_moveTogether_4 ⟨Nat.le_of_ble_eq_true rfl, Nat.le_of_ble_eq_true rfl⟩) [0, 1, 2, 3, 4, 5, 6, 7, 8, 9, 10, 11, 12, 13, 14] [] [0, 1, 2, 3, 4, 5, 6, 7, 8, 9, 10, 11, 12, 13, 14] rfl rfl rfl (by decide +kernel) rfl rfl (fun H locs hP hD hS => ?_)
  refine lv_lstore (lv' := [(4, .long y9), (0, .ref (aQ 0)), (1, .ref (aL 0)), (2, .int i2), (3, .int i3)]) hx hb dX1_moveTogether_7 hl (by decide) rfl (fun ls hl => ?_)
  refine lv_lload hx hb dX1_moveTogether_9 (lv_at hl 0 rfl) ?_
  refine lv_lconst (v := 0) hx hb dX1_moveTogether_11 (by decide) ?_
  refine W.lcmp hx hb dX1_moveTogether_12 ?_
  refine lv_if_le (tgt := 66) hx hb dX1_moveTogether_13 (by decide) (fun c10 => ?_) (fun c10 => ?_)
  · have hf := oif_t c10 hf
    refine lv_lload hx hb dX1_moveTogether_66 (lv_at hl 0 rfl) ?_
    refine lv_lconst (v := 0) hx hb dX1_moveTogether_68 (by decide) ?_
    refine W.lcmp hx hb dX1_moveTogether_69 ?_
    refine lv_if_ge (tgt := 119) hx hb dX1_moveTogether_70 (by decide) (fun c11 => ?_) (fun c11 => ?_)
    · have hf := oif_t c11 hf
      refine lv_iconst (v := 0) hx hb dX1_moveTogether_119 (by decide) ?_
      obtain rfl := Option.some.inj hf
      exact W.zret (v := 0) hx hb hr rfl (fun t ht hW => ⟨⟨0, (), rfl, rfl, by rw [ht]; exact hP, hD⟩, hS.F ht⟩) hS.2.2 dX1_moveTogether_120
    · have hf := oif_f c11 hf
      refine lv_iload_n hx hb dX1_moveTogether_73 rfl (lv_at hl 3 rfl) ?_
      refine lv_if_le (tgt := 91) hx hb dX1_moveTogether_74 (by decide) (fun c12 => ?_) (fun c12 => ?_)
      · have hf := oif_t c12 hf
        exact (hWW _ _ _ _ _ _ _).1 (J91 i3 H locs ls hP hD hS (lv_sub hl [1, 4] rfl) hf)
      · have hf := oif_f c12 hf
        refine lv_aload_n hx hb dX1_moveTogether_77 rfl (lv_at hl 1 rfl) ?_
        refine lv_iload_n hx hb dX1_moveTogether_78 rfl (lv_at hl 3 rfl) ?_
        refine lv_iconst (v := 1) hx hb dX1_moveTogether_79 (by decide) ?_
        refine lv_isub hx hb dX1_moveTogether_80 ?_
        obtain ⟨y13, hy13, hf⟩ := obind hf
        refine cg_i (ws := [k0_0 aL vL, k0_1 cI aL vL, k0_2 cI aL vL, k0_3 cI aL vL, k0_4 cI aL vL, k1_0 aQ vQ, k1_1 cJ aQ vQ, k1_2 cI aQ vQ, k1_3 cI aQ vQ, k1_4 cI aQ vQ, k1_5 cJ aQ vQ, k1_6 cJ aQ vQ, k1_7 cJ aQ vQ, k1_8 cJ aQ vQ, k1_9 cJ aQ vQ]) (wc := [k1_0 aQ vQ, k1_1 cJ aQ vQ, k1_2 cI aQ vQ, k1_3 cI aQ vQ, k1_4 cI aQ vQ, k1_5 cJ aQ vQ, k1_6 cJ aQ vQ, k1_7 cJ aQ vQ, k1_8 cJ aQ vQ, k1_9 cJ aQ vQ]) (wr := [k0_0 aL vL, k0_1 cI aL vL, k0_2 cI aL vL, k0_3 cI aL vL, k0_4 cI aL vL]) (w1 := [k1_0 aQ vQ, k1_1 cJ aQ vQ, k1_2 cI aQ vQ, k1_3 cI aQ vQ, k1_4 cI aQ vQ, k1_5 cJ aQ vQ, k1_6 cJ aQ vQ, k1_7 cJ aQ vQ, k1_8 cJ aQ vQ, k1_9 cJ aQ vQ]) (wo := [k0_0 aL vL, k0_1 cI aL vL, k0_2 cI aL vL, k0_3 cI aL vL, k0_4 cI aL vL, k1_0 aQ vQ, k1_1 cJ aQ vQ, k1_2 cI aQ vQ, k1_3 cI aQ vQ, k1_4 cI aQ vQ, k1_5 cJ aQ vQ, k1_6 cJ aQ vQ, k1_7 cJ aQ vQ, k1_8 cJ aQ vQ, k1_9 cJ aQ vQ]) hP hD hS hA (va_runV (As := [.int (i2 - (1 : Int32))]) (rest := []) ⟨hx, hb, hml, hown, hts⟩ (mX1_touchesNext l dC dI cI cJ aQ H.size vQ (i2 - (1 : Int32)) y13 hy13) (cwV 1 hts gX1_moveTogether_X1_touchesNext rfl rfl rfl (by decide +kernel) ⟨Nat.le_of_ble_eq_true rfl, Nat.le_of_ble_eq_true rfl⟩) ⟨cFB, va_recv hK hP (ci := 1) (q0 := 5) rfl rfl, cPre hK hN hS (va_free (wc := [k1_0 aQ vQ, k1_1 cJ aQ vQ, k1_2 cI aQ vQ, k1_3 cI aQ vQ, k1_4 cI aQ vQ, k1_5 cJ aQ vQ, k1_6 cJ aQ vQ, k1_7 cJ aQ vQ, k1_8 cJ aQ vQ, k1_9 cJ aQ vQ]) hD hS hA [5, 6, 7, 8, 9, 10, 11, 12, 13, 14] rfl) (hP.sub [5, 6, 7, 8, 9, 10, 11, 12, 13, 14] rfl) (hD.sub [5, 6, 7, 8, 9, 10, 11, 12, 13, 14] rfl rfl)⟩ rfl rfl hl.1 rfl (lv_room (Nat.le_of_ble_eq_true rfl)) dX1_moveTogether_81 ⟨Nat.le_of_ble_eq_true rfl, Nat.le_of_ble_eq_true rfl⟩) [5, 6, 7, 8, 9, 10, 11, 12, 13, 14] [0, 1, 2, 3, 4] [0, 1, 2, 3, 4, 5, 6, 7, 8, 9, 10, 11, 12, 13, 14] rfl rfl rfl (by decide +kernel) rfl rfl (fun H locs hP hD hS => ?_)
        refine lv_if_eq (tgt := 91) hx hb dX1_moveTogether_84 (by decide) (fun c14 => ?_) (fun c14 => ?_)
        · have hf := oif_t c14 hf
          exact (hWW _ _ _ _ _ _ _).1 (J91 i3 H locs ls hP hD hS (lv_sub hl [1, 4] rfl) hf)
        · have hf := oif_f c14 hf
          refine lv_iconst (v := 1) hx hb dX1_moveTogether_87 (by decide) ?_
          refine lv_goto (tgt := 92) hx hb dX1_moveTogether_88 (by decide) ?_
          exact (hWW _ _ _ _ _ _ _).1 (J92 i3 (1 : Int32) H locs ls hP hD hS (lv_sub hl [1, 4] rfl) hf)
  · have hf := oif_f c10 hf
    refine lv_iload_n hx hb dX1_moveTogether_16 rfl (lv_at hl 4 rfl) ?_
    refine lv_iconst (v := 1) hx hb dX1_moveTogether_17 (by decide) ?_
    refine lv_iadd hx hb dX1_moveTogether_18 ?_
    refine lv_aload_n hx hb dX1_moveTogether_19 rfl (lv_at hl 2 rfl) ?_
    refine va_get (D := (dC, dI)) (ci := 0) (v := .int (p0_plates vL)) (C := RX0) (T := TX0) (N := 6) hx hb hts hiX0 hown hK hP 0 rfl rfl 1 (by decide) hgX0_74 (fun _ h9 => h9) rfl dX1_moveTogether_20 ?_
    refine lv_icmp_ge (tgt := 38) hx hb dX1_moveTogether_23 (by decide) (fun c15 => ?_) (fun c15 => ?_)
    · have hf := oif_t c15 hf
      exact (hWW _ _ _ _ _ _ _).1 (J38 i2 H locs ls hP hD hS (lv_sub hl [1, 3] rfl) hf)
    · have hf := oif_f c15 hf
      refine lv_aload_n hx hb dX1_moveTogether_26 rfl (lv_at hl 1 rfl) ?_
      refine lv_iload_n hx hb dX1_moveTogether_27 rfl (lv_at hl 4 rfl) ?_
      obtain ⟨y16, hy16, hf⟩ := obind hf
      refine cg_i (ws := [k0_0 aL vL, k0_1 cI aL vL, k0_2 cI aL vL, k0_3 cI aL vL, k0_4 cI aL vL, k1_0 aQ vQ, k1_1 cJ aQ vQ, k1_2 cI aQ vQ, k1_3 cI aQ vQ, k1_4 cI aQ vQ, k1_5 cJ aQ vQ, k1_6 cJ aQ vQ, k1_7 cJ aQ vQ, k1_8 cJ aQ vQ, k1_9 cJ aQ vQ]) (wc := [k1_0 aQ vQ, k1_1 cJ aQ vQ, k1_2 cI aQ vQ, k1_3 cI aQ vQ, k1_4 cI aQ vQ, k1_5 cJ aQ vQ, k1_6 cJ aQ vQ, k1_7 cJ aQ vQ, k1_8 cJ aQ vQ, k1_9 cJ aQ vQ]) (wr := [k0_0 aL vL, k0_1 cI aL vL, k0_2 cI aL vL, k0_3 cI aL vL, k0_4 cI aL vL]) (w1 := [k1_0 aQ vQ, k1_1 cJ aQ vQ, k1_2 cI aQ vQ, k1_3 cI aQ vQ, k1_4 cI aQ vQ, k1_5 cJ aQ vQ, k1_6 cJ aQ vQ, k1_7 cJ aQ vQ, k1_8 cJ aQ vQ, k1_9 cJ aQ vQ]) (wo := [k0_0 aL vL, k0_1 cI aL vL, k0_2 cI aL vL, k0_3 cI aL vL, k0_4 cI aL vL, k1_0 aQ vQ, k1_1 cJ aQ vQ, k1_2 cI aQ vQ, k1_3 cI aQ vQ, k1_4 cI aQ vQ, k1_5 cJ aQ vQ, k1_6 cJ aQ vQ, k1_7 cJ aQ vQ, k1_8 cJ aQ vQ, k1_9 cJ aQ vQ]) hP hD hS hA (va_runV (As := [.int i3]) (rest := []) ⟨hx, hb, hml, hown, hts⟩ (mX1_touchesNext l dC dI cI cJ aQ H.size vQ i3 y16 hy16) (cwV 1 hts gX1_moveTogether_X1_touchesNext rfl rfl rfl (by decide +kernel) ⟨Nat.le_of_ble_eq_true rfl, Nat.le_of_ble_eq_true rfl⟩) ⟨cFB, va_recv hK hP (ci := 1) (q0 := 5) rfl rfl, cPre hK hN hS (va_free (wc := [k1_0 aQ vQ, k1_1 cJ aQ vQ, k1_2 cI aQ vQ, k1_3 cI aQ vQ, k1_4 cI aQ vQ, k1_5 cJ aQ vQ, k1_6 cJ aQ vQ, k1_7 cJ aQ vQ, k1_8 cJ aQ vQ, k1_9 cJ aQ vQ]) hD hS hA [5, 6, 7, 8, 9, 10, 11, 12, 13, 14] rfl) (hP.sub [5, 6, 7, 8, 9, 10, 11, 12, 13, 14] rfl) (hD.sub [5, 6, 7, 8, 9, 10, 11, 12, 13, 14] rfl rfl)⟩ rfl rfl hl.1 rfl (lv_room (Nat.le_of_ble_eq_true rfl)) dX1_moveTogether_28 ⟨Nat.le_of_ble_eq_true rfl, Nat.le_of_ble_eq_true rfl⟩) [5, 6, 7, 8, 9, 10, 11, 12, 13, 14] [0, 1, 2, 3, 4] [0, 1, 2, 3, 4, 5, 6, 7, 8, 9, 10, 11, 12, 13, 14] rfl rfl rfl (by decide +kernel) rfl rfl (fun H locs hP hD hS => ?_)
      refine lv_if_eq (tgt := 38) hx hb dX1_moveTogether_31 (by decide) (fun c17 => ?_) (fun c17 => ?_)
      · have hf := oif_t c17 hf
        exact (hWW _ _ _ _ _ _ _).1 (J38 i2 H locs ls hP hD hS (lv_sub hl [1, 3] rfl) hf)
      · have hf := oif_f c17 hf
        refine lv_iconst (v := 1) hx hb dX1_moveTogether_34 (by decide) ?_
        refine lv_goto (tgt := 39) hx hb dX1_moveTogether_35 (by decide) ?_
        exact (hWW _ _ _ _ _ _ _).1 (J39 i2 (1 : Int32) H locs ls hP hD hS (lv_sub hl [1, 3] rfl) hf)
def fX1_nothingMoves_61 (k2 : BX0 → BX1 → Int32 → Option Int32) (vL : BX0) (vQ : BX1) (x2 : Int32) : Option Int32 :=
  elet (x2 + 1) (fun z9 => k2 vL vQ z9)
def fX1_nothingMoves_12_b (k2 : BX0 → BX1 → Int32 → Option Int32) (k12 : BX0 → BX1 → Int32 → Int32 → Option Int32) (vL : BX0) (vQ : BX1) (x2 : Int32) (x3 : Int32) : Option Int32 :=
  if (p0_plates vL) ≤ x3 then (fX1_nothingMoves_61 k2 vL vQ x2) else (if inB (x3 + (1 : Int32)) 6 = true then (if inB (x2 + (1 : Int32)) 6 = true then (if (lg_cmp ((p1_spots vQ) ((x3 + (1 : Int32))).toNatClampNeg) ((p1_spots vQ) ((x2 + (1 : Int32))).toNatClampNeg)) = 0 then ((fX1_moveTogether vL vQ x2 x3).bind (fun y6 => if y6 = 0 then (elet (x3 + 1) (fun z8 => k12 vL vQ x2 z8)) else (some 0))) else (fX1_nothingMoves_61 k2 vL vQ x2)) else none) else none)
def fX1_nothingMoves_12 (k2 : BX0 → BX1 → Int32 → Option Int32) : Nat → BX0 → BX1 → Int32 → Int32 → Option Int32
  | 0 => fun _ _ _ _ => none
  | n + 1 => fX1_nothingMoves_12_b k2 (fX1_nothingMoves_12 k2 n)
def fX1_nothingMoves_2_b (k2 : BX0 → BX1 → Int32 → Option Int32) (vL : BX0) (vQ : BX1) (x2 : Int32) : Option Int32 :=
  if (p0_plates vL) ≤ x2 then (some 1) else (fX1_nothingMoves_12 k2 FU vL vQ x2 x2)
def fX1_nothingMoves_2 : Nat → BX0 → BX1 → Int32 → Option Int32
  | 0 => fun _ _ _ => none
  | n + 1 => fX1_nothingMoves_2_b (fX1_nothingMoves_2 n)
def fX1_nothingMoves (vL : BX0) (vQ : BX1) : Option Int32 :=
  fX1_nothingMoves_2 FU vL vQ (0 : Int32)
set_option maxHeartbeats 8000000 in
set_option maxRecDepth 100000 in
theorem mX1_nothingMoves (l : Launch) (dC : Nat → ClassId) (dI : Nat → Nat → Nat) (cI cJ : ClassId) (aL : Nat → Nat) (aQ : Nat → Nat) (sz : Nat) (vL : BX0) (vQ : BX1) (y : Int32) (hf : fX1_nothingMoves vL vQ = some y) : Met l yX1_nothingMoves wsX1_nothingMoves ({ frames := 3, cells := 0, slots := 0, locals := 75 }) (cPc dC dI cI cJ [.ref (aQ 0), .ref (aL 0)] [k0_0 aL vL, k0_1 cI aL vL, k0_2 cI aL vL, k0_3 cI aL vL, k0_4 cI aL vL, k1_0 aQ vQ, k1_1 cJ aQ vQ, k1_2 cI aQ vQ, k1_3 cI aQ vQ, k1_4 cI aQ vQ, k1_5 cJ aQ vQ, k1_6 cJ aQ vQ, k1_7 cJ aQ vQ, k1_8 cJ aQ vQ, k1_9 cJ aQ vQ] sz) (va_Qi (fun r (_ : Unit) => r = y) (fun _ t => cB dC dI (va_A [k0_0 aL vL, k0_1 cI aL vL, k0_2 cI aL vL, k0_3 cI aL vL, k0_4 cI aL vL, k1_0 aQ vQ, k1_1 cJ aQ vQ, k1_2 cI aQ vQ, k1_3 cI aQ vQ, k1_4 cI aQ vQ, k1_5 cJ aQ vQ, k1_6 cJ aQ vQ, k1_7 cJ aQ vQ, k1_8 cJ aQ vQ, k1_9 cJ aQ vQ] sz) [k0_0 aL vL, k0_1 cI aL vL, k0_2 cI aL vL, k0_3 cI aL vL, k0_4 cI aL vL, k1_0 aQ vQ, k1_1 cJ aQ vQ, k1_2 cI aQ vQ, k1_3 cI aQ vQ, k1_4 cI aQ vQ, k1_5 cJ aQ vQ, k1_6 cJ aQ vQ, k1_7 cJ aQ vQ, k1_8 cJ aQ vQ, k1_9 cJ aQ vQ] t) (va_A [k0_0 aL vL, k0_1 cI aL vL, k0_2 cI aL vL, k0_3 cI aL vL, k0_4 cI aL vL, k1_0 aQ vQ, k1_1 cJ aQ vQ, k1_2 cI aQ vQ, k1_3 cI aQ vQ, k1_4 cI aQ vQ, k1_5 cJ aQ vQ, k1_6 cJ aQ vQ, k1_7 cJ aQ vQ, k1_8 cJ aQ vQ, k1_9 cJ aQ vQ] sz)) 0 0 (va_A [k0_0 aL vL, k0_1 cI aL vL, k0_2 cI aL vL, k0_3 cI aL vL, k0_4 cI aL vL, k1_0 aQ vQ, k1_1 cJ aQ vQ, k1_2 cI aQ vQ, k1_3 cI aQ vQ, k1_4 cI aQ vQ, k1_5 cJ aQ vQ, k1_6 cJ aQ vQ, k1_7 cJ aQ vQ, k1_8 cJ aQ vQ, k1_9 cJ aQ vQ] sz) := by
  refine Met.ofW (cc := cX1_nothingMoves) (maxL := 4) (ret := (some .boolean)) (by decide) rfl ?_
  intro p e s m args below meth c s₁ B hml hv
  obtain ⟨rfl, hsz, hP, hK, hD0, hN⟩ := hv
  have hx := B.exec
  have hb := B.bytes
  have hr := B.returns
  have hts := atoms_spec (ws := wsX1_nothingMoves) B.pre
  have hown : s.vm.findClass RX1 = some m.cls := findClass_of_methodNamed B.named
  have hlocks := B.notSynchronized
  subst hsz
  have hD := hD0.self (sz := s.heap.size)
  generalize hAe : va_A [k0_0 aL vL, k0_1 cI aL vL, k0_2 cI aL vL, k0_3 cI aL vL, k0_4 cI aL vL, k1_0 aQ vQ, k1_1 cJ aQ vQ, k1_2 cI aQ vQ, k1_3 cI aQ vQ, k1_4 cI aQ vQ, k1_5 cJ aQ vQ, k1_6 cJ aQ vQ, k1_7 cJ aQ vQ, k1_8 cJ aQ vQ, k1_9 cJ aQ vQ] s.heap.size = A at hD hN ⊢
  have hA : ∀ q : Nat, s.heap.size ≤ q → A q := fun q h => by rw [← hAe]; exact Or.inr h
  have hP : va_P (dC, dI) vwCl [k0_0 aL vL, k0_1 cI aL vL, k0_2 cI aL vL, k0_3 cI aL vL, k0_4 cI aL vL, k1_0 aQ vQ, k1_1 cJ aQ vQ, k1_2 cI aQ vQ, k1_3 cI aQ vQ, k1_4 cI aQ vQ, k1_5 cJ aQ vQ, k1_6 cJ aQ vQ, k1_7 cJ aQ vQ, k1_8 cJ aQ vQ, k1_9 cJ aQ vQ] s.heap := hP
  have hl := lv_entry ([.ref (aQ 0), .ref (aL 0)]) (n := 4) (Nat.le_of_ble_eq_true rfl)
  rw [lg_entry_eq]
  generalize (lg_sl ([.ref (aQ 0), .ref (aL 0)]) ++ List.replicate (4 - (lg_sl ([.ref (aQ 0), .ref (aL 0)])).length) Slot.unset).toArray = ls at hl ⊢
  have hl : lv_has ls 4 [(0, .ref (aQ 0)), (1, .ref (aL 0))] := hl
  have hiX0 : ∀ w ∈ u_ws RX0 TX0 6, w ∈ wsX1_nothingMoves := by decide +kernel
  have hgX0_74 := hts (.fieldLink RX1 74 "SpringPlates$Layout" "plates" "I") (by decide +kernel)
  have hiX1 : ∀ w ∈ u_ws RX1 TX1 10, w ∈ wsX1_nothingMoves := by decide +kernel
  have hgX1_9 := hts (.fieldLink RX1 9 "SpringPlates$Rest" "spots" "[J") (by decide +kernel)
  refine nameH (fun H locs hHe hLe => ?_)
  have hP : va_P (dC, dI) vwCl [k0_0 aL vL, k0_1 cI aL vL, k0_2 cI aL vL, k0_3 cI aL vL, k0_4 cI aL vL, k1_0 aQ vQ, k1_1 cJ aQ vQ, k1_2 cI aQ vQ, k1_3 cI aQ vQ, k1_4 cI aQ vQ, k1_5 cJ aQ vQ, k1_6 cJ aQ vQ, k1_7 cJ aQ vQ, k1_8 cJ aQ vQ, k1_9 cJ aQ vQ] H := by rw [hHe]; exact hP
  have hS : va_S A s.heap H locs := by rw [hHe, hLe]; exact va_S.rf
  refine withW (fun WW hWW => ?_)
  have J61 : ∀ (k2 : BX0 → BX1 → Int32 → Option Int32) (hk2 : ∀ (x2 : Int32) (H : Heap) (locs : List Loc) (ls : Array Slot), va_P (dC, dI) vwCl [k0_0 aL vL, k0_1 cI aL vL, k0_2 cI aL vL, k0_3 cI aL vL, k0_4 cI aL vL, k1_0 aQ vQ, k1_1 cJ aQ vQ, k1_2 cI aQ vQ, k1_3 cI aQ vQ, k1_4 cI aQ vQ, k1_5 cJ aQ vQ, k1_6 cJ aQ vQ, k1_7 cJ aQ vQ, k1_8 cJ aQ vQ, k1_9 cJ aQ vQ] H → va_D A [k0_0 aL vL, k0_1 cI aL vL, k0_2 cI aL vL, k0_3 cI aL vL, k0_4 cI aL vL, k1_0 aQ vQ, k1_1 cJ aQ vQ, k1_2 cI aQ vQ, k1_3 cI aQ vQ, k1_4 cI aQ vQ, k1_5 cJ aQ vQ, k1_6 cJ aQ vQ, k1_7 cJ aQ vQ, k1_8 cJ aQ vQ, k1_9 cJ aQ vQ] → va_S A s.heap H locs → lv_has ls 4 [(0, .ref (aQ 0)), (1, .ref (aL 0)), (2, .int x2)] → k2 vL vQ x2 = some y → WW H locs 0 0 ls 2 []) (x2 : Int32) (H : Heap) (locs : List Loc) (ls : Array Slot), va_P (dC, dI) vwCl [k0_0 aL vL, k0_1 cI aL vL, k0_2 cI aL vL, k0_3 cI aL vL, k0_4 cI aL vL, k1_0 aQ vQ, k1_1 cJ aQ vQ, k1_2 cI aQ vQ, k1_3 cI aQ vQ, k1_4 cI aQ vQ, k1_5 cJ aQ vQ, k1_6 cJ aQ vQ, k1_7 cJ aQ vQ, k1_8 cJ aQ vQ, k1_9 cJ aQ vQ] H → va_D A [k0_0 aL vL, k0_1 cI aL vL, k0_2 cI aL vL, k0_3 cI aL vL, k0_4 cI aL vL, k1_0 aQ vQ, k1_1 cJ aQ vQ, k1_2 cI aQ vQ, k1_3 cI aQ vQ, k1_4 cI aQ vQ, k1_5 cJ aQ vQ, k1_6 cJ aQ vQ, k1_7 cJ aQ vQ, k1_8 cJ aQ vQ, k1_9 cJ aQ vQ] → va_S A s.heap H locs → lv_has ls 4 [(0, .ref (aQ 0)), (1, .ref (aL 0)), (2, .int x2)] → fX1_nothingMoves_61 k2 vL vQ x2 = some y → WW H locs 0 0 ls 61 [] := by
    intro k2 hk2 x2 H locs ls hP hD hS hl hf
    unfold fX1_nothingMoves_61 at hf
    refine (hWW _ _ _ _ _ _ _).2 ?_
    obtain ⟨z9, ez9, hf⟩ := elet_out hf
    refine lv_iinc (v := z9) (lv' := [(2, .int z9), (0, .ref (aQ 0)), (1, .ref (aL 0))]) hx hb dX1_nothingMoves_61 hl (k := 2) rfl (by rw [ez9]; rfl) (by decide) rfl (fun ls hl => ?_)
    refine lv_goto (tgt := 2) hx hb dX1_nothingMoves_64 (by decide) ?_
    exact (hWW _ _ _ _ _ _ _).1 (hk2 z9 H locs ls hP hD hS (lv_sub hl [1, 2, 0] rfl) hf)
  have L12 : ∀ (k2 : BX0 → BX1 → Int32 → Option Int32) (hk2 : ∀ (x2 : Int32) (H : Heap) (locs : List Loc) (ls : Array Slot), va_P (dC, dI) vwCl [k0_0 aL vL, k0_1 cI aL vL, k0_2 cI aL vL, k0_3 cI aL vL, k0_4 cI aL vL, k1_0 aQ vQ, k1_1 cJ aQ vQ, k1_2 cI aQ vQ, k1_3 cI aQ vQ, k1_4 cI aQ vQ, k1_5 cJ aQ vQ, k1_6 cJ aQ vQ, k1_7 cJ aQ vQ, k1_8 cJ aQ vQ, k1_9 cJ aQ vQ] H → va_D A [k0_0 aL vL, k0_1 cI aL vL, k0_2 cI aL vL, k0_3 cI aL vL, k0_4 cI aL vL, k1_0 aQ vQ, k1_1 cJ aQ vQ, k1_2 cI aQ vQ, k1_3 cI aQ vQ, k1_4 cI aQ vQ, k1_5 cJ aQ vQ, k1_6 cJ aQ vQ, k1_7 cJ aQ vQ, k1_8 cJ aQ vQ, k1_9 cJ aQ vQ] → va_S A s.heap H locs → lv_has ls 4 [(0, .ref (aQ 0)), (1, .ref (aL 0)), (2, .int x2)] → k2 vL vQ x2 = some y → WW H locs 0 0 ls 2 []) (n : Nat) (x2 : Int32) (x3 : Int32) (H : Heap) (locs : List Loc) (ls : Array Slot), va_P (dC, dI) vwCl [k0_0 aL vL, k0_1 cI aL vL, k0_2 cI aL vL, k0_3 cI aL vL, k0_4 cI aL vL, k1_0 aQ vQ, k1_1 cJ aQ vQ, k1_2 cI aQ vQ, k1_3 cI aQ vQ, k1_4 cI aQ vQ, k1_5 cJ aQ vQ, k1_6 cJ aQ vQ, k1_7 cJ aQ vQ, k1_8 cJ aQ vQ, k1_9 cJ aQ vQ] H → va_D A [k0_0 aL vL, k0_1 cI aL vL, k0_2 cI aL vL, k0_3 cI aL vL, k0_4 cI aL vL, k1_0 aQ vQ, k1_1 cJ aQ vQ, k1_2 cI aQ vQ, k1_3 cI aQ vQ, k1_4 cI aQ vQ, k1_5 cJ aQ vQ, k1_6 cJ aQ vQ, k1_7 cJ aQ vQ, k1_8 cJ aQ vQ, k1_9 cJ aQ vQ] → va_S A s.heap H locs → lv_has ls 4 [(0, .ref (aQ 0)), (1, .ref (aL 0)), (2, .int x2), (3, .int x3)] → fX1_nothingMoves_12 k2 n vL vQ x2 x3 = some y → WW H locs 0 0 ls 12 [] := by
    intro k2 hk2 n
    induction n with
    | zero =>
      intro x2 x3 H locs ls hP hD hS hl hf
      exact onone hf
    | succ n ih =>
      intro x2 x3 H locs ls hP hD hS hl hf
      have hf : fX1_nothingMoves_12_b k2 (fX1_nothingMoves_12 k2 n) vL vQ x2 x3 = some y := hf
      generalize fX1_nothingMoves_12 k2 n = k12 at hf ih
      have hk12 := ih
      clear ih
      unfold fX1_nothingMoves_12_b at hf
      refine (hWW _ _ _ _ _ _ _).2 ?_
      refine lv_iload_n hx hb dX1_nothingMoves_12 rfl (lv_at hl 3 rfl) ?_
      refine lv_aload_n hx hb dX1_nothingMoves_13 rfl (lv_at hl 1 rfl) ?_
      refine va_get (D := (dC, dI)) (ci := 0) (v := .int (p0_plates vL)) (C := RX0) (T := TX0) (N := 6) hx hb hts hiX0 hown hK hP 0 rfl rfl 1 (by decide) hgX0_74 (fun _ h9 => h9) rfl dX1_nothingMoves_14 ?_
      refine lv_icmp_ge (tgt := 61) hx hb dX1_nothingMoves_17 (by decide) (fun c2 => ?_) (fun c2 => ?_)
      · have hf := oif_t c2 hf
        exact (hWW _ _ _ _ _ _ _).1 (J61 k2 hk2 x2 H locs ls hP hD hS (lv_sub hl [0, 1, 2] rfl) hf)
      · have hf := oif_f c2 hf
        refine lv_aload_n hx hb dX1_nothingMoves_20 rfl (lv_at hl 0 rfl) ?_
        refine va_get (D := (dC, dI)) (ci := 1) (v := .ref (aQ 1)) (C := RX1) (T := TX1) (N := 10) hx hb hts hiX1 hown hK hP 5 rfl rfl 0 (by decide) hgX1_9 (fun _ h9 => h9) rfl dX1_nothingMoves_21 ?_
        refine lv_iload_n hx hb dX1_nothingMoves_24 rfl (lv_at hl 3 rfl) ?_
        refine lv_iconst (v := 1) hx hb dX1_nothingMoves_25 (by decide) ?_
        refine lv_iadd hx hb dX1_nothingMoves_26 ?_
        obtain ⟨hi3, hf⟩ := oinb rfl hf
        refine va_lald hx hb hK hP 6 1 rfl rfl hi3 dX1_nothingMoves_27 ?_
        refine lv_aload_n hx hb dX1_nothingMoves_28 rfl (lv_at hl 0 rfl) ?_
        refine va_get (D := (dC, dI)) (ci := 1) (v := .ref (aQ 1)) (C := RX1) (T := TX1) (N := 10) hx hb hts hiX1 hown hK hP 5 rfl rfl 0 (by decide) hgX1_9 (fun _ h9 => h9) rfl dX1_nothingMoves_29 ?_
        refine lv_iload_n hx hb dX1_nothingMoves_32 rfl (lv_at hl 2 rfl) ?_
        refine lv_iconst (v := 1) hx hb dX1_nothingMoves_33 (by decide) ?_
        refine lv_iadd hx hb dX1_nothingMoves_34 ?_
        obtain ⟨hi4, hf⟩ := oinb rfl hf
        refine va_lald hx hb hK hP 6 1 rfl rfl hi4 dX1_nothingMoves_35 ?_
        refine W.lcmp hx hb dX1_nothingMoves_36 ?_
        refine lv_if_eq (tgt := 43) hx hb dX1_nothingMoves_37 (by decide) (fun c5 => ?_) (fun c5 => ?_)
        · have hf := oif_t c5 hf
          refine lv_aload_n hx hb dX1_nothingMoves_43 rfl (lv_at hl 0 rfl) ?_
          refine lv_aload_n hx hb dX1_nothingMoves_44 rfl (lv_at hl 1 rfl) ?_
          refine lv_iload_n hx hb dX1_nothingMoves_45 rfl (lv_at hl 2 rfl) ?_
          refine lv_iload_n hx hb dX1_nothingMoves_46 rfl (lv_at hl 3 rfl) ?_
          obtain ⟨y6, hy6, hf⟩ := obind hf
          refine cg_i (ws := [k0_0 aL vL, k0_1 cI aL vL, k0_2 cI aL vL, k0_3 cI aL vL, k0_4 cI aL vL, k1_0 aQ vQ, k1_1 cJ aQ vQ, k1_2 cI aQ vQ, k1_3 cI aQ vQ, k1_4 cI aQ vQ, k1_5 cJ aQ vQ, k1_6 cJ aQ vQ, k1_7 cJ aQ vQ, k1_8 cJ aQ vQ, k1_9 cJ aQ vQ]) (wc := [k0_0 aL vL, k0_1 cI aL vL, k0_2 cI aL vL, k0_3 cI aL vL, k0_4 cI aL vL, k1_0 aQ vQ, k1_1 cJ aQ vQ, k1_2 cI aQ vQ, k1_3 cI aQ vQ, k1_4 cI aQ vQ, k1_5 cJ aQ vQ, k1_6 cJ aQ vQ, k1_7 cJ aQ vQ, k1_8 cJ aQ vQ, k1_9 cJ aQ vQ]) (wr := []) (w1 := [k0_0 aL vL, k0_1 cI aL vL, k0_2 cI aL vL, k0_3 cI aL vL, k0_4 cI aL vL, k1_0 aQ vQ, k1_1 cJ aQ vQ, k1_2 cI aQ vQ, k1_3 cI aQ vQ, k1_4 cI aQ vQ, k1_5 cJ aQ vQ, k1_6 cJ aQ vQ, k1_7 cJ aQ vQ, k1_8 cJ aQ vQ, k1_9 cJ aQ vQ]) (wo := [k0_0 aL vL, k0_1 cI aL vL, k0_2 cI aL vL, k0_3 cI aL vL, k0_4 cI aL vL, k1_0 aQ vQ, k1_1 cJ aQ vQ, k1_2 cI aQ vQ, k1_3 cI aQ vQ, k1_4 cI aQ vQ, k1_5 cJ aQ vQ, k1_6 cJ aQ vQ, k1_7 cJ aQ vQ, k1_8 cJ aQ vQ, k1_9 cJ aQ vQ]) hP hD hS hA (va_runV (As := [.ref (aL 0), .int x2, .int x3]) (rest := []) ⟨hx, hb, hml, hown, hts⟩ (mX1_moveTogether l dC dI cI cJ aL aQ H.size vL vQ x2 x3 y6 hy6) (cwV 3 hts gX1_nothingMoves_X1_moveTogether rfl rfl rfl (by decide +kernel) ⟨Nat.le_of_ble_eq_true rfl, Nat.le_of_ble_eq_true rfl⟩) ⟨cFB, va_recv hK hP (ci := 1) (q0 := 5) rfl rfl, cPre hK hN hS (va_free (wc := [k0_0 aL vL, k0_1 cI aL vL, k0_2 cI aL vL, k0_3 cI aL vL, k0_4 cI aL vL, k1_0 aQ vQ, k1_1 cJ aQ vQ, k1_2 cI aQ vQ, k1_3 cI aQ vQ, k1_4 cI aQ vQ, k1_5 cJ aQ vQ, k1_6 cJ aQ vQ, k1_7 cJ aQ vQ, k1_8 cJ aQ vQ, k1_9 cJ aQ vQ]) hD hS hA [0, 1, 2, 3, 4, 5, 6, 7, 8, 9, 10, 11, 12, 13, 14] rfl) (hP.sub [0, 1, 2, 3, 4, 5, 6, 7, 8, 9, 10, 11, 12, 13, 14] rfl) (hD.sub [0, 1, 2, 3, 4, 5, 6, 7, 8, 9, 10, 11, 12, 13, 14] rfl rfl)⟩ rfl rfl hl.1 rfl (lv_room (Nat.le_of_ble_eq_true rfl)) dX1_nothingMoves_47 ⟨Nat.le_of_ble_eq_true rfl, Nat.le_of_ble_eq_true rfl⟩) [0, 1, 2, 3, 4, 5, 6, 7, 8, 9, 10, 11, 12, 13, 14] [] [0, 1, 2, 3, 4, 5, 6, 7, 8, 9, 10, 11, 12, 13, 14] rfl rfl rfl (by decide +kernel) rfl rfl (fun H locs hP hD hS => ?_)
          refine lv_if_eq (tgt := 55) hx hb dX1_nothingMoves_50 (by decide) (fun c7 => ?_) (fun c7 => ?_)
          · have hf := oif_t c7 hf
            obtain ⟨z8, ez8, hf⟩ := elet_out hf
            refine lv_iinc (v := z8) (lv' := [(3, .int z8), (0, .ref (aQ 0)), (1, .ref (aL 0)), (2, .int x2)]) hx hb dX1_nothingMoves_55 hl (k := 3) rfl (by rw [ez8]; rfl) (by decide) rfl (fun ls hl => ?_)
            refine lv_goto (tgt := 12) hx hb dX1_nothingMoves_58 (by decide) ?_
            exact (hWW _ _ _ _ _ _ _).1 (hk12 x2 z8 H locs ls hP hD hS (lv_sub hl [1, 2, 3, 0] rfl) hf)
          · have hf := oif_f c7 hf
            refine lv_iconst (v := 0) hx hb dX1_nothingMoves_53 (by decide) ?_
            obtain rfl := Option.some.inj hf
            exact W.zret (v := 0) hx hb hr rfl (fun t ht hW => ⟨⟨0, (), rfl, rfl, by rw [ht]; exact hP, hD⟩, hS.F ht⟩) hS.2.2 dX1_nothingMoves_54
        · have hf := oif_f c5 hf
          refine lv_goto (tgt := 61) hx hb dX1_nothingMoves_40 (by decide) ?_
          exact (hWW _ _ _ _ _ _ _).1 (J61 k2 hk2 x2 H locs ls hP hD hS (lv_sub hl [0, 1, 2] rfl) hf)
  have L2 : ∀ (n : Nat) (x2 : Int32) (H : Heap) (locs : List Loc) (ls : Array Slot), va_P (dC, dI) vwCl [k0_0 aL vL, k0_1 cI aL vL, k0_2 cI aL vL, k0_3 cI aL vL, k0_4 cI aL vL, k1_0 aQ vQ, k1_1 cJ aQ vQ, k1_2 cI aQ vQ, k1_3 cI aQ vQ, k1_4 cI aQ vQ, k1_5 cJ aQ vQ, k1_6 cJ aQ vQ, k1_7 cJ aQ vQ, k1_8 cJ aQ vQ, k1_9 cJ aQ vQ] H → va_D A [k0_0 aL vL, k0_1 cI aL vL, k0_2 cI aL vL, k0_3 cI aL vL, k0_4 cI aL vL, k1_0 aQ vQ, k1_1 cJ aQ vQ, k1_2 cI aQ vQ, k1_3 cI aQ vQ, k1_4 cI aQ vQ, k1_5 cJ aQ vQ, k1_6 cJ aQ vQ, k1_7 cJ aQ vQ, k1_8 cJ aQ vQ, k1_9 cJ aQ vQ] → va_S A s.heap H locs → lv_has ls 4 [(0, .ref (aQ 0)), (1, .ref (aL 0)), (2, .int x2)] → fX1_nothingMoves_2 n vL vQ x2 = some y → WW H locs 0 0 ls 2 [] := by
    intro n
    induction n with
    | zero =>
      intro x2 H locs ls hP hD hS hl hf
      exact onone hf
    | succ n ih =>
      intro x2 H locs ls hP hD hS hl hf
      have hf : fX1_nothingMoves_2_b (fX1_nothingMoves_2 n) vL vQ x2 = some y := hf
      generalize fX1_nothingMoves_2 n = k2 at hf ih
      have hk2 := ih
      clear ih
      unfold fX1_nothingMoves_2_b at hf
      refine (hWW _ _ _ _ _ _ _).2 ?_
      refine lv_iload_n hx hb dX1_nothingMoves_2 rfl (lv_at hl 2 rfl) ?_
      refine lv_aload_n hx hb dX1_nothingMoves_3 rfl (lv_at hl 1 rfl) ?_
      refine va_get (D := (dC, dI)) (ci := 0) (v := .int (p0_plates vL)) (C := RX0) (T := TX0) (N := 6) hx hb hts hiX0 hown hK hP 0 rfl rfl 1 (by decide) hgX0_74 (fun _ h9 => h9) rfl dX1_nothingMoves_4 ?_
      refine lv_icmp_ge (tgt := 67) hx hb dX1_nothingMoves_7 (by decide) (fun c1 => ?_) (fun c1 => ?_)
      · have hf := oif_t c1 hf
        refine lv_iconst (v := 1) hx hb dX1_nothingMoves_67 (by decide) ?_
        obtain rfl := Option.some.inj hf
        exact W.zret (v := 1) hx hb hr rfl (fun t ht hW => ⟨⟨1, (), rfl, rfl, by rw [ht]; exact hP, hD⟩, hS.F ht⟩) hS.2.2 dX1_nothingMoves_68
      · have hf := oif_f c1 hf
        refine lv_iload_n hx hb dX1_nothingMoves_10 rfl (lv_at hl 2 rfl) ?_
        refine lv_istore_n (lv' := [(3, .int x2), (0, .ref (aQ 0)), (1, .ref (aL 0)), (2, .int x2)]) hx hb dX1_nothingMoves_11 rfl hl (by decide) rfl (fun ls hl => ?_)
        exact (hWW _ _ _ _ _ _ _).1 (L12 k2 hk2 FU x2 x2 H locs ls hP hD hS (lv_sub hl [1, 2, 3, 0] rfl) hf)
  refine (hWW _ _ _ _ _ _ _).2 ?_
  unfold fX1_nothingMoves at hf
  refine lv_iconst (v := 0) hx hb dX1_nothingMoves_0 (by decide) ?_
  refine lv_istore_n (lv' := [(2, .int 0), (0, .ref (aQ 0)), (1, .ref (aL 0))]) hx hb dX1_nothingMoves_1 rfl hl (by decide) rfl (fun ls hl => ?_)
  exact (hWW _ _ _ _ _ _ _).1 (L2 FU (0 : Int32) H locs ls hP hD hS (lv_sub hl [1, 2, 0] rfl) hf)
def fX1_settle_67 (k29 : BX0 → BX1 → Int32 → Int32 → Option BX1) (vL : BX0) (vQ : BX1) (x2 : Int32) (x3 : Int32) : Option BX1 :=
  elet (x3 + 1) (fun z9 => k29 vL vQ x2 z9)
def fX1_settle_29_b (k29 : BX0 → BX1 → Int32 → Int32 → Option BX1) (vL : BX0) (vQ : BX1) (x2 : Int32) (x3 : Int32) : Option BX1 :=
  if x2 ≤ x3 then (some vQ) else ((fX1_takeGuess vL vQ x3).bind (fun y2 => (fX1_expressPlaces vL y2).bind (fun y3 => (fX1_findPlaces vL y3).bind (fun y4 => if y4.1 = 0 then (fX1_settle_67 k29 vL y4.2 x2 x3) else ((fX1_shareLower vL y4.2).bind (fun y6 => (fX1_nothingMoves vL y6).bind (fun y7 => if y7 = 0 then (fX1_settle_67 k29 vL y6 x2 x3) else (some y6))))))))
def fX1_settle_29 : Nat → BX0 → BX1 → Int32 → Int32 → Option BX1
  | 0 => fun _ _ _ _ => none
  | n + 1 => fX1_settle_29_b (fX1_settle_29 n)
def fX1_settle_26 (vL : BX0) (vQ : BX1) (st0 : Int32) : Option BX1 :=
  fX1_settle_29 FU vL vQ st0 (0 : Int32)
def fX1_settle (vL : BX0) (vQ : BX1) : Option BX1 :=
  (fX1_boundPlates vL vQ).bind (fun y10 => if (p0_plates vL) = 0 then (fX1_settle_26 vL y10 (1 : Int32)) else (fX1_settle_26 vL y10 ((3 : Int32) <<< (((2 : Int32) * ((p0_plates vL) - (1 : Int32))) &&& 31))))
set_option maxHeartbeats 8000000 in
set_option maxRecDepth 100000 in
theorem mX1_settle (l : Launch) (dC : Nat → ClassId) (dI : Nat → Nat → Nat) (cI cJ : ClassId) (aL : Nat → Nat) (aQ : Nat → Nat) (sz : Nat) (vL : BX0) (vQ : BX1) (y : BX1) (hf : fX1_settle vL vQ = some y) : Met l yX1_settle wsX1_settle ({ frames := 4, cells := 0, slots := 0, locals := 98 }) (cPc dC dI cI cJ [.ref (aQ 0), .ref (aL 0)] [k0_0 aL vL, k0_1 cI aL vL, k0_2 cI aL vL, k0_3 cI aL vL, k0_4 cI aL vL, k1_0 aQ vQ, k1_1 cJ aQ vQ, k1_2 cI aQ vQ, k1_3 cI aQ vQ, k1_4 cI aQ vQ, k1_5 cJ aQ vQ, k1_6 cJ aQ vQ, k1_7 cJ aQ vQ, k1_8 cJ aQ vQ, k1_9 cJ aQ vQ] sz) (va_Qv (fun (_ : Unit) => True) (fun _ t => cB dC dI (va_A [k0_0 aL vL, k0_1 cI aL vL, k0_2 cI aL vL, k0_3 cI aL vL, k0_4 cI aL vL, k1_0 aQ vQ, k1_1 cJ aQ vQ, k1_2 cI aQ vQ, k1_3 cI aQ vQ, k1_4 cI aQ vQ, k1_5 cJ aQ vQ, k1_6 cJ aQ vQ, k1_7 cJ aQ vQ, k1_8 cJ aQ vQ, k1_9 cJ aQ vQ] sz) [k0_0 aL vL, k0_1 cI aL vL, k0_2 cI aL vL, k0_3 cI aL vL, k0_4 cI aL vL, k1_0 aQ y, k1_1 cJ aQ y, k1_2 cI aQ y, k1_3 cI aQ y, k1_4 cI aQ y, k1_5 cJ aQ y, k1_6 cJ aQ y, k1_7 cJ aQ y, k1_8 cJ aQ y, k1_9 cJ aQ y] t) (va_A [k0_0 aL vL, k0_1 cI aL vL, k0_2 cI aL vL, k0_3 cI aL vL, k0_4 cI aL vL, k1_0 aQ vQ, k1_1 cJ aQ vQ, k1_2 cI aQ vQ, k1_3 cI aQ vQ, k1_4 cI aQ vQ, k1_5 cJ aQ vQ, k1_6 cJ aQ vQ, k1_7 cJ aQ vQ, k1_8 cJ aQ vQ, k1_9 cJ aQ vQ] sz)) 0 0 (va_A [k0_0 aL vL, k0_1 cI aL vL, k0_2 cI aL vL, k0_3 cI aL vL, k0_4 cI aL vL, k1_0 aQ vQ, k1_1 cJ aQ vQ, k1_2 cI aQ vQ, k1_3 cI aQ vQ, k1_4 cI aQ vQ, k1_5 cJ aQ vQ, k1_6 cJ aQ vQ, k1_7 cJ aQ vQ, k1_8 cJ aQ vQ, k1_9 cJ aQ vQ] sz) := by
  refine Met.ofW (cc := cX1_settle) (maxL := 4) (ret := none) (by decide) rfl ?_
  intro p e s m args below meth c s₁ B hml hv
  obtain ⟨rfl, hsz, hP, hK, hD0, hN⟩ := hv
  have hx := B.exec
  have hb := B.bytes
  have hr := B.returns
  have hts := atoms_spec (ws := wsX1_settle) B.pre
  have hown : s.vm.findClass RX1 = some m.cls := findClass_of_methodNamed B.named
  have hlocks := B.notSynchronized
  subst hsz
  have hD := hD0.self (sz := s.heap.size)
  generalize hAe : va_A [k0_0 aL vL, k0_1 cI aL vL, k0_2 cI aL vL, k0_3 cI aL vL, k0_4 cI aL vL, k1_0 aQ vQ, k1_1 cJ aQ vQ, k1_2 cI aQ vQ, k1_3 cI aQ vQ, k1_4 cI aQ vQ, k1_5 cJ aQ vQ, k1_6 cJ aQ vQ, k1_7 cJ aQ vQ, k1_8 cJ aQ vQ, k1_9 cJ aQ vQ] s.heap.size = A at hD hN ⊢
  have hA : ∀ q : Nat, s.heap.size ≤ q → A q := fun q h => by rw [← hAe]; exact Or.inr h
  have hP : va_P (dC, dI) vwCl [k0_0 aL vL, k0_1 cI aL vL, k0_2 cI aL vL, k0_3 cI aL vL, k0_4 cI aL vL, k1_0 aQ vQ, k1_1 cJ aQ vQ, k1_2 cI aQ vQ, k1_3 cI aQ vQ, k1_4 cI aQ vQ, k1_5 cJ aQ vQ, k1_6 cJ aQ vQ, k1_7 cJ aQ vQ, k1_8 cJ aQ vQ, k1_9 cJ aQ vQ] s.heap := hP
  have hl := lv_entry ([.ref (aQ 0), .ref (aL 0)]) (n := 4) (Nat.le_of_ble_eq_true rfl)
  rw [lg_entry_eq]
  generalize (lg_sl ([.ref (aQ 0), .ref (aL 0)]) ++ List.replicate (4 - (lg_sl ([.ref (aQ 0), .ref (aL 0)])).length) Slot.unset).toArray = ls at hl ⊢
  have hl : lv_has ls 4 [(0, .ref (aQ 0)), (1, .ref (aL 0))] := hl
  have hiX0 : ∀ w ∈ u_ws RX0 TX0 6, w ∈ wsX1_settle := by decide +kernel
  have hgX0_74 := hts (.fieldLink RX1 74 "SpringPlates$Layout" "plates" "I") (by decide +kernel)
  refine nameH (fun H locs hHe hLe => ?_)
  have hP : va_P (dC, dI) vwCl [k0_0 aL vL, k0_1 cI aL vL, k0_2 cI aL vL, k0_3 cI aL vL, k0_4 cI aL vL, k1_0 aQ vQ, k1_1 cJ aQ vQ, k1_2 cI aQ vQ, k1_3 cI aQ vQ, k1_4 cI aQ vQ, k1_5 cJ aQ vQ, k1_6 cJ aQ vQ, k1_7 cJ aQ vQ, k1_8 cJ aQ vQ, k1_9 cJ aQ vQ] H := by rw [hHe]; exact hP
  have hS : va_S A s.heap H locs := by rw [hHe, hLe]; exact va_S.rf
  refine withW (fun WW hWW => ?_)
  have J67 : ∀ (k29 : BX0 → BX1 → Int32 → Int32 → Option BX1) (hk29 : ∀ (vQ : BX1) (x2 : Int32) (x3 : Int32) (H : Heap) (locs : List Loc) (ls : Array Slot), va_P (dC, dI) vwCl [k0_0 aL vL, k0_1 cI aL vL, k0_2 cI aL vL, k0_3 cI aL vL, k0_4 cI aL vL, k1_0 aQ vQ, k1_1 cJ aQ vQ, k1_2 cI aQ vQ, k1_3 cI aQ vQ, k1_4 cI aQ vQ, k1_5 cJ aQ vQ, k1_6 cJ aQ vQ, k1_7 cJ aQ vQ, k1_8 cJ aQ vQ, k1_9 cJ aQ vQ] H → va_D A [k0_0 aL vL, k0_1 cI aL vL, k0_2 cI aL vL, k0_3 cI aL vL, k0_4 cI aL vL, k1_0 aQ vQ, k1_1 cJ aQ vQ, k1_2 cI aQ vQ, k1_3 cI aQ vQ, k1_4 cI aQ vQ, k1_5 cJ aQ vQ, k1_6 cJ aQ vQ, k1_7 cJ aQ vQ, k1_8 cJ aQ vQ, k1_9 cJ aQ vQ] → va_S A s.heap H locs → lv_has ls 4 [(0, .ref (aQ 0)), (1, .ref (aL 0)), (2, .int x2), (3, .int x3)] → k29 vL vQ x2 x3 = some y → WW H locs 0 0 ls 29 []) (vQ : BX1) (x2 : Int32) (x3 : Int32) (H : Heap) (locs : List Loc) (ls : Array Slot), va_P (dC, dI) vwCl [k0_0 aL vL, k0_1 cI aL vL, k0_2 cI aL vL, k0_3 cI aL vL, k0_4 cI aL vL, k1_0 aQ vQ, k1_1 cJ aQ vQ, k1_2 cI aQ vQ, k1_3 cI aQ vQ, k1_4 cI aQ vQ, k1_5 cJ aQ vQ, k1_6 cJ aQ vQ, k1_7 cJ aQ vQ, k1_8 cJ aQ vQ, k1_9 cJ aQ vQ] H → va_D A [k0_0 aL vL, k0_1 cI aL vL, k0_2 cI aL vL, k0_3 cI aL vL, k0_4 cI aL vL, k1_0 aQ vQ, k1_1 cJ aQ vQ, k1_2 cI aQ vQ, k1_3 cI aQ vQ, k1_4 cI aQ vQ, k1_5 cJ aQ vQ, k1_6 cJ aQ vQ, k1_7 cJ aQ vQ, k1_8 cJ aQ vQ, k1_9 cJ aQ vQ] → va_S A s.heap H locs → lv_has ls 4 [(0, .ref (aQ 0)), (1, .ref (aL 0)), (2, .int x2), (3, .int x3)] → fX1_settle_67 k29 vL vQ x2 x3 = some y → WW H locs 0 0 ls 67 [] := by
    intro k29 hk29 vQ x2 x3 H locs ls hP hD hS hl hf
    unfold fX1_settle_67 at hf
    refine (hWW _ _ _ _ _ _ _).2 ?_
    obtain ⟨z9, ez9, hf⟩ := elet_out hf
    refine lv_iinc (v := z9) (lv' := [(3, .int z9), (0, .ref (aQ 0)), (1, .ref (aL 0)), (2, .int x2)]) hx hb dX1_settle_67 hl (k := 3) rfl (by rw [ez9]; rfl) (by decide) rfl (fun ls hl => ?_)
    refine lv_goto (tgt := 29) hx hb dX1_settle_70 (by decide) ?_
    exact (hWW _ _ _ _ _ _ _).1 (hk29 vQ x2 z9 H locs ls hP hD hS (lv_sub hl [1, 2, 3, 0] rfl) hf)
  have L29 : ∀ (n : Nat) (vQ : BX1) (x2 : Int32) (x3 : Int32) (H : Heap) (locs : List Loc) (ls : Array Slot), va_P (dC, dI) vwCl [k0_0 aL vL, k0_1 cI aL vL, k0_2 cI aL vL, k0_3 cI aL vL, k0_4 cI aL vL, k1_0 aQ vQ, k1_1 cJ aQ vQ, k1_2 cI aQ vQ, k1_3 cI aQ vQ, k1_4 cI aQ vQ, k1_5 cJ aQ vQ, k1_6 cJ aQ vQ, k1_7 cJ aQ vQ, k1_8 cJ aQ vQ, k1_9 cJ aQ vQ] H → va_D A [k0_0 aL vL, k0_1 cI aL vL, k0_2 cI aL vL, k0_3 cI aL vL, k0_4 cI aL vL, k1_0 aQ vQ, k1_1 cJ aQ vQ, k1_2 cI aQ vQ, k1_3 cI aQ vQ, k1_4 cI aQ vQ, k1_5 cJ aQ vQ, k1_6 cJ aQ vQ, k1_7 cJ aQ vQ, k1_8 cJ aQ vQ, k1_9 cJ aQ vQ] → va_S A s.heap H locs → lv_has ls 4 [(0, .ref (aQ 0)), (1, .ref (aL 0)), (2, .int x2), (3, .int x3)] → fX1_settle_29 n vL vQ x2 x3 = some y → WW H locs 0 0 ls 29 [] := by
    intro n
    induction n with
    | zero =>
      intro vQ x2 x3 H locs ls hP hD hS hl hf
      exact onone hf
    | succ n ih =>
      intro vQ x2 x3 H locs ls hP hD hS hl hf
      have hf : fX1_settle_29_b (fX1_settle_29 n) vL vQ x2 x3 = some y := hf
      generalize fX1_settle_29 n = k29 at hf ih
      have hk29 := ih
      clear ih
      unfold fX1_settle_29_b at hf
      refine (hWW _ _ _ _ _ _ _).2 ?_
      refine lv_iload_n hx hb dX1_settle_29 rfl (lv_at hl 3 rfl) ?_
      refine lv_iload_n hx hb dX1_settle_30 rfl (lv_at hl 2 rfl) ?_
      refine lv_icmp_ge (tgt := 73) hx hb dX1_settle_31 (by decide) (fun c1 => ?_) (fun c1 => ?_)
      · have hf := oif_t c1 hf
        obtain rfl := Option.some.inj hf
        exact W.vret hx hb hr (fun t ht hW => ⟨⟨(), rfl, trivial, by rw [ht]; exact hP, hD⟩, hS.F ht⟩) hS.2.2 dX1_settle_73
      · have hf := oif_f c1 hf
        refine lv_aload_n hx hb dX1_settle_34 rfl (lv_at hl 0 rfl) ?_
        refine lv_aload_n hx hb dX1_settle_35 rfl (lv_at hl 1 rfl) ?_
        refine lv_iload_n hx hb dX1_settle_36 rfl (lv_at hl 3 rfl) ?_
        obtain ⟨y2, hy2, hf⟩ := obind hf
        refine cg_v (ws := [k0_0 aL vL, k0_1 cI aL vL, k0_2 cI aL vL, k0_3 cI aL vL, k0_4 cI aL vL, k1_0 aQ vQ, k1_1 cJ aQ vQ, k1_2 cI aQ vQ, k1_3 cI aQ vQ, k1_4 cI aQ vQ, k1_5 cJ aQ vQ, k1_6 cJ aQ vQ, k1_7 cJ aQ vQ, k1_8 cJ aQ vQ, k1_9 cJ aQ vQ]) (wc := [k0_0 aL vL, k0_1 cI aL vL, k0_2 cI aL vL, k0_3 cI aL vL, k0_4 cI aL vL, k1_0 aQ vQ, k1_1 cJ aQ vQ, k1_2 cI aQ vQ, k1_3 cI aQ vQ, k1_4 cI aQ vQ, k1_5 cJ aQ vQ, k1_6 cJ aQ vQ, k1_7 cJ aQ vQ, k1_8 cJ aQ vQ, k1_9 cJ aQ vQ]) (wr := []) (w1 := [k0_0 aL vL, k0_1 cI aL vL, k0_2 cI aL vL, k0_3 cI aL vL, k0_4 cI aL vL, k1_0 aQ y2, k1_1 cJ aQ y2, k1_2 cI aQ y2, k1_3 cI aQ y2, k1_4 cI aQ y2, k1_5 cJ aQ y2, k1_6 cJ aQ y2, k1_7 cJ aQ y2, k1_8 cJ aQ y2, k1_9 cJ aQ y2]) (wo := [k0_0 aL vL, k0_1 cI aL vL, k0_2 cI aL vL, k0_3 cI aL vL, k0_4 cI aL vL, k1_0 aQ y2, k1_1 cJ aQ y2, k1_2 cI aQ y2, k1_3 cI aQ y2, k1_4 cI aQ y2, k1_5 cJ aQ y2, k1_6 cJ aQ y2, k1_7 cJ aQ y2, k1_8 cJ aQ y2, k1_9 cJ aQ y2]) hP hD hS hA (va_runV (As := [.ref (aL 0), .int x3]) (rest := []) ⟨hx, hb, hml, hown, hts⟩ (mX1_takeGuess l dC dI cI cJ aL aQ H.size vL vQ x3 y2 hy2) (cwV 2 hts gX1_settle_X1_takeGuess rfl rfl rfl (by decide +kernel) ⟨Nat.le_of_ble_eq_true rfl, Nat.le_of_ble_eq_true rfl⟩) ⟨cFB, va_recv hK hP (ci := 1) (q0 := 5) rfl rfl, cPre hK hN hS (va_free (wc := [k0_0 aL vL, k0_1 cI aL vL, k0_2 cI aL vL, k0_3 cI aL vL, k0_4 cI aL vL, k1_0 aQ vQ, k1_1 cJ aQ vQ, k1_2 cI aQ vQ, k1_3 cI aQ vQ, k1_4 cI aQ vQ, k1_5 cJ aQ vQ, k1_6 cJ aQ vQ, k1_7 cJ aQ vQ, k1_8 cJ aQ vQ, k1_9 cJ aQ vQ]) hD hS hA [0, 1, 2, 3, 4, 5, 6, 7, 8, 9, 10, 11, 12, 13, 14] rfl) (hP.sub [0, 1, 2, 3, 4, 5, 6, 7, 8, 9, 10, 11, 12, 13, 14] rfl) (hD.sub [0, 1, 2, 3, 4, 5, 6, 7, 8, 9, 10, 11, 12, 13, 14] rfl rfl)⟩ rfl rfl hl.1 rfl (lv_room (Nat.le_of_ble_eq_true rfl)) dX1_settle_37 ⟨Nat.le_of_ble_eq_true rfl, Nat.le_of_ble_eq_true rfl⟩) [0, 1, 2, 3, 4, 5, 6, 7, 8, 9, 10, 11, 12, 13, 14] [] [0, 1, 2, 3, 4, 5, 6, 7, 8, 9, 10, 11, 12, 13, 14] rfl rfl rfl (by decide +kernel) rfl rfl (fun H locs hP hD hS => ?_)
        refine lv_aload_n hx hb dX1_settle_40 rfl (lv_at hl 0 rfl) ?_
        refine lv_aload_n hx hb dX1_settle_41 rfl (lv_at hl 1 rfl) ?_
        obtain ⟨y3, hy3, hf⟩ := obind hf
        refine cg_v (ws := [k0_0 aL vL, k0_1 cI aL vL, k0_2 cI aL vL, k0_3 cI aL vL, k0_4 cI aL vL, k1_0 aQ y2, k1_1 cJ aQ y2, k1_2 cI aQ y2, k1_3 cI aQ y2, k1_4 cI aQ y2, k1_5 cJ aQ y2, k1_6 cJ aQ y2, k1_7 cJ aQ y2, k1_8 cJ aQ y2, k1_9 cJ aQ y2]) (wc := [k0_0 aL vL, k0_1 cI aL vL, k0_2 cI aL vL, k0_3 cI aL vL, k0_4 cI aL vL, k1_0 aQ y2, k1_1 cJ aQ y2, k1_2 cI aQ y2, k1_3 cI aQ y2, k1_4 cI aQ y2, k1_5 cJ aQ y2, k1_6 cJ aQ y2, k1_7 cJ aQ y2, k1_8 cJ aQ y2, k1_9 cJ aQ y2]) (wr := []) (w1 := [k0_0 aL vL, k0_1 cI aL vL, k0_2 cI aL vL, k0_3 cI aL vL, k0_4 cI aL vL, k1_0 aQ y3, k1_1 cJ aQ y3, k1_2 cI aQ y3, k1_3 cI aQ y3, k1_4 cI aQ y3, k1_5 cJ aQ y3, k1_6 cJ aQ y3, k1_7 cJ aQ y3, k1_8 cJ aQ y3, k1_9 cJ aQ y3]) (wo := [k0_0 aL vL, k0_1 cI aL vL, k0_2 cI aL vL, k0_3 cI aL vL, k0_4 cI aL vL, k1_0 aQ y3, k1_1 cJ aQ y3, k1_2 cI aQ y3, k1_3 cI aQ y3, k1_4 cI aQ y3, k1_5 cJ aQ y3, k1_6 cJ aQ y3, k1_7 cJ aQ y3, k1_8 cJ aQ y3, k1_9 cJ aQ y3]) hP hD hS hA (va_runV (As := [.ref (aL 0)]) (rest := []) ⟨hx, hb, hml, hown, hts⟩ (mX1_expressPlaces l dC dI cI cJ aL aQ H.size vL y2 y3 hy3) (cwV 1 hts gX1_settle_X1_expressPlaces rfl rfl rfl (by decide +kernel) ⟨Nat.le_of_ble_eq_true rfl, Nat.le_of_ble_eq_true rfl⟩) ⟨cFB, va_recv hK hP (ci := 1) (q0 := 5) rfl rfl, cPre hK hN hS (va_free (wc := [k0_0 aL vL, k0_1 cI aL vL, k0_2 cI aL vL, k0_3 cI aL vL, k0_4 cI aL vL, k1_0 aQ y2, k1_1 cJ aQ y2, k1_2 cI aQ y2, k1_3 cI aQ y2, k1_4 cI aQ y2, k1_5 cJ aQ y2, k1_6 cJ aQ y2, k1_7 cJ aQ y2, k1_8 cJ aQ y2, k1_9 cJ aQ y2]) hD hS hA [0, 1, 2, 3, 4, 5, 6, 7, 8, 9, 10, 11, 12, 13, 14] rfl) (hP.sub [0, 1, 2, 3, 4, 5, 6, 7, 8, 9, 10, 11, 12, 13, 14] rfl) (hD.sub [0, 1, 2, 3, 4, 5, 6, 7, 8, 9, 10, 11, 12, 13, 14] rfl rfl)⟩ rfl rfl hl.1 rfl (lv_room (Nat.le_of_ble_eq_true rfl)) dX1_settle_42 ⟨Nat.le_of_ble_eq_true rfl, Nat.le_of_ble_eq_true rfl⟩) [0, 1, 2, 3, 4, 5, 6, 7, 8, 9, 10, 11, 12, 13, 14] [] [0, 1, 2, 3, 4, 5, 6, 7, 8, 9, 10, 11, 12, 13, 14] rfl rfl rfl (by decide +kernel) rfl rfl (fun H locs hP hD hS => ?_)
        refine lv_aload_n hx hb dX1_settle_45 rfl (lv_at hl 0 rfl) ?_
        refine lv_aload_n hx hb dX1_settle_46 rfl (lv_at hl 1 rfl) ?_
        obtain ⟨y4, hy4, hf⟩ := obind hf
        refine cg_i (ws := [k0_0 aL vL, k0_1 cI aL vL, k0_2 cI aL vL, k0_3 cI aL vL, k0_4 cI aL vL, k1_0 aQ y3, k1_1 cJ aQ y3, k1_2 cI aQ y3, k1_3 cI aQ y3, k1_4 cI aQ y3, k1_5 cJ aQ y3, k1_6 cJ aQ y3, k1_7 cJ aQ y3, k1_8 cJ aQ y3, k1_9 cJ aQ y3]) (wc := [k0_0 aL vL, k0_1 cI aL vL, k0_2 cI aL vL, k0_3 cI aL vL, k0_4 cI aL vL, k1_0 aQ y3, k1_1 cJ aQ y3, k1_2 cI aQ y3, k1_3 cI aQ y3, k1_4 cI aQ y3, k1_5 cJ aQ y3, k1_6 cJ aQ y3, k1_7 cJ aQ y3, k1_8 cJ aQ y3, k1_9 cJ aQ y3]) (wr := []) (w1 := [k0_0 aL vL, k0_1 cI aL vL, k0_2 cI aL vL, k0_3 cI aL vL, k0_4 cI aL vL, k1_0 aQ y4.2, k1_1 cJ aQ y4.2, k1_2 cI aQ y4.2, k1_3 cI aQ y4.2, k1_4 cI aQ y4.2, k1_5 cJ aQ y4.2, k1_6 cJ aQ y4.2, k1_7 cJ aQ y4.2, k1_8 cJ aQ y4.2, k1_9 cJ aQ y4.2]) (wo := [k0_0 aL vL, k0_1 cI aL vL, k0_2 cI aL vL, k0_3 cI aL vL, k0_4 cI aL vL, k1_0 aQ y4.2, k1_1 cJ aQ y4.2, k1_2 cI aQ y4.2, k1_3 cI aQ y4.2, k1_4 cI aQ y4.2, k1_5 cJ aQ y4.2, k1_6 cJ aQ y4.2, k1_7 cJ aQ y4.2, k1_8 cJ aQ y4.2, k1_9 cJ aQ y4.2]) hP hD hS hA (va_runV (As := [.ref (aL 0)]) (rest := []) ⟨hx, hb, hml, hown, hts⟩ (mX1_findPlaces l dC dI cI cJ aL aQ H.size vL y3 y4 hy4) (cwV 1 hts gX1_settle_X1_findPlaces rfl rfl rfl (by decide +kernel) ⟨Nat.le_of_ble_eq_true rfl, Nat.le_of_ble_eq_true rfl⟩) ⟨cFB, va_recv hK hP (ci := 1) (q0 := 5) rfl rfl, cPre hK hN hS (va_free (wc := [k0_0 aL vL, k0_1 cI aL vL, k0_2 cI aL vL, k0_3 cI aL vL, k0_4 cI aL vL, k1_0 aQ y3, k1_1 cJ aQ y3, k1_2 cI aQ y3, k1_3 cI aQ y3, k1_4 cI aQ y3, k1_5 cJ aQ y3, k1_6 cJ aQ y3, k1_7 cJ aQ y3, k1_8 cJ aQ y3, k1_9 cJ aQ y3]) hD hS hA [0, 1, 2, 3, 4, 5, 6, 7, 8, 9, 10, 11, 12, 13, 14] rfl) (hP.sub [0, 1, 2, 3, 4, 5, 6, 7, 8, 9, 10, 11, 12, 13, 14] rfl) (hD.sub [0, 1, 2, 3, 4, 5, 6, 7, 8, 9, 10, 11, 12, 13, 14] rfl rfl)⟩ rfl rfl hl.1 rfl (lv_room (Nat.le_of_ble_eq_true rfl)) dX1_settle_47 ⟨Nat.le_of_ble_eq_true rfl, Nat.le_of_ble_eq_true rfl⟩) [0, 1, 2, 3, 4, 5, 6, 7, 8, 9, 10, 11, 12, 13, 14] [] [0, 1, 2, 3, 4, 5, 6, 7, 8, 9, 10, 11, 12, 13, 14] rfl rfl rfl (by decide +kernel) rfl rfl (fun H locs hP hD hS => ?_)
        refine lv_if_eq (tgt := 67) hx hb dX1_settle_50 (by decide) (fun c5 => ?_) (fun c5 => ?_)
        · have hf := oif_t c5 hf
          exact (hWW _ _ _ _ _ _ _).1 (J67 k29 hk29 y4.2 x2 x3 H locs ls hP hD hS (lv_sub hl [0, 1, 2, 3] rfl) hf)
        · have hf := oif_f c5 hf
          refine lv_aload_n hx hb dX1_settle_53 rfl (lv_at hl 0 rfl) ?_
          refine lv_aload_n hx hb dX1_settle_54 rfl (lv_at hl 1 rfl) ?_
          obtain ⟨y6, hy6, hf⟩ := obind hf
          refine cg_v (ws := [k0_0 aL vL, k0_1 cI aL vL, k0_2 cI aL vL, k0_3 cI aL vL, k0_4 cI aL vL, k1_0 aQ y4.2, k1_1 cJ aQ y4.2, k1_2 cI aQ y4.2, k1_3 cI aQ y4.2, k1_4 cI aQ y4.2, k1_5 cJ aQ y4.2, k1_6 cJ aQ y4.2, k1_7 cJ aQ y4.2, k1_8 cJ aQ y4.2, k1_9 cJ aQ y4.2]) (wc := [k0_0 aL vL, k0_1 cI aL vL, k0_2 cI aL vL, k0_3 cI aL vL, k0_4 cI aL vL, k1_0 aQ y4.2, k1_1 cJ aQ y4.2, k1_2 cI aQ y4.2, k1_3 cI aQ y4.2, k1_4 cI aQ y4.2, k1_5 cJ aQ y4.2, k1_6 cJ aQ y4.2, k1_7 cJ aQ y4.2, k1_8 cJ aQ y4.2, k1_9 cJ aQ y4.2]) (wr := []) (w1 := [k0_0 aL vL, k0_1 cI aL vL, k0_2 cI aL vL, k0_3 cI aL vL, k0_4 cI aL vL, k1_0 aQ y6, k1_1 cJ aQ y6, k1_2 cI aQ y6, k1_3 cI aQ y6, k1_4 cI aQ y6, k1_5 cJ aQ y6, k1_6 cJ aQ y6, k1_7 cJ aQ y6, k1_8 cJ aQ y6, k1_9 cJ aQ y6]) (wo := [k0_0 aL vL, k0_1 cI aL vL, k0_2 cI aL vL, k0_3 cI aL vL, k0_4 cI aL vL, k1_0 aQ y6, k1_1 cJ aQ y6, k1_2 cI aQ y6, k1_3 cI aQ y6, k1_4 cI aQ y6, k1_5 cJ aQ y6, k1_6 cJ aQ y6, k1_7 cJ aQ y6, k1_8 cJ aQ y6, k1_9 cJ aQ y6]) hP hD hS hA (va_runV (As := [.ref (aL 0)]) (rest := []) ⟨hx, hb, hml, hown, hts⟩ (mX1_shareLower l dC dI cI cJ aL aQ H.size vL y4.2 y6 hy6) (cwV 1 hts gX1_settle_X1_shareLower rfl rfl rfl (by decide +kernel) ⟨Nat.le_of_ble_eq_true rfl, Nat.le_of_ble_eq_true rfl⟩) ⟨cFB, va_recv hK hP (ci := 1) (q0 := 5) rfl rfl, cPre hK hN hS (va_free (wc := [k0_0 aL vL, k0_1 cI aL vL, k0_2 cI aL vL, k0_3 cI aL vL, k0_4 cI aL vL, k1_0 aQ y4.2, k1_1 cJ aQ y4.2, k1_2 cI aQ y4.2, k1_3 cI aQ y4.2, k1_4 cI aQ y4.2, k1_5 cJ aQ y4.2, k1_6 cJ aQ y4.2, k1_7 cJ aQ y4.2, k1_8 cJ aQ y4.2, k1_9 cJ aQ y4.2]) hD hS hA [0, 1, 2, 3, 4, 5, 6, 7, 8, 9, 10, 11, 12, 13, 14] rfl) (hP.sub [0, 1, 2, 3, 4, 5, 6, 7, 8, 9, 10, 11, 12, 13, 14] rfl) (hD.sub [0, 1, 2, 3, 4, 5, 6, 7, 8, 9, 10, 11, 12, 13, 14] rfl rfl)⟩ rfl rfl hl.1 rfl (lv_room (Nat.le_of_ble_eq_true rfl)) dX1_settle_55 ⟨Nat.le_of_ble_eq_true rfl, Nat.le_of_ble_eq_true rfl⟩) [0, 1, 2, 3, 4, 5, 6, 7, 8, 9, 10, 11, 12, 13, 14] [] [0, 1, 2, 3, 4, 5, 6, 7, 8, 9, 10, 11, 12, 13, 14] rfl rfl rfl (by decide +kernel) rfl rfl (fun H locs hP hD hS => ?_)
          refine lv_aload_n hx hb dX1_settle_58 rfl (lv_at hl 0 rfl) ?_
          refine lv_aload_n hx hb dX1_settle_59 rfl (lv_at hl 1 rfl) ?_
          obtain ⟨y7, hy7, hf⟩ := obind hf
          refine cg_i (ws := [k0_0 aL vL, k0_1 cI aL vL, k0_2 cI aL vL, k0_3 cI aL vL, k0_4 cI aL vL, k1_0 aQ y6, k1_1 cJ aQ y6, k1_2 cI aQ y6, k1_3 cI aQ y6, k1_4 cI aQ y6, k1_5 cJ aQ y6, k1_6 cJ aQ y6, k1_7 cJ aQ y6, k1_8 cJ aQ y6, k1_9 cJ aQ y6]) (wc := [k0_0 aL vL, k0_1 cI aL vL, k0_2 cI aL vL, k0_3 cI aL vL, k0_4 cI aL vL, k1_0 aQ y6, k1_1 cJ aQ y6, k1_2 cI aQ y6, k1_3 cI aQ y6, k1_4 cI aQ y6, k1_5 cJ aQ y6, k1_6 cJ aQ y6, k1_7 cJ aQ y6, k1_8 cJ aQ y6, k1_9 cJ aQ y6]) (wr := []) (w1 := [k0_0 aL vL, k0_1 cI aL vL, k0_2 cI aL vL, k0_3 cI aL vL, k0_4 cI aL vL, k1_0 aQ y6, k1_1 cJ aQ y6, k1_2 cI aQ y6, k1_3 cI aQ y6, k1_4 cI aQ y6, k1_5 cJ aQ y6, k1_6 cJ aQ y6, k1_7 cJ aQ y6, k1_8 cJ aQ y6, k1_9 cJ aQ y6]) (wo := [k0_0 aL vL, k0_1 cI aL vL, k0_2 cI aL vL, k0_3 cI aL vL, k0_4 cI aL vL, k1_0 aQ y6, k1_1 cJ aQ y6, k1_2 cI aQ y6, k1_3 cI aQ y6, k1_4 cI aQ y6, k1_5 cJ aQ y6, k1_6 cJ aQ y6, k1_7 cJ aQ y6, k1_8 cJ aQ y6, k1_9 cJ aQ y6]) hP hD hS hA (va_runV (As := [.ref (aL 0)]) (rest := []) ⟨hx, hb, hml, hown, hts⟩ (mX1_nothingMoves l dC dI cI cJ aL aQ H.size vL y6 y7 hy7) (cwV 1 hts gX1_settle_X1_nothingMoves rfl rfl rfl (by decide +kernel) ⟨Nat.le_of_ble_eq_true rfl, Nat.le_of_ble_eq_true rfl⟩) ⟨cFB, va_recv hK hP (ci := 1) (q0 := 5) rfl rfl, cPre hK hN hS (va_free (wc := [k0_0 aL vL, k0_1 cI aL vL, k0_2 cI aL vL, k0_3 cI aL vL, k0_4 cI aL vL, k1_0 aQ y6, k1_1 cJ aQ y6, k1_2 cI aQ y6, k1_3 cI aQ y6, k1_4 cI aQ y6, k1_5 cJ aQ y6, k1_6 cJ aQ y6, k1_7 cJ aQ y6, k1_8 cJ aQ y6, k1_9 cJ aQ y6]) hD hS hA [0, 1, 2, 3, 4, 5, 6, 7, 8, 9, 10, 11, 12, 13, 14] rfl) (hP.sub [0, 1, 2, 3, 4, 5, 6, 7, 8, 9, 10, 11, 12, 13, 14] rfl) (hD.sub [0, 1, 2, 3, 4, 5, 6, 7, 8, 9, 10, 11, 12, 13, 14] rfl rfl)⟩ rfl rfl hl.1 rfl (lv_room (Nat.le_of_ble_eq_true rfl)) dX1_settle_60 ⟨Nat.le_of_ble_eq_true rfl, Nat.le_of_ble_eq_true rfl⟩) [0, 1, 2, 3, 4, 5, 6, 7, 8, 9, 10, 11, 12, 13, 14] [] [0, 1, 2, 3, 4, 5, 6, 7, 8, 9, 10, 11, 12, 13, 14] rfl rfl rfl (by decide +kernel) rfl rfl (fun H locs hP hD hS => ?_)
          refine lv_if_eq (tgt := 67) hx hb dX1_settle_63 (by decide) (fun c8 => ?_) (fun c8 => ?_)
          · have hf := oif_t c8 hf
            exact (hWW _ _ _ _ _ _ _).1 (J67 k29 hk29 y6 x2 x3 H locs ls hP hD hS (lv_sub hl [0, 1, 2, 3] rfl) hf)
          · have hf := oif_f c8 hf
            obtain rfl := Option.some.inj hf
            exact W.vret hx hb hr (fun t ht hW => ⟨⟨(), rfl, trivial, by rw [ht]; exact hP, hD⟩, hS.F ht⟩) hS.2.2 dX1_settle_66
  have J26 : ∀ (vQ : BX1) (st0 : Int32) (H : Heap) (locs : List Loc) (ls : Array Slot), va_P (dC, dI) vwCl [k0_0 aL vL, k0_1 cI aL vL, k0_2 cI aL vL, k0_3 cI aL vL, k0_4 cI aL vL, k1_0 aQ vQ, k1_1 cJ aQ vQ, k1_2 cI aQ vQ, k1_3 cI aQ vQ, k1_4 cI aQ vQ, k1_5 cJ aQ vQ, k1_6 cJ aQ vQ, k1_7 cJ aQ vQ, k1_8 cJ aQ vQ, k1_9 cJ aQ vQ] H → va_D A [k0_0 aL vL, k0_1 cI aL vL, k0_2 cI aL vL, k0_3 cI aL vL, k0_4 cI aL vL, k1_0 aQ vQ, k1_1 cJ aQ vQ, k1_2 cI aQ vQ, k1_3 cI aQ vQ, k1_4 cI aQ vQ, k1_5 cJ aQ vQ, k1_6 cJ aQ vQ, k1_7 cJ aQ vQ, k1_8 cJ aQ vQ, k1_9 cJ aQ vQ] → va_S A s.heap H locs → lv_has ls 4 [(0, .ref (aQ 0)), (1, .ref (aL 0))] → fX1_settle_26 vL vQ st0 = some y → WW H locs 0 0 ls 26 [.int st0] := by
    intro vQ st0 H locs ls hP hD hS hl hf
    unfold fX1_settle_26 at hf
    refine (hWW _ _ _ _ _ _ _).2 ?_
    refine lv_istore_n (lv' := [(2, .int st0), (0, .ref (aQ 0)), (1, .ref (aL 0))]) hx hb dX1_settle_26 rfl hl (by decide) rfl (fun ls hl => ?_)
    refine lv_iconst (v := 0) hx hb dX1_settle_27 (by decide) ?_
    refine lv_istore_n (lv' := [(3, .int 0), (2, .int st0), (0, .ref (aQ 0)), (1, .ref (aL 0))]) hx hb dX1_settle_28 rfl hl (by decide) rfl (fun ls hl => ?_)
    exact (hWW _ _ _ _ _ _ _).1 (L29 FU vQ st0 (0 : Int32) H locs ls hP hD hS (lv_sub hl [2, 3, 1, 0] rfl) hf)
  refine (hWW _ _ _ _ _ _ _).2 ?_
  unfold fX1_settle at hf
  refine lv_aload_n hx hb dX1_settle_0 rfl (lv_at hl 0 rfl) ?_
  refine lv_aload_n hx hb dX1_settle_1 rfl (lv_at hl 1 rfl) ?_
  obtain ⟨y10, hy10, hf⟩ := obind hf
  refine cg_v (ws := [k0_0 aL vL, k0_1 cI aL vL, k0_2 cI aL vL, k0_3 cI aL vL, k0_4 cI aL vL, k1_0 aQ vQ, k1_1 cJ aQ vQ, k1_2 cI aQ vQ, k1_3 cI aQ vQ, k1_4 cI aQ vQ, k1_5 cJ aQ vQ, k1_6 cJ aQ vQ, k1_7 cJ aQ vQ, k1_8 cJ aQ vQ, k1_9 cJ aQ vQ]) (wc := [k0_0 aL vL, k0_1 cI aL vL, k0_2 cI aL vL, k0_3 cI aL vL, k0_4 cI aL vL, k1_0 aQ vQ, k1_1 cJ aQ vQ, k1_2 cI aQ vQ, k1_3 cI aQ vQ, k1_4 cI aQ vQ, k1_5 cJ aQ vQ, k1_6 cJ aQ vQ, k1_7 cJ aQ vQ, k1_8 cJ aQ vQ, k1_9 cJ aQ vQ]) (wr := []) (w1 := [k0_0 aL vL, k0_1 cI aL vL, k0_2 cI aL vL, k0_3 cI aL vL, k0_4 cI aL vL, k1_0 aQ y10, k1_1 cJ aQ y10, k1_2 cI aQ y10, k1_3 cI aQ y10, k1_4 cI aQ y10, k1_5 cJ aQ y10, k1_6 cJ aQ y10, k1_7 cJ aQ y10, k1_8 cJ aQ y10, k1_9 cJ aQ y10]) (wo := [k0_0 aL vL, k0_1 cI aL vL, k0_2 cI aL vL, k0_3 cI aL vL, k0_4 cI aL vL, k1_0 aQ y10, k1_1 cJ aQ y10, k1_2 cI aQ y10, k1_3 cI aQ y10, k1_4 cI aQ y10, k1_5 cJ aQ y10, k1_6 cJ aQ y10, k1_7 cJ aQ y10, k1_8 cJ aQ y10, k1_9 cJ aQ y10]) hP hD hS hA (va_runV (As := [.ref (aL 0)]) (rest := []) ⟨hx, hb, hml, hown, hts⟩ (mX1_boundPlates l dC dI cI cJ aL aQ H.size vL vQ y10 hy10) (cwV 1 hts gX1_settle_X1_boundPlates rfl rfl rfl (by decide +kernel) ⟨Nat.le_of_ble_eq_true rfl, Nat.le_of_ble_eq_true rfl⟩) ⟨cFB, va_recv hK hP (ci := 1) (q0 := 5) rfl rfl, cPre hK hN hS (va_free (wc := [k0_0 aL vL, k0_1 cI aL vL, k0_2 cI aL vL, k0_3 cI aL vL, k0_4 cI aL vL, k1_0 aQ vQ, k1_1 cJ aQ vQ, k1_2 cI aQ vQ, k1_3 cI aQ vQ, k1_4 cI aQ vQ, k1_5 cJ aQ vQ, k1_6 cJ aQ vQ, k1_7 cJ aQ vQ, k1_8 cJ aQ vQ, k1_9 cJ aQ vQ]) hD hS hA [0, 1, 2, 3, 4, 5, 6, 7, 8, 9, 10, 11, 12, 13, 14] rfl) (hP.sub [0, 1, 2, 3, 4, 5, 6, 7, 8, 9, 10, 11, 12, 13, 14] rfl) (hD.sub [0, 1, 2, 3, 4, 5, 6, 7, 8, 9, 10, 11, 12, 13, 14] rfl rfl)⟩ rfl rfl hl.1 rfl (lv_room (Nat.le_of_ble_eq_true rfl)) dX1_settle_2 ⟨Nat.le_of_ble_eq_true rfl, Nat.le_of_ble_eq_true rfl⟩) [0, 1, 2, 3, 4, 5, 6, 7, 8, 9, 10, 11, 12, 13, 14] [] [0, 1, 2, 3, 4, 5, 6, 7, 8, 9, 10, 11, 12, 13, 14] rfl rfl rfl (by decide +kernel) rfl rfl (fun H locs hP hD hS => ?_)
  refine lv_aload_n hx hb dX1_settle_5 rfl (lv_at hl 1 rfl) ?_
  refine va_get (D := (dC, dI)) (ci := 0) (v := .int (p0_plates vL)) (C := RX0) (T := TX0) (N := 6) hx hb hts hiX0 hown hK hP 0 rfl rfl 1 (by decide) hgX0_74 (fun _ h9 => h9) rfl dX1_settle_6 ?_
  refine lv_if_ne (tgt := 16) hx hb dX1_settle_9 (by decide) (fun c11 => ?_) (fun c11 => ?_)
  · have hf := oif_f c11 hf
    refine lv_iconst (v := 3) hx hb dX1_settle_16 (by decide) ?_
    refine lv_iconst (v := 2) hx hb dX1_settle_17 (by decide) ?_
    refine lv_aload_n hx hb dX1_settle_18 rfl (lv_at hl 1 rfl) ?_
    refine va_get (D := (dC, dI)) (ci := 0) (v := .int (p0_plates vL)) (C := RX0) (T := TX0) (N := 6) hx hb hts hiX0 hown hK hP 0 rfl rfl 1 (by decide) hgX0_74 (fun _ h9 => h9) rfl dX1_settle_19 ?_
    refine lv_iconst (v := 1) hx hb dX1_settle_22 (by decide) ?_
    refine lv_isub hx hb dX1_settle_23 ?_
    refine lv_imul hx hb dX1_settle_24 ?_
    refine lv_ishl hx hb dX1_settle_25 ?_
    exact (hWW _ _ _ _ _ _ _).1 (J26 y10 ((3 : Int32) <<< (((2 : Int32) * ((p0_plates vL) - (1 : Int32))) &&& 31)) H locs ls hP hD hS (lv_sub hl [0, 1] rfl) hf)
  · have hf := oif_t c11 hf
    refine lv_iconst (v := 1) hx hb dX1_settle_12 (by decide) ?_
    refine lv_goto (tgt := 26) hx hb dX1_settle_13 (by decide) ?_
    exact (hWW _ _ _ _ _ _ _).1 (J26 y10 (1 : Int32) H locs ls hP hD hS (lv_sub hl [0, 1] rfl) hf)
