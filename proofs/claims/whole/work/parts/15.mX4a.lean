def fX4_in (i0 : Int32) (i1 : Int32) (i2 : Int32) : Option Int32 :=
  if i0 < i1 then (some 0) else (if i2 < i0 then (some 0) else (some 1))
set_option maxHeartbeats 8000000 in
set_option maxRecDepth 100000 in
theorem mX4_in (l : Launch) (dC : Nat → ClassId) (dI : Nat → Nat → Nat) (cI cJ : ClassId) (sz : Nat) (i0 : Int32) (i1 : Int32) (i2 : Int32) (y : Int32) (hf : fX4_in i0 i1 i2 = some y) : Met l yX4_in wsX4_in ({ frames := 0, cells := 0, slots := 0, locals := 0 }) (cPc dC dI cI cJ [.int i0, .int i1, .int i2] [] sz) (va_Qi (fun r (_ : Unit) => r = y) (fun _ t => cB dC dI (va_A [] sz) [] t) (va_A [] sz)) 0 0 (va_A [] sz) := by
  refine Met.ofW (cc := cX4_in) (maxL := 3) (ret := (some .boolean)) (by decide) rfl ?_
  intro p e s m args below meth c s₁ B hml hv
  obtain ⟨rfl, hsz, hP, hK, hD0, hN⟩ := hv
  have hx := B.exec
  have hb := B.bytes
  have hr := B.returns
  have hts := atoms_spec (ws := wsX4_in) B.pre
  have hown : s.vm.findClass RX4 = some m.cls := findClass_of_methodNamed B.named
  have hlocks := B.notSynchronized
  subst hsz
  have hD := hD0.self (sz := s.heap.size)
  generalize hAe : va_A [] s.heap.size = A at hD hN ⊢
  have hA : ∀ q : Nat, s.heap.size ≤ q → A q := fun q h => by rw [← hAe]; exact Or.inr h
  have hP : va_P (dC, dI) vwCl [] s.heap := hP
  have hl := lv_entry ([.int i0, .int i1, .int i2]) (n := 3) (Nat.le_of_ble_eq_true rfl)
  rw [lg_entry_eq]
  generalize (lg_sl ([.int i0, .int i1, .int i2]) ++ List.replicate (3 - (lg_sl ([.int i0, .int i1, .int i2])).length) Slot.unset).toArray = ls at hl ⊢
  have hl : lv_has ls 3 [(0, .int i0), (1, .int i1), (2, .int i2)] := hl
  refine nameH (fun H locs hHe hLe => ?_)
  have hP : va_P (dC, dI) vwCl [] H := by rw [hHe]; exact hP
  have hS : va_S A s.heap H locs := by rw [hHe, hLe]; exact va_S.rf
  unfold fX4_in at hf
  refine lv_iload_n hx hb dX4_in_0 rfl (lv_at hl 0 rfl) ?_
  refine lv_iload_n hx hb dX4_in_1 rfl (lv_at hl 1 rfl) ?_
  refine lv_icmp_lt (tgt := 14) hx hb dX4_in_2 (by decide) (fun c1 => ?_) (fun c1 => ?_)
  · have hf := oif_t c1 hf
    refine lv_iconst (v := 0) hx hb dX4_in_14 (by decide) ?_
    obtain rfl := Option.some.inj hf
    exact W.zret (v := 0) hx hb hr rfl (fun t ht hW => ⟨⟨0, (), rfl, rfl, by rw [ht]; exact hP, hD⟩, hS.F ht⟩) hS.2.2 dX4_in_15
  · have hf := oif_f c1 hf
    refine lv_iload_n hx hb dX4_in_5 rfl (lv_at hl 0 rfl) ?_
    refine lv_iload_n hx hb dX4_in_6 rfl (lv_at hl 2 rfl) ?_
    refine lv_icmp_gt (tgt := 14) hx hb dX4_in_7 (by decide) (fun c2 => ?_) (fun c2 => ?_)
    · have hf := oif_t c2 hf
      refine lv_iconst (v := 0) hx hb dX4_in_14 (by decide) ?_
      obtain rfl := Option.some.inj hf
      exact W.zret (v := 0) hx hb hr rfl (fun t ht hW => ⟨⟨0, (), rfl, rfl, by rw [ht]; exact hP, hD⟩, hS.F ht⟩) hS.2.2 dX4_in_15
    · have hf := oif_f c2 hf
      refine lv_iconst (v := 1) hx hb dX4_in_10 (by decide) ?_
      refine lv_goto (tgt := 15) hx hb dX4_in_11 (by decide) ?_
      obtain rfl := Option.some.inj hf
      exact W.zret (v := 1) hx hb hr rfl (fun t ht hW => ⟨⟨1, (), rfl, rfl, by rw [ht]; exact hP, hD⟩, hS.F ht⟩) hS.2.2 dX4_in_15
def fX4_copies_2_b (k2 : (Nat → Int32) → (Nat → Int32) → Int32 → Option (Nat → Int32)) (fF : (Nat → Int32)) (fG : (Nat → Int32)) (x2 : Int32) : Option (Nat → Int32) :=
  if (24 : Int32) ≤ x2 then (some fG) else (if inB x2 24 = true then (if inB x2 24 = true then (elet (upd fG (x2).toNatClampNeg (fF (x2).toNatClampNeg)) (fun b4 => elet (x2 + 1) (fun z5 => k2 fF b4 z5))) else none) else none)
def fX4_copies_2 : Nat → (Nat → Int32) → (Nat → Int32) → Int32 → Option (Nat → Int32)
  | 0 => fun _ _ _ => none
  | n + 1 => fX4_copies_2_b (fX4_copies_2 n)
def fX4_copies (fF : (Nat → Int32)) (fG : (Nat → Int32)) : Option (Nat → Int32) :=
  fX4_copies_2 FU fF fG (0 : Int32)
set_option maxHeartbeats 8000000 in
set_option maxRecDepth 100000 in
theorem mX4_copies (l : Launch) (dC : Nat → ClassId) (dI : Nat → Nat → Nat) (cI cJ : ClassId) (aF : Nat) (aG : Nat) (sz : Nat) (fF : (Nat → Int32)) (fG : (Nat → Int32)) (y : (Nat → Int32)) (hf : fX4_copies fF fG = some y) : Met l yX4_copies wsX4_copies ({ frames := 0, cells := 0, slots := 0, locals := 0 }) (cPc dC dI cI cJ [.ref aF, .ref aG] [kA1 cI aF 24 fF, kA1 cI aG 24 fG] sz) (va_Qv (fun (_ : Unit) => True) (fun _ t => cB dC dI (va_A [kA1 cI aF 24 fF, kA1 cI aG 24 fG] sz) [kA1 cI aF 24 fF, kA1 cI aG 24 y] t) (va_A [kA1 cI aF 24 fF, kA1 cI aG 24 fG] sz)) 0 0 (va_A [kA1 cI aF 24 fF, kA1 cI aG 24 fG] sz) := by
  refine Met.ofW (cc := cX4_copies) (maxL := 3) (ret := none) (by decide) rfl ?_
  intro p e s m args below meth c s₁ B hml hv
  obtain ⟨rfl, hsz, hP, hK, hD0, hN⟩ := hv
  have hx := B.exec
  have hb := B.bytes
  have hr := B.returns
  have hts := atoms_spec (ws := wsX4_copies) B.pre
  have hown : s.vm.findClass RX4 = some m.cls := findClass_of_methodNamed B.named
  have hlocks := B.notSynchronized
  subst hsz
  have hD := hD0.self (sz := s.heap.size)
  generalize hAe : va_A [kA1 cI aF 24 fF, kA1 cI aG 24 fG] s.heap.size = A at hD hN ⊢
  have hA : ∀ q : Nat, s.heap.size ≤ q → A q := fun q h => by rw [← hAe]; exact Or.inr h
  have hP : va_P (dC, dI) vwCl [kA1 cI aF 24 fF, kA1 cI aG 24 fG] s.heap := hP
  have hl := lv_entry ([.ref aF, .ref aG]) (n := 3) (Nat.le_of_ble_eq_true rfl)
  rw [lg_entry_eq]
  generalize (lg_sl ([.ref aF, .ref aG]) ++ List.replicate (3 - (lg_sl ([.ref aF, .ref aG])).length) Slot.unset).toArray = ls at hl ⊢
  have hl : lv_has ls 3 [(0, .ref aF), (1, .ref aG)] := hl
  refine nameH (fun H locs hHe hLe => ?_)
  have hP : va_P (dC, dI) vwCl [kA1 cI aF 24 fF, kA1 cI aG 24 fG] H := by rw [hHe]; exact hP
  have hS : va_S A s.heap H locs := by rw [hHe, hLe]; exact va_S.rf
  refine withW (fun WW hWW => ?_)
  have L2 : ∀ (n : Nat) (fG : (Nat → Int32)) (x2 : Int32) (H : Heap) (locs : List Loc) (ls : Array Slot), va_P (dC, dI) vwCl [kA1 cI aF 24 fF, kA1 cI aG 24 fG] H → va_D A [kA1 cI aF 24 fF, kA1 cI aG 24 fG] → va_S A s.heap H locs → lv_has ls 3 [(0, .ref aF), (1, .ref aG), (2, .int x2)] → fX4_copies_2 n fF fG x2 = some y → WW H locs 0 0 ls 2 [] := by
    intro n
    induction n with
    | zero =>
      intro fG x2 H locs ls hP hD hS hl hf
      exact onone hf
    | succ n ih =>
      intro fG x2 H locs ls hP hD hS hl hf
      have hf : fX4_copies_2_b (fX4_copies_2 n) fF fG x2 = some y := hf
      generalize fX4_copies_2 n = k2 at hf ih
      have hk2 := ih
      clear ih
      unfold fX4_copies_2_b at hf
      refine (hWW _ _ _ _ _ _ _).2 ?_
      refine lv_iload_n hx hb dX4_copies_2 rfl (lv_at hl 2 rfl) ?_
      refine lv_bipush (v := 24) hx hb dX4_copies_3 (by decide) ?_
      refine lv_icmp_ge (tgt := 20) hx hb dX4_copies_5 (by decide) (fun c1 => ?_) (fun c1 => ?_)
      · have hf := oif_t c1 hf
        obtain rfl := Option.some.inj hf
        exact W.vret hx hb hr (fun t ht hW => ⟨⟨(), rfl, trivial, by rw [ht]; exact hP, hD⟩, hS.F ht⟩) hS.2.2 dX4_copies_20
      · have hf := oif_f c1 hf
        refine lv_aload_n hx hb dX4_copies_8 rfl (lv_at hl 1 rfl) ?_
        refine lv_iload_n hx hb dX4_copies_9 rfl (lv_at hl 2 rfl) ?_
        refine lv_aload_n hx hb dX4_copies_10 rfl (lv_at hl 0 rfl) ?_
        refine lv_iload_n hx hb dX4_copies_11 rfl (lv_at hl 2 rfl) ?_
        obtain ⟨hi2, hf⟩ := oinb rfl hf
        refine va_iald hx hb hK hP 0 0 rfl rfl hi2 dX4_copies_12 ?_
        obtain ⟨hi3, hf⟩ := oinb rfl hf
        obtain ⟨b4, eb4, hf⟩ := elet_out hf
        refine va_iast hx hb hK hP hD hS 1 0 rfl rfl hi3 dX4_copies_13 (fun H locs hP hD hS => ?_)
        have hP : va_P (dC, dI) vwCl [kA1 cI aF 24 fF, kA1 cI aG 24 b4] H := by rw [eb4]; exact hP
        have hD : va_D A [kA1 cI aF 24 fF, kA1 cI aG 24 b4] := by rw [eb4]; exact hD
        obtain ⟨z5, ez5, hf⟩ := elet_out hf
        refine lv_iinc (v := z5) (lv' := [(2, .int z5), (0, .ref aF), (1, .ref aG)]) hx hb dX4_copies_14 hl (k := 2) rfl (by rw [ez5]; rfl) (by decide) rfl (fun ls hl => ?_)
        refine lv_goto (tgt := 2) hx hb dX4_copies_17 (by decide) ?_
        exact (hWW _ _ _ _ _ _ _).1 (hk2 b4 z5 H locs ls hP hD hS (lv_sub hl [1, 2, 0] rfl) hf)
  refine (hWW _ _ _ _ _ _ _).2 ?_
  unfold fX4_copies at hf
  refine lv_iconst (v := 0) hx hb dX4_copies_0 (by decide) ?_
  refine lv_istore_n (lv' := [(2, .int 0), (0, .ref aF), (1, .ref aG)]) hx hb dX4_copies_1 rfl hl (by decide) rfl (fun ls hl => ?_)
  exact (hWW _ _ _ _ _ _ _).1 (L2 FU fG (0 : Int32) H locs ls hP hD hS (lv_sub hl [1, 2, 0] rfl) hf)
def fX4_changes_57_b (k57 : BX4 → Int32 → Option BX4) (vM : BX4) (x1 : Int32) : Option BX4 :=
  if (24 : Int32) ≤ x1 then (elet (s4_pasts vM ((p4_pasts vM) + (1 : Int32))) (fun b8 => some b8)) else (if inB x1 24 = true then (if inB (((24 : Int32) * (p4_pasts vM)) + x1) 96 = true then (elet (s4_past vM (upd (p4_past vM) ((((24 : Int32) * (p4_pasts vM)) + x1)).toNatClampNeg ((p4_s vM) (x1).toNatClampNeg))) (fun b11 => elet (x1 + 1) (fun z12 => k57 b11 z12))) else none) else none)
def fX4_changes_57 : Nat → BX4 → Int32 → Option BX4
  | 0 => fun _ _ => none
  | n + 1 => fX4_changes_57_b (fX4_changes_57 n)
def fX4_changes_55 (vM : BX4) : Option BX4 :=
  fX4_changes_57 FU vM (0 : Int32)
def fX4_changes_18_b (k18 : BX4 → Int32 → Option BX4) (vM : BX4) (x1 : Int32) : Option BX4 :=
  if (72 : Int32) ≤ x1 then (elet (s4_pasts vM ((p4_pasts vM) - (1 : Int32))) (fun b2 => fX4_changes_55 b2)) else (if inB (x1 + (24 : Int32)) 96 = true then (if inB x1 96 = true then (elet (s4_past vM (upd (p4_past vM) (x1).toNatClampNeg ((p4_past vM) ((x1 + (24 : Int32))).toNatClampNeg))) (fun b5 => elet (x1 + 1) (fun z6 => k18 b5 z6))) else none) else none)
def fX4_changes_18 : Nat → BX4 → Int32 → Option BX4
  | 0 => fun _ _ => none
  | n + 1 => fX4_changes_18_b (fX4_changes_18 n)
def fX4_changes (vM : BX4) : Option BX4 :=
  if (p4_runs vM) = 0 then (if (p4_pasts vM) = (4 : Int32) then (fX4_changes_18 FU vM (0 : Int32)) else (fX4_changes_55 vM)) else (some vM)
set_option maxHeartbeats 8000000 in
set_option maxRecDepth 100000 in
theorem mX4_changes (l : Launch) (dC : Nat → ClassId) (dI : Nat → Nat → Nat) (cI cJ : ClassId) (aM : Nat → Nat) (sz : Nat) (vM : BX4) (y : BX4) (hf : fX4_changes vM = some y) : Met l yX4_changes wsX4_changes ({ frames := 0, cells := 0, slots := 0, locals := 0 }) (cPc dC dI cI cJ [.ref (aM 0)] [k4_0 aM vM, k4_1 cI aM vM, k4_2 cI aM vM, k4_3 cI aM vM, k4_4 cI aM vM, k4_5 cJ aM vM, k4_6 cI aM vM, k4_7 cJ aM vM, k4_8 cJ aM vM, k4_9 cI aM vM] sz) (va_Qv (fun (_ : Unit) => True) (fun _ t => cB dC dI (va_A [k4_0 aM vM, k4_1 cI aM vM, k4_2 cI aM vM, k4_3 cI aM vM, k4_4 cI aM vM, k4_5 cJ aM vM, k4_6 cI aM vM, k4_7 cJ aM vM, k4_8 cJ aM vM, k4_9 cI aM vM] sz) [k4_0 aM y, k4_1 cI aM y, k4_2 cI aM y, k4_3 cI aM y, k4_4 cI aM y, k4_5 cJ aM y, k4_6 cI aM y, k4_7 cJ aM y, k4_8 cJ aM y, k4_9 cI aM y] t) (va_A [k4_0 aM vM, k4_1 cI aM vM, k4_2 cI aM vM, k4_3 cI aM vM, k4_4 cI aM vM, k4_5 cJ aM vM, k4_6 cI aM vM, k4_7 cJ aM vM, k4_8 cJ aM vM, k4_9 cI aM vM] sz)) 0 0 (va_A [k4_0 aM vM, k4_1 cI aM vM, k4_2 cI aM vM, k4_3 cI aM vM, k4_4 cI aM vM, k4_5 cJ aM vM, k4_6 cI aM vM, k4_7 cJ aM vM, k4_8 cJ aM vM, k4_9 cI aM vM] sz) := by
  refine Met.ofW (cc := cX4_changes) (maxL := 2) (ret := none) (by decide) rfl ?_
  intro p e s m args below meth c s₁ B hml hv
  obtain ⟨rfl, hsz, hP, hK, hD0, hN⟩ := hv
  have hx := B.exec
  have hb := B.bytes
  have hr := B.returns
  have hts := atoms_spec (ws := wsX4_changes) B.pre
  have hown : s.vm.findClass RX4 = some m.cls := findClass_of_methodNamed B.named
  have hlocks := B.notSynchronized
  subst hsz
  have hD := hD0.self (sz := s.heap.size)
  generalize hAe : va_A [k4_0 aM vM, k4_1 cI aM vM, k4_2 cI aM vM, k4_3 cI aM vM, k4_4 cI aM vM, k4_5 cJ aM vM, k4_6 cI aM vM, k4_7 cJ aM vM, k4_8 cJ aM vM, k4_9 cI aM vM] s.heap.size = A at hD hN ⊢
  have hA : ∀ q : Nat, s.heap.size ≤ q → A q := fun q h => by rw [← hAe]; exact Or.inr h
  have hP : va_P (dC, dI) vwCl [k4_0 aM vM, k4_1 cI aM vM, k4_2 cI aM vM, k4_3 cI aM vM, k4_4 cI aM vM, k4_5 cJ aM vM, k4_6 cI aM vM, k4_7 cJ aM vM, k4_8 cJ aM vM, k4_9 cI aM vM] s.heap := hP
  have hl := lv_entry ([.ref (aM 0)]) (n := 2) (Nat.le_of_ble_eq_true rfl)
  rw [lg_entry_eq]
  generalize (lg_sl ([.ref (aM 0)]) ++ List.replicate (2 - (lg_sl ([.ref (aM 0)])).length) Slot.unset).toArray = ls at hl ⊢
  have hl : lv_has ls 2 [(0, .ref (aM 0))] := hl
  have hiX4 : ∀ w ∈ u_ws RX4 TX4 21, w ∈ wsX4_changes := by decide +kernel
  have hgX4_42 := hts (.fieldLink RX4 42 "SpringPlatesModel" "pasts" "I") (by decide +kernel)
  have hgX4_13 := hts (.fieldLink RX4 13 "SpringPlatesModel" "past" "[I") (by decide +kernel)
  have hgX4_7 := hts (.fieldLink RX4 7 "SpringPlatesModel" "s" "[I") (by decide +kernel)
  have hgX4_38 := hts (.fieldLink RX4 38 "SpringPlatesModel" "runs" "Z") (by decide +kernel)
  refine nameH (fun H locs hHe hLe => ?_)
  have hP : va_P (dC, dI) vwCl [k4_0 aM vM, k4_1 cI aM vM, k4_2 cI aM vM, k4_3 cI aM vM, k4_4 cI aM vM, k4_5 cJ aM vM, k4_6 cI aM vM, k4_7 cJ aM vM, k4_8 cJ aM vM, k4_9 cI aM vM] H := by rw [hHe]; exact hP
  have hS : va_S A s.heap H locs := by rw [hHe, hLe]; exact va_S.rf
  refine withW (fun WW hWW => ?_)
  have L57 : ∀ (n : Nat) (vM : BX4) (x1 : Int32) (H : Heap) (locs : List Loc) (ls : Array Slot), va_P (dC, dI) vwCl [k4_0 aM vM, k4_1 cI aM vM, k4_2 cI aM vM, k4_3 cI aM vM, k4_4 cI aM vM, k4_5 cJ aM vM, k4_6 cI aM vM, k4_7 cJ aM vM, k4_8 cJ aM vM, k4_9 cI aM vM] H → va_D A [k4_0 aM vM, k4_1 cI aM vM, k4_2 cI aM vM, k4_3 cI aM vM, k4_4 cI aM vM, k4_5 cJ aM vM, k4_6 cI aM vM, k4_7 cJ aM vM, k4_8 cJ aM vM, k4_9 cI aM vM] → va_S A s.heap H locs → lv_has ls 2 [(0, .ref (aM 0)), (1, .int x1)] → fX4_changes_57 n vM x1 = some y → WW H locs 0 0 ls 57 [] := by
    intro n
    induction n with
    | zero =>
      intro vM x1 H locs ls hP hD hS hl hf
      exact onone hf
    | succ n ih =>
      intro vM x1 H locs ls hP hD hS hl hf
      have hf : fX4_changes_57_b (fX4_changes_57 n) vM x1 = some y := hf
      generalize fX4_changes_57 n = k57 at hf ih
      have hk57 := ih
      clear ih
      unfold fX4_changes_57_b at hf
      refine (hWW _ _ _ _ _ _ _).2 ?_
      refine lv_iload_n hx hb dX4_changes_57 rfl (lv_at hl 1 rfl) ?_
      refine lv_bipush (v := 24) hx hb dX4_changes_58 (by decide) ?_
      refine lv_icmp_ge (tgt := 89) hx hb dX4_changes_60 (by decide) (fun c7 => ?_) (fun c7 => ?_)
      · have hf := oif_t c7 hf
        refine lv_aload_n hx hb dX4_changes_89 rfl (lv_at hl 0 rfl) ?_
        refine lv_dup hx hb dX4_changes_90 rfl ?_
        refine va_get (D := (dC, dI)) (ci := 4) (v := .int (p4_pasts vM)) (C := RX4) (T := TX4) (N := 21) hx hb hts hiX4 hown hK hP 0 rfl rfl 3 (by decide) hgX4_42 (fun _ h9 => h9) rfl dX4_changes_91 ?_
        refine lv_iconst (v := 1) hx hb dX4_changes_94 (by decide) ?_
        refine lv_iadd hx hb dX4_changes_95 ?_
        obtain ⟨b8, eb8, hf⟩ := elet_out hf
        refine va_put (D := (dC, dI)) (ci := 4) (v := .int ((p4_pasts vM) + (1 : Int32))) (ty := .int) (C := RX4) (T := TX4) (N := 21) hx hb hts hiX4 tyX4 tyX4_ok nmX4 hown hK hP hD hS 0 rfl rfl 3 (by decide) hgX4_42 (fun _ h9 => h9) rfl (by decide +kernel) rfl rfl (Nat.le_of_ble_eq_true rfl) dX4_changes_96 (fun H locs hP hD hS => ?_)
        have hP : va_P (dC, dI) vwCl [k4_0 aM b8, k4_1 cI aM b8, k4_2 cI aM b8, k4_3 cI aM b8, k4_4 cI aM b8, k4_5 cJ aM b8, k4_6 cI aM b8, k4_7 cJ aM b8, k4_8 cJ aM b8, k4_9 cI aM b8] H := by rw [eb8]; exact hP
        have hD : va_D A [k4_0 aM b8, k4_1 cI aM b8, k4_2 cI aM b8, k4_3 cI aM b8, k4_4 cI aM b8, k4_5 cJ aM b8, k4_6 cI aM b8, k4_7 cJ aM b8, k4_8 cJ aM b8, k4_9 cI aM b8] := by rw [eb8]; exact hD
        obtain rfl := Option.some.inj hf
        exact W.vret hx hb hr (fun t ht hW => ⟨⟨(), rfl, trivial, by rw [ht]; exact hP, hD⟩, hS.F ht⟩) hS.2.2 dX4_changes_99
      · have hf := oif_f c7 hf
        refine lv_aload_n hx hb dX4_changes_63 rfl (lv_at hl 0 rfl) ?_
        refine va_get (D := (dC, dI)) (ci := 4) (v := .ref (aM 2)) (C := RX4) (T := TX4) (N := 21) hx hb hts hiX4 hown hK hP 0 rfl rfl 1 (by decide) hgX4_13 (fun _ h9 => h9) rfl dX4_changes_64 ?_
        refine lv_bipush (v := 24) hx hb dX4_changes_67 (by decide) ?_
        refine lv_aload_n hx hb dX4_changes_69 rfl (lv_at hl 0 rfl) ?_
        refine va_get (D := (dC, dI)) (ci := 4) (v := .int (p4_pasts vM)) (C := RX4) (T := TX4) (N := 21) hx hb hts hiX4 hown hK hP 0 rfl rfl 3 (by decide) hgX4_42 (fun _ h9 => h9) rfl dX4_changes_70 ?_
        refine lv_imul hx hb dX4_changes_73 ?_
        refine lv_iload_n hx hb dX4_changes_74 rfl (lv_at hl 1 rfl) ?_
        refine lv_iadd hx hb dX4_changes_75 ?_
        refine lv_aload_n hx hb dX4_changes_76 rfl (lv_at hl 0 rfl) ?_
        refine va_get (D := (dC, dI)) (ci := 4) (v := .ref (aM 1)) (C := RX4) (T := TX4) (N := 21) hx hb hts hiX4 hown hK hP 0 rfl rfl 0 (by decide) hgX4_7 (fun _ h9 => h9) rfl dX4_changes_77 ?_
        refine lv_iload_n hx hb dX4_changes_80 rfl (lv_at hl 1 rfl) ?_
        obtain ⟨hi9, hf⟩ := oinb rfl hf
        refine va_iald hx hb hK hP 1 0 rfl rfl hi9 dX4_changes_81 ?_
        obtain ⟨hi10, hf⟩ := oinb rfl hf
        obtain ⟨b11, eb11, hf⟩ := elet_out hf
        refine va_iast hx hb hK hP hD hS 2 0 rfl rfl hi10 dX4_changes_82 (fun H locs hP hD hS => ?_)
        have hP : va_P (dC, dI) vwCl [k4_0 aM b11, k4_1 cI aM b11, k4_2 cI aM b11, k4_3 cI aM b11, k4_4 cI aM b11, k4_5 cJ aM b11, k4_6 cI aM b11, k4_7 cJ aM b11, k4_8 cJ aM b11, k4_9 cI aM b11] H := by rw [eb11]; exact hP
        have hD : va_D A [k4_0 aM b11, k4_1 cI aM b11, k4_2 cI aM b11, k4_3 cI aM b11, k4_4 cI aM b11, k4_5 cJ aM b11, k4_6 cI aM b11, k4_7 cJ aM b11, k4_8 cJ aM b11, k4_9 cI aM b11] := by rw [eb11]; exact hD
        obtain ⟨z12, ez12, hf⟩ := elet_out hf
        refine lv_iinc (v := z12) (lv' := [(1, .int z12), (0, .ref (aM 0))]) hx hb dX4_changes_83 hl (k := 1) rfl (by rw [ez12]; rfl) (by decide) rfl (fun ls hl => ?_)
        refine lv_goto (tgt := 57) hx hb dX4_changes_86 (by decide) ?_
        exact (hWW _ _ _ _ _ _ _).1 (hk57 b11 z12 H locs ls hP hD hS (lv_sub hl [1, 0] rfl) hf)
  have J55 : ∀ (vM : BX4) (H : Heap) (locs : List Loc) (ls : Array Slot), va_P (dC, dI) vwCl [k4_0 aM vM, k4_1 cI aM vM, k4_2 cI aM vM, k4_3 cI aM vM, k4_4 cI aM vM, k4_5 cJ aM vM, k4_6 cI aM vM, k4_7 cJ aM vM, k4_8 cJ aM vM, k4_9 cI aM vM] H → va_D A [k4_0 aM vM, k4_1 cI aM vM, k4_2 cI aM vM, k4_3 cI aM vM, k4_4 cI aM vM, k4_5 cJ aM vM, k4_6 cI aM vM, k4_7 cJ aM vM, k4_8 cJ aM vM, k4_9 cI aM vM] → va_S A s.heap H locs → lv_has ls 2 [(0, .ref (aM 0))] → fX4_changes_55 vM = some y → WW H locs 0 0 ls 55 [] := by
    intro vM H locs ls hP hD hS hl hf
    unfold fX4_changes_55 at hf
    refine (hWW _ _ _ _ _ _ _).2 ?_
    refine lv_iconst (v := 0) hx hb dX4_changes_55 (by decide) ?_
    refine lv_istore_n (lv' := [(1, .int 0), (0, .ref (aM 0))]) hx hb dX4_changes_56 rfl hl (by decide) rfl (fun ls hl => ?_)
    exact (hWW _ _ _ _ _ _ _).1 (L57 FU vM (0 : Int32) H locs ls hP hD hS (lv_sub hl [1, 0] rfl) hf)
  have L18 : ∀ (n : Nat) (vM : BX4) (x1 : Int32) (H : Heap) (locs : List Loc) (ls : Array Slot), va_P (dC, dI) vwCl [k4_0 aM vM, k4_1 cI aM vM, k4_2 cI aM vM, k4_3 cI aM vM, k4_4 cI aM vM, k4_5 cJ aM vM, k4_6 cI aM vM, k4_7 cJ aM vM, k4_8 cJ aM vM, k4_9 cI aM vM] H → va_D A [k4_0 aM vM, k4_1 cI aM vM, k4_2 cI aM vM, k4_3 cI aM vM, k4_4 cI aM vM, k4_5 cJ aM vM, k4_6 cI aM vM, k4_7 cJ aM vM, k4_8 cJ aM vM, k4_9 cI aM vM] → va_S A s.heap H locs → lv_has ls 2 [(0, .ref (aM 0)), (1, .int x1)] → fX4_changes_18 n vM x1 = some y → WW H locs 0 0 ls 18 [] := by
    intro n
    induction n with
    | zero =>
      intro vM x1 H locs ls hP hD hS hl hf
      exact onone hf
    | succ n ih =>
      intro vM x1 H locs ls hP hD hS hl hf
      have hf : fX4_changes_18_b (fX4_changes_18 n) vM x1 = some y := hf
      generalize fX4_changes_18 n = k18 at hf ih
      have hk18 := ih
      clear ih
      unfold fX4_changes_18_b at hf
      refine (hWW _ _ _ _ _ _ _).2 ?_
      refine lv_iload_n hx hb dX4_changes_18 rfl (lv_at hl 1 rfl) ?_
      refine lv_bipush (v := 72) hx hb dX4_changes_19 (by decide) ?_
      refine lv_icmp_ge (tgt := 45) hx hb dX4_changes_21 (by decide) (fun c1 => ?_) (fun c1 => ?_)
      · have hf := oif_t c1 hf
        refine lv_aload_n hx hb dX4_changes_45 rfl (lv_at hl 0 rfl) ?_
        refine lv_dup hx hb dX4_changes_46 rfl ?_
        refine va_get (D := (dC, dI)) (ci := 4) (v := .int (p4_pasts vM)) (C := RX4) (T := TX4) (N := 21) hx hb hts hiX4 hown hK hP 0 rfl rfl 3 (by decide) hgX4_42 (fun _ h9 => h9) rfl dX4_changes_47 ?_
        refine lv_iconst (v := 1) hx hb dX4_changes_50 (by decide) ?_
        refine lv_isub hx hb dX4_changes_51 ?_
        obtain ⟨b2, eb2, hf⟩ := elet_out hf
        refine va_put (D := (dC, dI)) (ci := 4) (v := .int ((p4_pasts vM) - (1 : Int32))) (ty := .int) (C := RX4) (T := TX4) (N := 21) hx hb hts hiX4 tyX4 tyX4_ok nmX4 hown hK hP hD hS 0 rfl rfl 3 (by decide) hgX4_42 (fun _ h9 => h9) rfl (by decide +kernel) rfl rfl (Nat.le_of_ble_eq_true rfl) dX4_changes_52 (fun H locs hP hD hS => ?_)
        have hP : va_P (dC, dI) vwCl [k4_0 aM b2, k4_1 cI aM b2, k4_2 cI aM b2, k4_3 cI aM b2, k4_4 cI aM b2, k4_5 cJ aM b2, k4_6 cI aM b2, k4_7 cJ aM b2, k4_8 cJ aM b2, k4_9 cI aM b2] H := by rw [eb2]; exact hP
        have hD : va_D A [k4_0 aM b2, k4_1 cI aM b2, k4_2 cI aM b2, k4_3 cI aM b2, k4_4 cI aM b2, k4_5 cJ aM b2, k4_6 cI aM b2, k4_7 cJ aM b2, k4_8 cJ aM b2, k4_9 cI aM b2] := by rw [eb2]; exact hD
        exact (hWW _ _ _ _ _ _ _).1 (J55 b2 H locs ls hP hD hS (lv_sub hl [0] rfl) hf)
      · have hf := oif_f c1 hf
        refine lv_aload_n hx hb dX4_changes_24 rfl (lv_at hl 0 rfl) ?_
        refine va_get (D := (dC, dI)) (ci := 4) (v := .ref (aM 2)) (C := RX4) (T := TX4) (N := 21) hx hb hts hiX4 hown hK hP 0 rfl rfl 1 (by decide) hgX4_13 (fun _ h9 => h9) rfl dX4_changes_25 ?_
        refine lv_iload_n hx hb dX4_changes_28 rfl (lv_at hl 1 rfl) ?_
        refine lv_aload_n hx hb dX4_changes_29 rfl (lv_at hl 0 rfl) ?_
        refine va_get (D := (dC, dI)) (ci := 4) (v := .ref (aM 2)) (C := RX4) (T := TX4) (N := 21) hx hb hts hiX4 hown hK hP 0 rfl rfl 1 (by decide) hgX4_13 (fun _ h9 => h9) rfl dX4_changes_30 ?_
        refine lv_iload_n hx hb dX4_changes_33 rfl (lv_at hl 1 rfl) ?_
        refine lv_bipush (v := 24) hx hb dX4_changes_34 (by decide) ?_
        refine lv_iadd hx hb dX4_changes_36 ?_
        obtain ⟨hi3, hf⟩ := oinb rfl hf
        refine va_iald hx hb hK hP 2 0 rfl rfl hi3 dX4_changes_37 ?_
        obtain ⟨hi4, hf⟩ := oinb rfl hf
        obtain ⟨b5, eb5, hf⟩ := elet_out hf
        refine va_iast hx hb hK hP hD hS 2 0 rfl rfl hi4 dX4_changes_38 (fun H locs hP hD hS => ?_)
        have hP : va_P (dC, dI) vwCl [k4_0 aM b5, k4_1 cI aM b5, k4_2 cI aM b5, k4_3 cI aM b5, k4_4 cI aM b5, k4_5 cJ aM b5, k4_6 cI aM b5, k4_7 cJ aM b5, k4_8 cJ aM b5, k4_9 cI aM b5] H := by rw [eb5]; exact hP
        have hD : va_D A [k4_0 aM b5, k4_1 cI aM b5, k4_2 cI aM b5, k4_3 cI aM b5, k4_4 cI aM b5, k4_5 cJ aM b5, k4_6 cI aM b5, k4_7 cJ aM b5, k4_8 cJ aM b5, k4_9 cI aM b5] := by rw [eb5]; exact hD
        obtain ⟨z6, ez6, hf⟩ := elet_out hf
        refine lv_iinc (v := z6) (lv' := [(1, .int z6), (0, .ref (aM 0))]) hx hb dX4_changes_39 hl (k := 1) rfl (by rw [ez6]; rfl) (by decide) rfl (fun ls hl => ?_)
        refine lv_goto (tgt := 18) hx hb dX4_changes_42 (by decide) ?_
        exact (hWW _ _ _ _ _ _ _).1 (hk18 b5 z6 H locs ls hP hD hS (lv_sub hl [1, 0] rfl) hf)
  refine (hWW _ _ _ _ _ _ _).2 ?_
  unfold fX4_changes at hf
  refine lv_aload_n hx hb dX4_changes_0 rfl (lv_at hl 0 rfl) ?_
  refine va_get (D := (dC, dI)) (ci := 4) (v := .int (p4_runs vM)) (C := RX4) (T := TX4) (N := 21) hx hb hts hiX4 hown hK hP 0 rfl rfl 4 (by decide) hgX4_38 (fun _ h9 => h9) rfl dX4_changes_1 ?_
  refine lv_if_eq (tgt := 8) hx hb dX4_changes_4 (by decide) (fun c13 => ?_) (fun c13 => ?_)
  · have hf := oif_t c13 hf
    refine lv_aload_n hx hb dX4_changes_8 rfl (lv_at hl 0 rfl) ?_
    refine va_get (D := (dC, dI)) (ci := 4) (v := .int (p4_pasts vM)) (C := RX4) (T := TX4) (N := 21) hx hb hts hiX4 hown hK hP 0 rfl rfl 3 (by decide) hgX4_42 (fun _ h9 => h9) rfl dX4_changes_9 ?_
    refine lv_iconst (v := 4) hx hb dX4_changes_12 (by decide) ?_
    refine lv_icmp_ne (tgt := 55) hx hb dX4_changes_13 (by decide) (fun c14 => ?_) (fun c14 => ?_)
    · have hf := oif_f c14 hf
      exact (hWW _ _ _ _ _ _ _).1 (J55 vM H locs ls hP hD hS (lv_sub hl [0] rfl) hf)
    · have hf := oif_t c14 hf
      refine lv_iconst (v := 0) hx hb dX4_changes_16 (by decide) ?_
      refine lv_istore_n (lv' := [(1, .int 0), (0, .ref (aM 0))]) hx hb dX4_changes_17 rfl hl (by decide) rfl (fun ls hl => ?_)
      exact (hWW _ _ _ _ _ _ _).1 (L18 FU vM (0 : Int32) H locs ls hP hD hS (lv_sub hl [1, 0] rfl) hf)
  · have hf := oif_f c13 hf
    obtain rfl := Option.some.inj hf
    exact W.vret hx hb hr (fun t ht hW => ⟨⟨(), rfl, trivial, by rw [ht]; exact hP, hD⟩, hS.F ht⟩) hS.2.2 dX4_changes_7
def fX4_isPlate (vM : BX4) (i1 : Int32) : Option Int32 :=
  if i1 < 0 then (some 0) else (if ((p4_s vM) ((1 : Int32)).toNatClampNeg) ≤ i1 then (some 0) else (some 1))
set_option maxHeartbeats 8000000 in
set_option maxRecDepth 100000 in
theorem mX4_isPlate (l : Launch) (dC : Nat → ClassId) (dI : Nat → Nat → Nat) (cI cJ : ClassId) (aM : Nat → Nat) (sz : Nat) (vM : BX4) (i1 : Int32) (y : Int32) (hf : fX4_isPlate vM i1 = some y) : Met l yX4_isPlate wsX4_isPlate ({ frames := 0, cells := 0, slots := 0, locals := 0 }) (cPc dC dI cI cJ [.ref (aM 0), .int i1] [k4_0 aM vM, k4_1 cI aM vM, k4_2 cI aM vM, k4_3 cI aM vM, k4_4 cI aM vM, k4_5 cJ aM vM, k4_6 cI aM vM, k4_7 cJ aM vM, k4_8 cJ aM vM, k4_9 cI aM vM] sz) (va_Qi (fun r (_ : Unit) => r = y) (fun _ t => cB dC dI (va_A [k4_0 aM vM, k4_1 cI aM vM, k4_2 cI aM vM, k4_3 cI aM vM, k4_4 cI aM vM, k4_5 cJ aM vM, k4_6 cI aM vM, k4_7 cJ aM vM, k4_8 cJ aM vM, k4_9 cI aM vM] sz) [k4_0 aM vM, k4_1 cI aM vM, k4_2 cI aM vM, k4_3 cI aM vM, k4_4 cI aM vM, k4_5 cJ aM vM, k4_6 cI aM vM, k4_7 cJ aM vM, k4_8 cJ aM vM, k4_9 cI aM vM] t) (va_A [k4_0 aM vM, k4_1 cI aM vM, k4_2 cI aM vM, k4_3 cI aM vM, k4_4 cI aM vM, k4_5 cJ aM vM, k4_6 cI aM vM, k4_7 cJ aM vM, k4_8 cJ aM vM, k4_9 cI aM vM] sz)) 0 0 (va_A [k4_0 aM vM, k4_1 cI aM vM, k4_2 cI aM vM, k4_3 cI aM vM, k4_4 cI aM vM, k4_5 cJ aM vM, k4_6 cI aM vM, k4_7 cJ aM vM, k4_8 cJ aM vM, k4_9 cI aM vM] sz) := by
  refine Met.ofW (cc := cX4_isPlate) (maxL := 2) (ret := (some .boolean)) (by decide) rfl ?_
  intro p e s m args below meth c s₁ B hml hv
  obtain ⟨rfl, hsz, hP, hK, hD0, hN⟩ := hv
  have hx := B.exec
  have hb := B.bytes
  have hr := B.returns
  have hts := atoms_spec (ws := wsX4_isPlate) B.pre
  have hown : s.vm.findClass RX4 = some m.cls := findClass_of_methodNamed B.named
  have hlocks := B.notSynchronized
  subst hsz
  have hD := hD0.self (sz := s.heap.size)
  generalize hAe : va_A [k4_0 aM vM, k4_1 cI aM vM, k4_2 cI aM vM, k4_3 cI aM vM, k4_4 cI aM vM, k4_5 cJ aM vM, k4_6 cI aM vM, k4_7 cJ aM vM, k4_8 cJ aM vM, k4_9 cI aM vM] s.heap.size = A at hD hN ⊢
  have hA : ∀ q : Nat, s.heap.size ≤ q → A q := fun q h => by rw [← hAe]; exact Or.inr h
  have hP : va_P (dC, dI) vwCl [k4_0 aM vM, k4_1 cI aM vM, k4_2 cI aM vM, k4_3 cI aM vM, k4_4 cI aM vM, k4_5 cJ aM vM, k4_6 cI aM vM, k4_7 cJ aM vM, k4_8 cJ aM vM, k4_9 cI aM vM] s.heap := hP
  have hl := lv_entry ([.ref (aM 0), .int i1]) (n := 2) (Nat.le_of_ble_eq_true rfl)
  rw [lg_entry_eq]
  generalize (lg_sl ([.ref (aM 0), .int i1]) ++ List.replicate (2 - (lg_sl ([.ref (aM 0), .int i1])).length) Slot.unset).toArray = ls at hl ⊢
  have hl : lv_has ls 2 [(0, .ref (aM 0)), (1, .int i1)] := hl
  have hiX4 : ∀ w ∈ u_ws RX4 TX4 21, w ∈ wsX4_isPlate := by decide +kernel
  have hgX4_7 := hts (.fieldLink RX4 7 "SpringPlatesModel" "s" "[I") (by decide +kernel)
  refine nameH (fun H locs hHe hLe => ?_)
  have hP : va_P (dC, dI) vwCl [k4_0 aM vM, k4_1 cI aM vM, k4_2 cI aM vM, k4_3 cI aM vM, k4_4 cI aM vM, k4_5 cJ aM vM, k4_6 cI aM vM, k4_7 cJ aM vM, k4_8 cJ aM vM, k4_9 cI aM vM] H := by rw [hHe]; exact hP
  have hS : va_S A s.heap H locs := by rw [hHe, hLe]; exact va_S.rf
  unfold fX4_isPlate at hf
  refine lv_iload_n hx hb dX4_isPlate_0 rfl (lv_at hl 1 rfl) ?_
  refine lv_if_lt (tgt := 18) hx hb dX4_isPlate_1 (by decide) (fun c1 => ?_) (fun c1 => ?_)
  · have hf := oif_t c1 hf
    refine lv_iconst (v := 0) hx hb dX4_isPlate_18 (by decide) ?_
    obtain rfl := Option.some.inj hf
    exact W.zret (v := 0) hx hb hr rfl (fun t ht hW => ⟨⟨0, (), rfl, rfl, by rw [ht]; exact hP, hD⟩, hS.F ht⟩) hS.2.2 dX4_isPlate_19
  · have hf := oif_f c1 hf
    refine lv_iload_n hx hb dX4_isPlate_4 rfl (lv_at hl 1 rfl) ?_
    refine lv_aload_n hx hb dX4_isPlate_5 rfl (lv_at hl 0 rfl) ?_
    refine va_get (D := (dC, dI)) (ci := 4) (v := .ref (aM 1)) (C := RX4) (T := TX4) (N := 21) hx hb hts hiX4 hown hK hP 0 rfl rfl 0 (by decide) hgX4_7 (fun _ h9 => h9) rfl dX4_isPlate_6 ?_
    refine lv_iconst (v := 1) hx hb dX4_isPlate_9 (by decide) ?_
    refine va_iald hx hb hK hP 1 0 rfl rfl (vpc rfl) dX4_isPlate_10 ?_
    refine lv_icmp_ge (tgt := 18) hx hb dX4_isPlate_11 (by decide) (fun c2 => ?_) (fun c2 => ?_)
    · have hf := oif_t c2 hf
      refine lv_iconst (v := 0) hx hb dX4_isPlate_18 (by decide) ?_
      obtain rfl := Option.some.inj hf
      exact W.zret (v := 0) hx hb hr rfl (fun t ht hW => ⟨⟨0, (), rfl, rfl, by rw [ht]; exact hP, hD⟩, hS.F ht⟩) hS.2.2 dX4_isPlate_19
    · have hf := oif_f c2 hf
      refine lv_iconst (v := 1) hx hb dX4_isPlate_14 (by decide) ?_
      refine lv_goto (tgt := 19) hx hb dX4_isPlate_15 (by decide) ?_
      obtain rfl := Option.some.inj hf
      exact W.zret (v := 1) hx hb hr rfl (fun t ht hW => ⟨⟨1, (), rfl, rfl, by rw [ht]; exact hP, hD⟩, hS.F ht⟩) hS.2.2 dX4_isPlate_19
def fX4_isSpring (vM : BX4) (i1 : Int32) : Option Int32 :=
  if i1 < 0 then (some 0) else (if ((p4_s vM) ((1 : Int32)).toNatClampNeg) < i1 then (some 0) else (some 1))
set_option maxHeartbeats 8000000 in
set_option maxRecDepth 100000 in
theorem mX4_isSpring (l : Launch) (dC : Nat → ClassId) (dI : Nat → Nat → Nat) (cI cJ : ClassId) (aM : Nat → Nat) (sz : Nat) (vM : BX4) (i1 : Int32) (y : Int32) (hf : fX4_isSpring vM i1 = some y) : Met l yX4_isSpring wsX4_isSpring ({ frames := 0, cells := 0, slots := 0, locals := 0 }) (cPc dC dI cI cJ [.ref (aM 0), .int i1] [k4_0 aM vM, k4_1 cI aM vM, k4_2 cI aM vM, k4_3 cI aM vM, k4_4 cI aM vM, k4_5 cJ aM vM, k4_6 cI aM vM, k4_7 cJ aM vM, k4_8 cJ aM vM, k4_9 cI aM vM] sz) (va_Qi (fun r (_ : Unit) => r = y) (fun _ t => cB dC dI (va_A [k4_0 aM vM, k4_1 cI aM vM, k4_2 cI aM vM, k4_3 cI aM vM, k4_4 cI aM vM, k4_5 cJ aM vM, k4_6 cI aM vM, k4_7 cJ aM vM, k4_8 cJ aM vM, k4_9 cI aM vM] sz) [k4_0 aM vM, k4_1 cI aM vM, k4_2 cI aM vM, k4_3 cI aM vM, k4_4 cI aM vM, k4_5 cJ aM vM, k4_6 cI aM vM, k4_7 cJ aM vM, k4_8 cJ aM vM, k4_9 cI aM vM] t) (va_A [k4_0 aM vM, k4_1 cI aM vM, k4_2 cI aM vM, k4_3 cI aM vM, k4_4 cI aM vM, k4_5 cJ aM vM, k4_6 cI aM vM, k4_7 cJ aM vM, k4_8 cJ aM vM, k4_9 cI aM vM] sz)) 0 0 (va_A [k4_0 aM vM, k4_1 cI aM vM, k4_2 cI aM vM, k4_3 cI aM vM, k4_4 cI aM vM, k4_5 cJ aM vM, k4_6 cI aM vM, k4_7 cJ aM vM, k4_8 cJ aM vM, k4_9 cI aM vM] sz) := by
  refine Met.ofW (cc := cX4_isSpring) (maxL := 2) (ret := (some .boolean)) (by decide) rfl ?_
  intro p e s m args below meth c s₁ B hml hv
  obtain ⟨rfl, hsz, hP, hK, hD0, hN⟩ := hv
  have hx := B.exec
  have hb := B.bytes
  have hr := B.returns
  have hts := atoms_spec (ws := wsX4_isSpring) B.pre
  have hown : s.vm.findClass RX4 = some m.cls := findClass_of_methodNamed B.named
  have hlocks := B.notSynchronized
  subst hsz
  have hD := hD0.self (sz := s.heap.size)
  generalize hAe : va_A [k4_0 aM vM, k4_1 cI aM vM, k4_2 cI aM vM, k4_3 cI aM vM, k4_4 cI aM vM, k4_5 cJ aM vM, k4_6 cI aM vM, k4_7 cJ aM vM, k4_8 cJ aM vM, k4_9 cI aM vM] s.heap.size = A at hD hN ⊢
  have hA : ∀ q : Nat, s.heap.size ≤ q → A q := fun q h => by rw [← hAe]; exact Or.inr h
  have hP : va_P (dC, dI) vwCl [k4_0 aM vM, k4_1 cI aM vM, k4_2 cI aM vM, k4_3 cI aM vM, k4_4 cI aM vM, k4_5 cJ aM vM, k4_6 cI aM vM, k4_7 cJ aM vM, k4_8 cJ aM vM, k4_9 cI aM vM] s.heap := hP
  have hl := lv_entry ([.ref (aM 0), .int i1]) (n := 2) (Nat.le_of_ble_eq_true rfl)
  rw [lg_entry_eq]
  generalize (lg_sl ([.ref (aM 0), .int i1]) ++ List.replicate (2 - (lg_sl ([.ref (aM 0), .int i1])).length) Slot.unset).toArray = ls at hl ⊢
  have hl : lv_has ls 2 [(0, .ref (aM 0)), (1, .int i1)] := hl
  have hiX4 : ∀ w ∈ u_ws RX4 TX4 21, w ∈ wsX4_isSpring := by decide +kernel
  have hgX4_7 := hts (.fieldLink RX4 7 "SpringPlatesModel" "s" "[I") (by decide +kernel)
  refine nameH (fun H locs hHe hLe => ?_)
  have hP : va_P (dC, dI) vwCl [k4_0 aM vM, k4_1 cI aM vM, k4_2 cI aM vM, k4_3 cI aM vM, k4_4 cI aM vM, k4_5 cJ aM vM, k4_6 cI aM vM, k4_7 cJ aM vM, k4_8 cJ aM vM, k4_9 cI aM vM] H := by rw [hHe]; exact hP
  have hS : va_S A s.heap H locs := by rw [hHe, hLe]; exact va_S.rf
  unfold fX4_isSpring at hf
  refine lv_iload_n hx hb dX4_isSpring_0 rfl (lv_at hl 1 rfl) ?_
  refine lv_if_lt (tgt := 18) hx hb dX4_isSpring_1 (by decide) (fun c1 => ?_) (fun c1 => ?_)
  · have hf := oif_t c1 hf
    refine lv_iconst (v := 0) hx hb dX4_isSpring_18 (by decide) ?_
    obtain rfl := Option.some.inj hf
    exact W.zret (v := 0) hx hb hr rfl (fun t ht hW => ⟨⟨0, (), rfl, rfl, by rw [ht]; exact hP, hD⟩, hS.F ht⟩) hS.2.2 dX4_isSpring_19
  · have hf := oif_f c1 hf
    refine lv_iload_n hx hb dX4_isSpring_4 rfl (lv_at hl 1 rfl) ?_
    refine lv_aload_n hx hb dX4_isSpring_5 rfl (lv_at hl 0 rfl) ?_
    refine va_get (D := (dC, dI)) (ci := 4) (v := .ref (aM 1)) (C := RX4) (T := TX4) (N := 21) hx hb hts hiX4 hown hK hP 0 rfl rfl 0 (by decide) hgX4_7 (fun _ h9 => h9) rfl dX4_isSpring_6 ?_
    refine lv_iconst (v := 1) hx hb dX4_isSpring_9 (by decide) ?_
    refine va_iald hx hb hK hP 1 0 rfl rfl (vpc rfl) dX4_isSpring_10 ?_
    refine lv_icmp_gt (tgt := 18) hx hb dX4_isSpring_11 (by decide) (fun c2 => ?_) (fun c2 => ?_)
    · have hf := oif_t c2 hf
      refine lv_iconst (v := 0) hx hb dX4_isSpring_18 (by decide) ?_
      obtain rfl := Option.some.inj hf
      exact W.zret (v := 0) hx hb hr rfl (fun t ht hW => ⟨⟨0, (), rfl, rfl, by rw [ht]; exact hP, hD⟩, hS.F ht⟩) hS.2.2 dX4_isSpring_19
    · have hf := oif_f c2 hf
      refine lv_iconst (v := 1) hx hb dX4_isSpring_14 (by decide) ?_
      refine lv_goto (tgt := 19) hx hb dX4_isSpring_15 (by decide) ?_
      obtain rfl := Option.some.inj hf
      exact W.zret (v := 1) hx hb hr rfl (fun t ht hW => ⟨⟨1, (), rfl, rfl, by rw [ht]; exact hP, hD⟩, hS.F ht⟩) hS.2.2 dX4_isSpring_19
def fX4_low (vM : BX4) (i1 : Int32) : Option Int32 :=
  if inB ((16 : Int32) + i1) 24 = true then (if 0 ≤ ((p4_s vM) (((16 : Int32) + i1)).toNatClampNeg) then (if inB ((16 : Int32) + i1) 24 = true then (some ((p4_s vM) (((16 : Int32) + i1)).toNatClampNeg)) else none) else (some 0)) else none
set_option maxHeartbeats 8000000 in
set_option maxRecDepth 100000 in
theorem mX4_low (l : Launch) (dC : Nat → ClassId) (dI : Nat → Nat → Nat) (cI cJ : ClassId) (aM : Nat → Nat) (sz : Nat) (vM : BX4) (i1 : Int32) (y : Int32) (hf : fX4_low vM i1 = some y) : Met l yX4_low wsX4_low ({ frames := 0, cells := 0, slots := 0, locals := 0 }) (cPc dC dI cI cJ [.ref (aM 0), .int i1] [k4_0 aM vM, k4_1 cI aM vM, k4_2 cI aM vM, k4_3 cI aM vM, k4_4 cI aM vM, k4_5 cJ aM vM, k4_6 cI aM vM, k4_7 cJ aM vM, k4_8 cJ aM vM, k4_9 cI aM vM] sz) (va_Qi (fun r (_ : Unit) => r = y) (fun _ t => cB dC dI (va_A [k4_0 aM vM, k4_1 cI aM vM, k4_2 cI aM vM, k4_3 cI aM vM, k4_4 cI aM vM, k4_5 cJ aM vM, k4_6 cI aM vM, k4_7 cJ aM vM, k4_8 cJ aM vM, k4_9 cI aM vM] sz) [k4_0 aM vM, k4_1 cI aM vM, k4_2 cI aM vM, k4_3 cI aM vM, k4_4 cI aM vM, k4_5 cJ aM vM, k4_6 cI aM vM, k4_7 cJ aM vM, k4_8 cJ aM vM, k4_9 cI aM vM] t) (va_A [k4_0 aM vM, k4_1 cI aM vM, k4_2 cI aM vM, k4_3 cI aM vM, k4_4 cI aM vM, k4_5 cJ aM vM, k4_6 cI aM vM, k4_7 cJ aM vM, k4_8 cJ aM vM, k4_9 cI aM vM] sz)) 0 0 (va_A [k4_0 aM vM, k4_1 cI aM vM, k4_2 cI aM vM, k4_3 cI aM vM, k4_4 cI aM vM, k4_5 cJ aM vM, k4_6 cI aM vM, k4_7 cJ aM vM, k4_8 cJ aM vM, k4_9 cI aM vM] sz) := by
  refine Met.ofW (cc := cX4_low) (maxL := 2) (ret := (some .int)) (by decide) rfl ?_
  intro p e s m args below meth c s₁ B hml hv
  obtain ⟨rfl, hsz, hP, hK, hD0, hN⟩ := hv
  have hx := B.exec
  have hb := B.bytes
  have hr := B.returns
  have hts := atoms_spec (ws := wsX4_low) B.pre
  have hown : s.vm.findClass RX4 = some m.cls := findClass_of_methodNamed B.named
  have hlocks := B.notSynchronized
  subst hsz
  have hD := hD0.self (sz := s.heap.size)
  generalize hAe : va_A [k4_0 aM vM, k4_1 cI aM vM, k4_2 cI aM vM, k4_3 cI aM vM, k4_4 cI aM vM, k4_5 cJ aM vM, k4_6 cI aM vM, k4_7 cJ aM vM, k4_8 cJ aM vM, k4_9 cI aM vM] s.heap.size = A at hD hN ⊢
  have hA : ∀ q : Nat, s.heap.size ≤ q → A q := fun q h => by rw [← hAe]; exact Or.inr h
  have hP : va_P (dC, dI) vwCl [k4_0 aM vM, k4_1 cI aM vM, k4_2 cI aM vM, k4_3 cI aM vM, k4_4 cI aM vM, k4_5 cJ aM vM, k4_6 cI aM vM, k4_7 cJ aM vM, k4_8 cJ aM vM, k4_9 cI aM vM] s.heap := hP
  have hl := lv_entry ([.ref (aM 0), .int i1]) (n := 2) (Nat.le_of_ble_eq_true rfl)
  rw [lg_entry_eq]
  generalize (lg_sl ([.ref (aM 0), .int i1]) ++ List.replicate (2 - (lg_sl ([.ref (aM 0), .int i1])).length) Slot.unset).toArray = ls at hl ⊢
  have hl : lv_has ls 2 [(0, .ref (aM 0)), (1, .int i1)] := hl
  have hiX4 : ∀ w ∈ u_ws RX4 TX4 21, w ∈ wsX4_low := by decide +kernel
  have hgX4_7 := hts (.fieldLink RX4 7 "SpringPlatesModel" "s" "[I") (by decide +kernel)
  refine nameH (fun H locs hHe hLe => ?_)
  have hP : va_P (dC, dI) vwCl [k4_0 aM vM, k4_1 cI aM vM, k4_2 cI aM vM, k4_3 cI aM vM, k4_4 cI aM vM, k4_5 cJ aM vM, k4_6 cI aM vM, k4_7 cJ aM vM, k4_8 cJ aM vM, k4_9 cI aM vM] H := by rw [hHe]; exact hP
  have hS : va_S A s.heap H locs := by rw [hHe, hLe]; exact va_S.rf
  unfold fX4_low at hf
  refine lv_aload_n hx hb dX4_low_0 rfl (lv_at hl 0 rfl) ?_
  refine va_get (D := (dC, dI)) (ci := 4) (v := .ref (aM 1)) (C := RX4) (T := TX4) (N := 21) hx hb hts hiX4 hown hK hP 0 rfl rfl 0 (by decide) hgX4_7 (fun _ h9 => h9) rfl dX4_low_1 ?_
  refine lv_bipush (v := 16) hx hb dX4_low_4 (by decide) ?_
  refine lv_iload_n hx hb dX4_low_6 rfl (lv_at hl 1 rfl) ?_
  refine lv_iadd hx hb dX4_low_7 ?_
  obtain ⟨hi1, hf⟩ := oinb rfl hf
  refine va_iald hx hb hK hP 1 0 rfl rfl hi1 dX4_low_8 ?_
  refine lv_if_ge (tgt := 16) hx hb dX4_low_9 (by decide) (fun c2 => ?_) (fun c2 => ?_)
  · have hf := oif_t c2 hf
    refine lv_aload_n hx hb dX4_low_16 rfl (lv_at hl 0 rfl) ?_
    refine va_get (D := (dC, dI)) (ci := 4) (v := .ref (aM 1)) (C := RX4) (T := TX4) (N := 21) hx hb hts hiX4 hown hK hP 0 rfl rfl 0 (by decide) hgX4_7 (fun _ h9 => h9) rfl dX4_low_17 ?_
    refine lv_bipush (v := 16) hx hb dX4_low_20 (by decide) ?_
    refine lv_iload_n hx hb dX4_low_22 rfl (lv_at hl 1 rfl) ?_
    refine lv_iadd hx hb dX4_low_23 ?_
    obtain ⟨hi3, hf⟩ := oinb rfl hf
    refine va_iald hx hb hK hP 1 0 rfl rfl hi3 dX4_low_24 ?_
    obtain rfl := Option.some.inj hf
    exact W.iret (v := ((p4_s vM) (((16 : Int32) + i1)).toNatClampNeg)) hx hb hr (fun t ht hW => ⟨⟨((p4_s vM) (((16 : Int32) + i1)).toNatClampNeg), (), rfl, rfl, by rw [ht]; exact hP, hD⟩, hS.F ht⟩) hS.2.2 dX4_low_25
  · have hf := oif_f c2 hf
    refine lv_iconst (v := 0) hx hb dX4_low_12 (by decide) ?_
    refine lv_goto (tgt := 25) hx hb dX4_low_13 (by decide) ?_
    obtain rfl := Option.some.inj hf
    exact W.iret (v := 0) hx hb hr (fun t ht hW => ⟨⟨0, (), rfl, rfl, by rw [ht]; exact hP, hD⟩, hS.F ht⟩) hS.2.2 dX4_low_25
def fX4_high (vM : BX4) (i1 : Int32) : Option Int32 :=
  if inB ((20 : Int32) + i1) 24 = true then (if 0 ≤ ((p4_s vM) (((20 : Int32) + i1)).toNatClampNeg) then (if inB ((20 : Int32) + i1) 24 = true then (some ((p4_s vM) (((20 : Int32) + i1)).toNatClampNeg)) else none) else (some ((p4_s vM) ((0 : Int32)).toNatClampNeg))) else none
set_option maxHeartbeats 8000000 in
set_option maxRecDepth 100000 in
theorem mX4_high (l : Launch) (dC : Nat → ClassId) (dI : Nat → Nat → Nat) (cI cJ : ClassId) (aM : Nat → Nat) (sz : Nat) (vM : BX4) (i1 : Int32) (y : Int32) (hf : fX4_high vM i1 = some y) : Met l yX4_high wsX4_high ({ frames := 0, cells := 0, slots := 0, locals := 0 }) (cPc dC dI cI cJ [.ref (aM 0), .int i1] [k4_0 aM vM, k4_1 cI aM vM, k4_2 cI aM vM, k4_3 cI aM vM, k4_4 cI aM vM, k4_5 cJ aM vM, k4_6 cI aM vM, k4_7 cJ aM vM, k4_8 cJ aM vM, k4_9 cI aM vM] sz) (va_Qi (fun r (_ : Unit) => r = y) (fun _ t => cB dC dI (va_A [k4_0 aM vM, k4_1 cI aM vM, k4_2 cI aM vM, k4_3 cI aM vM, k4_4 cI aM vM, k4_5 cJ aM vM, k4_6 cI aM vM, k4_7 cJ aM vM, k4_8 cJ aM vM, k4_9 cI aM vM] sz) [k4_0 aM vM, k4_1 cI aM vM, k4_2 cI aM vM, k4_3 cI aM vM, k4_4 cI aM vM, k4_5 cJ aM vM, k4_6 cI aM vM, k4_7 cJ aM vM, k4_8 cJ aM vM, k4_9 cI aM vM] t) (va_A [k4_0 aM vM, k4_1 cI aM vM, k4_2 cI aM vM, k4_3 cI aM vM, k4_4 cI aM vM, k4_5 cJ aM vM, k4_6 cI aM vM, k4_7 cJ aM vM, k4_8 cJ aM vM, k4_9 cI aM vM] sz)) 0 0 (va_A [k4_0 aM vM, k4_1 cI aM vM, k4_2 cI aM vM, k4_3 cI aM vM, k4_4 cI aM vM, k4_5 cJ aM vM, k4_6 cI aM vM, k4_7 cJ aM vM, k4_8 cJ aM vM, k4_9 cI aM vM] sz) := by
  refine Met.ofW (cc := cX4_high) (maxL := 2) (ret := (some .int)) (by decide) rfl ?_
  intro p e s m args below meth c s₁ B hml hv
  obtain ⟨rfl, hsz, hP, hK, hD0, hN⟩ := hv
  have hx := B.exec
  have hb := B.bytes
  have hr := B.returns
  have hts := atoms_spec (ws := wsX4_high) B.pre
  have hown : s.vm.findClass RX4 = some m.cls := findClass_of_methodNamed B.named
  have hlocks := B.notSynchronized
  subst hsz
  have hD := hD0.self (sz := s.heap.size)
  generalize hAe : va_A [k4_0 aM vM, k4_1 cI aM vM, k4_2 cI aM vM, k4_3 cI aM vM, k4_4 cI aM vM, k4_5 cJ aM vM, k4_6 cI aM vM, k4_7 cJ aM vM, k4_8 cJ aM vM, k4_9 cI aM vM] s.heap.size = A at hD hN ⊢
  have hA : ∀ q : Nat, s.heap.size ≤ q → A q := fun q h => by rw [← hAe]; exact Or.inr h
  have hP : va_P (dC, dI) vwCl [k4_0 aM vM, k4_1 cI aM vM, k4_2 cI aM vM, k4_3 cI aM vM, k4_4 cI aM vM, k4_5 cJ aM vM, k4_6 cI aM vM, k4_7 cJ aM vM, k4_8 cJ aM vM, k4_9 cI aM vM] s.heap := hP
  have hl := lv_entry ([.ref (aM 0), .int i1]) (n := 2) (Nat.le_of_ble_eq_true rfl)
  rw [lg_entry_eq]
  generalize (lg_sl ([.ref (aM 0), .int i1]) ++ List.replicate (2 - (lg_sl ([.ref (aM 0), .int i1])).length) Slot.unset).toArray = ls at hl ⊢
  have hl : lv_has ls 2 [(0, .ref (aM 0)), (1, .int i1)] := hl
  have hiX4 : ∀ w ∈ u_ws RX4 TX4 21, w ∈ wsX4_high := by decide +kernel
  have hgX4_7 := hts (.fieldLink RX4 7 "SpringPlatesModel" "s" "[I") (by decide +kernel)
  refine nameH (fun H locs hHe hLe => ?_)
  have hP : va_P (dC, dI) vwCl [k4_0 aM vM, k4_1 cI aM vM, k4_2 cI aM vM, k4_3 cI aM vM, k4_4 cI aM vM, k4_5 cJ aM vM, k4_6 cI aM vM, k4_7 cJ aM vM, k4_8 cJ aM vM, k4_9 cI aM vM] H := by rw [hHe]; exact hP
  have hS : va_S A s.heap H locs := by rw [hHe, hLe]; exact va_S.rf
  unfold fX4_high at hf
  refine lv_aload_n hx hb dX4_high_0 rfl (lv_at hl 0 rfl) ?_
  refine va_get (D := (dC, dI)) (ci := 4) (v := .ref (aM 1)) (C := RX4) (T := TX4) (N := 21) hx hb hts hiX4 hown hK hP 0 rfl rfl 0 (by decide) hgX4_7 (fun _ h9 => h9) rfl dX4_high_1 ?_
  refine lv_bipush (v := 20) hx hb dX4_high_4 (by decide) ?_
  refine lv_iload_n hx hb dX4_high_6 rfl (lv_at hl 1 rfl) ?_
  refine lv_iadd hx hb dX4_high_7 ?_
  obtain ⟨hi1, hf⟩ := oinb rfl hf
  refine va_iald hx hb hK hP 1 0 rfl rfl hi1 dX4_high_8 ?_
  refine lv_if_ge (tgt := 21) hx hb dX4_high_9 (by decide) (fun c2 => ?_) (fun c2 => ?_)
  · have hf := oif_t c2 hf
    refine lv_aload_n hx hb dX4_high_21 rfl (lv_at hl 0 rfl) ?_
    refine va_get (D := (dC, dI)) (ci := 4) (v := .ref (aM 1)) (C := RX4) (T := TX4) (N := 21) hx hb hts hiX4 hown hK hP 0 rfl rfl 0 (by decide) hgX4_7 (fun _ h9 => h9) rfl dX4_high_22 ?_
    refine lv_bipush (v := 20) hx hb dX4_high_25 (by decide) ?_
    refine lv_iload_n hx hb dX4_high_27 rfl (lv_at hl 1 rfl) ?_
    refine lv_iadd hx hb dX4_high_28 ?_
    obtain ⟨hi3, hf⟩ := oinb rfl hf
    refine va_iald hx hb hK hP 1 0 rfl rfl hi3 dX4_high_29 ?_
    obtain rfl := Option.some.inj hf
    exact W.iret (v := ((p4_s vM) (((20 : Int32) + i1)).toNatClampNeg)) hx hb hr (fun t ht hW => ⟨⟨((p4_s vM) (((20 : Int32) + i1)).toNatClampNeg), (), rfl, rfl, by rw [ht]; exact hP, hD⟩, hS.F ht⟩) hS.2.2 dX4_high_30
  · have hf := oif_f c2 hf
    refine lv_aload_n hx hb dX4_high_12 rfl (lv_at hl 0 rfl) ?_
    refine va_get (D := (dC, dI)) (ci := 4) (v := .ref (aM 1)) (C := RX4) (T := TX4) (N := 21) hx hb hts hiX4 hown hK hP 0 rfl rfl 0 (by decide) hgX4_7 (fun _ h9 => h9) rfl dX4_high_13 ?_
    refine lv_iconst (v := 0) hx hb dX4_high_16 (by decide) ?_
    refine va_iald hx hb hK hP 1 0 rfl rfl (vpc rfl) dX4_high_17 ?_
    refine lv_goto (tgt := 30) hx hb dX4_high_18 (by decide) ?_
    obtain rfl := Option.some.inj hf
    exact W.iret (v := ((p4_s vM) ((0 : Int32)).toNatClampNeg)) hx hb hr (fun t ht hW => ⟨⟨((p4_s vM) ((0 : Int32)).toNatClampNeg), (), rfl, rfl, by rw [ht]; exact hP, hD⟩, hS.F ht⟩) hS.2.2 dX4_high_30
def fX4_isAllowed_53 (k6 : BX4 → Int32 → Int32 → Int32 → Option Int32) (vM : BX4) (x2 : Int32) (x3 : Int32) (st0 : Int32) : Option Int32 :=
  elet (x3 + 1) (fun z9 => k6 vM st0 x2 z9)
def fX4_isAllowed_52 (k6 : BX4 → Int32 → Int32 → Int32 → Option Int32) (vM : BX4) (x2 : Int32) (x3 : Int32) : Option Int32 :=
  fX4_isAllowed_53 k6 vM x2 x3 (0 : Int32)
def fX4_isAllowed_34 (k6 : BX4 → Int32 → Int32 → Int32 → Option Int32) (vM : BX4) (x1 : Int32) (x3 : Int32) (st0 : Int32) : Option Int32 :=
  if x1 = 0 then (fX4_isAllowed_52 k6 vM st0 x3) else ((fX4_high vM x3).bind (fun y7 => if y7 < st0 then (fX4_isAllowed_52 k6 vM st0 x3) else (fX4_isAllowed_53 k6 vM st0 x3 (1 : Int32))))
def fX4_isAllowed_6_b (k6 : BX4 → Int32 → Int32 → Int32 → Option Int32) (vM : BX4) (x1 : Int32) (x2 : Int32) (x3 : Int32) : Option Int32 :=
  if ((p4_s vM) ((1 : Int32)).toNatClampNeg) ≤ x3 then (if zB x1 = true then (some x1) else none) else ((fX4_low vM x3).bind (fun y3 => if y3 ≤ x2 then (fX4_isAllowed_34 k6 vM x1 x3 x2) else ((fX4_low vM x3).bind (fun y5 => fX4_isAllowed_34 k6 vM x1 x3 y5))))
def fX4_isAllowed_6 : Nat → BX4 → Int32 → Int32 → Int32 → Option Int32
  | 0 => fun _ _ _ _ => none
  | n + 1 => fX4_isAllowed_6_b (fX4_isAllowed_6 n)
def fX4_isAllowed (vM : BX4) : Option Int32 :=
  fX4_isAllowed_6 FU vM (1 : Int32) (0 : Int32) (0 : Int32)
set_option maxHeartbeats 8000000 in
set_option maxRecDepth 100000 in
theorem mX4_isAllowed (l : Launch) (dC : Nat → ClassId) (dI : Nat → Nat → Nat) (cI cJ : ClassId) (aM : Nat → Nat) (sz : Nat) (vM : BX4) (y : Int32) (hf : fX4_isAllowed vM = some y) : Met l yX4_isAllowed wsX4_isAllowed ({ frames := 1, cells := 0, slots := 0, locals := 21 }) (cPc dC dI cI cJ [.ref (aM 0)] [k4_0 aM vM, k4_1 cI aM vM, k4_2 cI aM vM, k4_3 cI aM vM, k4_4 cI aM vM, k4_5 cJ aM vM, k4_6 cI aM vM, k4_7 cJ aM vM, k4_8 cJ aM vM, k4_9 cI aM vM] sz) (va_Qi (fun r (_ : Unit) => r = y) (fun _ t => cB dC dI (va_A [k4_0 aM vM, k4_1 cI aM vM, k4_2 cI aM vM, k4_3 cI aM vM, k4_4 cI aM vM, k4_5 cJ aM vM, k4_6 cI aM vM, k4_7 cJ aM vM, k4_8 cJ aM vM, k4_9 cI aM vM] sz) [k4_0 aM vM, k4_1 cI aM vM, k4_2 cI aM vM, k4_3 cI aM vM, k4_4 cI aM vM, k4_5 cJ aM vM, k4_6 cI aM vM, k4_7 cJ aM vM, k4_8 cJ aM vM, k4_9 cI aM vM] t) (va_A [k4_0 aM vM, k4_1 cI aM vM, k4_2 cI aM vM, k4_3 cI aM vM, k4_4 cI aM vM, k4_5 cJ aM vM, k4_6 cI aM vM, k4_7 cJ aM vM, k4_8 cJ aM vM, k4_9 cI aM vM] sz)) 0 0 (va_A [k4_0 aM vM, k4_1 cI aM vM, k4_2 cI aM vM, k4_3 cI aM vM, k4_4 cI aM vM, k4_5 cJ aM vM, k4_6 cI aM vM, k4_7 cJ aM vM, k4_8 cJ aM vM, k4_9 cI aM vM] sz) := by
  refine Met.ofW (cc := cX4_isAllowed) (maxL := 4) (ret := (some .boolean)) (by decide) rfl ?_
  intro p e s m args below meth c s₁ B hml hv
  obtain ⟨rfl, hsz, hP, hK, hD0, hN⟩ := hv
  have hx := B.exec
  have hb := B.bytes
  have hr := B.returns
  have hts := atoms_spec (ws := wsX4_isAllowed) B.pre
  have hown : s.vm.findClass RX4 = some m.cls := findClass_of_methodNamed B.named
  have hlocks := B.notSynchronized
  subst hsz
  have hD := hD0.self (sz := s.heap.size)
  generalize hAe : va_A [k4_0 aM vM, k4_1 cI aM vM, k4_2 cI aM vM, k4_3 cI aM vM, k4_4 cI aM vM, k4_5 cJ aM vM, k4_6 cI aM vM, k4_7 cJ aM vM, k4_8 cJ aM vM, k4_9 cI aM vM] s.heap.size = A at hD hN ⊢
  have hA : ∀ q : Nat, s.heap.size ≤ q → A q := fun q h => by rw [← hAe]; exact Or.inr h
  have hP : va_P (dC, dI) vwCl [k4_0 aM vM, k4_1 cI aM vM, k4_2 cI aM vM, k4_3 cI aM vM, k4_4 cI aM vM, k4_5 cJ aM vM, k4_6 cI aM vM, k4_7 cJ aM vM, k4_8 cJ aM vM, k4_9 cI aM vM] s.heap := hP
  have hl := lv_entry ([.ref (aM 0)]) (n := 4) (Nat.le_of_ble_eq_true rfl)
  rw [lg_entry_eq]
  generalize (lg_sl ([.ref (aM 0)]) ++ List.replicate (4 - (lg_sl ([.ref (aM 0)])).length) Slot.unset).toArray = ls at hl ⊢
  have hl : lv_has ls 4 [(0, .ref (aM 0))] := hl
  have hiX4 : ∀ w ∈ u_ws RX4 TX4 21, w ∈ wsX4_isAllowed := by decide +kernel
  have hgX4_7 := hts (.fieldLink RX4 7 "SpringPlatesModel" "s" "[I") (by decide +kernel)
  refine nameH (fun H locs hHe hLe => ?_)
  have hP : va_P (dC, dI) vwCl [k4_0 aM vM, k4_1 cI aM vM, k4_2 cI aM vM, k4_3 cI aM vM, k4_4 cI aM vM, k4_5 cJ aM vM, k4_6 cI aM vM, k4_7 cJ aM vM, k4_8 cJ aM vM, k4_9 cI aM vM] H := by rw [hHe]; exact hP
  have hS : va_S A s.heap H locs := by rw [hHe, hLe]; exact va_S.rf
  refine withW (fun WW hWW => ?_)
  have J53 : ∀ (k6 : BX4 → Int32 → Int32 → Int32 → Option Int32) (hk6 : ∀ (x1 : Int32) (x2 : Int32) (x3 : Int32) (H : Heap) (locs : List Loc) (ls : Array Slot), va_P (dC, dI) vwCl [k4_0 aM vM, k4_1 cI aM vM, k4_2 cI aM vM, k4_3 cI aM vM, k4_4 cI aM vM, k4_5 cJ aM vM, k4_6 cI aM vM, k4_7 cJ aM vM, k4_8 cJ aM vM, k4_9 cI aM vM] H → va_D A [k4_0 aM vM, k4_1 cI aM vM, k4_2 cI aM vM, k4_3 cI aM vM, k4_4 cI aM vM, k4_5 cJ aM vM, k4_6 cI aM vM, k4_7 cJ aM vM, k4_8 cJ aM vM, k4_9 cI aM vM] → va_S A s.heap H locs → lv_has ls 4 [(0, .ref (aM 0)), (1, .int x1), (2, .int x2), (3, .int x3)] → k6 vM x1 x2 x3 = some y → WW H locs 0 0 ls 6 []) (x2 : Int32) (x3 : Int32) (st0 : Int32) (H : Heap) (locs : List Loc) (ls : Array Slot), va_P (dC, dI) vwCl [k4_0 aM vM, k4_1 cI aM vM, k4_2 cI aM vM, k4_3 cI aM vM, k4_4 cI aM vM, k4_5 cJ aM vM, k4_6 cI aM vM, k4_7 cJ aM vM, k4_8 cJ aM vM, k4_9 cI aM vM] H → va_D A [k4_0 aM vM, k4_1 cI aM vM, k4_2 cI aM vM, k4_3 cI aM vM, k4_4 cI aM vM, k4_5 cJ aM vM, k4_6 cI aM vM, k4_7 cJ aM vM, k4_8 cJ aM vM, k4_9 cI aM vM] → va_S A s.heap H locs → lv_has ls 4 [(0, .ref (aM 0)), (2, .int x2), (3, .int x3)] → fX4_isAllowed_53 k6 vM x2 x3 st0 = some y → WW H locs 0 0 ls 53 [.int st0] := by
    intro k6 hk6 x2 x3 st0 H locs ls hP hD hS hl hf
    unfold fX4_isAllowed_53 at hf
    refine (hWW _ _ _ _ _ _ _).2 ?_
    refine lv_istore_n (lv' := [(1, .int st0), (0, .ref (aM 0)), (2, .int x2), (3, .int x3)]) hx hb dX4_isAllowed_53 rfl hl (by decide) rfl (fun ls hl => ?_)
    obtain ⟨z9, ez9, hf⟩ := elet_out hf
    refine lv_iinc (v := z9) (lv' := [(3, .int z9), (1, .int st0), (0, .ref (aM 0)), (2, .int x2)]) hx hb dX4_isAllowed_54 hl (k := 3) rfl (by rw [ez9]; rfl) (by decide) rfl (fun ls hl => ?_)
    refine lv_goto (tgt := 6) hx hb dX4_isAllowed_57 (by decide) ?_
    exact (hWW _ _ _ _ _ _ _).1 (hk6 st0 x2 z9 H locs ls hP hD hS (lv_sub hl [2, 1, 3, 0] rfl) hf)
  have J52 : ∀ (k6 : BX4 → Int32 → Int32 → Int32 → Option Int32) (hk6 : ∀ (x1 : Int32) (x2 : Int32) (x3 : Int32) (H : Heap) (locs : List Loc) (ls : Array Slot), va_P (dC, dI) vwCl [k4_0 aM vM, k4_1 cI aM vM, k4_2 cI aM vM, k4_3 cI aM vM, k4_4 cI aM vM, k4_5 cJ aM vM, k4_6 cI aM vM, k4_7 cJ aM vM, k4_8 cJ aM vM, k4_9 cI aM vM] H → va_D A [k4_0 aM vM, k4_1 cI aM vM, k4_2 cI aM vM, k4_3 cI aM vM, k4_4 cI aM vM, k4_5 cJ aM vM, k4_6 cI aM vM, k4_7 cJ aM vM, k4_8 cJ aM vM, k4_9 cI aM vM] → va_S A s.heap H locs → lv_has ls 4 [(0, .ref (aM 0)), (1, .int x1), (2, .int x2), (3, .int x3)] → k6 vM x1 x2 x3 = some y → WW H locs 0 0 ls 6 []) (x2 : Int32) (x3 : Int32) (H : Heap) (locs : List Loc) (ls : Array Slot), va_P (dC, dI) vwCl [k4_0 aM vM, k4_1 cI aM vM, k4_2 cI aM vM, k4_3 cI aM vM, k4_4 cI aM vM, k4_5 cJ aM vM, k4_6 cI aM vM, k4_7 cJ aM vM, k4_8 cJ aM vM, k4_9 cI aM vM] H → va_D A [k4_0 aM vM, k4_1 cI aM vM, k4_2 cI aM vM, k4_3 cI aM vM, k4_4 cI aM vM, k4_5 cJ aM vM, k4_6 cI aM vM, k4_7 cJ aM vM, k4_8 cJ aM vM, k4_9 cI aM vM] → va_S A s.heap H locs → lv_has ls 4 [(0, .ref (aM 0)), (2, .int x2), (3, .int x3)] → fX4_isAllowed_52 k6 vM x2 x3 = some y → WW H locs 0 0 ls 52 [] := by
    intro k6 hk6 x2 x3 H locs ls hP hD hS hl hf
    unfold fX4_isAllowed_52 at hf
    refine (hWW _ _ _ _ _ _ _).2 ?_
    refine lv_iconst (v := 0) hx hb dX4_isAllowed_52 (by decide) ?_
    exact (hWW _ _ _ _ _ _ _).1 (J53 k6 hk6 x2 x3 (0 : Int32) H locs ls hP hD hS (lv_sub hl [0, 1, 2] rfl) hf)
  have J34 : ∀ (k6 : BX4 → Int32 → Int32 → Int32 → Option Int32) (hk6 : ∀ (x1 : Int32) (x2 : Int32) (x3 : Int32) (H : Heap) (locs : List Loc) (ls : Array Slot), va_P (dC, dI) vwCl [k4_0 aM vM, k4_1 cI aM vM, k4_2 cI aM vM, k4_3 cI aM vM, k4_4 cI aM vM, k4_5 cJ aM vM, k4_6 cI aM vM, k4_7 cJ aM vM, k4_8 cJ aM vM, k4_9 cI aM vM] H → va_D A [k4_0 aM vM, k4_1 cI aM vM, k4_2 cI aM vM, k4_3 cI aM vM, k4_4 cI aM vM, k4_5 cJ aM vM, k4_6 cI aM vM, k4_7 cJ aM vM, k4_8 cJ aM vM, k4_9 cI aM vM] → va_S A s.heap H locs → lv_has ls 4 [(0, .ref (aM 0)), (1, .int x1), (2, .int x2), (3, .int x3)] → k6 vM x1 x2 x3 = some y → WW H locs 0 0 ls 6 []) (x1 : Int32) (x3 : Int32) (st0 : Int32) (H : Heap) (locs : List Loc) (ls : Array Slot), va_P (dC, dI) vwCl [k4_0 aM vM, k4_1 cI aM vM, k4_2 cI aM vM, k4_3 cI aM vM, k4_4 cI aM vM, k4_5 cJ aM vM, k4_6 cI aM vM, k4_7 cJ aM vM, k4_8 cJ aM vM, k4_9 cI aM vM] H → va_D A [k4_0 aM vM, k4_1 cI aM vM, k4_2 cI aM vM, k4_3 cI aM vM, k4_4 cI aM vM, k4_5 cJ aM vM, k4_6 cI aM vM, k4_7 cJ aM vM, k4_8 cJ aM vM, k4_9 cI aM vM] → va_S A s.heap H locs → lv_has ls 4 [(0, .ref (aM 0)), (1, .int x1), (3, .int x3)] → fX4_isAllowed_34 k6 vM x1 x3 st0 = some y → WW H locs 0 0 ls 34 [.int st0] := by
    intro k6 hk6 x1 x3 st0 H locs ls hP hD hS hl hf
    unfold fX4_isAllowed_34 at hf
    refine (hWW _ _ _ _ _ _ _).2 ?_
    refine lv_istore_n (lv' := [(2, .int st0), (0, .ref (aM 0)), (1, .int x1), (3, .int x3)]) hx hb dX4_isAllowed_34 rfl hl (by decide) rfl (fun ls hl => ?_)
    refine lv_iload_n hx hb dX4_isAllowed_35 rfl (lv_at hl 2 rfl) ?_
    refine lv_if_eq (tgt := 52) hx hb dX4_isAllowed_36 (by decide) (fun c6 => ?_) (fun c6 => ?_)
    · have hf := oif_t c6 hf
      exact (hWW _ _ _ _ _ _ _).1 (J52 k6 hk6 st0 x3 H locs ls hP hD hS (lv_sub hl [1, 0, 3] rfl) hf)
    · have hf := oif_f c6 hf
      refine lv_iload_n hx hb dX4_isAllowed_39 rfl (lv_at hl 0 rfl) ?_
      refine lv_aload_n hx hb dX4_isAllowed_40 rfl (lv_at hl 1 rfl) ?_
      refine lv_iload_n hx hb dX4_isAllowed_41 rfl (lv_at hl 3 rfl) ?_
      obtain ⟨y7, hy7, hf⟩ := obind hf
      refine cg_i (ws := [k4_0 aM vM, k4_1 cI aM vM, k4_2 cI aM vM, k4_3 cI aM vM, k4_4 cI aM vM, k4_5 cJ aM vM, k4_6 cI aM vM, k4_7 cJ aM vM, k4_8 cJ aM vM, k4_9 cI aM vM]) (wc := [k4_0 aM vM, k4_1 cI aM vM, k4_2 cI aM vM, k4_3 cI aM vM, k4_4 cI aM vM, k4_5 cJ aM vM, k4_6 cI aM vM, k4_7 cJ aM vM, k4_8 cJ aM vM, k4_9 cI aM vM]) (wr := []) (w1 := [k4_0 aM vM, k4_1 cI aM vM, k4_2 cI aM vM, k4_3 cI aM vM, k4_4 cI aM vM, k4_5 cJ aM vM, k4_6 cI aM vM, k4_7 cJ aM vM, k4_8 cJ aM vM, k4_9 cI aM vM]) (wo := [k4_0 aM vM, k4_1 cI aM vM, k4_2 cI aM vM, k4_3 cI aM vM, k4_4 cI aM vM, k4_5 cJ aM vM, k4_6 cI aM vM, k4_7 cJ aM vM, k4_8 cJ aM vM, k4_9 cI aM vM]) hP hD hS hA (va_runV (As := [.int x3]) (rest := [.int st0]) ⟨hx, hb, hml, hown, hts⟩ (mX4_high l dC dI cI cJ aM H.size vM x3 y7 hy7) (cwV 1 hts gX4_isAllowed_X4_high rfl rfl rfl (by decide +kernel) ⟨Nat.le_of_ble_eq_true rfl, Nat.le_of_ble_eq_true rfl⟩) ⟨cFB, va_recv hK hP (ci := 4) (q0 := 0) rfl rfl, cPre hK hN hS (va_free (wc := [k4_0 aM vM, k4_1 cI aM vM, k4_2 cI aM vM, k4_3 cI aM vM, k4_4 cI aM vM, k4_5 cJ aM vM, k4_6 cI aM vM, k4_7 cJ aM vM, k4_8 cJ aM vM, k4_9 cI aM vM]) hD hS hA [0, 1, 2, 3, 4, 5, 6, 7, 8, 9] rfl) (hP.sub [0, 1, 2, 3, 4, 5, 6, 7, 8, 9] rfl) (hD.sub [0, 1, 2, 3, 4, 5, 6, 7, 8, 9] rfl rfl)⟩ rfl rfl hl.1 rfl (lv_room (Nat.le_of_ble_eq_true rfl)) dX4_isAllowed_42 ⟨Nat.le_of_ble_eq_true rfl, Nat.le_of_ble_eq_true rfl⟩) [0, 1, 2, 3, 4, 5, 6, 7, 8, 9] [] [0, 1, 2, 3, 4, 5, 6, 7, 8, 9] rfl rfl rfl (by decide +kernel) rfl rfl (fun H locs hP hD hS => ?_)
      refine lv_icmp_gt (tgt := 52) hx hb dX4_isAllowed_45 (by decide) (fun c8 => ?_) (fun c8 => ?_)
      · have hf := oif_t c8 hf
        exact (hWW _ _ _ _ _ _ _).1 (J52 k6 hk6 st0 x3 H locs ls hP hD hS (lv_sub hl [1, 0, 3] rfl) hf)
      · have hf := oif_f c8 hf
        refine lv_iconst (v := 1) hx hb dX4_isAllowed_48 (by decide) ?_
        refine lv_goto (tgt := 53) hx hb dX4_isAllowed_49 (by decide) ?_
        exact (hWW _ _ _ _ _ _ _).1 (J53 k6 hk6 st0 x3 (1 : Int32) H locs ls hP hD hS (lv_sub hl [1, 0, 3] rfl) hf)
  have L6 : ∀ (n : Nat) (x1 : Int32) (x2 : Int32) (x3 : Int32) (H : Heap) (locs : List Loc) (ls : Array Slot), va_P (dC, dI) vwCl [k4_0 aM vM, k4_1 cI aM vM, k4_2 cI aM vM, k4_3 cI aM vM, k4_4 cI aM vM, k4_5 cJ aM vM, k4_6 cI aM vM, k4_7 cJ aM vM, k4_8 cJ aM vM, k4_9 cI aM vM] H → va_D A [k4_0 aM vM, k4_1 cI aM vM, k4_2 cI aM vM, k4_3 cI aM vM, k4_4 cI aM vM, k4_5 cJ aM vM, k4_6 cI aM vM, k4_7 cJ aM vM, k4_8 cJ aM vM, k4_9 cI aM vM] → va_S A s.heap H locs → lv_has ls 4 [(0, .ref (aM 0)), (1, .int x1), (2, .int x2), (3, .int x3)] → fX4_isAllowed_6 n vM x1 x2 x3 = some y → WW H locs 0 0 ls 6 [] := by
    intro n
    induction n with
    | zero =>
      intro x1 x2 x3 H locs ls hP hD hS hl hf
      exact onone hf
    | succ n ih =>
      intro x1 x2 x3 H locs ls hP hD hS hl hf
      have hf : fX4_isAllowed_6_b (fX4_isAllowed_6 n) vM x1 x2 x3 = some y := hf
      generalize fX4_isAllowed_6 n = k6 at hf ih
      have hk6 := ih
      clear ih
      unfold fX4_isAllowed_6_b at hf
      refine (hWW _ _ _ _ _ _ _).2 ?_
      refine lv_iload_n hx hb dX4_isAllowed_6 rfl (lv_at hl 3 rfl) ?_
      refine lv_aload_n hx hb dX4_isAllowed_7 rfl (lv_at hl 0 rfl) ?_
      refine va_get (D := (dC, dI)) (ci := 4) (v := .ref (aM 1)) (C := RX4) (T := TX4) (N := 21) hx hb hts hiX4 hown hK hP 0 rfl rfl 0 (by decide) hgX4_7 (fun _ h9 => h9) rfl dX4_isAllowed_8 ?_
      refine lv_iconst (v := 1) hx hb dX4_isAllowed_11 (by decide) ?_
      refine va_iald hx hb hK hP 1 0 rfl rfl (vpc rfl) dX4_isAllowed_12 ?_
      refine lv_icmp_ge (tgt := 60) hx hb dX4_isAllowed_13 (by decide) (fun c1 => ?_) (fun c1 => ?_)
      · have hf := oif_t c1 hf
        refine lv_iload_n hx hb dX4_isAllowed_60 rfl (lv_at hl 1 rfl) ?_
        obtain ⟨hz2, hf⟩ := ozb hf
        obtain rfl := Option.some.inj hf
        exact W.zret (v := x1) hx hb hr hz2 (fun t ht hW => ⟨⟨x1, (), rfl, rfl, by rw [ht]; exact hP, hD⟩, hS.F ht⟩) hS.2.2 dX4_isAllowed_61
      · have hf := oif_f c1 hf
        refine lv_aload_n hx hb dX4_isAllowed_16 rfl (lv_at hl 0 rfl) ?_
        refine lv_iload_n hx hb dX4_isAllowed_17 rfl (lv_at hl 3 rfl) ?_
        obtain ⟨y3, hy3, hf⟩ := obind hf
        refine cg_i (ws := [k4_0 aM vM, k4_1 cI aM vM, k4_2 cI aM vM, k4_3 cI aM vM, k4_4 cI aM vM, k4_5 cJ aM vM, k4_6 cI aM vM, k4_7 cJ aM vM, k4_8 cJ aM vM, k4_9 cI aM vM]) (wc := [k4_0 aM vM, k4_1 cI aM vM, k4_2 cI aM vM, k4_3 cI aM vM, k4_4 cI aM vM, k4_5 cJ aM vM, k4_6 cI aM vM, k4_7 cJ aM vM, k4_8 cJ aM vM, k4_9 cI aM vM]) (wr := []) (w1 := [k4_0 aM vM, k4_1 cI aM vM, k4_2 cI aM vM, k4_3 cI aM vM, k4_4 cI aM vM, k4_5 cJ aM vM, k4_6 cI aM vM, k4_7 cJ aM vM, k4_8 cJ aM vM, k4_9 cI aM vM]) (wo := [k4_0 aM vM, k4_1 cI aM vM, k4_2 cI aM vM, k4_3 cI aM vM, k4_4 cI aM vM, k4_5 cJ aM vM, k4_6 cI aM vM, k4_7 cJ aM vM, k4_8 cJ aM vM, k4_9 cI aM vM]) hP hD hS hA (va_runV (As := [.int x3]) (rest := []) ⟨hx, hb, hml, hown, hts⟩ (mX4_low l dC dI cI cJ aM H.size vM x3 y3 hy3) (cwV 1 hts gX4_isAllowed_X4_low rfl rfl rfl (by decide +kernel) ⟨Nat.le_of_ble_eq_true rfl, Nat.le_of_ble_eq_true rfl⟩) ⟨cFB, va_recv hK hP (ci := 4) (q0 := 0) rfl rfl, cPre hK hN hS (va_free (wc := [k4_0 aM vM, k4_1 cI aM vM, k4_2 cI aM vM, k4_3 cI aM vM, k4_4 cI aM vM, k4_5 cJ aM vM, k4_6 cI aM vM, k4_7 cJ aM vM, k4_8 cJ aM vM, k4_9 cI aM vM]) hD hS hA [0, 1, 2, 3, 4, 5, 6, 7, 8, 9] rfl) (hP.sub [0, 1, 2, 3, 4, 5, 6, 7, 8, 9] rfl) (hD.sub [0, 1, 2, 3, 4, 5, 6, 7, 8, 9] rfl rfl)⟩ rfl rfl hl.1 rfl (lv_room (Nat.le_of_ble_eq_true rfl)) dX4_isAllowed_18 ⟨Nat.le_of_ble_eq_true rfl, Nat.le_of_ble_eq_true rfl⟩) [0, 1, 2, 3, 4, 5, 6, 7, 8, 9] [] [0, 1, 2, 3, 4, 5, 6, 7, 8, 9] rfl rfl rfl (by decide +kernel) rfl rfl (fun H locs hP hD hS => ?_)
        refine lv_iload_n hx hb dX4_isAllowed_21 rfl (lv_at hl 2 rfl) ?_
        refine lv_icmp_le (tgt := 33) hx hb dX4_isAllowed_22 (by decide) (fun c4 => ?_) (fun c4 => ?_)
        · have hf := oif_t c4 hf
          refine lv_iload_n hx hb dX4_isAllowed_33 rfl (lv_at hl 2 rfl) ?_
          exact (hWW _ _ _ _ _ _ _).1 (J34 k6 hk6 x1 x3 x2 H locs ls hP hD hS (lv_sub hl [0, 1, 3] rfl) hf)
        · have hf := oif_f c4 hf
          refine lv_aload_n hx hb dX4_isAllowed_25 rfl (lv_at hl 0 rfl) ?_
          refine lv_iload_n hx hb dX4_isAllowed_26 rfl (lv_at hl 3 rfl) ?_
          obtain ⟨y5, hy5, hf⟩ := obind hf
          refine cg_i (ws := [k4_0 aM vM, k4_1 cI aM vM, k4_2 cI aM vM, k4_3 cI aM vM, k4_4 cI aM vM, k4_5 cJ aM vM, k4_6 cI aM vM, k4_7 cJ aM vM, k4_8 cJ aM vM, k4_9 cI aM vM]) (wc := [k4_0 aM vM, k4_1 cI aM vM, k4_2 cI aM vM, k4_3 cI aM vM, k4_4 cI aM vM, k4_5 cJ aM vM, k4_6 cI aM vM, k4_7 cJ aM vM, k4_8 cJ aM vM, k4_9 cI aM vM]) (wr := []) (w1 := [k4_0 aM vM, k4_1 cI aM vM, k4_2 cI aM vM, k4_3 cI aM vM, k4_4 cI aM vM, k4_5 cJ aM vM, k4_6 cI aM vM, k4_7 cJ aM vM, k4_8 cJ aM vM, k4_9 cI aM vM]) (wo := [k4_0 aM vM, k4_1 cI aM vM, k4_2 cI aM vM, k4_3 cI aM vM, k4_4 cI aM vM, k4_5 cJ aM vM, k4_6 cI aM vM, k4_7 cJ aM vM, k4_8 cJ aM vM, k4_9 cI aM vM]) hP hD hS hA (va_runV (As := [.int x3]) (rest := []) ⟨hx, hb, hml, hown, hts⟩ (mX4_low l dC dI cI cJ aM H.size vM x3 y5 hy5) (cwV 1 hts gX4_isAllowed_X4_low rfl rfl rfl (by decide +kernel) ⟨Nat.le_of_ble_eq_true rfl, Nat.le_of_ble_eq_true rfl⟩) ⟨cFB, va_recv hK hP (ci := 4) (q0 := 0) rfl rfl, cPre hK hN hS (va_free (wc := [k4_0 aM vM, k4_1 cI aM vM, k4_2 cI aM vM, k4_3 cI aM vM, k4_4 cI aM vM, k4_5 cJ aM vM, k4_6 cI aM vM, k4_7 cJ aM vM, k4_8 cJ aM vM, k4_9 cI aM vM]) hD hS hA [0, 1, 2, 3, 4, 5, 6, 7, 8, 9] rfl) (hP.sub [0, 1, 2, 3, 4, 5, 6, 7, 8, 9] rfl) (hD.sub [0, 1, 2, 3, 4, 5, 6, 7, 8, 9] rfl rfl)⟩ rfl rfl hl.1 rfl (lv_room (Nat.le_of_ble_eq_true rfl)) dX4_isAllowed_27 ⟨Nat.le_of_ble_eq_true rfl, Nat.le_of_ble_eq_true rfl⟩) [0, 1, 2, 3, 4, 5, 6, 7, 8, 9] [] [0, 1, 2, 3, 4, 5, 6, 7, 8, 9] rfl rfl rfl (by decide +kernel) rfl rfl (fun H locs hP hD hS => ?_)
          refine lv_goto (tgt := 34) hx hb dX4_isAllowed_30 (by decide) ?_
          exact (hWW _ _ _ _ _ _ _).1 (J34 k6 hk6 x1 x3 y5 H locs ls hP hD hS (lv_sub hl [0, 1, 3] rfl) hf)
  refine (hWW _ _ _ _ _ _ _).2 ?_
  unfold fX4_isAllowed at hf
  refine lv_iconst (v := 1) hx hb dX4_isAllowed_0 (by decide) ?_
  refine lv_istore_n (lv' := [(1, .int 1), (0, .ref (aM 0))]) hx hb dX4_isAllowed_1 rfl hl (by decide) rfl (fun ls hl => ?_)
  refine lv_iconst (v := 0) hx hb dX4_isAllowed_2 (by decide) ?_
  refine lv_istore_n (lv' := [(2, .int 0), (1, .int 1), (0, .ref (aM 0))]) hx hb dX4_isAllowed_3 rfl hl (by decide) rfl (fun ls hl => ?_)
  refine lv_iconst (v := 0) hx hb dX4_isAllowed_4 (by decide) ?_
  refine lv_istore_n (lv' := [(3, .int 0), (2, .int 0), (1, .int 1), (0, .ref (aM 0))]) hx hb dX4_isAllowed_5 rfl hl (by decide) rfl (fun ls hl => ?_)
  exact (hWW _ _ _ _ _ _ _).1 (L6 FU (1 : Int32) (0 : Int32) (0 : Int32) H locs ls hP hD hS (lv_sub hl [3, 2, 1, 0] rfl) hf)
def fX4_width_16_b (k16 : BX4 → Int32 → Int32 → Option (Int32 × BX4)) (vM : BX4) (x1 : Int32) (x2 : Int32) : Option (Int32 × BX4) :=
  if ((p4_s vM) ((1 : Int32)).toNatClampNeg) ≤ x2 then ((fX4_changes vM).bind (fun y2 => elet ((p4_s y2) ((0 : Int32)).toNatClampNeg) (fun z3 => elet (s4_s y2 (upd (p4_s y2) ((0 : Int32)).toNatClampNeg x1)) (fun b4 => some (z3, b4))))) else (if inB ((16 : Int32) + x2) 24 = true then (if x1 < ((p4_s vM) (((16 : Int32) + x2)).toNatClampNeg) then (some ((-1000002), vM)) else (if inB ((20 : Int32) + x2) 24 = true then (if ((p4_s vM) (((20 : Int32) + x2)).toNatClampNeg) ≤ x1 then (elet (x2 + 1) (fun z9 => k16 vM x1 z9)) else (some ((-1000002), vM))) else none)) else none)
def fX4_width_16 : Nat → BX4 → Int32 → Int32 → Option (Int32 × BX4)
  | 0 => fun _ _ _ => none
  | n + 1 => fX4_width_16_b (fX4_width_16 n)
def fX4_width (vM : BX4) (i1 : Int32) : Option (Int32 × BX4) :=
  (fX4_in i1 (10 : Int32) (99 : Int32)).bind (fun y10 => if y10 = 0 then (some ((-1000001), vM)) else (fX4_width_16 FU vM i1 (0 : Int32)))
set_option maxHeartbeats 8000000 in
set_option maxRecDepth 100000 in
theorem mX4_width (l : Launch) (dC : Nat → ClassId) (dI : Nat → Nat → Nat) (cI cJ : ClassId) (aM : Nat → Nat) (sz : Nat) (vM : BX4) (i1 : Int32) (y : (Int32 × BX4)) (hf : fX4_width vM i1 = some y) : Met l yX4_width wsX4_width ({ frames := 1, cells := 0, slots := 0, locals := 22 }) (cPc dC dI cI cJ [.ref (aM 0), .int i1] [k4_0 aM vM, k4_1 cI aM vM, k4_2 cI aM vM, k4_3 cI aM vM, k4_4 cI aM vM, k4_5 cJ aM vM, k4_6 cI aM vM, k4_7 cJ aM vM, k4_8 cJ aM vM, k4_9 cI aM vM] sz) (va_Qi (fun r (_ : Unit) => r = y.1) (fun _ t => cB dC dI (va_A [k4_0 aM vM, k4_1 cI aM vM, k4_2 cI aM vM, k4_3 cI aM vM, k4_4 cI aM vM, k4_5 cJ aM vM, k4_6 cI aM vM, k4_7 cJ aM vM, k4_8 cJ aM vM, k4_9 cI aM vM] sz) [k4_0 aM y.2, k4_1 cI aM y.2, k4_2 cI aM y.2, k4_3 cI aM y.2, k4_4 cI aM y.2, k4_5 cJ aM y.2, k4_6 cI aM y.2, k4_7 cJ aM y.2, k4_8 cJ aM y.2, k4_9 cI aM y.2] t) (va_A [k4_0 aM vM, k4_1 cI aM vM, k4_2 cI aM vM, k4_3 cI aM vM, k4_4 cI aM vM, k4_5 cJ aM vM, k4_6 cI aM vM, k4_7 cJ aM vM, k4_8 cJ aM vM, k4_9 cI aM vM] sz)) 0 0 (va_A [k4_0 aM vM, k4_1 cI aM vM, k4_2 cI aM vM, k4_3 cI aM vM, k4_4 cI aM vM, k4_5 cJ aM vM, k4_6 cI aM vM, k4_7 cJ aM vM, k4_8 cJ aM vM, k4_9 cI aM vM] sz) := by
  refine Met.ofW (cc := cX4_width) (maxL := 3) (ret := (some .int)) (by decide) rfl ?_
  intro p e s m args below meth c s₁ B hml hv
  obtain ⟨rfl, hsz, hP, hK, hD0, hN⟩ := hv
  have hx := B.exec
  have hb := B.bytes
  have hr := B.returns
  have hts := atoms_spec (ws := wsX4_width) B.pre
  have hown : s.vm.findClass RX4 = some m.cls := findClass_of_methodNamed B.named
  have hlocks := B.notSynchronized
  subst hsz
  have hD := hD0.self (sz := s.heap.size)
  generalize hAe : va_A [k4_0 aM vM, k4_1 cI aM vM, k4_2 cI aM vM, k4_3 cI aM vM, k4_4 cI aM vM, k4_5 cJ aM vM, k4_6 cI aM vM, k4_7 cJ aM vM, k4_8 cJ aM vM, k4_9 cI aM vM] s.heap.size = A at hD hN ⊢
  have hA : ∀ q : Nat, s.heap.size ≤ q → A q := fun q h => by rw [← hAe]; exact Or.inr h
  have hP : va_P (dC, dI) vwCl [k4_0 aM vM, k4_1 cI aM vM, k4_2 cI aM vM, k4_3 cI aM vM, k4_4 cI aM vM, k4_5 cJ aM vM, k4_6 cI aM vM, k4_7 cJ aM vM, k4_8 cJ aM vM, k4_9 cI aM vM] s.heap := hP
  have hl := lv_entry ([.ref (aM 0), .int i1]) (n := 3) (Nat.le_of_ble_eq_true rfl)
  rw [lg_entry_eq]
  generalize (lg_sl ([.ref (aM 0), .int i1]) ++ List.replicate (3 - (lg_sl ([.ref (aM 0), .int i1])).length) Slot.unset).toArray = ls at hl ⊢
  have hl : lv_has ls 3 [(0, .ref (aM 0)), (1, .int i1)] := hl
  have hiX4 : ∀ w ∈ u_ws RX4 TX4 21, w ∈ wsX4_width := by decide +kernel
  have hgX4_7 := hts (.fieldLink RX4 7 "SpringPlatesModel" "s" "[I") (by decide +kernel)
  have hc58 := hts (.constant RX4 58 (-1000002)) (by decide +kernel)
  have hc57 := hts (.constant RX4 57 (-1000001)) (by decide +kernel)
  refine nameH (fun H locs hHe hLe => ?_)
  have hP : va_P (dC, dI) vwCl [k4_0 aM vM, k4_1 cI aM vM, k4_2 cI aM vM, k4_3 cI aM vM, k4_4 cI aM vM, k4_5 cJ aM vM, k4_6 cI aM vM, k4_7 cJ aM vM, k4_8 cJ aM vM, k4_9 cI aM vM] H := by rw [hHe]; exact hP
  have hS : va_S A s.heap H locs := by rw [hHe, hLe]; exact va_S.rf
  refine withW (fun WW hWW => ?_)
  have L16 : ∀ (n : Nat) (vM : BX4) (x1 : Int32) (x2 : Int32) (H : Heap) (locs : List Loc) (ls : Array Slot), va_P (dC, dI) vwCl [k4_0 aM vM, k4_1 cI aM vM, k4_2 cI aM vM, k4_3 cI aM vM, k4_4 cI aM vM, k4_5 cJ aM vM, k4_6 cI aM vM, k4_7 cJ aM vM, k4_8 cJ aM vM, k4_9 cI aM vM] H → va_D A [k4_0 aM vM, k4_1 cI aM vM, k4_2 cI aM vM, k4_3 cI aM vM, k4_4 cI aM vM, k4_5 cJ aM vM, k4_6 cI aM vM, k4_7 cJ aM vM, k4_8 cJ aM vM, k4_9 cI aM vM] → va_S A s.heap H locs → lv_has ls 3 [(0, .ref (aM 0)), (1, .int x1), (2, .int x2)] → fX4_width_16 n vM x1 x2 = some y → WW H locs 0 0 ls 16 [] := by
    intro n
    induction n with
    | zero =>
      intro vM x1 x2 H locs ls hP hD hS hl hf
      exact onone hf
    | succ n ih =>
      intro vM x1 x2 H locs ls hP hD hS hl hf
      have hf : fX4_width_16_b (fX4_width_16 n) vM x1 x2 = some y := hf
      generalize fX4_width_16 n = k16 at hf ih
      have hk16 := ih
      clear ih
      unfold fX4_width_16_b at hf
      refine (hWW _ _ _ _ _ _ _).2 ?_
      refine lv_iload_n hx hb dX4_width_16 rfl (lv_at hl 2 rfl) ?_
      refine lv_aload_n hx hb dX4_width_17 rfl (lv_at hl 0 rfl) ?_
      refine va_get (D := (dC, dI)) (ci := 4) (v := .ref (aM 1)) (C := RX4) (T := TX4) (N := 21) hx hb hts hiX4 hown hK hP 0 rfl rfl 0 (by decide) hgX4_7 (fun _ h9 => h9) rfl dX4_width_18 ?_
      refine lv_iconst (v := 1) hx hb dX4_width_21 (by decide) ?_
      refine va_iald hx hb hK hP 1 0 rfl rfl (vpc rfl) dX4_width_22 ?_
      refine lv_icmp_ge (tgt := 61) hx hb dX4_width_23 (by decide) (fun c1 => ?_) (fun c1 => ?_)
      · have hf := oif_t c1 hf
        refine lv_aload_n hx hb dX4_width_61 rfl (lv_at hl 0 rfl) ?_
        obtain ⟨y2, hy2, hf⟩ := obind hf
        refine cg_v (ws := [k4_0 aM vM, k4_1 cI aM vM, k4_2 cI aM vM, k4_3 cI aM vM, k4_4 cI aM vM, k4_5 cJ aM vM, k4_6 cI aM vM, k4_7 cJ aM vM, k4_8 cJ aM vM, k4_9 cI aM vM]) (wc := [k4_0 aM vM, k4_1 cI aM vM, k4_2 cI aM vM, k4_3 cI aM vM, k4_4 cI aM vM, k4_5 cJ aM vM, k4_6 cI aM vM, k4_7 cJ aM vM, k4_8 cJ aM vM, k4_9 cI aM vM]) (wr := []) (w1 := [k4_0 aM y2, k4_1 cI aM y2, k4_2 cI aM y2, k4_3 cI aM y2, k4_4 cI aM y2, k4_5 cJ aM y2, k4_6 cI aM y2, k4_7 cJ aM y2, k4_8 cJ aM y2, k4_9 cI aM y2]) (wo := [k4_0 aM y2, k4_1 cI aM y2, k4_2 cI aM y2, k4_3 cI aM y2, k4_4 cI aM y2, k4_5 cJ aM y2, k4_6 cI aM y2, k4_7 cJ aM y2, k4_8 cJ aM y2, k4_9 cI aM y2]) hP hD hS hA (va_runV (As := []) (rest := []) ⟨hx, hb, hml, hown, hts⟩ (mX4_changes l dC dI cI cJ aM H.size vM y2 hy2) (cwV 0 hts gX4_width_X4_changes rfl rfl rfl (by decide +kernel) ⟨Nat.le_of_ble_eq_true rfl, Nat.le_of_ble_eq_true rfl⟩) ⟨cFB, va_recv hK hP (ci := 4) (q0 := 0) rfl rfl, cPre hK hN hS (va_free (wc := [k4_0 aM vM, k4_1 cI aM vM, k4_2 cI aM vM, k4_3 cI aM vM, k4_4 cI aM vM, k4_5 cJ aM vM, k4_6 cI aM vM, k4_7 cJ aM vM, k4_8 cJ aM vM, k4_9 cI aM vM]) hD hS hA [0, 1, 2, 3, 4, 5, 6, 7, 8, 9] rfl) (hP.sub [0, 1, 2, 3, 4, 5, 6, 7, 8, 9] rfl) (hD.sub [0, 1, 2, 3, 4, 5, 6, 7, 8, 9] rfl rfl)⟩ rfl rfl hl.1 rfl (lv_room (Nat.le_of_ble_eq_true rfl)) dX4_width_62 ⟨Nat.le_of_ble_eq_true rfl, Nat.le_of_ble_eq_true rfl⟩) [0, 1, 2, 3, 4, 5, 6, 7, 8, 9] [] [0, 1, 2, 3, 4, 5, 6, 7, 8, 9] rfl rfl rfl (by decide +kernel) rfl rfl (fun H locs hP hD hS => ?_)
        refine lv_aload_n hx hb dX4_width_65 rfl (lv_at hl 0 rfl) ?_
        refine va_get (D := (dC, dI)) (ci := 4) (v := .ref (aM 1)) (C := RX4) (T := TX4) (N := 21) hx hb hts hiX4 hown hK hP 0 rfl rfl 0 (by decide) hgX4_7 (fun _ h9 => h9) rfl dX4_width_66 ?_
        refine lv_iconst (v := 0) hx hb dX4_width_69 (by decide) ?_
        refine va_iald hx hb hK hP 1 0 rfl rfl (vpc rfl) dX4_width_70 ?_
        obtain ⟨z3, ez3, hf⟩ := elet_out hf
        refine lvn_i ez3 ?_
        refine lv_istore_n (lv' := [(2, .int z3), (0, .ref (aM 0)), (1, .int x1)]) hx hb dX4_width_71 rfl hl (by decide) rfl (fun ls hl => ?_)
        refine lv_aload_n hx hb dX4_width_72 rfl (lv_at hl 1 rfl) ?_
        refine va_get (D := (dC, dI)) (ci := 4) (v := .ref (aM 1)) (C := RX4) (T := TX4) (N := 21) hx hb hts hiX4 hown hK hP 0 rfl rfl 0 (by decide) hgX4_7 (fun _ h9 => h9) rfl dX4_width_73 ?_
        refine lv_iconst (v := 0) hx hb dX4_width_76 (by decide) ?_
        refine lv_iload_n hx hb dX4_width_77 rfl (lv_at hl 2 rfl) ?_
        obtain ⟨b4, eb4, hf⟩ := elet_out hf
        refine va_iast hx hb hK hP hD hS 1 0 rfl rfl (vpc rfl) dX4_width_78 (fun H locs hP hD hS => ?_)
        have hP : va_P (dC, dI) vwCl [k4_0 aM b4, k4_1 cI aM b4, k4_2 cI aM b4, k4_3 cI aM b4, k4_4 cI aM b4, k4_5 cJ aM b4, k4_6 cI aM b4, k4_7 cJ aM b4, k4_8 cJ aM b4, k4_9 cI aM b4] H := by rw [eb4]; exact hP
        have hD : va_D A [k4_0 aM b4, k4_1 cI aM b4, k4_2 cI aM b4, k4_3 cI aM b4, k4_4 cI aM b4, k4_5 cJ aM b4, k4_6 cI aM b4, k4_7 cJ aM b4, k4_8 cJ aM b4, k4_9 cI aM b4] := by rw [eb4]; exact hD
        refine lv_iload_n hx hb dX4_width_79 rfl (lv_at hl 0 rfl) ?_
        obtain rfl := Option.some.inj hf
        exact W.iret (v := z3) hx hb hr (fun t ht hW => ⟨⟨z3, (), rfl, rfl, by rw [ht]; exact hP, hD⟩, hS.F ht⟩) hS.2.2 dX4_width_80
      · have hf := oif_f c1 hf
        refine lv_aload_n hx hb dX4_width_26 rfl (lv_at hl 0 rfl) ?_
        refine va_get (D := (dC, dI)) (ci := 4) (v := .ref (aM 1)) (C := RX4) (T := TX4) (N := 21) hx hb hts hiX4 hown hK hP 0 rfl rfl 0 (by decide) hgX4_7 (fun _ h9 => h9) rfl dX4_width_27 ?_
        refine lv_bipush (v := 16) hx hb dX4_width_30 (by decide) ?_
        refine lv_iload_n hx hb dX4_width_32 rfl (lv_at hl 2 rfl) ?_
        refine lv_iadd hx hb dX4_width_33 ?_
        obtain ⟨hi5, hf⟩ := oinb rfl hf
        refine va_iald hx hb hK hP 1 0 rfl rfl hi5 dX4_width_34 ?_
        refine lv_iload_n hx hb dX4_width_35 rfl (lv_at hl 1 rfl) ?_
        refine lv_icmp_gt (tgt := 52) hx hb dX4_width_36 (by decide) (fun c6 => ?_) (fun c6 => ?_)
        · have hf := oif_t c6 hf
          refine lv_ldc (v := (-1000002)) hx hb hown hc58 dX4_width_52 ?_
          obtain rfl := Option.some.inj hf
          exact W.iret (v := (-1000002)) hx hb hr (fun t ht hW => ⟨⟨(-1000002), (), rfl, rfl, by rw [ht]; exact hP, hD⟩, hS.F ht⟩) hS.2.2 dX4_width_54
        · have hf := oif_f c6 hf
          refine lv_aload_n hx hb dX4_width_39 rfl (lv_at hl 0 rfl) ?_
          refine va_get (D := (dC, dI)) (ci := 4) (v := .ref (aM 1)) (C := RX4) (T := TX4) (N := 21) hx hb hts hiX4 hown hK hP 0 rfl rfl 0 (by decide) hgX4_7 (fun _ h9 => h9) rfl dX4_width_40 ?_
          refine lv_bipush (v := 20) hx hb dX4_width_43 (by decide) ?_
          refine lv_iload_n hx hb dX4_width_45 rfl (lv_at hl 2 rfl) ?_
          refine lv_iadd hx hb dX4_width_46 ?_
          obtain ⟨hi7, hf⟩ := oinb rfl hf
          refine va_iald hx hb hK hP 1 0 rfl rfl hi7 dX4_width_47 ?_
          refine lv_iload_n hx hb dX4_width_48 rfl (lv_at hl 1 rfl) ?_
          refine lv_icmp_le (tgt := 55) hx hb dX4_width_49 (by decide) (fun c8 => ?_) (fun c8 => ?_)
          · have hf := oif_t c8 hf
            obtain ⟨z9, ez9, hf⟩ := elet_out hf
            refine lv_iinc (v := z9) (lv' := [(2, .int z9), (0, .ref (aM 0)), (1, .int x1)]) hx hb dX4_width_55 hl (k := 2) rfl (by rw [ez9]; rfl) (by decide) rfl (fun ls hl => ?_)
            refine lv_goto (tgt := 16) hx hb dX4_width_58 (by decide) ?_
            exact (hWW _ _ _ _ _ _ _).1 (hk16 vM x1 z9 H locs ls hP hD hS (lv_sub hl [1, 2, 0] rfl) hf)
          · have hf := oif_f c8 hf
            refine lv_ldc (v := (-1000002)) hx hb hown hc58 dX4_width_52 ?_
            obtain rfl := Option.some.inj hf
            exact W.iret (v := (-1000002)) hx hb hr (fun t ht hW => ⟨⟨(-1000002), (), rfl, rfl, by rw [ht]; exact hP, hD⟩, hS.F ht⟩) hS.2.2 dX4_width_54
  refine (hWW _ _ _ _ _ _ _).2 ?_
  unfold fX4_width at hf
  refine lv_iload_n hx hb dX4_width_0 rfl (lv_at hl 1 rfl) ?_
  refine lv_bipush (v := 10) hx hb dX4_width_1 (by decide) ?_
  refine lv_bipush (v := 99) hx hb dX4_width_3 (by decide) ?_
  obtain ⟨y10, hy10, hf⟩ := obind hf
  refine cg_i (ws := [k4_0 aM vM, k4_1 cI aM vM, k4_2 cI aM vM, k4_3 cI aM vM, k4_4 cI aM vM, k4_5 cJ aM vM, k4_6 cI aM vM, k4_7 cJ aM vM, k4_8 cJ aM vM, k4_9 cI aM vM]) (wc := []) (wr := [k4_0 aM vM, k4_1 cI aM vM, k4_2 cI aM vM, k4_3 cI aM vM, k4_4 cI aM vM, k4_5 cJ aM vM, k4_6 cI aM vM, k4_7 cJ aM vM, k4_8 cJ aM vM, k4_9 cI aM vM]) (w1 := []) (wo := [k4_0 aM vM, k4_1 cI aM vM, k4_2 cI aM vM, k4_3 cI aM vM, k4_4 cI aM vM, k4_5 cJ aM vM, k4_6 cI aM vM, k4_7 cJ aM vM, k4_8 cJ aM vM, k4_9 cI aM vM]) hP hD hS hA (va_runS (As := [.int i1, .int 10, .int 99]) (rest := []) ⟨hx, hb, hml, hown, hts⟩ (mX4_in l dC dI cI cJ  H.size i1 (10 : Int32) (99 : Int32) y10 hy10) (va_cwS 3 hts gX4_width_X4_in rfl rfl rfl (by decide +kernel) ⟨Nat.le_of_ble_eq_true rfl, Nat.le_of_ble_eq_true rfl⟩) ⟨cFB, cPre hK hN hS (va_free (wc := []) hD hS hA [] rfl) (hP.sub [] rfl) (hD.sub [] rfl rfl)⟩ rfl rfl hl.1 rfl (lv_room (Nat.le_of_ble_eq_true rfl)) dX4_width_5 ⟨Nat.le_of_ble_eq_true rfl, Nat.le_of_ble_eq_true rfl⟩) [] [0, 1, 2, 3, 4, 5, 6, 7, 8, 9] [0, 1, 2, 3, 4, 5, 6, 7, 8, 9] rfl rfl rfl (by decide +kernel) rfl rfl (fun H locs hP hD hS => ?_)
  refine lv_if_ne (tgt := 14) hx hb dX4_width_8 (by decide) (fun c11 => ?_) (fun c11 => ?_)
  · have hf := oif_f c11 hf
    refine lv_iconst (v := 0) hx hb dX4_width_14 (by decide) ?_
    refine lv_istore_n (lv' := [(2, .int 0), (0, .ref (aM 0)), (1, .int i1)]) hx hb dX4_width_15 rfl hl (by decide) rfl (fun ls hl => ?_)
    exact (hWW _ _ _ _ _ _ _).1 (L16 FU vM i1 (0 : Int32) H locs ls hP hD hS (lv_sub hl [1, 2, 0] rfl) hf)
  · have hf := oif_t c11 hf
    refine lv_ldc (v := (-1000001)) hx hb hown hc57 dX4_width_11 ?_
    obtain rfl := Option.some.inj hf
    exact W.iret (v := (-1000001)) hx hb hr (fun t ht hW => ⟨⟨(-1000001), (), rfl, rfl, by rw [ht]; exact hP, hD⟩, hS.F ht⟩) hS.2.2 dX4_width_13
def fX4_plate (vM : BX4) : Option (Int32 × BX4) :=
  elet ((p4_s vM) ((1 : Int32)).toNatClampNeg) (fun z1 => if z1 = (4 : Int32) then (some ((-1000003), vM)) else ((fX4_changes vM).bind (fun y3 => elet (s4_s y3 (upd (p4_s y3) ((1 : Int32)).toNatClampNeg (((p4_s y3) ((1 : Int32)).toNatClampNeg) + (1 : Int32)))) (fun b4 => if inB (((2 : Int32) + z1) + (1 : Int32)) 24 = true then (elet (s4_s b4 (upd (p4_s b4) ((((2 : Int32) + z1) + (1 : Int32))).toNatClampNeg 1)) (fun b6 => if inB (((7 : Int32) + z1) + (1 : Int32)) 24 = true then (elet (s4_s b6 (upd (p4_s b6) ((((7 : Int32) + z1) + (1 : Int32))).toNatClampNeg 10)) (fun b8 => if inB ((12 : Int32) + z1) 24 = true then (elet (s4_s b8 (upd (p4_s b8) (((12 : Int32) + z1)).toNatClampNeg 0)) (fun b10 => if inB ((16 : Int32) + z1) 24 = true then (elet (s4_s b10 (upd (p4_s b10) (((16 : Int32) + z1)).toNatClampNeg (-1))) (fun b12 => if inB ((20 : Int32) + z1) 24 = true then (elet (s4_s b12 (upd (p4_s b12) (((20 : Int32) + z1)).toNatClampNeg (-1))) (fun b14 => some (z1, b14))) else none)) else none)) else none)) else none)) else none))))
set_option maxHeartbeats 8000000 in
set_option maxRecDepth 100000 in
theorem mX4_plate (l : Launch) (dC : Nat → ClassId) (dI : Nat → Nat → Nat) (cI cJ : ClassId) (aM : Nat → Nat) (sz : Nat) (vM : BX4) (y : (Int32 × BX4)) (hf : fX4_plate vM = some y) : Met l yX4_plate wsX4_plate ({ frames := 1, cells := 0, slots := 0, locals := 21 }) (cPc dC dI cI cJ [.ref (aM 0)] [k4_0 aM vM, k4_1 cI aM vM, k4_2 cI aM vM, k4_3 cI aM vM, k4_4 cI aM vM, k4_5 cJ aM vM, k4_6 cI aM vM, k4_7 cJ aM vM, k4_8 cJ aM vM, k4_9 cI aM vM] sz) (va_Qi (fun r (_ : Unit) => r = y.1) (fun _ t => cB dC dI (va_A [k4_0 aM vM, k4_1 cI aM vM, k4_2 cI aM vM, k4_3 cI aM vM, k4_4 cI aM vM, k4_5 cJ aM vM, k4_6 cI aM vM, k4_7 cJ aM vM, k4_8 cJ aM vM, k4_9 cI aM vM] sz) [k4_0 aM y.2, k4_1 cI aM y.2, k4_2 cI aM y.2, k4_3 cI aM y.2, k4_4 cI aM y.2, k4_5 cJ aM y.2, k4_6 cI aM y.2, k4_7 cJ aM y.2, k4_8 cJ aM y.2, k4_9 cI aM y.2] t) (va_A [k4_0 aM vM, k4_1 cI aM vM, k4_2 cI aM vM, k4_3 cI aM vM, k4_4 cI aM vM, k4_5 cJ aM vM, k4_6 cI aM vM, k4_7 cJ aM vM, k4_8 cJ aM vM, k4_9 cI aM vM] sz)) 0 0 (va_A [k4_0 aM vM, k4_1 cI aM vM, k4_2 cI aM vM, k4_3 cI aM vM, k4_4 cI aM vM, k4_5 cJ aM vM, k4_6 cI aM vM, k4_7 cJ aM vM, k4_8 cJ aM vM, k4_9 cI aM vM] sz) := by
  refine Met.ofW (cc := cX4_plate) (maxL := 2) (ret := (some .int)) (by decide) rfl ?_
  intro p e s m args below meth c s₁ B hml hv
  obtain ⟨rfl, hsz, hP, hK, hD0, hN⟩ := hv
  have hx := B.exec
  have hb := B.bytes
  have hr := B.returns
  have hts := atoms_spec (ws := wsX4_plate) B.pre
  have hown : s.vm.findClass RX4 = some m.cls := findClass_of_methodNamed B.named
  have hlocks := B.notSynchronized
  subst hsz
  have hD := hD0.self (sz := s.heap.size)
  generalize hAe : va_A [k4_0 aM vM, k4_1 cI aM vM, k4_2 cI aM vM, k4_3 cI aM vM, k4_4 cI aM vM, k4_5 cJ aM vM, k4_6 cI aM vM, k4_7 cJ aM vM, k4_8 cJ aM vM, k4_9 cI aM vM] s.heap.size = A at hD hN ⊢
  have hA : ∀ q : Nat, s.heap.size ≤ q → A q := fun q h => by rw [← hAe]; exact Or.inr h
  have hP : va_P (dC, dI) vwCl [k4_0 aM vM, k4_1 cI aM vM, k4_2 cI aM vM, k4_3 cI aM vM, k4_4 cI aM vM, k4_5 cJ aM vM, k4_6 cI aM vM, k4_7 cJ aM vM, k4_8 cJ aM vM, k4_9 cI aM vM] s.heap := hP
  have hl := lv_entry ([.ref (aM 0)]) (n := 2) (Nat.le_of_ble_eq_true rfl)
  rw [lg_entry_eq]
  generalize (lg_sl ([.ref (aM 0)]) ++ List.replicate (2 - (lg_sl ([.ref (aM 0)])).length) Slot.unset).toArray = ls at hl ⊢
  have hl : lv_has ls 2 [(0, .ref (aM 0))] := hl
  have hiX4 : ∀ w ∈ u_ws RX4 TX4 21, w ∈ wsX4_plate := by decide +kernel
  have hgX4_7 := hts (.fieldLink RX4 7 "SpringPlatesModel" "s" "[I") (by decide +kernel)
  have hc62 := hts (.constant RX4 62 (-1000003)) (by decide +kernel)
  refine nameH (fun H locs hHe hLe => ?_)
  have hP : va_P (dC, dI) vwCl [k4_0 aM vM, k4_1 cI aM vM, k4_2 cI aM vM, k4_3 cI aM vM, k4_4 cI aM vM, k4_5 cJ aM vM, k4_6 cI aM vM, k4_7 cJ aM vM, k4_8 cJ aM vM, k4_9 cI aM vM] H := by rw [hHe]; exact hP
  have hS : va_S A s.heap H locs := by rw [hHe, hLe]; exact va_S.rf
  unfold fX4_plate at hf
  refine lv_aload_n hx hb dX4_plate_0 rfl (lv_at hl 0 rfl) ?_
  refine va_get (D := (dC, dI)) (ci := 4) (v := .ref (aM 1)) (C := RX4) (T := TX4) (N := 21) hx hb hts hiX4 hown hK hP 0 rfl rfl 0 (by decide) hgX4_7 (fun _ h9 => h9) rfl dX4_plate_1 ?_
  refine lv_iconst (v := 1) hx hb dX4_plate_4 (by decide) ?_
  refine va_iald hx hb hK hP 1 0 rfl rfl (vpc rfl) dX4_plate_5 ?_
  obtain ⟨z1, ez1, hf⟩ := elet_out hf
  refine lvn_i ez1 ?_
  refine lv_istore_n (lv' := [(1, .int z1), (0, .ref (aM 0))]) hx hb dX4_plate_6 rfl hl (by decide) rfl (fun ls hl => ?_)
  refine lv_iload_n hx hb dX4_plate_7 rfl (lv_at hl 0 rfl) ?_
  refine lv_iconst (v := 4) hx hb dX4_plate_8 (by decide) ?_
  refine lv_icmp_ne (tgt := 15) hx hb dX4_plate_9 (by decide) (fun c2 => ?_) (fun c2 => ?_)
  · have hf := oif_f c2 hf
    refine lv_aload_n hx hb dX4_plate_15 rfl (lv_at hl 1 rfl) ?_
    obtain ⟨y3, hy3, hf⟩ := obind hf
    refine cg_v (ws := [k4_0 aM vM, k4_1 cI aM vM, k4_2 cI aM vM, k4_3 cI aM vM, k4_4 cI aM vM, k4_5 cJ aM vM, k4_6 cI aM vM, k4_7 cJ aM vM, k4_8 cJ aM vM, k4_9 cI aM vM]) (wc := [k4_0 aM vM, k4_1 cI aM vM, k4_2 cI aM vM, k4_3 cI aM vM, k4_4 cI aM vM, k4_5 cJ aM vM, k4_6 cI aM vM, k4_7 cJ aM vM, k4_8 cJ aM vM, k4_9 cI aM vM]) (wr := []) (w1 := [k4_0 aM y3, k4_1 cI aM y3, k4_2 cI aM y3, k4_3 cI aM y3, k4_4 cI aM y3, k4_5 cJ aM y3, k4_6 cI aM y3, k4_7 cJ aM y3, k4_8 cJ aM y3, k4_9 cI aM y3]) (wo := [k4_0 aM y3, k4_1 cI aM y3, k4_2 cI aM y3, k4_3 cI aM y3, k4_4 cI aM y3, k4_5 cJ aM y3, k4_6 cI aM y3, k4_7 cJ aM y3, k4_8 cJ aM y3, k4_9 cI aM y3]) hP hD hS hA (va_runV (As := []) (rest := []) ⟨hx, hb, hml, hown, hts⟩ (mX4_changes l dC dI cI cJ aM H.size vM y3 hy3) (cwV 0 hts gX4_plate_X4_changes rfl rfl rfl (by decide +kernel) ⟨Nat.le_of_ble_eq_true rfl, Nat.le_of_ble_eq_true rfl⟩) ⟨cFB, va_recv hK hP (ci := 4) (q0 := 0) rfl rfl, cPre hK hN hS (va_free (wc := [k4_0 aM vM, k4_1 cI aM vM, k4_2 cI aM vM, k4_3 cI aM vM, k4_4 cI aM vM, k4_5 cJ aM vM, k4_6 cI aM vM, k4_7 cJ aM vM, k4_8 cJ aM vM, k4_9 cI aM vM]) hD hS hA [0, 1, 2, 3, 4, 5, 6, 7, 8, 9] rfl) (hP.sub [0, 1, 2, 3, 4, 5, 6, 7, 8, 9] rfl) (hD.sub [0, 1, 2, 3, 4, 5, 6, 7, 8, 9] rfl rfl)⟩ rfl rfl hl.1 rfl (lv_room (Nat.le_of_ble_eq_true rfl)) dX4_plate_16 ⟨Nat.le_of_ble_eq_true rfl, Nat.le_of_ble_eq_true rfl⟩) [0, 1, 2, 3, 4, 5, 6, 7, 8, 9] [] [0, 1, 2, 3, 4, 5, 6, 7, 8, 9] rfl rfl rfl (by decide +kernel) rfl rfl (fun H locs hP hD hS => ?_)
    refine lv_aload_n hx hb dX4_plate_19 rfl (lv_at hl 1 rfl) ?_
    refine va_get (D := (dC, dI)) (ci := 4) (v := .ref (aM 1)) (C := RX4) (T := TX4) (N := 21) hx hb hts hiX4 hown hK hP 0 rfl rfl 0 (by decide) hgX4_7 (fun _ h9 => h9) rfl dX4_plate_20 ?_
    refine lv_iconst (v := 1) hx hb dX4_plate_23 (by decide) ?_
    refine lv_dup2_11 hx hb dX4_plate_24 rfl rfl ?_
    refine va_iald hx hb hK hP 1 0 rfl rfl (vpc rfl) dX4_plate_25 ?_
    refine lv_iconst (v := 1) hx hb dX4_plate_26 (by decide) ?_
    refine lv_iadd hx hb dX4_plate_27 ?_
    obtain ⟨b4, eb4, hf⟩ := elet_out hf
    refine va_iast hx hb hK hP hD hS 1 0 rfl rfl (vpc rfl) dX4_plate_28 (fun H locs hP hD hS => ?_)
    have hP : va_P (dC, dI) vwCl [k4_0 aM b4, k4_1 cI aM b4, k4_2 cI aM b4, k4_3 cI aM b4, k4_4 cI aM b4, k4_5 cJ aM b4, k4_6 cI aM b4, k4_7 cJ aM b4, k4_8 cJ aM b4, k4_9 cI aM b4] H := by rw [eb4]; exact hP
    have hD : va_D A [k4_0 aM b4, k4_1 cI aM b4, k4_2 cI aM b4, k4_3 cI aM b4, k4_4 cI aM b4, k4_5 cJ aM b4, k4_6 cI aM b4, k4_7 cJ aM b4, k4_8 cJ aM b4, k4_9 cI aM b4] := by rw [eb4]; exact hD
    refine lv_aload_n hx hb dX4_plate_29 rfl (lv_at hl 1 rfl) ?_
    refine va_get (D := (dC, dI)) (ci := 4) (v := .ref (aM 1)) (C := RX4) (T := TX4) (N := 21) hx hb hts hiX4 hown hK hP 0 rfl rfl 0 (by decide) hgX4_7 (fun _ h9 => h9) rfl dX4_plate_30 ?_
    refine lv_iconst (v := 2) hx hb dX4_plate_33 (by decide) ?_
    refine lv_iload_n hx hb dX4_plate_34 rfl (lv_at hl 0 rfl) ?_
    refine lv_iadd hx hb dX4_plate_35 ?_
    refine lv_iconst (v := 1) hx hb dX4_plate_36 (by decide) ?_
    refine lv_iadd hx hb dX4_plate_37 ?_
    refine lv_iconst (v := 1) hx hb dX4_plate_38 (by decide) ?_
    obtain ⟨hi5, hf⟩ := oinb rfl hf
    obtain ⟨b6, eb6, hf⟩ := elet_out hf
    refine va_iast hx hb hK hP hD hS 1 0 rfl rfl hi5 dX4_plate_39 (fun H locs hP hD hS => ?_)
    have hP : va_P (dC, dI) vwCl [k4_0 aM b6, k4_1 cI aM b6, k4_2 cI aM b6, k4_3 cI aM b6, k4_4 cI aM b6, k4_5 cJ aM b6, k4_6 cI aM b6, k4_7 cJ aM b6, k4_8 cJ aM b6, k4_9 cI aM b6] H := by rw [eb6]; exact hP
    have hD : va_D A [k4_0 aM b6, k4_1 cI aM b6, k4_2 cI aM b6, k4_3 cI aM b6, k4_4 cI aM b6, k4_5 cJ aM b6, k4_6 cI aM b6, k4_7 cJ aM b6, k4_8 cJ aM b6, k4_9 cI aM b6] := by rw [eb6]; exact hD
    refine lv_aload_n hx hb dX4_plate_40 rfl (lv_at hl 1 rfl) ?_
    refine va_get (D := (dC, dI)) (ci := 4) (v := .ref (aM 1)) (C := RX4) (T := TX4) (N := 21) hx hb hts hiX4 hown hK hP 0 rfl rfl 0 (by decide) hgX4_7 (fun _ h9 => h9) rfl dX4_plate_41 ?_
    refine lv_bipush (v := 7) hx hb dX4_plate_44 (by decide) ?_
    refine lv_iload_n hx hb dX4_plate_46 rfl (lv_at hl 0 rfl) ?_
    refine lv_iadd hx hb dX4_plate_47 ?_
    refine lv_iconst (v := 1) hx hb dX4_plate_48 (by decide) ?_
    refine lv_iadd hx hb dX4_plate_49 ?_
    refine lv_bipush (v := 10) hx hb dX4_plate_50 (by decide) ?_
    obtain ⟨hi7, hf⟩ := oinb rfl hf
    obtain ⟨b8, eb8, hf⟩ := elet_out hf
    refine va_iast hx hb hK hP hD hS 1 0 rfl rfl hi7 dX4_plate_52 (fun H locs hP hD hS => ?_)
    have hP : va_P (dC, dI) vwCl [k4_0 aM b8, k4_1 cI aM b8, k4_2 cI aM b8, k4_3 cI aM b8, k4_4 cI aM b8, k4_5 cJ aM b8, k4_6 cI aM b8, k4_7 cJ aM b8, k4_8 cJ aM b8, k4_9 cI aM b8] H := by rw [eb8]; exact hP
    have hD : va_D A [k4_0 aM b8, k4_1 cI aM b8, k4_2 cI aM b8, k4_3 cI aM b8, k4_4 cI aM b8, k4_5 cJ aM b8, k4_6 cI aM b8, k4_7 cJ aM b8, k4_8 cJ aM b8, k4_9 cI aM b8] := by rw [eb8]; exact hD
    refine lv_aload_n hx hb dX4_plate_53 rfl (lv_at hl 1 rfl) ?_
    refine va_get (D := (dC, dI)) (ci := 4) (v := .ref (aM 1)) (C := RX4) (T := TX4) (N := 21) hx hb hts hiX4 hown hK hP 0 rfl rfl 0 (by decide) hgX4_7 (fun _ h9 => h9) rfl dX4_plate_54 ?_
    refine lv_bipush (v := 12) hx hb dX4_plate_57 (by decide) ?_
    refine lv_iload_n hx hb dX4_plate_59 rfl (lv_at hl 0 rfl) ?_
    refine lv_iadd hx hb dX4_plate_60 ?_
    refine lv_iconst (v := 0) hx hb dX4_plate_61 (by decide) ?_
    obtain ⟨hi9, hf⟩ := oinb rfl hf
    obtain ⟨b10, eb10, hf⟩ := elet_out hf
    refine va_iast hx hb hK hP hD hS 1 0 rfl rfl hi9 dX4_plate_62 (fun H locs hP hD hS => ?_)
    have hP : va_P (dC, dI) vwCl [k4_0 aM b10, k4_1 cI aM b10, k4_2 cI aM b10, k4_3 cI aM b10, k4_4 cI aM b10, k4_5 cJ aM b10, k4_6 cI aM b10, k4_7 cJ aM b10, k4_8 cJ aM b10, k4_9 cI aM b10] H := by rw [eb10]; exact hP
    have hD : va_D A [k4_0 aM b10, k4_1 cI aM b10, k4_2 cI aM b10, k4_3 cI aM b10, k4_4 cI aM b10, k4_5 cJ aM b10, k4_6 cI aM b10, k4_7 cJ aM b10, k4_8 cJ aM b10, k4_9 cI aM b10] := by rw [eb10]; exact hD
    refine lv_aload_n hx hb dX4_plate_63 rfl (lv_at hl 1 rfl) ?_
    refine va_get (D := (dC, dI)) (ci := 4) (v := .ref (aM 1)) (C := RX4) (T := TX4) (N := 21) hx hb hts hiX4 hown hK hP 0 rfl rfl 0 (by decide) hgX4_7 (fun _ h9 => h9) rfl dX4_plate_64 ?_
    refine lv_bipush (v := 16) hx hb dX4_plate_67 (by decide) ?_
    refine lv_iload_n hx hb dX4_plate_69 rfl (lv_at hl 0 rfl) ?_
    refine lv_iadd hx hb dX4_plate_70 ?_
    refine lv_iconst (v := (-1)) hx hb dX4_plate_71 (by decide) ?_
    obtain ⟨hi11, hf⟩ := oinb rfl hf
    obtain ⟨b12, eb12, hf⟩ := elet_out hf
    refine va_iast hx hb hK hP hD hS 1 0 rfl rfl hi11 dX4_plate_72 (fun H locs hP hD hS => ?_)
    have hP : va_P (dC, dI) vwCl [k4_0 aM b12, k4_1 cI aM b12, k4_2 cI aM b12, k4_3 cI aM b12, k4_4 cI aM b12, k4_5 cJ aM b12, k4_6 cI aM b12, k4_7 cJ aM b12, k4_8 cJ aM b12, k4_9 cI aM b12] H := by rw [eb12]; exact hP
    have hD : va_D A [k4_0 aM b12, k4_1 cI aM b12, k4_2 cI aM b12, k4_3 cI aM b12, k4_4 cI aM b12, k4_5 cJ aM b12, k4_6 cI aM b12, k4_7 cJ aM b12, k4_8 cJ aM b12, k4_9 cI aM b12] := by rw [eb12]; exact hD
    refine lv_aload_n hx hb dX4_plate_73 rfl (lv_at hl 1 rfl) ?_
    refine va_get (D := (dC, dI)) (ci := 4) (v := .ref (aM 1)) (C := RX4) (T := TX4) (N := 21) hx hb hts hiX4 hown hK hP 0 rfl rfl 0 (by decide) hgX4_7 (fun _ h9 => h9) rfl dX4_plate_74 ?_
    refine lv_bipush (v := 20) hx hb dX4_plate_77 (by decide) ?_
    refine lv_iload_n hx hb dX4_plate_79 rfl (lv_at hl 0 rfl) ?_
    refine lv_iadd hx hb dX4_plate_80 ?_
    refine lv_iconst (v := (-1)) hx hb dX4_plate_81 (by decide) ?_
    obtain ⟨hi13, hf⟩ := oinb rfl hf
    obtain ⟨b14, eb14, hf⟩ := elet_out hf
    refine va_iast hx hb hK hP hD hS 1 0 rfl rfl hi13 dX4_plate_82 (fun H locs hP hD hS => ?_)
    have hP : va_P (dC, dI) vwCl [k4_0 aM b14, k4_1 cI aM b14, k4_2 cI aM b14, k4_3 cI aM b14, k4_4 cI aM b14, k4_5 cJ aM b14, k4_6 cI aM b14, k4_7 cJ aM b14, k4_8 cJ aM b14, k4_9 cI aM b14] H := by rw [eb14]; exact hP
    have hD : va_D A [k4_0 aM b14, k4_1 cI aM b14, k4_2 cI aM b14, k4_3 cI aM b14, k4_4 cI aM b14, k4_5 cJ aM b14, k4_6 cI aM b14, k4_7 cJ aM b14, k4_8 cJ aM b14, k4_9 cI aM b14] := by rw [eb14]; exact hD
    refine lv_iload_n hx hb dX4_plate_83 rfl (lv_at hl 0 rfl) ?_
    obtain rfl := Option.some.inj hf
    exact W.iret (v := z1) hx hb hr (fun t ht hW => ⟨⟨z1, (), rfl, rfl, by rw [ht]; exact hP, hD⟩, hS.F ht⟩) hS.2.2 dX4_plate_84
  · have hf := oif_t c2 hf
    refine lv_ldc (v := (-1000003)) hx hb hown hc62 dX4_plate_12 ?_
    obtain rfl := Option.some.inj hf
    exact W.iret (v := (-1000003)) hx hb hr (fun t ht hW => ⟨⟨(-1000003), (), rfl, rfl, by rw [ht]; exact hP, hD⟩, hS.F ht⟩) hS.2.2 dX4_plate_14
def fX4_drop_27_b (k27 : BX4 → Int32 → Option (Int32 × BX4)) (vM : BX4) (x2 : Int32) : Option (Int32 × BX4) :=
  if ((p4_s vM) ((1 : Int32)).toNatClampNeg) ≤ x2 then (some (((p4_s vM) ((1 : Int32)).toNatClampNeg), vM)) else (if inB (((2 : Int32) + x2) + (2 : Int32)) 24 = true then (if inB (((2 : Int32) + x2) + (1 : Int32)) 24 = true then (elet (s4_s vM (upd (p4_s vM) ((((2 : Int32) + x2) + (1 : Int32))).toNatClampNeg ((p4_s vM) ((((2 : Int32) + x2) + (2 : Int32))).toNatClampNeg))) (fun b4 => if inB (((7 : Int32) + x2) + (2 : Int32)) 24 = true then (if inB (((7 : Int32) + x2) + (1 : Int32)) 24 = true then (elet (s4_s b4 (upd (p4_s b4) ((((7 : Int32) + x2) + (1 : Int32))).toNatClampNeg ((p4_s b4) ((((7 : Int32) + x2) + (2 : Int32))).toNatClampNeg))) (fun b7 => if inB (((12 : Int32) + x2) + (1 : Int32)) 24 = true then (if inB ((12 : Int32) + x2) 24 = true then (elet (s4_s b7 (upd (p4_s b7) (((12 : Int32) + x2)).toNatClampNeg ((p4_s b7) ((((12 : Int32) + x2) + (1 : Int32))).toNatClampNeg))) (fun b10 => if inB (((16 : Int32) + x2) + (1 : Int32)) 24 = true then (if inB ((16 : Int32) + x2) 24 = true then (elet (s4_s b10 (upd (p4_s b10) (((16 : Int32) + x2)).toNatClampNeg ((p4_s b10) ((((16 : Int32) + x2) + (1 : Int32))).toNatClampNeg))) (fun b13 => if inB (((20 : Int32) + x2) + (1 : Int32)) 24 = true then (if inB ((20 : Int32) + x2) 24 = true then (elet (s4_s b13 (upd (p4_s b13) (((20 : Int32) + x2)).toNatClampNeg ((p4_s b13) ((((20 : Int32) + x2) + (1 : Int32))).toNatClampNeg))) (fun b16 => elet (x2 + 1) (fun z17 => k27 b16 z17))) else none) else none)) else none) else none)) else none) else none)) else none) else none)) else none) else none)
def fX4_drop_27 : Nat → BX4 → Int32 → Option (Int32 × BX4)
  | 0 => fun _ _ => none
  | n + 1 => fX4_drop_27_b (fX4_drop_27 n)
def fX4_drop (vM : BX4) (i1 : Int32) : Option (Int32 × BX4) :=
  (fX4_isPlate vM i1).bind (fun y18 => if y18 = 0 then (some ((-1000001), vM)) else ((fX4_changes vM).bind (fun y20 => elet (s4_s y20 (upd (p4_s y20) ((1 : Int32)).toNatClampNeg (((p4_s y20) ((1 : Int32)).toNatClampNeg) - (1 : Int32)))) (fun b21 => fX4_drop_27 FU b21 i1))))
set_option maxHeartbeats 8000000 in
set_option maxRecDepth 100000 in
theorem mX4_drop (l : Launch) (dC : Nat → ClassId) (dI : Nat → Nat → Nat) (cI cJ : ClassId) (aM : Nat → Nat) (sz : Nat) (vM : BX4) (i1 : Int32) (y : (Int32 × BX4)) (hf : fX4_drop vM i1 = some y) : Met l yX4_drop wsX4_drop ({ frames := 1, cells := 0, slots := 0, locals := 21 }) (cPc dC dI cI cJ [.ref (aM 0), .int i1] [k4_0 aM vM, k4_1 cI aM vM, k4_2 cI aM vM, k4_3 cI aM vM, k4_4 cI aM vM, k4_5 cJ aM vM, k4_6 cI aM vM, k4_7 cJ aM vM, k4_8 cJ aM vM, k4_9 cI aM vM] sz) (va_Qi (fun r (_ : Unit) => r = y.1) (fun _ t => cB dC dI (va_A [k4_0 aM vM, k4_1 cI aM vM, k4_2 cI aM vM, k4_3 cI aM vM, k4_4 cI aM vM, k4_5 cJ aM vM, k4_6 cI aM vM, k4_7 cJ aM vM, k4_8 cJ aM vM, k4_9 cI aM vM] sz) [k4_0 aM y.2, k4_1 cI aM y.2, k4_2 cI aM y.2, k4_3 cI aM y.2, k4_4 cI aM y.2, k4_5 cJ aM y.2, k4_6 cI aM y.2, k4_7 cJ aM y.2, k4_8 cJ aM y.2, k4_9 cI aM y.2] t) (va_A [k4_0 aM vM, k4_1 cI aM vM, k4_2 cI aM vM, k4_3 cI aM vM, k4_4 cI aM vM, k4_5 cJ aM vM, k4_6 cI aM vM, k4_7 cJ aM vM, k4_8 cJ aM vM, k4_9 cI aM vM] sz)) 0 0 (va_A [k4_0 aM vM, k4_1 cI aM vM, k4_2 cI aM vM, k4_3 cI aM vM, k4_4 cI aM vM, k4_5 cJ aM vM, k4_6 cI aM vM, k4_7 cJ aM vM, k4_8 cJ aM vM, k4_9 cI aM vM] sz) := by
  refine Met.ofW (cc := cX4_drop) (maxL := 3) (ret := (some .int)) (by decide) rfl ?_
  intro p e s m args below meth c s₁ B hml hv
  obtain ⟨rfl, hsz, hP, hK, hD0, hN⟩ := hv
  have hx := B.exec
  have hb := B.bytes
  have hr := B.returns
  have hts := atoms_spec (ws := wsX4_drop) B.pre
  have hown : s.vm.findClass RX4 = some m.cls := findClass_of_methodNamed B.named
  have hlocks := B.notSynchronized
  subst hsz
  have hD := hD0.self (sz := s.heap.size)
  generalize hAe : va_A [k4_0 aM vM, k4_1 cI aM vM, k4_2 cI aM vM, k4_3 cI aM vM, k4_4 cI aM vM, k4_5 cJ aM vM, k4_6 cI aM vM, k4_7 cJ aM vM, k4_8 cJ aM vM, k4_9 cI aM vM] s.heap.size = A at hD hN ⊢
  have hA : ∀ q : Nat, s.heap.size ≤ q → A q := fun q h => by rw [← hAe]; exact Or.inr h
  have hP : va_P (dC, dI) vwCl [k4_0 aM vM, k4_1 cI aM vM, k4_2 cI aM vM, k4_3 cI aM vM, k4_4 cI aM vM, k4_5 cJ aM vM, k4_6 cI aM vM, k4_7 cJ aM vM, k4_8 cJ aM vM, k4_9 cI aM vM] s.heap := hP
  have hl := lv_entry ([.ref (aM 0), .int i1]) (n := 3) (Nat.le_of_ble_eq_true rfl)
  rw [lg_entry_eq]
  generalize (lg_sl ([.ref (aM 0), .int i1]) ++ List.replicate (3 - (lg_sl ([.ref (aM 0), .int i1])).length) Slot.unset).toArray = ls at hl ⊢
  have hl : lv_has ls 3 [(0, .ref (aM 0)), (1, .int i1)] := hl
  have hiX4 : ∀ w ∈ u_ws RX4 TX4 21, w ∈ wsX4_drop := by decide +kernel
  have hgX4_7 := hts (.fieldLink RX4 7 "SpringPlatesModel" "s" "[I") (by decide +kernel)
  have hc57 := hts (.constant RX4 57 (-1000001)) (by decide +kernel)
  refine nameH (fun H locs hHe hLe => ?_)
  have hP : va_P (dC, dI) vwCl [k4_0 aM vM, k4_1 cI aM vM, k4_2 cI aM vM, k4_3 cI aM vM, k4_4 cI aM vM, k4_5 cJ aM vM, k4_6 cI aM vM, k4_7 cJ aM vM, k4_8 cJ aM vM, k4_9 cI aM vM] H := by rw [hHe]; exact hP
  have hS : va_S A s.heap H locs := by rw [hHe, hLe]; exact va_S.rf
  refine withW (fun WW hWW => ?_)
  have L27 : ∀ (n : Nat) (vM : BX4) (x2 : Int32) (H : Heap) (locs : List Loc) (ls : Array Slot), va_P (dC, dI) vwCl [k4_0 aM vM, k4_1 cI aM vM, k4_2 cI aM vM, k4_3 cI aM vM, k4_4 cI aM vM, k4_5 cJ aM vM, k4_6 cI aM vM, k4_7 cJ aM vM, k4_8 cJ aM vM, k4_9 cI aM vM] H → va_D A [k4_0 aM vM, k4_1 cI aM vM, k4_2 cI aM vM, k4_3 cI aM vM, k4_4 cI aM vM, k4_5 cJ aM vM, k4_6 cI aM vM, k4_7 cJ aM vM, k4_8 cJ aM vM, k4_9 cI aM vM] → va_S A s.heap H locs → lv_has ls 3 [(0, .ref (aM 0)), (2, .int x2)] → fX4_drop_27 n vM x2 = some y → WW H locs 0 0 ls 27 [] := by
    intro n
    induction n with
    | zero =>
      intro vM x2 H locs ls hP hD hS hl hf
      exact onone hf
    | succ n ih =>
      intro vM x2 H locs ls hP hD hS hl hf
      have hf : fX4_drop_27_b (fX4_drop_27 n) vM x2 = some y := hf
      generalize fX4_drop_27 n = k27 at hf ih
      have hk27 := ih
      clear ih
      unfold fX4_drop_27_b at hf
      refine (hWW _ _ _ _ _ _ _).2 ?_
      refine lv_iload_n hx hb dX4_drop_27 rfl (lv_at hl 1 rfl) ?_
      refine lv_aload_n hx hb dX4_drop_28 rfl (lv_at hl 0 rfl) ?_
      refine va_get (D := (dC, dI)) (ci := 4) (v := .ref (aM 1)) (C := RX4) (T := TX4) (N := 21) hx hb hts hiX4 hown hK hP 0 rfl rfl 0 (by decide) hgX4_7 (fun _ h9 => h9) rfl dX4_drop_29 ?_
      refine lv_iconst (v := 1) hx hb dX4_drop_32 (by decide) ?_
      refine va_iald hx hb hK hP 1 0 rfl rfl (vpc rfl) dX4_drop_33 ?_
      refine lv_icmp_ge (tgt := 145) hx hb dX4_drop_34 (by decide) (fun c1 => ?_) (fun c1 => ?_)
      · have hf := oif_t c1 hf
        refine lv_aload_n hx hb dX4_drop_145 rfl (lv_at hl 0 rfl) ?_
        refine va_get (D := (dC, dI)) (ci := 4) (v := .ref (aM 1)) (C := RX4) (T := TX4) (N := 21) hx hb hts hiX4 hown hK hP 0 rfl rfl 0 (by decide) hgX4_7 (fun _ h9 => h9) rfl dX4_drop_146 ?_
        refine lv_iconst (v := 1) hx hb dX4_drop_149 (by decide) ?_
        refine va_iald hx hb hK hP 1 0 rfl rfl (vpc rfl) dX4_drop_150 ?_
        obtain rfl := Option.some.inj hf
        exact W.iret (v := ((p4_s vM) ((1 : Int32)).toNatClampNeg)) hx hb hr (fun t ht hW => ⟨⟨((p4_s vM) ((1 : Int32)).toNatClampNeg), (), rfl, rfl, by rw [ht]; exact hP, hD⟩, hS.F ht⟩) hS.2.2 dX4_drop_151
      · have hf := oif_f c1 hf
        refine lv_aload_n hx hb dX4_drop_37 rfl (lv_at hl 0 rfl) ?_
        refine va_get (D := (dC, dI)) (ci := 4) (v := .ref (aM 1)) (C := RX4) (T := TX4) (N := 21) hx hb hts hiX4 hown hK hP 0 rfl rfl 0 (by decide) hgX4_7 (fun _ h9 => h9) rfl dX4_drop_38 ?_
        refine lv_iconst (v := 2) hx hb dX4_drop_41 (by decide) ?_
        refine lv_iload_n hx hb dX4_drop_42 rfl (lv_at hl 1 rfl) ?_
        refine lv_iadd hx hb dX4_drop_43 ?_
        refine lv_iconst (v := 1) hx hb dX4_drop_44 (by decide) ?_
        refine lv_iadd hx hb dX4_drop_45 ?_
        refine lv_aload_n hx hb dX4_drop_46 rfl (lv_at hl 0 rfl) ?_
        refine va_get (D := (dC, dI)) (ci := 4) (v := .ref (aM 1)) (C := RX4) (T := TX4) (N := 21) hx hb hts hiX4 hown hK hP 0 rfl rfl 0 (by decide) hgX4_7 (fun _ h9 => h9) rfl dX4_drop_47 ?_
        refine lv_iconst (v := 2) hx hb dX4_drop_50 (by decide) ?_
        refine lv_iload_n hx hb dX4_drop_51 rfl (lv_at hl 1 rfl) ?_
        refine lv_iadd hx hb dX4_drop_52 ?_
        refine lv_iconst (v := 2) hx hb dX4_drop_53 (by decide) ?_
        refine lv_iadd hx hb dX4_drop_54 ?_
        obtain ⟨hi2, hf⟩ := oinb rfl hf
        refine va_iald hx hb hK hP 1 0 rfl rfl hi2 dX4_drop_55 ?_
        obtain ⟨hi3, hf⟩ := oinb rfl hf
        obtain ⟨b4, eb4, hf⟩ := elet_out hf
        refine va_iast hx hb hK hP hD hS 1 0 rfl rfl hi3 dX4_drop_56 (fun H locs hP hD hS => ?_)
        have hP : va_P (dC, dI) vwCl [k4_0 aM b4, k4_1 cI aM b4, k4_2 cI aM b4, k4_3 cI aM b4, k4_4 cI aM b4, k4_5 cJ aM b4, k4_6 cI aM b4, k4_7 cJ aM b4, k4_8 cJ aM b4, k4_9 cI aM b4] H := by rw [eb4]; exact hP
        have hD : va_D A [k4_0 aM b4, k4_1 cI aM b4, k4_2 cI aM b4, k4_3 cI aM b4, k4_4 cI aM b4, k4_5 cJ aM b4, k4_6 cI aM b4, k4_7 cJ aM b4, k4_8 cJ aM b4, k4_9 cI aM b4] := by rw [eb4]; exact hD
        refine lv_aload_n hx hb dX4_drop_57 rfl (lv_at hl 0 rfl) ?_
        refine va_get (D := (dC, dI)) (ci := 4) (v := .ref (aM 1)) (C := RX4) (T := TX4) (N := 21) hx hb hts hiX4 hown hK hP 0 rfl rfl 0 (by decide) hgX4_7 (fun _ h9 => h9) rfl dX4_drop_58 ?_
        refine lv_bipush (v := 7) hx hb dX4_drop_61 (by decide) ?_
        refine lv_iload_n hx hb dX4_drop_63 rfl (lv_at hl 1 rfl) ?_
        refine lv_iadd hx hb dX4_drop_64 ?_
        refine lv_iconst (v := 1) hx hb dX4_drop_65 (by decide) ?_
        refine lv_iadd hx hb dX4_drop_66 ?_
        refine lv_aload_n hx hb dX4_drop_67 rfl (lv_at hl 0 rfl) ?_
        refine va_get (D := (dC, dI)) (ci := 4) (v := .ref (aM 1)) (C := RX4) (T := TX4) (N := 21) hx hb hts hiX4 hown hK hP 0 rfl rfl 0 (by decide) hgX4_7 (fun _ h9 => h9) rfl dX4_drop_68 ?_
        refine lv_bipush (v := 7) hx hb dX4_drop_71 (by decide) ?_
        refine lv_iload_n hx hb dX4_drop_73 rfl (lv_at hl 1 rfl) ?_
        refine lv_iadd hx hb dX4_drop_74 ?_
        refine lv_iconst (v := 2) hx hb dX4_drop_75 (by decide) ?_
        refine lv_iadd hx hb dX4_drop_76 ?_
        obtain ⟨hi5, hf⟩ := oinb rfl hf
        refine va_iald hx hb hK hP 1 0 rfl rfl hi5 dX4_drop_77 ?_
        obtain ⟨hi6, hf⟩ := oinb rfl hf
        obtain ⟨b7, eb7, hf⟩ := elet_out hf
        refine va_iast hx hb hK hP hD hS 1 0 rfl rfl hi6 dX4_drop_78 (fun H locs hP hD hS => ?_)
        have hP : va_P (dC, dI) vwCl [k4_0 aM b7, k4_1 cI aM b7, k4_2 cI aM b7, k4_3 cI aM b7, k4_4 cI aM b7, k4_5 cJ aM b7, k4_6 cI aM b7, k4_7 cJ aM b7, k4_8 cJ aM b7, k4_9 cI aM b7] H := by rw [eb7]; exact hP
        have hD : va_D A [k4_0 aM b7, k4_1 cI aM b7, k4_2 cI aM b7, k4_3 cI aM b7, k4_4 cI aM b7, k4_5 cJ aM b7, k4_6 cI aM b7, k4_7 cJ aM b7, k4_8 cJ aM b7, k4_9 cI aM b7] := by rw [eb7]; exact hD
        refine lv_aload_n hx hb dX4_drop_79 rfl (lv_at hl 0 rfl) ?_
        refine va_get (D := (dC, dI)) (ci := 4) (v := .ref (aM 1)) (C := RX4) (T := TX4) (N := 21) hx hb hts hiX4 hown hK hP 0 rfl rfl 0 (by decide) hgX4_7 (fun _ h9 => h9) rfl dX4_drop_80 ?_
        refine lv_bipush (v := 12) hx hb dX4_drop_83 (by decide) ?_
        refine lv_iload_n hx hb dX4_drop_85 rfl (lv_at hl 1 rfl) ?_
        refine lv_iadd hx hb dX4_drop_86 ?_
        refine lv_aload_n hx hb dX4_drop_87 rfl (lv_at hl 0 rfl) ?_
        refine va_get (D := (dC, dI)) (ci := 4) (v := .ref (aM 1)) (C := RX4) (T := TX4) (N := 21) hx hb hts hiX4 hown hK hP 0 rfl rfl 0 (by decide) hgX4_7 (fun _ h9 => h9) rfl dX4_drop_88 ?_
        refine lv_bipush (v := 12) hx hb dX4_drop_91 (by decide) ?_
        refine lv_iload_n hx hb dX4_drop_93 rfl (lv_at hl 1 rfl) ?_
        refine lv_iadd hx hb dX4_drop_94 ?_
        refine lv_iconst (v := 1) hx hb dX4_drop_95 (by decide) ?_
        refine lv_iadd hx hb dX4_drop_96 ?_
        obtain ⟨hi8, hf⟩ := oinb rfl hf
        refine va_iald hx hb hK hP 1 0 rfl rfl hi8 dX4_drop_97 ?_
        obtain ⟨hi9, hf⟩ := oinb rfl hf
        obtain ⟨b10, eb10, hf⟩ := elet_out hf
        refine va_iast hx hb hK hP hD hS 1 0 rfl rfl hi9 dX4_drop_98 (fun H locs hP hD hS => ?_)
        have hP : va_P (dC, dI) vwCl [k4_0 aM b10, k4_1 cI aM b10, k4_2 cI aM b10, k4_3 cI aM b10, k4_4 cI aM b10, k4_5 cJ aM b10, k4_6 cI aM b10, k4_7 cJ aM b10, k4_8 cJ aM b10, k4_9 cI aM b10] H := by rw [eb10]; exact hP
        have hD : va_D A [k4_0 aM b10, k4_1 cI aM b10, k4_2 cI aM b10, k4_3 cI aM b10, k4_4 cI aM b10, k4_5 cJ aM b10, k4_6 cI aM b10, k4_7 cJ aM b10, k4_8 cJ aM b10, k4_9 cI aM b10] := by rw [eb10]; exact hD
        refine lv_aload_n hx hb dX4_drop_99 rfl (lv_at hl 0 rfl) ?_
        refine va_get (D := (dC, dI)) (ci := 4) (v := .ref (aM 1)) (C := RX4) (T := TX4) (N := 21) hx hb hts hiX4 hown hK hP 0 rfl rfl 0 (by decide) hgX4_7 (fun _ h9 => h9) rfl dX4_drop_100 ?_
        refine lv_bipush (v := 16) hx hb dX4_drop_103 (by decide) ?_
        refine lv_iload_n hx hb dX4_drop_105 rfl (lv_at hl 1 rfl) ?_
        refine lv_iadd hx hb dX4_drop_106 ?_
        refine lv_aload_n hx hb dX4_drop_107 rfl (lv_at hl 0 rfl) ?_
        refine va_get (D := (dC, dI)) (ci := 4) (v := .ref (aM 1)) (C := RX4) (T := TX4) (N := 21) hx hb hts hiX4 hown hK hP 0 rfl rfl 0 (by decide) hgX4_7 (fun _ h9 => h9) rfl dX4_drop_108 ?_
        refine lv_bipush (v := 16) hx hb dX4_drop_111 (by decide) ?_
        refine lv_iload_n hx hb dX4_drop_113 rfl (lv_at hl 1 rfl) ?_
        refine lv_iadd hx hb dX4_drop_114 ?_
        refine lv_iconst (v := 1) hx hb dX4_drop_115 (by decide) ?_
        refine lv_iadd hx hb dX4_drop_116 ?_
        obtain ⟨hi11, hf⟩ := oinb rfl hf
        refine va_iald hx hb hK hP 1 0 rfl rfl hi11 dX4_drop_117 ?_
        obtain ⟨hi12, hf⟩ := oinb rfl hf
        obtain ⟨b13, eb13, hf⟩ := elet_out hf
        refine va_iast hx hb hK hP hD hS 1 0 rfl rfl hi12 dX4_drop_118 (fun H locs hP hD hS => ?_)
        have hP : va_P (dC, dI) vwCl [k4_0 aM b13, k4_1 cI aM b13, k4_2 cI aM b13, k4_3 cI aM b13, k4_4 cI aM b13, k4_5 cJ aM b13, k4_6 cI aM b13, k4_7 cJ aM b13, k4_8 cJ aM b13, k4_9 cI aM b13] H := by rw [eb13]; exact hP
        have hD : va_D A [k4_0 aM b13, k4_1 cI aM b13, k4_2 cI aM b13, k4_3 cI aM b13, k4_4 cI aM b13, k4_5 cJ aM b13, k4_6 cI aM b13, k4_7 cJ aM b13, k4_8 cJ aM b13, k4_9 cI aM b13] := by rw [eb13]; exact hD
        refine lv_aload_n hx hb dX4_drop_119 rfl (lv_at hl 0 rfl) ?_
        refine va_get (D := (dC, dI)) (ci := 4) (v := .ref (aM 1)) (C := RX4) (T := TX4) (N := 21) hx hb hts hiX4 hown hK hP 0 rfl rfl 0 (by decide) hgX4_7 (fun _ h9 => h9) rfl dX4_drop_120 ?_
        refine lv_bipush (v := 20) hx hb dX4_drop_123 (by decide) ?_
        refine lv_iload_n hx hb dX4_drop_125 rfl (lv_at hl 1 rfl) ?_
        refine lv_iadd hx hb dX4_drop_126 ?_
        refine lv_aload_n hx hb dX4_drop_127 rfl (lv_at hl 0 rfl) ?_
        refine va_get (D := (dC, dI)) (ci := 4) (v := .ref (aM 1)) (C := RX4) (T := TX4) (N := 21) hx hb hts hiX4 hown hK hP 0 rfl rfl 0 (by decide) hgX4_7 (fun _ h9 => h9) rfl dX4_drop_128 ?_
        refine lv_bipush (v := 20) hx hb dX4_drop_131 (by decide) ?_
        refine lv_iload_n hx hb dX4_drop_133 rfl (lv_at hl 1 rfl) ?_
        refine lv_iadd hx hb dX4_drop_134 ?_
        refine lv_iconst (v := 1) hx hb dX4_drop_135 (by decide) ?_
        refine lv_iadd hx hb dX4_drop_136 ?_
        obtain ⟨hi14, hf⟩ := oinb rfl hf
        refine va_iald hx hb hK hP 1 0 rfl rfl hi14 dX4_drop_137 ?_
        obtain ⟨hi15, hf⟩ := oinb rfl hf
        obtain ⟨b16, eb16, hf⟩ := elet_out hf
        refine va_iast hx hb hK hP hD hS 1 0 rfl rfl hi15 dX4_drop_138 (fun H locs hP hD hS => ?_)
        have hP : va_P (dC, dI) vwCl [k4_0 aM b16, k4_1 cI aM b16, k4_2 cI aM b16, k4_3 cI aM b16, k4_4 cI aM b16, k4_5 cJ aM b16, k4_6 cI aM b16, k4_7 cJ aM b16, k4_8 cJ aM b16, k4_9 cI aM b16] H := by rw [eb16]; exact hP
        have hD : va_D A [k4_0 aM b16, k4_1 cI aM b16, k4_2 cI aM b16, k4_3 cI aM b16, k4_4 cI aM b16, k4_5 cJ aM b16, k4_6 cI aM b16, k4_7 cJ aM b16, k4_8 cJ aM b16, k4_9 cI aM b16] := by rw [eb16]; exact hD
        obtain ⟨z17, ez17, hf⟩ := elet_out hf
        refine lv_iinc (v := z17) (lv' := [(2, .int z17), (0, .ref (aM 0))]) hx hb dX4_drop_139 hl (k := 1) rfl (by rw [ez17]; rfl) (by decide) rfl (fun ls hl => ?_)
        refine lv_goto (tgt := 27) hx hb dX4_drop_142 (by decide) ?_
        exact (hWW _ _ _ _ _ _ _).1 (hk27 b16 z17 H locs ls hP hD hS (lv_sub hl [1, 0] rfl) hf)
  refine (hWW _ _ _ _ _ _ _).2 ?_
  unfold fX4_drop at hf
  refine lv_aload_n hx hb dX4_drop_0 rfl (lv_at hl 0 rfl) ?_
  refine lv_iload_n hx hb dX4_drop_1 rfl (lv_at hl 1 rfl) ?_
  obtain ⟨y18, hy18, hf⟩ := obind hf
  refine cg_i (ws := [k4_0 aM vM, k4_1 cI aM vM, k4_2 cI aM vM, k4_3 cI aM vM, k4_4 cI aM vM, k4_5 cJ aM vM, k4_6 cI aM vM, k4_7 cJ aM vM, k4_8 cJ aM vM, k4_9 cI aM vM]) (wc := [k4_0 aM vM, k4_1 cI aM vM, k4_2 cI aM vM, k4_3 cI aM vM, k4_4 cI aM vM, k4_5 cJ aM vM, k4_6 cI aM vM, k4_7 cJ aM vM, k4_8 cJ aM vM, k4_9 cI aM vM]) (wr := []) (w1 := [k4_0 aM vM, k4_1 cI aM vM, k4_2 cI aM vM, k4_3 cI aM vM, k4_4 cI aM vM, k4_5 cJ aM vM, k4_6 cI aM vM, k4_7 cJ aM vM, k4_8 cJ aM vM, k4_9 cI aM vM]) (wo := [k4_0 aM vM, k4_1 cI aM vM, k4_2 cI aM vM, k4_3 cI aM vM, k4_4 cI aM vM, k4_5 cJ aM vM, k4_6 cI aM vM, k4_7 cJ aM vM, k4_8 cJ aM vM, k4_9 cI aM vM]) hP hD hS hA (va_runV (As := [.int i1]) (rest := []) ⟨hx, hb, hml, hown, hts⟩ (mX4_isPlate l dC dI cI cJ aM H.size vM i1 y18 hy18) (cwV 1 hts gX4_drop_X4_isPlate rfl rfl rfl (by decide +kernel) ⟨Nat.le_of_ble_eq_true rfl, Nat.le_of_ble_eq_true rfl⟩) ⟨cFB, va_recv hK hP (ci := 4) (q0 := 0) rfl rfl, cPre hK hN hS (va_free (wc := [k4_0 aM vM, k4_1 cI aM vM, k4_2 cI aM vM, k4_3 cI aM vM, k4_4 cI aM vM, k4_5 cJ aM vM, k4_6 cI aM vM, k4_7 cJ aM vM, k4_8 cJ aM vM, k4_9 cI aM vM]) hD hS hA [0, 1, 2, 3, 4, 5, 6, 7, 8, 9] rfl) (hP.sub [0, 1, 2, 3, 4, 5, 6, 7, 8, 9] rfl) (hD.sub [0, 1, 2, 3, 4, 5, 6, 7, 8, 9] rfl rfl)⟩ rfl rfl hl.1 rfl (lv_room (Nat.le_of_ble_eq_true rfl)) dX4_drop_2 ⟨Nat.le_of_ble_eq_true rfl, Nat.le_of_ble_eq_true rfl⟩) [0, 1, 2, 3, 4, 5, 6, 7, 8, 9] [] [0, 1, 2, 3, 4, 5, 6, 7, 8, 9] rfl rfl rfl (by decide +kernel) rfl rfl (fun H locs hP hD hS => ?_)
  refine lv_if_ne (tgt := 11) hx hb dX4_drop_5 (by decide) (fun c19 => ?_) (fun c19 => ?_)
  · have hf := oif_f c19 hf
    refine lv_aload_n hx hb dX4_drop_11 rfl (lv_at hl 0 rfl) ?_
    obtain ⟨y20, hy20, hf⟩ := obind hf
    refine cg_v (ws := [k4_0 aM vM, k4_1 cI aM vM, k4_2 cI aM vM, k4_3 cI aM vM, k4_4 cI aM vM, k4_5 cJ aM vM, k4_6 cI aM vM, k4_7 cJ aM vM, k4_8 cJ aM vM, k4_9 cI aM vM]) (wc := [k4_0 aM vM, k4_1 cI aM vM, k4_2 cI aM vM, k4_3 cI aM vM, k4_4 cI aM vM, k4_5 cJ aM vM, k4_6 cI aM vM, k4_7 cJ aM vM, k4_8 cJ aM vM, k4_9 cI aM vM]) (wr := []) (w1 := [k4_0 aM y20, k4_1 cI aM y20, k4_2 cI aM y20, k4_3 cI aM y20, k4_4 cI aM y20, k4_5 cJ aM y20, k4_6 cI aM y20, k4_7 cJ aM y20, k4_8 cJ aM y20, k4_9 cI aM y20]) (wo := [k4_0 aM y20, k4_1 cI aM y20, k4_2 cI aM y20, k4_3 cI aM y20, k4_4 cI aM y20, k4_5 cJ aM y20, k4_6 cI aM y20, k4_7 cJ aM y20, k4_8 cJ aM y20, k4_9 cI aM y20]) hP hD hS hA (va_runV (As := []) (rest := []) ⟨hx, hb, hml, hown, hts⟩ (mX4_changes l dC dI cI cJ aM H.size vM y20 hy20) (cwV 0 hts gX4_drop_X4_changes rfl rfl rfl (by decide +kernel) ⟨Nat.le_of_ble_eq_true rfl, Nat.le_of_ble_eq_true rfl⟩) ⟨cFB, va_recv hK hP (ci := 4) (q0 := 0) rfl rfl, cPre hK hN hS (va_free (wc := [k4_0 aM vM, k4_1 cI aM vM, k4_2 cI aM vM, k4_3 cI aM vM, k4_4 cI aM vM, k4_5 cJ aM vM, k4_6 cI aM vM, k4_7 cJ aM vM, k4_8 cJ aM vM, k4_9 cI aM vM]) hD hS hA [0, 1, 2, 3, 4, 5, 6, 7, 8, 9] rfl) (hP.sub [0, 1, 2, 3, 4, 5, 6, 7, 8, 9] rfl) (hD.sub [0, 1, 2, 3, 4, 5, 6, 7, 8, 9] rfl rfl)⟩ rfl rfl hl.1 rfl (lv_room (Nat.le_of_ble_eq_true rfl)) dX4_drop_12 ⟨Nat.le_of_ble_eq_true rfl, Nat.le_of_ble_eq_true rfl⟩) [0, 1, 2, 3, 4, 5, 6, 7, 8, 9] [] [0, 1, 2, 3, 4, 5, 6, 7, 8, 9] rfl rfl rfl (by decide +kernel) rfl rfl (fun H locs hP hD hS => ?_)
    refine lv_aload_n hx hb dX4_drop_15 rfl (lv_at hl 0 rfl) ?_
    refine va_get (D := (dC, dI)) (ci := 4) (v := .ref (aM 1)) (C := RX4) (T := TX4) (N := 21) hx hb hts hiX4 hown hK hP 0 rfl rfl 0 (by decide) hgX4_7 (fun _ h9 => h9) rfl dX4_drop_16 ?_
    refine lv_iconst (v := 1) hx hb dX4_drop_19 (by decide) ?_
    refine lv_dup2_11 hx hb dX4_drop_20 rfl rfl ?_
    refine va_iald hx hb hK hP 1 0 rfl rfl (vpc rfl) dX4_drop_21 ?_
    refine lv_iconst (v := 1) hx hb dX4_drop_22 (by decide) ?_
    refine lv_isub hx hb dX4_drop_23 ?_
    obtain ⟨b21, eb21, hf⟩ := elet_out hf
    refine va_iast hx hb hK hP hD hS 1 0 rfl rfl (vpc rfl) dX4_drop_24 (fun H locs hP hD hS => ?_)
    have hP : va_P (dC, dI) vwCl [k4_0 aM b21, k4_1 cI aM b21, k4_2 cI aM b21, k4_3 cI aM b21, k4_4 cI aM b21, k4_5 cJ aM b21, k4_6 cI aM b21, k4_7 cJ aM b21, k4_8 cJ aM b21, k4_9 cI aM b21] H := by rw [eb21]; exact hP
    have hD : va_D A [k4_0 aM b21, k4_1 cI aM b21, k4_2 cI aM b21, k4_3 cI aM b21, k4_4 cI aM b21, k4_5 cJ aM b21, k4_6 cI aM b21, k4_7 cJ aM b21, k4_8 cJ aM b21, k4_9 cI aM b21] := by rw [eb21]; exact hD
    refine lv_iload_n hx hb dX4_drop_25 rfl (lv_at hl 1 rfl) ?_
    refine lv_istore_n (lv' := [(2, .int i1), (0, .ref (aM 0)), (1, .int i1)]) hx hb dX4_drop_26 rfl hl (by decide) rfl (fun ls hl => ?_)
    exact (hWW _ _ _ _ _ _ _).1 (L27 FU b21 i1 H locs ls hP hD hS (lv_sub hl [1, 0] rfl) hf)
  · have hf := oif_t c19 hf
    refine lv_ldc (v := (-1000001)) hx hb hown hc57 dX4_drop_8 ?_
    obtain rfl := Option.some.inj hf
    exact W.iret (v := (-1000001)) hx hb hr (fun t ht hW => ⟨⟨(-1000001), (), rfl, rfl, by rw [ht]; exact hP, hD⟩, hS.F ht⟩) hS.2.2 dX4_drop_10
def fX4_spring (vM : BX4) (i1 : Int32) (i2 : Int32) (i3 : Int32) : Option (Int32 × BX4) :=
  (fX4_isSpring vM i1).bind (fun y1 => if y1 = 0 then (some ((-1000001), vM)) else ((fX4_in i2 (1 : Int32) (9 : Int32)).bind (fun y3 => if y3 = 0 then (some ((-1000001), vM)) else ((fX4_in i3 (0 : Int32) (50 : Int32)).bind (fun y5 => if y5 = 0 then (some ((-1000001), vM)) else ((fX4_changes vM).bind (fun y7 => if inB ((2 : Int32) + i1) 24 = true then (if inB ((7 : Int32) + i1) 24 = true then (elet (((100 : Int32) * ((p4_s y7) (((2 : Int32) + i1)).toNatClampNeg)) + ((p4_s y7) (((7 : Int32) + i1)).toNatClampNeg)) (fun z10 => if inB ((2 : Int32) + i1) 24 = true then (elet (s4_s y7 (upd (p4_s y7) (((2 : Int32) + i1)).toNatClampNeg i2)) (fun b12 => if inB ((7 : Int32) + i1) 24 = true then (elet (s4_s b12 (upd (p4_s b12) (((7 : Int32) + i1)).toNatClampNeg i3)) (fun b14 => some (z10, b14))) else none)) else none)) else none) else none)))))))
set_option maxHeartbeats 8000000 in
set_option maxRecDepth 100000 in
theorem mX4_spring (l : Launch) (dC : Nat → ClassId) (dI : Nat → Nat → Nat) (cI cJ : ClassId) (aM : Nat → Nat) (sz : Nat) (vM : BX4) (i1 : Int32) (i2 : Int32) (i3 : Int32) (y : (Int32 × BX4)) (hf : fX4_spring vM i1 i2 i3 = some y) : Met l yX4_spring wsX4_spring ({ frames := 1, cells := 0, slots := 0, locals := 22 }) (cPc dC dI cI cJ [.ref (aM 0), .int i1, .int i2, .int i3] [k4_0 aM vM, k4_1 cI aM vM, k4_2 cI aM vM, k4_3 cI aM vM, k4_4 cI aM vM, k4_5 cJ aM vM, k4_6 cI aM vM, k4_7 cJ aM vM, k4_8 cJ aM vM, k4_9 cI aM vM] sz) (va_Qi (fun r (_ : Unit) => r = y.1) (fun _ t => cB dC dI (va_A [k4_0 aM vM, k4_1 cI aM vM, k4_2 cI aM vM, k4_3 cI aM vM, k4_4 cI aM vM, k4_5 cJ aM vM, k4_6 cI aM vM, k4_7 cJ aM vM, k4_8 cJ aM vM, k4_9 cI aM vM] sz) [k4_0 aM y.2, k4_1 cI aM y.2, k4_2 cI aM y.2, k4_3 cI aM y.2, k4_4 cI aM y.2, k4_5 cJ aM y.2, k4_6 cI aM y.2, k4_7 cJ aM y.2, k4_8 cJ aM y.2, k4_9 cI aM y.2] t) (va_A [k4_0 aM vM, k4_1 cI aM vM, k4_2 cI aM vM, k4_3 cI aM vM, k4_4 cI aM vM, k4_5 cJ aM vM, k4_6 cI aM vM, k4_7 cJ aM vM, k4_8 cJ aM vM, k4_9 cI aM vM] sz)) 0 0 (va_A [k4_0 aM vM, k4_1 cI aM vM, k4_2 cI aM vM, k4_3 cI aM vM, k4_4 cI aM vM, k4_5 cJ aM vM, k4_6 cI aM vM, k4_7 cJ aM vM, k4_8 cJ aM vM, k4_9 cI aM vM] sz) := by
  refine Met.ofW (cc := cX4_spring) (maxL := 5) (ret := (some .int)) (by decide) rfl ?_
  intro p e s m args below meth c s₁ B hml hv
  obtain ⟨rfl, hsz, hP, hK, hD0, hN⟩ := hv
  have hx := B.exec
  have hb := B.bytes
  have hr := B.returns
  have hts := atoms_spec (ws := wsX4_spring) B.pre
  have hown : s.vm.findClass RX4 = some m.cls := findClass_of_methodNamed B.named
  have hlocks := B.notSynchronized
  subst hsz
  have hD := hD0.self (sz := s.heap.size)
  generalize hAe : va_A [k4_0 aM vM, k4_1 cI aM vM, k4_2 cI aM vM, k4_3 cI aM vM, k4_4 cI aM vM, k4_5 cJ aM vM, k4_6 cI aM vM, k4_7 cJ aM vM, k4_8 cJ aM vM, k4_9 cI aM vM] s.heap.size = A at hD hN ⊢
  have hA : ∀ q : Nat, s.heap.size ≤ q → A q := fun q h => by rw [← hAe]; exact Or.inr h
  have hP : va_P (dC, dI) vwCl [k4_0 aM vM, k4_1 cI aM vM, k4_2 cI aM vM, k4_3 cI aM vM, k4_4 cI aM vM, k4_5 cJ aM vM, k4_6 cI aM vM, k4_7 cJ aM vM, k4_8 cJ aM vM, k4_9 cI aM vM] s.heap := hP
  have hl := lv_entry ([.ref (aM 0), .int i1, .int i2, .int i3]) (n := 5) (Nat.le_of_ble_eq_true rfl)
  rw [lg_entry_eq]
  generalize (lg_sl ([.ref (aM 0), .int i1, .int i2, .int i3]) ++ List.replicate (5 - (lg_sl ([.ref (aM 0), .int i1, .int i2, .int i3])).length) Slot.unset).toArray = ls at hl ⊢
  have hl : lv_has ls 5 [(0, .ref (aM 0)), (1, .int i1), (2, .int i2), (3, .int i3)] := hl
  have hc57 := hts (.constant RX4 57 (-1000001)) (by decide +kernel)
  have hiX4 : ∀ w ∈ u_ws RX4 TX4 21, w ∈ wsX4_spring := by decide +kernel
  have hgX4_7 := hts (.fieldLink RX4 7 "SpringPlatesModel" "s" "[I") (by decide +kernel)
  refine nameH (fun H locs hHe hLe => ?_)
  have hP : va_P (dC, dI) vwCl [k4_0 aM vM, k4_1 cI aM vM, k4_2 cI aM vM, k4_3 cI aM vM, k4_4 cI aM vM, k4_5 cJ aM vM, k4_6 cI aM vM, k4_7 cJ aM vM, k4_8 cJ aM vM, k4_9 cI aM vM] H := by rw [hHe]; exact hP
  have hS : va_S A s.heap H locs := by rw [hHe, hLe]; exact va_S.rf
  unfold fX4_spring at hf
  refine lv_aload_n hx hb dX4_spring_0 rfl (lv_at hl 0 rfl) ?_
  refine lv_iload_n hx hb dX4_spring_1 rfl (lv_at hl 1 rfl) ?_
  obtain ⟨y1, hy1, hf⟩ := obind hf
  refine cg_i (ws := [k4_0 aM vM, k4_1 cI aM vM, k4_2 cI aM vM, k4_3 cI aM vM, k4_4 cI aM vM, k4_5 cJ aM vM, k4_6 cI aM vM, k4_7 cJ aM vM, k4_8 cJ aM vM, k4_9 cI aM vM]) (wc := [k4_0 aM vM, k4_1 cI aM vM, k4_2 cI aM vM, k4_3 cI aM vM, k4_4 cI aM vM, k4_5 cJ aM vM, k4_6 cI aM vM, k4_7 cJ aM vM, k4_8 cJ aM vM, k4_9 cI aM vM]) (wr := []) (w1 := [k4_0 aM vM, k4_1 cI aM vM, k4_2 cI aM vM, k4_3 cI aM vM, k4_4 cI aM vM, k4_5 cJ aM vM, k4_6 cI aM vM, k4_7 cJ aM vM, k4_8 cJ aM vM, k4_9 cI aM vM]) (wo := [k4_0 aM vM, k4_1 cI aM vM, k4_2 cI aM vM, k4_3 cI aM vM, k4_4 cI aM vM, k4_5 cJ aM vM, k4_6 cI aM vM, k4_7 cJ aM vM, k4_8 cJ aM vM, k4_9 cI aM vM]) hP hD hS hA (va_runV (As := [.int i1]) (rest := []) ⟨hx, hb, hml, hown, hts⟩ (mX4_isSpring l dC dI cI cJ aM H.size vM i1 y1 hy1) (cwV 1 hts gX4_spring_X4_isSpring rfl rfl rfl (by decide +kernel) ⟨Nat.le_of_ble_eq_true rfl, Nat.le_of_ble_eq_true rfl⟩) ⟨cFB, va_recv hK hP (ci := 4) (q0 := 0) rfl rfl, cPre hK hN hS (va_free (wc := [k4_0 aM vM, k4_1 cI aM vM, k4_2 cI aM vM, k4_3 cI aM vM, k4_4 cI aM vM, k4_5 cJ aM vM, k4_6 cI aM vM, k4_7 cJ aM vM, k4_8 cJ aM vM, k4_9 cI aM vM]) hD hS hA [0, 1, 2, 3, 4, 5, 6, 7, 8, 9] rfl) (hP.sub [0, 1, 2, 3, 4, 5, 6, 7, 8, 9] rfl) (hD.sub [0, 1, 2, 3, 4, 5, 6, 7, 8, 9] rfl rfl)⟩ rfl rfl hl.1 rfl (lv_room (Nat.le_of_ble_eq_true rfl)) dX4_spring_2 ⟨Nat.le_of_ble_eq_true rfl, Nat.le_of_ble_eq_true rfl⟩) [0, 1, 2, 3, 4, 5, 6, 7, 8, 9] [] [0, 1, 2, 3, 4, 5, 6, 7, 8, 9] rfl rfl rfl (by decide +kernel) rfl rfl (fun H locs hP hD hS => ?_)
  refine lv_if_eq (tgt := 28) hx hb dX4_spring_5 (by decide) (fun c2 => ?_) (fun c2 => ?_)
  · have hf := oif_t c2 hf
    refine lv_ldc (v := (-1000001)) hx hb hown hc57 dX4_spring_28 ?_
    obtain rfl := Option.some.inj hf
    exact W.iret (v := (-1000001)) hx hb hr (fun t ht hW => ⟨⟨(-1000001), (), rfl, rfl, by rw [ht]; exact hP, hD⟩, hS.F ht⟩) hS.2.2 dX4_spring_30
  · have hf := oif_f c2 hf
    refine lv_iload_n hx hb dX4_spring_8 rfl (lv_at hl 2 rfl) ?_
    refine lv_iconst (v := 1) hx hb dX4_spring_9 (by decide) ?_
    refine lv_bipush (v := 9) hx hb dX4_spring_10 (by decide) ?_
    obtain ⟨y3, hy3, hf⟩ := obind hf
    refine cg_i (ws := [k4_0 aM vM, k4_1 cI aM vM, k4_2 cI aM vM, k4_3 cI aM vM, k4_4 cI aM vM, k4_5 cJ aM vM, k4_6 cI aM vM, k4_7 cJ aM vM, k4_8 cJ aM vM, k4_9 cI aM vM]) (wc := []) (wr := [k4_0 aM vM, k4_1 cI aM vM, k4_2 cI aM vM, k4_3 cI aM vM, k4_4 cI aM vM, k4_5 cJ aM vM, k4_6 cI aM vM, k4_7 cJ aM vM, k4_8 cJ aM vM, k4_9 cI aM vM]) (w1 := []) (wo := [k4_0 aM vM, k4_1 cI aM vM, k4_2 cI aM vM, k4_3 cI aM vM, k4_4 cI aM vM, k4_5 cJ aM vM, k4_6 cI aM vM, k4_7 cJ aM vM, k4_8 cJ aM vM, k4_9 cI aM vM]) hP hD hS hA (va_runS (As := [.int i2, .int 1, .int 9]) (rest := []) ⟨hx, hb, hml, hown, hts⟩ (mX4_in l dC dI cI cJ  H.size i2 (1 : Int32) (9 : Int32) y3 hy3) (va_cwS 3 hts gX4_spring_X4_in rfl rfl rfl (by decide +kernel) ⟨Nat.le_of_ble_eq_true rfl, Nat.le_of_ble_eq_true rfl⟩) ⟨cFB, cPre hK hN hS (va_free (wc := []) hD hS hA [] rfl) (hP.sub [] rfl) (hD.sub [] rfl rfl)⟩ rfl rfl hl.1 rfl (lv_room (Nat.le_of_ble_eq_true rfl)) dX4_spring_12 ⟨Nat.le_of_ble_eq_true rfl, Nat.le_of_ble_eq_true rfl⟩) [] [0, 1, 2, 3, 4, 5, 6, 7, 8, 9] [0, 1, 2, 3, 4, 5, 6, 7, 8, 9] rfl rfl rfl (by decide +kernel) rfl rfl (fun H locs hP hD hS => ?_)
    refine lv_if_eq (tgt := 28) hx hb dX4_spring_15 (by decide) (fun c4 => ?_) (fun c4 => ?_)
    · have hf := oif_t c4 hf
      refine lv_ldc (v := (-1000001)) hx hb hown hc57 dX4_spring_28 ?_
      obtain rfl := Option.some.inj hf
      exact W.iret (v := (-1000001)) hx hb hr (fun t ht hW => ⟨⟨(-1000001), (), rfl, rfl, by rw [ht]; exact hP, hD⟩, hS.F ht⟩) hS.2.2 dX4_spring_30
    · have hf := oif_f c4 hf
      refine lv_iload_n hx hb dX4_spring_18 rfl (lv_at hl 3 rfl) ?_
      refine lv_iconst (v := 0) hx hb dX4_spring_19 (by decide) ?_
      refine lv_bipush (v := 50) hx hb dX4_spring_20 (by decide) ?_
      obtain ⟨y5, hy5, hf⟩ := obind hf
      refine cg_i (ws := [k4_0 aM vM, k4_1 cI aM vM, k4_2 cI aM vM, k4_3 cI aM vM, k4_4 cI aM vM, k4_5 cJ aM vM, k4_6 cI aM vM, k4_7 cJ aM vM, k4_8 cJ aM vM, k4_9 cI aM vM]) (wc := []) (wr := [k4_0 aM vM, k4_1 cI aM vM, k4_2 cI aM vM, k4_3 cI aM vM, k4_4 cI aM vM, k4_5 cJ aM vM, k4_6 cI aM vM, k4_7 cJ aM vM, k4_8 cJ aM vM, k4_9 cI aM vM]) (w1 := []) (wo := [k4_0 aM vM, k4_1 cI aM vM, k4_2 cI aM vM, k4_3 cI aM vM, k4_4 cI aM vM, k4_5 cJ aM vM, k4_6 cI aM vM, k4_7 cJ aM vM, k4_8 cJ aM vM, k4_9 cI aM vM]) hP hD hS hA (va_runS (As := [.int i3, .int 0, .int 50]) (rest := []) ⟨hx, hb, hml, hown, hts⟩ (mX4_in l dC dI cI cJ  H.size i3 (0 : Int32) (50 : Int32) y5 hy5) (va_cwS 3 hts gX4_spring_X4_in rfl rfl rfl (by decide +kernel) ⟨Nat.le_of_ble_eq_true rfl, Nat.le_of_ble_eq_true rfl⟩) ⟨cFB, cPre hK hN hS (va_free (wc := []) hD hS hA [] rfl) (hP.sub [] rfl) (hD.sub [] rfl rfl)⟩ rfl rfl hl.1 rfl (lv_room (Nat.le_of_ble_eq_true rfl)) dX4_spring_22 ⟨Nat.le_of_ble_eq_true rfl, Nat.le_of_ble_eq_true rfl⟩) [] [0, 1, 2, 3, 4, 5, 6, 7, 8, 9] [0, 1, 2, 3, 4, 5, 6, 7, 8, 9] rfl rfl rfl (by decide +kernel) rfl rfl (fun H locs hP hD hS => ?_)
      refine lv_if_ne (tgt := 31) hx hb dX4_spring_25 (by decide) (fun c6 => ?_) (fun c6 => ?_)
      · have hf := oif_f c6 hf
        refine lv_aload_n hx hb dX4_spring_31 rfl (lv_at hl 0 rfl) ?_
        obtain ⟨y7, hy7, hf⟩ := obind hf
        refine cg_v (ws := [k4_0 aM vM, k4_1 cI aM vM, k4_2 cI aM vM, k4_3 cI aM vM, k4_4 cI aM vM, k4_5 cJ aM vM, k4_6 cI aM vM, k4_7 cJ aM vM, k4_8 cJ aM vM, k4_9 cI aM vM]) (wc := [k4_0 aM vM, k4_1 cI aM vM, k4_2 cI aM vM, k4_3 cI aM vM, k4_4 cI aM vM, k4_5 cJ aM vM, k4_6 cI aM vM, k4_7 cJ aM vM, k4_8 cJ aM vM, k4_9 cI aM vM]) (wr := []) (w1 := [k4_0 aM y7, k4_1 cI aM y7, k4_2 cI aM y7, k4_3 cI aM y7, k4_4 cI aM y7, k4_5 cJ aM y7, k4_6 cI aM y7, k4_7 cJ aM y7, k4_8 cJ aM y7, k4_9 cI aM y7]) (wo := [k4_0 aM y7, k4_1 cI aM y7, k4_2 cI aM y7, k4_3 cI aM y7, k4_4 cI aM y7, k4_5 cJ aM y7, k4_6 cI aM y7, k4_7 cJ aM y7, k4_8 cJ aM y7, k4_9 cI aM y7]) hP hD hS hA (va_runV (As := []) (rest := []) ⟨hx, hb, hml, hown, hts⟩ (mX4_changes l dC dI cI cJ aM H.size vM y7 hy7) (cwV 0 hts gX4_spring_X4_changes rfl rfl rfl (by decide +kernel) ⟨Nat.le_of_ble_eq_true rfl, Nat.le_of_ble_eq_true rfl⟩) ⟨cFB, va_recv hK hP (ci := 4) (q0 := 0) rfl rfl, cPre hK hN hS (va_free (wc := [k4_0 aM vM, k4_1 cI aM vM, k4_2 cI aM vM, k4_3 cI aM vM, k4_4 cI aM vM, k4_5 cJ aM vM, k4_6 cI aM vM, k4_7 cJ aM vM, k4_8 cJ aM vM, k4_9 cI aM vM]) hD hS hA [0, 1, 2, 3, 4, 5, 6, 7, 8, 9] rfl) (hP.sub [0, 1, 2, 3, 4, 5, 6, 7, 8, 9] rfl) (hD.sub [0, 1, 2, 3, 4, 5, 6, 7, 8, 9] rfl rfl)⟩ rfl rfl hl.1 rfl (lv_room (Nat.le_of_ble_eq_true rfl)) dX4_spring_32 ⟨Nat.le_of_ble_eq_true rfl, Nat.le_of_ble_eq_true rfl⟩) [0, 1, 2, 3, 4, 5, 6, 7, 8, 9] [] [0, 1, 2, 3, 4, 5, 6, 7, 8, 9] rfl rfl rfl (by decide +kernel) rfl rfl (fun H locs hP hD hS => ?_)
        refine lv_bipush (v := 100) hx hb dX4_spring_35 (by decide) ?_
        refine lv_aload_n hx hb dX4_spring_37 rfl (lv_at hl 0 rfl) ?_
        refine va_get (D := (dC, dI)) (ci := 4) (v := .ref (aM 1)) (C := RX4) (T := TX4) (N := 21) hx hb hts hiX4 hown hK hP 0 rfl rfl 0 (by decide) hgX4_7 (fun _ h9 => h9) rfl dX4_spring_38 ?_
        refine lv_iconst (v := 2) hx hb dX4_spring_41 (by decide) ?_
        refine lv_iload_n hx hb dX4_spring_42 rfl (lv_at hl 1 rfl) ?_
        refine lv_iadd hx hb dX4_spring_43 ?_
        obtain ⟨hi8, hf⟩ := oinb rfl hf
        refine va_iald hx hb hK hP 1 0 rfl rfl hi8 dX4_spring_44 ?_
        refine lv_imul hx hb dX4_spring_45 ?_
        refine lv_aload_n hx hb dX4_spring_46 rfl (lv_at hl 0 rfl) ?_
        refine va_get (D := (dC, dI)) (ci := 4) (v := .ref (aM 1)) (C := RX4) (T := TX4) (N := 21) hx hb hts hiX4 hown hK hP 0 rfl rfl 0 (by decide) hgX4_7 (fun _ h9 => h9) rfl dX4_spring_47 ?_
        refine lv_bipush (v := 7) hx hb dX4_spring_50 (by decide) ?_
        refine lv_iload_n hx hb dX4_spring_52 rfl (lv_at hl 1 rfl) ?_
        refine lv_iadd hx hb dX4_spring_53 ?_
        obtain ⟨hi9, hf⟩ := oinb rfl hf
        refine va_iald hx hb hK hP 1 0 rfl rfl hi9 dX4_spring_54 ?_
        refine lv_iadd hx hb dX4_spring_55 ?_
        obtain ⟨z10, ez10, hf⟩ := elet_out hf
        refine lvn_i ez10 ?_
        refine lv_istore (lv' := [(4, .int z10), (0, .ref (aM 0)), (1, .int i1), (2, .int i2), (3, .int i3)]) hx hb dX4_spring_56 hl (by decide) rfl (fun ls hl => ?_)
        refine lv_aload_n hx hb dX4_spring_58 rfl (lv_at hl 1 rfl) ?_
        refine va_get (D := (dC, dI)) (ci := 4) (v := .ref (aM 1)) (C := RX4) (T := TX4) (N := 21) hx hb hts hiX4 hown hK hP 0 rfl rfl 0 (by decide) hgX4_7 (fun _ h9 => h9) rfl dX4_spring_59 ?_
        refine lv_iconst (v := 2) hx hb dX4_spring_62 (by decide) ?_
        refine lv_iload_n hx hb dX4_spring_63 rfl (lv_at hl 2 rfl) ?_
        refine lv_iadd hx hb dX4_spring_64 ?_
        refine lv_iload_n hx hb dX4_spring_65 rfl (lv_at hl 3 rfl) ?_
        obtain ⟨hi11, hf⟩ := oinb rfl hf
        obtain ⟨b12, eb12, hf⟩ := elet_out hf
        refine va_iast hx hb hK hP hD hS 1 0 rfl rfl hi11 dX4_spring_66 (fun H locs hP hD hS => ?_)
        have hP : va_P (dC, dI) vwCl [k4_0 aM b12, k4_1 cI aM b12, k4_2 cI aM b12, k4_3 cI aM b12, k4_4 cI aM b12, k4_5 cJ aM b12, k4_6 cI aM b12, k4_7 cJ aM b12, k4_8 cJ aM b12, k4_9 cI aM b12] H := by rw [eb12]; exact hP
        have hD : va_D A [k4_0 aM b12, k4_1 cI aM b12, k4_2 cI aM b12, k4_3 cI aM b12, k4_4 cI aM b12, k4_5 cJ aM b12, k4_6 cI aM b12, k4_7 cJ aM b12, k4_8 cJ aM b12, k4_9 cI aM b12] := by rw [eb12]; exact hD
        refine lv_aload_n hx hb dX4_spring_67 rfl (lv_at hl 1 rfl) ?_
        refine va_get (D := (dC, dI)) (ci := 4) (v := .ref (aM 1)) (C := RX4) (T := TX4) (N := 21) hx hb hts hiX4 hown hK hP 0 rfl rfl 0 (by decide) hgX4_7 (fun _ h9 => h9) rfl dX4_spring_68 ?_
        refine lv_bipush (v := 7) hx hb dX4_spring_71 (by decide) ?_
        refine lv_iload_n hx hb dX4_spring_73 rfl (lv_at hl 2 rfl) ?_
        refine lv_iadd hx hb dX4_spring_74 ?_
        refine lv_iload_n hx hb dX4_spring_75 rfl (lv_at hl 4 rfl) ?_
        obtain ⟨hi13, hf⟩ := oinb rfl hf
        obtain ⟨b14, eb14, hf⟩ := elet_out hf
        refine va_iast hx hb hK hP hD hS 1 0 rfl rfl hi13 dX4_spring_76 (fun H locs hP hD hS => ?_)
        have hP : va_P (dC, dI) vwCl [k4_0 aM b14, k4_1 cI aM b14, k4_2 cI aM b14, k4_3 cI aM b14, k4_4 cI aM b14, k4_5 cJ aM b14, k4_6 cI aM b14, k4_7 cJ aM b14, k4_8 cJ aM b14, k4_9 cI aM b14] H := by rw [eb14]; exact hP
        have hD : va_D A [k4_0 aM b14, k4_1 cI aM b14, k4_2 cI aM b14, k4_3 cI aM b14, k4_4 cI aM b14, k4_5 cJ aM b14, k4_6 cI aM b14, k4_7 cJ aM b14, k4_8 cJ aM b14, k4_9 cI aM b14] := by rw [eb14]; exact hD
        refine lv_iload hx hb dX4_spring_77 (lv_at hl 0 rfl) ?_
        obtain rfl := Option.some.inj hf
        exact W.iret (v := z10) hx hb hr (fun t ht hW => ⟨⟨z10, (), rfl, rfl, by rw [ht]; exact hP, hD⟩, hS.F ht⟩) hS.2.2 dX4_spring_79
      · have hf := oif_t c6 hf
        refine lv_ldc (v := (-1000001)) hx hb hown hc57 dX4_spring_28 ?_
        obtain rfl := Option.some.inj hf
        exact W.iret (v := (-1000001)) hx hb hr (fun t ht hW => ⟨⟨(-1000001), (), rfl, rfl, by rw [ht]; exact hP, hD⟩, hS.F ht⟩) hS.2.2 dX4_spring_30
def fX4_load (vM : BX4) (i1 : Int32) (i2 : Int32) : Option (Int32 × BX4) :=
  (fX4_isPlate vM i1).bind (fun y1 => if y1 = 0 then (some ((-1000001), vM)) else ((fX4_in i2 (-99 : Int32) (99 : Int32)).bind (fun y3 => if y3 = 0 then (some ((-1000001), vM)) else ((fX4_changes vM).bind (fun y5 => if inB ((12 : Int32) + i1) 24 = true then (elet ((p4_s y5) (((12 : Int32) + i1)).toNatClampNeg) (fun z7 => if inB ((12 : Int32) + i1) 24 = true then (elet (s4_s y5 (upd (p4_s y5) (((12 : Int32) + i1)).toNatClampNeg i2)) (fun b9 => some ((z7 + (1000 : Int32)), b9))) else none)) else none)))))
set_option maxHeartbeats 8000000 in
set_option maxRecDepth 100000 in
theorem mX4_load (l : Launch) (dC : Nat → ClassId) (dI : Nat → Nat → Nat) (cI cJ : ClassId) (aM : Nat → Nat) (sz : Nat) (vM : BX4) (i1 : Int32) (i2 : Int32) (y : (Int32 × BX4)) (hf : fX4_load vM i1 i2 = some y) : Met l yX4_load wsX4_load ({ frames := 1, cells := 0, slots := 0, locals := 22 }) (cPc dC dI cI cJ [.ref (aM 0), .int i1, .int i2] [k4_0 aM vM, k4_1 cI aM vM, k4_2 cI aM vM, k4_3 cI aM vM, k4_4 cI aM vM, k4_5 cJ aM vM, k4_6 cI aM vM, k4_7 cJ aM vM, k4_8 cJ aM vM, k4_9 cI aM vM] sz) (va_Qi (fun r (_ : Unit) => r = y.1) (fun _ t => cB dC dI (va_A [k4_0 aM vM, k4_1 cI aM vM, k4_2 cI aM vM, k4_3 cI aM vM, k4_4 cI aM vM, k4_5 cJ aM vM, k4_6 cI aM vM, k4_7 cJ aM vM, k4_8 cJ aM vM, k4_9 cI aM vM] sz) [k4_0 aM y.2, k4_1 cI aM y.2, k4_2 cI aM y.2, k4_3 cI aM y.2, k4_4 cI aM y.2, k4_5 cJ aM y.2, k4_6 cI aM y.2, k4_7 cJ aM y.2, k4_8 cJ aM y.2, k4_9 cI aM y.2] t) (va_A [k4_0 aM vM, k4_1 cI aM vM, k4_2 cI aM vM, k4_3 cI aM vM, k4_4 cI aM vM, k4_5 cJ aM vM, k4_6 cI aM vM, k4_7 cJ aM vM, k4_8 cJ aM vM, k4_9 cI aM vM] sz)) 0 0 (va_A [k4_0 aM vM, k4_1 cI aM vM, k4_2 cI aM vM, k4_3 cI aM vM, k4_4 cI aM vM, k4_5 cJ aM vM, k4_6 cI aM vM, k4_7 cJ aM vM, k4_8 cJ aM vM, k4_9 cI aM vM] sz) := by
  refine Met.ofW (cc := cX4_load) (maxL := 4) (ret := (some .int)) (by decide) rfl ?_
  intro p e s m args below meth c s₁ B hml hv
  obtain ⟨rfl, hsz, hP, hK, hD0, hN⟩ := hv
  have hx := B.exec
  have hb := B.bytes
  have hr := B.returns
  have hts := atoms_spec (ws := wsX4_load) B.pre
  have hown : s.vm.findClass RX4 = some m.cls := findClass_of_methodNamed B.named
  have hlocks := B.notSynchronized
  subst hsz
  have hD := hD0.self (sz := s.heap.size)
  generalize hAe : va_A [k4_0 aM vM, k4_1 cI aM vM, k4_2 cI aM vM, k4_3 cI aM vM, k4_4 cI aM vM, k4_5 cJ aM vM, k4_6 cI aM vM, k4_7 cJ aM vM, k4_8 cJ aM vM, k4_9 cI aM vM] s.heap.size = A at hD hN ⊢
  have hA : ∀ q : Nat, s.heap.size ≤ q → A q := fun q h => by rw [← hAe]; exact Or.inr h
  have hP : va_P (dC, dI) vwCl [k4_0 aM vM, k4_1 cI aM vM, k4_2 cI aM vM, k4_3 cI aM vM, k4_4 cI aM vM, k4_5 cJ aM vM, k4_6 cI aM vM, k4_7 cJ aM vM, k4_8 cJ aM vM, k4_9 cI aM vM] s.heap := hP
  have hl := lv_entry ([.ref (aM 0), .int i1, .int i2]) (n := 4) (Nat.le_of_ble_eq_true rfl)
  rw [lg_entry_eq]
  generalize (lg_sl ([.ref (aM 0), .int i1, .int i2]) ++ List.replicate (4 - (lg_sl ([.ref (aM 0), .int i1, .int i2])).length) Slot.unset).toArray = ls at hl ⊢
  have hl : lv_has ls 4 [(0, .ref (aM 0)), (1, .int i1), (2, .int i2)] := hl
  have hc57 := hts (.constant RX4 57 (-1000001)) (by decide +kernel)
  have hiX4 : ∀ w ∈ u_ws RX4 TX4 21, w ∈ wsX4_load := by decide +kernel
  have hgX4_7 := hts (.fieldLink RX4 7 "SpringPlatesModel" "s" "[I") (by decide +kernel)
  refine nameH (fun H locs hHe hLe => ?_)
  have hP : va_P (dC, dI) vwCl [k4_0 aM vM, k4_1 cI aM vM, k4_2 cI aM vM, k4_3 cI aM vM, k4_4 cI aM vM, k4_5 cJ aM vM, k4_6 cI aM vM, k4_7 cJ aM vM, k4_8 cJ aM vM, k4_9 cI aM vM] H := by rw [hHe]; exact hP
  have hS : va_S A s.heap H locs := by rw [hHe, hLe]; exact va_S.rf
  unfold fX4_load at hf
  refine lv_aload_n hx hb dX4_load_0 rfl (lv_at hl 0 rfl) ?_
  refine lv_iload_n hx hb dX4_load_1 rfl (lv_at hl 1 rfl) ?_
  obtain ⟨y1, hy1, hf⟩ := obind hf
  refine cg_i (ws := [k4_0 aM vM, k4_1 cI aM vM, k4_2 cI aM vM, k4_3 cI aM vM, k4_4 cI aM vM, k4_5 cJ aM vM, k4_6 cI aM vM, k4_7 cJ aM vM, k4_8 cJ aM vM, k4_9 cI aM vM]) (wc := [k4_0 aM vM, k4_1 cI aM vM, k4_2 cI aM vM, k4_3 cI aM vM, k4_4 cI aM vM, k4_5 cJ aM vM, k4_6 cI aM vM, k4_7 cJ aM vM, k4_8 cJ aM vM, k4_9 cI aM vM]) (wr := []) (w1 := [k4_0 aM vM, k4_1 cI aM vM, k4_2 cI aM vM, k4_3 cI aM vM, k4_4 cI aM vM, k4_5 cJ aM vM, k4_6 cI aM vM, k4_7 cJ aM vM, k4_8 cJ aM vM, k4_9 cI aM vM]) (wo := [k4_0 aM vM, k4_1 cI aM vM, k4_2 cI aM vM, k4_3 cI aM vM, k4_4 cI aM vM, k4_5 cJ aM vM, k4_6 cI aM vM, k4_7 cJ aM vM, k4_8 cJ aM vM, k4_9 cI aM vM]) hP hD hS hA (va_runV (As := [.int i1]) (rest := []) ⟨hx, hb, hml, hown, hts⟩ (mX4_isPlate l dC dI cI cJ aM H.size vM i1 y1 hy1) (cwV 1 hts gX4_load_X4_isPlate rfl rfl rfl (by decide +kernel) ⟨Nat.le_of_ble_eq_true rfl, Nat.le_of_ble_eq_true rfl⟩) ⟨cFB, va_recv hK hP (ci := 4) (q0 := 0) rfl rfl, cPre hK hN hS (va_free (wc := [k4_0 aM vM, k4_1 cI aM vM, k4_2 cI aM vM, k4_3 cI aM vM, k4_4 cI aM vM, k4_5 cJ aM vM, k4_6 cI aM vM, k4_7 cJ aM vM, k4_8 cJ aM vM, k4_9 cI aM vM]) hD hS hA [0, 1, 2, 3, 4, 5, 6, 7, 8, 9] rfl) (hP.sub [0, 1, 2, 3, 4, 5, 6, 7, 8, 9] rfl) (hD.sub [0, 1, 2, 3, 4, 5, 6, 7, 8, 9] rfl rfl)⟩ rfl rfl hl.1 rfl (lv_room (Nat.le_of_ble_eq_true rfl)) dX4_load_2 ⟨Nat.le_of_ble_eq_true rfl, Nat.le_of_ble_eq_true rfl⟩) [0, 1, 2, 3, 4, 5, 6, 7, 8, 9] [] [0, 1, 2, 3, 4, 5, 6, 7, 8, 9] rfl rfl rfl (by decide +kernel) rfl rfl (fun H locs hP hD hS => ?_)
  refine lv_if_eq (tgt := 19) hx hb dX4_load_5 (by decide) (fun c2 => ?_) (fun c2 => ?_)
  · have hf := oif_t c2 hf
    refine lv_ldc (v := (-1000001)) hx hb hown hc57 dX4_load_19 ?_
    obtain rfl := Option.some.inj hf
    exact W.iret (v := (-1000001)) hx hb hr (fun t ht hW => ⟨⟨(-1000001), (), rfl, rfl, by rw [ht]; exact hP, hD⟩, hS.F ht⟩) hS.2.2 dX4_load_21
  · have hf := oif_f c2 hf
    refine lv_iload_n hx hb dX4_load_8 rfl (lv_at hl 2 rfl) ?_
    refine lv_bipush (v := (-99)) hx hb dX4_load_9 (by decide) ?_
    refine lv_bipush (v := 99) hx hb dX4_load_11 (by decide) ?_
    obtain ⟨y3, hy3, hf⟩ := obind hf
    refine cg_i (ws := [k4_0 aM vM, k4_1 cI aM vM, k4_2 cI aM vM, k4_3 cI aM vM, k4_4 cI aM vM, k4_5 cJ aM vM, k4_6 cI aM vM, k4_7 cJ aM vM, k4_8 cJ aM vM, k4_9 cI aM vM]) (wc := []) (wr := [k4_0 aM vM, k4_1 cI aM vM, k4_2 cI aM vM, k4_3 cI aM vM, k4_4 cI aM vM, k4_5 cJ aM vM, k4_6 cI aM vM, k4_7 cJ aM vM, k4_8 cJ aM vM, k4_9 cI aM vM]) (w1 := []) (wo := [k4_0 aM vM, k4_1 cI aM vM, k4_2 cI aM vM, k4_3 cI aM vM, k4_4 cI aM vM, k4_5 cJ aM vM, k4_6 cI aM vM, k4_7 cJ aM vM, k4_8 cJ aM vM, k4_9 cI aM vM]) hP hD hS hA (va_runS (As := [.int i2, .int (-99), .int 99]) (rest := []) ⟨hx, hb, hml, hown, hts⟩ (mX4_in l dC dI cI cJ  H.size i2 (-99 : Int32) (99 : Int32) y3 hy3) (va_cwS 3 hts gX4_load_X4_in rfl rfl rfl (by decide +kernel) ⟨Nat.le_of_ble_eq_true rfl, Nat.le_of_ble_eq_true rfl⟩) ⟨cFB, cPre hK hN hS (va_free (wc := []) hD hS hA [] rfl) (hP.sub [] rfl) (hD.sub [] rfl rfl)⟩ rfl rfl hl.1 rfl (lv_room (Nat.le_of_ble_eq_true rfl)) dX4_load_13 ⟨Nat.le_of_ble_eq_true rfl, Nat.le_of_ble_eq_true rfl⟩) [] [0, 1, 2, 3, 4, 5, 6, 7, 8, 9] [0, 1, 2, 3, 4, 5, 6, 7, 8, 9] rfl rfl rfl (by decide +kernel) rfl rfl (fun H locs hP hD hS => ?_)
    refine lv_if_ne (tgt := 22) hx hb dX4_load_16 (by decide) (fun c4 => ?_) (fun c4 => ?_)
    · have hf := oif_f c4 hf
      refine lv_aload_n hx hb dX4_load_22 rfl (lv_at hl 0 rfl) ?_
      obtain ⟨y5, hy5, hf⟩ := obind hf
      refine cg_v (ws := [k4_0 aM vM, k4_1 cI aM vM, k4_2 cI aM vM, k4_3 cI aM vM, k4_4 cI aM vM, k4_5 cJ aM vM, k4_6 cI aM vM, k4_7 cJ aM vM, k4_8 cJ aM vM, k4_9 cI aM vM]) (wc := [k4_0 aM vM, k4_1 cI aM vM, k4_2 cI aM vM, k4_3 cI aM vM, k4_4 cI aM vM, k4_5 cJ aM vM, k4_6 cI aM vM, k4_7 cJ aM vM, k4_8 cJ aM vM, k4_9 cI aM vM]) (wr := []) (w1 := [k4_0 aM y5, k4_1 cI aM y5, k4_2 cI aM y5, k4_3 cI aM y5, k4_4 cI aM y5, k4_5 cJ aM y5, k4_6 cI aM y5, k4_7 cJ aM y5, k4_8 cJ aM y5, k4_9 cI aM y5]) (wo := [k4_0 aM y5, k4_1 cI aM y5, k4_2 cI aM y5, k4_3 cI aM y5, k4_4 cI aM y5, k4_5 cJ aM y5, k4_6 cI aM y5, k4_7 cJ aM y5, k4_8 cJ aM y5, k4_9 cI aM y5]) hP hD hS hA (va_runV (As := []) (rest := []) ⟨hx, hb, hml, hown, hts⟩ (mX4_changes l dC dI cI cJ aM H.size vM y5 hy5) (cwV 0 hts gX4_load_X4_changes rfl rfl rfl (by decide +kernel) ⟨Nat.le_of_ble_eq_true rfl, Nat.le_of_ble_eq_true rfl⟩) ⟨cFB, va_recv hK hP (ci := 4) (q0 := 0) rfl rfl, cPre hK hN hS (va_free (wc := [k4_0 aM vM, k4_1 cI aM vM, k4_2 cI aM vM, k4_3 cI aM vM, k4_4 cI aM vM, k4_5 cJ aM vM, k4_6 cI aM vM, k4_7 cJ aM vM, k4_8 cJ aM vM, k4_9 cI aM vM]) hD hS hA [0, 1, 2, 3, 4, 5, 6, 7, 8, 9] rfl) (hP.sub [0, 1, 2, 3, 4, 5, 6, 7, 8, 9] rfl) (hD.sub [0, 1, 2, 3, 4, 5, 6, 7, 8, 9] rfl rfl)⟩ rfl rfl hl.1 rfl (lv_room (Nat.le_of_ble_eq_true rfl)) dX4_load_23 ⟨Nat.le_of_ble_eq_true rfl, Nat.le_of_ble_eq_true rfl⟩) [0, 1, 2, 3, 4, 5, 6, 7, 8, 9] [] [0, 1, 2, 3, 4, 5, 6, 7, 8, 9] rfl rfl rfl (by decide +kernel) rfl rfl (fun H locs hP hD hS => ?_)
      refine lv_aload_n hx hb dX4_load_26 rfl (lv_at hl 0 rfl) ?_
      refine va_get (D := (dC, dI)) (ci := 4) (v := .ref (aM 1)) (C := RX4) (T := TX4) (N := 21) hx hb hts hiX4 hown hK hP 0 rfl rfl 0 (by decide) hgX4_7 (fun _ h9 => h9) rfl dX4_load_27 ?_
      refine lv_bipush (v := 12) hx hb dX4_load_30 (by decide) ?_
      refine lv_iload_n hx hb dX4_load_32 rfl (lv_at hl 1 rfl) ?_
      refine lv_iadd hx hb dX4_load_33 ?_
      obtain ⟨hi6, hf⟩ := oinb rfl hf
      refine va_iald hx hb hK hP 1 0 rfl rfl hi6 dX4_load_34 ?_
      obtain ⟨z7, ez7, hf⟩ := elet_out hf
      refine lvn_i ez7 ?_
      refine lv_istore_n (lv' := [(3, .int z7), (0, .ref (aM 0)), (1, .int i1), (2, .int i2)]) hx hb dX4_load_35 rfl hl (by decide) rfl (fun ls hl => ?_)
      refine lv_aload_n hx hb dX4_load_36 rfl (lv_at hl 1 rfl) ?_
      refine va_get (D := (dC, dI)) (ci := 4) (v := .ref (aM 1)) (C := RX4) (T := TX4) (N := 21) hx hb hts hiX4 hown hK hP 0 rfl rfl 0 (by decide) hgX4_7 (fun _ h9 => h9) rfl dX4_load_37 ?_
      refine lv_bipush (v := 12) hx hb dX4_load_40 (by decide) ?_
      refine lv_iload_n hx hb dX4_load_42 rfl (lv_at hl 2 rfl) ?_
      refine lv_iadd hx hb dX4_load_43 ?_
      refine lv_iload_n hx hb dX4_load_44 rfl (lv_at hl 3 rfl) ?_
      obtain ⟨hi8, hf⟩ := oinb rfl hf
      obtain ⟨b9, eb9, hf⟩ := elet_out hf
      refine va_iast hx hb hK hP hD hS 1 0 rfl rfl hi8 dX4_load_45 (fun H locs hP hD hS => ?_)
      have hP : va_P (dC, dI) vwCl [k4_0 aM b9, k4_1 cI aM b9, k4_2 cI aM b9, k4_3 cI aM b9, k4_4 cI aM b9, k4_5 cJ aM b9, k4_6 cI aM b9, k4_7 cJ aM b9, k4_8 cJ aM b9, k4_9 cI aM b9] H := by rw [eb9]; exact hP
      have hD : va_D A [k4_0 aM b9, k4_1 cI aM b9, k4_2 cI aM b9, k4_3 cI aM b9, k4_4 cI aM b9, k4_5 cJ aM b9, k4_6 cI aM b9, k4_7 cJ aM b9, k4_8 cJ aM b9, k4_9 cI aM b9] := by rw [eb9]; exact hD
      refine lv_iload_n hx hb dX4_load_46 rfl (lv_at hl 0 rfl) ?_
      refine lv_sipush (v := 1000) hx hb dX4_load_47 (by decide) ?_
      refine lv_iadd hx hb dX4_load_50 ?_
      obtain rfl := Option.some.inj hf
      exact W.iret (v := (z7 + (1000 : Int32))) hx hb hr (fun t ht hW => ⟨⟨(z7 + (1000 : Int32)), (), rfl, rfl, by rw [ht]; exact hP, hD⟩, hS.F ht⟩) hS.2.2 dX4_load_51
    · have hf := oif_t c4 hf
      refine lv_ldc (v := (-1000001)) hx hb hown hc57 dX4_load_19 ?_
      obtain rfl := Option.some.inj hf
      exact W.iret (v := (-1000001)) hx hb hr (fun t ht hW => ⟨⟨(-1000001), (), rfl, rfl, by rw [ht]; exact hP, hD⟩, hS.F ht⟩) hS.2.2 dX4_load_21
def fX4_stopAt (vM : BX4) (i1 : Int32) (i2 : Int32) : Option Int32 :=
  if i2 = 0 then (some ((16 : Int32) + i1)) else (some ((20 : Int32) + i1))
set_option maxHeartbeats 8000000 in
set_option maxRecDepth 100000 in
theorem mX4_stopAt (l : Launch) (dC : Nat → ClassId) (dI : Nat → Nat → Nat) (cI cJ : ClassId) (aM : Nat → Nat) (sz : Nat) (vM : BX4) (i1 : Int32) (i2 : Int32) (y : Int32) (hf : fX4_stopAt vM i1 i2 = some y) : Met l yX4_stopAt wsX4_stopAt ({ frames := 0, cells := 0, slots := 0, locals := 0 }) (cPc dC dI cI cJ [.ref (aM 0), .int i1, .int i2] [k4_0 aM vM, k4_1 cI aM vM, k4_2 cI aM vM, k4_3 cI aM vM, k4_4 cI aM vM, k4_5 cJ aM vM, k4_6 cI aM vM, k4_7 cJ aM vM, k4_8 cJ aM vM, k4_9 cI aM vM] sz) (va_Qi (fun r (_ : Unit) => r = y) (fun _ t => cB dC dI (va_A [k4_0 aM vM, k4_1 cI aM vM, k4_2 cI aM vM, k4_3 cI aM vM, k4_4 cI aM vM, k4_5 cJ aM vM, k4_6 cI aM vM, k4_7 cJ aM vM, k4_8 cJ aM vM, k4_9 cI aM vM] sz) [k4_0 aM vM, k4_1 cI aM vM, k4_2 cI aM vM, k4_3 cI aM vM, k4_4 cI aM vM, k4_5 cJ aM vM, k4_6 cI aM vM, k4_7 cJ aM vM, k4_8 cJ aM vM, k4_9 cI aM vM] t) (va_A [k4_0 aM vM, k4_1 cI aM vM, k4_2 cI aM vM, k4_3 cI aM vM, k4_4 cI aM vM, k4_5 cJ aM vM, k4_6 cI aM vM, k4_7 cJ aM vM, k4_8 cJ aM vM, k4_9 cI aM vM] sz)) 0 0 (va_A [k4_0 aM vM, k4_1 cI aM vM, k4_2 cI aM vM, k4_3 cI aM vM, k4_4 cI aM vM, k4_5 cJ aM vM, k4_6 cI aM vM, k4_7 cJ aM vM, k4_8 cJ aM vM, k4_9 cI aM vM] sz) := by
  refine Met.ofW (cc := cX4_stopAt) (maxL := 3) (ret := (some .int)) (by decide) rfl ?_
  intro p e s m args below meth c s₁ B hml hv
  obtain ⟨rfl, hsz, hP, hK, hD0, hN⟩ := hv
  have hx := B.exec
  have hb := B.bytes
  have hr := B.returns
  have hts := atoms_spec (ws := wsX4_stopAt) B.pre
  have hown : s.vm.findClass RX4 = some m.cls := findClass_of_methodNamed B.named
  have hlocks := B.notSynchronized
  subst hsz
  have hD := hD0.self (sz := s.heap.size)
  generalize hAe : va_A [k4_0 aM vM, k4_1 cI aM vM, k4_2 cI aM vM, k4_3 cI aM vM, k4_4 cI aM vM, k4_5 cJ aM vM, k4_6 cI aM vM, k4_7 cJ aM vM, k4_8 cJ aM vM, k4_9 cI aM vM] s.heap.size = A at hD hN ⊢
  have hA : ∀ q : Nat, s.heap.size ≤ q → A q := fun q h => by rw [← hAe]; exact Or.inr h
  have hP : va_P (dC, dI) vwCl [k4_0 aM vM, k4_1 cI aM vM, k4_2 cI aM vM, k4_3 cI aM vM, k4_4 cI aM vM, k4_5 cJ aM vM, k4_6 cI aM vM, k4_7 cJ aM vM, k4_8 cJ aM vM, k4_9 cI aM vM] s.heap := hP
  have hl := lv_entry ([.ref (aM 0), .int i1, .int i2]) (n := 3) (Nat.le_of_ble_eq_true rfl)
  rw [lg_entry_eq]
  generalize (lg_sl ([.ref (aM 0), .int i1, .int i2]) ++ List.replicate (3 - (lg_sl ([.ref (aM 0), .int i1, .int i2])).length) Slot.unset).toArray = ls at hl ⊢
  have hl : lv_has ls 3 [(0, .ref (aM 0)), (1, .int i1), (2, .int i2)] := hl
  refine nameH (fun H locs hHe hLe => ?_)
  have hP : va_P (dC, dI) vwCl [k4_0 aM vM, k4_1 cI aM vM, k4_2 cI aM vM, k4_3 cI aM vM, k4_4 cI aM vM, k4_5 cJ aM vM, k4_6 cI aM vM, k4_7 cJ aM vM, k4_8 cJ aM vM, k4_9 cI aM vM] H := by rw [hHe]; exact hP
  have hS : va_S A s.heap H locs := by rw [hHe, hLe]; exact va_S.rf
  unfold fX4_stopAt at hf
  refine lv_iload_n hx hb dX4_stopAt_0 rfl (lv_at hl 2 rfl) ?_
  refine lv_if_ne (tgt := 9) hx hb dX4_stopAt_1 (by decide) (fun c1 => ?_) (fun c1 => ?_)
  · have hf := oif_f c1 hf
    refine lv_bipush (v := 20) hx hb dX4_stopAt_9 (by decide) ?_
    refine lv_iload_n hx hb dX4_stopAt_11 rfl (lv_at hl 1 rfl) ?_
    refine lv_iadd hx hb dX4_stopAt_12 ?_
    obtain rfl := Option.some.inj hf
    exact W.iret (v := ((20 : Int32) + i1)) hx hb hr (fun t ht hW => ⟨⟨((20 : Int32) + i1), (), rfl, rfl, by rw [ht]; exact hP, hD⟩, hS.F ht⟩) hS.2.2 dX4_stopAt_13
  · have hf := oif_t c1 hf
    refine lv_bipush (v := 16) hx hb dX4_stopAt_4 (by decide) ?_
    refine lv_goto (tgt := 11) hx hb dX4_stopAt_6 (by decide) ?_
    refine lv_iload_n hx hb dX4_stopAt_11 rfl (lv_at hl 1 rfl) ?_
    refine lv_iadd hx hb dX4_stopAt_12 ?_
    obtain rfl := Option.some.inj hf
    exact W.iret (v := ((16 : Int32) + i1)) hx hb hr (fun t ht hW => ⟨⟨((16 : Int32) + i1), (), rfl, rfl, by rw [ht]; exact hP, hD⟩, hS.F ht⟩) hS.2.2 dX4_stopAt_13
def fX4_stop (vM : BX4) (i1 : Int32) (i2 : Int32) (i3 : Int32) : Option (Int32 × BX4) :=
  (fX4_isPlate vM i1).bind (fun y1 => if y1 = 0 then (some ((-1000001), vM)) else ((fX4_in i2 (0 : Int32) (1 : Int32)).bind (fun y3 => if y3 = 0 then (some ((-1000001), vM)) else ((fX4_in i3 (0 : Int32) ((p4_s vM) ((0 : Int32)).toNatClampNeg)).bind (fun y5 => if y5 = 0 then (some ((-1000001), vM)) else ((fX4_stopAt vM i1 i2).bind (fun y7 => if inB y7 24 = true then (elet ((p4_s vM) (y7).toNatClampNeg) (fun z9 => if inB y7 24 = true then (elet (s4_s vM (upd (p4_s vM) (y7).toNatClampNeg i3)) (fun b11 => (fX4_isAllowed b11).bind (fun y12 => if inB y7 24 = true then (elet (s4_s b11 (upd (p4_s b11) (y7).toNatClampNeg z9)) (fun b14 => if y12 = 0 then (some ((-1000002), b14)) else ((fX4_changes b14).bind (fun y16 => if inB y7 24 = true then (elet (s4_s y16 (upd (p4_s y16) (y7).toNatClampNeg i3)) (fun b18 => some (z9, b18))) else none)))) else none))) else none)) else none)))))))
set_option maxHeartbeats 8000000 in
set_option maxRecDepth 100000 in
theorem mX4_stop (l : Launch) (dC : Nat → ClassId) (dI : Nat → Nat → Nat) (cI cJ : ClassId) (aM : Nat → Nat) (sz : Nat) (vM : BX4) (i1 : Int32) (i2 : Int32) (i3 : Int32) (y : (Int32 × BX4)) (hf : fX4_stop vM i1 i2 i3 = some y) : Met l yX4_stop wsX4_stop ({ frames := 2, cells := 0, slots := 0, locals := 44 }) (cPc dC dI cI cJ [.ref (aM 0), .int i1, .int i2, .int i3] [k4_0 aM vM, k4_1 cI aM vM, k4_2 cI aM vM, k4_3 cI aM vM, k4_4 cI aM vM, k4_5 cJ aM vM, k4_6 cI aM vM, k4_7 cJ aM vM, k4_8 cJ aM vM, k4_9 cI aM vM] sz) (va_Qi (fun r (_ : Unit) => r = y.1) (fun _ t => cB dC dI (va_A [k4_0 aM vM, k4_1 cI aM vM, k4_2 cI aM vM, k4_3 cI aM vM, k4_4 cI aM vM, k4_5 cJ aM vM, k4_6 cI aM vM, k4_7 cJ aM vM, k4_8 cJ aM vM, k4_9 cI aM vM] sz) [k4_0 aM y.2, k4_1 cI aM y.2, k4_2 cI aM y.2, k4_3 cI aM y.2, k4_4 cI aM y.2, k4_5 cJ aM y.2, k4_6 cI aM y.2, k4_7 cJ aM y.2, k4_8 cJ aM y.2, k4_9 cI aM y.2] t) (va_A [k4_0 aM vM, k4_1 cI aM vM, k4_2 cI aM vM, k4_3 cI aM vM, k4_4 cI aM vM, k4_5 cJ aM vM, k4_6 cI aM vM, k4_7 cJ aM vM, k4_8 cJ aM vM, k4_9 cI aM vM] sz)) 0 0 (va_A [k4_0 aM vM, k4_1 cI aM vM, k4_2 cI aM vM, k4_3 cI aM vM, k4_4 cI aM vM, k4_5 cJ aM vM, k4_6 cI aM vM, k4_7 cJ aM vM, k4_8 cJ aM vM, k4_9 cI aM vM] sz) := by
  refine Met.ofW (cc := cX4_stop) (maxL := 7) (ret := (some .int)) (by decide) rfl ?_
  intro p e s m args below meth c s₁ B hml hv
  obtain ⟨rfl, hsz, hP, hK, hD0, hN⟩ := hv
  have hx := B.exec
  have hb := B.bytes
  have hr := B.returns
  have hts := atoms_spec (ws := wsX4_stop) B.pre
  have hown : s.vm.findClass RX4 = some m.cls := findClass_of_methodNamed B.named
  have hlocks := B.notSynchronized
  subst hsz
  have hD := hD0.self (sz := s.heap.size)
  generalize hAe : va_A [k4_0 aM vM, k4_1 cI aM vM, k4_2 cI aM vM, k4_3 cI aM vM, k4_4 cI aM vM, k4_5 cJ aM vM, k4_6 cI aM vM, k4_7 cJ aM vM, k4_8 cJ aM vM, k4_9 cI aM vM] s.heap.size = A at hD hN ⊢
  have hA : ∀ q : Nat, s.heap.size ≤ q → A q := fun q h => by rw [← hAe]; exact Or.inr h
  have hP : va_P (dC, dI) vwCl [k4_0 aM vM, k4_1 cI aM vM, k4_2 cI aM vM, k4_3 cI aM vM, k4_4 cI aM vM, k4_5 cJ aM vM, k4_6 cI aM vM, k4_7 cJ aM vM, k4_8 cJ aM vM, k4_9 cI aM vM] s.heap := hP
  have hl := lv_entry ([.ref (aM 0), .int i1, .int i2, .int i3]) (n := 7) (Nat.le_of_ble_eq_true rfl)
  rw [lg_entry_eq]
  generalize (lg_sl ([.ref (aM 0), .int i1, .int i2, .int i3]) ++ List.replicate (7 - (lg_sl ([.ref (aM 0), .int i1, .int i2, .int i3])).length) Slot.unset).toArray = ls at hl ⊢
  have hl : lv_has ls 7 [(0, .ref (aM 0)), (1, .int i1), (2, .int i2), (3, .int i3)] := hl
  have hc57 := hts (.constant RX4 57 (-1000001)) (by decide +kernel)
  have hiX4 : ∀ w ∈ u_ws RX4 TX4 21, w ∈ wsX4_stop := by decide +kernel
  have hgX4_7 := hts (.fieldLink RX4 7 "SpringPlatesModel" "s" "[I") (by decide +kernel)
  have hc58 := hts (.constant RX4 58 (-1000002)) (by decide +kernel)
  refine nameH (fun H locs hHe hLe => ?_)
  have hP : va_P (dC, dI) vwCl [k4_0 aM vM, k4_1 cI aM vM, k4_2 cI aM vM, k4_3 cI aM vM, k4_4 cI aM vM, k4_5 cJ aM vM, k4_6 cI aM vM, k4_7 cJ aM vM, k4_8 cJ aM vM, k4_9 cI aM vM] H := by rw [hHe]; exact hP
  have hS : va_S A s.heap H locs := by rw [hHe, hLe]; exact va_S.rf
  unfold fX4_stop at hf
  refine lv_aload_n hx hb dX4_stop_0 rfl (lv_at hl 0 rfl) ?_
  refine lv_iload_n hx hb dX4_stop_1 rfl (lv_at hl 1 rfl) ?_
  obtain ⟨y1, hy1, hf⟩ := obind hf
  refine cg_i (ws := [k4_0 aM vM, k4_1 cI aM vM, k4_2 cI aM vM, k4_3 cI aM vM, k4_4 cI aM vM, k4_5 cJ aM vM, k4_6 cI aM vM, k4_7 cJ aM vM, k4_8 cJ aM vM, k4_9 cI aM vM]) (wc := [k4_0 aM vM, k4_1 cI aM vM, k4_2 cI aM vM, k4_3 cI aM vM, k4_4 cI aM vM, k4_5 cJ aM vM, k4_6 cI aM vM, k4_7 cJ aM vM, k4_8 cJ aM vM, k4_9 cI aM vM]) (wr := []) (w1 := [k4_0 aM vM, k4_1 cI aM vM, k4_2 cI aM vM, k4_3 cI aM vM, k4_4 cI aM vM, k4_5 cJ aM vM, k4_6 cI aM vM, k4_7 cJ aM vM, k4_8 cJ aM vM, k4_9 cI aM vM]) (wo := [k4_0 aM vM, k4_1 cI aM vM, k4_2 cI aM vM, k4_3 cI aM vM, k4_4 cI aM vM, k4_5 cJ aM vM, k4_6 cI aM vM, k4_7 cJ aM vM, k4_8 cJ aM vM, k4_9 cI aM vM]) hP hD hS hA (va_runV (As := [.int i1]) (rest := []) ⟨hx, hb, hml, hown, hts⟩ (mX4_isPlate l dC dI cI cJ aM H.size vM i1 y1 hy1) (cwV 1 hts gX4_stop_X4_isPlate rfl rfl rfl (by decide +kernel) ⟨Nat.le_of_ble_eq_true rfl, Nat.le_of_ble_eq_true rfl⟩) ⟨cFB, va_recv hK hP (ci := 4) (q0 := 0) rfl rfl, cPre hK hN hS (va_free (wc := [k4_0 aM vM, k4_1 cI aM vM, k4_2 cI aM vM, k4_3 cI aM vM, k4_4 cI aM vM, k4_5 cJ aM vM, k4_6 cI aM vM, k4_7 cJ aM vM, k4_8 cJ aM vM, k4_9 cI aM vM]) hD hS hA [0, 1, 2, 3, 4, 5, 6, 7, 8, 9] rfl) (hP.sub [0, 1, 2, 3, 4, 5, 6, 7, 8, 9] rfl) (hD.sub [0, 1, 2, 3, 4, 5, 6, 7, 8, 9] rfl rfl)⟩ rfl rfl hl.1 rfl (lv_room (Nat.le_of_ble_eq_true rfl)) dX4_stop_2 ⟨Nat.le_of_ble_eq_true rfl, Nat.le_of_ble_eq_true rfl⟩) [0, 1, 2, 3, 4, 5, 6, 7, 8, 9] [] [0, 1, 2, 3, 4, 5, 6, 7, 8, 9] rfl rfl rfl (by decide +kernel) rfl rfl (fun H locs hP hD hS => ?_)
  refine lv_if_eq (tgt := 31) hx hb dX4_stop_5 (by decide) (fun c2 => ?_) (fun c2 => ?_)
  · have hf := oif_t c2 hf
    refine lv_ldc (v := (-1000001)) hx hb hown hc57 dX4_stop_31 ?_
    obtain rfl := Option.some.inj hf
    exact W.iret (v := (-1000001)) hx hb hr (fun t ht hW => ⟨⟨(-1000001), (), rfl, rfl, by rw [ht]; exact hP, hD⟩, hS.F ht⟩) hS.2.2 dX4_stop_33
  · have hf := oif_f c2 hf
    refine lv_iload_n hx hb dX4_stop_8 rfl (lv_at hl 2 rfl) ?_
    refine lv_iconst (v := 0) hx hb dX4_stop_9 (by decide) ?_
    refine lv_iconst (v := 1) hx hb dX4_stop_10 (by decide) ?_
    obtain ⟨y3, hy3, hf⟩ := obind hf
    refine cg_i (ws := [k4_0 aM vM, k4_1 cI aM vM, k4_2 cI aM vM, k4_3 cI aM vM, k4_4 cI aM vM, k4_5 cJ aM vM, k4_6 cI aM vM, k4_7 cJ aM vM, k4_8 cJ aM vM, k4_9 cI aM vM]) (wc := []) (wr := [k4_0 aM vM, k4_1 cI aM vM, k4_2 cI aM vM, k4_3 cI aM vM, k4_4 cI aM vM, k4_5 cJ aM vM, k4_6 cI aM vM, k4_7 cJ aM vM, k4_8 cJ aM vM, k4_9 cI aM vM]) (w1 := []) (wo := [k4_0 aM vM, k4_1 cI aM vM, k4_2 cI aM vM, k4_3 cI aM vM, k4_4 cI aM vM, k4_5 cJ aM vM, k4_6 cI aM vM, k4_7 cJ aM vM, k4_8 cJ aM vM, k4_9 cI aM vM]) hP hD hS hA (va_runS (As := [.int i2, .int 0, .int 1]) (rest := []) ⟨hx, hb, hml, hown, hts⟩ (mX4_in l dC dI cI cJ  H.size i2 (0 : Int32) (1 : Int32) y3 hy3) (va_cwS 3 hts gX4_stop_X4_in rfl rfl rfl (by decide +kernel) ⟨Nat.le_of_ble_eq_true rfl, Nat.le_of_ble_eq_true rfl⟩) ⟨cFB, cPre hK hN hS (va_free (wc := []) hD hS hA [] rfl) (hP.sub [] rfl) (hD.sub [] rfl rfl)⟩ rfl rfl hl.1 rfl (lv_room (Nat.le_of_ble_eq_true rfl)) dX4_stop_11 ⟨Nat.le_of_ble_eq_true rfl, Nat.le_of_ble_eq_true rfl⟩) [] [0, 1, 2, 3, 4, 5, 6, 7, 8, 9] [0, 1, 2, 3, 4, 5, 6, 7, 8, 9] rfl rfl rfl (by decide +kernel) rfl rfl (fun H locs hP hD hS => ?_)
    refine lv_if_eq (tgt := 31) hx hb dX4_stop_14 (by decide) (fun c4 => ?_) (fun c4 => ?_)
    · have hf := oif_t c4 hf
      refine lv_ldc (v := (-1000001)) hx hb hown hc57 dX4_stop_31 ?_
      obtain rfl := Option.some.inj hf
      exact W.iret (v := (-1000001)) hx hb hr (fun t ht hW => ⟨⟨(-1000001), (), rfl, rfl, by rw [ht]; exact hP, hD⟩, hS.F ht⟩) hS.2.2 dX4_stop_33
    · have hf := oif_f c4 hf
      refine lv_iload_n hx hb dX4_stop_17 rfl (lv_at hl 3 rfl) ?_
      refine lv_iconst (v := 0) hx hb dX4_stop_18 (by decide) ?_
      refine lv_aload_n hx hb dX4_stop_19 rfl (lv_at hl 0 rfl) ?_
      refine va_get (D := (dC, dI)) (ci := 4) (v := .ref (aM 1)) (C := RX4) (T := TX4) (N := 21) hx hb hts hiX4 hown hK hP 0 rfl rfl 0 (by decide) hgX4_7 (fun _ h9 => h9) rfl dX4_stop_20 ?_
      refine lv_iconst (v := 0) hx hb dX4_stop_23 (by decide) ?_
      refine va_iald hx hb hK hP 1 0 rfl rfl (vpc rfl) dX4_stop_24 ?_
      obtain ⟨y5, hy5, hf⟩ := obind hf
      refine cg_i (ws := [k4_0 aM vM, k4_1 cI aM vM, k4_2 cI aM vM, k4_3 cI aM vM, k4_4 cI aM vM, k4_5 cJ aM vM, k4_6 cI aM vM, k4_7 cJ aM vM, k4_8 cJ aM vM, k4_9 cI aM vM]) (wc := []) (wr := [k4_0 aM vM, k4_1 cI aM vM, k4_2 cI aM vM, k4_3 cI aM vM, k4_4 cI aM vM, k4_5 cJ aM vM, k4_6 cI aM vM, k4_7 cJ aM vM, k4_8 cJ aM vM, k4_9 cI aM vM]) (w1 := []) (wo := [k4_0 aM vM, k4_1 cI aM vM, k4_2 cI aM vM, k4_3 cI aM vM, k4_4 cI aM vM, k4_5 cJ aM vM, k4_6 cI aM vM, k4_7 cJ aM vM, k4_8 cJ aM vM, k4_9 cI aM vM]) hP hD hS hA (va_runS (As := [.int i3, .int 0, .int ((p4_s vM) ((0 : Int32)).toNatClampNeg)]) (rest := []) ⟨hx, hb, hml, hown, hts⟩ (mX4_in l dC dI cI cJ  H.size i3 (0 : Int32) ((p4_s vM) ((0 : Int32)).toNatClampNeg) y5 hy5) (va_cwS 3 hts gX4_stop_X4_in rfl rfl rfl (by decide +kernel) ⟨Nat.le_of_ble_eq_true rfl, Nat.le_of_ble_eq_true rfl⟩) ⟨cFB, cPre hK hN hS (va_free (wc := []) hD hS hA [] rfl) (hP.sub [] rfl) (hD.sub [] rfl rfl)⟩ rfl rfl hl.1 rfl (lv_room (Nat.le_of_ble_eq_true rfl)) dX4_stop_25 ⟨Nat.le_of_ble_eq_true rfl, Nat.le_of_ble_eq_true rfl⟩) [] [0, 1, 2, 3, 4, 5, 6, 7, 8, 9] [0, 1, 2, 3, 4, 5, 6, 7, 8, 9] rfl rfl rfl (by decide +kernel) rfl rfl (fun H locs hP hD hS => ?_)
      refine lv_if_ne (tgt := 34) hx hb dX4_stop_28 (by decide) (fun c6 => ?_) (fun c6 => ?_)
      · have hf := oif_f c6 hf
        refine lv_aload_n hx hb dX4_stop_34 rfl (lv_at hl 0 rfl) ?_
        refine lv_iload_n hx hb dX4_stop_35 rfl (lv_at hl 1 rfl) ?_
        refine lv_iload_n hx hb dX4_stop_36 rfl (lv_at hl 2 rfl) ?_
        obtain ⟨y7, hy7, hf⟩ := obind hf
        refine cg_i (ws := [k4_0 aM vM, k4_1 cI aM vM, k4_2 cI aM vM, k4_3 cI aM vM, k4_4 cI aM vM, k4_5 cJ aM vM, k4_6 cI aM vM, k4_7 cJ aM vM, k4_8 cJ aM vM, k4_9 cI aM vM]) (wc := [k4_0 aM vM, k4_1 cI aM vM, k4_2 cI aM vM, k4_3 cI aM vM, k4_4 cI aM vM, k4_5 cJ aM vM, k4_6 cI aM vM, k4_7 cJ aM vM, k4_8 cJ aM vM, k4_9 cI aM vM]) (wr := []) (w1 := [k4_0 aM vM, k4_1 cI aM vM, k4_2 cI aM vM, k4_3 cI aM vM, k4_4 cI aM vM, k4_5 cJ aM vM, k4_6 cI aM vM, k4_7 cJ aM vM, k4_8 cJ aM vM, k4_9 cI aM vM]) (wo := [k4_0 aM vM, k4_1 cI aM vM, k4_2 cI aM vM, k4_3 cI aM vM, k4_4 cI aM vM, k4_5 cJ aM vM, k4_6 cI aM vM, k4_7 cJ aM vM, k4_8 cJ aM vM, k4_9 cI aM vM]) hP hD hS hA (va_runV (As := [.int i1, .int i2]) (rest := []) ⟨hx, hb, hml, hown, hts⟩ (mX4_stopAt l dC dI cI cJ aM H.size vM i1 i2 y7 hy7) (cwV 2 hts gX4_stop_X4_stopAt rfl rfl rfl (by decide +kernel) ⟨Nat.le_of_ble_eq_true rfl, Nat.le_of_ble_eq_true rfl⟩) ⟨cFB, va_recv hK hP (ci := 4) (q0 := 0) rfl rfl, cPre hK hN hS (va_free (wc := [k4_0 aM vM, k4_1 cI aM vM, k4_2 cI aM vM, k4_3 cI aM vM, k4_4 cI aM vM, k4_5 cJ aM vM, k4_6 cI aM vM, k4_7 cJ aM vM, k4_8 cJ aM vM, k4_9 cI aM vM]) hD hS hA [0, 1, 2, 3, 4, 5, 6, 7, 8, 9] rfl) (hP.sub [0, 1, 2, 3, 4, 5, 6, 7, 8, 9] rfl) (hD.sub [0, 1, 2, 3, 4, 5, 6, 7, 8, 9] rfl rfl)⟩ rfl rfl hl.1 rfl (lv_room (Nat.le_of_ble_eq_true rfl)) dX4_stop_37 ⟨Nat.le_of_ble_eq_true rfl, Nat.le_of_ble_eq_true rfl⟩) [0, 1, 2, 3, 4, 5, 6, 7, 8, 9] [] [0, 1, 2, 3, 4, 5, 6, 7, 8, 9] rfl rfl rfl (by decide +kernel) rfl rfl (fun H locs hP hD hS => ?_)
        refine lv_istore (lv' := [(4, .int y7), (0, .ref (aM 0)), (1, .int i1), (2, .int i2), (3, .int i3)]) hx hb dX4_stop_40 hl (by decide) rfl (fun ls hl => ?_)
        refine lv_aload_n hx hb dX4_stop_42 rfl (lv_at hl 1 rfl) ?_
        refine va_get (D := (dC, dI)) (ci := 4) (v := .ref (aM 1)) (C := RX4) (T := TX4) (N := 21) hx hb hts hiX4 hown hK hP 0 rfl rfl 0 (by decide) hgX4_7 (fun _ h9 => h9) rfl dX4_stop_43 ?_
        refine lv_iload hx hb dX4_stop_46 (lv_at hl 0 rfl) ?_
        obtain ⟨hi8, hf⟩ := oinb rfl hf
        refine va_iald hx hb hK hP 1 0 rfl rfl hi8 dX4_stop_48 ?_
        obtain ⟨z9, ez9, hf⟩ := elet_out hf
        refine lvn_i ez9 ?_
        refine lv_istore (lv' := [(5, .int z9), (4, .int y7), (0, .ref (aM 0)), (1, .int i1), (2, .int i2), (3, .int i3)]) hx hb dX4_stop_49 hl (by decide) rfl (fun ls hl => ?_)
        refine lv_aload_n hx hb dX4_stop_51 rfl (lv_at hl 2 rfl) ?_
        refine va_get (D := (dC, dI)) (ci := 4) (v := .ref (aM 1)) (C := RX4) (T := TX4) (N := 21) hx hb hts hiX4 hown hK hP 0 rfl rfl 0 (by decide) hgX4_7 (fun _ h9 => h9) rfl dX4_stop_52 ?_
        refine lv_iload hx hb dX4_stop_55 (lv_at hl 1 rfl) ?_
        refine lv_iload_n hx hb dX4_stop_57 rfl (lv_at hl 5 rfl) ?_
        obtain ⟨hi10, hf⟩ := oinb rfl hf
        obtain ⟨b11, eb11, hf⟩ := elet_out hf
        refine va_iast hx hb hK hP hD hS 1 0 rfl rfl hi10 dX4_stop_58 (fun H locs hP hD hS => ?_)
        have hP : va_P (dC, dI) vwCl [k4_0 aM b11, k4_1 cI aM b11, k4_2 cI aM b11, k4_3 cI aM b11, k4_4 cI aM b11, k4_5 cJ aM b11, k4_6 cI aM b11, k4_7 cJ aM b11, k4_8 cJ aM b11, k4_9 cI aM b11] H := by rw [eb11]; exact hP
        have hD : va_D A [k4_0 aM b11, k4_1 cI aM b11, k4_2 cI aM b11, k4_3 cI aM b11, k4_4 cI aM b11, k4_5 cJ aM b11, k4_6 cI aM b11, k4_7 cJ aM b11, k4_8 cJ aM b11, k4_9 cI aM b11] := by rw [eb11]; exact hD
        refine lv_aload_n hx hb dX4_stop_59 rfl (lv_at hl 2 rfl) ?_
        obtain ⟨y12, hy12, hf⟩ := obind hf
        refine cg_i (ws := [k4_0 aM b11, k4_1 cI aM b11, k4_2 cI aM b11, k4_3 cI aM b11, k4_4 cI aM b11, k4_5 cJ aM b11, k4_6 cI aM b11, k4_7 cJ aM b11, k4_8 cJ aM b11, k4_9 cI aM b11]) (wc := [k4_0 aM b11, k4_1 cI aM b11, k4_2 cI aM b11, k4_3 cI aM b11, k4_4 cI aM b11, k4_5 cJ aM b11, k4_6 cI aM b11, k4_7 cJ aM b11, k4_8 cJ aM b11, k4_9 cI aM b11]) (wr := []) (w1 := [k4_0 aM b11, k4_1 cI aM b11, k4_2 cI aM b11, k4_3 cI aM b11, k4_4 cI aM b11, k4_5 cJ aM b11, k4_6 cI aM b11, k4_7 cJ aM b11, k4_8 cJ aM b11, k4_9 cI aM b11]) (wo := [k4_0 aM b11, k4_1 cI aM b11, k4_2 cI aM b11, k4_3 cI aM b11, k4_4 cI aM b11, k4_5 cJ aM b11, k4_6 cI aM b11, k4_7 cJ aM b11, k4_8 cJ aM b11, k4_9 cI aM b11]) hP hD hS hA (va_runV (As := []) (rest := []) ⟨hx, hb, hml, hown, hts⟩ (mX4_isAllowed l dC dI cI cJ aM H.size b11 y12 hy12) (cwV 0 hts gX4_stop_X4_isAllowed rfl rfl rfl (by decide +kernel) ⟨Nat.le_of_ble_eq_true rfl, Nat.le_of_ble_eq_true rfl⟩) ⟨cFB, va_recv hK hP (ci := 4) (q0 := 0) rfl rfl, cPre hK hN hS (va_free (wc := [k4_0 aM b11, k4_1 cI aM b11, k4_2 cI aM b11, k4_3 cI aM b11, k4_4 cI aM b11, k4_5 cJ aM b11, k4_6 cI aM b11, k4_7 cJ aM b11, k4_8 cJ aM b11, k4_9 cI aM b11]) hD hS hA [0, 1, 2, 3, 4, 5, 6, 7, 8, 9] rfl) (hP.sub [0, 1, 2, 3, 4, 5, 6, 7, 8, 9] rfl) (hD.sub [0, 1, 2, 3, 4, 5, 6, 7, 8, 9] rfl rfl)⟩ rfl rfl hl.1 rfl (lv_room (Nat.le_of_ble_eq_true rfl)) dX4_stop_60 ⟨Nat.le_of_ble_eq_true rfl, Nat.le_of_ble_eq_true rfl⟩) [0, 1, 2, 3, 4, 5, 6, 7, 8, 9] [] [0, 1, 2, 3, 4, 5, 6, 7, 8, 9] rfl rfl rfl (by decide +kernel) rfl rfl (fun H locs hP hD hS => ?_)
        refine lv_istore (lv' := [(6, .int y12), (5, .int z9), (4, .int y7), (0, .ref (aM 0)), (1, .int i1), (2, .int i2), (3, .int i3)]) hx hb dX4_stop_63 hl (by decide) rfl (fun ls hl => ?_)
        refine lv_aload_n hx hb dX4_stop_65 rfl (lv_at hl 3 rfl) ?_
        refine va_get (D := (dC, dI)) (ci := 4) (v := .ref (aM 1)) (C := RX4) (T := TX4) (N := 21) hx hb hts hiX4 hown hK hP 0 rfl rfl 0 (by decide) hgX4_7 (fun _ h9 => h9) rfl dX4_stop_66 ?_
        refine lv_iload hx hb dX4_stop_69 (lv_at hl 2 rfl) ?_
        refine lv_iload hx hb dX4_stop_71 (lv_at hl 1 rfl) ?_
        obtain ⟨hi13, hf⟩ := oinb rfl hf
        obtain ⟨b14, eb14, hf⟩ := elet_out hf
        refine va_iast hx hb hK hP hD hS 1 0 rfl rfl hi13 dX4_stop_73 (fun H locs hP hD hS => ?_)
        have hP : va_P (dC, dI) vwCl [k4_0 aM b14, k4_1 cI aM b14, k4_2 cI aM b14, k4_3 cI aM b14, k4_4 cI aM b14, k4_5 cJ aM b14, k4_6 cI aM b14, k4_7 cJ aM b14, k4_8 cJ aM b14, k4_9 cI aM b14] H := by rw [eb14]; exact hP
        have hD : va_D A [k4_0 aM b14, k4_1 cI aM b14, k4_2 cI aM b14, k4_3 cI aM b14, k4_4 cI aM b14, k4_5 cJ aM b14, k4_6 cI aM b14, k4_7 cJ aM b14, k4_8 cJ aM b14, k4_9 cI aM b14] := by rw [eb14]; exact hD
        refine lv_iload hx hb dX4_stop_74 (lv_at hl 0 rfl) ?_
        refine lv_if_ne (tgt := 82) hx hb dX4_stop_76 (by decide) (fun c15 => ?_) (fun c15 => ?_)
        · have hf := oif_f c15 hf
          refine lv_aload_n hx hb dX4_stop_82 rfl (lv_at hl 3 rfl) ?_
          obtain ⟨y16, hy16, hf⟩ := obind hf
          refine cg_v (ws := [k4_0 aM b14, k4_1 cI aM b14, k4_2 cI aM b14, k4_3 cI aM b14, k4_4 cI aM b14, k4_5 cJ aM b14, k4_6 cI aM b14, k4_7 cJ aM b14, k4_8 cJ aM b14, k4_9 cI aM b14]) (wc := [k4_0 aM b14, k4_1 cI aM b14, k4_2 cI aM b14, k4_3 cI aM b14, k4_4 cI aM b14, k4_5 cJ aM b14, k4_6 cI aM b14, k4_7 cJ aM b14, k4_8 cJ aM b14, k4_9 cI aM b14]) (wr := []) (w1 := [k4_0 aM y16, k4_1 cI aM y16, k4_2 cI aM y16, k4_3 cI aM y16, k4_4 cI aM y16, k4_5 cJ aM y16, k4_6 cI aM y16, k4_7 cJ aM y16, k4_8 cJ aM y16, k4_9 cI aM y16]) (wo := [k4_0 aM y16, k4_1 cI aM y16, k4_2 cI aM y16, k4_3 cI aM y16, k4_4 cI aM y16, k4_5 cJ aM y16, k4_6 cI aM y16, k4_7 cJ aM y16, k4_8 cJ aM y16, k4_9 cI aM y16]) hP hD hS hA (va_runV (As := []) (rest := []) ⟨hx, hb, hml, hown, hts⟩ (mX4_changes l dC dI cI cJ aM H.size b14 y16 hy16) (cwV 0 hts gX4_stop_X4_changes rfl rfl rfl (by decide +kernel) ⟨Nat.le_of_ble_eq_true rfl, Nat.le_of_ble_eq_true rfl⟩) ⟨cFB, va_recv hK hP (ci := 4) (q0 := 0) rfl rfl, cPre hK hN hS (va_free (wc := [k4_0 aM b14, k4_1 cI aM b14, k4_2 cI aM b14, k4_3 cI aM b14, k4_4 cI aM b14, k4_5 cJ aM b14, k4_6 cI aM b14, k4_7 cJ aM b14, k4_8 cJ aM b14, k4_9 cI aM b14]) hD hS hA [0, 1, 2, 3, 4, 5, 6, 7, 8, 9] rfl) (hP.sub [0, 1, 2, 3, 4, 5, 6, 7, 8, 9] rfl) (hD.sub [0, 1, 2, 3, 4, 5, 6, 7, 8, 9] rfl rfl)⟩ rfl rfl hl.1 rfl (lv_room (Nat.le_of_ble_eq_true rfl)) dX4_stop_83 ⟨Nat.le_of_ble_eq_true rfl, Nat.le_of_ble_eq_true rfl⟩) [0, 1, 2, 3, 4, 5, 6, 7, 8, 9] [] [0, 1, 2, 3, 4, 5, 6, 7, 8, 9] rfl rfl rfl (by decide +kernel) rfl rfl (fun H locs hP hD hS => ?_)
          refine lv_aload_n hx hb dX4_stop_86 rfl (lv_at hl 3 rfl) ?_
          refine va_get (D := (dC, dI)) (ci := 4) (v := .ref (aM 1)) (C := RX4) (T := TX4) (N := 21) hx hb hts hiX4 hown hK hP 0 rfl rfl 0 (by decide) hgX4_7 (fun _ h9 => h9) rfl dX4_stop_87 ?_
          refine lv_iload hx hb dX4_stop_90 (lv_at hl 2 rfl) ?_
          refine lv_iload_n hx hb dX4_stop_92 rfl (lv_at hl 6 rfl) ?_
          obtain ⟨hi17, hf⟩ := oinb rfl hf
          obtain ⟨b18, eb18, hf⟩ := elet_out hf
          refine va_iast hx hb hK hP hD hS 1 0 rfl rfl hi17 dX4_stop_93 (fun H locs hP hD hS => ?_)
          have hP : va_P (dC, dI) vwCl [k4_0 aM b18, k4_1 cI aM b18, k4_2 cI aM b18, k4_3 cI aM b18, k4_4 cI aM b18, k4_5 cJ aM b18, k4_6 cI aM b18, k4_7 cJ aM b18, k4_8 cJ aM b18, k4_9 cI aM b18] H := by rw [eb18]; exact hP
          have hD : va_D A [k4_0 aM b18, k4_1 cI aM b18, k4_2 cI aM b18, k4_3 cI aM b18, k4_4 cI aM b18, k4_5 cJ aM b18, k4_6 cI aM b18, k4_7 cJ aM b18, k4_8 cJ aM b18, k4_9 cI aM b18] := by rw [eb18]; exact hD
          refine lv_iload hx hb dX4_stop_94 (lv_at hl 1 rfl) ?_
          obtain rfl := Option.some.inj hf
          exact W.iret (v := z9) hx hb hr (fun t ht hW => ⟨⟨z9, (), rfl, rfl, by rw [ht]; exact hP, hD⟩, hS.F ht⟩) hS.2.2 dX4_stop_96
        · have hf := oif_t c15 hf
          refine lv_ldc (v := (-1000002)) hx hb hown hc58 dX4_stop_79 ?_
          obtain rfl := Option.some.inj hf
          exact W.iret (v := (-1000002)) hx hb hr (fun t ht hW => ⟨⟨(-1000002), (), rfl, rfl, by rw [ht]; exact hP, hD⟩, hS.F ht⟩) hS.2.2 dX4_stop_81
      · have hf := oif_t c6 hf
        refine lv_ldc (v := (-1000001)) hx hb hown hc57 dX4_stop_31 ?_
        obtain rfl := Option.some.inj hf
        exact W.iret (v := (-1000001)) hx hb hr (fun t ht hW => ⟨⟨(-1000001), (), rfl, rfl, by rw [ht]; exact hP, hD⟩, hS.F ht⟩) hS.2.2 dX4_stop_33
def fX4_unstop (vM : BX4) (i1 : Int32) (i2 : Int32) : Option (Int32 × BX4) :=
  (fX4_isPlate vM i1).bind (fun y1 => if y1 = 0 then (some ((-1000001), vM)) else ((fX4_in i2 (0 : Int32) (1 : Int32)).bind (fun y3 => if y3 = 0 then (some ((-1000001), vM)) else ((fX4_stopAt vM i1 i2).bind (fun y5 => if inB y5 24 = true then (elet ((p4_s vM) (y5).toNatClampNeg) (fun z7 => if 0 ≤ z7 then ((fX4_changes vM).bind (fun y9 => if inB y5 24 = true then (elet (s4_s y9 (upd (p4_s y9) (y5).toNatClampNeg (-1))) (fun b11 => some (z7, b11))) else none)) else (some ((-1000002), vM)))) else none)))))
set_option maxHeartbeats 8000000 in
set_option maxRecDepth 100000 in
theorem mX4_unstop (l : Launch) (dC : Nat → ClassId) (dI : Nat → Nat → Nat) (cI cJ : ClassId) (aM : Nat → Nat) (sz : Nat) (vM : BX4) (i1 : Int32) (i2 : Int32) (y : (Int32 × BX4)) (hf : fX4_unstop vM i1 i2 = some y) : Met l yX4_unstop wsX4_unstop ({ frames := 1, cells := 0, slots := 0, locals := 22 }) (cPc dC dI cI cJ [.ref (aM 0), .int i1, .int i2] [k4_0 aM vM, k4_1 cI aM vM, k4_2 cI aM vM, k4_3 cI aM vM, k4_4 cI aM vM, k4_5 cJ aM vM, k4_6 cI aM vM, k4_7 cJ aM vM, k4_8 cJ aM vM, k4_9 cI aM vM] sz) (va_Qi (fun r (_ : Unit) => r = y.1) (fun _ t => cB dC dI (va_A [k4_0 aM vM, k4_1 cI aM vM, k4_2 cI aM vM, k4_3 cI aM vM, k4_4 cI aM vM, k4_5 cJ aM vM, k4_6 cI aM vM, k4_7 cJ aM vM, k4_8 cJ aM vM, k4_9 cI aM vM] sz) [k4_0 aM y.2, k4_1 cI aM y.2, k4_2 cI aM y.2, k4_3 cI aM y.2, k4_4 cI aM y.2, k4_5 cJ aM y.2, k4_6 cI aM y.2, k4_7 cJ aM y.2, k4_8 cJ aM y.2, k4_9 cI aM y.2] t) (va_A [k4_0 aM vM, k4_1 cI aM vM, k4_2 cI aM vM, k4_3 cI aM vM, k4_4 cI aM vM, k4_5 cJ aM vM, k4_6 cI aM vM, k4_7 cJ aM vM, k4_8 cJ aM vM, k4_9 cI aM vM] sz)) 0 0 (va_A [k4_0 aM vM, k4_1 cI aM vM, k4_2 cI aM vM, k4_3 cI aM vM, k4_4 cI aM vM, k4_5 cJ aM vM, k4_6 cI aM vM, k4_7 cJ aM vM, k4_8 cJ aM vM, k4_9 cI aM vM] sz) := by
  refine Met.ofW (cc := cX4_unstop) (maxL := 5) (ret := (some .int)) (by decide) rfl ?_
  intro p e s m args below meth c s₁ B hml hv
  obtain ⟨rfl, hsz, hP, hK, hD0, hN⟩ := hv
  have hx := B.exec
  have hb := B.bytes
  have hr := B.returns
  have hts := atoms_spec (ws := wsX4_unstop) B.pre
  have hown : s.vm.findClass RX4 = some m.cls := findClass_of_methodNamed B.named
  have hlocks := B.notSynchronized
  subst hsz
  have hD := hD0.self (sz := s.heap.size)
  generalize hAe : va_A [k4_0 aM vM, k4_1 cI aM vM, k4_2 cI aM vM, k4_3 cI aM vM, k4_4 cI aM vM, k4_5 cJ aM vM, k4_6 cI aM vM, k4_7 cJ aM vM, k4_8 cJ aM vM, k4_9 cI aM vM] s.heap.size = A at hD hN ⊢
  have hA : ∀ q : Nat, s.heap.size ≤ q → A q := fun q h => by rw [← hAe]; exact Or.inr h
  have hP : va_P (dC, dI) vwCl [k4_0 aM vM, k4_1 cI aM vM, k4_2 cI aM vM, k4_3 cI aM vM, k4_4 cI aM vM, k4_5 cJ aM vM, k4_6 cI aM vM, k4_7 cJ aM vM, k4_8 cJ aM vM, k4_9 cI aM vM] s.heap := hP
  have hl := lv_entry ([.ref (aM 0), .int i1, .int i2]) (n := 5) (Nat.le_of_ble_eq_true rfl)
  rw [lg_entry_eq]
  generalize (lg_sl ([.ref (aM 0), .int i1, .int i2]) ++ List.replicate (5 - (lg_sl ([.ref (aM 0), .int i1, .int i2])).length) Slot.unset).toArray = ls at hl ⊢
  have hl : lv_has ls 5 [(0, .ref (aM 0)), (1, .int i1), (2, .int i2)] := hl
  have hc57 := hts (.constant RX4 57 (-1000001)) (by decide +kernel)
  have hiX4 : ∀ w ∈ u_ws RX4 TX4 21, w ∈ wsX4_unstop := by decide +kernel
  have hgX4_7 := hts (.fieldLink RX4 7 "SpringPlatesModel" "s" "[I") (by decide +kernel)
  have hc58 := hts (.constant RX4 58 (-1000002)) (by decide +kernel)
  refine nameH (fun H locs hHe hLe => ?_)
  have hP : va_P (dC, dI) vwCl [k4_0 aM vM, k4_1 cI aM vM, k4_2 cI aM vM, k4_3 cI aM vM, k4_4 cI aM vM, k4_5 cJ aM vM, k4_6 cI aM vM, k4_7 cJ aM vM, k4_8 cJ aM vM, k4_9 cI aM vM] H := by rw [hHe]; exact hP
  have hS : va_S A s.heap H locs := by rw [hHe, hLe]; exact va_S.rf
  unfold fX4_unstop at hf
  refine lv_aload_n hx hb dX4_unstop_0 rfl (lv_at hl 0 rfl) ?_
  refine lv_iload_n hx hb dX4_unstop_1 rfl (lv_at hl 1 rfl) ?_
  obtain ⟨y1, hy1, hf⟩ := obind hf
  refine cg_i (ws := [k4_0 aM vM, k4_1 cI aM vM, k4_2 cI aM vM, k4_3 cI aM vM, k4_4 cI aM vM, k4_5 cJ aM vM, k4_6 cI aM vM, k4_7 cJ aM vM, k4_8 cJ aM vM, k4_9 cI aM vM]) (wc := [k4_0 aM vM, k4_1 cI aM vM, k4_2 cI aM vM, k4_3 cI aM vM, k4_4 cI aM vM, k4_5 cJ aM vM, k4_6 cI aM vM, k4_7 cJ aM vM, k4_8 cJ aM vM, k4_9 cI aM vM]) (wr := []) (w1 := [k4_0 aM vM, k4_1 cI aM vM, k4_2 cI aM vM, k4_3 cI aM vM, k4_4 cI aM vM, k4_5 cJ aM vM, k4_6 cI aM vM, k4_7 cJ aM vM, k4_8 cJ aM vM, k4_9 cI aM vM]) (wo := [k4_0 aM vM, k4_1 cI aM vM, k4_2 cI aM vM, k4_3 cI aM vM, k4_4 cI aM vM, k4_5 cJ aM vM, k4_6 cI aM vM, k4_7 cJ aM vM, k4_8 cJ aM vM, k4_9 cI aM vM]) hP hD hS hA (va_runV (As := [.int i1]) (rest := []) ⟨hx, hb, hml, hown, hts⟩ (mX4_isPlate l dC dI cI cJ aM H.size vM i1 y1 hy1) (cwV 1 hts gX4_unstop_X4_isPlate rfl rfl rfl (by decide +kernel) ⟨Nat.le_of_ble_eq_true rfl, Nat.le_of_ble_eq_true rfl⟩) ⟨cFB, va_recv hK hP (ci := 4) (q0 := 0) rfl rfl, cPre hK hN hS (va_free (wc := [k4_0 aM vM, k4_1 cI aM vM, k4_2 cI aM vM, k4_3 cI aM vM, k4_4 cI aM vM, k4_5 cJ aM vM, k4_6 cI aM vM, k4_7 cJ aM vM, k4_8 cJ aM vM, k4_9 cI aM vM]) hD hS hA [0, 1, 2, 3, 4, 5, 6, 7, 8, 9] rfl) (hP.sub [0, 1, 2, 3, 4, 5, 6, 7, 8, 9] rfl) (hD.sub [0, 1, 2, 3, 4, 5, 6, 7, 8, 9] rfl rfl)⟩ rfl rfl hl.1 rfl (lv_room (Nat.le_of_ble_eq_true rfl)) dX4_unstop_2 ⟨Nat.le_of_ble_eq_true rfl, Nat.le_of_ble_eq_true rfl⟩) [0, 1, 2, 3, 4, 5, 6, 7, 8, 9] [] [0, 1, 2, 3, 4, 5, 6, 7, 8, 9] rfl rfl rfl (by decide +kernel) rfl rfl (fun H locs hP hD hS => ?_)
  refine lv_if_eq (tgt := 17) hx hb dX4_unstop_5 (by decide) (fun c2 => ?_) (fun c2 => ?_)
  · have hf := oif_t c2 hf
    refine lv_ldc (v := (-1000001)) hx hb hown hc57 dX4_unstop_17 ?_
    obtain rfl := Option.some.inj hf
    exact W.iret (v := (-1000001)) hx hb hr (fun t ht hW => ⟨⟨(-1000001), (), rfl, rfl, by rw [ht]; exact hP, hD⟩, hS.F ht⟩) hS.2.2 dX4_unstop_19
  · have hf := oif_f c2 hf
    refine lv_iload_n hx hb dX4_unstop_8 rfl (lv_at hl 2 rfl) ?_
    refine lv_iconst (v := 0) hx hb dX4_unstop_9 (by decide) ?_
    refine lv_iconst (v := 1) hx hb dX4_unstop_10 (by decide) ?_
    obtain ⟨y3, hy3, hf⟩ := obind hf
    refine cg_i (ws := [k4_0 aM vM, k4_1 cI aM vM, k4_2 cI aM vM, k4_3 cI aM vM, k4_4 cI aM vM, k4_5 cJ aM vM, k4_6 cI aM vM, k4_7 cJ aM vM, k4_8 cJ aM vM, k4_9 cI aM vM]) (wc := []) (wr := [k4_0 aM vM, k4_1 cI aM vM, k4_2 cI aM vM, k4_3 cI aM vM, k4_4 cI aM vM, k4_5 cJ aM vM, k4_6 cI aM vM, k4_7 cJ aM vM, k4_8 cJ aM vM, k4_9 cI aM vM]) (w1 := []) (wo := [k4_0 aM vM, k4_1 cI aM vM, k4_2 cI aM vM, k4_3 cI aM vM, k4_4 cI aM vM, k4_5 cJ aM vM, k4_6 cI aM vM, k4_7 cJ aM vM, k4_8 cJ aM vM, k4_9 cI aM vM]) hP hD hS hA (va_runS (As := [.int i2, .int 0, .int 1]) (rest := []) ⟨hx, hb, hml, hown, hts⟩ (mX4_in l dC dI cI cJ  H.size i2 (0 : Int32) (1 : Int32) y3 hy3) (va_cwS 3 hts gX4_unstop_X4_in rfl rfl rfl (by decide +kernel) ⟨Nat.le_of_ble_eq_true rfl, Nat.le_of_ble_eq_true rfl⟩) ⟨cFB, cPre hK hN hS (va_free (wc := []) hD hS hA [] rfl) (hP.sub [] rfl) (hD.sub [] rfl rfl)⟩ rfl rfl hl.1 rfl (lv_room (Nat.le_of_ble_eq_true rfl)) dX4_unstop_11 ⟨Nat.le_of_ble_eq_true rfl, Nat.le_of_ble_eq_true rfl⟩) [] [0, 1, 2, 3, 4, 5, 6, 7, 8, 9] [0, 1, 2, 3, 4, 5, 6, 7, 8, 9] rfl rfl rfl (by decide +kernel) rfl rfl (fun H locs hP hD hS => ?_)
    refine lv_if_ne (tgt := 20) hx hb dX4_unstop_14 (by decide) (fun c4 => ?_) (fun c4 => ?_)
    · have hf := oif_f c4 hf
      refine lv_aload_n hx hb dX4_unstop_20 rfl (lv_at hl 0 rfl) ?_
      refine lv_iload_n hx hb dX4_unstop_21 rfl (lv_at hl 1 rfl) ?_
      refine lv_iload_n hx hb dX4_unstop_22 rfl (lv_at hl 2 rfl) ?_
      obtain ⟨y5, hy5, hf⟩ := obind hf
      refine cg_i (ws := [k4_0 aM vM, k4_1 cI aM vM, k4_2 cI aM vM, k4_3 cI aM vM, k4_4 cI aM vM, k4_5 cJ aM vM, k4_6 cI aM vM, k4_7 cJ aM vM, k4_8 cJ aM vM, k4_9 cI aM vM]) (wc := [k4_0 aM vM, k4_1 cI aM vM, k4_2 cI aM vM, k4_3 cI aM vM, k4_4 cI aM vM, k4_5 cJ aM vM, k4_6 cI aM vM, k4_7 cJ aM vM, k4_8 cJ aM vM, k4_9 cI aM vM]) (wr := []) (w1 := [k4_0 aM vM, k4_1 cI aM vM, k4_2 cI aM vM, k4_3 cI aM vM, k4_4 cI aM vM, k4_5 cJ aM vM, k4_6 cI aM vM, k4_7 cJ aM vM, k4_8 cJ aM vM, k4_9 cI aM vM]) (wo := [k4_0 aM vM, k4_1 cI aM vM, k4_2 cI aM vM, k4_3 cI aM vM, k4_4 cI aM vM, k4_5 cJ aM vM, k4_6 cI aM vM, k4_7 cJ aM vM, k4_8 cJ aM vM, k4_9 cI aM vM]) hP hD hS hA (va_runV (As := [.int i1, .int i2]) (rest := []) ⟨hx, hb, hml, hown, hts⟩ (mX4_stopAt l dC dI cI cJ aM H.size vM i1 i2 y5 hy5) (cwV 2 hts gX4_unstop_X4_stopAt rfl rfl rfl (by decide +kernel) ⟨Nat.le_of_ble_eq_true rfl, Nat.le_of_ble_eq_true rfl⟩) ⟨cFB, va_recv hK hP (ci := 4) (q0 := 0) rfl rfl, cPre hK hN hS (va_free (wc := [k4_0 aM vM, k4_1 cI aM vM, k4_2 cI aM vM, k4_3 cI aM vM, k4_4 cI aM vM, k4_5 cJ aM vM, k4_6 cI aM vM, k4_7 cJ aM vM, k4_8 cJ aM vM, k4_9 cI aM vM]) hD hS hA [0, 1, 2, 3, 4, 5, 6, 7, 8, 9] rfl) (hP.sub [0, 1, 2, 3, 4, 5, 6, 7, 8, 9] rfl) (hD.sub [0, 1, 2, 3, 4, 5, 6, 7, 8, 9] rfl rfl)⟩ rfl rfl hl.1 rfl (lv_room (Nat.le_of_ble_eq_true rfl)) dX4_unstop_23 ⟨Nat.le_of_ble_eq_true rfl, Nat.le_of_ble_eq_true rfl⟩) [0, 1, 2, 3, 4, 5, 6, 7, 8, 9] [] [0, 1, 2, 3, 4, 5, 6, 7, 8, 9] rfl rfl rfl (by decide +kernel) rfl rfl (fun H locs hP hD hS => ?_)
      refine lv_istore_n (lv' := [(3, .int y5), (0, .ref (aM 0)), (1, .int i1), (2, .int i2)]) hx hb dX4_unstop_26 rfl hl (by decide) rfl (fun ls hl => ?_)
      refine lv_aload_n hx hb dX4_unstop_27 rfl (lv_at hl 1 rfl) ?_
      refine va_get (D := (dC, dI)) (ci := 4) (v := .ref (aM 1)) (C := RX4) (T := TX4) (N := 21) hx hb hts hiX4 hown hK hP 0 rfl rfl 0 (by decide) hgX4_7 (fun _ h9 => h9) rfl dX4_unstop_28 ?_
      refine lv_iload_n hx hb dX4_unstop_31 rfl (lv_at hl 0 rfl) ?_
      obtain ⟨hi6, hf⟩ := oinb rfl hf
      refine va_iald hx hb hK hP 1 0 rfl rfl hi6 dX4_unstop_32 ?_
      obtain ⟨z7, ez7, hf⟩ := elet_out hf
      refine lvn_i ez7 ?_
      refine lv_istore (lv' := [(4, .int z7), (3, .int y5), (0, .ref (aM 0)), (1, .int i1), (2, .int i2)]) hx hb dX4_unstop_33 hl (by decide) rfl (fun ls hl => ?_)
      refine lv_iload hx hb dX4_unstop_35 (lv_at hl 0 rfl) ?_
      refine lv_if_ge (tgt := 43) hx hb dX4_unstop_37 (by decide) (fun c8 => ?_) (fun c8 => ?_)
      · have hf := oif_t c8 hf
        refine lv_aload_n hx hb dX4_unstop_43 rfl (lv_at hl 2 rfl) ?_
        obtain ⟨y9, hy9, hf⟩ := obind hf
        refine cg_v (ws := [k4_0 aM vM, k4_1 cI aM vM, k4_2 cI aM vM, k4_3 cI aM vM, k4_4 cI aM vM, k4_5 cJ aM vM, k4_6 cI aM vM, k4_7 cJ aM vM, k4_8 cJ aM vM, k4_9 cI aM vM]) (wc := [k4_0 aM vM, k4_1 cI aM vM, k4_2 cI aM vM, k4_3 cI aM vM, k4_4 cI aM vM, k4_5 cJ aM vM, k4_6 cI aM vM, k4_7 cJ aM vM, k4_8 cJ aM vM, k4_9 cI aM vM]) (wr := []) (w1 := [k4_0 aM y9, k4_1 cI aM y9, k4_2 cI aM y9, k4_3 cI aM y9, k4_4 cI aM y9, k4_5 cJ aM y9, k4_6 cI aM y9, k4_7 cJ aM y9, k4_8 cJ aM y9, k4_9 cI aM y9]) (wo := [k4_0 aM y9, k4_1 cI aM y9, k4_2 cI aM y9, k4_3 cI aM y9, k4_4 cI aM y9, k4_5 cJ aM y9, k4_6 cI aM y9, k4_7 cJ aM y9, k4_8 cJ aM y9, k4_9 cI aM y9]) hP hD hS hA (va_runV (As := []) (rest := []) ⟨hx, hb, hml, hown, hts⟩ (mX4_changes l dC dI cI cJ aM H.size vM y9 hy9) (cwV 0 hts gX4_unstop_X4_changes rfl rfl rfl (by decide +kernel) ⟨Nat.le_of_ble_eq_true rfl, Nat.le_of_ble_eq_true rfl⟩) ⟨cFB, va_recv hK hP (ci := 4) (q0 := 0) rfl rfl, cPre hK hN hS (va_free (wc := [k4_0 aM vM, k4_1 cI aM vM, k4_2 cI aM vM, k4_3 cI aM vM, k4_4 cI aM vM, k4_5 cJ aM vM, k4_6 cI aM vM, k4_7 cJ aM vM, k4_8 cJ aM vM, k4_9 cI aM vM]) hD hS hA [0, 1, 2, 3, 4, 5, 6, 7, 8, 9] rfl) (hP.sub [0, 1, 2, 3, 4, 5, 6, 7, 8, 9] rfl) (hD.sub [0, 1, 2, 3, 4, 5, 6, 7, 8, 9] rfl rfl)⟩ rfl rfl hl.1 rfl (lv_room (Nat.le_of_ble_eq_true rfl)) dX4_unstop_44 ⟨Nat.le_of_ble_eq_true rfl, Nat.le_of_ble_eq_true rfl⟩) [0, 1, 2, 3, 4, 5, 6, 7, 8, 9] [] [0, 1, 2, 3, 4, 5, 6, 7, 8, 9] rfl rfl rfl (by decide +kernel) rfl rfl (fun H locs hP hD hS => ?_)
        refine lv_aload_n hx hb dX4_unstop_47 rfl (lv_at hl 2 rfl) ?_
        refine va_get (D := (dC, dI)) (ci := 4) (v := .ref (aM 1)) (C := RX4) (T := TX4) (N := 21) hx hb hts hiX4 hown hK hP 0 rfl rfl 0 (by decide) hgX4_7 (fun _ h9 => h9) rfl dX4_unstop_48 ?_
        refine lv_iload_n hx hb dX4_unstop_51 rfl (lv_at hl 1 rfl) ?_
        refine lv_iconst (v := (-1)) hx hb dX4_unstop_52 (by decide) ?_
        obtain ⟨hi10, hf⟩ := oinb rfl hf
        obtain ⟨b11, eb11, hf⟩ := elet_out hf
        refine va_iast hx hb hK hP hD hS 1 0 rfl rfl hi10 dX4_unstop_53 (fun H locs hP hD hS => ?_)
        have hP : va_P (dC, dI) vwCl [k4_0 aM b11, k4_1 cI aM b11, k4_2 cI aM b11, k4_3 cI aM b11, k4_4 cI aM b11, k4_5 cJ aM b11, k4_6 cI aM b11, k4_7 cJ aM b11, k4_8 cJ aM b11, k4_9 cI aM b11] H := by rw [eb11]; exact hP
        have hD : va_D A [k4_0 aM b11, k4_1 cI aM b11, k4_2 cI aM b11, k4_3 cI aM b11, k4_4 cI aM b11, k4_5 cJ aM b11, k4_6 cI aM b11, k4_7 cJ aM b11, k4_8 cJ aM b11, k4_9 cI aM b11] := by rw [eb11]; exact hD
        refine lv_iload hx hb dX4_unstop_54 (lv_at hl 0 rfl) ?_
        obtain rfl := Option.some.inj hf
        exact W.iret (v := z7) hx hb hr (fun t ht hW => ⟨⟨z7, (), rfl, rfl, by rw [ht]; exact hP, hD⟩, hS.F ht⟩) hS.2.2 dX4_unstop_56
      · have hf := oif_f c8 hf
        refine lv_ldc (v := (-1000002)) hx hb hown hc58 dX4_unstop_40 ?_
        obtain rfl := Option.some.inj hf
        exact W.iret (v := (-1000002)) hx hb hr (fun t ht hW => ⟨⟨(-1000002), (), rfl, rfl, by rw [ht]; exact hP, hD⟩, hS.F ht⟩) hS.2.2 dX4_unstop_42
    · have hf := oif_t c4 hf
      refine lv_ldc (v := (-1000001)) hx hb hown hc57 dX4_unstop_17 ?_
      obtain rfl := Option.some.inj hf
      exact W.iret (v := (-1000001)) hx hb hr (fun t ht hW => ⟨⟨(-1000001), (), rfl, rfl, by rw [ht]; exact hP, hD⟩, hS.F ht⟩) hS.2.2 dX4_unstop_19
def fX4_plateOf_62 (vM : BX4) (x1 : Int32) (x2 : Int32) : Option Int32 :=
  (fX4_stopAt vM x1 (x2 - (1 : Int32))).bind (fun y1 => if inB y1 24 = true then (if 0 ≤ ((p4_s vM) (y1).toNatClampNeg) then ((fX4_stopAt vM x1 (x2 - (1 : Int32))).bind (fun y4 => if inB y4 24 = true then (some ((p4_s vM) (y4).toNatClampNeg)) else none)) else (some (-1000004))) else none)
def fX4_plateOf_114 (vM : BX4) (x1 : Int32) (x2 : Int32) (st1 : Int32) : Option Int32 :=
  if inB ((st1 + x1) + ((x2 - (3 : Int32)) / (2 : Int32))) 24 = true then (some ((p4_s vM) (((st1 + x1) + ((x2 - (3 : Int32)) / (2 : Int32)))).toNatClampNeg)) else none
def fX4_plateOf (vM : BX4) (i1 : Int32) (i2 : Int32) : Option Int32 :=
  (fX4_isPlate vM i1).bind (fun y7 => if y7 = 0 then (some (-1000001)) else ((fX4_in i2 (0 : Int32) (6 : Int32)).bind (fun y9 => if y9 = 0 then (some (-1000001)) else (if i2 = 0 then (if inB ((12 : Int32) + i1) 24 = true then (some (((p4_s vM) (((12 : Int32) + i1)).toNatClampNeg) + (1000 : Int32))) else none) else (if i2 = 1 then (fX4_plateOf_62 vM i1 i2) else (if i2 = 2 then (fX4_plateOf_62 vM i1 i2) else (if (i2 - i2 / (2 : Int32) * (2 : Int32)) = (1 : Int32) then (fX4_plateOf_114 vM i1 i2 (2 : Int32)) else (fX4_plateOf_114 vM i1 i2 (7 : Int32)))))))))
set_option maxHeartbeats 8000000 in
set_option maxRecDepth 100000 in
theorem mX4_plateOf (l : Launch) (dC : Nat → ClassId) (dI : Nat → Nat → Nat) (cI cJ : ClassId) (aM : Nat → Nat) (sz : Nat) (vM : BX4) (i1 : Int32) (i2 : Int32) (y : Int32) (hf : fX4_plateOf vM i1 i2 = some y) : Met l yX4_plateOf wsX4_plateOf ({ frames := 1, cells := 0, slots := 0, locals := 22 }) (cPc dC dI cI cJ [.ref (aM 0), .int i1, .int i2] [k4_0 aM vM, k4_1 cI aM vM, k4_2 cI aM vM, k4_3 cI aM vM, k4_4 cI aM vM, k4_5 cJ aM vM, k4_6 cI aM vM, k4_7 cJ aM vM, k4_8 cJ aM vM, k4_9 cI aM vM] sz) (va_Qi (fun r (_ : Unit) => r = y) (fun _ t => cB dC dI (va_A [k4_0 aM vM, k4_1 cI aM vM, k4_2 cI aM vM, k4_3 cI aM vM, k4_4 cI aM vM, k4_5 cJ aM vM, k4_6 cI aM vM, k4_7 cJ aM vM, k4_8 cJ aM vM, k4_9 cI aM vM] sz) [k4_0 aM vM, k4_1 cI aM vM, k4_2 cI aM vM, k4_3 cI aM vM, k4_4 cI aM vM, k4_5 cJ aM vM, k4_6 cI aM vM, k4_7 cJ aM vM, k4_8 cJ aM vM, k4_9 cI aM vM] t) (va_A [k4_0 aM vM, k4_1 cI aM vM, k4_2 cI aM vM, k4_3 cI aM vM, k4_4 cI aM vM, k4_5 cJ aM vM, k4_6 cI aM vM, k4_7 cJ aM vM, k4_8 cJ aM vM, k4_9 cI aM vM] sz)) 0 0 (va_A [k4_0 aM vM, k4_1 cI aM vM, k4_2 cI aM vM, k4_3 cI aM vM, k4_4 cI aM vM, k4_5 cJ aM vM, k4_6 cI aM vM, k4_7 cJ aM vM, k4_8 cJ aM vM, k4_9 cI aM vM] sz) := by
  refine Met.ofW (cc := cX4_plateOf) (maxL := 3) (ret := (some .int)) (by decide) rfl ?_
  intro p e s m args below meth c s₁ B hml hv
  obtain ⟨rfl, hsz, hP, hK, hD0, hN⟩ := hv
  have hx := B.exec
  have hb := B.bytes
  have hr := B.returns
  have hts := atoms_spec (ws := wsX4_plateOf) B.pre
  have hown : s.vm.findClass RX4 = some m.cls := findClass_of_methodNamed B.named
  have hlocks := B.notSynchronized
  subst hsz
  have hD := hD0.self (sz := s.heap.size)
  generalize hAe : va_A [k4_0 aM vM, k4_1 cI aM vM, k4_2 cI aM vM, k4_3 cI aM vM, k4_4 cI aM vM, k4_5 cJ aM vM, k4_6 cI aM vM, k4_7 cJ aM vM, k4_8 cJ aM vM, k4_9 cI aM vM] s.heap.size = A at hD hN ⊢
  have hA : ∀ q : Nat, s.heap.size ≤ q → A q := fun q h => by rw [← hAe]; exact Or.inr h
  have hP : va_P (dC, dI) vwCl [k4_0 aM vM, k4_1 cI aM vM, k4_2 cI aM vM, k4_3 cI aM vM, k4_4 cI aM vM, k4_5 cJ aM vM, k4_6 cI aM vM, k4_7 cJ aM vM, k4_8 cJ aM vM, k4_9 cI aM vM] s.heap := hP
  have hl := lv_entry ([.ref (aM 0), .int i1, .int i2]) (n := 3) (Nat.le_of_ble_eq_true rfl)
  rw [lg_entry_eq]
  generalize (lg_sl ([.ref (aM 0), .int i1, .int i2]) ++ List.replicate (3 - (lg_sl ([.ref (aM 0), .int i1, .int i2])).length) Slot.unset).toArray = ls at hl ⊢
  have hl : lv_has ls 3 [(0, .ref (aM 0)), (1, .int i1), (2, .int i2)] := hl
  have hiX4 : ∀ w ∈ u_ws RX4 TX4 21, w ∈ wsX4_plateOf := by decide +kernel
  have hgX4_7 := hts (.fieldLink RX4 7 "SpringPlatesModel" "s" "[I") (by decide +kernel)
  have hc78 := hts (.constant RX4 78 (-1000004)) (by decide +kernel)
  have hc57 := hts (.constant RX4 57 (-1000001)) (by decide +kernel)
  refine nameH (fun H locs hHe hLe => ?_)
  have hP : va_P (dC, dI) vwCl [k4_0 aM vM, k4_1 cI aM vM, k4_2 cI aM vM, k4_3 cI aM vM, k4_4 cI aM vM, k4_5 cJ aM vM, k4_6 cI aM vM, k4_7 cJ aM vM, k4_8 cJ aM vM, k4_9 cI aM vM] H := by rw [hHe]; exact hP
  have hS : va_S A s.heap H locs := by rw [hHe, hLe]; exact va_S.rf
  refine withW (fun WW hWW => ?_)
  have J62 : ∀ (x1 : Int32) (x2 : Int32) (H : Heap) (locs : List Loc) (ls : Array Slot), va_P (dC, dI) vwCl [k4_0 aM vM, k4_1 cI aM vM, k4_2 cI aM vM, k4_3 cI aM vM, k4_4 cI aM vM, k4_5 cJ aM vM, k4_6 cI aM vM, k4_7 cJ aM vM, k4_8 cJ aM vM, k4_9 cI aM vM] H → va_D A [k4_0 aM vM, k4_1 cI aM vM, k4_2 cI aM vM, k4_3 cI aM vM, k4_4 cI aM vM, k4_5 cJ aM vM, k4_6 cI aM vM, k4_7 cJ aM vM, k4_8 cJ aM vM, k4_9 cI aM vM] → va_S A s.heap H locs → lv_has ls 3 [(0, .ref (aM 0)), (1, .int x1), (2, .int x2)] → fX4_plateOf_62 vM x1 x2 = some y → WW H locs 0 0 ls 62 [] := by
    intro x1 x2 H locs ls hP hD hS hl hf
    unfold fX4_plateOf_62 at hf
    refine (hWW _ _ _ _ _ _ _).2 ?_
    refine lv_aload_n hx hb dX4_plateOf_62 rfl (lv_at hl 0 rfl) ?_
    refine va_get (D := (dC, dI)) (ci := 4) (v := .ref (aM 1)) (C := RX4) (T := TX4) (N := 21) hx hb hts hiX4 hown hK hP 0 rfl rfl 0 (by decide) hgX4_7 (fun _ h9 => h9) rfl dX4_plateOf_63 ?_
    refine lv_aload_n hx hb dX4_plateOf_66 rfl (lv_at hl 0 rfl) ?_
    refine lv_iload_n hx hb dX4_plateOf_67 rfl (lv_at hl 1 rfl) ?_
    refine lv_iload_n hx hb dX4_plateOf_68 rfl (lv_at hl 2 rfl) ?_
    refine lv_iconst (v := 1) hx hb dX4_plateOf_69 (by decide) ?_
    refine lv_isub hx hb dX4_plateOf_70 ?_
    obtain ⟨y1, hy1, hf⟩ := obind hf
    refine cg_i (ws := [k4_0 aM vM, k4_1 cI aM vM, k4_2 cI aM vM, k4_3 cI aM vM, k4_4 cI aM vM, k4_5 cJ aM vM, k4_6 cI aM vM, k4_7 cJ aM vM, k4_8 cJ aM vM, k4_9 cI aM vM]) (wc := [k4_0 aM vM, k4_1 cI aM vM, k4_2 cI aM vM, k4_3 cI aM vM, k4_4 cI aM vM, k4_5 cJ aM vM, k4_6 cI aM vM, k4_7 cJ aM vM, k4_8 cJ aM vM, k4_9 cI aM vM]) (wr := []) (w1 := [k4_0 aM vM, k4_1 cI aM vM, k4_2 cI aM vM, k4_3 cI aM vM, k4_4 cI aM vM, k4_5 cJ aM vM, k4_6 cI aM vM, k4_7 cJ aM vM, k4_8 cJ aM vM, k4_9 cI aM vM]) (wo := [k4_0 aM vM, k4_1 cI aM vM, k4_2 cI aM vM, k4_3 cI aM vM, k4_4 cI aM vM, k4_5 cJ aM vM, k4_6 cI aM vM, k4_7 cJ aM vM, k4_8 cJ aM vM, k4_9 cI aM vM]) hP hD hS hA (va_runV (As := [.int x1, .int (x2 - (1 : Int32))]) (rest := [.ref (aM 1)]) ⟨hx, hb, hml, hown, hts⟩ (mX4_stopAt l dC dI cI cJ aM H.size vM x1 (x2 - (1 : Int32)) y1 hy1) (cwV 2 hts gX4_plateOf_X4_stopAt rfl rfl rfl (by decide +kernel) ⟨Nat.le_of_ble_eq_true rfl, Nat.le_of_ble_eq_true rfl⟩) ⟨cFB, va_recv hK hP (ci := 4) (q0 := 0) rfl rfl, cPre hK hN hS (va_free (wc := [k4_0 aM vM, k4_1 cI aM vM, k4_2 cI aM vM, k4_3 cI aM vM, k4_4 cI aM vM, k4_5 cJ aM vM, k4_6 cI aM vM, k4_7 cJ aM vM, k4_8 cJ aM vM, k4_9 cI aM vM]) hD hS hA [0, 1, 2, 3, 4, 5, 6, 7, 8, 9] rfl) (hP.sub [0, 1, 2, 3, 4, 5, 6, 7, 8, 9] rfl) (hD.sub [0, 1, 2, 3, 4, 5, 6, 7, 8, 9] rfl rfl)⟩ rfl rfl hl.1 rfl (lv_room (Nat.le_of_ble_eq_true rfl)) dX4_plateOf_71 ⟨Nat.le_of_ble_eq_true rfl, Nat.le_of_ble_eq_true rfl⟩) [0, 1, 2, 3, 4, 5, 6, 7, 8, 9] [] [0, 1, 2, 3, 4, 5, 6, 7, 8, 9] rfl rfl rfl (by decide +kernel) rfl rfl (fun H locs hP hD hS => ?_)
    obtain ⟨hi2, hf⟩ := oinb rfl hf
    refine va_iald hx hb hK hP 1 0 rfl rfl hi2 dX4_plateOf_74 ?_
    refine lv_if_ge (tgt := 83) hx hb dX4_plateOf_75 (by decide) (fun c3 => ?_) (fun c3 => ?_)
    · have hf := oif_t c3 hf
      refine lv_aload_n hx hb dX4_plateOf_83 rfl (lv_at hl 0 rfl) ?_
      refine va_get (D := (dC, dI)) (ci := 4) (v := .ref (aM 1)) (C := RX4) (T := TX4) (N := 21) hx hb hts hiX4 hown hK hP 0 rfl rfl 0 (by decide) hgX4_7 (fun _ h9 => h9) rfl dX4_plateOf_84 ?_
      refine lv_aload_n hx hb dX4_plateOf_87 rfl (lv_at hl 0 rfl) ?_
      refine lv_iload_n hx hb dX4_plateOf_88 rfl (lv_at hl 1 rfl) ?_
      refine lv_iload_n hx hb dX4_plateOf_89 rfl (lv_at hl 2 rfl) ?_
      refine lv_iconst (v := 1) hx hb dX4_plateOf_90 (by decide) ?_
      refine lv_isub hx hb dX4_plateOf_91 ?_
      obtain ⟨y4, hy4, hf⟩ := obind hf
      refine cg_i (ws := [k4_0 aM vM, k4_1 cI aM vM, k4_2 cI aM vM, k4_3 cI aM vM, k4_4 cI aM vM, k4_5 cJ aM vM, k4_6 cI aM vM, k4_7 cJ aM vM, k4_8 cJ aM vM, k4_9 cI aM vM]) (wc := [k4_0 aM vM, k4_1 cI aM vM, k4_2 cI aM vM, k4_3 cI aM vM, k4_4 cI aM vM, k4_5 cJ aM vM, k4_6 cI aM vM, k4_7 cJ aM vM, k4_8 cJ aM vM, k4_9 cI aM vM]) (wr := []) (w1 := [k4_0 aM vM, k4_1 cI aM vM, k4_2 cI aM vM, k4_3 cI aM vM, k4_4 cI aM vM, k4_5 cJ aM vM, k4_6 cI aM vM, k4_7 cJ aM vM, k4_8 cJ aM vM, k4_9 cI aM vM]) (wo := [k4_0 aM vM, k4_1 cI aM vM, k4_2 cI aM vM, k4_3 cI aM vM, k4_4 cI aM vM, k4_5 cJ aM vM, k4_6 cI aM vM, k4_7 cJ aM vM, k4_8 cJ aM vM, k4_9 cI aM vM]) hP hD hS hA (va_runV (As := [.int x1, .int (x2 - (1 : Int32))]) (rest := [.ref (aM 1)]) ⟨hx, hb, hml, hown, hts⟩ (mX4_stopAt l dC dI cI cJ aM H.size vM x1 (x2 - (1 : Int32)) y4 hy4) (cwV 2 hts gX4_plateOf_X4_stopAt rfl rfl rfl (by decide +kernel) ⟨Nat.le_of_ble_eq_true rfl, Nat.le_of_ble_eq_true rfl⟩) ⟨cFB, va_recv hK hP (ci := 4) (q0 := 0) rfl rfl, cPre hK hN hS (va_free (wc := [k4_0 aM vM, k4_1 cI aM vM, k4_2 cI aM vM, k4_3 cI aM vM, k4_4 cI aM vM, k4_5 cJ aM vM, k4_6 cI aM vM, k4_7 cJ aM vM, k4_8 cJ aM vM, k4_9 cI aM vM]) hD hS hA [0, 1, 2, 3, 4, 5, 6, 7, 8, 9] rfl) (hP.sub [0, 1, 2, 3, 4, 5, 6, 7, 8, 9] rfl) (hD.sub [0, 1, 2, 3, 4, 5, 6, 7, 8, 9] rfl rfl)⟩ rfl rfl hl.1 rfl (lv_room (Nat.le_of_ble_eq_true rfl)) dX4_plateOf_92 ⟨Nat.le_of_ble_eq_true rfl, Nat.le_of_ble_eq_true rfl⟩) [0, 1, 2, 3, 4, 5, 6, 7, 8, 9] [] [0, 1, 2, 3, 4, 5, 6, 7, 8, 9] rfl rfl rfl (by decide +kernel) rfl rfl (fun H locs hP hD hS => ?_)
      obtain ⟨hi5, hf⟩ := oinb rfl hf
      refine va_iald hx hb hK hP 1 0 rfl rfl hi5 dX4_plateOf_95 ?_
      obtain rfl := Option.some.inj hf
      exact W.iret (v := ((p4_s vM) (y4).toNatClampNeg)) hx hb hr (fun t ht hW => ⟨⟨((p4_s vM) (y4).toNatClampNeg), (), rfl, rfl, by rw [ht]; exact hP, hD⟩, hS.F ht⟩) hS.2.2 dX4_plateOf_96
    · have hf := oif_f c3 hf
      refine lv_ldc (v := (-1000004)) hx hb hown hc78 dX4_plateOf_78 ?_
      refine lv_goto (tgt := 96) hx hb dX4_plateOf_80 (by decide) ?_
      obtain rfl := Option.some.inj hf
      exact W.iret (v := (-1000004)) hx hb hr (fun t ht hW => ⟨⟨(-1000004), (), rfl, rfl, by rw [ht]; exact hP, hD⟩, hS.F ht⟩) hS.2.2 dX4_plateOf_96
  have J114 : ∀ (x1 : Int32) (x2 : Int32) (st1 : Int32) (H : Heap) (locs : List Loc) (ls : Array Slot), va_P (dC, dI) vwCl [k4_0 aM vM, k4_1 cI aM vM, k4_2 cI aM vM, k4_3 cI aM vM, k4_4 cI aM vM, k4_5 cJ aM vM, k4_6 cI aM vM, k4_7 cJ aM vM, k4_8 cJ aM vM, k4_9 cI aM vM] H → va_D A [k4_0 aM vM, k4_1 cI aM vM, k4_2 cI aM vM, k4_3 cI aM vM, k4_4 cI aM vM, k4_5 cJ aM vM, k4_6 cI aM vM, k4_7 cJ aM vM, k4_8 cJ aM vM, k4_9 cI aM vM] → va_S A s.heap H locs → lv_has ls 3 [(1, .int x1), (2, .int x2)] → fX4_plateOf_114 vM x1 x2 st1 = some y → WW H locs 0 0 ls 114 [.int st1, .ref (aM 1)] := by
    intro x1 x2 st1 H locs ls hP hD hS hl hf
    unfold fX4_plateOf_114 at hf
    refine (hWW _ _ _ _ _ _ _).2 ?_
    refine lv_iload_n hx hb dX4_plateOf_114 rfl (lv_at hl 0 rfl) ?_
    refine lv_iadd hx hb dX4_plateOf_115 ?_
    refine lv_iload_n hx hb dX4_plateOf_116 rfl (lv_at hl 1 rfl) ?_
    refine lv_iconst (v := 3) hx hb dX4_plateOf_117 (by decide) ?_
    refine lv_isub hx hb dX4_plateOf_118 ?_
    refine lv_iconst (v := 2) hx hb dX4_plateOf_119 (by decide) ?_
    refine lv_idiv hx hb dX4_plateOf_120 (by decide) ?_
    refine lv_iadd hx hb dX4_plateOf_121 ?_
    obtain ⟨hi6, hf⟩ := oinb rfl hf
    refine va_iald hx hb hK hP 1 0 rfl rfl hi6 dX4_plateOf_122 ?_
    obtain rfl := Option.some.inj hf
    exact W.iret (v := ((p4_s vM) (((st1 + x1) + ((x2 - (3 : Int32)) / (2 : Int32)))).toNatClampNeg)) hx hb hr (fun t ht hW => ⟨⟨((p4_s vM) (((st1 + x1) + ((x2 - (3 : Int32)) / (2 : Int32)))).toNatClampNeg), (), rfl, rfl, by rw [ht]; exact hP, hD⟩, hS.F ht⟩) hS.2.2 dX4_plateOf_123
  refine (hWW _ _ _ _ _ _ _).2 ?_
  unfold fX4_plateOf at hf
  refine lv_aload_n hx hb dX4_plateOf_0 rfl (lv_at hl 0 rfl) ?_
  refine lv_iload_n hx hb dX4_plateOf_1 rfl (lv_at hl 1 rfl) ?_
  obtain ⟨y7, hy7, hf⟩ := obind hf
  refine cg_i (ws := [k4_0 aM vM, k4_1 cI aM vM, k4_2 cI aM vM, k4_3 cI aM vM, k4_4 cI aM vM, k4_5 cJ aM vM, k4_6 cI aM vM, k4_7 cJ aM vM, k4_8 cJ aM vM, k4_9 cI aM vM]) (wc := [k4_0 aM vM, k4_1 cI aM vM, k4_2 cI aM vM, k4_3 cI aM vM, k4_4 cI aM vM, k4_5 cJ aM vM, k4_6 cI aM vM, k4_7 cJ aM vM, k4_8 cJ aM vM, k4_9 cI aM vM]) (wr := []) (w1 := [k4_0 aM vM, k4_1 cI aM vM, k4_2 cI aM vM, k4_3 cI aM vM, k4_4 cI aM vM, k4_5 cJ aM vM, k4_6 cI aM vM, k4_7 cJ aM vM, k4_8 cJ aM vM, k4_9 cI aM vM]) (wo := [k4_0 aM vM, k4_1 cI aM vM, k4_2 cI aM vM, k4_3 cI aM vM, k4_4 cI aM vM, k4_5 cJ aM vM, k4_6 cI aM vM, k4_7 cJ aM vM, k4_8 cJ aM vM, k4_9 cI aM vM]) hP hD hS hA (va_runV (As := [.int i1]) (rest := []) ⟨hx, hb, hml, hown, hts⟩ (mX4_isPlate l dC dI cI cJ aM H.size vM i1 y7 hy7) (cwV 1 hts gX4_plateOf_X4_isPlate rfl rfl rfl (by decide +kernel) ⟨Nat.le_of_ble_eq_true rfl, Nat.le_of_ble_eq_true rfl⟩) ⟨cFB, va_recv hK hP (ci := 4) (q0 := 0) rfl rfl, cPre hK hN hS (va_free (wc := [k4_0 aM vM, k4_1 cI aM vM, k4_2 cI aM vM, k4_3 cI aM vM, k4_4 cI aM vM, k4_5 cJ aM vM, k4_6 cI aM vM, k4_7 cJ aM vM, k4_8 cJ aM vM, k4_9 cI aM vM]) hD hS hA [0, 1, 2, 3, 4, 5, 6, 7, 8, 9] rfl) (hP.sub [0, 1, 2, 3, 4, 5, 6, 7, 8, 9] rfl) (hD.sub [0, 1, 2, 3, 4, 5, 6, 7, 8, 9] rfl rfl)⟩ rfl rfl hl.1 rfl (lv_room (Nat.le_of_ble_eq_true rfl)) dX4_plateOf_2 ⟨Nat.le_of_ble_eq_true rfl, Nat.le_of_ble_eq_true rfl⟩) [0, 1, 2, 3, 4, 5, 6, 7, 8, 9] [] [0, 1, 2, 3, 4, 5, 6, 7, 8, 9] rfl rfl rfl (by decide +kernel) rfl rfl (fun H locs hP hD hS => ?_)
  refine lv_if_eq (tgt := 18) hx hb dX4_plateOf_5 (by decide) (fun c8 => ?_) (fun c8 => ?_)
  · have hf := oif_t c8 hf
    refine lv_ldc (v := (-1000001)) hx hb hown hc57 dX4_plateOf_18 ?_
    obtain rfl := Option.some.inj hf
    exact W.iret (v := (-1000001)) hx hb hr (fun t ht hW => ⟨⟨(-1000001), (), rfl, rfl, by rw [ht]; exact hP, hD⟩, hS.F ht⟩) hS.2.2 dX4_plateOf_20
  · have hf := oif_f c8 hf
    refine lv_iload_n hx hb dX4_plateOf_8 rfl (lv_at hl 2 rfl) ?_
    refine lv_iconst (v := 0) hx hb dX4_plateOf_9 (by decide) ?_
    refine lv_bipush (v := 6) hx hb dX4_plateOf_10 (by decide) ?_
    obtain ⟨y9, hy9, hf⟩ := obind hf
    refine cg_i (ws := [k4_0 aM vM, k4_1 cI aM vM, k4_2 cI aM vM, k4_3 cI aM vM, k4_4 cI aM vM, k4_5 cJ aM vM, k4_6 cI aM vM, k4_7 cJ aM vM, k4_8 cJ aM vM, k4_9 cI aM vM]) (wc := []) (wr := [k4_0 aM vM, k4_1 cI aM vM, k4_2 cI aM vM, k4_3 cI aM vM, k4_4 cI aM vM, k4_5 cJ aM vM, k4_6 cI aM vM, k4_7 cJ aM vM, k4_8 cJ aM vM, k4_9 cI aM vM]) (w1 := []) (wo := [k4_0 aM vM, k4_1 cI aM vM, k4_2 cI aM vM, k4_3 cI aM vM, k4_4 cI aM vM, k4_5 cJ aM vM, k4_6 cI aM vM, k4_7 cJ aM vM, k4_8 cJ aM vM, k4_9 cI aM vM]) hP hD hS hA (va_runS (As := [.int i2, .int 0, .int 6]) (rest := []) ⟨hx, hb, hml, hown, hts⟩ (mX4_in l dC dI cI cJ  H.size i2 (0 : Int32) (6 : Int32) y9 hy9) (va_cwS 3 hts gX4_plateOf_X4_in rfl rfl rfl (by decide +kernel) ⟨Nat.le_of_ble_eq_true rfl, Nat.le_of_ble_eq_true rfl⟩) ⟨cFB, cPre hK hN hS (va_free (wc := []) hD hS hA [] rfl) (hP.sub [] rfl) (hD.sub [] rfl rfl)⟩ rfl rfl hl.1 rfl (lv_room (Nat.le_of_ble_eq_true rfl)) dX4_plateOf_12 ⟨Nat.le_of_ble_eq_true rfl, Nat.le_of_ble_eq_true rfl⟩) [] [0, 1, 2, 3, 4, 5, 6, 7, 8, 9] [0, 1, 2, 3, 4, 5, 6, 7, 8, 9] rfl rfl rfl (by decide +kernel) rfl rfl (fun H locs hP hD hS => ?_)
    refine lv_if_ne (tgt := 21) hx hb dX4_plateOf_15 (by decide) (fun c10 => ?_) (fun c10 => ?_)
    · have hf := oif_f c10 hf
      refine lv_iload_n hx hb dX4_plateOf_21 rfl (lv_at hl 2 rfl) ?_
      by_cases c11 : i2 = 0
      · have hf := oif_t c11 hf
        refine lv_tableIn (tgt := 48) hx hb dX4_plateOf_22 (by rw [c11]; decide) (by rw [c11]; decide) (by rw [c11]; rfl) (by decide) ?_
        refine lv_aload_n hx hb dX4_plateOf_48 rfl (lv_at hl 0 rfl) ?_
        refine va_get (D := (dC, dI)) (ci := 4) (v := .ref (aM 1)) (C := RX4) (T := TX4) (N := 21) hx hb hts hiX4 hown hK hP 0 rfl rfl 0 (by decide) hgX4_7 (fun _ h9 => h9) rfl dX4_plateOf_49 ?_
        refine lv_bipush (v := 12) hx hb dX4_plateOf_52 (by decide) ?_
        refine lv_iload_n hx hb dX4_plateOf_54 rfl (lv_at hl 1 rfl) ?_
        refine lv_iadd hx hb dX4_plateOf_55 ?_
        obtain ⟨hi12, hf⟩ := oinb rfl hf
        refine va_iald hx hb hK hP 1 0 rfl rfl hi12 dX4_plateOf_56 ?_
        refine lv_sipush (v := 1000) hx hb dX4_plateOf_57 (by decide) ?_
        refine lv_iadd hx hb dX4_plateOf_60 ?_
        obtain rfl := Option.some.inj hf
        exact W.iret (v := (((p4_s vM) (((12 : Int32) + i1)).toNatClampNeg) + (1000 : Int32))) hx hb hr (fun t ht hW => ⟨⟨(((p4_s vM) (((12 : Int32) + i1)).toNatClampNeg) + (1000 : Int32)), (), rfl, rfl, by rw [ht]; exact hP, hD⟩, hS.F ht⟩) hS.2.2 dX4_plateOf_61
      · have hf := oif_f c11 hf
        by_cases c13 : i2 = 1
        · have hf := oif_t c13 hf
          refine lv_tableIn (tgt := 62) hx hb dX4_plateOf_22 (by rw [c13]; decide) (by rw [c13]; decide) (by rw [c13]; rfl) (by decide) ?_
          exact (hWW _ _ _ _ _ _ _).1 (J62 i1 i2 H locs ls hP hD hS (lv_sub hl [0, 1, 2] rfl) hf)
        · have hf := oif_f c13 hf
          by_cases c14 : i2 = 2
          · have hf := oif_t c14 hf
            refine lv_tableIn (tgt := 62) hx hb dX4_plateOf_22 (by rw [c14]; decide) (by rw [c14]; decide) (by rw [c14]; rfl) (by decide) ?_
            exact (hWW _ _ _ _ _ _ _).1 (J62 i1 i2 H locs ls hP hD hS (lv_sub hl [0, 1, 2] rfl) hf)
          · have hf := oif_f c14 hf
            refine lv_tableOut (tgt := 97) hx hb dX4_plateOf_22 (by have t0 := toInt_ne (n := 0) rfl c11; have t1 := toInt_ne (n := 1) rfl c13; have t2 := toInt_ne (n := 2) rfl c14; omega) (by decide) ?_
            refine lv_aload_n hx hb dX4_plateOf_97 rfl (lv_at hl 0 rfl) ?_
            refine va_get (D := (dC, dI)) (ci := 4) (v := .ref (aM 1)) (C := RX4) (T := TX4) (N := 21) hx hb hts hiX4 hown hK hP 0 rfl rfl 0 (by decide) hgX4_7 (fun _ h9 => h9) rfl dX4_plateOf_98 ?_
            refine lv_iload_n hx hb dX4_plateOf_101 rfl (lv_at hl 2 rfl) ?_
            refine lv_iconst (v := 2) hx hb dX4_plateOf_102 (by decide) ?_
            refine lv_irem hx hb dX4_plateOf_103 (by decide) ?_
            refine lv_iconst (v := 1) hx hb dX4_plateOf_104 (by decide) ?_
            refine lv_icmp_ne (tgt := 112) hx hb dX4_plateOf_105 (by decide) (fun c15 => ?_) (fun c15 => ?_)
            · have hf := oif_f c15 hf
              refine lv_bipush (v := 7) hx hb dX4_plateOf_112 (by decide) ?_
              exact (hWW _ _ _ _ _ _ _).1 (J114 i1 i2 (7 : Int32) H locs ls hP hD hS (lv_sub hl [1, 2] rfl) hf)
            · have hf := oif_t c15 hf
              refine lv_iconst (v := 2) hx hb dX4_plateOf_108 (by decide) ?_
              refine lv_goto (tgt := 114) hx hb dX4_plateOf_109 (by decide) ?_
              exact (hWW _ _ _ _ _ _ _).1 (J114 i1 i2 (2 : Int32) H locs ls hP hD hS (lv_sub hl [1, 2] rfl) hf)
    · have hf := oif_t c10 hf
      refine lv_ldc (v := (-1000001)) hx hb hown hc57 dX4_plateOf_18 ?_
      obtain rfl := Option.some.inj hf
      exact W.iret (v := (-1000001)) hx hb hr (fun t ht hW => ⟨⟨(-1000001), (), rfl, rfl, by rw [ht]; exact hP, hD⟩, hS.F ht⟩) hS.2.2 dX4_plateOf_20
def fX4_at (vM : BX4) (i1 : Int32) : Option Int64 :=
  if 0 ≤ i1 then (if i1 = ((p4_s vM) ((1 : Int32)).toNatClampNeg) then (some ((((p4_s vM) ((0 : Int32)).toNatClampNeg)).toInt64 * (p4_lower vM))) else (if inB i1 4 = true then (some ((p4_upper vM) (i1).toNatClampNeg)) else none)) else (some 0)
set_option maxHeartbeats 8000000 in
set_option maxRecDepth 100000 in
theorem mX4_at (l : Launch) (dC : Nat → ClassId) (dI : Nat → Nat → Nat) (cI cJ : ClassId) (aM : Nat → Nat) (sz : Nat) (vM : BX4) (i1 : Int32) (y : Int64) (hf : fX4_at vM i1 = some y) : Met l yX4_at wsX4_at ({ frames := 0, cells := 0, slots := 0, locals := 0 }) (cPc dC dI cI cJ [.ref (aM 0), .int i1] [k4_0 aM vM, k4_1 cI aM vM, k4_2 cI aM vM, k4_3 cI aM vM, k4_4 cI aM vM, k4_5 cJ aM vM, k4_6 cI aM vM, k4_7 cJ aM vM, k4_8 cJ aM vM, k4_9 cI aM vM] sz) (va_Ql (fun r (_ : Unit) => r = y) (fun _ t => cB dC dI (va_A [k4_0 aM vM, k4_1 cI aM vM, k4_2 cI aM vM, k4_3 cI aM vM, k4_4 cI aM vM, k4_5 cJ aM vM, k4_6 cI aM vM, k4_7 cJ aM vM, k4_8 cJ aM vM, k4_9 cI aM vM] sz) [k4_0 aM vM, k4_1 cI aM vM, k4_2 cI aM vM, k4_3 cI aM vM, k4_4 cI aM vM, k4_5 cJ aM vM, k4_6 cI aM vM, k4_7 cJ aM vM, k4_8 cJ aM vM, k4_9 cI aM vM] t) (va_A [k4_0 aM vM, k4_1 cI aM vM, k4_2 cI aM vM, k4_3 cI aM vM, k4_4 cI aM vM, k4_5 cJ aM vM, k4_6 cI aM vM, k4_7 cJ aM vM, k4_8 cJ aM vM, k4_9 cI aM vM] sz)) 0 0 (va_A [k4_0 aM vM, k4_1 cI aM vM, k4_2 cI aM vM, k4_3 cI aM vM, k4_4 cI aM vM, k4_5 cJ aM vM, k4_6 cI aM vM, k4_7 cJ aM vM, k4_8 cJ aM vM, k4_9 cI aM vM] sz) := by
  refine Met.ofW (cc := cX4_at) (maxL := 2) (ret := (some .long)) (by decide) rfl ?_
  intro p e s m args below meth c s₁ B hml hv
  obtain ⟨rfl, hsz, hP, hK, hD0, hN⟩ := hv
  have hx := B.exec
  have hb := B.bytes
  have hr := B.returns
  have hts := atoms_spec (ws := wsX4_at) B.pre
  have hown : s.vm.findClass RX4 = some m.cls := findClass_of_methodNamed B.named
  have hlocks := B.notSynchronized
  subst hsz
  have hD := hD0.self (sz := s.heap.size)
  generalize hAe : va_A [k4_0 aM vM, k4_1 cI aM vM, k4_2 cI aM vM, k4_3 cI aM vM, k4_4 cI aM vM, k4_5 cJ aM vM, k4_6 cI aM vM, k4_7 cJ aM vM, k4_8 cJ aM vM, k4_9 cI aM vM] s.heap.size = A at hD hN ⊢
  have hA : ∀ q : Nat, s.heap.size ≤ q → A q := fun q h => by rw [← hAe]; exact Or.inr h
  have hP : va_P (dC, dI) vwCl [k4_0 aM vM, k4_1 cI aM vM, k4_2 cI aM vM, k4_3 cI aM vM, k4_4 cI aM vM, k4_5 cJ aM vM, k4_6 cI aM vM, k4_7 cJ aM vM, k4_8 cJ aM vM, k4_9 cI aM vM] s.heap := hP
  have hl := lv_entry ([.ref (aM 0), .int i1]) (n := 2) (Nat.le_of_ble_eq_true rfl)
  rw [lg_entry_eq]
  generalize (lg_sl ([.ref (aM 0), .int i1]) ++ List.replicate (2 - (lg_sl ([.ref (aM 0), .int i1])).length) Slot.unset).toArray = ls at hl ⊢
  have hl : lv_has ls 2 [(0, .ref (aM 0)), (1, .int i1)] := hl
  have hiX4 : ∀ w ∈ u_ws RX4 TX4 21, w ∈ wsX4_at := by decide +kernel
  have hgX4_7 := hts (.fieldLink RX4 7 "SpringPlatesModel" "s" "[I") (by decide +kernel)
  have hgX4_22 := hts (.fieldLink RX4 22 "SpringPlatesModel" "upper" "[J") (by decide +kernel)
  have hgX4_79 := hts (.fieldLink RX4 79 "SpringPlatesModel" "lower" "J") (by decide +kernel)
  refine nameH (fun H locs hHe hLe => ?_)
  have hP : va_P (dC, dI) vwCl [k4_0 aM vM, k4_1 cI aM vM, k4_2 cI aM vM, k4_3 cI aM vM, k4_4 cI aM vM, k4_5 cJ aM vM, k4_6 cI aM vM, k4_7 cJ aM vM, k4_8 cJ aM vM, k4_9 cI aM vM] H := by rw [hHe]; exact hP
  have hS : va_S A s.heap H locs := by rw [hHe, hLe]; exact va_S.rf
  unfold fX4_at at hf
  refine lv_iload_n hx hb dX4_at_0 rfl (lv_at hl 1 rfl) ?_
  refine lv_if_ge (tgt := 8) hx hb dX4_at_1 (by decide) (fun c1 => ?_) (fun c1 => ?_)
  · have hf := oif_t c1 hf
    refine lv_iload_n hx hb dX4_at_8 rfl (lv_at hl 1 rfl) ?_
    refine lv_aload_n hx hb dX4_at_9 rfl (lv_at hl 0 rfl) ?_
    refine va_get (D := (dC, dI)) (ci := 4) (v := .ref (aM 1)) (C := RX4) (T := TX4) (N := 21) hx hb hts hiX4 hown hK hP 0 rfl rfl 0 (by decide) hgX4_7 (fun _ h9 => h9) rfl dX4_at_10 ?_
    refine lv_iconst (v := 1) hx hb dX4_at_13 (by decide) ?_
    refine va_iald hx hb hK hP 1 0 rfl rfl (vpc rfl) dX4_at_14 ?_
    refine lv_icmp_ne (tgt := 33) hx hb dX4_at_15 (by decide) (fun c2 => ?_) (fun c2 => ?_)
    · have hf := oif_f c2 hf
      refine lv_aload_n hx hb dX4_at_33 rfl (lv_at hl 0 rfl) ?_
      refine va_get (D := (dC, dI)) (ci := 4) (v := .ref (aM 5)) (C := RX4) (T := TX4) (N := 21) hx hb hts hiX4 hown hK hP 0 rfl rfl 7 (by decide) hgX4_22 (fun _ h9 => h9) rfl dX4_at_34 ?_
      refine lv_iload_n hx hb dX4_at_37 rfl (lv_at hl 1 rfl) ?_
      obtain ⟨hi3, hf⟩ := oinb rfl hf
      refine va_lald hx hb hK hP 5 1 rfl rfl hi3 dX4_at_38 ?_
      obtain rfl := Option.some.inj hf
      exact W.lret (v := ((p4_upper vM) (i1).toNatClampNeg)) hx hb hr (fun t ht hW => ⟨⟨((p4_upper vM) (i1).toNatClampNeg), (), rfl, rfl, by rw [ht]; exact hP, hD⟩, hS.F ht⟩) hS.2.2 dX4_at_39
    · have hf := oif_t c2 hf
      refine lv_aload_n hx hb dX4_at_18 rfl (lv_at hl 0 rfl) ?_
      refine va_get (D := (dC, dI)) (ci := 4) (v := .ref (aM 1)) (C := RX4) (T := TX4) (N := 21) hx hb hts hiX4 hown hK hP 0 rfl rfl 0 (by decide) hgX4_7 (fun _ h9 => h9) rfl dX4_at_19 ?_
      refine lv_iconst (v := 0) hx hb dX4_at_22 (by decide) ?_
      refine va_iald hx hb hK hP 1 0 rfl rfl (vpc rfl) dX4_at_23 ?_
      refine lv_i2l (v := (((p4_s vM) ((0 : Int32)).toNatClampNeg)).toInt64) hx hb dX4_at_24 rfl ?_
      refine lv_aload_n hx hb dX4_at_25 rfl (lv_at hl 0 rfl) ?_
      refine va_get (D := (dC, dI)) (ci := 4) (v := .long (p4_lower vM)) (C := RX4) (T := TX4) (N := 21) hx hb hts hiX4 hown hK hP 0 rfl rfl 8 (by decide) hgX4_79 (fun _ h9 => h9) rfl dX4_at_26 ?_
      refine lv_lmul hx hb dX4_at_29 ?_
      refine lv_goto (tgt := 39) hx hb dX4_at_30 (by decide) ?_
      obtain rfl := Option.some.inj hf
      exact W.lret (v := ((((p4_s vM) ((0 : Int32)).toNatClampNeg)).toInt64 * (p4_lower vM))) hx hb hr (fun t ht hW => ⟨⟨((((p4_s vM) ((0 : Int32)).toNatClampNeg)).toInt64 * (p4_lower vM)), (), rfl, rfl, by rw [ht]; exact hP, hD⟩, hS.F ht⟩) hS.2.2 dX4_at_39
  · have hf := oif_f c1 hf
    refine lv_lconst (v := 0) hx hb dX4_at_4 (by decide) ?_
    refine lv_goto (tgt := 39) hx hb dX4_at_5 (by decide) ?_
    obtain rfl := Option.some.inj hf
    exact W.lret (v := 0) hx hb hr (fun t ht hW => ⟨⟨0, (), rfl, rfl, by rw [ht]; exact hP, hD⟩, hS.F ht⟩) hS.2.2 dX4_at_39
def fX4_pullOf (vM : BX4) (i1 : Int32) : Option Int64 :=
  if inB ((2 : Int32) + i1) 24 = true then ((fX4_at vM i1).bind (fun y2 => (fX4_at vM (i1 - (1 : Int32))).bind (fun y3 => if inB ((7 : Int32) + i1) 24 = true then (some ((((p4_s vM) (((2 : Int32) + i1)).toNatClampNeg)).toInt64 * ((y2 - y3) - ((((p4_s vM) (((7 : Int32) + i1)).toNatClampNeg)).toInt64 * (p4_lower vM))))) else none))) else none
set_option maxHeartbeats 8000000 in
set_option maxRecDepth 100000 in
theorem mX4_pullOf (l : Launch) (dC : Nat → ClassId) (dI : Nat → Nat → Nat) (cI cJ : ClassId) (aM : Nat → Nat) (sz : Nat) (vM : BX4) (i1 : Int32) (y : Int64) (hf : fX4_pullOf vM i1 = some y) : Met l yX4_pullOf wsX4_pullOf ({ frames := 1, cells := 0, slots := 0, locals := 21 }) (cPc dC dI cI cJ [.ref (aM 0), .int i1] [k4_0 aM vM, k4_1 cI aM vM, k4_2 cI aM vM, k4_3 cI aM vM, k4_4 cI aM vM, k4_5 cJ aM vM, k4_6 cI aM vM, k4_7 cJ aM vM, k4_8 cJ aM vM, k4_9 cI aM vM] sz) (va_Ql (fun r (_ : Unit) => r = y) (fun _ t => cB dC dI (va_A [k4_0 aM vM, k4_1 cI aM vM, k4_2 cI aM vM, k4_3 cI aM vM, k4_4 cI aM vM, k4_5 cJ aM vM, k4_6 cI aM vM, k4_7 cJ aM vM, k4_8 cJ aM vM, k4_9 cI aM vM] sz) [k4_0 aM vM, k4_1 cI aM vM, k4_2 cI aM vM, k4_3 cI aM vM, k4_4 cI aM vM, k4_5 cJ aM vM, k4_6 cI aM vM, k4_7 cJ aM vM, k4_8 cJ aM vM, k4_9 cI aM vM] t) (va_A [k4_0 aM vM, k4_1 cI aM vM, k4_2 cI aM vM, k4_3 cI aM vM, k4_4 cI aM vM, k4_5 cJ aM vM, k4_6 cI aM vM, k4_7 cJ aM vM, k4_8 cJ aM vM, k4_9 cI aM vM] sz)) 0 0 (va_A [k4_0 aM vM, k4_1 cI aM vM, k4_2 cI aM vM, k4_3 cI aM vM, k4_4 cI aM vM, k4_5 cJ aM vM, k4_6 cI aM vM, k4_7 cJ aM vM, k4_8 cJ aM vM, k4_9 cI aM vM] sz) := by
  refine Met.ofW (cc := cX4_pullOf) (maxL := 2) (ret := (some .long)) (by decide) rfl ?_
  intro p e s m args below meth c s₁ B hml hv
  obtain ⟨rfl, hsz, hP, hK, hD0, hN⟩ := hv
  have hx := B.exec
  have hb := B.bytes
  have hr := B.returns
  have hts := atoms_spec (ws := wsX4_pullOf) B.pre
  have hown : s.vm.findClass RX4 = some m.cls := findClass_of_methodNamed B.named
  have hlocks := B.notSynchronized
  subst hsz
  have hD := hD0.self (sz := s.heap.size)
  generalize hAe : va_A [k4_0 aM vM, k4_1 cI aM vM, k4_2 cI aM vM, k4_3 cI aM vM, k4_4 cI aM vM, k4_5 cJ aM vM, k4_6 cI aM vM, k4_7 cJ aM vM, k4_8 cJ aM vM, k4_9 cI aM vM] s.heap.size = A at hD hN ⊢
  have hA : ∀ q : Nat, s.heap.size ≤ q → A q := fun q h => by rw [← hAe]; exact Or.inr h
  have hP : va_P (dC, dI) vwCl [k4_0 aM vM, k4_1 cI aM vM, k4_2 cI aM vM, k4_3 cI aM vM, k4_4 cI aM vM, k4_5 cJ aM vM, k4_6 cI aM vM, k4_7 cJ aM vM, k4_8 cJ aM vM, k4_9 cI aM vM] s.heap := hP
  have hl := lv_entry ([.ref (aM 0), .int i1]) (n := 2) (Nat.le_of_ble_eq_true rfl)
  rw [lg_entry_eq]
  generalize (lg_sl ([.ref (aM 0), .int i1]) ++ List.replicate (2 - (lg_sl ([.ref (aM 0), .int i1])).length) Slot.unset).toArray = ls at hl ⊢
  have hl : lv_has ls 2 [(0, .ref (aM 0)), (1, .int i1)] := hl
  have hiX4 : ∀ w ∈ u_ws RX4 TX4 21, w ∈ wsX4_pullOf := by decide +kernel
  have hgX4_7 := hts (.fieldLink RX4 7 "SpringPlatesModel" "s" "[I") (by decide +kernel)
  have hgX4_79 := hts (.fieldLink RX4 79 "SpringPlatesModel" "lower" "J") (by decide +kernel)
  refine nameH (fun H locs hHe hLe => ?_)
  have hP : va_P (dC, dI) vwCl [k4_0 aM vM, k4_1 cI aM vM, k4_2 cI aM vM, k4_3 cI aM vM, k4_4 cI aM vM, k4_5 cJ aM vM, k4_6 cI aM vM, k4_7 cJ aM vM, k4_8 cJ aM vM, k4_9 cI aM vM] H := by rw [hHe]; exact hP
  have hS : va_S A s.heap H locs := by rw [hHe, hLe]; exact va_S.rf
  unfold fX4_pullOf at hf
  refine lv_aload_n hx hb dX4_pullOf_0 rfl (lv_at hl 0 rfl) ?_
  refine va_get (D := (dC, dI)) (ci := 4) (v := .ref (aM 1)) (C := RX4) (T := TX4) (N := 21) hx hb hts hiX4 hown hK hP 0 rfl rfl 0 (by decide) hgX4_7 (fun _ h9 => h9) rfl dX4_pullOf_1 ?_
  refine lv_iconst (v := 2) hx hb dX4_pullOf_4 (by decide) ?_
  refine lv_iload_n hx hb dX4_pullOf_5 rfl (lv_at hl 1 rfl) ?_
  refine lv_iadd hx hb dX4_pullOf_6 ?_
  obtain ⟨hi1, hf⟩ := oinb rfl hf
  refine va_iald hx hb hK hP 1 0 rfl rfl hi1 dX4_pullOf_7 ?_
  refine lv_i2l (v := (((p4_s vM) (((2 : Int32) + i1)).toNatClampNeg)).toInt64) hx hb dX4_pullOf_8 rfl ?_
  refine lv_aload_n hx hb dX4_pullOf_9 rfl (lv_at hl 0 rfl) ?_
  refine lv_iload_n hx hb dX4_pullOf_10 rfl (lv_at hl 1 rfl) ?_
  obtain ⟨y2, hy2, hf⟩ := obind hf
  refine cg_l (ws := [k4_0 aM vM, k4_1 cI aM vM, k4_2 cI aM vM, k4_3 cI aM vM, k4_4 cI aM vM, k4_5 cJ aM vM, k4_6 cI aM vM, k4_7 cJ aM vM, k4_8 cJ aM vM, k4_9 cI aM vM]) (wc := [k4_0 aM vM, k4_1 cI aM vM, k4_2 cI aM vM, k4_3 cI aM vM, k4_4 cI aM vM, k4_5 cJ aM vM, k4_6 cI aM vM, k4_7 cJ aM vM, k4_8 cJ aM vM, k4_9 cI aM vM]) (wr := []) (w1 := [k4_0 aM vM, k4_1 cI aM vM, k4_2 cI aM vM, k4_3 cI aM vM, k4_4 cI aM vM, k4_5 cJ aM vM, k4_6 cI aM vM, k4_7 cJ aM vM, k4_8 cJ aM vM, k4_9 cI aM vM]) (wo := [k4_0 aM vM, k4_1 cI aM vM, k4_2 cI aM vM, k4_3 cI aM vM, k4_4 cI aM vM, k4_5 cJ aM vM, k4_6 cI aM vM, k4_7 cJ aM vM, k4_8 cJ aM vM, k4_9 cI aM vM]) hP hD hS hA (va_runV (As := [.int i1]) (rest := [.long ((((p4_s vM) (((2 : Int32) + i1)).toNatClampNeg)).toInt64)]) ⟨hx, hb, hml, hown, hts⟩ (mX4_at l dC dI cI cJ aM H.size vM i1 y2 hy2) (cwV 1 hts gX4_pullOf_X4_at rfl rfl rfl (by decide +kernel) ⟨Nat.le_of_ble_eq_true rfl, Nat.le_of_ble_eq_true rfl⟩) ⟨cFB, va_recv hK hP (ci := 4) (q0 := 0) rfl rfl, cPre hK hN hS (va_free (wc := [k4_0 aM vM, k4_1 cI aM vM, k4_2 cI aM vM, k4_3 cI aM vM, k4_4 cI aM vM, k4_5 cJ aM vM, k4_6 cI aM vM, k4_7 cJ aM vM, k4_8 cJ aM vM, k4_9 cI aM vM]) hD hS hA [0, 1, 2, 3, 4, 5, 6, 7, 8, 9] rfl) (hP.sub [0, 1, 2, 3, 4, 5, 6, 7, 8, 9] rfl) (hD.sub [0, 1, 2, 3, 4, 5, 6, 7, 8, 9] rfl rfl)⟩ rfl rfl hl.1 rfl (lv_room (Nat.le_of_ble_eq_true rfl)) dX4_pullOf_11 ⟨Nat.le_of_ble_eq_true rfl, Nat.le_of_ble_eq_true rfl⟩) [0, 1, 2, 3, 4, 5, 6, 7, 8, 9] [] [0, 1, 2, 3, 4, 5, 6, 7, 8, 9] rfl rfl rfl (by decide +kernel) rfl rfl (fun H locs hP hD hS => ?_)
  refine lv_aload_n hx hb dX4_pullOf_14 rfl (lv_at hl 0 rfl) ?_
  refine lv_iload_n hx hb dX4_pullOf_15 rfl (lv_at hl 1 rfl) ?_
  refine lv_iconst (v := 1) hx hb dX4_pullOf_16 (by decide) ?_
  refine lv_isub hx hb dX4_pullOf_17 ?_
  obtain ⟨y3, hy3, hf⟩ := obind hf
  refine cg_l (ws := [k4_0 aM vM, k4_1 cI aM vM, k4_2 cI aM vM, k4_3 cI aM vM, k4_4 cI aM vM, k4_5 cJ aM vM, k4_6 cI aM vM, k4_7 cJ aM vM, k4_8 cJ aM vM, k4_9 cI aM vM]) (wc := [k4_0 aM vM, k4_1 cI aM vM, k4_2 cI aM vM, k4_3 cI aM vM, k4_4 cI aM vM, k4_5 cJ aM vM, k4_6 cI aM vM, k4_7 cJ aM vM, k4_8 cJ aM vM, k4_9 cI aM vM]) (wr := []) (w1 := [k4_0 aM vM, k4_1 cI aM vM, k4_2 cI aM vM, k4_3 cI aM vM, k4_4 cI aM vM, k4_5 cJ aM vM, k4_6 cI aM vM, k4_7 cJ aM vM, k4_8 cJ aM vM, k4_9 cI aM vM]) (wo := [k4_0 aM vM, k4_1 cI aM vM, k4_2 cI aM vM, k4_3 cI aM vM, k4_4 cI aM vM, k4_5 cJ aM vM, k4_6 cI aM vM, k4_7 cJ aM vM, k4_8 cJ aM vM, k4_9 cI aM vM]) hP hD hS hA (va_runV (As := [.int (i1 - (1 : Int32))]) (rest := [.long y2, .long ((((p4_s vM) (((2 : Int32) + i1)).toNatClampNeg)).toInt64)]) ⟨hx, hb, hml, hown, hts⟩ (mX4_at l dC dI cI cJ aM H.size vM (i1 - (1 : Int32)) y3 hy3) (cwV 1 hts gX4_pullOf_X4_at rfl rfl rfl (by decide +kernel) ⟨Nat.le_of_ble_eq_true rfl, Nat.le_of_ble_eq_true rfl⟩) ⟨cFB, va_recv hK hP (ci := 4) (q0 := 0) rfl rfl, cPre hK hN hS (va_free (wc := [k4_0 aM vM, k4_1 cI aM vM, k4_2 cI aM vM, k4_3 cI aM vM, k4_4 cI aM vM, k4_5 cJ aM vM, k4_6 cI aM vM, k4_7 cJ aM vM, k4_8 cJ aM vM, k4_9 cI aM vM]) hD hS hA [0, 1, 2, 3, 4, 5, 6, 7, 8, 9] rfl) (hP.sub [0, 1, 2, 3, 4, 5, 6, 7, 8, 9] rfl) (hD.sub [0, 1, 2, 3, 4, 5, 6, 7, 8, 9] rfl rfl)⟩ rfl rfl hl.1 rfl (lv_room (Nat.le_of_ble_eq_true rfl)) dX4_pullOf_18 ⟨Nat.le_of_ble_eq_true rfl, Nat.le_of_ble_eq_true rfl⟩) [0, 1, 2, 3, 4, 5, 6, 7, 8, 9] [] [0, 1, 2, 3, 4, 5, 6, 7, 8, 9] rfl rfl rfl (by decide +kernel) rfl rfl (fun H locs hP hD hS => ?_)
  refine lv_lsub hx hb dX4_pullOf_21 ?_
  refine lv_aload_n hx hb dX4_pullOf_22 rfl (lv_at hl 0 rfl) ?_
  refine va_get (D := (dC, dI)) (ci := 4) (v := .ref (aM 1)) (C := RX4) (T := TX4) (N := 21) hx hb hts hiX4 hown hK hP 0 rfl rfl 0 (by decide) hgX4_7 (fun _ h9 => h9) rfl dX4_pullOf_23 ?_
  refine lv_bipush (v := 7) hx hb dX4_pullOf_26 (by decide) ?_
  refine lv_iload_n hx hb dX4_pullOf_28 rfl (lv_at hl 1 rfl) ?_
  refine lv_iadd hx hb dX4_pullOf_29 ?_
  obtain ⟨hi4, hf⟩ := oinb rfl hf
  refine va_iald hx hb hK hP 1 0 rfl rfl hi4 dX4_pullOf_30 ?_
  refine lv_i2l (v := (((p4_s vM) (((7 : Int32) + i1)).toNatClampNeg)).toInt64) hx hb dX4_pullOf_31 rfl ?_
  refine lv_aload_n hx hb dX4_pullOf_32 rfl (lv_at hl 0 rfl) ?_
  refine va_get (D := (dC, dI)) (ci := 4) (v := .long (p4_lower vM)) (C := RX4) (T := TX4) (N := 21) hx hb hts hiX4 hown hK hP 0 rfl rfl 8 (by decide) hgX4_79 (fun _ h9 => h9) rfl dX4_pullOf_33 ?_
  refine lv_lmul hx hb dX4_pullOf_36 ?_
  refine lv_lsub hx hb dX4_pullOf_37 ?_
  refine lv_lmul hx hb dX4_pullOf_38 ?_
  obtain rfl := Option.some.inj hf
  exact W.lret (v := ((((p4_s vM) (((2 : Int32) + i1)).toNatClampNeg)).toInt64 * ((y2 - y3) - ((((p4_s vM) (((7 : Int32) + i1)).toNatClampNeg)).toInt64 * (p4_lower vM))))) hx hb hr (fun t ht hW => ⟨⟨((((p4_s vM) (((2 : Int32) + i1)).toNatClampNeg)).toInt64 * ((y2 - y3) - ((((p4_s vM) (((7 : Int32) + i1)).toNatClampNeg)).toInt64 * (p4_lower vM)))), (), rfl, rfl, by rw [ht]; exact hP, hD⟩, hS.F ht⟩) hS.2.2 dX4_pullOf_39
def fX4_force (vM : BX4) (i1 : Int32) : Option Int64 :=
  (fX4_pullOf vM (i1 + (1 : Int32))).bind (fun y1 => (fX4_pullOf vM i1).bind (fun y2 => if inB ((12 : Int32) + i1) 24 = true then (some ((y1 - y2) + ((((p4_s vM) (((12 : Int32) + i1)).toNatClampNeg)).toInt64 * (p4_lower vM)))) else none))
set_option maxHeartbeats 8000000 in
set_option maxRecDepth 100000 in
theorem mX4_force (l : Launch) (dC : Nat → ClassId) (dI : Nat → Nat → Nat) (cI cJ : ClassId) (aM : Nat → Nat) (sz : Nat) (vM : BX4) (i1 : Int32) (y : Int64) (hf : fX4_force vM i1 = some y) : Met l yX4_force wsX4_force ({ frames := 2, cells := 0, slots := 0, locals := 42 }) (cPc dC dI cI cJ [.ref (aM 0), .int i1] [k4_0 aM vM, k4_1 cI aM vM, k4_2 cI aM vM, k4_3 cI aM vM, k4_4 cI aM vM, k4_5 cJ aM vM, k4_6 cI aM vM, k4_7 cJ aM vM, k4_8 cJ aM vM, k4_9 cI aM vM] sz) (va_Ql (fun r (_ : Unit) => r = y) (fun _ t => cB dC dI (va_A [k4_0 aM vM, k4_1 cI aM vM, k4_2 cI aM vM, k4_3 cI aM vM, k4_4 cI aM vM, k4_5 cJ aM vM, k4_6 cI aM vM, k4_7 cJ aM vM, k4_8 cJ aM vM, k4_9 cI aM vM] sz) [k4_0 aM vM, k4_1 cI aM vM, k4_2 cI aM vM, k4_3 cI aM vM, k4_4 cI aM vM, k4_5 cJ aM vM, k4_6 cI aM vM, k4_7 cJ aM vM, k4_8 cJ aM vM, k4_9 cI aM vM] t) (va_A [k4_0 aM vM, k4_1 cI aM vM, k4_2 cI aM vM, k4_3 cI aM vM, k4_4 cI aM vM, k4_5 cJ aM vM, k4_6 cI aM vM, k4_7 cJ aM vM, k4_8 cJ aM vM, k4_9 cI aM vM] sz)) 0 0 (va_A [k4_0 aM vM, k4_1 cI aM vM, k4_2 cI aM vM, k4_3 cI aM vM, k4_4 cI aM vM, k4_5 cJ aM vM, k4_6 cI aM vM, k4_7 cJ aM vM, k4_8 cJ aM vM, k4_9 cI aM vM] sz) := by
  refine Met.ofW (cc := cX4_force) (maxL := 2) (ret := (some .long)) (by decide) rfl ?_
  intro p e s m args below meth c s₁ B hml hv
  obtain ⟨rfl, hsz, hP, hK, hD0, hN⟩ := hv
  have hx := B.exec
  have hb := B.bytes
  have hr := B.returns
  have hts := atoms_spec (ws := wsX4_force) B.pre
  have hown : s.vm.findClass RX4 = some m.cls := findClass_of_methodNamed B.named
  have hlocks := B.notSynchronized
  subst hsz
  have hD := hD0.self (sz := s.heap.size)
  generalize hAe : va_A [k4_0 aM vM, k4_1 cI aM vM, k4_2 cI aM vM, k4_3 cI aM vM, k4_4 cI aM vM, k4_5 cJ aM vM, k4_6 cI aM vM, k4_7 cJ aM vM, k4_8 cJ aM vM, k4_9 cI aM vM] s.heap.size = A at hD hN ⊢
  have hA : ∀ q : Nat, s.heap.size ≤ q → A q := fun q h => by rw [← hAe]; exact Or.inr h
  have hP : va_P (dC, dI) vwCl [k4_0 aM vM, k4_1 cI aM vM, k4_2 cI aM vM, k4_3 cI aM vM, k4_4 cI aM vM, k4_5 cJ aM vM, k4_6 cI aM vM, k4_7 cJ aM vM, k4_8 cJ aM vM, k4_9 cI aM vM] s.heap := hP
  have hl := lv_entry ([.ref (aM 0), .int i1]) (n := 2) (Nat.le_of_ble_eq_true rfl)
  rw [lg_entry_eq]
  generalize (lg_sl ([.ref (aM 0), .int i1]) ++ List.replicate (2 - (lg_sl ([.ref (aM 0), .int i1])).length) Slot.unset).toArray = ls at hl ⊢
  have hl : lv_has ls 2 [(0, .ref (aM 0)), (1, .int i1)] := hl
  have hiX4 : ∀ w ∈ u_ws RX4 TX4 21, w ∈ wsX4_force := by decide +kernel
  have hgX4_7 := hts (.fieldLink RX4 7 "SpringPlatesModel" "s" "[I") (by decide +kernel)
  have hgX4_79 := hts (.fieldLink RX4 79 "SpringPlatesModel" "lower" "J") (by decide +kernel)
  refine nameH (fun H locs hHe hLe => ?_)
  have hP : va_P (dC, dI) vwCl [k4_0 aM vM, k4_1 cI aM vM, k4_2 cI aM vM, k4_3 cI aM vM, k4_4 cI aM vM, k4_5 cJ aM vM, k4_6 cI aM vM, k4_7 cJ aM vM, k4_8 cJ aM vM, k4_9 cI aM vM] H := by rw [hHe]; exact hP
  have hS : va_S A s.heap H locs := by rw [hHe, hLe]; exact va_S.rf
  unfold fX4_force at hf
  refine lv_aload_n hx hb dX4_force_0 rfl (lv_at hl 0 rfl) ?_
  refine lv_iload_n hx hb dX4_force_1 rfl (lv_at hl 1 rfl) ?_
  refine lv_iconst (v := 1) hx hb dX4_force_2 (by decide) ?_
  refine lv_iadd hx hb dX4_force_3 ?_
  obtain ⟨y1, hy1, hf⟩ := obind hf
  refine cg_l (ws := [k4_0 aM vM, k4_1 cI aM vM, k4_2 cI aM vM, k4_3 cI aM vM, k4_4 cI aM vM, k4_5 cJ aM vM, k4_6 cI aM vM, k4_7 cJ aM vM, k4_8 cJ aM vM, k4_9 cI aM vM]) (wc := [k4_0 aM vM, k4_1 cI aM vM, k4_2 cI aM vM, k4_3 cI aM vM, k4_4 cI aM vM, k4_5 cJ aM vM, k4_6 cI aM vM, k4_7 cJ aM vM, k4_8 cJ aM vM, k4_9 cI aM vM]) (wr := []) (w1 := [k4_0 aM vM, k4_1 cI aM vM, k4_2 cI aM vM, k4_3 cI aM vM, k4_4 cI aM vM, k4_5 cJ aM vM, k4_6 cI aM vM, k4_7 cJ aM vM, k4_8 cJ aM vM, k4_9 cI aM vM]) (wo := [k4_0 aM vM, k4_1 cI aM vM, k4_2 cI aM vM, k4_3 cI aM vM, k4_4 cI aM vM, k4_5 cJ aM vM, k4_6 cI aM vM, k4_7 cJ aM vM, k4_8 cJ aM vM, k4_9 cI aM vM]) hP hD hS hA (va_runV (As := [.int (i1 + (1 : Int32))]) (rest := []) ⟨hx, hb, hml, hown, hts⟩ (mX4_pullOf l dC dI cI cJ aM H.size vM (i1 + (1 : Int32)) y1 hy1) (cwV 1 hts gX4_force_X4_pullOf rfl rfl rfl (by decide +kernel) ⟨Nat.le_of_ble_eq_true rfl, Nat.le_of_ble_eq_true rfl⟩) ⟨cFB, va_recv hK hP (ci := 4) (q0 := 0) rfl rfl, cPre hK hN hS (va_free (wc := [k4_0 aM vM, k4_1 cI aM vM, k4_2 cI aM vM, k4_3 cI aM vM, k4_4 cI aM vM, k4_5 cJ aM vM, k4_6 cI aM vM, k4_7 cJ aM vM, k4_8 cJ aM vM, k4_9 cI aM vM]) hD hS hA [0, 1, 2, 3, 4, 5, 6, 7, 8, 9] rfl) (hP.sub [0, 1, 2, 3, 4, 5, 6, 7, 8, 9] rfl) (hD.sub [0, 1, 2, 3, 4, 5, 6, 7, 8, 9] rfl rfl)⟩ rfl rfl hl.1 rfl (lv_room (Nat.le_of_ble_eq_true rfl)) dX4_force_4 ⟨Nat.le_of_ble_eq_true rfl, Nat.le_of_ble_eq_true rfl⟩) [0, 1, 2, 3, 4, 5, 6, 7, 8, 9] [] [0, 1, 2, 3, 4, 5, 6, 7, 8, 9] rfl rfl rfl (by decide +kernel) rfl rfl (fun H locs hP hD hS => ?_)
  refine lv_aload_n hx hb dX4_force_7 rfl (lv_at hl 0 rfl) ?_
  refine lv_iload_n hx hb dX4_force_8 rfl (lv_at hl 1 rfl) ?_
  obtain ⟨y2, hy2, hf⟩ := obind hf
  refine cg_l (ws := [k4_0 aM vM, k4_1 cI aM vM, k4_2 cI aM vM, k4_3 cI aM vM, k4_4 cI aM vM, k4_5 cJ aM vM, k4_6 cI aM vM, k4_7 cJ aM vM, k4_8 cJ aM vM, k4_9 cI aM vM]) (wc := [k4_0 aM vM, k4_1 cI aM vM, k4_2 cI aM vM, k4_3 cI aM vM, k4_4 cI aM vM, k4_5 cJ aM vM, k4_6 cI aM vM, k4_7 cJ aM vM, k4_8 cJ aM vM, k4_9 cI aM vM]) (wr := []) (w1 := [k4_0 aM vM, k4_1 cI aM vM, k4_2 cI aM vM, k4_3 cI aM vM, k4_4 cI aM vM, k4_5 cJ aM vM, k4_6 cI aM vM, k4_7 cJ aM vM, k4_8 cJ aM vM, k4_9 cI aM vM]) (wo := [k4_0 aM vM, k4_1 cI aM vM, k4_2 cI aM vM, k4_3 cI aM vM, k4_4 cI aM vM, k4_5 cJ aM vM, k4_6 cI aM vM, k4_7 cJ aM vM, k4_8 cJ aM vM, k4_9 cI aM vM]) hP hD hS hA (va_runV (As := [.int i1]) (rest := [.long y1]) ⟨hx, hb, hml, hown, hts⟩ (mX4_pullOf l dC dI cI cJ aM H.size vM i1 y2 hy2) (cwV 1 hts gX4_force_X4_pullOf rfl rfl rfl (by decide +kernel) ⟨Nat.le_of_ble_eq_true rfl, Nat.le_of_ble_eq_true rfl⟩) ⟨cFB, va_recv hK hP (ci := 4) (q0 := 0) rfl rfl, cPre hK hN hS (va_free (wc := [k4_0 aM vM, k4_1 cI aM vM, k4_2 cI aM vM, k4_3 cI aM vM, k4_4 cI aM vM, k4_5 cJ aM vM, k4_6 cI aM vM, k4_7 cJ aM vM, k4_8 cJ aM vM, k4_9 cI aM vM]) hD hS hA [0, 1, 2, 3, 4, 5, 6, 7, 8, 9] rfl) (hP.sub [0, 1, 2, 3, 4, 5, 6, 7, 8, 9] rfl) (hD.sub [0, 1, 2, 3, 4, 5, 6, 7, 8, 9] rfl rfl)⟩ rfl rfl hl.1 rfl (lv_room (Nat.le_of_ble_eq_true rfl)) dX4_force_9 ⟨Nat.le_of_ble_eq_true rfl, Nat.le_of_ble_eq_true rfl⟩) [0, 1, 2, 3, 4, 5, 6, 7, 8, 9] [] [0, 1, 2, 3, 4, 5, 6, 7, 8, 9] rfl rfl rfl (by decide +kernel) rfl rfl (fun H locs hP hD hS => ?_)
  refine lv_lsub hx hb dX4_force_12 ?_
  refine lv_aload_n hx hb dX4_force_13 rfl (lv_at hl 0 rfl) ?_
  refine va_get (D := (dC, dI)) (ci := 4) (v := .ref (aM 1)) (C := RX4) (T := TX4) (N := 21) hx hb hts hiX4 hown hK hP 0 rfl rfl 0 (by decide) hgX4_7 (fun _ h9 => h9) rfl dX4_force_14 ?_
  refine lv_bipush (v := 12) hx hb dX4_force_17 (by decide) ?_
  refine lv_iload_n hx hb dX4_force_19 rfl (lv_at hl 1 rfl) ?_
  refine lv_iadd hx hb dX4_force_20 ?_
  obtain ⟨hi3, hf⟩ := oinb rfl hf
  refine va_iald hx hb hK hP 1 0 rfl rfl hi3 dX4_force_21 ?_
  refine lv_i2l (v := (((p4_s vM) (((12 : Int32) + i1)).toNatClampNeg)).toInt64) hx hb dX4_force_22 rfl ?_
  refine lv_aload_n hx hb dX4_force_23 rfl (lv_at hl 0 rfl) ?_
  refine va_get (D := (dC, dI)) (ci := 4) (v := .long (p4_lower vM)) (C := RX4) (T := TX4) (N := 21) hx hb hts hiX4 hown hK hP 0 rfl rfl 8 (by decide) hgX4_79 (fun _ h9 => h9) rfl dX4_force_24 ?_
  refine lv_lmul hx hb dX4_force_27 ?_
  refine lv_ladd hx hb dX4_force_28 ?_
  obtain rfl := Option.some.inj hf
  exact W.lret (v := ((y1 - y2) + ((((p4_s vM) (((12 : Int32) + i1)).toNatClampNeg)).toInt64 * (p4_lower vM)))) hx hb hr (fun t ht hW => ⟨⟨((y1 - y2) + ((((p4_s vM) (((12 : Int32) + i1)).toNatClampNeg)).toInt64 * (p4_lower vM))), (), rfl, rfl, by rw [ht]; exact hP, hD⟩, hS.F ht⟩) hS.2.2 dX4_force_29
def fX4_parts_51 (k7 : BX4 → Int32 → Int32 → Option BX4) (vM : BX4) (x1 : Int32) (x2 : Int32) : Option BX4 :=
  elet (x2 + 1) (fun z9 => k7 vM x1 z9)
def fX4_parts_31 (k7 : BX4 → Int32 → Int32 → Option BX4) (vM : BX4) (x1 : Int32) (x2 : Int32) : Option BX4 :=
  if inB (p4_blocks vM) 5 = true then (elet (s4_first vM (upd (p4_first vM) ((p4_blocks vM)).toNatClampNeg x2)) (fun b7 => elet (s4_blocks b7 ((p4_blocks b7) + (1 : Int32))) (fun b8 => fX4_parts_51 k7 b8 x1 x2))) else none
def fX4_parts_7_b (k7 : BX4 → Int32 → Int32 → Option BX4) (vM : BX4) (x1 : Int32) (x2 : Int32) : Option BX4 :=
  if ((p4_s vM) ((1 : Int32)).toNatClampNeg) ≤ x2 then (if inB (p4_blocks vM) 5 = true then (elet (s4_first vM (upd (p4_first vM) ((p4_blocks vM)).toNatClampNeg ((p4_s vM) ((1 : Int32)).toNatClampNeg))) (fun b3 => some b3)) else none) else (if x2 = 0 then (fX4_parts_31 k7 vM x1 x2) else (if ((x1 >>> ((x2 - (1 : Int32)) &&& 31)) &&& (1 : Int32)) = 0 then (fX4_parts_31 k7 vM x1 x2) else (fX4_parts_51 k7 vM x1 x2)))
def fX4_parts_7 : Nat → BX4 → Int32 → Int32 → Option BX4
  | 0 => fun _ _ _ => none
  | n + 1 => fX4_parts_7_b (fX4_parts_7 n)
def fX4_parts (vM : BX4) (i1 : Int32) : Option BX4 :=
  elet (s4_blocks vM 0) (fun b10 => fX4_parts_7 FU b10 i1 (0 : Int32))
set_option maxHeartbeats 8000000 in
set_option maxRecDepth 100000 in
theorem mX4_parts (l : Launch) (dC : Nat → ClassId) (dI : Nat → Nat → Nat) (cI cJ : ClassId) (aM : Nat → Nat) (sz : Nat) (vM : BX4) (i1 : Int32) (y : BX4) (hf : fX4_parts vM i1 = some y) : Met l yX4_parts wsX4_parts ({ frames := 0, cells := 0, slots := 0, locals := 0 }) (cPc dC dI cI cJ [.ref (aM 0), .int i1] [k4_0 aM vM, k4_1 cI aM vM, k4_2 cI aM vM, k4_3 cI aM vM, k4_4 cI aM vM, k4_5 cJ aM vM, k4_6 cI aM vM, k4_7 cJ aM vM, k4_8 cJ aM vM, k4_9 cI aM vM] sz) (va_Qv (fun (_ : Unit) => True) (fun _ t => cB dC dI (va_A [k4_0 aM vM, k4_1 cI aM vM, k4_2 cI aM vM, k4_3 cI aM vM, k4_4 cI aM vM, k4_5 cJ aM vM, k4_6 cI aM vM, k4_7 cJ aM vM, k4_8 cJ aM vM, k4_9 cI aM vM] sz) [k4_0 aM y, k4_1 cI aM y, k4_2 cI aM y, k4_3 cI aM y, k4_4 cI aM y, k4_5 cJ aM y, k4_6 cI aM y, k4_7 cJ aM y, k4_8 cJ aM y, k4_9 cI aM y] t) (va_A [k4_0 aM vM, k4_1 cI aM vM, k4_2 cI aM vM, k4_3 cI aM vM, k4_4 cI aM vM, k4_5 cJ aM vM, k4_6 cI aM vM, k4_7 cJ aM vM, k4_8 cJ aM vM, k4_9 cI aM vM] sz)) 0 0 (va_A [k4_0 aM vM, k4_1 cI aM vM, k4_2 cI aM vM, k4_3 cI aM vM, k4_4 cI aM vM, k4_5 cJ aM vM, k4_6 cI aM vM, k4_7 cJ aM vM, k4_8 cJ aM vM, k4_9 cI aM vM] sz) := by
  refine Met.ofW (cc := cX4_parts) (maxL := 3) (ret := none) (by decide) rfl ?_
  intro p e s m args below meth c s₁ B hml hv
  obtain ⟨rfl, hsz, hP, hK, hD0, hN⟩ := hv
  have hx := B.exec
  have hb := B.bytes
  have hr := B.returns
  have hts := atoms_spec (ws := wsX4_parts) B.pre
  have hown : s.vm.findClass RX4 = some m.cls := findClass_of_methodNamed B.named
  have hlocks := B.notSynchronized
  subst hsz
  have hD := hD0.self (sz := s.heap.size)
  generalize hAe : va_A [k4_0 aM vM, k4_1 cI aM vM, k4_2 cI aM vM, k4_3 cI aM vM, k4_4 cI aM vM, k4_5 cJ aM vM, k4_6 cI aM vM, k4_7 cJ aM vM, k4_8 cJ aM vM, k4_9 cI aM vM] s.heap.size = A at hD hN ⊢
  have hA : ∀ q : Nat, s.heap.size ≤ q → A q := fun q h => by rw [← hAe]; exact Or.inr h
  have hP : va_P (dC, dI) vwCl [k4_0 aM vM, k4_1 cI aM vM, k4_2 cI aM vM, k4_3 cI aM vM, k4_4 cI aM vM, k4_5 cJ aM vM, k4_6 cI aM vM, k4_7 cJ aM vM, k4_8 cJ aM vM, k4_9 cI aM vM] s.heap := hP
  have hl := lv_entry ([.ref (aM 0), .int i1]) (n := 3) (Nat.le_of_ble_eq_true rfl)
  rw [lg_entry_eq]
  generalize (lg_sl ([.ref (aM 0), .int i1]) ++ List.replicate (3 - (lg_sl ([.ref (aM 0), .int i1])).length) Slot.unset).toArray = ls at hl ⊢
  have hl : lv_has ls 3 [(0, .ref (aM 0)), (1, .int i1)] := hl
  have hiX4 : ∀ w ∈ u_ws RX4 TX4 21, w ∈ wsX4_parts := by decide +kernel
  have hgX4_7 := hts (.fieldLink RX4 7 "SpringPlatesModel" "s" "[I") (by decide +kernel)
  have hgX4_26 := hts (.fieldLink RX4 26 "SpringPlatesModel" "first" "[I") (by decide +kernel)
  have hgX4_90 := hts (.fieldLink RX4 90 "SpringPlatesModel" "blocks" "I") (by decide +kernel)
  refine nameH (fun H locs hHe hLe => ?_)
  have hP : va_P (dC, dI) vwCl [k4_0 aM vM, k4_1 cI aM vM, k4_2 cI aM vM, k4_3 cI aM vM, k4_4 cI aM vM, k4_5 cJ aM vM, k4_6 cI aM vM, k4_7 cJ aM vM, k4_8 cJ aM vM, k4_9 cI aM vM] H := by rw [hHe]; exact hP
  have hS : va_S A s.heap H locs := by rw [hHe, hLe]; exact va_S.rf
  refine withW (fun WW hWW => ?_)
  have J51 : ∀ (k7 : BX4 → Int32 → Int32 → Option BX4) (hk7 : ∀ (vM : BX4) (x1 : Int32) (x2 : Int32) (H : Heap) (locs : List Loc) (ls : Array Slot), va_P (dC, dI) vwCl [k4_0 aM vM, k4_1 cI aM vM, k4_2 cI aM vM, k4_3 cI aM vM, k4_4 cI aM vM, k4_5 cJ aM vM, k4_6 cI aM vM, k4_7 cJ aM vM, k4_8 cJ aM vM, k4_9 cI aM vM] H → va_D A [k4_0 aM vM, k4_1 cI aM vM, k4_2 cI aM vM, k4_3 cI aM vM, k4_4 cI aM vM, k4_5 cJ aM vM, k4_6 cI aM vM, k4_7 cJ aM vM, k4_8 cJ aM vM, k4_9 cI aM vM] → va_S A s.heap H locs → lv_has ls 3 [(0, .ref (aM 0)), (1, .int x1), (2, .int x2)] → k7 vM x1 x2 = some y → WW H locs 0 0 ls 7 []) (vM : BX4) (x1 : Int32) (x2 : Int32) (H : Heap) (locs : List Loc) (ls : Array Slot), va_P (dC, dI) vwCl [k4_0 aM vM, k4_1 cI aM vM, k4_2 cI aM vM, k4_3 cI aM vM, k4_4 cI aM vM, k4_5 cJ aM vM, k4_6 cI aM vM, k4_7 cJ aM vM, k4_8 cJ aM vM, k4_9 cI aM vM] H → va_D A [k4_0 aM vM, k4_1 cI aM vM, k4_2 cI aM vM, k4_3 cI aM vM, k4_4 cI aM vM, k4_5 cJ aM vM, k4_6 cI aM vM, k4_7 cJ aM vM, k4_8 cJ aM vM, k4_9 cI aM vM] → va_S A s.heap H locs → lv_has ls 3 [(0, .ref (aM 0)), (1, .int x1), (2, .int x2)] → fX4_parts_51 k7 vM x1 x2 = some y → WW H locs 0 0 ls 51 [] := by
    intro k7 hk7 vM x1 x2 H locs ls hP hD hS hl hf
    unfold fX4_parts_51 at hf
    refine (hWW _ _ _ _ _ _ _).2 ?_
    obtain ⟨z9, ez9, hf⟩ := elet_out hf
    refine lv_iinc (v := z9) (lv' := [(2, .int z9), (0, .ref (aM 0)), (1, .int x1)]) hx hb dX4_parts_51 hl (k := 2) rfl (by rw [ez9]; rfl) (by decide) rfl (fun ls hl => ?_)
    refine lv_goto (tgt := 7) hx hb dX4_parts_54 (by decide) ?_
    exact (hWW _ _ _ _ _ _ _).1 (hk7 vM x1 z9 H locs ls hP hD hS (lv_sub hl [1, 2, 0] rfl) hf)
  have J31 : ∀ (k7 : BX4 → Int32 → Int32 → Option BX4) (hk7 : ∀ (vM : BX4) (x1 : Int32) (x2 : Int32) (H : Heap) (locs : List Loc) (ls : Array Slot), va_P (dC, dI) vwCl [k4_0 aM vM, k4_1 cI aM vM, k4_2 cI aM vM, k4_3 cI aM vM, k4_4 cI aM vM, k4_5 cJ aM vM, k4_6 cI aM vM, k4_7 cJ aM vM, k4_8 cJ aM vM, k4_9 cI aM vM] H → va_D A [k4_0 aM vM, k4_1 cI aM vM, k4_2 cI aM vM, k4_3 cI aM vM, k4_4 cI aM vM, k4_5 cJ aM vM, k4_6 cI aM vM, k4_7 cJ aM vM, k4_8 cJ aM vM, k4_9 cI aM vM] → va_S A s.heap H locs → lv_has ls 3 [(0, .ref (aM 0)), (1, .int x1), (2, .int x2)] → k7 vM x1 x2 = some y → WW H locs 0 0 ls 7 []) (vM : BX4) (x1 : Int32) (x2 : Int32) (H : Heap) (locs : List Loc) (ls : Array Slot), va_P (dC, dI) vwCl [k4_0 aM vM, k4_1 cI aM vM, k4_2 cI aM vM, k4_3 cI aM vM, k4_4 cI aM vM, k4_5 cJ aM vM, k4_6 cI aM vM, k4_7 cJ aM vM, k4_8 cJ aM vM, k4_9 cI aM vM] H → va_D A [k4_0 aM vM, k4_1 cI aM vM, k4_2 cI aM vM, k4_3 cI aM vM, k4_4 cI aM vM, k4_5 cJ aM vM, k4_6 cI aM vM, k4_7 cJ aM vM, k4_8 cJ aM vM, k4_9 cI aM vM] → va_S A s.heap H locs → lv_has ls 3 [(0, .ref (aM 0)), (1, .int x1), (2, .int x2)] → fX4_parts_31 k7 vM x1 x2 = some y → WW H locs 0 0 ls 31 [] := by
    intro k7 hk7 vM x1 x2 H locs ls hP hD hS hl hf
    unfold fX4_parts_31 at hf
    refine (hWW _ _ _ _ _ _ _).2 ?_
    refine lv_aload_n hx hb dX4_parts_31 rfl (lv_at hl 0 rfl) ?_
    refine va_get (D := (dC, dI)) (ci := 4) (v := .ref (aM 6)) (C := RX4) (T := TX4) (N := 21) hx hb hts hiX4 hown hK hP 0 rfl rfl 9 (by decide) hgX4_26 (fun _ h9 => h9) rfl dX4_parts_32 ?_
    refine lv_aload_n hx hb dX4_parts_35 rfl (lv_at hl 0 rfl) ?_
    refine va_get (D := (dC, dI)) (ci := 4) (v := .int (p4_blocks vM)) (C := RX4) (T := TX4) (N := 21) hx hb hts hiX4 hown hK hP 0 rfl rfl 11 (by decide) hgX4_90 (fun _ h9 => h9) rfl dX4_parts_36 ?_
    refine lv_iload_n hx hb dX4_parts_39 rfl (lv_at hl 2 rfl) ?_
    obtain ⟨hi6, hf⟩ := oinb rfl hf
    obtain ⟨b7, eb7, hf⟩ := elet_out hf
    refine va_iast hx hb hK hP hD hS 6 0 rfl rfl hi6 dX4_parts_40 (fun H locs hP hD hS => ?_)
    have hP : va_P (dC, dI) vwCl [k4_0 aM b7, k4_1 cI aM b7, k4_2 cI aM b7, k4_3 cI aM b7, k4_4 cI aM b7, k4_5 cJ aM b7, k4_6 cI aM b7, k4_7 cJ aM b7, k4_8 cJ aM b7, k4_9 cI aM b7] H := by rw [eb7]; exact hP
    have hD : va_D A [k4_0 aM b7, k4_1 cI aM b7, k4_2 cI aM b7, k4_3 cI aM b7, k4_4 cI aM b7, k4_5 cJ aM b7, k4_6 cI aM b7, k4_7 cJ aM b7, k4_8 cJ aM b7, k4_9 cI aM b7] := by rw [eb7]; exact hD
    refine lv_aload_n hx hb dX4_parts_41 rfl (lv_at hl 0 rfl) ?_
    refine lv_dup hx hb dX4_parts_42 rfl ?_
    refine va_get (D := (dC, dI)) (ci := 4) (v := .int (p4_blocks b7)) (C := RX4) (T := TX4) (N := 21) hx hb hts hiX4 hown hK hP 0 rfl rfl 11 (by decide) hgX4_90 (fun _ h9 => h9) rfl dX4_parts_43 ?_
    refine lv_iconst (v := 1) hx hb dX4_parts_46 (by decide) ?_
    refine lv_iadd hx hb dX4_parts_47 ?_
    obtain ⟨b8, eb8, hf⟩ := elet_out hf
    refine va_put (D := (dC, dI)) (ci := 4) (v := .int ((p4_blocks b7) + (1 : Int32))) (ty := .int) (C := RX4) (T := TX4) (N := 21) hx hb hts hiX4 tyX4 tyX4_ok nmX4 hown hK hP hD hS 0 rfl rfl 11 (by decide) hgX4_90 (fun _ h9 => h9) rfl (by decide +kernel) rfl rfl (Nat.le_of_ble_eq_true rfl) dX4_parts_48 (fun H locs hP hD hS => ?_)
    have hP : va_P (dC, dI) vwCl [k4_0 aM b8, k4_1 cI aM b8, k4_2 cI aM b8, k4_3 cI aM b8, k4_4 cI aM b8, k4_5 cJ aM b8, k4_6 cI aM b8, k4_7 cJ aM b8, k4_8 cJ aM b8, k4_9 cI aM b8] H := by rw [eb8]; exact hP
    have hD : va_D A [k4_0 aM b8, k4_1 cI aM b8, k4_2 cI aM b8, k4_3 cI aM b8, k4_4 cI aM b8, k4_5 cJ aM b8, k4_6 cI aM b8, k4_7 cJ aM b8, k4_8 cJ aM b8, k4_9 cI aM b8] := by rw [eb8]; exact hD
    exact (hWW _ _ _ _ _ _ _).1 (J51 k7 hk7 b8 x1 x2 H locs ls hP hD hS (lv_sub hl [0, 1, 2] rfl) hf)
  have L7 : ∀ (n : Nat) (vM : BX4) (x1 : Int32) (x2 : Int32) (H : Heap) (locs : List Loc) (ls : Array Slot), va_P (dC, dI) vwCl [k4_0 aM vM, k4_1 cI aM vM, k4_2 cI aM vM, k4_3 cI aM vM, k4_4 cI aM vM, k4_5 cJ aM vM, k4_6 cI aM vM, k4_7 cJ aM vM, k4_8 cJ aM vM, k4_9 cI aM vM] H → va_D A [k4_0 aM vM, k4_1 cI aM vM, k4_2 cI aM vM, k4_3 cI aM vM, k4_4 cI aM vM, k4_5 cJ aM vM, k4_6 cI aM vM, k4_7 cJ aM vM, k4_8 cJ aM vM, k4_9 cI aM vM] → va_S A s.heap H locs → lv_has ls 3 [(0, .ref (aM 0)), (1, .int x1), (2, .int x2)] → fX4_parts_7 n vM x1 x2 = some y → WW H locs 0 0 ls 7 [] := by
    intro n
    induction n with
    | zero =>
      intro vM x1 x2 H locs ls hP hD hS hl hf
      exact onone hf
    | succ n ih =>
      intro vM x1 x2 H locs ls hP hD hS hl hf
      have hf : fX4_parts_7_b (fX4_parts_7 n) vM x1 x2 = some y := hf
      generalize fX4_parts_7 n = k7 at hf ih
      have hk7 := ih
      clear ih
      unfold fX4_parts_7_b at hf
      refine (hWW _ _ _ _ _ _ _).2 ?_
      refine lv_iload_n hx hb dX4_parts_7 rfl (lv_at hl 2 rfl) ?_
      refine lv_aload_n hx hb dX4_parts_8 rfl (lv_at hl 0 rfl) ?_
      refine va_get (D := (dC, dI)) (ci := 4) (v := .ref (aM 1)) (C := RX4) (T := TX4) (N := 21) hx hb hts hiX4 hown hK hP 0 rfl rfl 0 (by decide) hgX4_7 (fun _ h9 => h9) rfl dX4_parts_9 ?_
      refine lv_iconst (v := 1) hx hb dX4_parts_12 (by decide) ?_
      refine va_iald hx hb hK hP 1 0 rfl rfl (vpc rfl) dX4_parts_13 ?_
      refine lv_icmp_ge (tgt := 57) hx hb dX4_parts_14 (by decide) (fun c1 => ?_) (fun c1 => ?_)
      · have hf := oif_t c1 hf
        refine lv_aload_n hx hb dX4_parts_57 rfl (lv_at hl 0 rfl) ?_
        refine va_get (D := (dC, dI)) (ci := 4) (v := .ref (aM 6)) (C := RX4) (T := TX4) (N := 21) hx hb hts hiX4 hown hK hP 0 rfl rfl 9 (by decide) hgX4_26 (fun _ h9 => h9) rfl dX4_parts_58 ?_
        refine lv_aload_n hx hb dX4_parts_61 rfl (lv_at hl 0 rfl) ?_
        refine va_get (D := (dC, dI)) (ci := 4) (v := .int (p4_blocks vM)) (C := RX4) (T := TX4) (N := 21) hx hb hts hiX4 hown hK hP 0 rfl rfl 11 (by decide) hgX4_90 (fun _ h9 => h9) rfl dX4_parts_62 ?_
        refine lv_aload_n hx hb dX4_parts_65 rfl (lv_at hl 0 rfl) ?_
        refine va_get (D := (dC, dI)) (ci := 4) (v := .ref (aM 1)) (C := RX4) (T := TX4) (N := 21) hx hb hts hiX4 hown hK hP 0 rfl rfl 0 (by decide) hgX4_7 (fun _ h9 => h9) rfl dX4_parts_66 ?_
        refine lv_iconst (v := 1) hx hb dX4_parts_69 (by decide) ?_
        refine va_iald hx hb hK hP 1 0 rfl rfl (vpc rfl) dX4_parts_70 ?_
        obtain ⟨hi2, hf⟩ := oinb rfl hf
        obtain ⟨b3, eb3, hf⟩ := elet_out hf
        refine va_iast hx hb hK hP hD hS 6 0 rfl rfl hi2 dX4_parts_71 (fun H locs hP hD hS => ?_)
        have hP : va_P (dC, dI) vwCl [k4_0 aM b3, k4_1 cI aM b3, k4_2 cI aM b3, k4_3 cI aM b3, k4_4 cI aM b3, k4_5 cJ aM b3, k4_6 cI aM b3, k4_7 cJ aM b3, k4_8 cJ aM b3, k4_9 cI aM b3] H := by rw [eb3]; exact hP
        have hD : va_D A [k4_0 aM b3, k4_1 cI aM b3, k4_2 cI aM b3, k4_3 cI aM b3, k4_4 cI aM b3, k4_5 cJ aM b3, k4_6 cI aM b3, k4_7 cJ aM b3, k4_8 cJ aM b3, k4_9 cI aM b3] := by rw [eb3]; exact hD
        obtain rfl := Option.some.inj hf
        exact W.vret hx hb hr (fun t ht hW => ⟨⟨(), rfl, trivial, by rw [ht]; exact hP, hD⟩, hS.F ht⟩) hS.2.2 dX4_parts_72
      · have hf := oif_f c1 hf
        refine lv_iload_n hx hb dX4_parts_17 rfl (lv_at hl 2 rfl) ?_
        refine lv_if_eq (tgt := 31) hx hb dX4_parts_18 (by decide) (fun c4 => ?_) (fun c4 => ?_)
        · have hf := oif_t c4 hf
          exact (hWW _ _ _ _ _ _ _).1 (J31 k7 hk7 vM x1 x2 H locs ls hP hD hS (lv_sub hl [0, 1, 2] rfl) hf)
        · have hf := oif_f c4 hf
          refine lv_iload_n hx hb dX4_parts_21 rfl (lv_at hl 1 rfl) ?_
          refine lv_iload_n hx hb dX4_parts_22 rfl (lv_at hl 2 rfl) ?_
          refine lv_iconst (v := 1) hx hb dX4_parts_23 (by decide) ?_
          refine lv_isub hx hb dX4_parts_24 ?_
          refine lv_ishr hx hb dX4_parts_25 ?_
          refine lv_iconst (v := 1) hx hb dX4_parts_26 (by decide) ?_
          refine lv_iand hx hb dX4_parts_27 ?_
          refine lv_if_ne (tgt := 51) hx hb dX4_parts_28 (by decide) (fun c5 => ?_) (fun c5 => ?_)
          · have hf := oif_f c5 hf
            exact (hWW _ _ _ _ _ _ _).1 (J51 k7 hk7 vM x1 x2 H locs ls hP hD hS (lv_sub hl [0, 1, 2] rfl) hf)
          · have hf := oif_t c5 hf
            exact (hWW _ _ _ _ _ _ _).1 (J31 k7 hk7 vM x1 x2 H locs ls hP hD hS (lv_sub hl [0, 1, 2] rfl) hf)
  refine (hWW _ _ _ _ _ _ _).2 ?_
  unfold fX4_parts at hf
  refine lv_aload_n hx hb dX4_parts_0 rfl (lv_at hl 0 rfl) ?_
  refine lv_iconst (v := 0) hx hb dX4_parts_1 (by decide) ?_
  obtain ⟨b10, eb10, hf⟩ := elet_out hf
  refine va_put (D := (dC, dI)) (ci := 4) (v := .int 0) (ty := .int) (C := RX4) (T := TX4) (N := 21) hx hb hts hiX4 tyX4 tyX4_ok nmX4 hown hK hP hD hS 0 rfl rfl 11 (by decide) hgX4_90 (fun _ h9 => h9) rfl (by decide +kernel) rfl rfl (Nat.le_of_ble_eq_true rfl) dX4_parts_2 (fun H locs hP hD hS => ?_)
  have hP : va_P (dC, dI) vwCl [k4_0 aM b10, k4_1 cI aM b10, k4_2 cI aM b10, k4_3 cI aM b10, k4_4 cI aM b10, k4_5 cJ aM b10, k4_6 cI aM b10, k4_7 cJ aM b10, k4_8 cJ aM b10, k4_9 cI aM b10] H := by rw [eb10]; exact hP
  have hD : va_D A [k4_0 aM b10, k4_1 cI aM b10, k4_2 cI aM b10, k4_3 cI aM b10, k4_4 cI aM b10, k4_5 cJ aM b10, k4_6 cI aM b10, k4_7 cJ aM b10, k4_8 cJ aM b10, k4_9 cI aM b10] := by rw [eb10]; exact hD
  refine lv_iconst (v := 0) hx hb dX4_parts_5 (by decide) ?_
  refine lv_istore_n (lv' := [(2, .int 0), (0, .ref (aM 0)), (1, .int i1)]) hx hb dX4_parts_6 rfl hl (by decide) rfl (fun ls hl => ?_)
  exact (hWW _ _ _ _ _ _ _).1 (L7 FU b10 i1 (0 : Int32) H locs ls hP hD hS (lv_sub hl [1, 2, 0] rfl) hf)
def fX4_bound_83 (k23 : BX4 → Int32 → Int32 → Int32 → Int32 → Option Int32) (vM : BX4) (x1 : Int32) (x2 : Int32) (x4 : Int32) (st0 : Int32) : Option Int32 :=
  elet (x4 + 1) (fun z12 => k23 vM x1 x2 st0 z12)
def fX4_bound_23_b (k23 : BX4 → Int32 → Int32 → Int32 → Int32 → Option Int32) (vM : BX4) (x1 : Int32) (x2 : Int32) (x3 : Int32) (x4 : Int32) : Option Int32 :=
  if inB (x1 + (1 : Int32)) 5 = true then (if ((p4_first vM) ((x1 + (1 : Int32))).toNatClampNeg) ≤ x4 then (some x3) else (if x2 = 0 then ((fX4_low vM x4).bind (fun y6 => if y6 ≤ x3 then (fX4_bound_83 k23 vM x1 x2 x4 x3) else ((fX4_low vM x4).bind (fun y8 => fX4_bound_83 k23 vM x1 x2 x4 y8)))) else ((fX4_high vM x4).bind (fun y9 => if x3 ≤ y9 then (fX4_bound_83 k23 vM x1 x2 x4 x3) else ((fX4_high vM x4).bind (fun y11 => fX4_bound_83 k23 vM x1 x2 x4 y11)))))) else none
def fX4_bound_23 : Nat → BX4 → Int32 → Int32 → Int32 → Int32 → Option Int32
  | 0 => fun _ _ _ _ _ => none
  | n + 1 => fX4_bound_23_b (fX4_bound_23 n)
def fX4_bound_14 (vM : BX4) (x1 : Int32) (x2 : Int32) (st0 : Int32) : Option Int32 :=
  if inB x1 5 = true then (elet ((p4_first vM) (x1).toNatClampNeg) (fun z2 => fX4_bound_23 FU vM x1 x2 st0 z2)) else none
def fX4_bound (vM : BX4) (i1 : Int32) (i2 : Int32) : Option Int32 :=
  if i2 = 0 then (fX4_bound_14 vM i1 i2 (0 : Int32)) else (fX4_bound_14 vM i1 i2 ((p4_s vM) ((0 : Int32)).toNatClampNeg))
set_option maxHeartbeats 8000000 in
set_option maxRecDepth 100000 in
theorem mX4_bound (l : Launch) (dC : Nat → ClassId) (dI : Nat → Nat → Nat) (cI cJ : ClassId) (aM : Nat → Nat) (sz : Nat) (vM : BX4) (i1 : Int32) (i2 : Int32) (y : Int32) (hf : fX4_bound vM i1 i2 = some y) : Met l yX4_bound wsX4_bound ({ frames := 1, cells := 0, slots := 0, locals := 21 }) (cPc dC dI cI cJ [.ref (aM 0), .int i1, .int i2] [k4_0 aM vM, k4_1 cI aM vM, k4_2 cI aM vM, k4_3 cI aM vM, k4_4 cI aM vM, k4_5 cJ aM vM, k4_6 cI aM vM, k4_7 cJ aM vM, k4_8 cJ aM vM, k4_9 cI aM vM] sz) (va_Qi (fun r (_ : Unit) => r = y) (fun _ t => cB dC dI (va_A [k4_0 aM vM, k4_1 cI aM vM, k4_2 cI aM vM, k4_3 cI aM vM, k4_4 cI aM vM, k4_5 cJ aM vM, k4_6 cI aM vM, k4_7 cJ aM vM, k4_8 cJ aM vM, k4_9 cI aM vM] sz) [k4_0 aM vM, k4_1 cI aM vM, k4_2 cI aM vM, k4_3 cI aM vM, k4_4 cI aM vM, k4_5 cJ aM vM, k4_6 cI aM vM, k4_7 cJ aM vM, k4_8 cJ aM vM, k4_9 cI aM vM] t) (va_A [k4_0 aM vM, k4_1 cI aM vM, k4_2 cI aM vM, k4_3 cI aM vM, k4_4 cI aM vM, k4_5 cJ aM vM, k4_6 cI aM vM, k4_7 cJ aM vM, k4_8 cJ aM vM, k4_9 cI aM vM] sz)) 0 0 (va_A [k4_0 aM vM, k4_1 cI aM vM, k4_2 cI aM vM, k4_3 cI aM vM, k4_4 cI aM vM, k4_5 cJ aM vM, k4_6 cI aM vM, k4_7 cJ aM vM, k4_8 cJ aM vM, k4_9 cI aM vM] sz) := by
  refine Met.ofW (cc := cX4_bound) (maxL := 5) (ret := (some .int)) (by decide) rfl ?_
  intro p e s m args below meth c s₁ B hml hv
  obtain ⟨rfl, hsz, hP, hK, hD0, hN⟩ := hv
  have hx := B.exec
  have hb := B.bytes
  have hr := B.returns
  have hts := atoms_spec (ws := wsX4_bound) B.pre
  have hown : s.vm.findClass RX4 = some m.cls := findClass_of_methodNamed B.named
  have hlocks := B.notSynchronized
  subst hsz
  have hD := hD0.self (sz := s.heap.size)
  generalize hAe : va_A [k4_0 aM vM, k4_1 cI aM vM, k4_2 cI aM vM, k4_3 cI aM vM, k4_4 cI aM vM, k4_5 cJ aM vM, k4_6 cI aM vM, k4_7 cJ aM vM, k4_8 cJ aM vM, k4_9 cI aM vM] s.heap.size = A at hD hN ⊢
  have hA : ∀ q : Nat, s.heap.size ≤ q → A q := fun q h => by rw [← hAe]; exact Or.inr h
  have hP : va_P (dC, dI) vwCl [k4_0 aM vM, k4_1 cI aM vM, k4_2 cI aM vM, k4_3 cI aM vM, k4_4 cI aM vM, k4_5 cJ aM vM, k4_6 cI aM vM, k4_7 cJ aM vM, k4_8 cJ aM vM, k4_9 cI aM vM] s.heap := hP
  have hl := lv_entry ([.ref (aM 0), .int i1, .int i2]) (n := 5) (Nat.le_of_ble_eq_true rfl)
  rw [lg_entry_eq]
  generalize (lg_sl ([.ref (aM 0), .int i1, .int i2]) ++ List.replicate (5 - (lg_sl ([.ref (aM 0), .int i1, .int i2])).length) Slot.unset).toArray = ls at hl ⊢
  have hl : lv_has ls 5 [(0, .ref (aM 0)), (1, .int i1), (2, .int i2)] := hl
  have hiX4 : ∀ w ∈ u_ws RX4 TX4 21, w ∈ wsX4_bound := by decide +kernel
  have hgX4_26 := hts (.fieldLink RX4 26 "SpringPlatesModel" "first" "[I") (by decide +kernel)
  have hgX4_7 := hts (.fieldLink RX4 7 "SpringPlatesModel" "s" "[I") (by decide +kernel)
  refine nameH (fun H locs hHe hLe => ?_)
  have hP : va_P (dC, dI) vwCl [k4_0 aM vM, k4_1 cI aM vM, k4_2 cI aM vM, k4_3 cI aM vM, k4_4 cI aM vM, k4_5 cJ aM vM, k4_6 cI aM vM, k4_7 cJ aM vM, k4_8 cJ aM vM, k4_9 cI aM vM] H := by rw [hHe]; exact hP
  have hS : va_S A s.heap H locs := by rw [hHe, hLe]; exact va_S.rf
  refine withW (fun WW hWW => ?_)
  have J83 : ∀ (k23 : BX4 → Int32 → Int32 → Int32 → Int32 → Option Int32) (hk23 : ∀ (x1 : Int32) (x2 : Int32) (x3 : Int32) (x4 : Int32) (H : Heap) (locs : List Loc) (ls : Array Slot), va_P (dC, dI) vwCl [k4_0 aM vM, k4_1 cI aM vM, k4_2 cI aM vM, k4_3 cI aM vM, k4_4 cI aM vM, k4_5 cJ aM vM, k4_6 cI aM vM, k4_7 cJ aM vM, k4_8 cJ aM vM, k4_9 cI aM vM] H → va_D A [k4_0 aM vM, k4_1 cI aM vM, k4_2 cI aM vM, k4_3 cI aM vM, k4_4 cI aM vM, k4_5 cJ aM vM, k4_6 cI aM vM, k4_7 cJ aM vM, k4_8 cJ aM vM, k4_9 cI aM vM] → va_S A s.heap H locs → lv_has ls 5 [(0, .ref (aM 0)), (1, .int x1), (2, .int x2), (3, .int x3), (4, .int x4)] → k23 vM x1 x2 x3 x4 = some y → WW H locs 0 0 ls 23 []) (x1 : Int32) (x2 : Int32) (x4 : Int32) (st0 : Int32) (H : Heap) (locs : List Loc) (ls : Array Slot), va_P (dC, dI) vwCl [k4_0 aM vM, k4_1 cI aM vM, k4_2 cI aM vM, k4_3 cI aM vM, k4_4 cI aM vM, k4_5 cJ aM vM, k4_6 cI aM vM, k4_7 cJ aM vM, k4_8 cJ aM vM, k4_9 cI aM vM] H → va_D A [k4_0 aM vM, k4_1 cI aM vM, k4_2 cI aM vM, k4_3 cI aM vM, k4_4 cI aM vM, k4_5 cJ aM vM, k4_6 cI aM vM, k4_7 cJ aM vM, k4_8 cJ aM vM, k4_9 cI aM vM] → va_S A s.heap H locs → lv_has ls 5 [(0, .ref (aM 0)), (1, .int x1), (2, .int x2), (4, .int x4)] → fX4_bound_83 k23 vM x1 x2 x4 st0 = some y → WW H locs 0 0 ls 83 [.int st0] := by
    intro k23 hk23 x1 x2 x4 st0 H locs ls hP hD hS hl hf
    unfold fX4_bound_83 at hf
    refine (hWW _ _ _ _ _ _ _).2 ?_
    refine lv_istore_n (lv' := [(3, .int st0), (0, .ref (aM 0)), (1, .int x1), (2, .int x2), (4, .int x4)]) hx hb dX4_bound_83 rfl hl (by decide) rfl (fun ls hl => ?_)
    obtain ⟨z12, ez12, hf⟩ := elet_out hf
    refine lv_iinc (v := z12) (lv' := [(4, .int z12), (3, .int st0), (0, .ref (aM 0)), (1, .int x1), (2, .int x2)]) hx hb dX4_bound_84 hl (k := 4) rfl (by rw [ez12]; rfl) (by decide) rfl (fun ls hl => ?_)
    refine lv_goto (tgt := 23) hx hb dX4_bound_87 (by decide) ?_
    exact (hWW _ _ _ _ _ _ _).1 (hk23 x1 x2 st0 z12 H locs ls hP hD hS (lv_sub hl [2, 3, 4, 1, 0] rfl) hf)
  have L23 : ∀ (n : Nat) (x1 : Int32) (x2 : Int32) (x3 : Int32) (x4 : Int32) (H : Heap) (locs : List Loc) (ls : Array Slot), va_P (dC, dI) vwCl [k4_0 aM vM, k4_1 cI aM vM, k4_2 cI aM vM, k4_3 cI aM vM, k4_4 cI aM vM, k4_5 cJ aM vM, k4_6 cI aM vM, k4_7 cJ aM vM, k4_8 cJ aM vM, k4_9 cI aM vM] H → va_D A [k4_0 aM vM, k4_1 cI aM vM, k4_2 cI aM vM, k4_3 cI aM vM, k4_4 cI aM vM, k4_5 cJ aM vM, k4_6 cI aM vM, k4_7 cJ aM vM, k4_8 cJ aM vM, k4_9 cI aM vM] → va_S A s.heap H locs → lv_has ls 5 [(0, .ref (aM 0)), (1, .int x1), (2, .int x2), (3, .int x3), (4, .int x4)] → fX4_bound_23 n vM x1 x2 x3 x4 = some y → WW H locs 0 0 ls 23 [] := by
    intro n
    induction n with
    | zero =>
      intro x1 x2 x3 x4 H locs ls hP hD hS hl hf
      exact onone hf
    | succ n ih =>
      intro x1 x2 x3 x4 H locs ls hP hD hS hl hf
      have hf : fX4_bound_23_b (fX4_bound_23 n) vM x1 x2 x3 x4 = some y := hf
      generalize fX4_bound_23 n = k23 at hf ih
      have hk23 := ih
      clear ih
      unfold fX4_bound_23_b at hf
      refine (hWW _ _ _ _ _ _ _).2 ?_
      refine lv_iload hx hb dX4_bound_23 (lv_at hl 4 rfl) ?_
      refine lv_aload_n hx hb dX4_bound_25 rfl (lv_at hl 0 rfl) ?_
      refine va_get (D := (dC, dI)) (ci := 4) (v := .ref (aM 6)) (C := RX4) (T := TX4) (N := 21) hx hb hts hiX4 hown hK hP 0 rfl rfl 9 (by decide) hgX4_26 (fun _ h9 => h9) rfl dX4_bound_26 ?_
      refine lv_iload_n hx hb dX4_bound_29 rfl (lv_at hl 1 rfl) ?_
      refine lv_iconst (v := 1) hx hb dX4_bound_30 (by decide) ?_
      refine lv_iadd hx hb dX4_bound_31 ?_
      obtain ⟨hi3, hf⟩ := oinb rfl hf
      refine va_iald hx hb hK hP 6 0 rfl rfl hi3 dX4_bound_32 ?_
      refine lv_icmp_ge (tgt := 90) hx hb dX4_bound_33 (by decide) (fun c4 => ?_) (fun c4 => ?_)
      · have hf := oif_t c4 hf
        refine lv_iload_n hx hb dX4_bound_90 rfl (lv_at hl 3 rfl) ?_
        obtain rfl := Option.some.inj hf
        exact W.iret (v := x3) hx hb hr (fun t ht hW => ⟨⟨x3, (), rfl, rfl, by rw [ht]; exact hP, hD⟩, hS.F ht⟩) hS.2.2 dX4_bound_91
      · have hf := oif_f c4 hf
        refine lv_iload_n hx hb dX4_bound_36 rfl (lv_at hl 2 rfl) ?_
        refine lv_if_eq (tgt := 63) hx hb dX4_bound_37 (by decide) (fun c5 => ?_) (fun c5 => ?_)
        · have hf := oif_t c5 hf
          refine lv_aload_n hx hb dX4_bound_63 rfl (lv_at hl 0 rfl) ?_
          refine lv_iload hx hb dX4_bound_64 (lv_at hl 4 rfl) ?_
          obtain ⟨y6, hy6, hf⟩ := obind hf
          refine cg_i (ws := [k4_0 aM vM, k4_1 cI aM vM, k4_2 cI aM vM, k4_3 cI aM vM, k4_4 cI aM vM, k4_5 cJ aM vM, k4_6 cI aM vM, k4_7 cJ aM vM, k4_8 cJ aM vM, k4_9 cI aM vM]) (wc := [k4_0 aM vM, k4_1 cI aM vM, k4_2 cI aM vM, k4_3 cI aM vM, k4_4 cI aM vM, k4_5 cJ aM vM, k4_6 cI aM vM, k4_7 cJ aM vM, k4_8 cJ aM vM, k4_9 cI aM vM]) (wr := []) (w1 := [k4_0 aM vM, k4_1 cI aM vM, k4_2 cI aM vM, k4_3 cI aM vM, k4_4 cI aM vM, k4_5 cJ aM vM, k4_6 cI aM vM, k4_7 cJ aM vM, k4_8 cJ aM vM, k4_9 cI aM vM]) (wo := [k4_0 aM vM, k4_1 cI aM vM, k4_2 cI aM vM, k4_3 cI aM vM, k4_4 cI aM vM, k4_5 cJ aM vM, k4_6 cI aM vM, k4_7 cJ aM vM, k4_8 cJ aM vM, k4_9 cI aM vM]) hP hD hS hA (va_runV (As := [.int x4]) (rest := []) ⟨hx, hb, hml, hown, hts⟩ (mX4_low l dC dI cI cJ aM H.size vM x4 y6 hy6) (cwV 1 hts gX4_bound_X4_low rfl rfl rfl (by decide +kernel) ⟨Nat.le_of_ble_eq_true rfl, Nat.le_of_ble_eq_true rfl⟩) ⟨cFB, va_recv hK hP (ci := 4) (q0 := 0) rfl rfl, cPre hK hN hS (va_free (wc := [k4_0 aM vM, k4_1 cI aM vM, k4_2 cI aM vM, k4_3 cI aM vM, k4_4 cI aM vM, k4_5 cJ aM vM, k4_6 cI aM vM, k4_7 cJ aM vM, k4_8 cJ aM vM, k4_9 cI aM vM]) hD hS hA [0, 1, 2, 3, 4, 5, 6, 7, 8, 9] rfl) (hP.sub [0, 1, 2, 3, 4, 5, 6, 7, 8, 9] rfl) (hD.sub [0, 1, 2, 3, 4, 5, 6, 7, 8, 9] rfl rfl)⟩ rfl rfl hl.1 rfl (lv_room (Nat.le_of_ble_eq_true rfl)) dX4_bound_66 ⟨Nat.le_of_ble_eq_true rfl, Nat.le_of_ble_eq_true rfl⟩) [0, 1, 2, 3, 4, 5, 6, 7, 8, 9] [] [0, 1, 2, 3, 4, 5, 6, 7, 8, 9] rfl rfl rfl (by decide +kernel) rfl rfl (fun H locs hP hD hS => ?_)
          refine lv_iload_n hx hb dX4_bound_69 rfl (lv_at hl 3 rfl) ?_
          refine lv_icmp_le (tgt := 82) hx hb dX4_bound_70 (by decide) (fun c7 => ?_) (fun c7 => ?_)
          · have hf := oif_t c7 hf
            refine lv_iload_n hx hb dX4_bound_82 rfl (lv_at hl 3 rfl) ?_
            exact (hWW _ _ _ _ _ _ _).1 (J83 k23 hk23 x1 x2 x4 x3 H locs ls hP hD hS (lv_sub hl [0, 1, 2, 4] rfl) hf)
          · have hf := oif_f c7 hf
            refine lv_aload_n hx hb dX4_bound_73 rfl (lv_at hl 0 rfl) ?_
            refine lv_iload hx hb dX4_bound_74 (lv_at hl 4 rfl) ?_
            obtain ⟨y8, hy8, hf⟩ := obind hf
            refine cg_i (ws := [k4_0 aM vM, k4_1 cI aM vM, k4_2 cI aM vM, k4_3 cI aM vM, k4_4 cI aM vM, k4_5 cJ aM vM, k4_6 cI aM vM, k4_7 cJ aM vM, k4_8 cJ aM vM, k4_9 cI aM vM]) (wc := [k4_0 aM vM, k4_1 cI aM vM, k4_2 cI aM vM, k4_3 cI aM vM, k4_4 cI aM vM, k4_5 cJ aM vM, k4_6 cI aM vM, k4_7 cJ aM vM, k4_8 cJ aM vM, k4_9 cI aM vM]) (wr := []) (w1 := [k4_0 aM vM, k4_1 cI aM vM, k4_2 cI aM vM, k4_3 cI aM vM, k4_4 cI aM vM, k4_5 cJ aM vM, k4_6 cI aM vM, k4_7 cJ aM vM, k4_8 cJ aM vM, k4_9 cI aM vM]) (wo := [k4_0 aM vM, k4_1 cI aM vM, k4_2 cI aM vM, k4_3 cI aM vM, k4_4 cI aM vM, k4_5 cJ aM vM, k4_6 cI aM vM, k4_7 cJ aM vM, k4_8 cJ aM vM, k4_9 cI aM vM]) hP hD hS hA (va_runV (As := [.int x4]) (rest := []) ⟨hx, hb, hml, hown, hts⟩ (mX4_low l dC dI cI cJ aM H.size vM x4 y8 hy8) (cwV 1 hts gX4_bound_X4_low rfl rfl rfl (by decide +kernel) ⟨Nat.le_of_ble_eq_true rfl, Nat.le_of_ble_eq_true rfl⟩) ⟨cFB, va_recv hK hP (ci := 4) (q0 := 0) rfl rfl, cPre hK hN hS (va_free (wc := [k4_0 aM vM, k4_1 cI aM vM, k4_2 cI aM vM, k4_3 cI aM vM, k4_4 cI aM vM, k4_5 cJ aM vM, k4_6 cI aM vM, k4_7 cJ aM vM, k4_8 cJ aM vM, k4_9 cI aM vM]) hD hS hA [0, 1, 2, 3, 4, 5, 6, 7, 8, 9] rfl) (hP.sub [0, 1, 2, 3, 4, 5, 6, 7, 8, 9] rfl) (hD.sub [0, 1, 2, 3, 4, 5, 6, 7, 8, 9] rfl rfl)⟩ rfl rfl hl.1 rfl (lv_room (Nat.le_of_ble_eq_true rfl)) dX4_bound_76 ⟨Nat.le_of_ble_eq_true rfl, Nat.le_of_ble_eq_true rfl⟩) [0, 1, 2, 3, 4, 5, 6, 7, 8, 9] [] [0, 1, 2, 3, 4, 5, 6, 7, 8, 9] rfl rfl rfl (by decide +kernel) rfl rfl (fun H locs hP hD hS => ?_)
            refine lv_goto (tgt := 83) hx hb dX4_bound_79 (by decide) ?_
            exact (hWW _ _ _ _ _ _ _).1 (J83 k23 hk23 x1 x2 x4 y8 H locs ls hP hD hS (lv_sub hl [0, 1, 2, 4] rfl) hf)
        · have hf := oif_f c5 hf
          refine lv_aload_n hx hb dX4_bound_40 rfl (lv_at hl 0 rfl) ?_
          refine lv_iload hx hb dX4_bound_41 (lv_at hl 4 rfl) ?_
          obtain ⟨y9, hy9, hf⟩ := obind hf
          refine cg_i (ws := [k4_0 aM vM, k4_1 cI aM vM, k4_2 cI aM vM, k4_3 cI aM vM, k4_4 cI aM vM, k4_5 cJ aM vM, k4_6 cI aM vM, k4_7 cJ aM vM, k4_8 cJ aM vM, k4_9 cI aM vM]) (wc := [k4_0 aM vM, k4_1 cI aM vM, k4_2 cI aM vM, k4_3 cI aM vM, k4_4 cI aM vM, k4_5 cJ aM vM, k4_6 cI aM vM, k4_7 cJ aM vM, k4_8 cJ aM vM, k4_9 cI aM vM]) (wr := []) (w1 := [k4_0 aM vM, k4_1 cI aM vM, k4_2 cI aM vM, k4_3 cI aM vM, k4_4 cI aM vM, k4_5 cJ aM vM, k4_6 cI aM vM, k4_7 cJ aM vM, k4_8 cJ aM vM, k4_9 cI aM vM]) (wo := [k4_0 aM vM, k4_1 cI aM vM, k4_2 cI aM vM, k4_3 cI aM vM, k4_4 cI aM vM, k4_5 cJ aM vM, k4_6 cI aM vM, k4_7 cJ aM vM, k4_8 cJ aM vM, k4_9 cI aM vM]) hP hD hS hA (va_runV (As := [.int x4]) (rest := []) ⟨hx, hb, hml, hown, hts⟩ (mX4_high l dC dI cI cJ aM H.size vM x4 y9 hy9) (cwV 1 hts gX4_bound_X4_high rfl rfl rfl (by decide +kernel) ⟨Nat.le_of_ble_eq_true rfl, Nat.le_of_ble_eq_true rfl⟩) ⟨cFB, va_recv hK hP (ci := 4) (q0 := 0) rfl rfl, cPre hK hN hS (va_free (wc := [k4_0 aM vM, k4_1 cI aM vM, k4_2 cI aM vM, k4_3 cI aM vM, k4_4 cI aM vM, k4_5 cJ aM vM, k4_6 cI aM vM, k4_7 cJ aM vM, k4_8 cJ aM vM, k4_9 cI aM vM]) hD hS hA [0, 1, 2, 3, 4, 5, 6, 7, 8, 9] rfl) (hP.sub [0, 1, 2, 3, 4, 5, 6, 7, 8, 9] rfl) (hD.sub [0, 1, 2, 3, 4, 5, 6, 7, 8, 9] rfl rfl)⟩ rfl rfl hl.1 rfl (lv_room (Nat.le_of_ble_eq_true rfl)) dX4_bound_43 ⟨Nat.le_of_ble_eq_true rfl, Nat.le_of_ble_eq_true rfl⟩) [0, 1, 2, 3, 4, 5, 6, 7, 8, 9] [] [0, 1, 2, 3, 4, 5, 6, 7, 8, 9] rfl rfl rfl (by decide +kernel) rfl rfl (fun H locs hP hD hS => ?_)
          refine lv_iload_n hx hb dX4_bound_46 rfl (lv_at hl 3 rfl) ?_
          refine lv_icmp_ge (tgt := 59) hx hb dX4_bound_47 (by decide) (fun c10 => ?_) (fun c10 => ?_)
          · have hf := oif_t c10 hf
            refine lv_iload_n hx hb dX4_bound_59 rfl (lv_at hl 3 rfl) ?_
            refine lv_goto (tgt := 83) hx hb dX4_bound_60 (by decide) ?_
            exact (hWW _ _ _ _ _ _ _).1 (J83 k23 hk23 x1 x2 x4 x3 H locs ls hP hD hS (lv_sub hl [0, 1, 2, 4] rfl) hf)
          · have hf := oif_f c10 hf
            refine lv_aload_n hx hb dX4_bound_50 rfl (lv_at hl 0 rfl) ?_
            refine lv_iload hx hb dX4_bound_51 (lv_at hl 4 rfl) ?_
            obtain ⟨y11, hy11, hf⟩ := obind hf
            refine cg_i (ws := [k4_0 aM vM, k4_1 cI aM vM, k4_2 cI aM vM, k4_3 cI aM vM, k4_4 cI aM vM, k4_5 cJ aM vM, k4_6 cI aM vM, k4_7 cJ aM vM, k4_8 cJ aM vM, k4_9 cI aM vM]) (wc := [k4_0 aM vM, k4_1 cI aM vM, k4_2 cI aM vM, k4_3 cI aM vM, k4_4 cI aM vM, k4_5 cJ aM vM, k4_6 cI aM vM, k4_7 cJ aM vM, k4_8 cJ aM vM, k4_9 cI aM vM]) (wr := []) (w1 := [k4_0 aM vM, k4_1 cI aM vM, k4_2 cI aM vM, k4_3 cI aM vM, k4_4 cI aM vM, k4_5 cJ aM vM, k4_6 cI aM vM, k4_7 cJ aM vM, k4_8 cJ aM vM, k4_9 cI aM vM]) (wo := [k4_0 aM vM, k4_1 cI aM vM, k4_2 cI aM vM, k4_3 cI aM vM, k4_4 cI aM vM, k4_5 cJ aM vM, k4_6 cI aM vM, k4_7 cJ aM vM, k4_8 cJ aM vM, k4_9 cI aM vM]) hP hD hS hA (va_runV (As := [.int x4]) (rest := []) ⟨hx, hb, hml, hown, hts⟩ (mX4_high l dC dI cI cJ aM H.size vM x4 y11 hy11) (cwV 1 hts gX4_bound_X4_high rfl rfl rfl (by decide +kernel) ⟨Nat.le_of_ble_eq_true rfl, Nat.le_of_ble_eq_true rfl⟩) ⟨cFB, va_recv hK hP (ci := 4) (q0 := 0) rfl rfl, cPre hK hN hS (va_free (wc := [k4_0 aM vM, k4_1 cI aM vM, k4_2 cI aM vM, k4_3 cI aM vM, k4_4 cI aM vM, k4_5 cJ aM vM, k4_6 cI aM vM, k4_7 cJ aM vM, k4_8 cJ aM vM, k4_9 cI aM vM]) hD hS hA [0, 1, 2, 3, 4, 5, 6, 7, 8, 9] rfl) (hP.sub [0, 1, 2, 3, 4, 5, 6, 7, 8, 9] rfl) (hD.sub [0, 1, 2, 3, 4, 5, 6, 7, 8, 9] rfl rfl)⟩ rfl rfl hl.1 rfl (lv_room (Nat.le_of_ble_eq_true rfl)) dX4_bound_53 ⟨Nat.le_of_ble_eq_true rfl, Nat.le_of_ble_eq_true rfl⟩) [0, 1, 2, 3, 4, 5, 6, 7, 8, 9] [] [0, 1, 2, 3, 4, 5, 6, 7, 8, 9] rfl rfl rfl (by decide +kernel) rfl rfl (fun H locs hP hD hS => ?_)
            refine lv_goto (tgt := 83) hx hb dX4_bound_56 (by decide) ?_
            exact (hWW _ _ _ _ _ _ _).1 (J83 k23 hk23 x1 x2 x4 y11 H locs ls hP hD hS (lv_sub hl [0, 1, 2, 4] rfl) hf)
  have J14 : ∀ (x1 : Int32) (x2 : Int32) (st0 : Int32) (H : Heap) (locs : List Loc) (ls : Array Slot), va_P (dC, dI) vwCl [k4_0 aM vM, k4_1 cI aM vM, k4_2 cI aM vM, k4_3 cI aM vM, k4_4 cI aM vM, k4_5 cJ aM vM, k4_6 cI aM vM, k4_7 cJ aM vM, k4_8 cJ aM vM, k4_9 cI aM vM] H → va_D A [k4_0 aM vM, k4_1 cI aM vM, k4_2 cI aM vM, k4_3 cI aM vM, k4_4 cI aM vM, k4_5 cJ aM vM, k4_6 cI aM vM, k4_7 cJ aM vM, k4_8 cJ aM vM, k4_9 cI aM vM] → va_S A s.heap H locs → lv_has ls 5 [(0, .ref (aM 0)), (1, .int x1), (2, .int x2)] → fX4_bound_14 vM x1 x2 st0 = some y → WW H locs 0 0 ls 14 [.int st0] := by
    intro x1 x2 st0 H locs ls hP hD hS hl hf
    unfold fX4_bound_14 at hf
    refine (hWW _ _ _ _ _ _ _).2 ?_
    refine lv_istore_n (lv' := [(3, .int st0), (0, .ref (aM 0)), (1, .int x1), (2, .int x2)]) hx hb dX4_bound_14 rfl hl (by decide) rfl (fun ls hl => ?_)
    refine lv_aload_n hx hb dX4_bound_15 rfl (lv_at hl 1 rfl) ?_
    refine va_get (D := (dC, dI)) (ci := 4) (v := .ref (aM 6)) (C := RX4) (T := TX4) (N := 21) hx hb hts hiX4 hown hK hP 0 rfl rfl 9 (by decide) hgX4_26 (fun _ h9 => h9) rfl dX4_bound_16 ?_
    refine lv_iload_n hx hb dX4_bound_19 rfl (lv_at hl 2 rfl) ?_
    obtain ⟨hi1, hf⟩ := oinb rfl hf
    refine va_iald hx hb hK hP 6 0 rfl rfl hi1 dX4_bound_20 ?_
    obtain ⟨z2, ez2, hf⟩ := elet_out hf
    refine lvn_i ez2 ?_
    refine lv_istore (lv' := [(4, .int z2), (3, .int st0), (0, .ref (aM 0)), (1, .int x1), (2, .int x2)]) hx hb dX4_bound_21 hl (by decide) rfl (fun ls hl => ?_)
    exact (hWW _ _ _ _ _ _ _).1 (L23 FU x1 x2 st0 z2 H locs ls hP hD hS (lv_sub hl [2, 3, 4, 1, 0] rfl) hf)
  refine (hWW _ _ _ _ _ _ _).2 ?_
  unfold fX4_bound at hf
  refine lv_iload_n hx hb dX4_bound_0 rfl (lv_at hl 2 rfl) ?_
  refine lv_if_eq (tgt := 13) hx hb dX4_bound_1 (by decide) (fun c13 => ?_) (fun c13 => ?_)
  · have hf := oif_t c13 hf
    refine lv_iconst (v := 0) hx hb dX4_bound_13 (by decide) ?_
    exact (hWW _ _ _ _ _ _ _).1 (J14 i1 i2 (0 : Int32) H locs ls hP hD hS (lv_sub hl [0, 1, 2] rfl) hf)
  · have hf := oif_f c13 hf
    refine lv_aload_n hx hb dX4_bound_4 rfl (lv_at hl 0 rfl) ?_
    refine va_get (D := (dC, dI)) (ci := 4) (v := .ref (aM 1)) (C := RX4) (T := TX4) (N := 21) hx hb hts hiX4 hown hK hP 0 rfl rfl 0 (by decide) hgX4_7 (fun _ h9 => h9) rfl dX4_bound_5 ?_
    refine lv_iconst (v := 0) hx hb dX4_bound_8 (by decide) ?_
    refine va_iald hx hb hK hP 1 0 rfl rfl (vpc rfl) dX4_bound_9 ?_
    refine lv_goto (tgt := 14) hx hb dX4_bound_10 (by decide) ?_
    exact (hWW _ _ _ _ _ _ _).1 (J14 i1 i2 ((p4_s vM) ((0 : Int32)).toNatClampNeg) H locs ls hP hD hS (lv_sub hl [0, 1, 2] rfl) hf)
def fX4_laysFree_197 (vM : BX4) (x1 : Int32) (l4 : Int64) : Option BX4 :=
  if inB (((5 : Int32) * x1) + (4 : Int32)) 20 = true then (elet (s4_grid vM (vp_updL (p4_grid vM) ((((5 : Int32) * x1) + (4 : Int32))).toNatClampNeg l4)) (fun b16 => some b16)) else none
def fX4_laysFree_141 (vM : BX4) (x1 : Int32) (x3 : Int32) (l4 : Int64) : Option BX4 :=
  if ((p4_blocks vM) - (1 : Int32)) ≤ x1 then (if inB ((2 : Int32) + x3) 24 = true then (elet (l4 + ((((p4_s vM) (((2 : Int32) + x3)).toNatClampNeg) * ((p4_s vM) ((0 : Int32)).toNatClampNeg))).toInt64) (fun z11 => fX4_laysFree_197 vM x1 z11)) else none) else (if inB ((2 : Int32) + x3) 24 = true then (if inB ((((5 : Int32) * x1) + x1) + (1 : Int32)) 20 = true then (elet (s4_grid vM (vp_updL (p4_grid vM) (((((5 : Int32) * x1) + x1) + (1 : Int32))).toNatClampNeg (((-((p4_s vM) (((2 : Int32) + x3)).toNatClampNeg))).toInt64))) (fun b14 => fX4_laysFree_197 b14 x1 l4)) else none) else none)
def fX4_laysFree_87_b (k87 : BX4 → Int32 → Int32 → Int32 → Int64 → Int32 → Option BX4) (vM : BX4) (x1 : Int32) (x2 : Int32) (x3 : Int32) (l4 : Int64) (x6 : Int32) : Option BX4 :=
  if x3 ≤ x6 then (if x1 ≤ 0 then (fX4_laysFree_141 vM x1 x3 l4) else (if inB ((2 : Int32) + x2) 24 = true then (if inB ((((5 : Int32) * x1) + x1) - (1 : Int32)) 20 = true then (elet (s4_grid vM (vp_updL (p4_grid vM) (((((5 : Int32) * x1) + x1) - (1 : Int32))).toNatClampNeg (((-((p4_s vM) (((2 : Int32) + x2)).toNatClampNeg))).toInt64))) (fun b5 => fX4_laysFree_141 b5 x1 x3 l4)) else none) else none)) else (if inB ((12 : Int32) + x6) 24 = true then (elet (l4 + (((p4_s vM) (((12 : Int32) + x6)).toNatClampNeg)).toInt64) (fun z7 => elet (x6 + 1) (fun z8 => k87 vM x1 x2 x3 z7 z8))) else none)
def fX4_laysFree_87 : Nat → BX4 → Int32 → Int32 → Int32 → Int64 → Int32 → Option BX4
  | 0 => fun _ _ _ _ _ _ => none
  | n + 1 => fX4_laysFree_87_b (fX4_laysFree_87 n)
def fX4_laysFree (vM : BX4) (i1 : Int32) : Option BX4 :=
  if inB i1 5 = true then (elet ((p4_first vM) (i1).toNatClampNeg) (fun z18 => if inB (i1 + (1 : Int32)) 5 = true then (elet ((p4_first vM) ((i1 + (1 : Int32))).toNatClampNeg) (fun z20 => if inB ((2 : Int32) + z18) 24 = true then (if inB ((2 : Int32) + z20) 24 = true then (if inB (((5 : Int32) * i1) + i1) 20 = true then (elet (s4_grid vM (vp_updL (p4_grid vM) ((((5 : Int32) * i1) + i1)).toNatClampNeg (((((p4_s vM) (((2 : Int32) + z18)).toNatClampNeg) + ((p4_s vM) (((2 : Int32) + z20)).toNatClampNeg))).toInt64))) (fun b24 => if inB ((2 : Int32) + z18) 24 = true then (if inB ((7 : Int32) + z18) 24 = true then (if inB ((2 : Int32) + z20) 24 = true then (if inB ((7 : Int32) + z20) 24 = true then (elet ((((((p4_s b24) (((2 : Int32) + z18)).toNatClampNeg) * ((p4_s b24) (((7 : Int32) + z18)).toNatClampNeg)) - (((p4_s b24) (((2 : Int32) + z20)).toNatClampNeg) * ((p4_s b24) (((7 : Int32) + z20)).toNatClampNeg)))).toInt64) (fun z29 => fX4_laysFree_87 FU b24 i1 z18 z20 z29 z18)) else none) else none) else none) else none)) else none) else none) else none)) else none)) else none
set_option maxHeartbeats 8000000 in
set_option maxRecDepth 100000 in
theorem mX4_laysFree (l : Launch) (dC : Nat → ClassId) (dI : Nat → Nat → Nat) (cI cJ : ClassId) (aM : Nat → Nat) (sz : Nat) (vM : BX4) (i1 : Int32) (y : BX4) (hf : fX4_laysFree vM i1 = some y) : Met l yX4_laysFree wsX4_laysFree ({ frames := 0, cells := 0, slots := 0, locals := 0 }) (cPc dC dI cI cJ [.ref (aM 0), .int i1] [k4_0 aM vM, k4_1 cI aM vM, k4_2 cI aM vM, k4_3 cI aM vM, k4_4 cI aM vM, k4_5 cJ aM vM, k4_6 cI aM vM, k4_7 cJ aM vM, k4_8 cJ aM vM, k4_9 cI aM vM] sz) (va_Qv (fun (_ : Unit) => True) (fun _ t => cB dC dI (va_A [k4_0 aM vM, k4_1 cI aM vM, k4_2 cI aM vM, k4_3 cI aM vM, k4_4 cI aM vM, k4_5 cJ aM vM, k4_6 cI aM vM, k4_7 cJ aM vM, k4_8 cJ aM vM, k4_9 cI aM vM] sz) [k4_0 aM y, k4_1 cI aM y, k4_2 cI aM y, k4_3 cI aM y, k4_4 cI aM y, k4_5 cJ aM y, k4_6 cI aM y, k4_7 cJ aM y, k4_8 cJ aM y, k4_9 cI aM y] t) (va_A [k4_0 aM vM, k4_1 cI aM vM, k4_2 cI aM vM, k4_3 cI aM vM, k4_4 cI aM vM, k4_5 cJ aM vM, k4_6 cI aM vM, k4_7 cJ aM vM, k4_8 cJ aM vM, k4_9 cI aM vM] sz)) 0 0 (va_A [k4_0 aM vM, k4_1 cI aM vM, k4_2 cI aM vM, k4_3 cI aM vM, k4_4 cI aM vM, k4_5 cJ aM vM, k4_6 cI aM vM, k4_7 cJ aM vM, k4_8 cJ aM vM, k4_9 cI aM vM] sz) := by
  refine Met.ofW (cc := cX4_laysFree) (maxL := 7) (ret := none) (by decide) rfl ?_
  intro p e s m args below meth c s₁ B hml hv
  obtain ⟨rfl, hsz, hP, hK, hD0, hN⟩ := hv
  have hx := B.exec
  have hb := B.bytes
  have hr := B.returns
  have hts := atoms_spec (ws := wsX4_laysFree) B.pre
  have hown : s.vm.findClass RX4 = some m.cls := findClass_of_methodNamed B.named
  have hlocks := B.notSynchronized
  subst hsz
  have hD := hD0.self (sz := s.heap.size)
  generalize hAe : va_A [k4_0 aM vM, k4_1 cI aM vM, k4_2 cI aM vM, k4_3 cI aM vM, k4_4 cI aM vM, k4_5 cJ aM vM, k4_6 cI aM vM, k4_7 cJ aM vM, k4_8 cJ aM vM, k4_9 cI aM vM] s.heap.size = A at hD hN ⊢
  have hA : ∀ q : Nat, s.heap.size ≤ q → A q := fun q h => by rw [← hAe]; exact Or.inr h
  have hP : va_P (dC, dI) vwCl [k4_0 aM vM, k4_1 cI aM vM, k4_2 cI aM vM, k4_3 cI aM vM, k4_4 cI aM vM, k4_5 cJ aM vM, k4_6 cI aM vM, k4_7 cJ aM vM, k4_8 cJ aM vM, k4_9 cI aM vM] s.heap := hP
  have hl := lv_entry ([.ref (aM 0), .int i1]) (n := 7) (Nat.le_of_ble_eq_true rfl)
  rw [lg_entry_eq]
  generalize (lg_sl ([.ref (aM 0), .int i1]) ++ List.replicate (7 - (lg_sl ([.ref (aM 0), .int i1])).length) Slot.unset).toArray = ls at hl ⊢
  have hl : lv_has ls 7 [(0, .ref (aM 0)), (1, .int i1)] := hl
  have hiX4 : ∀ w ∈ u_ws RX4 TX4 21, w ∈ wsX4_laysFree := by decide +kernel
  have hgX4_29 := hts (.fieldLink RX4 29 "SpringPlatesModel" "grid" "[J") (by decide +kernel)
  have hgX4_7 := hts (.fieldLink RX4 7 "SpringPlatesModel" "s" "[I") (by decide +kernel)
  have hgX4_90 := hts (.fieldLink RX4 90 "SpringPlatesModel" "blocks" "I") (by decide +kernel)
  have hgX4_26 := hts (.fieldLink RX4 26 "SpringPlatesModel" "first" "[I") (by decide +kernel)
  refine nameH (fun H locs hHe hLe => ?_)
  have hP : va_P (dC, dI) vwCl [k4_0 aM vM, k4_1 cI aM vM, k4_2 cI aM vM, k4_3 cI aM vM, k4_4 cI aM vM, k4_5 cJ aM vM, k4_6 cI aM vM, k4_7 cJ aM vM, k4_8 cJ aM vM, k4_9 cI aM vM] H := by rw [hHe]; exact hP
  have hS : va_S A s.heap H locs := by rw [hHe, hLe]; exact va_S.rf
  refine withW (fun WW hWW => ?_)
  have J197 : ∀ (vM : BX4) (x1 : Int32) (l4 : Int64) (H : Heap) (locs : List Loc) (ls : Array Slot), va_P (dC, dI) vwCl [k4_0 aM vM, k4_1 cI aM vM, k4_2 cI aM vM, k4_3 cI aM vM, k4_4 cI aM vM, k4_5 cJ aM vM, k4_6 cI aM vM, k4_7 cJ aM vM, k4_8 cJ aM vM, k4_9 cI aM vM] H → va_D A [k4_0 aM vM, k4_1 cI aM vM, k4_2 cI aM vM, k4_3 cI aM vM, k4_4 cI aM vM, k4_5 cJ aM vM, k4_6 cI aM vM, k4_7 cJ aM vM, k4_8 cJ aM vM, k4_9 cI aM vM] → va_S A s.heap H locs → lv_has ls 7 [(0, .ref (aM 0)), (1, .int x1), (4, .long l4)] → fX4_laysFree_197 vM x1 l4 = some y → WW H locs 0 0 ls 197 [] := by
    intro vM x1 l4 H locs ls hP hD hS hl hf
    unfold fX4_laysFree_197 at hf
    refine (hWW _ _ _ _ _ _ _).2 ?_
    refine lv_aload_n hx hb dX4_laysFree_197 rfl (lv_at hl 0 rfl) ?_
    refine va_get (D := (dC, dI)) (ci := 4) (v := .ref (aM 7)) (C := RX4) (T := TX4) (N := 21) hx hb hts hiX4 hown hK hP 0 rfl rfl 10 (by decide) hgX4_29 (fun _ h9 => h9) rfl dX4_laysFree_198 ?_
    refine lv_iconst (v := 5) hx hb dX4_laysFree_201 (by decide) ?_
    refine lv_iload_n hx hb dX4_laysFree_202 rfl (lv_at hl 1 rfl) ?_
    refine lv_imul hx hb dX4_laysFree_203 ?_
    refine lv_iconst (v := 4) hx hb dX4_laysFree_204 (by decide) ?_
    refine lv_iadd hx hb dX4_laysFree_205 ?_
    refine lv_lload hx hb dX4_laysFree_206 (lv_at hl 2 rfl) ?_
    obtain ⟨hi15, hf⟩ := oinb rfl hf
    obtain ⟨b16, eb16, hf⟩ := elet_out hf
    refine va_last hx hb hK hP hD hS 7 1 rfl rfl hi15 dX4_laysFree_208 (fun H locs hP hD hS => ?_)
    have hP : va_P (dC, dI) vwCl [k4_0 aM b16, k4_1 cI aM b16, k4_2 cI aM b16, k4_3 cI aM b16, k4_4 cI aM b16, k4_5 cJ aM b16, k4_6 cI aM b16, k4_7 cJ aM b16, k4_8 cJ aM b16, k4_9 cI aM b16] H := by rw [eb16]; exact hP
    have hD : va_D A [k4_0 aM b16, k4_1 cI aM b16, k4_2 cI aM b16, k4_3 cI aM b16, k4_4 cI aM b16, k4_5 cJ aM b16, k4_6 cI aM b16, k4_7 cJ aM b16, k4_8 cJ aM b16, k4_9 cI aM b16] := by rw [eb16]; exact hD
    obtain rfl := Option.some.inj hf
    exact W.vret hx hb hr (fun t ht hW => ⟨⟨(), rfl, trivial, by rw [ht]; exact hP, hD⟩, hS.F ht⟩) hS.2.2 dX4_laysFree_209
  have J141 : ∀ (vM : BX4) (x1 : Int32) (x3 : Int32) (l4 : Int64) (H : Heap) (locs : List Loc) (ls : Array Slot), va_P (dC, dI) vwCl [k4_0 aM vM, k4_1 cI aM vM, k4_2 cI aM vM, k4_3 cI aM vM, k4_4 cI aM vM, k4_5 cJ aM vM, k4_6 cI aM vM, k4_7 cJ aM vM, k4_8 cJ aM vM, k4_9 cI aM vM] H → va_D A [k4_0 aM vM, k4_1 cI aM vM, k4_2 cI aM vM, k4_3 cI aM vM, k4_4 cI aM vM, k4_5 cJ aM vM, k4_6 cI aM vM, k4_7 cJ aM vM, k4_8 cJ aM vM, k4_9 cI aM vM] → va_S A s.heap H locs → lv_has ls 7 [(0, .ref (aM 0)), (1, .int x1), (3, .int x3), (4, .long l4)] → fX4_laysFree_141 vM x1 x3 l4 = some y → WW H locs 0 0 ls 141 [] := by
    intro vM x1 x3 l4 H locs ls hP hD hS hl hf
    unfold fX4_laysFree_141 at hf
    refine (hWW _ _ _ _ _ _ _).2 ?_
    refine lv_iload_n hx hb dX4_laysFree_141 rfl (lv_at hl 1 rfl) ?_
    refine lv_aload_n hx hb dX4_laysFree_142 rfl (lv_at hl 0 rfl) ?_
    refine va_get (D := (dC, dI)) (ci := 4) (v := .int (p4_blocks vM)) (C := RX4) (T := TX4) (N := 21) hx hb hts hiX4 hown hK hP 0 rfl rfl 11 (by decide) hgX4_90 (fun _ h9 => h9) rfl dX4_laysFree_143 ?_
    refine lv_iconst (v := 1) hx hb dX4_laysFree_146 (by decide) ?_
    refine lv_isub hx hb dX4_laysFree_147 ?_
    refine lv_icmp_ge (tgt := 176) hx hb dX4_laysFree_148 (by decide) (fun c9 => ?_) (fun c9 => ?_)
    · have hf := oif_t c9 hf
      refine lv_lload hx hb dX4_laysFree_176 (lv_at hl 3 rfl) ?_
      refine lv_aload_n hx hb dX4_laysFree_178 rfl (lv_at hl 0 rfl) ?_
      refine va_get (D := (dC, dI)) (ci := 4) (v := .ref (aM 1)) (C := RX4) (T := TX4) (N := 21) hx hb hts hiX4 hown hK hP 0 rfl rfl 0 (by decide) hgX4_7 (fun _ h9 => h9) rfl dX4_laysFree_179 ?_
      refine lv_iconst (v := 2) hx hb dX4_laysFree_182 (by decide) ?_
      refine lv_iload_n hx hb dX4_laysFree_183 rfl (lv_at hl 2 rfl) ?_
      refine lv_iadd hx hb dX4_laysFree_184 ?_
      obtain ⟨hi10, hf⟩ := oinb rfl hf
      refine va_iald hx hb hK hP 1 0 rfl rfl hi10 dX4_laysFree_185 ?_
      refine lv_aload_n hx hb dX4_laysFree_186 rfl (lv_at hl 0 rfl) ?_
      refine va_get (D := (dC, dI)) (ci := 4) (v := .ref (aM 1)) (C := RX4) (T := TX4) (N := 21) hx hb hts hiX4 hown hK hP 0 rfl rfl 0 (by decide) hgX4_7 (fun _ h9 => h9) rfl dX4_laysFree_187 ?_
      refine lv_iconst (v := 0) hx hb dX4_laysFree_190 (by decide) ?_
      refine va_iald hx hb hK hP 1 0 rfl rfl (vpc rfl) dX4_laysFree_191 ?_
      refine lv_imul hx hb dX4_laysFree_192 ?_
      refine lv_i2l (v := ((((p4_s vM) (((2 : Int32) + x3)).toNatClampNeg) * ((p4_s vM) ((0 : Int32)).toNatClampNeg))).toInt64) hx hb dX4_laysFree_193 rfl ?_
      refine lv_ladd hx hb dX4_laysFree_194 ?_
      obtain ⟨z11, ez11, hf⟩ := elet_out hf
      refine lvn_l ez11 ?_
      refine lv_lstore (lv' := [(4, .long z11), (0, .ref (aM 0)), (1, .int x1), (3, .int x3)]) hx hb dX4_laysFree_195 hl (by decide) rfl (fun ls hl => ?_)
      exact (hWW _ _ _ _ _ _ _).1 (J197 vM x1 z11 H locs ls hP hD hS (lv_sub hl [1, 2, 0] rfl) hf)
    · have hf := oif_f c9 hf
      refine lv_aload_n hx hb dX4_laysFree_151 rfl (lv_at hl 0 rfl) ?_
      refine va_get (D := (dC, dI)) (ci := 4) (v := .ref (aM 7)) (C := RX4) (T := TX4) (N := 21) hx hb hts hiX4 hown hK hP 0 rfl rfl 10 (by decide) hgX4_29 (fun _ h9 => h9) rfl dX4_laysFree_152 ?_
      refine lv_iconst (v := 5) hx hb dX4_laysFree_155 (by decide) ?_
      refine lv_iload_n hx hb dX4_laysFree_156 rfl (lv_at hl 1 rfl) ?_
      refine lv_imul hx hb dX4_laysFree_157 ?_
      refine lv_iload_n hx hb dX4_laysFree_158 rfl (lv_at hl 1 rfl) ?_
      refine lv_iadd hx hb dX4_laysFree_159 ?_
      refine lv_iconst (v := 1) hx hb dX4_laysFree_160 (by decide) ?_
      refine lv_iadd hx hb dX4_laysFree_161 ?_
      refine lv_aload_n hx hb dX4_laysFree_162 rfl (lv_at hl 0 rfl) ?_
      refine va_get (D := (dC, dI)) (ci := 4) (v := .ref (aM 1)) (C := RX4) (T := TX4) (N := 21) hx hb hts hiX4 hown hK hP 0 rfl rfl 0 (by decide) hgX4_7 (fun _ h9 => h9) rfl dX4_laysFree_163 ?_
      refine lv_iconst (v := 2) hx hb dX4_laysFree_166 (by decide) ?_
      refine lv_iload_n hx hb dX4_laysFree_167 rfl (lv_at hl 2 rfl) ?_
      refine lv_iadd hx hb dX4_laysFree_168 ?_
      obtain ⟨hi12, hf⟩ := oinb rfl hf
      refine va_iald hx hb hK hP 1 0 rfl rfl hi12 dX4_laysFree_169 ?_
      refine lv_ineg hx hb dX4_laysFree_170 ?_
      refine lv_i2l (v := ((-((p4_s vM) (((2 : Int32) + x3)).toNatClampNeg))).toInt64) hx hb dX4_laysFree_171 rfl ?_
      obtain ⟨hi13, hf⟩ := oinb rfl hf
      obtain ⟨b14, eb14, hf⟩ := elet_out hf
      refine va_last hx hb hK hP hD hS 7 1 rfl rfl hi13 dX4_laysFree_172 (fun H locs hP hD hS => ?_)
      have hP : va_P (dC, dI) vwCl [k4_0 aM b14, k4_1 cI aM b14, k4_2 cI aM b14, k4_3 cI aM b14, k4_4 cI aM b14, k4_5 cJ aM b14, k4_6 cI aM b14, k4_7 cJ aM b14, k4_8 cJ aM b14, k4_9 cI aM b14] H := by rw [eb14]; exact hP
      have hD : va_D A [k4_0 aM b14, k4_1 cI aM b14, k4_2 cI aM b14, k4_3 cI aM b14, k4_4 cI aM b14, k4_5 cJ aM b14, k4_6 cI aM b14, k4_7 cJ aM b14, k4_8 cJ aM b14, k4_9 cI aM b14] := by rw [eb14]; exact hD
      refine lv_goto (tgt := 197) hx hb dX4_laysFree_173 (by decide) ?_
      exact (hWW _ _ _ _ _ _ _).1 (J197 b14 x1 l4 H locs ls hP hD hS (lv_sub hl [0, 1, 3] rfl) hf)
  have L87 : ∀ (n : Nat) (vM : BX4) (x1 : Int32) (x2 : Int32) (x3 : Int32) (l4 : Int64) (x6 : Int32) (H : Heap) (locs : List Loc) (ls : Array Slot), va_P (dC, dI) vwCl [k4_0 aM vM, k4_1 cI aM vM, k4_2 cI aM vM, k4_3 cI aM vM, k4_4 cI aM vM, k4_5 cJ aM vM, k4_6 cI aM vM, k4_7 cJ aM vM, k4_8 cJ aM vM, k4_9 cI aM vM] H → va_D A [k4_0 aM vM, k4_1 cI aM vM, k4_2 cI aM vM, k4_3 cI aM vM, k4_4 cI aM vM, k4_5 cJ aM vM, k4_6 cI aM vM, k4_7 cJ aM vM, k4_8 cJ aM vM, k4_9 cI aM vM] → va_S A s.heap H locs → lv_has ls 7 [(0, .ref (aM 0)), (1, .int x1), (2, .int x2), (3, .int x3), (4, .long l4), (6, .int x6)] → fX4_laysFree_87 n vM x1 x2 x3 l4 x6 = some y → WW H locs 0 0 ls 87 [] := by
    intro n
    induction n with
    | zero =>
      intro vM x1 x2 x3 l4 x6 H locs ls hP hD hS hl hf
      exact onone hf
    | succ n ih =>
      intro vM x1 x2 x3 l4 x6 H locs ls hP hD hS hl hf
      have hf : fX4_laysFree_87_b (fX4_laysFree_87 n) vM x1 x2 x3 l4 x6 = some y := hf
      generalize fX4_laysFree_87 n = k87 at hf ih
      have hk87 := ih
      clear ih
      unfold fX4_laysFree_87_b at hf
      refine (hWW _ _ _ _ _ _ _).2 ?_
      refine lv_iload hx hb dX4_laysFree_87 (lv_at hl 5 rfl) ?_
      refine lv_iload_n hx hb dX4_laysFree_89 rfl (lv_at hl 3 rfl) ?_
      refine lv_icmp_ge (tgt := 115) hx hb dX4_laysFree_90 (by decide) (fun c1 => ?_) (fun c1 => ?_)
      · have hf := oif_t c1 hf
        refine lv_iload_n hx hb dX4_laysFree_115 rfl (lv_at hl 1 rfl) ?_
        refine lv_if_le (tgt := 141) hx hb dX4_laysFree_116 (by decide) (fun c2 => ?_) (fun c2 => ?_)
        · have hf := oif_t c2 hf
          exact (hWW _ _ _ _ _ _ _).1 (J141 vM x1 x3 l4 H locs ls hP hD hS (lv_sub hl [0, 1, 3, 4] rfl) hf)
        · have hf := oif_f c2 hf
          refine lv_aload_n hx hb dX4_laysFree_119 rfl (lv_at hl 0 rfl) ?_
          refine va_get (D := (dC, dI)) (ci := 4) (v := .ref (aM 7)) (C := RX4) (T := TX4) (N := 21) hx hb hts hiX4 hown hK hP 0 rfl rfl 10 (by decide) hgX4_29 (fun _ h9 => h9) rfl dX4_laysFree_120 ?_
          refine lv_iconst (v := 5) hx hb dX4_laysFree_123 (by decide) ?_
          refine lv_iload_n hx hb dX4_laysFree_124 rfl (lv_at hl 1 rfl) ?_
          refine lv_imul hx hb dX4_laysFree_125 ?_
          refine lv_iload_n hx hb dX4_laysFree_126 rfl (lv_at hl 1 rfl) ?_
          refine lv_iadd hx hb dX4_laysFree_127 ?_
          refine lv_iconst (v := 1) hx hb dX4_laysFree_128 (by decide) ?_
          refine lv_isub hx hb dX4_laysFree_129 ?_
          refine lv_aload_n hx hb dX4_laysFree_130 rfl (lv_at hl 0 rfl) ?_
          refine va_get (D := (dC, dI)) (ci := 4) (v := .ref (aM 1)) (C := RX4) (T := TX4) (N := 21) hx hb hts hiX4 hown hK hP 0 rfl rfl 0 (by decide) hgX4_7 (fun _ h9 => h9) rfl dX4_laysFree_131 ?_
          refine lv_iconst (v := 2) hx hb dX4_laysFree_134 (by decide) ?_
          refine lv_iload_n hx hb dX4_laysFree_135 rfl (lv_at hl 2 rfl) ?_
          refine lv_iadd hx hb dX4_laysFree_136 ?_
          obtain ⟨hi3, hf⟩ := oinb rfl hf
          refine va_iald hx hb hK hP 1 0 rfl rfl hi3 dX4_laysFree_137 ?_
          refine lv_ineg hx hb dX4_laysFree_138 ?_
          refine lv_i2l (v := ((-((p4_s vM) (((2 : Int32) + x2)).toNatClampNeg))).toInt64) hx hb dX4_laysFree_139 rfl ?_
          obtain ⟨hi4, hf⟩ := oinb rfl hf
          obtain ⟨b5, eb5, hf⟩ := elet_out hf
          refine va_last hx hb hK hP hD hS 7 1 rfl rfl hi4 dX4_laysFree_140 (fun H locs hP hD hS => ?_)
          have hP : va_P (dC, dI) vwCl [k4_0 aM b5, k4_1 cI aM b5, k4_2 cI aM b5, k4_3 cI aM b5, k4_4 cI aM b5, k4_5 cJ aM b5, k4_6 cI aM b5, k4_7 cJ aM b5, k4_8 cJ aM b5, k4_9 cI aM b5] H := by rw [eb5]; exact hP
          have hD : va_D A [k4_0 aM b5, k4_1 cI aM b5, k4_2 cI aM b5, k4_3 cI aM b5, k4_4 cI aM b5, k4_5 cJ aM b5, k4_6 cI aM b5, k4_7 cJ aM b5, k4_8 cJ aM b5, k4_9 cI aM b5] := by rw [eb5]; exact hD
          exact (hWW _ _ _ _ _ _ _).1 (J141 b5 x1 x3 l4 H locs ls hP hD hS (lv_sub hl [0, 1, 3, 4] rfl) hf)
      · have hf := oif_f c1 hf
        refine lv_lload hx hb dX4_laysFree_93 (lv_at hl 4 rfl) ?_
        refine lv_aload_n hx hb dX4_laysFree_95 rfl (lv_at hl 0 rfl) ?_
        refine va_get (D := (dC, dI)) (ci := 4) (v := .ref (aM 1)) (C := RX4) (T := TX4) (N := 21) hx hb hts hiX4 hown hK hP 0 rfl rfl 0 (by decide) hgX4_7 (fun _ h9 => h9) rfl dX4_laysFree_96 ?_
        refine lv_bipush (v := 12) hx hb dX4_laysFree_99 (by decide) ?_
        refine lv_iload hx hb dX4_laysFree_101 (lv_at hl 5 rfl) ?_
        refine lv_iadd hx hb dX4_laysFree_103 ?_
        obtain ⟨hi6, hf⟩ := oinb rfl hf
        refine va_iald hx hb hK hP 1 0 rfl rfl hi6 dX4_laysFree_104 ?_
        refine lv_i2l (v := (((p4_s vM) (((12 : Int32) + x6)).toNatClampNeg)).toInt64) hx hb dX4_laysFree_105 rfl ?_
        refine lv_ladd hx hb dX4_laysFree_106 ?_
        obtain ⟨z7, ez7, hf⟩ := elet_out hf
        refine lvn_l ez7 ?_
        refine lv_lstore (lv' := [(4, .long z7), (0, .ref (aM 0)), (1, .int x1), (2, .int x2), (3, .int x3), (6, .int x6)]) hx hb dX4_laysFree_107 hl (by decide) rfl (fun ls hl => ?_)
        obtain ⟨z8, ez8, hf⟩ := elet_out hf
        refine lv_iinc (v := z8) (lv' := [(6, .int z8), (4, .long z7), (0, .ref (aM 0)), (1, .int x1), (2, .int x2), (3, .int x3)]) hx hb dX4_laysFree_109 hl (k := 5) rfl (by rw [ez8]; rfl) (by decide) rfl (fun ls hl => ?_)
        refine lv_goto (tgt := 87) hx hb dX4_laysFree_112 (by decide) ?_
        exact (hWW _ _ _ _ _ _ _).1 (hk87 vM x1 x2 x3 z7 z8 H locs ls hP hD hS (lv_sub hl [2, 3, 4, 5, 1, 0] rfl) hf)
  refine (hWW _ _ _ _ _ _ _).2 ?_
  unfold fX4_laysFree at hf
  refine lv_aload_n hx hb dX4_laysFree_0 rfl (lv_at hl 0 rfl) ?_
  refine va_get (D := (dC, dI)) (ci := 4) (v := .ref (aM 6)) (C := RX4) (T := TX4) (N := 21) hx hb hts hiX4 hown hK hP 0 rfl rfl 9 (by decide) hgX4_26 (fun _ h9 => h9) rfl dX4_laysFree_1 ?_
  refine lv_iload_n hx hb dX4_laysFree_4 rfl (lv_at hl 1 rfl) ?_
  obtain ⟨hi17, hf⟩ := oinb rfl hf
  refine va_iald hx hb hK hP 6 0 rfl rfl hi17 dX4_laysFree_5 ?_
  obtain ⟨z18, ez18, hf⟩ := elet_out hf
  refine lvn_i ez18 ?_
  refine lv_istore_n (lv' := [(2, .int z18), (0, .ref (aM 0)), (1, .int i1)]) hx hb dX4_laysFree_6 rfl hl (by decide) rfl (fun ls hl => ?_)
  refine lv_aload_n hx hb dX4_laysFree_7 rfl (lv_at hl 1 rfl) ?_
  refine va_get (D := (dC, dI)) (ci := 4) (v := .ref (aM 6)) (C := RX4) (T := TX4) (N := 21) hx hb hts hiX4 hown hK hP 0 rfl rfl 9 (by decide) hgX4_26 (fun _ h9 => h9) rfl dX4_laysFree_8 ?_
  refine lv_iload_n hx hb dX4_laysFree_11 rfl (lv_at hl 2 rfl) ?_
  refine lv_iconst (v := 1) hx hb dX4_laysFree_12 (by decide) ?_
  refine lv_iadd hx hb dX4_laysFree_13 ?_
  obtain ⟨hi19, hf⟩ := oinb rfl hf
  refine va_iald hx hb hK hP 6 0 rfl rfl hi19 dX4_laysFree_14 ?_
  obtain ⟨z20, ez20, hf⟩ := elet_out hf
  refine lvn_i ez20 ?_
  refine lv_istore_n (lv' := [(3, .int z20), (2, .int z18), (0, .ref (aM 0)), (1, .int i1)]) hx hb dX4_laysFree_15 rfl hl (by decide) rfl (fun ls hl => ?_)
  refine lv_aload_n hx hb dX4_laysFree_16 rfl (lv_at hl 2 rfl) ?_
  refine va_get (D := (dC, dI)) (ci := 4) (v := .ref (aM 7)) (C := RX4) (T := TX4) (N := 21) hx hb hts hiX4 hown hK hP 0 rfl rfl 10 (by decide) hgX4_29 (fun _ h9 => h9) rfl dX4_laysFree_17 ?_
  refine lv_iconst (v := 5) hx hb dX4_laysFree_20 (by decide) ?_
  refine lv_iload_n hx hb dX4_laysFree_21 rfl (lv_at hl 3 rfl) ?_
  refine lv_imul hx hb dX4_laysFree_22 ?_
  refine lv_iload_n hx hb dX4_laysFree_23 rfl (lv_at hl 3 rfl) ?_
  refine lv_iadd hx hb dX4_laysFree_24 ?_
  refine lv_aload_n hx hb dX4_laysFree_25 rfl (lv_at hl 2 rfl) ?_
  refine va_get (D := (dC, dI)) (ci := 4) (v := .ref (aM 1)) (C := RX4) (T := TX4) (N := 21) hx hb hts hiX4 hown hK hP 0 rfl rfl 0 (by decide) hgX4_7 (fun _ h9 => h9) rfl dX4_laysFree_26 ?_
  refine lv_iconst (v := 2) hx hb dX4_laysFree_29 (by decide) ?_
  refine lv_iload_n hx hb dX4_laysFree_30 rfl (lv_at hl 1 rfl) ?_
  refine lv_iadd hx hb dX4_laysFree_31 ?_
  obtain ⟨hi21, hf⟩ := oinb rfl hf
  refine va_iald hx hb hK hP 1 0 rfl rfl hi21 dX4_laysFree_32 ?_
  refine lv_aload_n hx hb dX4_laysFree_33 rfl (lv_at hl 2 rfl) ?_
  refine va_get (D := (dC, dI)) (ci := 4) (v := .ref (aM 1)) (C := RX4) (T := TX4) (N := 21) hx hb hts hiX4 hown hK hP 0 rfl rfl 0 (by decide) hgX4_7 (fun _ h9 => h9) rfl dX4_laysFree_34 ?_
  refine lv_iconst (v := 2) hx hb dX4_laysFree_37 (by decide) ?_
  refine lv_iload_n hx hb dX4_laysFree_38 rfl (lv_at hl 0 rfl) ?_
  refine lv_iadd hx hb dX4_laysFree_39 ?_
  obtain ⟨hi22, hf⟩ := oinb rfl hf
  refine va_iald hx hb hK hP 1 0 rfl rfl hi22 dX4_laysFree_40 ?_
  refine lv_iadd hx hb dX4_laysFree_41 ?_
  refine lv_i2l (v := ((((p4_s vM) (((2 : Int32) + z18)).toNatClampNeg) + ((p4_s vM) (((2 : Int32) + z20)).toNatClampNeg))).toInt64) hx hb dX4_laysFree_42 rfl ?_
  obtain ⟨hi23, hf⟩ := oinb rfl hf
  obtain ⟨b24, eb24, hf⟩ := elet_out hf
  refine va_last hx hb hK hP hD hS 7 1 rfl rfl hi23 dX4_laysFree_43 (fun H locs hP hD hS => ?_)
  have hP : va_P (dC, dI) vwCl [k4_0 aM b24, k4_1 cI aM b24, k4_2 cI aM b24, k4_3 cI aM b24, k4_4 cI aM b24, k4_5 cJ aM b24, k4_6 cI aM b24, k4_7 cJ aM b24, k4_8 cJ aM b24, k4_9 cI aM b24] H := by rw [eb24]; exact hP
  have hD : va_D A [k4_0 aM b24, k4_1 cI aM b24, k4_2 cI aM b24, k4_3 cI aM b24, k4_4 cI aM b24, k4_5 cJ aM b24, k4_6 cI aM b24, k4_7 cJ aM b24, k4_8 cJ aM b24, k4_9 cI aM b24] := by rw [eb24]; exact hD
  refine lv_aload_n hx hb dX4_laysFree_44 rfl (lv_at hl 2 rfl) ?_
  refine va_get (D := (dC, dI)) (ci := 4) (v := .ref (aM 1)) (C := RX4) (T := TX4) (N := 21) hx hb hts hiX4 hown hK hP 0 rfl rfl 0 (by decide) hgX4_7 (fun _ h9 => h9) rfl dX4_laysFree_45 ?_
  refine lv_iconst (v := 2) hx hb dX4_laysFree_48 (by decide) ?_
  refine lv_iload_n hx hb dX4_laysFree_49 rfl (lv_at hl 1 rfl) ?_
  refine lv_iadd hx hb dX4_laysFree_50 ?_
  obtain ⟨hi25, hf⟩ := oinb rfl hf
  refine va_iald hx hb hK hP 1 0 rfl rfl hi25 dX4_laysFree_51 ?_
  refine lv_aload_n hx hb dX4_laysFree_52 rfl (lv_at hl 2 rfl) ?_
  refine va_get (D := (dC, dI)) (ci := 4) (v := .ref (aM 1)) (C := RX4) (T := TX4) (N := 21) hx hb hts hiX4 hown hK hP 0 rfl rfl 0 (by decide) hgX4_7 (fun _ h9 => h9) rfl dX4_laysFree_53 ?_
  refine lv_bipush (v := 7) hx hb dX4_laysFree_56 (by decide) ?_
  refine lv_iload_n hx hb dX4_laysFree_58 rfl (lv_at hl 1 rfl) ?_
  refine lv_iadd hx hb dX4_laysFree_59 ?_
  obtain ⟨hi26, hf⟩ := oinb rfl hf
  refine va_iald hx hb hK hP 1 0 rfl rfl hi26 dX4_laysFree_60 ?_
  refine lv_imul hx hb dX4_laysFree_61 ?_
  refine lv_aload_n hx hb dX4_laysFree_62 rfl (lv_at hl 2 rfl) ?_
  refine va_get (D := (dC, dI)) (ci := 4) (v := .ref (aM 1)) (C := RX4) (T := TX4) (N := 21) hx hb hts hiX4 hown hK hP 0 rfl rfl 0 (by decide) hgX4_7 (fun _ h9 => h9) rfl dX4_laysFree_63 ?_
  refine lv_iconst (v := 2) hx hb dX4_laysFree_66 (by decide) ?_
  refine lv_iload_n hx hb dX4_laysFree_67 rfl (lv_at hl 0 rfl) ?_
  refine lv_iadd hx hb dX4_laysFree_68 ?_
  obtain ⟨hi27, hf⟩ := oinb rfl hf
  refine va_iald hx hb hK hP 1 0 rfl rfl hi27 dX4_laysFree_69 ?_
  refine lv_aload_n hx hb dX4_laysFree_70 rfl (lv_at hl 2 rfl) ?_
  refine va_get (D := (dC, dI)) (ci := 4) (v := .ref (aM 1)) (C := RX4) (T := TX4) (N := 21) hx hb hts hiX4 hown hK hP 0 rfl rfl 0 (by decide) hgX4_7 (fun _ h9 => h9) rfl dX4_laysFree_71 ?_
  refine lv_bipush (v := 7) hx hb dX4_laysFree_74 (by decide) ?_
  refine lv_iload_n hx hb dX4_laysFree_76 rfl (lv_at hl 0 rfl) ?_
  refine lv_iadd hx hb dX4_laysFree_77 ?_
  obtain ⟨hi28, hf⟩ := oinb rfl hf
  refine va_iald hx hb hK hP 1 0 rfl rfl hi28 dX4_laysFree_78 ?_
  refine lv_imul hx hb dX4_laysFree_79 ?_
  refine lv_isub hx hb dX4_laysFree_80 ?_
  refine lv_i2l (v := (((((p4_s b24) (((2 : Int32) + z18)).toNatClampNeg) * ((p4_s b24) (((7 : Int32) + z18)).toNatClampNeg)) - (((p4_s b24) (((2 : Int32) + z20)).toNatClampNeg) * ((p4_s b24) (((7 : Int32) + z20)).toNatClampNeg)))).toInt64) hx hb dX4_laysFree_81 rfl ?_
  obtain ⟨z29, ez29, hf⟩ := elet_out hf
  refine lvn_l ez29 ?_
  refine lv_lstore (lv' := [(4, .long z29), (3, .int z20), (2, .int z18), (0, .ref (aM 0)), (1, .int i1)]) hx hb dX4_laysFree_82 hl (by decide) rfl (fun ls hl => ?_)
  refine lv_iload_n hx hb dX4_laysFree_84 rfl (lv_at hl 2 rfl) ?_
  refine lv_istore (lv' := [(6, .int z18), (4, .long z29), (3, .int z20), (2, .int z18), (0, .ref (aM 0)), (1, .int i1)]) hx hb dX4_laysFree_85 hl (by decide) rfl (fun ls hl => ?_)
  exact (hWW _ _ _ _ _ _ _).1 (L87 FU b24 i1 z18 z20 z29 z18 H locs ls hP hD hS (lv_sub hl [4, 5, 3, 2, 1, 0] rfl) hf)
def fX4_lays_99 (k4 : BX4 → Int32 → Int32 → Option BX4) (vM : BX4) (x2 : Int32) (x3 : Int32) : Option BX4 :=
  elet (x3 + 1) (fun z16 => k4 vM x2 z16)
def fX4_lays_86 (k4 : BX4 → Int32 → Int32 → Option BX4) (vM : BX4) (x2 : Int32) (x3 : Int32) (st1 : Int32) (st3 : Int32) (st4 : Int32) : Option BX4 :=
  (fX4_bound vM st3 st4).bind (fun y13 => if inB st1 20 = true then (elet (s4_grid vM (vp_updL (p4_grid vM) (st1).toNatClampNeg ((y13).toInt64))) (fun b15 => fX4_lays_99 k4 b15 x2 x3)) else none)
def fX4_lays_15_b (k4 : BX4 → Int32 → Int32 → Option BX4) (k15 : BX4 → Int32 → Int32 → Int32 → Option BX4) (vM : BX4) (x2 : Int32) (x3 : Int32) (x4 : Int32) : Option BX4 :=
  if (5 : Int32) ≤ x4 then (elet (x2 - x2 / (3 : Int32) * (3 : Int32)) (fun z3 => elet (x2 / (3 : Int32)) (fun z4 => if z3 ≤ 0 then ((fX4_laysFree vM x3).bind (fun y6 => fX4_lays_99 k4 y6 z4 x3)) else (if inB (((5 : Int32) * x3) + x3) 20 = true then (elet (s4_grid vM (vp_updL (p4_grid vM) ((((5 : Int32) * x3) + x3)).toNatClampNeg 1)) (fun b8 => if z3 = (2 : Int32) then (fX4_lays_86 k4 b8 z4 x3 (((5 : Int32) * x3) + (4 : Int32)) x3 (1 : Int32)) else (fX4_lays_86 k4 b8 z4 x3 (((5 : Int32) * x3) + (4 : Int32)) x3 (0 : Int32)))) else none)))) else (if inB (((5 : Int32) * x3) + x4) 20 = true then (elet (s4_grid vM (vp_updL (p4_grid vM) ((((5 : Int32) * x3) + x4)).toNatClampNeg 0)) (fun b11 => elet (x4 + 1) (fun z12 => k15 b11 x2 x3 z12))) else none)
def fX4_lays_15 (k4 : BX4 → Int32 → Int32 → Option BX4) : Nat → BX4 → Int32 → Int32 → Int32 → Option BX4
  | 0 => fun _ _ _ _ => none
  | n + 1 => fX4_lays_15_b k4 (fX4_lays_15 k4 n)
def fX4_lays_4_b (k4 : BX4 → Int32 → Int32 → Option BX4) (vM : BX4) (x2 : Int32) (x3 : Int32) : Option BX4 :=
  if (p4_blocks vM) ≤ x3 then (some vM) else (fX4_lays_15 k4 FU vM x2 x3 (0 : Int32))
def fX4_lays_4 : Nat → BX4 → Int32 → Int32 → Option BX4
  | 0 => fun _ _ _ => none
  | n + 1 => fX4_lays_4_b (fX4_lays_4 n)
def fX4_lays (vM : BX4) (i1 : Int32) : Option BX4 :=
  fX4_lays_4 FU vM i1 (0 : Int32)
set_option maxHeartbeats 8000000 in
set_option maxRecDepth 100000 in
theorem mX4_lays (l : Launch) (dC : Nat → ClassId) (dI : Nat → Nat → Nat) (cI cJ : ClassId) (aM : Nat → Nat) (sz : Nat) (vM : BX4) (i1 : Int32) (y : BX4) (hf : fX4_lays vM i1 = some y) : Met l yX4_lays wsX4_lays ({ frames := 2, cells := 0, slots := 0, locals := 45 }) (cPc dC dI cI cJ [.ref (aM 0), .int i1] [k4_0 aM vM, k4_1 cI aM vM, k4_2 cI aM vM, k4_3 cI aM vM, k4_4 cI aM vM, k4_5 cJ aM vM, k4_6 cI aM vM, k4_7 cJ aM vM, k4_8 cJ aM vM, k4_9 cI aM vM] sz) (va_Qv (fun (_ : Unit) => True) (fun _ t => cB dC dI (va_A [k4_0 aM vM, k4_1 cI aM vM, k4_2 cI aM vM, k4_3 cI aM vM, k4_4 cI aM vM, k4_5 cJ aM vM, k4_6 cI aM vM, k4_7 cJ aM vM, k4_8 cJ aM vM, k4_9 cI aM vM] sz) [k4_0 aM y, k4_1 cI aM y, k4_2 cI aM y, k4_3 cI aM y, k4_4 cI aM y, k4_5 cJ aM y, k4_6 cI aM y, k4_7 cJ aM y, k4_8 cJ aM y, k4_9 cI aM y] t) (va_A [k4_0 aM vM, k4_1 cI aM vM, k4_2 cI aM vM, k4_3 cI aM vM, k4_4 cI aM vM, k4_5 cJ aM vM, k4_6 cI aM vM, k4_7 cJ aM vM, k4_8 cJ aM vM, k4_9 cI aM vM] sz)) 0 0 (va_A [k4_0 aM vM, k4_1 cI aM vM, k4_2 cI aM vM, k4_3 cI aM vM, k4_4 cI aM vM, k4_5 cJ aM vM, k4_6 cI aM vM, k4_7 cJ aM vM, k4_8 cJ aM vM, k4_9 cI aM vM] sz) := by
  refine Met.ofW (cc := cX4_lays) (maxL := 5) (ret := none) (by decide) rfl ?_
  intro p e s m args below meth c s₁ B hml hv
  obtain ⟨rfl, hsz, hP, hK, hD0, hN⟩ := hv
  have hx := B.exec
  have hb := B.bytes
  have hr := B.returns
  have hts := atoms_spec (ws := wsX4_lays) B.pre
  have hown : s.vm.findClass RX4 = some m.cls := findClass_of_methodNamed B.named
  have hlocks := B.notSynchronized
  subst hsz
  have hD := hD0.self (sz := s.heap.size)
  generalize hAe : va_A [k4_0 aM vM, k4_1 cI aM vM, k4_2 cI aM vM, k4_3 cI aM vM, k4_4 cI aM vM, k4_5 cJ aM vM, k4_6 cI aM vM, k4_7 cJ aM vM, k4_8 cJ aM vM, k4_9 cI aM vM] s.heap.size = A at hD hN ⊢
  have hA : ∀ q : Nat, s.heap.size ≤ q → A q := fun q h => by rw [← hAe]; exact Or.inr h
  have hP : va_P (dC, dI) vwCl [k4_0 aM vM, k4_1 cI aM vM, k4_2 cI aM vM, k4_3 cI aM vM, k4_4 cI aM vM, k4_5 cJ aM vM, k4_6 cI aM vM, k4_7 cJ aM vM, k4_8 cJ aM vM, k4_9 cI aM vM] s.heap := hP
  have hl := lv_entry ([.ref (aM 0), .int i1]) (n := 5) (Nat.le_of_ble_eq_true rfl)
  rw [lg_entry_eq]
  generalize (lg_sl ([.ref (aM 0), .int i1]) ++ List.replicate (5 - (lg_sl ([.ref (aM 0), .int i1])).length) Slot.unset).toArray = ls at hl ⊢
  have hl : lv_has ls 5 [(0, .ref (aM 0)), (1, .int i1)] := hl
  have hiX4 : ∀ w ∈ u_ws RX4 TX4 21, w ∈ wsX4_lays := by decide +kernel
  have hgX4_90 := hts (.fieldLink RX4 90 "SpringPlatesModel" "blocks" "I") (by decide +kernel)
  have hgX4_29 := hts (.fieldLink RX4 29 "SpringPlatesModel" "grid" "[J") (by decide +kernel)
  refine nameH (fun H locs hHe hLe => ?_)
  have hP : va_P (dC, dI) vwCl [k4_0 aM vM, k4_1 cI aM vM, k4_2 cI aM vM, k4_3 cI aM vM, k4_4 cI aM vM, k4_5 cJ aM vM, k4_6 cI aM vM, k4_7 cJ aM vM, k4_8 cJ aM vM, k4_9 cI aM vM] H := by rw [hHe]; exact hP
  have hS : va_S A s.heap H locs := by rw [hHe, hLe]; exact va_S.rf
  refine withW (fun WW hWW => ?_)
  have J99 : ∀ (k4 : BX4 → Int32 → Int32 → Option BX4) (hk4 : ∀ (vM : BX4) (x2 : Int32) (x3 : Int32) (H : Heap) (locs : List Loc) (ls : Array Slot), va_P (dC, dI) vwCl [k4_0 aM vM, k4_1 cI aM vM, k4_2 cI aM vM, k4_3 cI aM vM, k4_4 cI aM vM, k4_5 cJ aM vM, k4_6 cI aM vM, k4_7 cJ aM vM, k4_8 cJ aM vM, k4_9 cI aM vM] H → va_D A [k4_0 aM vM, k4_1 cI aM vM, k4_2 cI aM vM, k4_3 cI aM vM, k4_4 cI aM vM, k4_5 cJ aM vM, k4_6 cI aM vM, k4_7 cJ aM vM, k4_8 cJ aM vM, k4_9 cI aM vM] → va_S A s.heap H locs → lv_has ls 5 [(0, .ref (aM 0)), (2, .int x2), (3, .int x3)] → k4 vM x2 x3 = some y → WW H locs 0 0 ls 4 []) (vM : BX4) (x2 : Int32) (x3 : Int32) (H : Heap) (locs : List Loc) (ls : Array Slot), va_P (dC, dI) vwCl [k4_0 aM vM, k4_1 cI aM vM, k4_2 cI aM vM, k4_3 cI aM vM, k4_4 cI aM vM, k4_5 cJ aM vM, k4_6 cI aM vM, k4_7 cJ aM vM, k4_8 cJ aM vM, k4_9 cI aM vM] H → va_D A [k4_0 aM vM, k4_1 cI aM vM, k4_2 cI aM vM, k4_3 cI aM vM, k4_4 cI aM vM, k4_5 cJ aM vM, k4_6 cI aM vM, k4_7 cJ aM vM, k4_8 cJ aM vM, k4_9 cI aM vM] → va_S A s.heap H locs → lv_has ls 5 [(0, .ref (aM 0)), (2, .int x2), (3, .int x3)] → fX4_lays_99 k4 vM x2 x3 = some y → WW H locs 0 0 ls 99 [] := by
    intro k4 hk4 vM x2 x3 H locs ls hP hD hS hl hf
    unfold fX4_lays_99 at hf
    refine (hWW _ _ _ _ _ _ _).2 ?_
    obtain ⟨z16, ez16, hf⟩ := elet_out hf
    refine lv_iinc (v := z16) (lv' := [(3, .int z16), (0, .ref (aM 0)), (2, .int x2)]) hx hb dX4_lays_99 hl (k := 2) rfl (by rw [ez16]; rfl) (by decide) rfl (fun ls hl => ?_)
    refine lv_goto (tgt := 4) hx hb dX4_lays_102 (by decide) ?_
    exact (hWW _ _ _ _ _ _ _).1 (hk4 vM x2 z16 H locs ls hP hD hS (lv_sub hl [1, 2, 0] rfl) hf)
  have J86 : ∀ (k4 : BX4 → Int32 → Int32 → Option BX4) (hk4 : ∀ (vM : BX4) (x2 : Int32) (x3 : Int32) (H : Heap) (locs : List Loc) (ls : Array Slot), va_P (dC, dI) vwCl [k4_0 aM vM, k4_1 cI aM vM, k4_2 cI aM vM, k4_3 cI aM vM, k4_4 cI aM vM, k4_5 cJ aM vM, k4_6 cI aM vM, k4_7 cJ aM vM, k4_8 cJ aM vM, k4_9 cI aM vM] H → va_D A [k4_0 aM vM, k4_1 cI aM vM, k4_2 cI aM vM, k4_3 cI aM vM, k4_4 cI aM vM, k4_5 cJ aM vM, k4_6 cI aM vM, k4_7 cJ aM vM, k4_8 cJ aM vM, k4_9 cI aM vM] → va_S A s.heap H locs → lv_has ls 5 [(0, .ref (aM 0)), (2, .int x2), (3, .int x3)] → k4 vM x2 x3 = some y → WW H locs 0 0 ls 4 []) (vM : BX4) (x2 : Int32) (x3 : Int32) (st1 : Int32) (st3 : Int32) (st4 : Int32) (H : Heap) (locs : List Loc) (ls : Array Slot), va_P (dC, dI) vwCl [k4_0 aM vM, k4_1 cI aM vM, k4_2 cI aM vM, k4_3 cI aM vM, k4_4 cI aM vM, k4_5 cJ aM vM, k4_6 cI aM vM, k4_7 cJ aM vM, k4_8 cJ aM vM, k4_9 cI aM vM] H → va_D A [k4_0 aM vM, k4_1 cI aM vM, k4_2 cI aM vM, k4_3 cI aM vM, k4_4 cI aM vM, k4_5 cJ aM vM, k4_6 cI aM vM, k4_7 cJ aM vM, k4_8 cJ aM vM, k4_9 cI aM vM] → va_S A s.heap H locs → lv_has ls 5 [(0, .ref (aM 0)), (2, .int x2), (3, .int x3)] → fX4_lays_86 k4 vM x2 x3 st1 st3 st4 = some y → WW H locs 0 0 ls 86 [.int st4, .int st3, .ref (aM 0), .int st1, .ref (aM 7)] := by
    intro k4 hk4 vM x2 x3 st1 st3 st4 H locs ls hP hD hS hl hf
    unfold fX4_lays_86 at hf
    refine (hWW _ _ _ _ _ _ _).2 ?_
    obtain ⟨y13, hy13, hf⟩ := obind hf
    refine cg_i (ws := [k4_0 aM vM, k4_1 cI aM vM, k4_2 cI aM vM, k4_3 cI aM vM, k4_4 cI aM vM, k4_5 cJ aM vM, k4_6 cI aM vM, k4_7 cJ aM vM, k4_8 cJ aM vM, k4_9 cI aM vM]) (wc := [k4_0 aM vM, k4_1 cI aM vM, k4_2 cI aM vM, k4_3 cI aM vM, k4_4 cI aM vM, k4_5 cJ aM vM, k4_6 cI aM vM, k4_7 cJ aM vM, k4_8 cJ aM vM, k4_9 cI aM vM]) (wr := []) (w1 := [k4_0 aM vM, k4_1 cI aM vM, k4_2 cI aM vM, k4_3 cI aM vM, k4_4 cI aM vM, k4_5 cJ aM vM, k4_6 cI aM vM, k4_7 cJ aM vM, k4_8 cJ aM vM, k4_9 cI aM vM]) (wo := [k4_0 aM vM, k4_1 cI aM vM, k4_2 cI aM vM, k4_3 cI aM vM, k4_4 cI aM vM, k4_5 cJ aM vM, k4_6 cI aM vM, k4_7 cJ aM vM, k4_8 cJ aM vM, k4_9 cI aM vM]) hP hD hS hA (va_runV (As := [.int st3, .int st4]) (rest := [.int st1, .ref (aM 7)]) ⟨hx, hb, hml, hown, hts⟩ (mX4_bound l dC dI cI cJ aM H.size vM st3 st4 y13 hy13) (cwV 2 hts gX4_lays_X4_bound rfl rfl rfl (by decide +kernel) ⟨Nat.le_of_ble_eq_true rfl, Nat.le_of_ble_eq_true rfl⟩) ⟨cFB, va_recv hK hP (ci := 4) (q0 := 0) rfl rfl, cPre hK hN hS (va_free (wc := [k4_0 aM vM, k4_1 cI aM vM, k4_2 cI aM vM, k4_3 cI aM vM, k4_4 cI aM vM, k4_5 cJ aM vM, k4_6 cI aM vM, k4_7 cJ aM vM, k4_8 cJ aM vM, k4_9 cI aM vM]) hD hS hA [0, 1, 2, 3, 4, 5, 6, 7, 8, 9] rfl) (hP.sub [0, 1, 2, 3, 4, 5, 6, 7, 8, 9] rfl) (hD.sub [0, 1, 2, 3, 4, 5, 6, 7, 8, 9] rfl rfl)⟩ rfl rfl hl.1 rfl (lv_room (Nat.le_of_ble_eq_true rfl)) dX4_lays_86 ⟨Nat.le_of_ble_eq_true rfl, Nat.le_of_ble_eq_true rfl⟩) [0, 1, 2, 3, 4, 5, 6, 7, 8, 9] [] [0, 1, 2, 3, 4, 5, 6, 7, 8, 9] rfl rfl rfl (by decide +kernel) rfl rfl (fun H locs hP hD hS => ?_)
    refine lv_i2l (v := (y13).toInt64) hx hb dX4_lays_89 rfl ?_
    obtain ⟨hi14, hf⟩ := oinb rfl hf
    obtain ⟨b15, eb15, hf⟩ := elet_out hf
    refine va_last hx hb hK hP hD hS 7 1 rfl rfl hi14 dX4_lays_90 (fun H locs hP hD hS => ?_)
    have hP : va_P (dC, dI) vwCl [k4_0 aM b15, k4_1 cI aM b15, k4_2 cI aM b15, k4_3 cI aM b15, k4_4 cI aM b15, k4_5 cJ aM b15, k4_6 cI aM b15, k4_7 cJ aM b15, k4_8 cJ aM b15, k4_9 cI aM b15] H := by rw [eb15]; exact hP
    have hD : va_D A [k4_0 aM b15, k4_1 cI aM b15, k4_2 cI aM b15, k4_3 cI aM b15, k4_4 cI aM b15, k4_5 cJ aM b15, k4_6 cI aM b15, k4_7 cJ aM b15, k4_8 cJ aM b15, k4_9 cI aM b15] := by rw [eb15]; exact hD
    refine lv_goto (tgt := 99) hx hb dX4_lays_91 (by decide) ?_
    exact (hWW _ _ _ _ _ _ _).1 (J99 k4 hk4 b15 x2 x3 H locs ls hP hD hS (lv_sub hl [0, 1, 2] rfl) hf)
  have L15 : ∀ (k4 : BX4 → Int32 → Int32 → Option BX4) (hk4 : ∀ (vM : BX4) (x2 : Int32) (x3 : Int32) (H : Heap) (locs : List Loc) (ls : Array Slot), va_P (dC, dI) vwCl [k4_0 aM vM, k4_1 cI aM vM, k4_2 cI aM vM, k4_3 cI aM vM, k4_4 cI aM vM, k4_5 cJ aM vM, k4_6 cI aM vM, k4_7 cJ aM vM, k4_8 cJ aM vM, k4_9 cI aM vM] H → va_D A [k4_0 aM vM, k4_1 cI aM vM, k4_2 cI aM vM, k4_3 cI aM vM, k4_4 cI aM vM, k4_5 cJ aM vM, k4_6 cI aM vM, k4_7 cJ aM vM, k4_8 cJ aM vM, k4_9 cI aM vM] → va_S A s.heap H locs → lv_has ls 5 [(0, .ref (aM 0)), (2, .int x2), (3, .int x3)] → k4 vM x2 x3 = some y → WW H locs 0 0 ls 4 []) (n : Nat) (vM : BX4) (x2 : Int32) (x3 : Int32) (x4 : Int32) (H : Heap) (locs : List Loc) (ls : Array Slot), va_P (dC, dI) vwCl [k4_0 aM vM, k4_1 cI aM vM, k4_2 cI aM vM, k4_3 cI aM vM, k4_4 cI aM vM, k4_5 cJ aM vM, k4_6 cI aM vM, k4_7 cJ aM vM, k4_8 cJ aM vM, k4_9 cI aM vM] H → va_D A [k4_0 aM vM, k4_1 cI aM vM, k4_2 cI aM vM, k4_3 cI aM vM, k4_4 cI aM vM, k4_5 cJ aM vM, k4_6 cI aM vM, k4_7 cJ aM vM, k4_8 cJ aM vM, k4_9 cI aM vM] → va_S A s.heap H locs → lv_has ls 5 [(0, .ref (aM 0)), (2, .int x2), (3, .int x3), (4, .int x4)] → fX4_lays_15 k4 n vM x2 x3 x4 = some y → WW H locs 0 0 ls 15 [] := by
    intro k4 hk4 n
    induction n with
    | zero =>
      intro vM x2 x3 x4 H locs ls hP hD hS hl hf
      exact onone hf
    | succ n ih =>
      intro vM x2 x3 x4 H locs ls hP hD hS hl hf
      have hf : fX4_lays_15_b k4 (fX4_lays_15 k4 n) vM x2 x3 x4 = some y := hf
      generalize fX4_lays_15 k4 n = k15 at hf ih
      have hk15 := ih
      clear ih
      unfold fX4_lays_15_b at hf
      refine (hWW _ _ _ _ _ _ _).2 ?_
      refine lv_iload hx hb dX4_lays_15 (lv_at hl 3 rfl) ?_
      refine lv_iconst (v := 5) hx hb dX4_lays_17 (by decide) ?_
      refine lv_icmp_ge (tgt := 39) hx hb dX4_lays_18 (by decide) (fun c2 => ?_) (fun c2 => ?_)
      · have hf := oif_t c2 hf
        refine lv_iload_n hx hb dX4_lays_39 rfl (lv_at hl 1 rfl) ?_
        refine lv_iconst (v := 3) hx hb dX4_lays_40 (by decide) ?_
        refine lv_irem hx hb dX4_lays_41 (by decide) ?_
        obtain ⟨z3, ez3, hf⟩ := elet_out hf
        refine lvn_i ez3 ?_
        refine lv_istore (lv' := [(4, .int z3), (0, .ref (aM 0)), (2, .int x2), (3, .int x3)]) hx hb dX4_lays_42 hl (by decide) rfl (fun ls hl => ?_)
        refine lv_iload_n hx hb dX4_lays_44 rfl (lv_at hl 2 rfl) ?_
        refine lv_iconst (v := 3) hx hb dX4_lays_45 (by decide) ?_
        refine lv_idiv hx hb dX4_lays_46 (by decide) ?_
        obtain ⟨z4, ez4, hf⟩ := elet_out hf
        refine lvn_i ez4 ?_
        refine lv_istore_n (lv' := [(2, .int z4), (4, .int z3), (0, .ref (aM 0)), (3, .int x3)]) hx hb dX4_lays_47 rfl hl (by decide) rfl (fun ls hl => ?_)
        refine lv_iload hx hb dX4_lays_48 (lv_at hl 1 rfl) ?_
        refine lv_if_le (tgt := 94) hx hb dX4_lays_50 (by decide) (fun c5 => ?_) (fun c5 => ?_)
        · have hf := oif_t c5 hf
          refine lv_aload_n hx hb dX4_lays_94 rfl (lv_at hl 2 rfl) ?_
          refine lv_iload_n hx hb dX4_lays_95 rfl (lv_at hl 3 rfl) ?_
          obtain ⟨y6, hy6, hf⟩ := obind hf
          refine cg_v (ws := [k4_0 aM vM, k4_1 cI aM vM, k4_2 cI aM vM, k4_3 cI aM vM, k4_4 cI aM vM, k4_5 cJ aM vM, k4_6 cI aM vM, k4_7 cJ aM vM, k4_8 cJ aM vM, k4_9 cI aM vM]) (wc := [k4_0 aM vM, k4_1 cI aM vM, k4_2 cI aM vM, k4_3 cI aM vM, k4_4 cI aM vM, k4_5 cJ aM vM, k4_6 cI aM vM, k4_7 cJ aM vM, k4_8 cJ aM vM, k4_9 cI aM vM]) (wr := []) (w1 := [k4_0 aM y6, k4_1 cI aM y6, k4_2 cI aM y6, k4_3 cI aM y6, k4_4 cI aM y6, k4_5 cJ aM y6, k4_6 cI aM y6, k4_7 cJ aM y6, k4_8 cJ aM y6, k4_9 cI aM y6]) (wo := [k4_0 aM y6, k4_1 cI aM y6, k4_2 cI aM y6, k4_3 cI aM y6, k4_4 cI aM y6, k4_5 cJ aM y6, k4_6 cI aM y6, k4_7 cJ aM y6, k4_8 cJ aM y6, k4_9 cI aM y6]) hP hD hS hA (va_runV (As := [.int x3]) (rest := []) ⟨hx, hb, hml, hown, hts⟩ (mX4_laysFree l dC dI cI cJ aM H.size vM x3 y6 hy6) (cwV 1 hts gX4_lays_X4_laysFree rfl rfl rfl (by decide +kernel) ⟨Nat.le_of_ble_eq_true rfl, Nat.le_of_ble_eq_true rfl⟩) ⟨cFB, va_recv hK hP (ci := 4) (q0 := 0) rfl rfl, cPre hK hN hS (va_free (wc := [k4_0 aM vM, k4_1 cI aM vM, k4_2 cI aM vM, k4_3 cI aM vM, k4_4 cI aM vM, k4_5 cJ aM vM, k4_6 cI aM vM, k4_7 cJ aM vM, k4_8 cJ aM vM, k4_9 cI aM vM]) hD hS hA [0, 1, 2, 3, 4, 5, 6, 7, 8, 9] rfl) (hP.sub [0, 1, 2, 3, 4, 5, 6, 7, 8, 9] rfl) (hD.sub [0, 1, 2, 3, 4, 5, 6, 7, 8, 9] rfl rfl)⟩ rfl rfl hl.1 rfl (lv_room (Nat.le_of_ble_eq_true rfl)) dX4_lays_96 ⟨Nat.le_of_ble_eq_true rfl, Nat.le_of_ble_eq_true rfl⟩) [0, 1, 2, 3, 4, 5, 6, 7, 8, 9] [] [0, 1, 2, 3, 4, 5, 6, 7, 8, 9] rfl rfl rfl (by decide +kernel) rfl rfl (fun H locs hP hD hS => ?_)
          exact (hWW _ _ _ _ _ _ _).1 (J99 k4 hk4 y6 z4 x3 H locs ls hP hD hS (lv_sub hl [2, 0, 3] rfl) hf)
        · have hf := oif_f c5 hf
          refine lv_aload_n hx hb dX4_lays_53 rfl (lv_at hl 2 rfl) ?_
          refine va_get (D := (dC, dI)) (ci := 4) (v := .ref (aM 7)) (C := RX4) (T := TX4) (N := 21) hx hb hts hiX4 hown hK hP 0 rfl rfl 10 (by decide) hgX4_29 (fun _ h9 => h9) rfl dX4_lays_54 ?_
          refine lv_iconst (v := 5) hx hb dX4_lays_57 (by decide) ?_
          refine lv_iload_n hx hb dX4_lays_58 rfl (lv_at hl 3 rfl) ?_
          refine lv_imul hx hb dX4_lays_59 ?_
          refine lv_iload_n hx hb dX4_lays_60 rfl (lv_at hl 3 rfl) ?_
          refine lv_iadd hx hb dX4_lays_61 ?_
          refine lv_lconst (v := 1) hx hb dX4_lays_62 (by decide) ?_
          obtain ⟨hi7, hf⟩ := oinb rfl hf
          obtain ⟨b8, eb8, hf⟩ := elet_out hf
          refine va_last hx hb hK hP hD hS 7 1 rfl rfl hi7 dX4_lays_63 (fun H locs hP hD hS => ?_)
          have hP : va_P (dC, dI) vwCl [k4_0 aM b8, k4_1 cI aM b8, k4_2 cI aM b8, k4_3 cI aM b8, k4_4 cI aM b8, k4_5 cJ aM b8, k4_6 cI aM b8, k4_7 cJ aM b8, k4_8 cJ aM b8, k4_9 cI aM b8] H := by rw [eb8]; exact hP
          have hD : va_D A [k4_0 aM b8, k4_1 cI aM b8, k4_2 cI aM b8, k4_3 cI aM b8, k4_4 cI aM b8, k4_5 cJ aM b8, k4_6 cI aM b8, k4_7 cJ aM b8, k4_8 cJ aM b8, k4_9 cI aM b8] := by rw [eb8]; exact hD
          refine lv_aload_n hx hb dX4_lays_64 rfl (lv_at hl 2 rfl) ?_
          refine va_get (D := (dC, dI)) (ci := 4) (v := .ref (aM 7)) (C := RX4) (T := TX4) (N := 21) hx hb hts hiX4 hown hK hP 0 rfl rfl 10 (by decide) hgX4_29 (fun _ h9 => h9) rfl dX4_lays_65 ?_
          refine lv_iconst (v := 5) hx hb dX4_lays_68 (by decide) ?_
          refine lv_iload_n hx hb dX4_lays_69 rfl (lv_at hl 3 rfl) ?_
          refine lv_imul hx hb dX4_lays_70 ?_
          refine lv_iconst (v := 4) hx hb dX4_lays_71 (by decide) ?_
          refine lv_iadd hx hb dX4_lays_72 ?_
          refine lv_aload_n hx hb dX4_lays_73 rfl (lv_at hl 2 rfl) ?_
          refine lv_iload_n hx hb dX4_lays_74 rfl (lv_at hl 3 rfl) ?_
          refine lv_iload hx hb dX4_lays_75 (lv_at hl 1 rfl) ?_
          refine lv_iconst (v := 2) hx hb dX4_lays_77 (by decide) ?_
          refine lv_icmp_ne (tgt := 85) hx hb dX4_lays_78 (by decide) (fun c9 => ?_) (fun c9 => ?_)
          · have hf := oif_f c9 hf
            refine lv_iconst (v := 0) hx hb dX4_lays_85 (by decide) ?_
            exact (hWW _ _ _ _ _ _ _).1 (J86 k4 hk4 b8 z4 x3 (((5 : Int32) * x3) + (4 : Int32)) x3 (0 : Int32) H locs ls hP hD hS (lv_sub hl [2, 0, 3] rfl) hf)
          · have hf := oif_t c9 hf
            refine lv_iconst (v := 1) hx hb dX4_lays_81 (by decide) ?_
            refine lv_goto (tgt := 86) hx hb dX4_lays_82 (by decide) ?_
            exact (hWW _ _ _ _ _ _ _).1 (J86 k4 hk4 b8 z4 x3 (((5 : Int32) * x3) + (4 : Int32)) x3 (1 : Int32) H locs ls hP hD hS (lv_sub hl [2, 0, 3] rfl) hf)
      · have hf := oif_f c2 hf
        refine lv_aload_n hx hb dX4_lays_21 rfl (lv_at hl 0 rfl) ?_
        refine va_get (D := (dC, dI)) (ci := 4) (v := .ref (aM 7)) (C := RX4) (T := TX4) (N := 21) hx hb hts hiX4 hown hK hP 0 rfl rfl 10 (by decide) hgX4_29 (fun _ h9 => h9) rfl dX4_lays_22 ?_
        refine lv_iconst (v := 5) hx hb dX4_lays_25 (by decide) ?_
        refine lv_iload_n hx hb dX4_lays_26 rfl (lv_at hl 2 rfl) ?_
        refine lv_imul hx hb dX4_lays_27 ?_
        refine lv_iload hx hb dX4_lays_28 (lv_at hl 3 rfl) ?_
        refine lv_iadd hx hb dX4_lays_30 ?_
        refine lv_lconst (v := 0) hx hb dX4_lays_31 (by decide) ?_
        obtain ⟨hi10, hf⟩ := oinb rfl hf
        obtain ⟨b11, eb11, hf⟩ := elet_out hf
        refine va_last hx hb hK hP hD hS 7 1 rfl rfl hi10 dX4_lays_32 (fun H locs hP hD hS => ?_)
        have hP : va_P (dC, dI) vwCl [k4_0 aM b11, k4_1 cI aM b11, k4_2 cI aM b11, k4_3 cI aM b11, k4_4 cI aM b11, k4_5 cJ aM b11, k4_6 cI aM b11, k4_7 cJ aM b11, k4_8 cJ aM b11, k4_9 cI aM b11] H := by rw [eb11]; exact hP
        have hD : va_D A [k4_0 aM b11, k4_1 cI aM b11, k4_2 cI aM b11, k4_3 cI aM b11, k4_4 cI aM b11, k4_5 cJ aM b11, k4_6 cI aM b11, k4_7 cJ aM b11, k4_8 cJ aM b11, k4_9 cI aM b11] := by rw [eb11]; exact hD
        obtain ⟨z12, ez12, hf⟩ := elet_out hf
        refine lv_iinc (v := z12) (lv' := [(4, .int z12), (0, .ref (aM 0)), (2, .int x2), (3, .int x3)]) hx hb dX4_lays_33 hl (k := 3) rfl (by rw [ez12]; rfl) (by decide) rfl (fun ls hl => ?_)
        refine lv_goto (tgt := 15) hx hb dX4_lays_36 (by decide) ?_
        exact (hWW _ _ _ _ _ _ _).1 (hk15 b11 x2 x3 z12 H locs ls hP hD hS (lv_sub hl [1, 2, 3, 0] rfl) hf)
  have L4 : ∀ (n : Nat) (vM : BX4) (x2 : Int32) (x3 : Int32) (H : Heap) (locs : List Loc) (ls : Array Slot), va_P (dC, dI) vwCl [k4_0 aM vM, k4_1 cI aM vM, k4_2 cI aM vM, k4_3 cI aM vM, k4_4 cI aM vM, k4_5 cJ aM vM, k4_6 cI aM vM, k4_7 cJ aM vM, k4_8 cJ aM vM, k4_9 cI aM vM] H → va_D A [k4_0 aM vM, k4_1 cI aM vM, k4_2 cI aM vM, k4_3 cI aM vM, k4_4 cI aM vM, k4_5 cJ aM vM, k4_6 cI aM vM, k4_7 cJ aM vM, k4_8 cJ aM vM, k4_9 cI aM vM] → va_S A s.heap H locs → lv_has ls 5 [(0, .ref (aM 0)), (2, .int x2), (3, .int x3)] → fX4_lays_4 n vM x2 x3 = some y → WW H locs 0 0 ls 4 [] := by
    intro n
    induction n with
    | zero =>
      intro vM x2 x3 H locs ls hP hD hS hl hf
      exact onone hf
    | succ n ih =>
      intro vM x2 x3 H locs ls hP hD hS hl hf
      have hf : fX4_lays_4_b (fX4_lays_4 n) vM x2 x3 = some y := hf
      generalize fX4_lays_4 n = k4 at hf ih
      have hk4 := ih
      clear ih
      unfold fX4_lays_4_b at hf
      refine (hWW _ _ _ _ _ _ _).2 ?_
      refine lv_iload_n hx hb dX4_lays_4 rfl (lv_at hl 2 rfl) ?_
      refine lv_aload_n hx hb dX4_lays_5 rfl (lv_at hl 0 rfl) ?_
      refine va_get (D := (dC, dI)) (ci := 4) (v := .int (p4_blocks vM)) (C := RX4) (T := TX4) (N := 21) hx hb hts hiX4 hown hK hP 0 rfl rfl 11 (by decide) hgX4_90 (fun _ h9 => h9) rfl dX4_lays_6 ?_
      refine lv_icmp_ge (tgt := 105) hx hb dX4_lays_9 (by decide) (fun c1 => ?_) (fun c1 => ?_)
      · have hf := oif_t c1 hf
        obtain rfl := Option.some.inj hf
        exact W.vret hx hb hr (fun t ht hW => ⟨⟨(), rfl, trivial, by rw [ht]; exact hP, hD⟩, hS.F ht⟩) hS.2.2 dX4_lays_105
      · have hf := oif_f c1 hf
        refine lv_iconst (v := 0) hx hb dX4_lays_12 (by decide) ?_
        refine lv_istore (lv' := [(4, .int 0), (0, .ref (aM 0)), (2, .int x2), (3, .int x3)]) hx hb dX4_lays_13 hl (by decide) rfl (fun ls hl => ?_)
        exact (hWW _ _ _ _ _ _ _).1 (L15 k4 hk4 FU vM x2 x3 (0 : Int32) H locs ls hP hD hS (lv_sub hl [1, 2, 3, 0] rfl) hf)
  refine (hWW _ _ _ _ _ _ _).2 ?_
  unfold fX4_lays at hf
  refine lv_iload_n hx hb dX4_lays_0 rfl (lv_at hl 1 rfl) ?_
  refine lv_istore_n (lv' := [(2, .int i1), (0, .ref (aM 0)), (1, .int i1)]) hx hb dX4_lays_1 rfl hl (by decide) rfl (fun ls hl => ?_)
  refine lv_iconst (v := 0) hx hb dX4_lays_2 (by decide) ?_
  refine lv_istore_n (lv' := [(3, .int 0), (2, .int i1), (0, .ref (aM 0)), (1, .int i1)]) hx hb dX4_lays_3 rfl hl (by decide) rfl (fun ls hl => ?_)
  exact (hWW _ _ _ _ _ _ _).1 (L4 FU vM i1 (0 : Int32) H locs ls hP hD hS (lv_sub hl [2, 1, 0] rfl) hf)
def fX4_solves_114 (k4 : BX4 → Int64 → Int32 → Option BX4) (k27 : BX4 → Int64 → Int32 → Int64 → Int32 → Option BX4) (vM : BX4) (l1 : Int64) (x3 : Int32) (l4 : Int64) (x6 : Int32) : Option BX4 :=
  elet (x6 + 1) (fun z17 => k27 vM l1 x3 l4 z17)
def fX4_solves_52_b (k4 : BX4 → Int64 → Int32 → Option BX4) (k27 : BX4 → Int64 → Int32 → Int64 → Int32 → Option BX4) (k52 : BX4 → Int64 → Int32 → Int64 → Int32 → Int64 → Int32 → Option BX4) (vM : BX4) (l1 : Int64) (x3 : Int32) (l4 : Int64) (x6 : Int32) (l7 : Int64) (x9 : Int32) : Option BX4 :=
  if (5 : Int32) ≤ x9 then (fX4_solves_114 k4 k27 vM l1 x3 l4 x6) else (if x6 = x3 then (fX4_solves_114 k4 k27 vM l1 x3 l4 x6) else (if inB (((5 : Int32) * x6) + x9) 20 = true then (if inB (((5 : Int32) * x3) + x9) 20 = true then (if l1 = 0 then none else (if inB (((5 : Int32) * x6) + x9) 20 = true then (elet (s4_grid vM (vp_updL (p4_grid vM) ((((5 : Int32) * x6) + x9)).toNatClampNeg (((((p4_grid vM) ((((5 : Int32) * x6) + x9)).toNatClampNeg) * l4) - (l7 * ((p4_grid vM) ((((5 : Int32) * x3) + x9)).toNatClampNeg))) / l1))) (fun b15 => elet (x9 + 1) (fun z16 => k52 b15 l1 x3 l4 x6 l7 z16))) else none)) else none) else none))
def fX4_solves_52 (k4 : BX4 → Int64 → Int32 → Option BX4) (k27 : BX4 → Int64 → Int32 → Int64 → Int32 → Option BX4) : Nat → BX4 → Int64 → Int32 → Int64 → Int32 → Int64 → Int32 → Option BX4
  | 0 => fun _ _ _ _ _ _ _ => none
  | n + 1 => fX4_solves_52_b k4 k27 (fX4_solves_52 k4 k27 n)
def fX4_solves_27_b (k4 : BX4 → Int64 → Int32 → Option BX4) (k27 : BX4 → Int64 → Int32 → Int64 → Int32 → Option BX4) (vM : BX4) (l1 : Int64) (x3 : Int32) (l4 : Int64) (x6 : Int32) : Option BX4 :=
  if (p4_blocks vM) ≤ x6 then (elet (x3 + 1) (fun z6 => k4 vM l4 z6)) else (if inB (((5 : Int32) * x6) + x3) 20 = true then (elet ((p4_grid vM) ((((5 : Int32) * x6) + x3)).toNatClampNeg) (fun z8 => fX4_solves_52 k4 k27 FU vM l1 x3 l4 x6 z8 (0 : Int32))) else none)
def fX4_solves_27 (k4 : BX4 → Int64 → Int32 → Option BX4) : Nat → BX4 → Int64 → Int32 → Int64 → Int32 → Option BX4
  | 0 => fun _ _ _ _ _ => none
  | n + 1 => fX4_solves_27_b k4 (fX4_solves_27 k4 n)
def fX4_solves_152_b (k136 : BX4 → Int32 → Option BX4) (k152 : BX4 → Int32 → Int32 → Option BX4) (vM : BX4) (x3 : Int32) (x4 : Int32) : Option BX4 :=
  if inB (x3 + (1 : Int32)) 5 = true then (if ((p4_first vM) ((x3 + (1 : Int32))).toNatClampNeg) ≤ x4 then (elet (x3 + 1) (fun z23 => k136 vM z23)) else (if inB (((5 : Int32) * x3) + (4 : Int32)) 20 = true then (if inB x4 4 = true then (elet (s4_upper vM (vp_updL (p4_upper vM) (x4).toNatClampNeg ((p4_grid vM) ((((5 : Int32) * x3) + (4 : Int32))).toNatClampNeg))) (fun b26 => elet (x4 + 1) (fun z27 => k152 b26 x3 z27))) else none) else none)) else none
def fX4_solves_152 (k136 : BX4 → Int32 → Option BX4) : Nat → BX4 → Int32 → Int32 → Option BX4
  | 0 => fun _ _ _ => none
  | n + 1 => fX4_solves_152_b k136 (fX4_solves_152 k136 n)
def fX4_solves_136_b (k136 : BX4 → Int32 → Option BX4) (vM : BX4) (x3 : Int32) : Option BX4 :=
  if (p4_blocks vM) ≤ x3 then (some vM) else (if inB x3 5 = true then (elet ((p4_first vM) (x3).toNatClampNeg) (fun z20 => fX4_solves_152 k136 FU vM x3 z20)) else none)
def fX4_solves_136 : Nat → BX4 → Int32 → Option BX4
  | 0 => fun _ _ => none
  | n + 1 => fX4_solves_136_b (fX4_solves_136 n)
def fX4_solves_4_b (k4 : BX4 → Int64 → Int32 → Option BX4) (vM : BX4) (l1 : Int64) (x3 : Int32) : Option BX4 :=
  if (p4_blocks vM) ≤ x3 then (elet (s4_lower vM l1) (fun b2 => fX4_solves_136 FU b2 (0 : Int32))) else (if inB (((5 : Int32) * x3) + x3) 20 = true then (elet ((p4_grid vM) ((((5 : Int32) * x3) + x3)).toNatClampNeg) (fun z4 => fX4_solves_27 k4 FU vM l1 x3 z4 (0 : Int32))) else none)
def fX4_solves_4 : Nat → BX4 → Int64 → Int32 → Option BX4
  | 0 => fun _ _ _ => none
  | n + 1 => fX4_solves_4_b (fX4_solves_4 n)
def fX4_solves (vM : BX4) : Option BX4 :=
  fX4_solves_4 FU vM (1 : Int64) (0 : Int32)
set_option maxHeartbeats 8000000 in
set_option maxRecDepth 100000 in
theorem mX4_solves (l : Launch) (dC : Nat → ClassId) (dI : Nat → Nat → Nat) (cI cJ : ClassId) (aM : Nat → Nat) (sz : Nat) (vM : BX4) (y : BX4) (hf : fX4_solves vM = some y) : Met l yX4_solves wsX4_solves ({ frames := 0, cells := 0, slots := 0, locals := 0 }) (cPc dC dI cI cJ [.ref (aM 0)] [k4_0 aM vM, k4_1 cI aM vM, k4_2 cI aM vM, k4_3 cI aM vM, k4_4 cI aM vM, k4_5 cJ aM vM, k4_6 cI aM vM, k4_7 cJ aM vM, k4_8 cJ aM vM, k4_9 cI aM vM] sz) (va_Qv (fun (_ : Unit) => True) (fun _ t => cB dC dI (va_A [k4_0 aM vM, k4_1 cI aM vM, k4_2 cI aM vM, k4_3 cI aM vM, k4_4 cI aM vM, k4_5 cJ aM vM, k4_6 cI aM vM, k4_7 cJ aM vM, k4_8 cJ aM vM, k4_9 cI aM vM] sz) [k4_0 aM y, k4_1 cI aM y, k4_2 cI aM y, k4_3 cI aM y, k4_4 cI aM y, k4_5 cJ aM y, k4_6 cI aM y, k4_7 cJ aM y, k4_8 cJ aM y, k4_9 cI aM y] t) (va_A [k4_0 aM vM, k4_1 cI aM vM, k4_2 cI aM vM, k4_3 cI aM vM, k4_4 cI aM vM, k4_5 cJ aM vM, k4_6 cI aM vM, k4_7 cJ aM vM, k4_8 cJ aM vM, k4_9 cI aM vM] sz)) 0 0 (va_A [k4_0 aM vM, k4_1 cI aM vM, k4_2 cI aM vM, k4_3 cI aM vM, k4_4 cI aM vM, k4_5 cJ aM vM, k4_6 cI aM vM, k4_7 cJ aM vM, k4_8 cJ aM vM, k4_9 cI aM vM] sz) := by
  refine Met.ofW (cc := cX4_solves) (maxL := 10) (ret := none) (by decide) rfl ?_
  intro p e s m args below meth c s₁ B hml hv
  obtain ⟨rfl, hsz, hP, hK, hD0, hN⟩ := hv
  have hx := B.exec
  have hb := B.bytes
  have hr := B.returns
  have hts := atoms_spec (ws := wsX4_solves) B.pre
  have hown : s.vm.findClass RX4 = some m.cls := findClass_of_methodNamed B.named
  have hlocks := B.notSynchronized
  subst hsz
  have hD := hD0.self (sz := s.heap.size)
  generalize hAe : va_A [k4_0 aM vM, k4_1 cI aM vM, k4_2 cI aM vM, k4_3 cI aM vM, k4_4 cI aM vM, k4_5 cJ aM vM, k4_6 cI aM vM, k4_7 cJ aM vM, k4_8 cJ aM vM, k4_9 cI aM vM] s.heap.size = A at hD hN ⊢
  have hA : ∀ q : Nat, s.heap.size ≤ q → A q := fun q h => by rw [← hAe]; exact Or.inr h
  have hP : va_P (dC, dI) vwCl [k4_0 aM vM, k4_1 cI aM vM, k4_2 cI aM vM, k4_3 cI aM vM, k4_4 cI aM vM, k4_5 cJ aM vM, k4_6 cI aM vM, k4_7 cJ aM vM, k4_8 cJ aM vM, k4_9 cI aM vM] s.heap := hP
  have hl := lv_entry ([.ref (aM 0)]) (n := 10) (Nat.le_of_ble_eq_true rfl)
  rw [lg_entry_eq]
  generalize (lg_sl ([.ref (aM 0)]) ++ List.replicate (10 - (lg_sl ([.ref (aM 0)])).length) Slot.unset).toArray = ls at hl ⊢
  have hl : lv_has ls 10 [(0, .ref (aM 0))] := hl
  have hiX4 : ∀ w ∈ u_ws RX4 TX4 21, w ∈ wsX4_solves := by decide +kernel
  have hgX4_90 := hts (.fieldLink RX4 90 "SpringPlatesModel" "blocks" "I") (by decide +kernel)
  have hgX4_79 := hts (.fieldLink RX4 79 "SpringPlatesModel" "lower" "J") (by decide +kernel)
  have hgX4_29 := hts (.fieldLink RX4 29 "SpringPlatesModel" "grid" "[J") (by decide +kernel)
  have hgX4_26 := hts (.fieldLink RX4 26 "SpringPlatesModel" "first" "[I") (by decide +kernel)
  have hgX4_22 := hts (.fieldLink RX4 22 "SpringPlatesModel" "upper" "[J") (by decide +kernel)
  refine nameH (fun H locs hHe hLe => ?_)
  have hP : va_P (dC, dI) vwCl [k4_0 aM vM, k4_1 cI aM vM, k4_2 cI aM vM, k4_3 cI aM vM, k4_4 cI aM vM, k4_5 cJ aM vM, k4_6 cI aM vM, k4_7 cJ aM vM, k4_8 cJ aM vM, k4_9 cI aM vM] H := by rw [hHe]; exact hP
  have hS : va_S A s.heap H locs := by rw [hHe, hLe]; exact va_S.rf
  refine withW (fun WW hWW => ?_)
  have J114 : ∀ (k4 : BX4 → Int64 → Int32 → Option BX4) (hk4 : ∀ (vM : BX4) (l1 : Int64) (x3 : Int32) (H : Heap) (locs : List Loc) (ls : Array Slot), va_P (dC, dI) vwCl [k4_0 aM vM, k4_1 cI aM vM, k4_2 cI aM vM, k4_3 cI aM vM, k4_4 cI aM vM, k4_5 cJ aM vM, k4_6 cI aM vM, k4_7 cJ aM vM, k4_8 cJ aM vM, k4_9 cI aM vM] H → va_D A [k4_0 aM vM, k4_1 cI aM vM, k4_2 cI aM vM, k4_3 cI aM vM, k4_4 cI aM vM, k4_5 cJ aM vM, k4_6 cI aM vM, k4_7 cJ aM vM, k4_8 cJ aM vM, k4_9 cI aM vM] → va_S A s.heap H locs → lv_has ls 10 [(0, .ref (aM 0)), (1, .long l1), (3, .int x3)] → k4 vM l1 x3 = some y → WW H locs 0 0 ls 4 []) (k27 : BX4 → Int64 → Int32 → Int64 → Int32 → Option BX4) (hk27 : ∀ (vM : BX4) (l1 : Int64) (x3 : Int32) (l4 : Int64) (x6 : Int32) (H : Heap) (locs : List Loc) (ls : Array Slot), va_P (dC, dI) vwCl [k4_0 aM vM, k4_1 cI aM vM, k4_2 cI aM vM, k4_3 cI aM vM, k4_4 cI aM vM, k4_5 cJ aM vM, k4_6 cI aM vM, k4_7 cJ aM vM, k4_8 cJ aM vM, k4_9 cI aM vM] H → va_D A [k4_0 aM vM, k4_1 cI aM vM, k4_2 cI aM vM, k4_3 cI aM vM, k4_4 cI aM vM, k4_5 cJ aM vM, k4_6 cI aM vM, k4_7 cJ aM vM, k4_8 cJ aM vM, k4_9 cI aM vM] → va_S A s.heap H locs → lv_has ls 10 [(0, .ref (aM 0)), (1, .long l1), (3, .int x3), (4, .long l4), (6, .int x6)] → k27 vM l1 x3 l4 x6 = some y → WW H locs 0 0 ls 27 []) (vM : BX4) (l1 : Int64) (x3 : Int32) (l4 : Int64) (x6 : Int32) (H : Heap) (locs : List Loc) (ls : Array Slot), va_P (dC, dI) vwCl [k4_0 aM vM, k4_1 cI aM vM, k4_2 cI aM vM, k4_3 cI aM vM, k4_4 cI aM vM, k4_5 cJ aM vM, k4_6 cI aM vM, k4_7 cJ aM vM, k4_8 cJ aM vM, k4_9 cI aM vM] H → va_D A [k4_0 aM vM, k4_1 cI aM vM, k4_2 cI aM vM, k4_3 cI aM vM, k4_4 cI aM vM, k4_5 cJ aM vM, k4_6 cI aM vM, k4_7 cJ aM vM, k4_8 cJ aM vM, k4_9 cI aM vM] → va_S A s.heap H locs → lv_has ls 10 [(0, .ref (aM 0)), (1, .long l1), (3, .int x3), (4, .long l4), (6, .int x6)] → fX4_solves_114 k4 k27 vM l1 x3 l4 x6 = some y → WW H locs 0 0 ls 114 [] := by
    intro k4 hk4 k27 hk27 vM l1 x3 l4 x6 H locs ls hP hD hS hl hf
    unfold fX4_solves_114 at hf
    refine (hWW _ _ _ _ _ _ _).2 ?_
    obtain ⟨z17, ez17, hf⟩ := elet_out hf
    refine lv_iinc (v := z17) (lv' := [(6, .int z17), (0, .ref (aM 0)), (1, .long l1), (3, .int x3), (4, .long l4)]) hx hb dX4_solves_114 hl (k := 4) rfl (by rw [ez17]; rfl) (by decide) rfl (fun ls hl => ?_)
    refine lv_goto (tgt := 27) hx hb dX4_solves_117 (by decide) ?_
    exact (hWW _ _ _ _ _ _ _).1 (hk27 vM l1 x3 l4 z17 H locs ls hP hD hS (lv_sub hl [1, 2, 3, 4, 0] rfl) hf)
  have L52 : ∀ (k4 : BX4 → Int64 → Int32 → Option BX4) (hk4 : ∀ (vM : BX4) (l1 : Int64) (x3 : Int32) (H : Heap) (locs : List Loc) (ls : Array Slot), va_P (dC, dI) vwCl [k4_0 aM vM, k4_1 cI aM vM, k4_2 cI aM vM, k4_3 cI aM vM, k4_4 cI aM vM, k4_5 cJ aM vM, k4_6 cI aM vM, k4_7 cJ aM vM, k4_8 cJ aM vM, k4_9 cI aM vM] H → va_D A [k4_0 aM vM, k4_1 cI aM vM, k4_2 cI aM vM, k4_3 cI aM vM, k4_4 cI aM vM, k4_5 cJ aM vM, k4_6 cI aM vM, k4_7 cJ aM vM, k4_8 cJ aM vM, k4_9 cI aM vM] → va_S A s.heap H locs → lv_has ls 10 [(0, .ref (aM 0)), (1, .long l1), (3, .int x3)] → k4 vM l1 x3 = some y → WW H locs 0 0 ls 4 []) (k27 : BX4 → Int64 → Int32 → Int64 → Int32 → Option BX4) (hk27 : ∀ (vM : BX4) (l1 : Int64) (x3 : Int32) (l4 : Int64) (x6 : Int32) (H : Heap) (locs : List Loc) (ls : Array Slot), va_P (dC, dI) vwCl [k4_0 aM vM, k4_1 cI aM vM, k4_2 cI aM vM, k4_3 cI aM vM, k4_4 cI aM vM, k4_5 cJ aM vM, k4_6 cI aM vM, k4_7 cJ aM vM, k4_8 cJ aM vM, k4_9 cI aM vM] H → va_D A [k4_0 aM vM, k4_1 cI aM vM, k4_2 cI aM vM, k4_3 cI aM vM, k4_4 cI aM vM, k4_5 cJ aM vM, k4_6 cI aM vM, k4_7 cJ aM vM, k4_8 cJ aM vM, k4_9 cI aM vM] → va_S A s.heap H locs → lv_has ls 10 [(0, .ref (aM 0)), (1, .long l1), (3, .int x3), (4, .long l4), (6, .int x6)] → k27 vM l1 x3 l4 x6 = some y → WW H locs 0 0 ls 27 []) (n : Nat) (vM : BX4) (l1 : Int64) (x3 : Int32) (l4 : Int64) (x6 : Int32) (l7 : Int64) (x9 : Int32) (H : Heap) (locs : List Loc) (ls : Array Slot), va_P (dC, dI) vwCl [k4_0 aM vM, k4_1 cI aM vM, k4_2 cI aM vM, k4_3 cI aM vM, k4_4 cI aM vM, k4_5 cJ aM vM, k4_6 cI aM vM, k4_7 cJ aM vM, k4_8 cJ aM vM, k4_9 cI aM vM] H → va_D A [k4_0 aM vM, k4_1 cI aM vM, k4_2 cI aM vM, k4_3 cI aM vM, k4_4 cI aM vM, k4_5 cJ aM vM, k4_6 cI aM vM, k4_7 cJ aM vM, k4_8 cJ aM vM, k4_9 cI aM vM] → va_S A s.heap H locs → lv_has ls 10 [(0, .ref (aM 0)), (1, .long l1), (3, .int x3), (4, .long l4), (6, .int x6), (7, .long l7), (9, .int x9)] → fX4_solves_52 k4 k27 n vM l1 x3 l4 x6 l7 x9 = some y → WW H locs 0 0 ls 52 [] := by
    intro k4 hk4 k27 hk27 n
    induction n with
    | zero =>
      intro vM l1 x3 l4 x6 l7 x9 H locs ls hP hD hS hl hf
      exact onone hf
    | succ n ih =>
      intro vM l1 x3 l4 x6 l7 x9 H locs ls hP hD hS hl hf
      have hf : fX4_solves_52_b k4 k27 (fX4_solves_52 k4 k27 n) vM l1 x3 l4 x6 l7 x9 = some y := hf
      generalize fX4_solves_52 k4 k27 n = k52 at hf ih
      have hk52 := ih
      clear ih
      unfold fX4_solves_52_b at hf
      refine (hWW _ _ _ _ _ _ _).2 ?_
      refine lv_iload hx hb dX4_solves_52 (lv_at hl 6 rfl) ?_
      refine lv_iconst (v := 5) hx hb dX4_solves_54 (by decide) ?_
      refine lv_icmp_ge (tgt := 114) hx hb dX4_solves_55 (by decide) (fun c9 => ?_) (fun c9 => ?_)
      · have hf := oif_t c9 hf
        exact (hWW _ _ _ _ _ _ _).1 (J114 k4 hk4 k27 hk27 vM l1 x3 l4 x6 H locs ls hP hD hS (lv_sub hl [0, 1, 2, 3, 4] rfl) hf)
      · have hf := oif_f c9 hf
        refine lv_iload hx hb dX4_solves_58 (lv_at hl 4 rfl) ?_
        refine lv_iload_n hx hb dX4_solves_60 rfl (lv_at hl 2 rfl) ?_
        refine lv_icmp_eq (tgt := 114) hx hb dX4_solves_61 (by decide) (fun c10 => ?_) (fun c10 => ?_)
        · have hf := oif_t c10 hf
          exact (hWW _ _ _ _ _ _ _).1 (J114 k4 hk4 k27 hk27 vM l1 x3 l4 x6 H locs ls hP hD hS (lv_sub hl [0, 1, 2, 3, 4] rfl) hf)
        · have hf := oif_f c10 hf
          refine lv_aload_n hx hb dX4_solves_64 rfl (lv_at hl 0 rfl) ?_
          refine va_get (D := (dC, dI)) (ci := 4) (v := .ref (aM 7)) (C := RX4) (T := TX4) (N := 21) hx hb hts hiX4 hown hK hP 0 rfl rfl 10 (by decide) hgX4_29 (fun _ h9 => h9) rfl dX4_solves_65 ?_
          refine lv_iconst (v := 5) hx hb dX4_solves_68 (by decide) ?_
          refine lv_iload hx hb dX4_solves_69 (lv_at hl 4 rfl) ?_
          refine lv_imul hx hb dX4_solves_71 ?_
          refine lv_iload hx hb dX4_solves_72 (lv_at hl 6 rfl) ?_
          refine lv_iadd hx hb dX4_solves_74 ?_
          refine lv_aload_n hx hb dX4_solves_75 rfl (lv_at hl 0 rfl) ?_
          refine va_get (D := (dC, dI)) (ci := 4) (v := .ref (aM 7)) (C := RX4) (T := TX4) (N := 21) hx hb hts hiX4 hown hK hP 0 rfl rfl 10 (by decide) hgX4_29 (fun _ h9 => h9) rfl dX4_solves_76 ?_
          refine lv_iconst (v := 5) hx hb dX4_solves_79 (by decide) ?_
          refine lv_iload hx hb dX4_solves_80 (lv_at hl 4 rfl) ?_
          refine lv_imul hx hb dX4_solves_82 ?_
          refine lv_iload hx hb dX4_solves_83 (lv_at hl 6 rfl) ?_
          refine lv_iadd hx hb dX4_solves_85 ?_
          obtain ⟨hi11, hf⟩ := oinb rfl hf
          refine va_lald hx hb hK hP 7 1 rfl rfl hi11 dX4_solves_86 ?_
          refine lv_lload hx hb dX4_solves_87 (lv_at hl 3 rfl) ?_
          refine lv_lmul hx hb dX4_solves_89 ?_
          refine lv_lload hx hb dX4_solves_90 (lv_at hl 5 rfl) ?_
          refine lv_aload_n hx hb dX4_solves_92 rfl (lv_at hl 0 rfl) ?_
          refine va_get (D := (dC, dI)) (ci := 4) (v := .ref (aM 7)) (C := RX4) (T := TX4) (N := 21) hx hb hts hiX4 hown hK hP 0 rfl rfl 10 (by decide) hgX4_29 (fun _ h9 => h9) rfl dX4_solves_93 ?_
          refine lv_iconst (v := 5) hx hb dX4_solves_96 (by decide) ?_
          refine lv_iload_n hx hb dX4_solves_97 rfl (lv_at hl 2 rfl) ?_
          refine lv_imul hx hb dX4_solves_98 ?_
          refine lv_iload hx hb dX4_solves_99 (lv_at hl 6 rfl) ?_
          refine lv_iadd hx hb dX4_solves_101 ?_
          obtain ⟨hi12, hf⟩ := oinb rfl hf
          refine va_lald hx hb hK hP 7 1 rfl rfl hi12 dX4_solves_102 ?_
          refine lv_lmul hx hb dX4_solves_103 ?_
          refine lv_lsub hx hb dX4_solves_104 ?_
          refine lv_lload_n hx hb dX4_solves_105 rfl (lv_at hl 1 rfl) ?_
          obtain ⟨hd13, hf⟩ := odiv hf
          refine lv_ldiv hx hb dX4_solves_106 hd13 ?_
          obtain ⟨hi14, hf⟩ := oinb rfl hf
          obtain ⟨b15, eb15, hf⟩ := elet_out hf
          refine va_last hx hb hK hP hD hS 7 1 rfl rfl hi14 dX4_solves_107 (fun H locs hP hD hS => ?_)
          have hP : va_P (dC, dI) vwCl [k4_0 aM b15, k4_1 cI aM b15, k4_2 cI aM b15, k4_3 cI aM b15, k4_4 cI aM b15, k4_5 cJ aM b15, k4_6 cI aM b15, k4_7 cJ aM b15, k4_8 cJ aM b15, k4_9 cI aM b15] H := by rw [eb15]; exact hP
          have hD : va_D A [k4_0 aM b15, k4_1 cI aM b15, k4_2 cI aM b15, k4_3 cI aM b15, k4_4 cI aM b15, k4_5 cJ aM b15, k4_6 cI aM b15, k4_7 cJ aM b15, k4_8 cJ aM b15, k4_9 cI aM b15] := by rw [eb15]; exact hD
          obtain ⟨z16, ez16, hf⟩ := elet_out hf
          refine lv_iinc (v := z16) (lv' := [(9, .int z16), (0, .ref (aM 0)), (1, .long l1), (3, .int x3), (4, .long l4), (6, .int x6), (7, .long l7)]) hx hb dX4_solves_108 hl (k := 6) rfl (by rw [ez16]; rfl) (by decide) rfl (fun ls hl => ?_)
          refine lv_goto (tgt := 52) hx hb dX4_solves_111 (by decide) ?_
          exact (hWW _ _ _ _ _ _ _).1 (hk52 b15 l1 x3 l4 x6 l7 z16 H locs ls hP hD hS (lv_sub hl [1, 2, 3, 4, 5, 6, 0] rfl) hf)
  have L27 : ∀ (k4 : BX4 → Int64 → Int32 → Option BX4) (hk4 : ∀ (vM : BX4) (l1 : Int64) (x3 : Int32) (H : Heap) (locs : List Loc) (ls : Array Slot), va_P (dC, dI) vwCl [k4_0 aM vM, k4_1 cI aM vM, k4_2 cI aM vM, k4_3 cI aM vM, k4_4 cI aM vM, k4_5 cJ aM vM, k4_6 cI aM vM, k4_7 cJ aM vM, k4_8 cJ aM vM, k4_9 cI aM vM] H → va_D A [k4_0 aM vM, k4_1 cI aM vM, k4_2 cI aM vM, k4_3 cI aM vM, k4_4 cI aM vM, k4_5 cJ aM vM, k4_6 cI aM vM, k4_7 cJ aM vM, k4_8 cJ aM vM, k4_9 cI aM vM] → va_S A s.heap H locs → lv_has ls 10 [(0, .ref (aM 0)), (1, .long l1), (3, .int x3)] → k4 vM l1 x3 = some y → WW H locs 0 0 ls 4 []) (n : Nat) (vM : BX4) (l1 : Int64) (x3 : Int32) (l4 : Int64) (x6 : Int32) (H : Heap) (locs : List Loc) (ls : Array Slot), va_P (dC, dI) vwCl [k4_0 aM vM, k4_1 cI aM vM, k4_2 cI aM vM, k4_3 cI aM vM, k4_4 cI aM vM, k4_5 cJ aM vM, k4_6 cI aM vM, k4_7 cJ aM vM, k4_8 cJ aM vM, k4_9 cI aM vM] H → va_D A [k4_0 aM vM, k4_1 cI aM vM, k4_2 cI aM vM, k4_3 cI aM vM, k4_4 cI aM vM, k4_5 cJ aM vM, k4_6 cI aM vM, k4_7 cJ aM vM, k4_8 cJ aM vM, k4_9 cI aM vM] → va_S A s.heap H locs → lv_has ls 10 [(0, .ref (aM 0)), (1, .long l1), (3, .int x3), (4, .long l4), (6, .int x6)] → fX4_solves_27 k4 n vM l1 x3 l4 x6 = some y → WW H locs 0 0 ls 27 [] := by
    intro k4 hk4 n
    induction n with
    | zero =>
      intro vM l1 x3 l4 x6 H locs ls hP hD hS hl hf
      exact onone hf
    | succ n ih =>
      intro vM l1 x3 l4 x6 H locs ls hP hD hS hl hf
      have hf : fX4_solves_27_b k4 (fX4_solves_27 k4 n) vM l1 x3 l4 x6 = some y := hf
      generalize fX4_solves_27 k4 n = k27 at hf ih
      have hk27 := ih
      clear ih
      unfold fX4_solves_27_b at hf
      refine (hWW _ _ _ _ _ _ _).2 ?_
      refine lv_iload hx hb dX4_solves_27 (lv_at hl 4 rfl) ?_
      refine lv_aload_n hx hb dX4_solves_29 rfl (lv_at hl 0 rfl) ?_
      refine va_get (D := (dC, dI)) (ci := 4) (v := .int (p4_blocks vM)) (C := RX4) (T := TX4) (N := 21) hx hb hts hiX4 hown hK hP 0 rfl rfl 11 (by decide) hgX4_90 (fun _ h9 => h9) rfl dX4_solves_30 ?_
      refine lv_icmp_ge (tgt := 120) hx hb dX4_solves_33 (by decide) (fun c5 => ?_) (fun c5 => ?_)
      · have hf := oif_t c5 hf
        refine lv_lload hx hb dX4_solves_120 (lv_at hl 3 rfl) ?_
        refine lv_lstore_n (lv' := [(1, .long l4), (0, .ref (aM 0)), (3, .int x3), (4, .long l4), (6, .int x6)]) hx hb dX4_solves_122 rfl hl (by decide) rfl (fun ls hl => ?_)
        obtain ⟨z6, ez6, hf⟩ := elet_out hf
        refine lv_iinc (v := z6) (lv' := [(3, .int z6), (1, .long l4), (0, .ref (aM 0)), (4, .long l4), (6, .int x6)]) hx hb dX4_solves_123 hl (k := 2) rfl (by rw [ez6]; rfl) (by decide) rfl (fun ls hl => ?_)
        refine lv_goto (tgt := 4) hx hb dX4_solves_126 (by decide) ?_
        exact (hWW _ _ _ _ _ _ _).1 (hk4 vM l4 z6 H locs ls hP hD hS (lv_sub hl [2, 1, 0] rfl) hf)
      · have hf := oif_f c5 hf
        refine lv_aload_n hx hb dX4_solves_36 rfl (lv_at hl 0 rfl) ?_
        refine va_get (D := (dC, dI)) (ci := 4) (v := .ref (aM 7)) (C := RX4) (T := TX4) (N := 21) hx hb hts hiX4 hown hK hP 0 rfl rfl 10 (by decide) hgX4_29 (fun _ h9 => h9) rfl dX4_solves_37 ?_
        refine lv_iconst (v := 5) hx hb dX4_solves_40 (by decide) ?_
        refine lv_iload hx hb dX4_solves_41 (lv_at hl 4 rfl) ?_
        refine lv_imul hx hb dX4_solves_43 ?_
        refine lv_iload_n hx hb dX4_solves_44 rfl (lv_at hl 2 rfl) ?_
        refine lv_iadd hx hb dX4_solves_45 ?_
        obtain ⟨hi7, hf⟩ := oinb rfl hf
        refine va_lald hx hb hK hP 7 1 rfl rfl hi7 dX4_solves_46 ?_
        obtain ⟨z8, ez8, hf⟩ := elet_out hf
        refine lvn_l ez8 ?_
        refine lv_lstore (lv' := [(7, .long z8), (0, .ref (aM 0)), (1, .long l1), (3, .int x3), (4, .long l4), (6, .int x6)]) hx hb dX4_solves_47 hl (by decide) rfl (fun ls hl => ?_)
        refine lv_iconst (v := 0) hx hb dX4_solves_49 (by decide) ?_
        refine lv_istore (lv' := [(9, .int 0), (7, .long z8), (0, .ref (aM 0)), (1, .long l1), (3, .int x3), (4, .long l4), (6, .int x6)]) hx hb dX4_solves_50 hl (by decide) rfl (fun ls hl => ?_)
        exact (hWW _ _ _ _ _ _ _).1 (L52 k4 hk4 k27 hk27 FU vM l1 x3 l4 x6 z8 (0 : Int32) H locs ls hP hD hS (lv_sub hl [2, 3, 4, 5, 6, 1, 0] rfl) hf)
  have L152 : ∀ (k136 : BX4 → Int32 → Option BX4) (hk136 : ∀ (vM : BX4) (x3 : Int32) (H : Heap) (locs : List Loc) (ls : Array Slot), va_P (dC, dI) vwCl [k4_0 aM vM, k4_1 cI aM vM, k4_2 cI aM vM, k4_3 cI aM vM, k4_4 cI aM vM, k4_5 cJ aM vM, k4_6 cI aM vM, k4_7 cJ aM vM, k4_8 cJ aM vM, k4_9 cI aM vM] H → va_D A [k4_0 aM vM, k4_1 cI aM vM, k4_2 cI aM vM, k4_3 cI aM vM, k4_4 cI aM vM, k4_5 cJ aM vM, k4_6 cI aM vM, k4_7 cJ aM vM, k4_8 cJ aM vM, k4_9 cI aM vM] → va_S A s.heap H locs → lv_has ls 10 [(0, .ref (aM 0)), (3, .int x3)] → k136 vM x3 = some y → WW H locs 0 0 ls 136 []) (n : Nat) (vM : BX4) (x3 : Int32) (x4 : Int32) (H : Heap) (locs : List Loc) (ls : Array Slot), va_P (dC, dI) vwCl [k4_0 aM vM, k4_1 cI aM vM, k4_2 cI aM vM, k4_3 cI aM vM, k4_4 cI aM vM, k4_5 cJ aM vM, k4_6 cI aM vM, k4_7 cJ aM vM, k4_8 cJ aM vM, k4_9 cI aM vM] H → va_D A [k4_0 aM vM, k4_1 cI aM vM, k4_2 cI aM vM, k4_3 cI aM vM, k4_4 cI aM vM, k4_5 cJ aM vM, k4_6 cI aM vM, k4_7 cJ aM vM, k4_8 cJ aM vM, k4_9 cI aM vM] → va_S A s.heap H locs → lv_has ls 10 [(0, .ref (aM 0)), (3, .int x3), (4, .int x4)] → fX4_solves_152 k136 n vM x3 x4 = some y → WW H locs 0 0 ls 152 [] := by
    intro k136 hk136 n
    induction n with
    | zero =>
      intro vM x3 x4 H locs ls hP hD hS hl hf
      exact onone hf
    | succ n ih =>
      intro vM x3 x4 H locs ls hP hD hS hl hf
      have hf : fX4_solves_152_b k136 (fX4_solves_152 k136 n) vM x3 x4 = some y := hf
      generalize fX4_solves_152 k136 n = k152 at hf ih
      have hk152 := ih
      clear ih
      unfold fX4_solves_152_b at hf
      refine (hWW _ _ _ _ _ _ _).2 ?_
      refine lv_iload hx hb dX4_solves_152 (lv_at hl 2 rfl) ?_
      refine lv_aload_n hx hb dX4_solves_154 rfl (lv_at hl 0 rfl) ?_
      refine va_get (D := (dC, dI)) (ci := 4) (v := .ref (aM 6)) (C := RX4) (T := TX4) (N := 21) hx hb hts hiX4 hown hK hP 0 rfl rfl 9 (by decide) hgX4_26 (fun _ h9 => h9) rfl dX4_solves_155 ?_
      refine lv_iload_n hx hb dX4_solves_158 rfl (lv_at hl 1 rfl) ?_
      refine lv_iconst (v := 1) hx hb dX4_solves_159 (by decide) ?_
      refine lv_iadd hx hb dX4_solves_160 ?_
      obtain ⟨hi21, hf⟩ := oinb rfl hf
      refine va_iald hx hb hK hP 6 0 rfl rfl hi21 dX4_solves_161 ?_
      refine lv_icmp_ge (tgt := 188) hx hb dX4_solves_162 (by decide) (fun c22 => ?_) (fun c22 => ?_)
      · have hf := oif_t c22 hf
        obtain ⟨z23, ez23, hf⟩ := elet_out hf
        refine lv_iinc (v := z23) (lv' := [(3, .int z23), (0, .ref (aM 0)), (4, .int x4)]) hx hb dX4_solves_188 hl (k := 1) rfl (by rw [ez23]; rfl) (by decide) rfl (fun ls hl => ?_)
        refine lv_goto (tgt := 136) hx hb dX4_solves_191 (by decide) ?_
        exact (hWW _ _ _ _ _ _ _).1 (hk136 vM z23 H locs ls hP hD hS (lv_sub hl [1, 0] rfl) hf)
      · have hf := oif_f c22 hf
        refine lv_aload_n hx hb dX4_solves_165 rfl (lv_at hl 0 rfl) ?_
        refine va_get (D := (dC, dI)) (ci := 4) (v := .ref (aM 5)) (C := RX4) (T := TX4) (N := 21) hx hb hts hiX4 hown hK hP 0 rfl rfl 7 (by decide) hgX4_22 (fun _ h9 => h9) rfl dX4_solves_166 ?_
        refine lv_iload hx hb dX4_solves_169 (lv_at hl 2 rfl) ?_
        refine lv_aload_n hx hb dX4_solves_171 rfl (lv_at hl 0 rfl) ?_
        refine va_get (D := (dC, dI)) (ci := 4) (v := .ref (aM 7)) (C := RX4) (T := TX4) (N := 21) hx hb hts hiX4 hown hK hP 0 rfl rfl 10 (by decide) hgX4_29 (fun _ h9 => h9) rfl dX4_solves_172 ?_
        refine lv_iconst (v := 5) hx hb dX4_solves_175 (by decide) ?_
        refine lv_iload_n hx hb dX4_solves_176 rfl (lv_at hl 1 rfl) ?_
        refine lv_imul hx hb dX4_solves_177 ?_
        refine lv_iconst (v := 4) hx hb dX4_solves_178 (by decide) ?_
        refine lv_iadd hx hb dX4_solves_179 ?_
        obtain ⟨hi24, hf⟩ := oinb rfl hf
        refine va_lald hx hb hK hP 7 1 rfl rfl hi24 dX4_solves_180 ?_
        obtain ⟨hi25, hf⟩ := oinb rfl hf
        obtain ⟨b26, eb26, hf⟩ := elet_out hf
        refine va_last hx hb hK hP hD hS 5 1 rfl rfl hi25 dX4_solves_181 (fun H locs hP hD hS => ?_)
        have hP : va_P (dC, dI) vwCl [k4_0 aM b26, k4_1 cI aM b26, k4_2 cI aM b26, k4_3 cI aM b26, k4_4 cI aM b26, k4_5 cJ aM b26, k4_6 cI aM b26, k4_7 cJ aM b26, k4_8 cJ aM b26, k4_9 cI aM b26] H := by rw [eb26]; exact hP
        have hD : va_D A [k4_0 aM b26, k4_1 cI aM b26, k4_2 cI aM b26, k4_3 cI aM b26, k4_4 cI aM b26, k4_5 cJ aM b26, k4_6 cI aM b26, k4_7 cJ aM b26, k4_8 cJ aM b26, k4_9 cI aM b26] := by rw [eb26]; exact hD
        obtain ⟨z27, ez27, hf⟩ := elet_out hf
        refine lv_iinc (v := z27) (lv' := [(4, .int z27), (0, .ref (aM 0)), (3, .int x3)]) hx hb dX4_solves_182 hl (k := 2) rfl (by rw [ez27]; rfl) (by decide) rfl (fun ls hl => ?_)
        refine lv_goto (tgt := 152) hx hb dX4_solves_185 (by decide) ?_
        exact (hWW _ _ _ _ _ _ _).1 (hk152 b26 x3 z27 H locs ls hP hD hS (lv_sub hl [1, 2, 0] rfl) hf)
  have L136 : ∀ (n : Nat) (vM : BX4) (x3 : Int32) (H : Heap) (locs : List Loc) (ls : Array Slot), va_P (dC, dI) vwCl [k4_0 aM vM, k4_1 cI aM vM, k4_2 cI aM vM, k4_3 cI aM vM, k4_4 cI aM vM, k4_5 cJ aM vM, k4_6 cI aM vM, k4_7 cJ aM vM, k4_8 cJ aM vM, k4_9 cI aM vM] H → va_D A [k4_0 aM vM, k4_1 cI aM vM, k4_2 cI aM vM, k4_3 cI aM vM, k4_4 cI aM vM, k4_5 cJ aM vM, k4_6 cI aM vM, k4_7 cJ aM vM, k4_8 cJ aM vM, k4_9 cI aM vM] → va_S A s.heap H locs → lv_has ls 10 [(0, .ref (aM 0)), (3, .int x3)] → fX4_solves_136 n vM x3 = some y → WW H locs 0 0 ls 136 [] := by
    intro n
    induction n with
    | zero =>
      intro vM x3 H locs ls hP hD hS hl hf
      exact onone hf
    | succ n ih =>
      intro vM x3 H locs ls hP hD hS hl hf
      have hf : fX4_solves_136_b (fX4_solves_136 n) vM x3 = some y := hf
      generalize fX4_solves_136 n = k136 at hf ih
      have hk136 := ih
      clear ih
      unfold fX4_solves_136_b at hf
      refine (hWW _ _ _ _ _ _ _).2 ?_
      refine lv_iload_n hx hb dX4_solves_136 rfl (lv_at hl 1 rfl) ?_
      refine lv_aload_n hx hb dX4_solves_137 rfl (lv_at hl 0 rfl) ?_
      refine va_get (D := (dC, dI)) (ci := 4) (v := .int (p4_blocks vM)) (C := RX4) (T := TX4) (N := 21) hx hb hts hiX4 hown hK hP 0 rfl rfl 11 (by decide) hgX4_90 (fun _ h9 => h9) rfl dX4_solves_138 ?_
      refine lv_icmp_ge (tgt := 194) hx hb dX4_solves_141 (by decide) (fun c18 => ?_) (fun c18 => ?_)
      · have hf := oif_t c18 hf
        obtain rfl := Option.some.inj hf
        exact W.vret hx hb hr (fun t ht hW => ⟨⟨(), rfl, trivial, by rw [ht]; exact hP, hD⟩, hS.F ht⟩) hS.2.2 dX4_solves_194
      · have hf := oif_f c18 hf
        refine lv_aload_n hx hb dX4_solves_144 rfl (lv_at hl 0 rfl) ?_
        refine va_get (D := (dC, dI)) (ci := 4) (v := .ref (aM 6)) (C := RX4) (T := TX4) (N := 21) hx hb hts hiX4 hown hK hP 0 rfl rfl 9 (by decide) hgX4_26 (fun _ h9 => h9) rfl dX4_solves_145 ?_
        refine lv_iload_n hx hb dX4_solves_148 rfl (lv_at hl 1 rfl) ?_
        obtain ⟨hi19, hf⟩ := oinb rfl hf
        refine va_iald hx hb hK hP 6 0 rfl rfl hi19 dX4_solves_149 ?_
        obtain ⟨z20, ez20, hf⟩ := elet_out hf
        refine lvn_i ez20 ?_
        refine lv_istore (lv' := [(4, .int z20), (0, .ref (aM 0)), (3, .int x3)]) hx hb dX4_solves_150 hl (by decide) rfl (fun ls hl => ?_)
        exact (hWW _ _ _ _ _ _ _).1 (L152 k136 hk136 FU vM x3 z20 H locs ls hP hD hS (lv_sub hl [1, 2, 0] rfl) hf)
  have L4 : ∀ (n : Nat) (vM : BX4) (l1 : Int64) (x3 : Int32) (H : Heap) (locs : List Loc) (ls : Array Slot), va_P (dC, dI) vwCl [k4_0 aM vM, k4_1 cI aM vM, k4_2 cI aM vM, k4_3 cI aM vM, k4_4 cI aM vM, k4_5 cJ aM vM, k4_6 cI aM vM, k4_7 cJ aM vM, k4_8 cJ aM vM, k4_9 cI aM vM] H → va_D A [k4_0 aM vM, k4_1 cI aM vM, k4_2 cI aM vM, k4_3 cI aM vM, k4_4 cI aM vM, k4_5 cJ aM vM, k4_6 cI aM vM, k4_7 cJ aM vM, k4_8 cJ aM vM, k4_9 cI aM vM] → va_S A s.heap H locs → lv_has ls 10 [(0, .ref (aM 0)), (1, .long l1), (3, .int x3)] → fX4_solves_4 n vM l1 x3 = some y → WW H locs 0 0 ls 4 [] := by
    intro n
    induction n with
    | zero =>
      intro vM l1 x3 H locs ls hP hD hS hl hf
      exact onone hf
    | succ n ih =>
      intro vM l1 x3 H locs ls hP hD hS hl hf
      have hf : fX4_solves_4_b (fX4_solves_4 n) vM l1 x3 = some y := hf
      generalize fX4_solves_4 n = k4 at hf ih
      have hk4 := ih
      clear ih
      unfold fX4_solves_4_b at hf
      refine (hWW _ _ _ _ _ _ _).2 ?_
      refine lv_iload_n hx hb dX4_solves_4 rfl (lv_at hl 2 rfl) ?_
      refine lv_aload_n hx hb dX4_solves_5 rfl (lv_at hl 0 rfl) ?_
      refine va_get (D := (dC, dI)) (ci := 4) (v := .int (p4_blocks vM)) (C := RX4) (T := TX4) (N := 21) hx hb hts hiX4 hown hK hP 0 rfl rfl 11 (by decide) hgX4_90 (fun _ h9 => h9) rfl dX4_solves_6 ?_
      refine lv_icmp_ge (tgt := 129) hx hb dX4_solves_9 (by decide) (fun c1 => ?_) (fun c1 => ?_)
      · have hf := oif_t c1 hf
        refine lv_aload_n hx hb dX4_solves_129 rfl (lv_at hl 0 rfl) ?_
        refine lv_lload_n hx hb dX4_solves_130 rfl (lv_at hl 1 rfl) ?_
        obtain ⟨b2, eb2, hf⟩ := elet_out hf
        refine va_put (D := (dC, dI)) (ci := 4) (v := .long l1) (ty := .long) (C := RX4) (T := TX4) (N := 21) hx hb hts hiX4 tyX4 tyX4_ok nmX4 hown hK hP hD hS 0 rfl rfl 8 (by decide) hgX4_79 (fun _ h9 => h9) rfl (by decide +kernel) rfl rfl (Nat.le_of_ble_eq_true rfl) dX4_solves_131 (fun H locs hP hD hS => ?_)
        have hP : va_P (dC, dI) vwCl [k4_0 aM b2, k4_1 cI aM b2, k4_2 cI aM b2, k4_3 cI aM b2, k4_4 cI aM b2, k4_5 cJ aM b2, k4_6 cI aM b2, k4_7 cJ aM b2, k4_8 cJ aM b2, k4_9 cI aM b2] H := by rw [eb2]; exact hP
        have hD : va_D A [k4_0 aM b2, k4_1 cI aM b2, k4_2 cI aM b2, k4_3 cI aM b2, k4_4 cI aM b2, k4_5 cJ aM b2, k4_6 cI aM b2, k4_7 cJ aM b2, k4_8 cJ aM b2, k4_9 cI aM b2] := by rw [eb2]; exact hD
        refine lv_iconst (v := 0) hx hb dX4_solves_134 (by decide) ?_
        refine lv_istore_n (lv' := [(3, .int 0), (0, .ref (aM 0)), (1, .long l1)]) hx hb dX4_solves_135 rfl hl (by decide) rfl (fun ls hl => ?_)
        exact (hWW _ _ _ _ _ _ _).1 (L136 FU b2 (0 : Int32) H locs ls hP hD hS (lv_sub hl [1, 0] rfl) hf)
      · have hf := oif_f c1 hf
        refine lv_aload_n hx hb dX4_solves_12 rfl (lv_at hl 0 rfl) ?_
        refine va_get (D := (dC, dI)) (ci := 4) (v := .ref (aM 7)) (C := RX4) (T := TX4) (N := 21) hx hb hts hiX4 hown hK hP 0 rfl rfl 10 (by decide) hgX4_29 (fun _ h9 => h9) rfl dX4_solves_13 ?_
        refine lv_iconst (v := 5) hx hb dX4_solves_16 (by decide) ?_
        refine lv_iload_n hx hb dX4_solves_17 rfl (lv_at hl 2 rfl) ?_
        refine lv_imul hx hb dX4_solves_18 ?_
        refine lv_iload_n hx hb dX4_solves_19 rfl (lv_at hl 2 rfl) ?_
        refine lv_iadd hx hb dX4_solves_20 ?_
        obtain ⟨hi3, hf⟩ := oinb rfl hf
        refine va_lald hx hb hK hP 7 1 rfl rfl hi3 dX4_solves_21 ?_
        obtain ⟨z4, ez4, hf⟩ := elet_out hf
        refine lvn_l ez4 ?_
        refine lv_lstore (lv' := [(4, .long z4), (0, .ref (aM 0)), (1, .long l1), (3, .int x3)]) hx hb dX4_solves_22 hl (by decide) rfl (fun ls hl => ?_)
        refine lv_iconst (v := 0) hx hb dX4_solves_24 (by decide) ?_
        refine lv_istore (lv' := [(6, .int 0), (4, .long z4), (0, .ref (aM 0)), (1, .long l1), (3, .int x3)]) hx hb dX4_solves_25 hl (by decide) rfl (fun ls hl => ?_)
        exact (hWW _ _ _ _ _ _ _).1 (L27 k4 hk4 FU vM l1 x3 z4 (0 : Int32) H locs ls hP hD hS (lv_sub hl [2, 3, 4, 1, 0] rfl) hf)
  refine (hWW _ _ _ _ _ _ _).2 ?_
  unfold fX4_solves at hf
  refine lv_lconst (v := 1) hx hb dX4_solves_0 (by decide) ?_
  refine lv_lstore_n (lv' := [(1, .long 1), (0, .ref (aM 0))]) hx hb dX4_solves_1 rfl hl (by decide) rfl (fun ls hl => ?_)
  refine lv_iconst (v := 0) hx hb dX4_solves_2 (by decide) ?_
  refine lv_istore_n (lv' := [(3, .int 0), (1, .long 1), (0, .ref (aM 0))]) hx hb dX4_solves_3 rfl hl (by decide) rfl (fun ls hl => ?_)
  exact (hWW _ _ _ _ _ _ _).1 (L4 FU vM (1 : Int64) (0 : Int32) H locs ls hP hD hS (lv_sub hl [2, 1, 0] rfl) hf)
def fX4_isIn_87 (k4 : BX4 → Int32 → Int32 → Option Int32) (vM : BX4) (x2 : Int32) (st0 : Int32) : Option Int32 :=
  elet (x2 + 1) (fun z14 => k4 vM st0 z14)
def fX4_isIn_82 (k4 : BX4 → Int32 → Int32 → Option Int32) (vM : BX4) (x2 : Int32) : Option Int32 :=
  fX4_isIn_87 k4 vM x2 (1 : Int32)
def fX4_isIn_86 (k4 : BX4 → Int32 → Int32 → Option Int32) (vM : BX4) (x2 : Int32) : Option Int32 :=
  fX4_isIn_87 k4 vM x2 (0 : Int32)
def fX4_isIn_4_b (k4 : BX4 → Int32 → Int32 → Option Int32) (vM : BX4) (x1 : Int32) (x2 : Int32) : Option Int32 :=
  if ((p4_s vM) ((1 : Int32)).toNatClampNeg) ≤ x2 then (if zB x1 = true then (some x1) else none) else (if x1 = 0 then (fX4_isIn_86 k4 vM x2) else (if inB x2 4 = true then ((fX4_low vM x2).bind (fun y5 => if (lg_cmp ((p4_upper vM) (x2).toNatClampNeg) ((y5).toInt64 * (p4_lower vM))) < 0 then (fX4_isIn_86 k4 vM x2) else (if inB x2 4 = true then ((fX4_high vM x2).bind (fun y8 => if 0 < (lg_cmp ((p4_upper vM) (x2).toNatClampNeg) ((y8).toInt64 * (p4_lower vM))) then (fX4_isIn_86 k4 vM x2) else (if x2 = 0 then (fX4_isIn_82 k4 vM x2) else (if inB x2 4 = true then (if inB (x2 - (1 : Int32)) 4 = true then (if (lg_cmp ((p4_upper vM) (x2).toNatClampNeg) ((p4_upper vM) ((x2 - (1 : Int32))).toNatClampNeg)) < 0 then (fX4_isIn_86 k4 vM x2) else (fX4_isIn_82 k4 vM x2)) else none) else none)))) else none))) else none))
def fX4_isIn_4 : Nat → BX4 → Int32 → Int32 → Option Int32
  | 0 => fun _ _ _ => none
  | n + 1 => fX4_isIn_4_b (fX4_isIn_4 n)
def fX4_isIn (vM : BX4) : Option Int32 :=
  fX4_isIn_4 FU vM (1 : Int32) (0 : Int32)
set_option maxHeartbeats 8000000 in
set_option maxRecDepth 100000 in
theorem mX4_isIn (l : Launch) (dC : Nat → ClassId) (dI : Nat → Nat → Nat) (cI cJ : ClassId) (aM : Nat → Nat) (sz : Nat) (vM : BX4) (y : Int32) (hf : fX4_isIn vM = some y) : Met l yX4_isIn wsX4_isIn ({ frames := 1, cells := 0, slots := 0, locals := 21 }) (cPc dC dI cI cJ [.ref (aM 0)] [k4_0 aM vM, k4_1 cI aM vM, k4_2 cI aM vM, k4_3 cI aM vM, k4_4 cI aM vM, k4_5 cJ aM vM, k4_6 cI aM vM, k4_7 cJ aM vM, k4_8 cJ aM vM, k4_9 cI aM vM] sz) (va_Qi (fun r (_ : Unit) => r = y) (fun _ t => cB dC dI (va_A [k4_0 aM vM, k4_1 cI aM vM, k4_2 cI aM vM, k4_3 cI aM vM, k4_4 cI aM vM, k4_5 cJ aM vM, k4_6 cI aM vM, k4_7 cJ aM vM, k4_8 cJ aM vM, k4_9 cI aM vM] sz) [k4_0 aM vM, k4_1 cI aM vM, k4_2 cI aM vM, k4_3 cI aM vM, k4_4 cI aM vM, k4_5 cJ aM vM, k4_6 cI aM vM, k4_7 cJ aM vM, k4_8 cJ aM vM, k4_9 cI aM vM] t) (va_A [k4_0 aM vM, k4_1 cI aM vM, k4_2 cI aM vM, k4_3 cI aM vM, k4_4 cI aM vM, k4_5 cJ aM vM, k4_6 cI aM vM, k4_7 cJ aM vM, k4_8 cJ aM vM, k4_9 cI aM vM] sz)) 0 0 (va_A [k4_0 aM vM, k4_1 cI aM vM, k4_2 cI aM vM, k4_3 cI aM vM, k4_4 cI aM vM, k4_5 cJ aM vM, k4_6 cI aM vM, k4_7 cJ aM vM, k4_8 cJ aM vM, k4_9 cI aM vM] sz) := by
  refine Met.ofW (cc := cX4_isIn) (maxL := 3) (ret := (some .boolean)) (by decide) rfl ?_
  intro p e s m args below meth c s₁ B hml hv
  obtain ⟨rfl, hsz, hP, hK, hD0, hN⟩ := hv
  have hx := B.exec
  have hb := B.bytes
  have hr := B.returns
  have hts := atoms_spec (ws := wsX4_isIn) B.pre
  have hown : s.vm.findClass RX4 = some m.cls := findClass_of_methodNamed B.named
  have hlocks := B.notSynchronized
  subst hsz
  have hD := hD0.self (sz := s.heap.size)
  generalize hAe : va_A [k4_0 aM vM, k4_1 cI aM vM, k4_2 cI aM vM, k4_3 cI aM vM, k4_4 cI aM vM, k4_5 cJ aM vM, k4_6 cI aM vM, k4_7 cJ aM vM, k4_8 cJ aM vM, k4_9 cI aM vM] s.heap.size = A at hD hN ⊢
  have hA : ∀ q : Nat, s.heap.size ≤ q → A q := fun q h => by rw [← hAe]; exact Or.inr h
  have hP : va_P (dC, dI) vwCl [k4_0 aM vM, k4_1 cI aM vM, k4_2 cI aM vM, k4_3 cI aM vM, k4_4 cI aM vM, k4_5 cJ aM vM, k4_6 cI aM vM, k4_7 cJ aM vM, k4_8 cJ aM vM, k4_9 cI aM vM] s.heap := hP
  have hl := lv_entry ([.ref (aM 0)]) (n := 3) (Nat.le_of_ble_eq_true rfl)
  rw [lg_entry_eq]
  generalize (lg_sl ([.ref (aM 0)]) ++ List.replicate (3 - (lg_sl ([.ref (aM 0)])).length) Slot.unset).toArray = ls at hl ⊢
  have hl : lv_has ls 3 [(0, .ref (aM 0))] := hl
  have hiX4 : ∀ w ∈ u_ws RX4 TX4 21, w ∈ wsX4_isIn := by decide +kernel
  have hgX4_7 := hts (.fieldLink RX4 7 "SpringPlatesModel" "s" "[I") (by decide +kernel)
  have hgX4_22 := hts (.fieldLink RX4 22 "SpringPlatesModel" "upper" "[J") (by decide +kernel)
  have hgX4_79 := hts (.fieldLink RX4 79 "SpringPlatesModel" "lower" "J") (by decide +kernel)
  refine nameH (fun H locs hHe hLe => ?_)
  have hP : va_P (dC, dI) vwCl [k4_0 aM vM, k4_1 cI aM vM, k4_2 cI aM vM, k4_3 cI aM vM, k4_4 cI aM vM, k4_5 cJ aM vM, k4_6 cI aM vM, k4_7 cJ aM vM, k4_8 cJ aM vM, k4_9 cI aM vM] H := by rw [hHe]; exact hP
  have hS : va_S A s.heap H locs := by rw [hHe, hLe]; exact va_S.rf
  refine withW (fun WW hWW => ?_)
  have J87 : ∀ (k4 : BX4 → Int32 → Int32 → Option Int32) (hk4 : ∀ (x1 : Int32) (x2 : Int32) (H : Heap) (locs : List Loc) (ls : Array Slot), va_P (dC, dI) vwCl [k4_0 aM vM, k4_1 cI aM vM, k4_2 cI aM vM, k4_3 cI aM vM, k4_4 cI aM vM, k4_5 cJ aM vM, k4_6 cI aM vM, k4_7 cJ aM vM, k4_8 cJ aM vM, k4_9 cI aM vM] H → va_D A [k4_0 aM vM, k4_1 cI aM vM, k4_2 cI aM vM, k4_3 cI aM vM, k4_4 cI aM vM, k4_5 cJ aM vM, k4_6 cI aM vM, k4_7 cJ aM vM, k4_8 cJ aM vM, k4_9 cI aM vM] → va_S A s.heap H locs → lv_has ls 3 [(0, .ref (aM 0)), (1, .int x1), (2, .int x2)] → k4 vM x1 x2 = some y → WW H locs 0 0 ls 4 []) (x2 : Int32) (st0 : Int32) (H : Heap) (locs : List Loc) (ls : Array Slot), va_P (dC, dI) vwCl [k4_0 aM vM, k4_1 cI aM vM, k4_2 cI aM vM, k4_3 cI aM vM, k4_4 cI aM vM, k4_5 cJ aM vM, k4_6 cI aM vM, k4_7 cJ aM vM, k4_8 cJ aM vM, k4_9 cI aM vM] H → va_D A [k4_0 aM vM, k4_1 cI aM vM, k4_2 cI aM vM, k4_3 cI aM vM, k4_4 cI aM vM, k4_5 cJ aM vM, k4_6 cI aM vM, k4_7 cJ aM vM, k4_8 cJ aM vM, k4_9 cI aM vM] → va_S A s.heap H locs → lv_has ls 3 [(0, .ref (aM 0)), (2, .int x2)] → fX4_isIn_87 k4 vM x2 st0 = some y → WW H locs 0 0 ls 87 [.int st0] := by
    intro k4 hk4 x2 st0 H locs ls hP hD hS hl hf
    unfold fX4_isIn_87 at hf
    refine (hWW _ _ _ _ _ _ _).2 ?_
    refine lv_istore_n (lv' := [(1, .int st0), (0, .ref (aM 0)), (2, .int x2)]) hx hb dX4_isIn_87 rfl hl (by decide) rfl (fun ls hl => ?_)
    obtain ⟨z14, ez14, hf⟩ := elet_out hf
    refine lv_iinc (v := z14) (lv' := [(2, .int z14), (1, .int st0), (0, .ref (aM 0))]) hx hb dX4_isIn_88 hl (k := 2) rfl (by rw [ez14]; rfl) (by decide) rfl (fun ls hl => ?_)
    refine lv_goto (tgt := 4) hx hb dX4_isIn_91 (by decide) ?_
    exact (hWW _ _ _ _ _ _ _).1 (hk4 st0 z14 H locs ls hP hD hS (lv_sub hl [2, 1, 0] rfl) hf)
  have J82 : ∀ (k4 : BX4 → Int32 → Int32 → Option Int32) (hk4 : ∀ (x1 : Int32) (x2 : Int32) (H : Heap) (locs : List Loc) (ls : Array Slot), va_P (dC, dI) vwCl [k4_0 aM vM, k4_1 cI aM vM, k4_2 cI aM vM, k4_3 cI aM vM, k4_4 cI aM vM, k4_5 cJ aM vM, k4_6 cI aM vM, k4_7 cJ aM vM, k4_8 cJ aM vM, k4_9 cI aM vM] H → va_D A [k4_0 aM vM, k4_1 cI aM vM, k4_2 cI aM vM, k4_3 cI aM vM, k4_4 cI aM vM, k4_5 cJ aM vM, k4_6 cI aM vM, k4_7 cJ aM vM, k4_8 cJ aM vM, k4_9 cI aM vM] → va_S A s.heap H locs → lv_has ls 3 [(0, .ref (aM 0)), (1, .int x1), (2, .int x2)] → k4 vM x1 x2 = some y → WW H locs 0 0 ls 4 []) (x2 : Int32) (H : Heap) (locs : List Loc) (ls : Array Slot), va_P (dC, dI) vwCl [k4_0 aM vM, k4_1 cI aM vM, k4_2 cI aM vM, k4_3 cI aM vM, k4_4 cI aM vM, k4_5 cJ aM vM, k4_6 cI aM vM, k4_7 cJ aM vM, k4_8 cJ aM vM, k4_9 cI aM vM] H → va_D A [k4_0 aM vM, k4_1 cI aM vM, k4_2 cI aM vM, k4_3 cI aM vM, k4_4 cI aM vM, k4_5 cJ aM vM, k4_6 cI aM vM, k4_7 cJ aM vM, k4_8 cJ aM vM, k4_9 cI aM vM] → va_S A s.heap H locs → lv_has ls 3 [(0, .ref (aM 0)), (2, .int x2)] → fX4_isIn_82 k4 vM x2 = some y → WW H locs 0 0 ls 82 [] := by
    intro k4 hk4 x2 H locs ls hP hD hS hl hf
    unfold fX4_isIn_82 at hf
    refine (hWW _ _ _ _ _ _ _).2 ?_
    refine lv_iconst (v := 1) hx hb dX4_isIn_82 (by decide) ?_
    refine lv_goto (tgt := 87) hx hb dX4_isIn_83 (by decide) ?_
    exact (hWW _ _ _ _ _ _ _).1 (J87 k4 hk4 x2 (1 : Int32) H locs ls hP hD hS (lv_sub hl [0, 1] rfl) hf)
  have J86 : ∀ (k4 : BX4 → Int32 → Int32 → Option Int32) (hk4 : ∀ (x1 : Int32) (x2 : Int32) (H : Heap) (locs : List Loc) (ls : Array Slot), va_P (dC, dI) vwCl [k4_0 aM vM, k4_1 cI aM vM, k4_2 cI aM vM, k4_3 cI aM vM, k4_4 cI aM vM, k4_5 cJ aM vM, k4_6 cI aM vM, k4_7 cJ aM vM, k4_8 cJ aM vM, k4_9 cI aM vM] H → va_D A [k4_0 aM vM, k4_1 cI aM vM, k4_2 cI aM vM, k4_3 cI aM vM, k4_4 cI aM vM, k4_5 cJ aM vM, k4_6 cI aM vM, k4_7 cJ aM vM, k4_8 cJ aM vM, k4_9 cI aM vM] → va_S A s.heap H locs → lv_has ls 3 [(0, .ref (aM 0)), (1, .int x1), (2, .int x2)] → k4 vM x1 x2 = some y → WW H locs 0 0 ls 4 []) (x2 : Int32) (H : Heap) (locs : List Loc) (ls : Array Slot), va_P (dC, dI) vwCl [k4_0 aM vM, k4_1 cI aM vM, k4_2 cI aM vM, k4_3 cI aM vM, k4_4 cI aM vM, k4_5 cJ aM vM, k4_6 cI aM vM, k4_7 cJ aM vM, k4_8 cJ aM vM, k4_9 cI aM vM] H → va_D A [k4_0 aM vM, k4_1 cI aM vM, k4_2 cI aM vM, k4_3 cI aM vM, k4_4 cI aM vM, k4_5 cJ aM vM, k4_6 cI aM vM, k4_7 cJ aM vM, k4_8 cJ aM vM, k4_9 cI aM vM] → va_S A s.heap H locs → lv_has ls 3 [(0, .ref (aM 0)), (2, .int x2)] → fX4_isIn_86 k4 vM x2 = some y → WW H locs 0 0 ls 86 [] := by
    intro k4 hk4 x2 H locs ls hP hD hS hl hf
    unfold fX4_isIn_86 at hf
    refine (hWW _ _ _ _ _ _ _).2 ?_
    refine lv_iconst (v := 0) hx hb dX4_isIn_86 (by decide) ?_
    exact (hWW _ _ _ _ _ _ _).1 (J87 k4 hk4 x2 (0 : Int32) H locs ls hP hD hS (lv_sub hl [0, 1] rfl) hf)
  have L4 : ∀ (n : Nat) (x1 : Int32) (x2 : Int32) (H : Heap) (locs : List Loc) (ls : Array Slot), va_P (dC, dI) vwCl [k4_0 aM vM, k4_1 cI aM vM, k4_2 cI aM vM, k4_3 cI aM vM, k4_4 cI aM vM, k4_5 cJ aM vM, k4_6 cI aM vM, k4_7 cJ aM vM, k4_8 cJ aM vM, k4_9 cI aM vM] H → va_D A [k4_0 aM vM, k4_1 cI aM vM, k4_2 cI aM vM, k4_3 cI aM vM, k4_4 cI aM vM, k4_5 cJ aM vM, k4_6 cI aM vM, k4_7 cJ aM vM, k4_8 cJ aM vM, k4_9 cI aM vM] → va_S A s.heap H locs → lv_has ls 3 [(0, .ref (aM 0)), (1, .int x1), (2, .int x2)] → fX4_isIn_4 n vM x1 x2 = some y → WW H locs 0 0 ls 4 [] := by
    intro n
    induction n with
    | zero =>
      intro x1 x2 H locs ls hP hD hS hl hf
      exact onone hf
    | succ n ih =>
      intro x1 x2 H locs ls hP hD hS hl hf
      have hf : fX4_isIn_4_b (fX4_isIn_4 n) vM x1 x2 = some y := hf
      generalize fX4_isIn_4 n = k4 at hf ih
      have hk4 := ih
      clear ih
      unfold fX4_isIn_4_b at hf
      refine (hWW _ _ _ _ _ _ _).2 ?_
      refine lv_iload_n hx hb dX4_isIn_4 rfl (lv_at hl 2 rfl) ?_
      refine lv_aload_n hx hb dX4_isIn_5 rfl (lv_at hl 0 rfl) ?_
      refine va_get (D := (dC, dI)) (ci := 4) (v := .ref (aM 1)) (C := RX4) (T := TX4) (N := 21) hx hb hts hiX4 hown hK hP 0 rfl rfl 0 (by decide) hgX4_7 (fun _ h9 => h9) rfl dX4_isIn_6 ?_
      refine lv_iconst (v := 1) hx hb dX4_isIn_9 (by decide) ?_
      refine va_iald hx hb hK hP 1 0 rfl rfl (vpc rfl) dX4_isIn_10 ?_
      refine lv_icmp_ge (tgt := 94) hx hb dX4_isIn_11 (by decide) (fun c1 => ?_) (fun c1 => ?_)
      · have hf := oif_t c1 hf
        refine lv_iload_n hx hb dX4_isIn_94 rfl (lv_at hl 1 rfl) ?_
        obtain ⟨hz2, hf⟩ := ozb hf
        obtain rfl := Option.some.inj hf
        exact W.zret (v := x1) hx hb hr hz2 (fun t ht hW => ⟨⟨x1, (), rfl, rfl, by rw [ht]; exact hP, hD⟩, hS.F ht⟩) hS.2.2 dX4_isIn_95
      · have hf := oif_f c1 hf
        refine lv_iload_n hx hb dX4_isIn_14 rfl (lv_at hl 1 rfl) ?_
        refine lv_if_eq (tgt := 86) hx hb dX4_isIn_15 (by decide) (fun c3 => ?_) (fun c3 => ?_)
        · have hf := oif_t c3 hf
          exact (hWW _ _ _ _ _ _ _).1 (J86 k4 hk4 x2 H locs ls hP hD hS (lv_sub hl [0, 2] rfl) hf)
        · have hf := oif_f c3 hf
          refine lv_aload_n hx hb dX4_isIn_18 rfl (lv_at hl 0 rfl) ?_
          refine va_get (D := (dC, dI)) (ci := 4) (v := .ref (aM 5)) (C := RX4) (T := TX4) (N := 21) hx hb hts hiX4 hown hK hP 0 rfl rfl 7 (by decide) hgX4_22 (fun _ h9 => h9) rfl dX4_isIn_19 ?_
          refine lv_iload_n hx hb dX4_isIn_22 rfl (lv_at hl 2 rfl) ?_
          obtain ⟨hi4, hf⟩ := oinb rfl hf
          refine va_lald hx hb hK hP 5 1 rfl rfl hi4 dX4_isIn_23 ?_
          refine lv_aload_n hx hb dX4_isIn_24 rfl (lv_at hl 0 rfl) ?_
          refine lv_iload_n hx hb dX4_isIn_25 rfl (lv_at hl 2 rfl) ?_
          obtain ⟨y5, hy5, hf⟩ := obind hf
          refine cg_i (ws := [k4_0 aM vM, k4_1 cI aM vM, k4_2 cI aM vM, k4_3 cI aM vM, k4_4 cI aM vM, k4_5 cJ aM vM, k4_6 cI aM vM, k4_7 cJ aM vM, k4_8 cJ aM vM, k4_9 cI aM vM]) (wc := [k4_0 aM vM, k4_1 cI aM vM, k4_2 cI aM vM, k4_3 cI aM vM, k4_4 cI aM vM, k4_5 cJ aM vM, k4_6 cI aM vM, k4_7 cJ aM vM, k4_8 cJ aM vM, k4_9 cI aM vM]) (wr := []) (w1 := [k4_0 aM vM, k4_1 cI aM vM, k4_2 cI aM vM, k4_3 cI aM vM, k4_4 cI aM vM, k4_5 cJ aM vM, k4_6 cI aM vM, k4_7 cJ aM vM, k4_8 cJ aM vM, k4_9 cI aM vM]) (wo := [k4_0 aM vM, k4_1 cI aM vM, k4_2 cI aM vM, k4_3 cI aM vM, k4_4 cI aM vM, k4_5 cJ aM vM, k4_6 cI aM vM, k4_7 cJ aM vM, k4_8 cJ aM vM, k4_9 cI aM vM]) hP hD hS hA (va_runV (As := [.int x2]) (rest := [.long ((p4_upper vM) (x2).toNatClampNeg)]) ⟨hx, hb, hml, hown, hts⟩ (mX4_low l dC dI cI cJ aM H.size vM x2 y5 hy5) (cwV 1 hts gX4_isIn_X4_low rfl rfl rfl (by decide +kernel) ⟨Nat.le_of_ble_eq_true rfl, Nat.le_of_ble_eq_true rfl⟩) ⟨cFB, va_recv hK hP (ci := 4) (q0 := 0) rfl rfl, cPre hK hN hS (va_free (wc := [k4_0 aM vM, k4_1 cI aM vM, k4_2 cI aM vM, k4_3 cI aM vM, k4_4 cI aM vM, k4_5 cJ aM vM, k4_6 cI aM vM, k4_7 cJ aM vM, k4_8 cJ aM vM, k4_9 cI aM vM]) hD hS hA [0, 1, 2, 3, 4, 5, 6, 7, 8, 9] rfl) (hP.sub [0, 1, 2, 3, 4, 5, 6, 7, 8, 9] rfl) (hD.sub [0, 1, 2, 3, 4, 5, 6, 7, 8, 9] rfl rfl)⟩ rfl rfl hl.1 rfl (lv_room (Nat.le_of_ble_eq_true rfl)) dX4_isIn_26 ⟨Nat.le_of_ble_eq_true rfl, Nat.le_of_ble_eq_true rfl⟩) [0, 1, 2, 3, 4, 5, 6, 7, 8, 9] [] [0, 1, 2, 3, 4, 5, 6, 7, 8, 9] rfl rfl rfl (by decide +kernel) rfl rfl (fun H locs hP hD hS => ?_)
          refine lv_i2l (v := (y5).toInt64) hx hb dX4_isIn_29 rfl ?_
          refine lv_aload_n hx hb dX4_isIn_30 rfl (lv_at hl 0 rfl) ?_
          refine va_get (D := (dC, dI)) (ci := 4) (v := .long (p4_lower vM)) (C := RX4) (T := TX4) (N := 21) hx hb hts hiX4 hown hK hP 0 rfl rfl 8 (by decide) hgX4_79 (fun _ h9 => h9) rfl dX4_isIn_31 ?_
          refine lv_lmul hx hb dX4_isIn_34 ?_
          refine W.lcmp hx hb dX4_isIn_35 ?_
          refine lv_if_lt (tgt := 86) hx hb dX4_isIn_36 (by decide) (fun c6 => ?_) (fun c6 => ?_)
          · have hf := oif_t c6 hf
            exact (hWW _ _ _ _ _ _ _).1 (J86 k4 hk4 x2 H locs ls hP hD hS (lv_sub hl [0, 2] rfl) hf)
          · have hf := oif_f c6 hf
            refine lv_aload_n hx hb dX4_isIn_39 rfl (lv_at hl 0 rfl) ?_
            refine va_get (D := (dC, dI)) (ci := 4) (v := .ref (aM 5)) (C := RX4) (T := TX4) (N := 21) hx hb hts hiX4 hown hK hP 0 rfl rfl 7 (by decide) hgX4_22 (fun _ h9 => h9) rfl dX4_isIn_40 ?_
            refine lv_iload_n hx hb dX4_isIn_43 rfl (lv_at hl 2 rfl) ?_
            obtain ⟨hi7, hf⟩ := oinb rfl hf
            refine va_lald hx hb hK hP 5 1 rfl rfl hi7 dX4_isIn_44 ?_
            refine lv_aload_n hx hb dX4_isIn_45 rfl (lv_at hl 0 rfl) ?_
            refine lv_iload_n hx hb dX4_isIn_46 rfl (lv_at hl 2 rfl) ?_
            obtain ⟨y8, hy8, hf⟩ := obind hf
            refine cg_i (ws := [k4_0 aM vM, k4_1 cI aM vM, k4_2 cI aM vM, k4_3 cI aM vM, k4_4 cI aM vM, k4_5 cJ aM vM, k4_6 cI aM vM, k4_7 cJ aM vM, k4_8 cJ aM vM, k4_9 cI aM vM]) (wc := [k4_0 aM vM, k4_1 cI aM vM, k4_2 cI aM vM, k4_3 cI aM vM, k4_4 cI aM vM, k4_5 cJ aM vM, k4_6 cI aM vM, k4_7 cJ aM vM, k4_8 cJ aM vM, k4_9 cI aM vM]) (wr := []) (w1 := [k4_0 aM vM, k4_1 cI aM vM, k4_2 cI aM vM, k4_3 cI aM vM, k4_4 cI aM vM, k4_5 cJ aM vM, k4_6 cI aM vM, k4_7 cJ aM vM, k4_8 cJ aM vM, k4_9 cI aM vM]) (wo := [k4_0 aM vM, k4_1 cI aM vM, k4_2 cI aM vM, k4_3 cI aM vM, k4_4 cI aM vM, k4_5 cJ aM vM, k4_6 cI aM vM, k4_7 cJ aM vM, k4_8 cJ aM vM, k4_9 cI aM vM]) hP hD hS hA (va_runV (As := [.int x2]) (rest := [.long ((p4_upper vM) (x2).toNatClampNeg)]) ⟨hx, hb, hml, hown, hts⟩ (mX4_high l dC dI cI cJ aM H.size vM x2 y8 hy8) (cwV 1 hts gX4_isIn_X4_high rfl rfl rfl (by decide +kernel) ⟨Nat.le_of_ble_eq_true rfl, Nat.le_of_ble_eq_true rfl⟩) ⟨cFB, va_recv hK hP (ci := 4) (q0 := 0) rfl rfl, cPre hK hN hS (va_free (wc := [k4_0 aM vM, k4_1 cI aM vM, k4_2 cI aM vM, k4_3 cI aM vM, k4_4 cI aM vM, k4_5 cJ aM vM, k4_6 cI aM vM, k4_7 cJ aM vM, k4_8 cJ aM vM, k4_9 cI aM vM]) hD hS hA [0, 1, 2, 3, 4, 5, 6, 7, 8, 9] rfl) (hP.sub [0, 1, 2, 3, 4, 5, 6, 7, 8, 9] rfl) (hD.sub [0, 1, 2, 3, 4, 5, 6, 7, 8, 9] rfl rfl)⟩ rfl rfl hl.1 rfl (lv_room (Nat.le_of_ble_eq_true rfl)) dX4_isIn_47 ⟨Nat.le_of_ble_eq_true rfl, Nat.le_of_ble_eq_true rfl⟩) [0, 1, 2, 3, 4, 5, 6, 7, 8, 9] [] [0, 1, 2, 3, 4, 5, 6, 7, 8, 9] rfl rfl rfl (by decide +kernel) rfl rfl (fun H locs hP hD hS => ?_)
            refine lv_i2l (v := (y8).toInt64) hx hb dX4_isIn_50 rfl ?_
            refine lv_aload_n hx hb dX4_isIn_51 rfl (lv_at hl 0 rfl) ?_
            refine va_get (D := (dC, dI)) (ci := 4) (v := .long (p4_lower vM)) (C := RX4) (T := TX4) (N := 21) hx hb hts hiX4 hown hK hP 0 rfl rfl 8 (by decide) hgX4_79 (fun _ h9 => h9) rfl dX4_isIn_52 ?_
            refine lv_lmul hx hb dX4_isIn_55 ?_
            refine W.lcmp hx hb dX4_isIn_56 ?_
            refine lv_if_gt (tgt := 86) hx hb dX4_isIn_57 (by decide) (fun c9 => ?_) (fun c9 => ?_)
            · have hf := oif_t c9 hf
              exact (hWW _ _ _ _ _ _ _).1 (J86 k4 hk4 x2 H locs ls hP hD hS (lv_sub hl [0, 2] rfl) hf)
            · have hf := oif_f c9 hf
              refine lv_iload_n hx hb dX4_isIn_60 rfl (lv_at hl 2 rfl) ?_
              refine lv_if_eq (tgt := 82) hx hb dX4_isIn_61 (by decide) (fun c10 => ?_) (fun c10 => ?_)
              · have hf := oif_t c10 hf
                exact (hWW _ _ _ _ _ _ _).1 (J82 k4 hk4 x2 H locs ls hP hD hS (lv_sub hl [0, 2] rfl) hf)
              · have hf := oif_f c10 hf
                refine lv_aload_n hx hb dX4_isIn_64 rfl (lv_at hl 0 rfl) ?_
                refine va_get (D := (dC, dI)) (ci := 4) (v := .ref (aM 5)) (C := RX4) (T := TX4) (N := 21) hx hb hts hiX4 hown hK hP 0 rfl rfl 7 (by decide) hgX4_22 (fun _ h9 => h9) rfl dX4_isIn_65 ?_
                refine lv_iload_n hx hb dX4_isIn_68 rfl (lv_at hl 2 rfl) ?_
                obtain ⟨hi11, hf⟩ := oinb rfl hf
                refine va_lald hx hb hK hP 5 1 rfl rfl hi11 dX4_isIn_69 ?_
                refine lv_aload_n hx hb dX4_isIn_70 rfl (lv_at hl 0 rfl) ?_
                refine va_get (D := (dC, dI)) (ci := 4) (v := .ref (aM 5)) (C := RX4) (T := TX4) (N := 21) hx hb hts hiX4 hown hK hP 0 rfl rfl 7 (by decide) hgX4_22 (fun _ h9 => h9) rfl dX4_isIn_71 ?_
                refine lv_iload_n hx hb dX4_isIn_74 rfl (lv_at hl 2 rfl) ?_
                refine lv_iconst (v := 1) hx hb dX4_isIn_75 (by decide) ?_
                refine lv_isub hx hb dX4_isIn_76 ?_
                obtain ⟨hi12, hf⟩ := oinb rfl hf
                refine va_lald hx hb hK hP 5 1 rfl rfl hi12 dX4_isIn_77 ?_
                refine W.lcmp hx hb dX4_isIn_78 ?_
                refine lv_if_lt (tgt := 86) hx hb dX4_isIn_79 (by decide) (fun c13 => ?_) (fun c13 => ?_)
                · have hf := oif_t c13 hf
                  exact (hWW _ _ _ _ _ _ _).1 (J86 k4 hk4 x2 H locs ls hP hD hS (lv_sub hl [0, 2] rfl) hf)
                · have hf := oif_f c13 hf
                  exact (hWW _ _ _ _ _ _ _).1 (J82 k4 hk4 x2 H locs ls hP hD hS (lv_sub hl [0, 2] rfl) hf)
  refine (hWW _ _ _ _ _ _ _).2 ?_
  unfold fX4_isIn at hf
  refine lv_iconst (v := 1) hx hb dX4_isIn_0 (by decide) ?_
  refine lv_istore_n (lv' := [(1, .int 1), (0, .ref (aM 0))]) hx hb dX4_isIn_1 rfl hl (by decide) rfl (fun ls hl => ?_)
  refine lv_iconst (v := 0) hx hb dX4_isIn_2 (by decide) ?_
  refine lv_istore_n (lv' := [(2, .int 0), (1, .int 1), (0, .ref (aM 0))]) hx hb dX4_isIn_3 rfl hl (by decide) rfl (fun ls hl => ?_)
  exact (hWW _ _ _ _ _ _ _).1 (L4 FU (1 : Int32) (0 : Int32) H locs ls hP hD hS (lv_sub hl [2, 1, 0] rfl) hf)
def fX4_isStill_126 (k4 : BX4 → Int32 → Int32 → Option Int32) (k25 : BX4 → Int32 → Int32 → Int64 → Int32 → Int32 → Int32 → Option Int32) (vM : BX4) (x1 : Int32) (x2 : Int32) (l3 : Int64) (x5 : Int32) (x7 : Int32) (st0 : Int32) (st1 : Int32) : Option Int32 :=
  elet (st0 + st1) (fun z18 => k25 vM x1 x2 l3 x5 z18 x7)
def fX4_isStill_112 (k4 : BX4 → Int32 → Int32 → Option Int32) (k25 : BX4 → Int32 → Int32 → Int64 → Int32 → Int32 → Int32 → Option Int32) (vM : BX4) (x1 : Int32) (x2 : Int32) (l3 : Int64) (x5 : Int32) (x6 : Int32) (st0 : Int32) : Option Int32 :=
  if st0 = 0 then (fX4_isStill_126 k4 k25 vM x1 x2 l3 x5 st0 x6 (0 : Int32)) else (fX4_isStill_126 k4 k25 vM x1 x2 l3 x5 st0 x6 (1 : Int32))
def fX4_isStill_111 (k4 : BX4 → Int32 → Int32 → Option Int32) (k25 : BX4 → Int32 → Int32 → Int64 → Int32 → Int32 → Int32 → Option Int32) (vM : BX4) (x1 : Int32) (x2 : Int32) (l3 : Int64) (x5 : Int32) (x6 : Int32) : Option Int32 :=
  fX4_isStill_112 k4 k25 vM x1 x2 l3 x5 x6 (0 : Int32)
def fX4_isStill_72 (k4 : BX4 → Int32 → Int32 → Option Int32) (k25 : BX4 → Int32 → Int32 → Int64 → Int32 → Int32 → Int32 → Option Int32) (vM : BX4) (x1 : Int32) (x2 : Int32) (l3 : Int64) (x6 : Int32) (st0 : Int32) : Option Int32 :=
  if ((p4_s vM) ((1 : Int32)).toNatClampNeg) ≤ (x6 + (1 : Int32)) then (fX4_isStill_111 k4 k25 vM x1 x2 l3 st0 x6) else (if inB (x6 + (1 : Int32)) 4 = true then (if inB x6 4 = true then (if (lg_cmp ((p4_upper vM) ((x6 + (1 : Int32))).toNatClampNeg) ((p4_upper vM) (x6).toNatClampNeg)) = 0 then (fX4_isStill_112 k4 k25 vM x1 x2 l3 st0 x6 (1 : Int32)) else (fX4_isStill_111 k4 k25 vM x1 x2 l3 st0 x6)) else none) else none)
def fX4_isStill_71 (k4 : BX4 → Int32 → Int32 → Option Int32) (k25 : BX4 → Int32 → Int32 → Int64 → Int32 → Int32 → Int32 → Option Int32) (vM : BX4) (x1 : Int32) (x2 : Int32) (l3 : Int64) (x6 : Int32) : Option Int32 :=
  fX4_isStill_72 k4 k25 vM x1 x2 l3 x6 (0 : Int32)
def fX4_isStill_257 (k4 : BX4 → Int32 → Int32 → Option Int32) (k164 : BX4 → Int32 → Int32 → Int64 → Int32 → Int32 → Int32 → Option Int32) (vM : BX4) (x1 : Int32) (x2 : Int32) (l3 : Int64) (x5 : Int32) (x7 : Int32) (st0 : Int32) (st1 : Int32) : Option Int32 :=
  elet (st0 - st1) (fun z34 => k164 vM x1 x2 l3 x5 z34 x7)
def fX4_isStill_243 (k4 : BX4 → Int32 → Int32 → Option Int32) (k164 : BX4 → Int32 → Int32 → Int64 → Int32 → Int32 → Int32 → Option Int32) (vM : BX4) (x1 : Int32) (x2 : Int32) (l3 : Int64) (x5 : Int32) (x6 : Int32) (st0 : Int32) : Option Int32 :=
  if st0 = 0 then (fX4_isStill_257 k4 k164 vM x1 x2 l3 x5 st0 x6 (0 : Int32)) else (fX4_isStill_257 k4 k164 vM x1 x2 l3 x5 st0 x6 (1 : Int32))
def fX4_isStill_242 (k4 : BX4 → Int32 → Int32 → Option Int32) (k164 : BX4 → Int32 → Int32 → Int64 → Int32 → Int32 → Int32 → Option Int32) (vM : BX4) (x1 : Int32) (x2 : Int32) (l3 : Int64) (x5 : Int32) (x6 : Int32) : Option Int32 :=
  fX4_isStill_243 k4 k164 vM x1 x2 l3 x5 x6 (0 : Int32)
def fX4_isStill_211 (k4 : BX4 → Int32 → Int32 → Option Int32) (k164 : BX4 → Int32 → Int32 → Int64 → Int32 → Int32 → Int32 → Option Int32) (vM : BX4) (x1 : Int32) (x2 : Int32) (l3 : Int64) (x6 : Int32) (st0 : Int32) : Option Int32 :=
  if x6 ≤ 0 then (fX4_isStill_242 k4 k164 vM x1 x2 l3 st0 x6) else (if inB (x6 - (1 : Int32)) 4 = true then (if inB x6 4 = true then (if (lg_cmp ((p4_upper vM) ((x6 - (1 : Int32))).toNatClampNeg) ((p4_upper vM) (x6).toNatClampNeg)) = 0 then (fX4_isStill_243 k4 k164 vM x1 x2 l3 st0 x6 (1 : Int32)) else (fX4_isStill_242 k4 k164 vM x1 x2 l3 st0 x6)) else none) else none)
def fX4_isStill_210 (k4 : BX4 → Int32 → Int32 → Option Int32) (k164 : BX4 → Int32 → Int32 → Int64 → Int32 → Int32 → Int32 → Option Int32) (vM : BX4) (x1 : Int32) (x2 : Int32) (l3 : Int64) (x6 : Int32) : Option Int32 :=
  fX4_isStill_211 k4 k164 vM x1 x2 l3 x6 (0 : Int32)
def fX4_isStill_283 (k4 : BX4 → Int32 → Int32 → Option Int32) (vM : BX4) (x2 : Int32) (st0 : Int32) : Option Int32 :=
  elet (x2 + 1) (fun z35 => k4 vM st0 z35)
def fX4_isStill_278 (k4 : BX4 → Int32 → Int32 → Option Int32) (vM : BX4) (x2 : Int32) : Option Int32 :=
  fX4_isStill_283 k4 vM x2 (1 : Int32)
def fX4_isStill_282 (k4 : BX4 → Int32 → Int32 → Option Int32) (vM : BX4) (x2 : Int32) : Option Int32 :=
  fX4_isStill_283 k4 vM x2 (0 : Int32)
def fX4_isStill_164_b (k4 : BX4 → Int32 → Int32 → Option Int32) (k164 : BX4 → Int32 → Int32 → Int64 → Int32 → Int32 → Int32 → Option Int32) (vM : BX4) (x1 : Int32) (x2 : Int32) (l3 : Int64) (x5 : Int32) (x6 : Int32) (x7 : Int32) : Option Int32 :=
  if x7 = 0 then (if x1 = 0 then (fX4_isStill_282 k4 vM x2) else (if x5 = 0 then (fX4_isStill_278 k4 vM x2) else (if (lg_cmp l3 (0 : Int64)) < 0 then (fX4_isStill_282 k4 vM x2) else (fX4_isStill_278 k4 vM x2)))) else ((fX4_force vM x6).bind (fun y23 => elet (l3 + y23) (fun z24 => if x5 = 0 then (fX4_isStill_210 k4 k164 vM x1 x2 z24 x6) else (if inB x6 4 = true then ((fX4_low vM x6).bind (fun y27 => if (lg_cmp ((p4_upper vM) (x6).toNatClampNeg) ((y27).toInt64 * (p4_lower vM))) ≤ 0 then (fX4_isStill_210 k4 k164 vM x1 x2 z24 x6) else (fX4_isStill_211 k4 k164 vM x1 x2 z24 x6 (1 : Int32)))) else none))))
def fX4_isStill_164 (k4 : BX4 → Int32 → Int32 → Option Int32) : Nat → BX4 → Int32 → Int32 → Int64 → Int32 → Int32 → Int32 → Option Int32
  | 0 => fun _ _ _ _ _ _ _ => none
  | n + 1 => fX4_isStill_164_b k4 (fX4_isStill_164 k4 n)
def fX4_isStill_152 (k4 : BX4 → Int32 → Int32 → Option Int32) (vM : BX4) (x2 : Int32) (st0 : Int32) : Option Int32 :=
  fX4_isStill_164 k4 FU vM st0 x2 (0 : Int64) (1 : Int32) x2 (1 : Int32)
def fX4_isStill_147 (k4 : BX4 → Int32 → Int32 → Option Int32) (vM : BX4) (x2 : Int32) : Option Int32 :=
  fX4_isStill_152 k4 vM x2 (1 : Int32)
def fX4_isStill_151 (k4 : BX4 → Int32 → Int32 → Option Int32) (vM : BX4) (x2 : Int32) : Option Int32 :=
  fX4_isStill_152 k4 vM x2 (0 : Int32)
def fX4_isStill_25_b (k4 : BX4 → Int32 → Int32 → Option Int32) (k25 : BX4 → Int32 → Int32 → Int64 → Int32 → Int32 → Int32 → Option Int32) (vM : BX4) (x1 : Int32) (x2 : Int32) (l3 : Int64) (x5 : Int32) (x6 : Int32) (x7 : Int32) : Option Int32 :=
  if x7 = 0 then (if x1 = 0 then (fX4_isStill_151 k4 vM x2) else (if x5 = 0 then (fX4_isStill_147 k4 vM x2) else (if 0 < (lg_cmp l3 (0 : Int64)) then (fX4_isStill_151 k4 vM x2) else (fX4_isStill_147 k4 vM x2)))) else ((fX4_force vM x6).bind (fun y7 => elet (l3 + y7) (fun z8 => if x5 = 0 then (fX4_isStill_71 k4 k25 vM x1 x2 z8 x6) else (if inB x6 4 = true then ((fX4_high vM x6).bind (fun y11 => if 0 ≤ (lg_cmp ((p4_upper vM) (x6).toNatClampNeg) ((y11).toInt64 * (p4_lower vM))) then (fX4_isStill_71 k4 k25 vM x1 x2 z8 x6) else (fX4_isStill_72 k4 k25 vM x1 x2 z8 x6 (1 : Int32)))) else none))))
def fX4_isStill_25 (k4 : BX4 → Int32 → Int32 → Option Int32) : Nat → BX4 → Int32 → Int32 → Int64 → Int32 → Int32 → Int32 → Option Int32
  | 0 => fun _ _ _ _ _ _ _ => none
  | n + 1 => fX4_isStill_25_b k4 (fX4_isStill_25 k4 n)
def fX4_isStill_4_b (k4 : BX4 → Int32 → Int32 → Option Int32) (vM : BX4) (x1 : Int32) (x2 : Int32) : Option Int32 :=
  if ((p4_s vM) ((1 : Int32)).toNatClampNeg) ≤ x2 then (if zB x1 = true then (some x1) else none) else (fX4_isStill_25 k4 FU vM x1 x2 (0 : Int64) (1 : Int32) x2 (1 : Int32))
def fX4_isStill_4 : Nat → BX4 → Int32 → Int32 → Option Int32
  | 0 => fun _ _ _ => none
  | n + 1 => fX4_isStill_4_b (fX4_isStill_4 n)
def fX4_isStill (vM : BX4) : Option Int32 :=
  fX4_isStill_4 FU vM (1 : Int32) (0 : Int32)
set_option maxHeartbeats 8000000 in
set_option maxRecDepth 100000 in
theorem mX4_isStill (l : Launch) (dC : Nat → ClassId) (dI : Nat → Nat → Nat) (cI cJ : ClassId) (aM : Nat → Nat) (sz : Nat) (vM : BX4) (y : Int32) (hf : fX4_isStill vM = some y) : Met l yX4_isStill wsX4_isStill ({ frames := 3, cells := 0, slots := 0, locals := 63 }) (cPc dC dI cI cJ [.ref (aM 0)] [k4_0 aM vM, k4_1 cI aM vM, k4_2 cI aM vM, k4_3 cI aM vM, k4_4 cI aM vM, k4_5 cJ aM vM, k4_6 cI aM vM, k4_7 cJ aM vM, k4_8 cJ aM vM, k4_9 cI aM vM] sz) (va_Qi (fun r (_ : Unit) => r = y) (fun _ t => cB dC dI (va_A [k4_0 aM vM, k4_1 cI aM vM, k4_2 cI aM vM, k4_3 cI aM vM, k4_4 cI aM vM, k4_5 cJ aM vM, k4_6 cI aM vM, k4_7 cJ aM vM, k4_8 cJ aM vM, k4_9 cI aM vM] sz) [k4_0 aM vM, k4_1 cI aM vM, k4_2 cI aM vM, k4_3 cI aM vM, k4_4 cI aM vM, k4_5 cJ aM vM, k4_6 cI aM vM, k4_7 cJ aM vM, k4_8 cJ aM vM, k4_9 cI aM vM] t) (va_A [k4_0 aM vM, k4_1 cI aM vM, k4_2 cI aM vM, k4_3 cI aM vM, k4_4 cI aM vM, k4_5 cJ aM vM, k4_6 cI aM vM, k4_7 cJ aM vM, k4_8 cJ aM vM, k4_9 cI aM vM] sz)) 0 0 (va_A [k4_0 aM vM, k4_1 cI aM vM, k4_2 cI aM vM, k4_3 cI aM vM, k4_4 cI aM vM, k4_5 cJ aM vM, k4_6 cI aM vM, k4_7 cJ aM vM, k4_8 cJ aM vM, k4_9 cI aM vM] sz) := by
  refine Met.ofW (cc := cX4_isStill) (maxL := 8) (ret := (some .boolean)) (by decide) rfl ?_
  intro p e s m args below meth c s₁ B hml hv
  obtain ⟨rfl, hsz, hP, hK, hD0, hN⟩ := hv
  have hx := B.exec
  have hb := B.bytes
  have hr := B.returns
  have hts := atoms_spec (ws := wsX4_isStill) B.pre
  have hown : s.vm.findClass RX4 = some m.cls := findClass_of_methodNamed B.named
  have hlocks := B.notSynchronized
  subst hsz
  have hD := hD0.self (sz := s.heap.size)
  generalize hAe : va_A [k4_0 aM vM, k4_1 cI aM vM, k4_2 cI aM vM, k4_3 cI aM vM, k4_4 cI aM vM, k4_5 cJ aM vM, k4_6 cI aM vM, k4_7 cJ aM vM, k4_8 cJ aM vM, k4_9 cI aM vM] s.heap.size = A at hD hN ⊢
  have hA : ∀ q : Nat, s.heap.size ≤ q → A q := fun q h => by rw [← hAe]; exact Or.inr h
  have hP : va_P (dC, dI) vwCl [k4_0 aM vM, k4_1 cI aM vM, k4_2 cI aM vM, k4_3 cI aM vM, k4_4 cI aM vM, k4_5 cJ aM vM, k4_6 cI aM vM, k4_7 cJ aM vM, k4_8 cJ aM vM, k4_9 cI aM vM] s.heap := hP
  have hl := lv_entry ([.ref (aM 0)]) (n := 8) (Nat.le_of_ble_eq_true rfl)
  rw [lg_entry_eq]
  generalize (lg_sl ([.ref (aM 0)]) ++ List.replicate (8 - (lg_sl ([.ref (aM 0)])).length) Slot.unset).toArray = ls at hl ⊢
  have hl : lv_has ls 8 [(0, .ref (aM 0))] := hl
  have hiX4 : ∀ w ∈ u_ws RX4 TX4 21, w ∈ wsX4_isStill := by decide +kernel
  have hgX4_7 := hts (.fieldLink RX4 7 "SpringPlatesModel" "s" "[I") (by decide +kernel)
  have hgX4_22 := hts (.fieldLink RX4 22 "SpringPlatesModel" "upper" "[J") (by decide +kernel)
  have hgX4_79 := hts (.fieldLink RX4 79 "SpringPlatesModel" "lower" "J") (by decide +kernel)
  refine nameH (fun H locs hHe hLe => ?_)
  have hP : va_P (dC, dI) vwCl [k4_0 aM vM, k4_1 cI aM vM, k4_2 cI aM vM, k4_3 cI aM vM, k4_4 cI aM vM, k4_5 cJ aM vM, k4_6 cI aM vM, k4_7 cJ aM vM, k4_8 cJ aM vM, k4_9 cI aM vM] H := by rw [hHe]; exact hP
  have hS : va_S A s.heap H locs := by rw [hHe, hLe]; exact va_S.rf
  refine withW (fun WW hWW => ?_)
  have J126 : ∀ (k4 : BX4 → Int32 → Int32 → Option Int32) (hk4 : ∀ (x1 : Int32) (x2 : Int32) (H : Heap) (locs : List Loc) (ls : Array Slot), va_P (dC, dI) vwCl [k4_0 aM vM, k4_1 cI aM vM, k4_2 cI aM vM, k4_3 cI aM vM, k4_4 cI aM vM, k4_5 cJ aM vM, k4_6 cI aM vM, k4_7 cJ aM vM, k4_8 cJ aM vM, k4_9 cI aM vM] H → va_D A [k4_0 aM vM, k4_1 cI aM vM, k4_2 cI aM vM, k4_3 cI aM vM, k4_4 cI aM vM, k4_5 cJ aM vM, k4_6 cI aM vM, k4_7 cJ aM vM, k4_8 cJ aM vM, k4_9 cI aM vM] → va_S A s.heap H locs → lv_has ls 8 [(0, .ref (aM 0)), (1, .int x1), (2, .int x2)] → k4 vM x1 x2 = some y → WW H locs 0 0 ls 4 []) (k25 : BX4 → Int32 → Int32 → Int64 → Int32 → Int32 → Int32 → Option Int32) (hk25 : ∀ (x1 : Int32) (x2 : Int32) (l3 : Int64) (x5 : Int32) (x6 : Int32) (x7 : Int32) (H : Heap) (locs : List Loc) (ls : Array Slot), va_P (dC, dI) vwCl [k4_0 aM vM, k4_1 cI aM vM, k4_2 cI aM vM, k4_3 cI aM vM, k4_4 cI aM vM, k4_5 cJ aM vM, k4_6 cI aM vM, k4_7 cJ aM vM, k4_8 cJ aM vM, k4_9 cI aM vM] H → va_D A [k4_0 aM vM, k4_1 cI aM vM, k4_2 cI aM vM, k4_3 cI aM vM, k4_4 cI aM vM, k4_5 cJ aM vM, k4_6 cI aM vM, k4_7 cJ aM vM, k4_8 cJ aM vM, k4_9 cI aM vM] → va_S A s.heap H locs → lv_has ls 8 [(0, .ref (aM 0)), (1, .int x1), (2, .int x2), (3, .long l3), (5, .int x5), (6, .int x6), (7, .int x7)] → k25 vM x1 x2 l3 x5 x6 x7 = some y → WW H locs 0 0 ls 25 []) (x1 : Int32) (x2 : Int32) (l3 : Int64) (x5 : Int32) (x7 : Int32) (st0 : Int32) (st1 : Int32) (H : Heap) (locs : List Loc) (ls : Array Slot), va_P (dC, dI) vwCl [k4_0 aM vM, k4_1 cI aM vM, k4_2 cI aM vM, k4_3 cI aM vM, k4_4 cI aM vM, k4_5 cJ aM vM, k4_6 cI aM vM, k4_7 cJ aM vM, k4_8 cJ aM vM, k4_9 cI aM vM] H → va_D A [k4_0 aM vM, k4_1 cI aM vM, k4_2 cI aM vM, k4_3 cI aM vM, k4_4 cI aM vM, k4_5 cJ aM vM, k4_6 cI aM vM, k4_7 cJ aM vM, k4_8 cJ aM vM, k4_9 cI aM vM] → va_S A s.heap H locs → lv_has ls 8 [(0, .ref (aM 0)), (1, .int x1), (2, .int x2), (3, .long l3), (5, .int x5), (7, .int x7)] → fX4_isStill_126 k4 k25 vM x1 x2 l3 x5 x7 st0 st1 = some y → WW H locs 0 0 ls 126 [.int st1, .int st0] := by
    intro k4 hk4 k25 hk25 x1 x2 l3 x5 x7 st0 st1 H locs ls hP hD hS hl hf
    unfold fX4_isStill_126 at hf
    refine (hWW _ _ _ _ _ _ _).2 ?_
    refine lv_iadd hx hb dX4_isStill_126 ?_
    obtain ⟨z18, ez18, hf⟩ := elet_out hf
    refine lvn_i ez18 ?_
    refine lv_istore (lv' := [(6, .int z18), (0, .ref (aM 0)), (1, .int x1), (2, .int x2), (3, .long l3), (5, .int x5), (7, .int x7)]) hx hb dX4_isStill_127 hl (by decide) rfl (fun ls hl => ?_)
    refine lv_goto (tgt := 25) hx hb dX4_isStill_129 (by decide) ?_
    exact (hWW _ _ _ _ _ _ _).1 (hk25 x1 x2 l3 x5 z18 x7 H locs ls hP hD hS (lv_sub hl [1, 2, 3, 4, 5, 0, 6] rfl) hf)
  have J112 : ∀ (k4 : BX4 → Int32 → Int32 → Option Int32) (hk4 : ∀ (x1 : Int32) (x2 : Int32) (H : Heap) (locs : List Loc) (ls : Array Slot), va_P (dC, dI) vwCl [k4_0 aM vM, k4_1 cI aM vM, k4_2 cI aM vM, k4_3 cI aM vM, k4_4 cI aM vM, k4_5 cJ aM vM, k4_6 cI aM vM, k4_7 cJ aM vM, k4_8 cJ aM vM, k4_9 cI aM vM] H → va_D A [k4_0 aM vM, k4_1 cI aM vM, k4_2 cI aM vM, k4_3 cI aM vM, k4_4 cI aM vM, k4_5 cJ aM vM, k4_6 cI aM vM, k4_7 cJ aM vM, k4_8 cJ aM vM, k4_9 cI aM vM] → va_S A s.heap H locs → lv_has ls 8 [(0, .ref (aM 0)), (1, .int x1), (2, .int x2)] → k4 vM x1 x2 = some y → WW H locs 0 0 ls 4 []) (k25 : BX4 → Int32 → Int32 → Int64 → Int32 → Int32 → Int32 → Option Int32) (hk25 : ∀ (x1 : Int32) (x2 : Int32) (l3 : Int64) (x5 : Int32) (x6 : Int32) (x7 : Int32) (H : Heap) (locs : List Loc) (ls : Array Slot), va_P (dC, dI) vwCl [k4_0 aM vM, k4_1 cI aM vM, k4_2 cI aM vM, k4_3 cI aM vM, k4_4 cI aM vM, k4_5 cJ aM vM, k4_6 cI aM vM, k4_7 cJ aM vM, k4_8 cJ aM vM, k4_9 cI aM vM] H → va_D A [k4_0 aM vM, k4_1 cI aM vM, k4_2 cI aM vM, k4_3 cI aM vM, k4_4 cI aM vM, k4_5 cJ aM vM, k4_6 cI aM vM, k4_7 cJ aM vM, k4_8 cJ aM vM, k4_9 cI aM vM] → va_S A s.heap H locs → lv_has ls 8 [(0, .ref (aM 0)), (1, .int x1), (2, .int x2), (3, .long l3), (5, .int x5), (6, .int x6), (7, .int x7)] → k25 vM x1 x2 l3 x5 x6 x7 = some y → WW H locs 0 0 ls 25 []) (x1 : Int32) (x2 : Int32) (l3 : Int64) (x5 : Int32) (x6 : Int32) (st0 : Int32) (H : Heap) (locs : List Loc) (ls : Array Slot), va_P (dC, dI) vwCl [k4_0 aM vM, k4_1 cI aM vM, k4_2 cI aM vM, k4_3 cI aM vM, k4_4 cI aM vM, k4_5 cJ aM vM, k4_6 cI aM vM, k4_7 cJ aM vM, k4_8 cJ aM vM, k4_9 cI aM vM] H → va_D A [k4_0 aM vM, k4_1 cI aM vM, k4_2 cI aM vM, k4_3 cI aM vM, k4_4 cI aM vM, k4_5 cJ aM vM, k4_6 cI aM vM, k4_7 cJ aM vM, k4_8 cJ aM vM, k4_9 cI aM vM] → va_S A s.heap H locs → lv_has ls 8 [(0, .ref (aM 0)), (1, .int x1), (2, .int x2), (3, .long l3), (5, .int x5), (6, .int x6)] → fX4_isStill_112 k4 k25 vM x1 x2 l3 x5 x6 st0 = some y → WW H locs 0 0 ls 112 [.int st0] := by
    intro k4 hk4 k25 hk25 x1 x2 l3 x5 x6 st0 H locs ls hP hD hS hl hf
    unfold fX4_isStill_112 at hf
    refine (hWW _ _ _ _ _ _ _).2 ?_
    refine lv_istore (lv' := [(7, .int st0), (0, .ref (aM 0)), (1, .int x1), (2, .int x2), (3, .long l3), (5, .int x5), (6, .int x6)]) hx hb dX4_isStill_112 hl (by decide) rfl (fun ls hl => ?_)
    refine lv_iload hx hb dX4_isStill_114 (lv_at hl 6 rfl) ?_
    refine lv_iload hx hb dX4_isStill_116 (lv_at hl 0 rfl) ?_
    refine lv_if_eq (tgt := 125) hx hb dX4_isStill_118 (by decide) (fun c17 => ?_) (fun c17 => ?_)
    · have hf := oif_t c17 hf
      refine lv_iconst (v := 0) hx hb dX4_isStill_125 (by decide) ?_
      exact (hWW _ _ _ _ _ _ _).1 (J126 k4 hk4 k25 hk25 x1 x2 l3 x5 st0 x6 (0 : Int32) H locs ls hP hD hS (lv_sub hl [1, 2, 3, 4, 5, 0] rfl) hf)
    · have hf := oif_f c17 hf
      refine lv_iconst (v := 1) hx hb dX4_isStill_121 (by decide) ?_
      refine lv_goto (tgt := 126) hx hb dX4_isStill_122 (by decide) ?_
      exact (hWW _ _ _ _ _ _ _).1 (J126 k4 hk4 k25 hk25 x1 x2 l3 x5 st0 x6 (1 : Int32) H locs ls hP hD hS (lv_sub hl [1, 2, 3, 4, 5, 0] rfl) hf)
  have J111 : ∀ (k4 : BX4 → Int32 → Int32 → Option Int32) (hk4 : ∀ (x1 : Int32) (x2 : Int32) (H : Heap) (locs : List Loc) (ls : Array Slot), va_P (dC, dI) vwCl [k4_0 aM vM, k4_1 cI aM vM, k4_2 cI aM vM, k4_3 cI aM vM, k4_4 cI aM vM, k4_5 cJ aM vM, k4_6 cI aM vM, k4_7 cJ aM vM, k4_8 cJ aM vM, k4_9 cI aM vM] H → va_D A [k4_0 aM vM, k4_1 cI aM vM, k4_2 cI aM vM, k4_3 cI aM vM, k4_4 cI aM vM, k4_5 cJ aM vM, k4_6 cI aM vM, k4_7 cJ aM vM, k4_8 cJ aM vM, k4_9 cI aM vM] → va_S A s.heap H locs → lv_has ls 8 [(0, .ref (aM 0)), (1, .int x1), (2, .int x2)] → k4 vM x1 x2 = some y → WW H locs 0 0 ls 4 []) (k25 : BX4 → Int32 → Int32 → Int64 → Int32 → Int32 → Int32 → Option Int32) (hk25 : ∀ (x1 : Int32) (x2 : Int32) (l3 : Int64) (x5 : Int32) (x6 : Int32) (x7 : Int32) (H : Heap) (locs : List Loc) (ls : Array Slot), va_P (dC, dI) vwCl [k4_0 aM vM, k4_1 cI aM vM, k4_2 cI aM vM, k4_3 cI aM vM, k4_4 cI aM vM, k4_5 cJ aM vM, k4_6 cI aM vM, k4_7 cJ aM vM, k4_8 cJ aM vM, k4_9 cI aM vM] H → va_D A [k4_0 aM vM, k4_1 cI aM vM, k4_2 cI aM vM, k4_3 cI aM vM, k4_4 cI aM vM, k4_5 cJ aM vM, k4_6 cI aM vM, k4_7 cJ aM vM, k4_8 cJ aM vM, k4_9 cI aM vM] → va_S A s.heap H locs → lv_has ls 8 [(0, .ref (aM 0)), (1, .int x1), (2, .int x2), (3, .long l3), (5, .int x5), (6, .int x6), (7, .int x7)] → k25 vM x1 x2 l3 x5 x6 x7 = some y → WW H locs 0 0 ls 25 []) (x1 : Int32) (x2 : Int32) (l3 : Int64) (x5 : Int32) (x6 : Int32) (H : Heap) (locs : List Loc) (ls : Array Slot), va_P (dC, dI) vwCl [k4_0 aM vM, k4_1 cI aM vM, k4_2 cI aM vM, k4_3 cI aM vM, k4_4 cI aM vM, k4_5 cJ aM vM, k4_6 cI aM vM, k4_7 cJ aM vM, k4_8 cJ aM vM, k4_9 cI aM vM] H → va_D A [k4_0 aM vM, k4_1 cI aM vM, k4_2 cI aM vM, k4_3 cI aM vM, k4_4 cI aM vM, k4_5 cJ aM vM, k4_6 cI aM vM, k4_7 cJ aM vM, k4_8 cJ aM vM, k4_9 cI aM vM] → va_S A s.heap H locs → lv_has ls 8 [(0, .ref (aM 0)), (1, .int x1), (2, .int x2), (3, .long l3), (5, .int x5), (6, .int x6)] → fX4_isStill_111 k4 k25 vM x1 x2 l3 x5 x6 = some y → WW H locs 0 0 ls 111 [] := by
    intro k4 hk4 k25 hk25 x1 x2 l3 x5 x6 H locs ls hP hD hS hl hf
    unfold fX4_isStill_111 at hf
    refine (hWW _ _ _ _ _ _ _).2 ?_
    refine lv_iconst (v := 0) hx hb dX4_isStill_111 (by decide) ?_
    exact (hWW _ _ _ _ _ _ _).1 (J112 k4 hk4 k25 hk25 x1 x2 l3 x5 x6 (0 : Int32) H locs ls hP hD hS (lv_sub hl [0, 1, 2, 3, 4, 5] rfl) hf)
  have J72 : ∀ (k4 : BX4 → Int32 → Int32 → Option Int32) (hk4 : ∀ (x1 : Int32) (x2 : Int32) (H : Heap) (locs : List Loc) (ls : Array Slot), va_P (dC, dI) vwCl [k4_0 aM vM, k4_1 cI aM vM, k4_2 cI aM vM, k4_3 cI aM vM, k4_4 cI aM vM, k4_5 cJ aM vM, k4_6 cI aM vM, k4_7 cJ aM vM, k4_8 cJ aM vM, k4_9 cI aM vM] H → va_D A [k4_0 aM vM, k4_1 cI aM vM, k4_2 cI aM vM, k4_3 cI aM vM, k4_4 cI aM vM, k4_5 cJ aM vM, k4_6 cI aM vM, k4_7 cJ aM vM, k4_8 cJ aM vM, k4_9 cI aM vM] → va_S A s.heap H locs → lv_has ls 8 [(0, .ref (aM 0)), (1, .int x1), (2, .int x2)] → k4 vM x1 x2 = some y → WW H locs 0 0 ls 4 []) (k25 : BX4 → Int32 → Int32 → Int64 → Int32 → Int32 → Int32 → Option Int32) (hk25 : ∀ (x1 : Int32) (x2 : Int32) (l3 : Int64) (x5 : Int32) (x6 : Int32) (x7 : Int32) (H : Heap) (locs : List Loc) (ls : Array Slot), va_P (dC, dI) vwCl [k4_0 aM vM, k4_1 cI aM vM, k4_2 cI aM vM, k4_3 cI aM vM, k4_4 cI aM vM, k4_5 cJ aM vM, k4_6 cI aM vM, k4_7 cJ aM vM, k4_8 cJ aM vM, k4_9 cI aM vM] H → va_D A [k4_0 aM vM, k4_1 cI aM vM, k4_2 cI aM vM, k4_3 cI aM vM, k4_4 cI aM vM, k4_5 cJ aM vM, k4_6 cI aM vM, k4_7 cJ aM vM, k4_8 cJ aM vM, k4_9 cI aM vM] → va_S A s.heap H locs → lv_has ls 8 [(0, .ref (aM 0)), (1, .int x1), (2, .int x2), (3, .long l3), (5, .int x5), (6, .int x6), (7, .int x7)] → k25 vM x1 x2 l3 x5 x6 x7 = some y → WW H locs 0 0 ls 25 []) (x1 : Int32) (x2 : Int32) (l3 : Int64) (x6 : Int32) (st0 : Int32) (H : Heap) (locs : List Loc) (ls : Array Slot), va_P (dC, dI) vwCl [k4_0 aM vM, k4_1 cI aM vM, k4_2 cI aM vM, k4_3 cI aM vM, k4_4 cI aM vM, k4_5 cJ aM vM, k4_6 cI aM vM, k4_7 cJ aM vM, k4_8 cJ aM vM, k4_9 cI aM vM] H → va_D A [k4_0 aM vM, k4_1 cI aM vM, k4_2 cI aM vM, k4_3 cI aM vM, k4_4 cI aM vM, k4_5 cJ aM vM, k4_6 cI aM vM, k4_7 cJ aM vM, k4_8 cJ aM vM, k4_9 cI aM vM] → va_S A s.heap H locs → lv_has ls 8 [(0, .ref (aM 0)), (1, .int x1), (2, .int x2), (3, .long l3), (6, .int x6)] → fX4_isStill_72 k4 k25 vM x1 x2 l3 x6 st0 = some y → WW H locs 0 0 ls 72 [.int st0] := by
    intro k4 hk4 k25 hk25 x1 x2 l3 x6 st0 H locs ls hP hD hS hl hf
    unfold fX4_isStill_72 at hf
    refine (hWW _ _ _ _ _ _ _).2 ?_
    refine lv_istore (lv' := [(5, .int st0), (0, .ref (aM 0)), (1, .int x1), (2, .int x2), (3, .long l3), (6, .int x6)]) hx hb dX4_isStill_72 hl (by decide) rfl (fun ls hl => ?_)
    refine lv_iload hx hb dX4_isStill_74 (lv_at hl 5 rfl) ?_
    refine lv_iconst (v := 1) hx hb dX4_isStill_76 (by decide) ?_
    refine lv_iadd hx hb dX4_isStill_77 ?_
    refine lv_aload_n hx hb dX4_isStill_78 rfl (lv_at hl 1 rfl) ?_
    refine va_get (D := (dC, dI)) (ci := 4) (v := .ref (aM 1)) (C := RX4) (T := TX4) (N := 21) hx hb hts hiX4 hown hK hP 0 rfl rfl 0 (by decide) hgX4_7 (fun _ h9 => h9) rfl dX4_isStill_79 ?_
    refine lv_iconst (v := 1) hx hb dX4_isStill_82 (by decide) ?_
    refine va_iald hx hb hK hP 1 0 rfl rfl (vpc rfl) dX4_isStill_83 ?_
    refine lv_icmp_ge (tgt := 111) hx hb dX4_isStill_84 (by decide) (fun c13 => ?_) (fun c13 => ?_)
    · have hf := oif_t c13 hf
      exact (hWW _ _ _ _ _ _ _).1 (J111 k4 hk4 k25 hk25 x1 x2 l3 st0 x6 H locs ls hP hD hS (lv_sub hl [1, 2, 3, 4, 0, 5] rfl) hf)
    · have hf := oif_f c13 hf
      refine lv_aload_n hx hb dX4_isStill_87 rfl (lv_at hl 1 rfl) ?_
      refine va_get (D := (dC, dI)) (ci := 4) (v := .ref (aM 5)) (C := RX4) (T := TX4) (N := 21) hx hb hts hiX4 hown hK hP 0 rfl rfl 7 (by decide) hgX4_22 (fun _ h9 => h9) rfl dX4_isStill_88 ?_
      refine lv_iload hx hb dX4_isStill_91 (lv_at hl 5 rfl) ?_
      refine lv_iconst (v := 1) hx hb dX4_isStill_93 (by decide) ?_
      refine lv_iadd hx hb dX4_isStill_94 ?_
      obtain ⟨hi14, hf⟩ := oinb rfl hf
      refine va_lald hx hb hK hP 5 1 rfl rfl hi14 dX4_isStill_95 ?_
      refine lv_aload_n hx hb dX4_isStill_96 rfl (lv_at hl 1 rfl) ?_
      refine va_get (D := (dC, dI)) (ci := 4) (v := .ref (aM 5)) (C := RX4) (T := TX4) (N := 21) hx hb hts hiX4 hown hK hP 0 rfl rfl 7 (by decide) hgX4_22 (fun _ h9 => h9) rfl dX4_isStill_97 ?_
      refine lv_iload hx hb dX4_isStill_100 (lv_at hl 5 rfl) ?_
      obtain ⟨hi15, hf⟩ := oinb rfl hf
      refine va_lald hx hb hK hP 5 1 rfl rfl hi15 dX4_isStill_102 ?_
      refine W.lcmp hx hb dX4_isStill_103 ?_
      refine lv_if_ne (tgt := 111) hx hb dX4_isStill_104 (by decide) (fun c16 => ?_) (fun c16 => ?_)
      · have hf := oif_f c16 hf
        exact (hWW _ _ _ _ _ _ _).1 (J111 k4 hk4 k25 hk25 x1 x2 l3 st0 x6 H locs ls hP hD hS (lv_sub hl [1, 2, 3, 4, 0, 5] rfl) hf)
      · have hf := oif_t c16 hf
        refine lv_iconst (v := 1) hx hb dX4_isStill_107 (by decide) ?_
        refine lv_goto (tgt := 112) hx hb dX4_isStill_108 (by decide) ?_
        exact (hWW _ _ _ _ _ _ _).1 (J112 k4 hk4 k25 hk25 x1 x2 l3 st0 x6 (1 : Int32) H locs ls hP hD hS (lv_sub hl [1, 2, 3, 4, 0, 5] rfl) hf)
  have J71 : ∀ (k4 : BX4 → Int32 → Int32 → Option Int32) (hk4 : ∀ (x1 : Int32) (x2 : Int32) (H : Heap) (locs : List Loc) (ls : Array Slot), va_P (dC, dI) vwCl [k4_0 aM vM, k4_1 cI aM vM, k4_2 cI aM vM, k4_3 cI aM vM, k4_4 cI aM vM, k4_5 cJ aM vM, k4_6 cI aM vM, k4_7 cJ aM vM, k4_8 cJ aM vM, k4_9 cI aM vM] H → va_D A [k4_0 aM vM, k4_1 cI aM vM, k4_2 cI aM vM, k4_3 cI aM vM, k4_4 cI aM vM, k4_5 cJ aM vM, k4_6 cI aM vM, k4_7 cJ aM vM, k4_8 cJ aM vM, k4_9 cI aM vM] → va_S A s.heap H locs → lv_has ls 8 [(0, .ref (aM 0)), (1, .int x1), (2, .int x2)] → k4 vM x1 x2 = some y → WW H locs 0 0 ls 4 []) (k25 : BX4 → Int32 → Int32 → Int64 → Int32 → Int32 → Int32 → Option Int32) (hk25 : ∀ (x1 : Int32) (x2 : Int32) (l3 : Int64) (x5 : Int32) (x6 : Int32) (x7 : Int32) (H : Heap) (locs : List Loc) (ls : Array Slot), va_P (dC, dI) vwCl [k4_0 aM vM, k4_1 cI aM vM, k4_2 cI aM vM, k4_3 cI aM vM, k4_4 cI aM vM, k4_5 cJ aM vM, k4_6 cI aM vM, k4_7 cJ aM vM, k4_8 cJ aM vM, k4_9 cI aM vM] H → va_D A [k4_0 aM vM, k4_1 cI aM vM, k4_2 cI aM vM, k4_3 cI aM vM, k4_4 cI aM vM, k4_5 cJ aM vM, k4_6 cI aM vM, k4_7 cJ aM vM, k4_8 cJ aM vM, k4_9 cI aM vM] → va_S A s.heap H locs → lv_has ls 8 [(0, .ref (aM 0)), (1, .int x1), (2, .int x2), (3, .long l3), (5, .int x5), (6, .int x6), (7, .int x7)] → k25 vM x1 x2 l3 x5 x6 x7 = some y → WW H locs 0 0 ls 25 []) (x1 : Int32) (x2 : Int32) (l3 : Int64) (x6 : Int32) (H : Heap) (locs : List Loc) (ls : Array Slot), va_P (dC, dI) vwCl [k4_0 aM vM, k4_1 cI aM vM, k4_2 cI aM vM, k4_3 cI aM vM, k4_4 cI aM vM, k4_5 cJ aM vM, k4_6 cI aM vM, k4_7 cJ aM vM, k4_8 cJ aM vM, k4_9 cI aM vM] H → va_D A [k4_0 aM vM, k4_1 cI aM vM, k4_2 cI aM vM, k4_3 cI aM vM, k4_4 cI aM vM, k4_5 cJ aM vM, k4_6 cI aM vM, k4_7 cJ aM vM, k4_8 cJ aM vM, k4_9 cI aM vM] → va_S A s.heap H locs → lv_has ls 8 [(0, .ref (aM 0)), (1, .int x1), (2, .int x2), (3, .long l3), (6, .int x6)] → fX4_isStill_71 k4 k25 vM x1 x2 l3 x6 = some y → WW H locs 0 0 ls 71 [] := by
    intro k4 hk4 k25 hk25 x1 x2 l3 x6 H locs ls hP hD hS hl hf
    unfold fX4_isStill_71 at hf
    refine (hWW _ _ _ _ _ _ _).2 ?_
    refine lv_iconst (v := 0) hx hb dX4_isStill_71 (by decide) ?_
    exact (hWW _ _ _ _ _ _ _).1 (J72 k4 hk4 k25 hk25 x1 x2 l3 x6 (0 : Int32) H locs ls hP hD hS (lv_sub hl [0, 1, 2, 3, 4] rfl) hf)
  have J257 : ∀ (k4 : BX4 → Int32 → Int32 → Option Int32) (hk4 : ∀ (x1 : Int32) (x2 : Int32) (H : Heap) (locs : List Loc) (ls : Array Slot), va_P (dC, dI) vwCl [k4_0 aM vM, k4_1 cI aM vM, k4_2 cI aM vM, k4_3 cI aM vM, k4_4 cI aM vM, k4_5 cJ aM vM, k4_6 cI aM vM, k4_7 cJ aM vM, k4_8 cJ aM vM, k4_9 cI aM vM] H → va_D A [k4_0 aM vM, k4_1 cI aM vM, k4_2 cI aM vM, k4_3 cI aM vM, k4_4 cI aM vM, k4_5 cJ aM vM, k4_6 cI aM vM, k4_7 cJ aM vM, k4_8 cJ aM vM, k4_9 cI aM vM] → va_S A s.heap H locs → lv_has ls 8 [(0, .ref (aM 0)), (1, .int x1), (2, .int x2)] → k4 vM x1 x2 = some y → WW H locs 0 0 ls 4 []) (k164 : BX4 → Int32 → Int32 → Int64 → Int32 → Int32 → Int32 → Option Int32) (hk164 : ∀ (x1 : Int32) (x2 : Int32) (l3 : Int64) (x5 : Int32) (x6 : Int32) (x7 : Int32) (H : Heap) (locs : List Loc) (ls : Array Slot), va_P (dC, dI) vwCl [k4_0 aM vM, k4_1 cI aM vM, k4_2 cI aM vM, k4_3 cI aM vM, k4_4 cI aM vM, k4_5 cJ aM vM, k4_6 cI aM vM, k4_7 cJ aM vM, k4_8 cJ aM vM, k4_9 cI aM vM] H → va_D A [k4_0 aM vM, k4_1 cI aM vM, k4_2 cI aM vM, k4_3 cI aM vM, k4_4 cI aM vM, k4_5 cJ aM vM, k4_6 cI aM vM, k4_7 cJ aM vM, k4_8 cJ aM vM, k4_9 cI aM vM] → va_S A s.heap H locs → lv_has ls 8 [(0, .ref (aM 0)), (1, .int x1), (2, .int x2), (3, .long l3), (5, .int x5), (6, .int x6), (7, .int x7)] → k164 vM x1 x2 l3 x5 x6 x7 = some y → WW H locs 0 0 ls 164 []) (x1 : Int32) (x2 : Int32) (l3 : Int64) (x5 : Int32) (x7 : Int32) (st0 : Int32) (st1 : Int32) (H : Heap) (locs : List Loc) (ls : Array Slot), va_P (dC, dI) vwCl [k4_0 aM vM, k4_1 cI aM vM, k4_2 cI aM vM, k4_3 cI aM vM, k4_4 cI aM vM, k4_5 cJ aM vM, k4_6 cI aM vM, k4_7 cJ aM vM, k4_8 cJ aM vM, k4_9 cI aM vM] H → va_D A [k4_0 aM vM, k4_1 cI aM vM, k4_2 cI aM vM, k4_3 cI aM vM, k4_4 cI aM vM, k4_5 cJ aM vM, k4_6 cI aM vM, k4_7 cJ aM vM, k4_8 cJ aM vM, k4_9 cI aM vM] → va_S A s.heap H locs → lv_has ls 8 [(0, .ref (aM 0)), (1, .int x1), (2, .int x2), (3, .long l3), (5, .int x5), (7, .int x7)] → fX4_isStill_257 k4 k164 vM x1 x2 l3 x5 x7 st0 st1 = some y → WW H locs 0 0 ls 257 [.int st1, .int st0] := by
    intro k4 hk4 k164 hk164 x1 x2 l3 x5 x7 st0 st1 H locs ls hP hD hS hl hf
    unfold fX4_isStill_257 at hf
    refine (hWW _ _ _ _ _ _ _).2 ?_
    refine lv_isub hx hb dX4_isStill_257 ?_
    obtain ⟨z34, ez34, hf⟩ := elet_out hf
    refine lvn_i ez34 ?_
    refine lv_istore (lv' := [(6, .int z34), (0, .ref (aM 0)), (1, .int x1), (2, .int x2), (3, .long l3), (5, .int x5), (7, .int x7)]) hx hb dX4_isStill_258 hl (by decide) rfl (fun ls hl => ?_)
    refine lv_goto (tgt := 164) hx hb dX4_isStill_260 (by decide) ?_
    exact (hWW _ _ _ _ _ _ _).1 (hk164 x1 x2 l3 x5 z34 x7 H locs ls hP hD hS (lv_sub hl [1, 2, 3, 4, 5, 0, 6] rfl) hf)
  have J243 : ∀ (k4 : BX4 → Int32 → Int32 → Option Int32) (hk4 : ∀ (x1 : Int32) (x2 : Int32) (H : Heap) (locs : List Loc) (ls : Array Slot), va_P (dC, dI) vwCl [k4_0 aM vM, k4_1 cI aM vM, k4_2 cI aM vM, k4_3 cI aM vM, k4_4 cI aM vM, k4_5 cJ aM vM, k4_6 cI aM vM, k4_7 cJ aM vM, k4_8 cJ aM vM, k4_9 cI aM vM] H → va_D A [k4_0 aM vM, k4_1 cI aM vM, k4_2 cI aM vM, k4_3 cI aM vM, k4_4 cI aM vM, k4_5 cJ aM vM, k4_6 cI aM vM, k4_7 cJ aM vM, k4_8 cJ aM vM, k4_9 cI aM vM] → va_S A s.heap H locs → lv_has ls 8 [(0, .ref (aM 0)), (1, .int x1), (2, .int x2)] → k4 vM x1 x2 = some y → WW H locs 0 0 ls 4 []) (k164 : BX4 → Int32 → Int32 → Int64 → Int32 → Int32 → Int32 → Option Int32) (hk164 : ∀ (x1 : Int32) (x2 : Int32) (l3 : Int64) (x5 : Int32) (x6 : Int32) (x7 : Int32) (H : Heap) (locs : List Loc) (ls : Array Slot), va_P (dC, dI) vwCl [k4_0 aM vM, k4_1 cI aM vM, k4_2 cI aM vM, k4_3 cI aM vM, k4_4 cI aM vM, k4_5 cJ aM vM, k4_6 cI aM vM, k4_7 cJ aM vM, k4_8 cJ aM vM, k4_9 cI aM vM] H → va_D A [k4_0 aM vM, k4_1 cI aM vM, k4_2 cI aM vM, k4_3 cI aM vM, k4_4 cI aM vM, k4_5 cJ aM vM, k4_6 cI aM vM, k4_7 cJ aM vM, k4_8 cJ aM vM, k4_9 cI aM vM] → va_S A s.heap H locs → lv_has ls 8 [(0, .ref (aM 0)), (1, .int x1), (2, .int x2), (3, .long l3), (5, .int x5), (6, .int x6), (7, .int x7)] → k164 vM x1 x2 l3 x5 x6 x7 = some y → WW H locs 0 0 ls 164 []) (x1 : Int32) (x2 : Int32) (l3 : Int64) (x5 : Int32) (x6 : Int32) (st0 : Int32) (H : Heap) (locs : List Loc) (ls : Array Slot), va_P (dC, dI) vwCl [k4_0 aM vM, k4_1 cI aM vM, k4_2 cI aM vM, k4_3 cI aM vM, k4_4 cI aM vM, k4_5 cJ aM vM, k4_6 cI aM vM, k4_7 cJ aM vM, k4_8 cJ aM vM, k4_9 cI aM vM] H → va_D A [k4_0 aM vM, k4_1 cI aM vM, k4_2 cI aM vM, k4_3 cI aM vM, k4_4 cI aM vM, k4_5 cJ aM vM, k4_6 cI aM vM, k4_7 cJ aM vM, k4_8 cJ aM vM, k4_9 cI aM vM] → va_S A s.heap H locs → lv_has ls 8 [(0, .ref (aM 0)), (1, .int x1), (2, .int x2), (3, .long l3), (5, .int x5), (6, .int x6)] → fX4_isStill_243 k4 k164 vM x1 x2 l3 x5 x6 st0 = some y → WW H locs 0 0 ls 243 [.int st0] := by
    intro k4 hk4 k164 hk164 x1 x2 l3 x5 x6 st0 H locs ls hP hD hS hl hf
    unfold fX4_isStill_243 at hf
    refine (hWW _ _ _ _ _ _ _).2 ?_
    refine lv_istore (lv' := [(7, .int st0), (0, .ref (aM 0)), (1, .int x1), (2, .int x2), (3, .long l3), (5, .int x5), (6, .int x6)]) hx hb dX4_isStill_243 hl (by decide) rfl (fun ls hl => ?_)
    refine lv_iload hx hb dX4_isStill_245 (lv_at hl 6 rfl) ?_
    refine lv_iload hx hb dX4_isStill_247 (lv_at hl 0 rfl) ?_
    refine lv_if_eq (tgt := 256) hx hb dX4_isStill_249 (by decide) (fun c33 => ?_) (fun c33 => ?_)
    · have hf := oif_t c33 hf
      refine lv_iconst (v := 0) hx hb dX4_isStill_256 (by decide) ?_
      exact (hWW _ _ _ _ _ _ _).1 (J257 k4 hk4 k164 hk164 x1 x2 l3 x5 st0 x6 (0 : Int32) H locs ls hP hD hS (lv_sub hl [1, 2, 3, 4, 5, 0] rfl) hf)
    · have hf := oif_f c33 hf
      refine lv_iconst (v := 1) hx hb dX4_isStill_252 (by decide) ?_
      refine lv_goto (tgt := 257) hx hb dX4_isStill_253 (by decide) ?_
      exact (hWW _ _ _ _ _ _ _).1 (J257 k4 hk4 k164 hk164 x1 x2 l3 x5 st0 x6 (1 : Int32) H locs ls hP hD hS (lv_sub hl [1, 2, 3, 4, 5, 0] rfl) hf)
  have J242 : ∀ (k4 : BX4 → Int32 → Int32 → Option Int32) (hk4 : ∀ (x1 : Int32) (x2 : Int32) (H : Heap) (locs : List Loc) (ls : Array Slot), va_P (dC, dI) vwCl [k4_0 aM vM, k4_1 cI aM vM, k4_2 cI aM vM, k4_3 cI aM vM, k4_4 cI aM vM, k4_5 cJ aM vM, k4_6 cI aM vM, k4_7 cJ aM vM, k4_8 cJ aM vM, k4_9 cI aM vM] H → va_D A [k4_0 aM vM, k4_1 cI aM vM, k4_2 cI aM vM, k4_3 cI aM vM, k4_4 cI aM vM, k4_5 cJ aM vM, k4_6 cI aM vM, k4_7 cJ aM vM, k4_8 cJ aM vM, k4_9 cI aM vM] → va_S A s.heap H locs → lv_has ls 8 [(0, .ref (aM 0)), (1, .int x1), (2, .int x2)] → k4 vM x1 x2 = some y → WW H locs 0 0 ls 4 []) (k164 : BX4 → Int32 → Int32 → Int64 → Int32 → Int32 → Int32 → Option Int32) (hk164 : ∀ (x1 : Int32) (x2 : Int32) (l3 : Int64) (x5 : Int32) (x6 : Int32) (x7 : Int32) (H : Heap) (locs : List Loc) (ls : Array Slot), va_P (dC, dI) vwCl [k4_0 aM vM, k4_1 cI aM vM, k4_2 cI aM vM, k4_3 cI aM vM, k4_4 cI aM vM, k4_5 cJ aM vM, k4_6 cI aM vM, k4_7 cJ aM vM, k4_8 cJ aM vM, k4_9 cI aM vM] H → va_D A [k4_0 aM vM, k4_1 cI aM vM, k4_2 cI aM vM, k4_3 cI aM vM, k4_4 cI aM vM, k4_5 cJ aM vM, k4_6 cI aM vM, k4_7 cJ aM vM, k4_8 cJ aM vM, k4_9 cI aM vM] → va_S A s.heap H locs → lv_has ls 8 [(0, .ref (aM 0)), (1, .int x1), (2, .int x2), (3, .long l3), (5, .int x5), (6, .int x6), (7, .int x7)] → k164 vM x1 x2 l3 x5 x6 x7 = some y → WW H locs 0 0 ls 164 []) (x1 : Int32) (x2 : Int32) (l3 : Int64) (x5 : Int32) (x6 : Int32) (H : Heap) (locs : List Loc) (ls : Array Slot), va_P (dC, dI) vwCl [k4_0 aM vM, k4_1 cI aM vM, k4_2 cI aM vM, k4_3 cI aM vM, k4_4 cI aM vM, k4_5 cJ aM vM, k4_6 cI aM vM, k4_7 cJ aM vM, k4_8 cJ aM vM, k4_9 cI aM vM] H → va_D A [k4_0 aM vM, k4_1 cI aM vM, k4_2 cI aM vM, k4_3 cI aM vM, k4_4 cI aM vM, k4_5 cJ aM vM, k4_6 cI aM vM, k4_7 cJ aM vM, k4_8 cJ aM vM, k4_9 cI aM vM] → va_S A s.heap H locs → lv_has ls 8 [(0, .ref (aM 0)), (1, .int x1), (2, .int x2), (3, .long l3), (5, .int x5), (6, .int x6)] → fX4_isStill_242 k4 k164 vM x1 x2 l3 x5 x6 = some y → WW H locs 0 0 ls 242 [] := by
    intro k4 hk4 k164 hk164 x1 x2 l3 x5 x6 H locs ls hP hD hS hl hf
    unfold fX4_isStill_242 at hf
    refine (hWW _ _ _ _ _ _ _).2 ?_
    refine lv_iconst (v := 0) hx hb dX4_isStill_242 (by decide) ?_
    exact (hWW _ _ _ _ _ _ _).1 (J243 k4 hk4 k164 hk164 x1 x2 l3 x5 x6 (0 : Int32) H locs ls hP hD hS (lv_sub hl [0, 1, 2, 3, 4, 5] rfl) hf)
  have J211 : ∀ (k4 : BX4 → Int32 → Int32 → Option Int32) (hk4 : ∀ (x1 : Int32) (x2 : Int32) (H : Heap) (locs : List Loc) (ls : Array Slot), va_P (dC, dI) vwCl [k4_0 aM vM, k4_1 cI aM vM, k4_2 cI aM vM, k4_3 cI aM vM, k4_4 cI aM vM, k4_5 cJ aM vM, k4_6 cI aM vM, k4_7 cJ aM vM, k4_8 cJ aM vM, k4_9 cI aM vM] H → va_D A [k4_0 aM vM, k4_1 cI aM vM, k4_2 cI aM vM, k4_3 cI aM vM, k4_4 cI aM vM, k4_5 cJ aM vM, k4_6 cI aM vM, k4_7 cJ aM vM, k4_8 cJ aM vM, k4_9 cI aM vM] → va_S A s.heap H locs → lv_has ls 8 [(0, .ref (aM 0)), (1, .int x1), (2, .int x2)] → k4 vM x1 x2 = some y → WW H locs 0 0 ls 4 []) (k164 : BX4 → Int32 → Int32 → Int64 → Int32 → Int32 → Int32 → Option Int32) (hk164 : ∀ (x1 : Int32) (x2 : Int32) (l3 : Int64) (x5 : Int32) (x6 : Int32) (x7 : Int32) (H : Heap) (locs : List Loc) (ls : Array Slot), va_P (dC, dI) vwCl [k4_0 aM vM, k4_1 cI aM vM, k4_2 cI aM vM, k4_3 cI aM vM, k4_4 cI aM vM, k4_5 cJ aM vM, k4_6 cI aM vM, k4_7 cJ aM vM, k4_8 cJ aM vM, k4_9 cI aM vM] H → va_D A [k4_0 aM vM, k4_1 cI aM vM, k4_2 cI aM vM, k4_3 cI aM vM, k4_4 cI aM vM, k4_5 cJ aM vM, k4_6 cI aM vM, k4_7 cJ aM vM, k4_8 cJ aM vM, k4_9 cI aM vM] → va_S A s.heap H locs → lv_has ls 8 [(0, .ref (aM 0)), (1, .int x1), (2, .int x2), (3, .long l3), (5, .int x5), (6, .int x6), (7, .int x7)] → k164 vM x1 x2 l3 x5 x6 x7 = some y → WW H locs 0 0 ls 164 []) (x1 : Int32) (x2 : Int32) (l3 : Int64) (x6 : Int32) (st0 : Int32) (H : Heap) (locs : List Loc) (ls : Array Slot), va_P (dC, dI) vwCl [k4_0 aM vM, k4_1 cI aM vM, k4_2 cI aM vM, k4_3 cI aM vM, k4_4 cI aM vM, k4_5 cJ aM vM, k4_6 cI aM vM, k4_7 cJ aM vM, k4_8 cJ aM vM, k4_9 cI aM vM] H → va_D A [k4_0 aM vM, k4_1 cI aM vM, k4_2 cI aM vM, k4_3 cI aM vM, k4_4 cI aM vM, k4_5 cJ aM vM, k4_6 cI aM vM, k4_7 cJ aM vM, k4_8 cJ aM vM, k4_9 cI aM vM] → va_S A s.heap H locs → lv_has ls 8 [(0, .ref (aM 0)), (1, .int x1), (2, .int x2), (3, .long l3), (6, .int x6)] → fX4_isStill_211 k4 k164 vM x1 x2 l3 x6 st0 = some y → WW H locs 0 0 ls 211 [.int st0] := by
    intro k4 hk4 k164 hk164 x1 x2 l3 x6 st0 H locs ls hP hD hS hl hf
    unfold fX4_isStill_211 at hf
    refine (hWW _ _ _ _ _ _ _).2 ?_
    refine lv_istore (lv' := [(5, .int st0), (0, .ref (aM 0)), (1, .int x1), (2, .int x2), (3, .long l3), (6, .int x6)]) hx hb dX4_isStill_211 hl (by decide) rfl (fun ls hl => ?_)
    refine lv_iload hx hb dX4_isStill_213 (lv_at hl 5 rfl) ?_
    refine lv_if_le (tgt := 242) hx hb dX4_isStill_215 (by decide) (fun c29 => ?_) (fun c29 => ?_)
    · have hf := oif_t c29 hf
      exact (hWW _ _ _ _ _ _ _).1 (J242 k4 hk4 k164 hk164 x1 x2 l3 st0 x6 H locs ls hP hD hS (lv_sub hl [1, 2, 3, 4, 0, 5] rfl) hf)
    · have hf := oif_f c29 hf
      refine lv_aload_n hx hb dX4_isStill_218 rfl (lv_at hl 1 rfl) ?_
      refine va_get (D := (dC, dI)) (ci := 4) (v := .ref (aM 5)) (C := RX4) (T := TX4) (N := 21) hx hb hts hiX4 hown hK hP 0 rfl rfl 7 (by decide) hgX4_22 (fun _ h9 => h9) rfl dX4_isStill_219 ?_
      refine lv_iload hx hb dX4_isStill_222 (lv_at hl 5 rfl) ?_
      refine lv_iconst (v := 1) hx hb dX4_isStill_224 (by decide) ?_
      refine lv_isub hx hb dX4_isStill_225 ?_
      obtain ⟨hi30, hf⟩ := oinb rfl hf
      refine va_lald hx hb hK hP 5 1 rfl rfl hi30 dX4_isStill_226 ?_
      refine lv_aload_n hx hb dX4_isStill_227 rfl (lv_at hl 1 rfl) ?_
      refine va_get (D := (dC, dI)) (ci := 4) (v := .ref (aM 5)) (C := RX4) (T := TX4) (N := 21) hx hb hts hiX4 hown hK hP 0 rfl rfl 7 (by decide) hgX4_22 (fun _ h9 => h9) rfl dX4_isStill_228 ?_
      refine lv_iload hx hb dX4_isStill_231 (lv_at hl 5 rfl) ?_
      obtain ⟨hi31, hf⟩ := oinb rfl hf
      refine va_lald hx hb hK hP 5 1 rfl rfl hi31 dX4_isStill_233 ?_
      refine W.lcmp hx hb dX4_isStill_234 ?_
      refine lv_if_ne (tgt := 242) hx hb dX4_isStill_235 (by decide) (fun c32 => ?_) (fun c32 => ?_)
      · have hf := oif_f c32 hf
        exact (hWW _ _ _ _ _ _ _).1 (J242 k4 hk4 k164 hk164 x1 x2 l3 st0 x6 H locs ls hP hD hS (lv_sub hl [1, 2, 3, 4, 0, 5] rfl) hf)
      · have hf := oif_t c32 hf
        refine lv_iconst (v := 1) hx hb dX4_isStill_238 (by decide) ?_
        refine lv_goto (tgt := 243) hx hb dX4_isStill_239 (by decide) ?_
        exact (hWW _ _ _ _ _ _ _).1 (J243 k4 hk4 k164 hk164 x1 x2 l3 st0 x6 (1 : Int32) H locs ls hP hD hS (lv_sub hl [1, 2, 3, 4, 0, 5] rfl) hf)
  have J210 : ∀ (k4 : BX4 → Int32 → Int32 → Option Int32) (hk4 : ∀ (x1 : Int32) (x2 : Int32) (H : Heap) (locs : List Loc) (ls : Array Slot), va_P (dC, dI) vwCl [k4_0 aM vM, k4_1 cI aM vM, k4_2 cI aM vM, k4_3 cI aM vM, k4_4 cI aM vM, k4_5 cJ aM vM, k4_6 cI aM vM, k4_7 cJ aM vM, k4_8 cJ aM vM, k4_9 cI aM vM] H → va_D A [k4_0 aM vM, k4_1 cI aM vM, k4_2 cI aM vM, k4_3 cI aM vM, k4_4 cI aM vM, k4_5 cJ aM vM, k4_6 cI aM vM, k4_7 cJ aM vM, k4_8 cJ aM vM, k4_9 cI aM vM] → va_S A s.heap H locs → lv_has ls 8 [(0, .ref (aM 0)), (1, .int x1), (2, .int x2)] → k4 vM x1 x2 = some y → WW H locs 0 0 ls 4 []) (k164 : BX4 → Int32 → Int32 → Int64 → Int32 → Int32 → Int32 → Option Int32) (hk164 : ∀ (x1 : Int32) (x2 : Int32) (l3 : Int64) (x5 : Int32) (x6 : Int32) (x7 : Int32) (H : Heap) (locs : List Loc) (ls : Array Slot), va_P (dC, dI) vwCl [k4_0 aM vM, k4_1 cI aM vM, k4_2 cI aM vM, k4_3 cI aM vM, k4_4 cI aM vM, k4_5 cJ aM vM, k4_6 cI aM vM, k4_7 cJ aM vM, k4_8 cJ aM vM, k4_9 cI aM vM] H → va_D A [k4_0 aM vM, k4_1 cI aM vM, k4_2 cI aM vM, k4_3 cI aM vM, k4_4 cI aM vM, k4_5 cJ aM vM, k4_6 cI aM vM, k4_7 cJ aM vM, k4_8 cJ aM vM, k4_9 cI aM vM] → va_S A s.heap H locs → lv_has ls 8 [(0, .ref (aM 0)), (1, .int x1), (2, .int x2), (3, .long l3), (5, .int x5), (6, .int x6), (7, .int x7)] → k164 vM x1 x2 l3 x5 x6 x7 = some y → WW H locs 0 0 ls 164 []) (x1 : Int32) (x2 : Int32) (l3 : Int64) (x6 : Int32) (H : Heap) (locs : List Loc) (ls : Array Slot), va_P (dC, dI) vwCl [k4_0 aM vM, k4_1 cI aM vM, k4_2 cI aM vM, k4_3 cI aM vM, k4_4 cI aM vM, k4_5 cJ aM vM, k4_6 cI aM vM, k4_7 cJ aM vM, k4_8 cJ aM vM, k4_9 cI aM vM] H → va_D A [k4_0 aM vM, k4_1 cI aM vM, k4_2 cI aM vM, k4_3 cI aM vM, k4_4 cI aM vM, k4_5 cJ aM vM, k4_6 cI aM vM, k4_7 cJ aM vM, k4_8 cJ aM vM, k4_9 cI aM vM] → va_S A s.heap H locs → lv_has ls 8 [(0, .ref (aM 0)), (1, .int x1), (2, .int x2), (3, .long l3), (6, .int x6)] → fX4_isStill_210 k4 k164 vM x1 x2 l3 x6 = some y → WW H locs 0 0 ls 210 [] := by
    intro k4 hk4 k164 hk164 x1 x2 l3 x6 H locs ls hP hD hS hl hf
    unfold fX4_isStill_210 at hf
    refine (hWW _ _ _ _ _ _ _).2 ?_
    refine lv_iconst (v := 0) hx hb dX4_isStill_210 (by decide) ?_
    exact (hWW _ _ _ _ _ _ _).1 (J211 k4 hk4 k164 hk164 x1 x2 l3 x6 (0 : Int32) H locs ls hP hD hS (lv_sub hl [0, 1, 2, 3, 4] rfl) hf)
  have J283 : ∀ (k4 : BX4 → Int32 → Int32 → Option Int32) (hk4 : ∀ (x1 : Int32) (x2 : Int32) (H : Heap) (locs : List Loc) (ls : Array Slot), va_P (dC, dI) vwCl [k4_0 aM vM, k4_1 cI aM vM, k4_2 cI aM vM, k4_3 cI aM vM, k4_4 cI aM vM, k4_5 cJ aM vM, k4_6 cI aM vM, k4_7 cJ aM vM, k4_8 cJ aM vM, k4_9 cI aM vM] H → va_D A [k4_0 aM vM, k4_1 cI aM vM, k4_2 cI aM vM, k4_3 cI aM vM, k4_4 cI aM vM, k4_5 cJ aM vM, k4_6 cI aM vM, k4_7 cJ aM vM, k4_8 cJ aM vM, k4_9 cI aM vM] → va_S A s.heap H locs → lv_has ls 8 [(0, .ref (aM 0)), (1, .int x1), (2, .int x2)] → k4 vM x1 x2 = some y → WW H locs 0 0 ls 4 []) (x2 : Int32) (st0 : Int32) (H : Heap) (locs : List Loc) (ls : Array Slot), va_P (dC, dI) vwCl [k4_0 aM vM, k4_1 cI aM vM, k4_2 cI aM vM, k4_3 cI aM vM, k4_4 cI aM vM, k4_5 cJ aM vM, k4_6 cI aM vM, k4_7 cJ aM vM, k4_8 cJ aM vM, k4_9 cI aM vM] H → va_D A [k4_0 aM vM, k4_1 cI aM vM, k4_2 cI aM vM, k4_3 cI aM vM, k4_4 cI aM vM, k4_5 cJ aM vM, k4_6 cI aM vM, k4_7 cJ aM vM, k4_8 cJ aM vM, k4_9 cI aM vM] → va_S A s.heap H locs → lv_has ls 8 [(0, .ref (aM 0)), (2, .int x2)] → fX4_isStill_283 k4 vM x2 st0 = some y → WW H locs 0 0 ls 283 [.int st0] := by
    intro k4 hk4 x2 st0 H locs ls hP hD hS hl hf
    unfold fX4_isStill_283 at hf
    refine (hWW _ _ _ _ _ _ _).2 ?_
    refine lv_istore_n (lv' := [(1, .int st0), (0, .ref (aM 0)), (2, .int x2)]) hx hb dX4_isStill_283 rfl hl (by decide) rfl (fun ls hl => ?_)
    obtain ⟨z35, ez35, hf⟩ := elet_out hf
    refine lv_iinc (v := z35) (lv' := [(2, .int z35), (1, .int st0), (0, .ref (aM 0))]) hx hb dX4_isStill_284 hl (k := 2) rfl (by rw [ez35]; rfl) (by decide) rfl (fun ls hl => ?_)
    refine lv_goto (tgt := 4) hx hb dX4_isStill_287 (by decide) ?_
    exact (hWW _ _ _ _ _ _ _).1 (hk4 st0 z35 H locs ls hP hD hS (lv_sub hl [2, 1, 0] rfl) hf)
  have J278 : ∀ (k4 : BX4 → Int32 → Int32 → Option Int32) (hk4 : ∀ (x1 : Int32) (x2 : Int32) (H : Heap) (locs : List Loc) (ls : Array Slot), va_P (dC, dI) vwCl [k4_0 aM vM, k4_1 cI aM vM, k4_2 cI aM vM, k4_3 cI aM vM, k4_4 cI aM vM, k4_5 cJ aM vM, k4_6 cI aM vM, k4_7 cJ aM vM, k4_8 cJ aM vM, k4_9 cI aM vM] H → va_D A [k4_0 aM vM, k4_1 cI aM vM, k4_2 cI aM vM, k4_3 cI aM vM, k4_4 cI aM vM, k4_5 cJ aM vM, k4_6 cI aM vM, k4_7 cJ aM vM, k4_8 cJ aM vM, k4_9 cI aM vM] → va_S A s.heap H locs → lv_has ls 8 [(0, .ref (aM 0)), (1, .int x1), (2, .int x2)] → k4 vM x1 x2 = some y → WW H locs 0 0 ls 4 []) (x2 : Int32) (H : Heap) (locs : List Loc) (ls : Array Slot), va_P (dC, dI) vwCl [k4_0 aM vM, k4_1 cI aM vM, k4_2 cI aM vM, k4_3 cI aM vM, k4_4 cI aM vM, k4_5 cJ aM vM, k4_6 cI aM vM, k4_7 cJ aM vM, k4_8 cJ aM vM, k4_9 cI aM vM] H → va_D A [k4_0 aM vM, k4_1 cI aM vM, k4_2 cI aM vM, k4_3 cI aM vM, k4_4 cI aM vM, k4_5 cJ aM vM, k4_6 cI aM vM, k4_7 cJ aM vM, k4_8 cJ aM vM, k4_9 cI aM vM] → va_S A s.heap H locs → lv_has ls 8 [(0, .ref (aM 0)), (2, .int x2)] → fX4_isStill_278 k4 vM x2 = some y → WW H locs 0 0 ls 278 [] := by
    intro k4 hk4 x2 H locs ls hP hD hS hl hf
    unfold fX4_isStill_278 at hf
    refine (hWW _ _ _ _ _ _ _).2 ?_
    refine lv_iconst (v := 1) hx hb dX4_isStill_278 (by decide) ?_
    refine lv_goto (tgt := 283) hx hb dX4_isStill_279 (by decide) ?_
    exact (hWW _ _ _ _ _ _ _).1 (J283 k4 hk4 x2 (1 : Int32) H locs ls hP hD hS (lv_sub hl [0, 1] rfl) hf)
  have J282 : ∀ (k4 : BX4 → Int32 → Int32 → Option Int32) (hk4 : ∀ (x1 : Int32) (x2 : Int32) (H : Heap) (locs : List Loc) (ls : Array Slot), va_P (dC, dI) vwCl [k4_0 aM vM, k4_1 cI aM vM, k4_2 cI aM vM, k4_3 cI aM vM, k4_4 cI aM vM, k4_5 cJ aM vM, k4_6 cI aM vM, k4_7 cJ aM vM, k4_8 cJ aM vM, k4_9 cI aM vM] H → va_D A [k4_0 aM vM, k4_1 cI aM vM, k4_2 cI aM vM, k4_3 cI aM vM, k4_4 cI aM vM, k4_5 cJ aM vM, k4_6 cI aM vM, k4_7 cJ aM vM, k4_8 cJ aM vM, k4_9 cI aM vM] → va_S A s.heap H locs → lv_has ls 8 [(0, .ref (aM 0)), (1, .int x1), (2, .int x2)] → k4 vM x1 x2 = some y → WW H locs 0 0 ls 4 []) (x2 : Int32) (H : Heap) (locs : List Loc) (ls : Array Slot), va_P (dC, dI) vwCl [k4_0 aM vM, k4_1 cI aM vM, k4_2 cI aM vM, k4_3 cI aM vM, k4_4 cI aM vM, k4_5 cJ aM vM, k4_6 cI aM vM, k4_7 cJ aM vM, k4_8 cJ aM vM, k4_9 cI aM vM] H → va_D A [k4_0 aM vM, k4_1 cI aM vM, k4_2 cI aM vM, k4_3 cI aM vM, k4_4 cI aM vM, k4_5 cJ aM vM, k4_6 cI aM vM, k4_7 cJ aM vM, k4_8 cJ aM vM, k4_9 cI aM vM] → va_S A s.heap H locs → lv_has ls 8 [(0, .ref (aM 0)), (2, .int x2)] → fX4_isStill_282 k4 vM x2 = some y → WW H locs 0 0 ls 282 [] := by
    intro k4 hk4 x2 H locs ls hP hD hS hl hf
    unfold fX4_isStill_282 at hf
    refine (hWW _ _ _ _ _ _ _).2 ?_
    refine lv_iconst (v := 0) hx hb dX4_isStill_282 (by decide) ?_
    exact (hWW _ _ _ _ _ _ _).1 (J283 k4 hk4 x2 (0 : Int32) H locs ls hP hD hS (lv_sub hl [0, 1] rfl) hf)
  have L164 : ∀ (k4 : BX4 → Int32 → Int32 → Option Int32) (hk4 : ∀ (x1 : Int32) (x2 : Int32) (H : Heap) (locs : List Loc) (ls : Array Slot), va_P (dC, dI) vwCl [k4_0 aM vM, k4_1 cI aM vM, k4_2 cI aM vM, k4_3 cI aM vM, k4_4 cI aM vM, k4_5 cJ aM vM, k4_6 cI aM vM, k4_7 cJ aM vM, k4_8 cJ aM vM, k4_9 cI aM vM] H → va_D A [k4_0 aM vM, k4_1 cI aM vM, k4_2 cI aM vM, k4_3 cI aM vM, k4_4 cI aM vM, k4_5 cJ aM vM, k4_6 cI aM vM, k4_7 cJ aM vM, k4_8 cJ aM vM, k4_9 cI aM vM] → va_S A s.heap H locs → lv_has ls 8 [(0, .ref (aM 0)), (1, .int x1), (2, .int x2)] → k4 vM x1 x2 = some y → WW H locs 0 0 ls 4 []) (n : Nat) (x1 : Int32) (x2 : Int32) (l3 : Int64) (x5 : Int32) (x6 : Int32) (x7 : Int32) (H : Heap) (locs : List Loc) (ls : Array Slot), va_P (dC, dI) vwCl [k4_0 aM vM, k4_1 cI aM vM, k4_2 cI aM vM, k4_3 cI aM vM, k4_4 cI aM vM, k4_5 cJ aM vM, k4_6 cI aM vM, k4_7 cJ aM vM, k4_8 cJ aM vM, k4_9 cI aM vM] H → va_D A [k4_0 aM vM, k4_1 cI aM vM, k4_2 cI aM vM, k4_3 cI aM vM, k4_4 cI aM vM, k4_5 cJ aM vM, k4_6 cI aM vM, k4_7 cJ aM vM, k4_8 cJ aM vM, k4_9 cI aM vM] → va_S A s.heap H locs → lv_has ls 8 [(0, .ref (aM 0)), (1, .int x1), (2, .int x2), (3, .long l3), (5, .int x5), (6, .int x6), (7, .int x7)] → fX4_isStill_164 k4 n vM x1 x2 l3 x5 x6 x7 = some y → WW H locs 0 0 ls 164 [] := by
    intro k4 hk4 n
    induction n with
    | zero =>
      intro x1 x2 l3 x5 x6 x7 H locs ls hP hD hS hl hf
      exact onone hf
    | succ n ih =>
      intro x1 x2 l3 x5 x6 x7 H locs ls hP hD hS hl hf
      have hf : fX4_isStill_164_b k4 (fX4_isStill_164 k4 n) vM x1 x2 l3 x5 x6 x7 = some y := hf
      generalize fX4_isStill_164 k4 n = k164 at hf ih
      have hk164 := ih
      clear ih
      unfold fX4_isStill_164_b at hf
      refine (hWW _ _ _ _ _ _ _).2 ?_
      refine lv_iload hx hb dX4_isStill_164 (lv_at hl 6 rfl) ?_
      refine lv_if_eq (tgt := 263) hx hb dX4_isStill_166 (by decide) (fun c19 => ?_) (fun c19 => ?_)
      · have hf := oif_t c19 hf
        refine lv_iload_n hx hb dX4_isStill_263 rfl (lv_at hl 1 rfl) ?_
        refine lv_if_eq (tgt := 282) hx hb dX4_isStill_264 (by decide) (fun c20 => ?_) (fun c20 => ?_)
        · have hf := oif_t c20 hf
          exact (hWW _ _ _ _ _ _ _).1 (J282 k4 hk4 x2 H locs ls hP hD hS (lv_sub hl [0, 2] rfl) hf)
        · have hf := oif_f c20 hf
          refine lv_iload hx hb dX4_isStill_267 (lv_at hl 4 rfl) ?_
          refine lv_if_eq (tgt := 278) hx hb dX4_isStill_269 (by decide) (fun c21 => ?_) (fun c21 => ?_)
          · have hf := oif_t c21 hf
            exact (hWW _ _ _ _ _ _ _).1 (J278 k4 hk4 x2 H locs ls hP hD hS (lv_sub hl [0, 2] rfl) hf)
          · have hf := oif_f c21 hf
            refine lv_lload_n hx hb dX4_isStill_272 rfl (lv_at hl 3 rfl) ?_
            refine lv_lconst (v := 0) hx hb dX4_isStill_273 (by decide) ?_
            refine W.lcmp hx hb dX4_isStill_274 ?_
            refine lv_if_lt (tgt := 282) hx hb dX4_isStill_275 (by decide) (fun c22 => ?_) (fun c22 => ?_)
            · have hf := oif_t c22 hf
              exact (hWW _ _ _ _ _ _ _).1 (J282 k4 hk4 x2 H locs ls hP hD hS (lv_sub hl [0, 2] rfl) hf)
            · have hf := oif_f c22 hf
              exact (hWW _ _ _ _ _ _ _).1 (J278 k4 hk4 x2 H locs ls hP hD hS (lv_sub hl [0, 2] rfl) hf)
      · have hf := oif_f c19 hf
        refine lv_lload_n hx hb dX4_isStill_169 rfl (lv_at hl 3 rfl) ?_
        refine lv_aload_n hx hb dX4_isStill_170 rfl (lv_at hl 0 rfl) ?_
        refine lv_iload hx hb dX4_isStill_171 (lv_at hl 5 rfl) ?_
        obtain ⟨y23, hy23, hf⟩ := obind hf
        refine cg_l (ws := [k4_0 aM vM, k4_1 cI aM vM, k4_2 cI aM vM, k4_3 cI aM vM, k4_4 cI aM vM, k4_5 cJ aM vM, k4_6 cI aM vM, k4_7 cJ aM vM, k4_8 cJ aM vM, k4_9 cI aM vM]) (wc := [k4_0 aM vM, k4_1 cI aM vM, k4_2 cI aM vM, k4_3 cI aM vM, k4_4 cI aM vM, k4_5 cJ aM vM, k4_6 cI aM vM, k4_7 cJ aM vM, k4_8 cJ aM vM, k4_9 cI aM vM]) (wr := []) (w1 := [k4_0 aM vM, k4_1 cI aM vM, k4_2 cI aM vM, k4_3 cI aM vM, k4_4 cI aM vM, k4_5 cJ aM vM, k4_6 cI aM vM, k4_7 cJ aM vM, k4_8 cJ aM vM, k4_9 cI aM vM]) (wo := [k4_0 aM vM, k4_1 cI aM vM, k4_2 cI aM vM, k4_3 cI aM vM, k4_4 cI aM vM, k4_5 cJ aM vM, k4_6 cI aM vM, k4_7 cJ aM vM, k4_8 cJ aM vM, k4_9 cI aM vM]) hP hD hS hA (va_runV (As := [.int x6]) (rest := [.long l3]) ⟨hx, hb, hml, hown, hts⟩ (mX4_force l dC dI cI cJ aM H.size vM x6 y23 hy23) (cwV 1 hts gX4_isStill_X4_force rfl rfl rfl (by decide +kernel) ⟨Nat.le_of_ble_eq_true rfl, Nat.le_of_ble_eq_true rfl⟩) ⟨cFB, va_recv hK hP (ci := 4) (q0 := 0) rfl rfl, cPre hK hN hS (va_free (wc := [k4_0 aM vM, k4_1 cI aM vM, k4_2 cI aM vM, k4_3 cI aM vM, k4_4 cI aM vM, k4_5 cJ aM vM, k4_6 cI aM vM, k4_7 cJ aM vM, k4_8 cJ aM vM, k4_9 cI aM vM]) hD hS hA [0, 1, 2, 3, 4, 5, 6, 7, 8, 9] rfl) (hP.sub [0, 1, 2, 3, 4, 5, 6, 7, 8, 9] rfl) (hD.sub [0, 1, 2, 3, 4, 5, 6, 7, 8, 9] rfl rfl)⟩ rfl rfl hl.1 rfl (lv_room (Nat.le_of_ble_eq_true rfl)) dX4_isStill_173 ⟨Nat.le_of_ble_eq_true rfl, Nat.le_of_ble_eq_true rfl⟩) [0, 1, 2, 3, 4, 5, 6, 7, 8, 9] [] [0, 1, 2, 3, 4, 5, 6, 7, 8, 9] rfl rfl rfl (by decide +kernel) rfl rfl (fun H locs hP hD hS => ?_)
        refine lv_ladd hx hb dX4_isStill_176 ?_
        obtain ⟨z24, ez24, hf⟩ := elet_out hf
        refine lvn_l ez24 ?_
        refine lv_lstore_n (lv' := [(3, .long z24), (0, .ref (aM 0)), (1, .int x1), (2, .int x2), (5, .int x5), (6, .int x6), (7, .int x7)]) hx hb dX4_isStill_177 rfl hl (by decide) rfl (fun ls hl => ?_)
        refine lv_iload hx hb dX4_isStill_178 (lv_at hl 4 rfl) ?_
        refine lv_if_eq (tgt := 210) hx hb dX4_isStill_180 (by decide) (fun c25 => ?_) (fun c25 => ?_)
        · have hf := oif_t c25 hf
          exact (hWW _ _ _ _ _ _ _).1 (J210 k4 hk4 k164 hk164 x1 x2 z24 x6 H locs ls hP hD hS (lv_sub hl [1, 2, 3, 0, 5] rfl) hf)
        · have hf := oif_f c25 hf
          refine lv_aload_n hx hb dX4_isStill_183 rfl (lv_at hl 1 rfl) ?_
          refine va_get (D := (dC, dI)) (ci := 4) (v := .ref (aM 5)) (C := RX4) (T := TX4) (N := 21) hx hb hts hiX4 hown hK hP 0 rfl rfl 7 (by decide) hgX4_22 (fun _ h9 => h9) rfl dX4_isStill_184 ?_
          refine lv_iload hx hb dX4_isStill_187 (lv_at hl 5 rfl) ?_
          obtain ⟨hi26, hf⟩ := oinb rfl hf
          refine va_lald hx hb hK hP 5 1 rfl rfl hi26 dX4_isStill_189 ?_
          refine lv_aload_n hx hb dX4_isStill_190 rfl (lv_at hl 1 rfl) ?_
          refine lv_iload hx hb dX4_isStill_191 (lv_at hl 5 rfl) ?_
          obtain ⟨y27, hy27, hf⟩ := obind hf
          refine cg_i (ws := [k4_0 aM vM, k4_1 cI aM vM, k4_2 cI aM vM, k4_3 cI aM vM, k4_4 cI aM vM, k4_5 cJ aM vM, k4_6 cI aM vM, k4_7 cJ aM vM, k4_8 cJ aM vM, k4_9 cI aM vM]) (wc := [k4_0 aM vM, k4_1 cI aM vM, k4_2 cI aM vM, k4_3 cI aM vM, k4_4 cI aM vM, k4_5 cJ aM vM, k4_6 cI aM vM, k4_7 cJ aM vM, k4_8 cJ aM vM, k4_9 cI aM vM]) (wr := []) (w1 := [k4_0 aM vM, k4_1 cI aM vM, k4_2 cI aM vM, k4_3 cI aM vM, k4_4 cI aM vM, k4_5 cJ aM vM, k4_6 cI aM vM, k4_7 cJ aM vM, k4_8 cJ aM vM, k4_9 cI aM vM]) (wo := [k4_0 aM vM, k4_1 cI aM vM, k4_2 cI aM vM, k4_3 cI aM vM, k4_4 cI aM vM, k4_5 cJ aM vM, k4_6 cI aM vM, k4_7 cJ aM vM, k4_8 cJ aM vM, k4_9 cI aM vM]) hP hD hS hA (va_runV (As := [.int x6]) (rest := [.long ((p4_upper vM) (x6).toNatClampNeg)]) ⟨hx, hb, hml, hown, hts⟩ (mX4_low l dC dI cI cJ aM H.size vM x6 y27 hy27) (cwV 1 hts gX4_isStill_X4_low rfl rfl rfl (by decide +kernel) ⟨Nat.le_of_ble_eq_true rfl, Nat.le_of_ble_eq_true rfl⟩) ⟨cFB, va_recv hK hP (ci := 4) (q0 := 0) rfl rfl, cPre hK hN hS (va_free (wc := [k4_0 aM vM, k4_1 cI aM vM, k4_2 cI aM vM, k4_3 cI aM vM, k4_4 cI aM vM, k4_5 cJ aM vM, k4_6 cI aM vM, k4_7 cJ aM vM, k4_8 cJ aM vM, k4_9 cI aM vM]) hD hS hA [0, 1, 2, 3, 4, 5, 6, 7, 8, 9] rfl) (hP.sub [0, 1, 2, 3, 4, 5, 6, 7, 8, 9] rfl) (hD.sub [0, 1, 2, 3, 4, 5, 6, 7, 8, 9] rfl rfl)⟩ rfl rfl hl.1 rfl (lv_room (Nat.le_of_ble_eq_true rfl)) dX4_isStill_193 ⟨Nat.le_of_ble_eq_true rfl, Nat.le_of_ble_eq_true rfl⟩) [0, 1, 2, 3, 4, 5, 6, 7, 8, 9] [] [0, 1, 2, 3, 4, 5, 6, 7, 8, 9] rfl rfl rfl (by decide +kernel) rfl rfl (fun H locs hP hD hS => ?_)
          refine lv_i2l (v := (y27).toInt64) hx hb dX4_isStill_196 rfl ?_
          refine lv_aload_n hx hb dX4_isStill_197 rfl (lv_at hl 1 rfl) ?_
          refine va_get (D := (dC, dI)) (ci := 4) (v := .long (p4_lower vM)) (C := RX4) (T := TX4) (N := 21) hx hb hts hiX4 hown hK hP 0 rfl rfl 8 (by decide) hgX4_79 (fun _ h9 => h9) rfl dX4_isStill_198 ?_
          refine lv_lmul hx hb dX4_isStill_201 ?_
          refine W.lcmp hx hb dX4_isStill_202 ?_
          refine lv_if_le (tgt := 210) hx hb dX4_isStill_203 (by decide) (fun c28 => ?_) (fun c28 => ?_)
          · have hf := oif_t c28 hf
            exact (hWW _ _ _ _ _ _ _).1 (J210 k4 hk4 k164 hk164 x1 x2 z24 x6 H locs ls hP hD hS (lv_sub hl [1, 2, 3, 0, 5] rfl) hf)
          · have hf := oif_f c28 hf
            refine lv_iconst (v := 1) hx hb dX4_isStill_206 (by decide) ?_
            refine lv_goto (tgt := 211) hx hb dX4_isStill_207 (by decide) ?_
            exact (hWW _ _ _ _ _ _ _).1 (J211 k4 hk4 k164 hk164 x1 x2 z24 x6 (1 : Int32) H locs ls hP hD hS (lv_sub hl [1, 2, 3, 0, 5] rfl) hf)
  have J152 : ∀ (k4 : BX4 → Int32 → Int32 → Option Int32) (hk4 : ∀ (x1 : Int32) (x2 : Int32) (H : Heap) (locs : List Loc) (ls : Array Slot), va_P (dC, dI) vwCl [k4_0 aM vM, k4_1 cI aM vM, k4_2 cI aM vM, k4_3 cI aM vM, k4_4 cI aM vM, k4_5 cJ aM vM, k4_6 cI aM vM, k4_7 cJ aM vM, k4_8 cJ aM vM, k4_9 cI aM vM] H → va_D A [k4_0 aM vM, k4_1 cI aM vM, k4_2 cI aM vM, k4_3 cI aM vM, k4_4 cI aM vM, k4_5 cJ aM vM, k4_6 cI aM vM, k4_7 cJ aM vM, k4_8 cJ aM vM, k4_9 cI aM vM] → va_S A s.heap H locs → lv_has ls 8 [(0, .ref (aM 0)), (1, .int x1), (2, .int x2)] → k4 vM x1 x2 = some y → WW H locs 0 0 ls 4 []) (x2 : Int32) (st0 : Int32) (H : Heap) (locs : List Loc) (ls : Array Slot), va_P (dC, dI) vwCl [k4_0 aM vM, k4_1 cI aM vM, k4_2 cI aM vM, k4_3 cI aM vM, k4_4 cI aM vM, k4_5 cJ aM vM, k4_6 cI aM vM, k4_7 cJ aM vM, k4_8 cJ aM vM, k4_9 cI aM vM] H → va_D A [k4_0 aM vM, k4_1 cI aM vM, k4_2 cI aM vM, k4_3 cI aM vM, k4_4 cI aM vM, k4_5 cJ aM vM, k4_6 cI aM vM, k4_7 cJ aM vM, k4_8 cJ aM vM, k4_9 cI aM vM] → va_S A s.heap H locs → lv_has ls 8 [(0, .ref (aM 0)), (2, .int x2)] → fX4_isStill_152 k4 vM x2 st0 = some y → WW H locs 0 0 ls 152 [.int st0] := by
    intro k4 hk4 x2 st0 H locs ls hP hD hS hl hf
    unfold fX4_isStill_152 at hf
    refine (hWW _ _ _ _ _ _ _).2 ?_
    refine lv_istore_n (lv' := [(1, .int st0), (0, .ref (aM 0)), (2, .int x2)]) hx hb dX4_isStill_152 rfl hl (by decide) rfl (fun ls hl => ?_)
    refine lv_lconst (v := 0) hx hb dX4_isStill_153 (by decide) ?_
    refine lv_lstore_n (lv' := [(3, .long 0), (1, .int st0), (0, .ref (aM 0)), (2, .int x2)]) hx hb dX4_isStill_154 rfl hl (by decide) rfl (fun ls hl => ?_)
    refine lv_iconst (v := 1) hx hb dX4_isStill_155 (by decide) ?_
    refine lv_istore (lv' := [(5, .int 1), (3, .long 0), (1, .int st0), (0, .ref (aM 0)), (2, .int x2)]) hx hb dX4_isStill_156 hl (by decide) rfl (fun ls hl => ?_)
    refine lv_iload_n hx hb dX4_isStill_158 rfl (lv_at hl 4 rfl) ?_
    refine lv_istore (lv' := [(6, .int x2), (5, .int 1), (3, .long 0), (1, .int st0), (0, .ref (aM 0)), (2, .int x2)]) hx hb dX4_isStill_159 hl (by decide) rfl (fun ls hl => ?_)
    refine lv_iconst (v := 1) hx hb dX4_isStill_161 (by decide) ?_
    refine lv_istore (lv' := [(7, .int 1), (6, .int x2), (5, .int 1), (3, .long 0), (1, .int st0), (0, .ref (aM 0)), (2, .int x2)]) hx hb dX4_isStill_162 hl (by decide) rfl (fun ls hl => ?_)
    exact (hWW _ _ _ _ _ _ _).1 (L164 k4 hk4 FU st0 x2 (0 : Int64) (1 : Int32) x2 (1 : Int32) H locs ls hP hD hS (lv_sub hl [5, 4, 6, 3, 2, 1, 0] rfl) hf)
  have J147 : ∀ (k4 : BX4 → Int32 → Int32 → Option Int32) (hk4 : ∀ (x1 : Int32) (x2 : Int32) (H : Heap) (locs : List Loc) (ls : Array Slot), va_P (dC, dI) vwCl [k4_0 aM vM, k4_1 cI aM vM, k4_2 cI aM vM, k4_3 cI aM vM, k4_4 cI aM vM, k4_5 cJ aM vM, k4_6 cI aM vM, k4_7 cJ aM vM, k4_8 cJ aM vM, k4_9 cI aM vM] H → va_D A [k4_0 aM vM, k4_1 cI aM vM, k4_2 cI aM vM, k4_3 cI aM vM, k4_4 cI aM vM, k4_5 cJ aM vM, k4_6 cI aM vM, k4_7 cJ aM vM, k4_8 cJ aM vM, k4_9 cI aM vM] → va_S A s.heap H locs → lv_has ls 8 [(0, .ref (aM 0)), (1, .int x1), (2, .int x2)] → k4 vM x1 x2 = some y → WW H locs 0 0 ls 4 []) (x2 : Int32) (H : Heap) (locs : List Loc) (ls : Array Slot), va_P (dC, dI) vwCl [k4_0 aM vM, k4_1 cI aM vM, k4_2 cI aM vM, k4_3 cI aM vM, k4_4 cI aM vM, k4_5 cJ aM vM, k4_6 cI aM vM, k4_7 cJ aM vM, k4_8 cJ aM vM, k4_9 cI aM vM] H → va_D A [k4_0 aM vM, k4_1 cI aM vM, k4_2 cI aM vM, k4_3 cI aM vM, k4_4 cI aM vM, k4_5 cJ aM vM, k4_6 cI aM vM, k4_7 cJ aM vM, k4_8 cJ aM vM, k4_9 cI aM vM] → va_S A s.heap H locs → lv_has ls 8 [(0, .ref (aM 0)), (2, .int x2)] → fX4_isStill_147 k4 vM x2 = some y → WW H locs 0 0 ls 147 [] := by
    intro k4 hk4 x2 H locs ls hP hD hS hl hf
    unfold fX4_isStill_147 at hf
    refine (hWW _ _ _ _ _ _ _).2 ?_
    refine lv_iconst (v := 1) hx hb dX4_isStill_147 (by decide) ?_
    refine lv_goto (tgt := 152) hx hb dX4_isStill_148 (by decide) ?_
    exact (hWW _ _ _ _ _ _ _).1 (J152 k4 hk4 x2 (1 : Int32) H locs ls hP hD hS (lv_sub hl [0, 1] rfl) hf)
  have J151 : ∀ (k4 : BX4 → Int32 → Int32 → Option Int32) (hk4 : ∀ (x1 : Int32) (x2 : Int32) (H : Heap) (locs : List Loc) (ls : Array Slot), va_P (dC, dI) vwCl [k4_0 aM vM, k4_1 cI aM vM, k4_2 cI aM vM, k4_3 cI aM vM, k4_4 cI aM vM, k4_5 cJ aM vM, k4_6 cI aM vM, k4_7 cJ aM vM, k4_8 cJ aM vM, k4_9 cI aM vM] H → va_D A [k4_0 aM vM, k4_1 cI aM vM, k4_2 cI aM vM, k4_3 cI aM vM, k4_4 cI aM vM, k4_5 cJ aM vM, k4_6 cI aM vM, k4_7 cJ aM vM, k4_8 cJ aM vM, k4_9 cI aM vM] → va_S A s.heap H locs → lv_has ls 8 [(0, .ref (aM 0)), (1, .int x1), (2, .int x2)] → k4 vM x1 x2 = some y → WW H locs 0 0 ls 4 []) (x2 : Int32) (H : Heap) (locs : List Loc) (ls : Array Slot), va_P (dC, dI) vwCl [k4_0 aM vM, k4_1 cI aM vM, k4_2 cI aM vM, k4_3 cI aM vM, k4_4 cI aM vM, k4_5 cJ aM vM, k4_6 cI aM vM, k4_7 cJ aM vM, k4_8 cJ aM vM, k4_9 cI aM vM] H → va_D A [k4_0 aM vM, k4_1 cI aM vM, k4_2 cI aM vM, k4_3 cI aM vM, k4_4 cI aM vM, k4_5 cJ aM vM, k4_6 cI aM vM, k4_7 cJ aM vM, k4_8 cJ aM vM, k4_9 cI aM vM] → va_S A s.heap H locs → lv_has ls 8 [(0, .ref (aM 0)), (2, .int x2)] → fX4_isStill_151 k4 vM x2 = some y → WW H locs 0 0 ls 151 [] := by
    intro k4 hk4 x2 H locs ls hP hD hS hl hf
    unfold fX4_isStill_151 at hf
    refine (hWW _ _ _ _ _ _ _).2 ?_
    refine lv_iconst (v := 0) hx hb dX4_isStill_151 (by decide) ?_
    exact (hWW _ _ _ _ _ _ _).1 (J152 k4 hk4 x2 (0 : Int32) H locs ls hP hD hS (lv_sub hl [0, 1] rfl) hf)
  have L25 : ∀ (k4 : BX4 → Int32 → Int32 → Option Int32) (hk4 : ∀ (x1 : Int32) (x2 : Int32) (H : Heap) (locs : List Loc) (ls : Array Slot), va_P (dC, dI) vwCl [k4_0 aM vM, k4_1 cI aM vM, k4_2 cI aM vM, k4_3 cI aM vM, k4_4 cI aM vM, k4_5 cJ aM vM, k4_6 cI aM vM, k4_7 cJ aM vM, k4_8 cJ aM vM, k4_9 cI aM vM] H → va_D A [k4_0 aM vM, k4_1 cI aM vM, k4_2 cI aM vM, k4_3 cI aM vM, k4_4 cI aM vM, k4_5 cJ aM vM, k4_6 cI aM vM, k4_7 cJ aM vM, k4_8 cJ aM vM, k4_9 cI aM vM] → va_S A s.heap H locs → lv_has ls 8 [(0, .ref (aM 0)), (1, .int x1), (2, .int x2)] → k4 vM x1 x2 = some y → WW H locs 0 0 ls 4 []) (n : Nat) (x1 : Int32) (x2 : Int32) (l3 : Int64) (x5 : Int32) (x6 : Int32) (x7 : Int32) (H : Heap) (locs : List Loc) (ls : Array Slot), va_P (dC, dI) vwCl [k4_0 aM vM, k4_1 cI aM vM, k4_2 cI aM vM, k4_3 cI aM vM, k4_4 cI aM vM, k4_5 cJ aM vM, k4_6 cI aM vM, k4_7 cJ aM vM, k4_8 cJ aM vM, k4_9 cI aM vM] H → va_D A [k4_0 aM vM, k4_1 cI aM vM, k4_2 cI aM vM, k4_3 cI aM vM, k4_4 cI aM vM, k4_5 cJ aM vM, k4_6 cI aM vM, k4_7 cJ aM vM, k4_8 cJ aM vM, k4_9 cI aM vM] → va_S A s.heap H locs → lv_has ls 8 [(0, .ref (aM 0)), (1, .int x1), (2, .int x2), (3, .long l3), (5, .int x5), (6, .int x6), (7, .int x7)] → fX4_isStill_25 k4 n vM x1 x2 l3 x5 x6 x7 = some y → WW H locs 0 0 ls 25 [] := by
    intro k4 hk4 n
    induction n with
    | zero =>
      intro x1 x2 l3 x5 x6 x7 H locs ls hP hD hS hl hf
      exact onone hf
    | succ n ih =>
      intro x1 x2 l3 x5 x6 x7 H locs ls hP hD hS hl hf
      have hf : fX4_isStill_25_b k4 (fX4_isStill_25 k4 n) vM x1 x2 l3 x5 x6 x7 = some y := hf
      generalize fX4_isStill_25 k4 n = k25 at hf ih
      have hk25 := ih
      clear ih
      unfold fX4_isStill_25_b at hf
      refine (hWW _ _ _ _ _ _ _).2 ?_
      refine lv_iload hx hb dX4_isStill_25 (lv_at hl 6 rfl) ?_
      refine lv_if_eq (tgt := 132) hx hb dX4_isStill_27 (by decide) (fun c3 => ?_) (fun c3 => ?_)
      · have hf := oif_t c3 hf
        refine lv_iload_n hx hb dX4_isStill_132 rfl (lv_at hl 1 rfl) ?_
        refine lv_if_eq (tgt := 151) hx hb dX4_isStill_133 (by decide) (fun c4 => ?_) (fun c4 => ?_)
        · have hf := oif_t c4 hf
          exact (hWW _ _ _ _ _ _ _).1 (J151 k4 hk4 x2 H locs ls hP hD hS (lv_sub hl [0, 2] rfl) hf)
        · have hf := oif_f c4 hf
          refine lv_iload hx hb dX4_isStill_136 (lv_at hl 4 rfl) ?_
          refine lv_if_eq (tgt := 147) hx hb dX4_isStill_138 (by decide) (fun c5 => ?_) (fun c5 => ?_)
          · have hf := oif_t c5 hf
            exact (hWW _ _ _ _ _ _ _).1 (J147 k4 hk4 x2 H locs ls hP hD hS (lv_sub hl [0, 2] rfl) hf)
          · have hf := oif_f c5 hf
            refine lv_lload_n hx hb dX4_isStill_141 rfl (lv_at hl 3 rfl) ?_
            refine lv_lconst (v := 0) hx hb dX4_isStill_142 (by decide) ?_
            refine W.lcmp hx hb dX4_isStill_143 ?_
            refine lv_if_gt (tgt := 151) hx hb dX4_isStill_144 (by decide) (fun c6 => ?_) (fun c6 => ?_)
            · have hf := oif_t c6 hf
              exact (hWW _ _ _ _ _ _ _).1 (J151 k4 hk4 x2 H locs ls hP hD hS (lv_sub hl [0, 2] rfl) hf)
            · have hf := oif_f c6 hf
              exact (hWW _ _ _ _ _ _ _).1 (J147 k4 hk4 x2 H locs ls hP hD hS (lv_sub hl [0, 2] rfl) hf)
      · have hf := oif_f c3 hf
        refine lv_lload_n hx hb dX4_isStill_30 rfl (lv_at hl 3 rfl) ?_
        refine lv_aload_n hx hb dX4_isStill_31 rfl (lv_at hl 0 rfl) ?_
        refine lv_iload hx hb dX4_isStill_32 (lv_at hl 5 rfl) ?_
        obtain ⟨y7, hy7, hf⟩ := obind hf
        refine cg_l (ws := [k4_0 aM vM, k4_1 cI aM vM, k4_2 cI aM vM, k4_3 cI aM vM, k4_4 cI aM vM, k4_5 cJ aM vM, k4_6 cI aM vM, k4_7 cJ aM vM, k4_8 cJ aM vM, k4_9 cI aM vM]) (wc := [k4_0 aM vM, k4_1 cI aM vM, k4_2 cI aM vM, k4_3 cI aM vM, k4_4 cI aM vM, k4_5 cJ aM vM, k4_6 cI aM vM, k4_7 cJ aM vM, k4_8 cJ aM vM, k4_9 cI aM vM]) (wr := []) (w1 := [k4_0 aM vM, k4_1 cI aM vM, k4_2 cI aM vM, k4_3 cI aM vM, k4_4 cI aM vM, k4_5 cJ aM vM, k4_6 cI aM vM, k4_7 cJ aM vM, k4_8 cJ aM vM, k4_9 cI aM vM]) (wo := [k4_0 aM vM, k4_1 cI aM vM, k4_2 cI aM vM, k4_3 cI aM vM, k4_4 cI aM vM, k4_5 cJ aM vM, k4_6 cI aM vM, k4_7 cJ aM vM, k4_8 cJ aM vM, k4_9 cI aM vM]) hP hD hS hA (va_runV (As := [.int x6]) (rest := [.long l3]) ⟨hx, hb, hml, hown, hts⟩ (mX4_force l dC dI cI cJ aM H.size vM x6 y7 hy7) (cwV 1 hts gX4_isStill_X4_force rfl rfl rfl (by decide +kernel) ⟨Nat.le_of_ble_eq_true rfl, Nat.le_of_ble_eq_true rfl⟩) ⟨cFB, va_recv hK hP (ci := 4) (q0 := 0) rfl rfl, cPre hK hN hS (va_free (wc := [k4_0 aM vM, k4_1 cI aM vM, k4_2 cI aM vM, k4_3 cI aM vM, k4_4 cI aM vM, k4_5 cJ aM vM, k4_6 cI aM vM, k4_7 cJ aM vM, k4_8 cJ aM vM, k4_9 cI aM vM]) hD hS hA [0, 1, 2, 3, 4, 5, 6, 7, 8, 9] rfl) (hP.sub [0, 1, 2, 3, 4, 5, 6, 7, 8, 9] rfl) (hD.sub [0, 1, 2, 3, 4, 5, 6, 7, 8, 9] rfl rfl)⟩ rfl rfl hl.1 rfl (lv_room (Nat.le_of_ble_eq_true rfl)) dX4_isStill_34 ⟨Nat.le_of_ble_eq_true rfl, Nat.le_of_ble_eq_true rfl⟩) [0, 1, 2, 3, 4, 5, 6, 7, 8, 9] [] [0, 1, 2, 3, 4, 5, 6, 7, 8, 9] rfl rfl rfl (by decide +kernel) rfl rfl (fun H locs hP hD hS => ?_)
        refine lv_ladd hx hb dX4_isStill_37 ?_
        obtain ⟨z8, ez8, hf⟩ := elet_out hf
        refine lvn_l ez8 ?_
        refine lv_lstore_n (lv' := [(3, .long z8), (0, .ref (aM 0)), (1, .int x1), (2, .int x2), (5, .int x5), (6, .int x6), (7, .int x7)]) hx hb dX4_isStill_38 rfl hl (by decide) rfl (fun ls hl => ?_)
        refine lv_iload hx hb dX4_isStill_39 (lv_at hl 4 rfl) ?_
        refine lv_if_eq (tgt := 71) hx hb dX4_isStill_41 (by decide) (fun c9 => ?_) (fun c9 => ?_)
        · have hf := oif_t c9 hf
          exact (hWW _ _ _ _ _ _ _).1 (J71 k4 hk4 k25 hk25 x1 x2 z8 x6 H locs ls hP hD hS (lv_sub hl [1, 2, 3, 0, 5] rfl) hf)
        · have hf := oif_f c9 hf
          refine lv_aload_n hx hb dX4_isStill_44 rfl (lv_at hl 1 rfl) ?_
          refine va_get (D := (dC, dI)) (ci := 4) (v := .ref (aM 5)) (C := RX4) (T := TX4) (N := 21) hx hb hts hiX4 hown hK hP 0 rfl rfl 7 (by decide) hgX4_22 (fun _ h9 => h9) rfl dX4_isStill_45 ?_
          refine lv_iload hx hb dX4_isStill_48 (lv_at hl 5 rfl) ?_
          obtain ⟨hi10, hf⟩ := oinb rfl hf
          refine va_lald hx hb hK hP 5 1 rfl rfl hi10 dX4_isStill_50 ?_
          refine lv_aload_n hx hb dX4_isStill_51 rfl (lv_at hl 1 rfl) ?_
          refine lv_iload hx hb dX4_isStill_52 (lv_at hl 5 rfl) ?_
          obtain ⟨y11, hy11, hf⟩ := obind hf
          refine cg_i (ws := [k4_0 aM vM, k4_1 cI aM vM, k4_2 cI aM vM, k4_3 cI aM vM, k4_4 cI aM vM, k4_5 cJ aM vM, k4_6 cI aM vM, k4_7 cJ aM vM, k4_8 cJ aM vM, k4_9 cI aM vM]) (wc := [k4_0 aM vM, k4_1 cI aM vM, k4_2 cI aM vM, k4_3 cI aM vM, k4_4 cI aM vM, k4_5 cJ aM vM, k4_6 cI aM vM, k4_7 cJ aM vM, k4_8 cJ aM vM, k4_9 cI aM vM]) (wr := []) (w1 := [k4_0 aM vM, k4_1 cI aM vM, k4_2 cI aM vM, k4_3 cI aM vM, k4_4 cI aM vM, k4_5 cJ aM vM, k4_6 cI aM vM, k4_7 cJ aM vM, k4_8 cJ aM vM, k4_9 cI aM vM]) (wo := [k4_0 aM vM, k4_1 cI aM vM, k4_2 cI aM vM, k4_3 cI aM vM, k4_4 cI aM vM, k4_5 cJ aM vM, k4_6 cI aM vM, k4_7 cJ aM vM, k4_8 cJ aM vM, k4_9 cI aM vM]) hP hD hS hA (va_runV (As := [.int x6]) (rest := [.long ((p4_upper vM) (x6).toNatClampNeg)]) ⟨hx, hb, hml, hown, hts⟩ (mX4_high l dC dI cI cJ aM H.size vM x6 y11 hy11) (cwV 1 hts gX4_isStill_X4_high rfl rfl rfl (by decide +kernel) ⟨Nat.le_of_ble_eq_true rfl, Nat.le_of_ble_eq_true rfl⟩) ⟨cFB, va_recv hK hP (ci := 4) (q0 := 0) rfl rfl, cPre hK hN hS (va_free (wc := [k4_0 aM vM, k4_1 cI aM vM, k4_2 cI aM vM, k4_3 cI aM vM, k4_4 cI aM vM, k4_5 cJ aM vM, k4_6 cI aM vM, k4_7 cJ aM vM, k4_8 cJ aM vM, k4_9 cI aM vM]) hD hS hA [0, 1, 2, 3, 4, 5, 6, 7, 8, 9] rfl) (hP.sub [0, 1, 2, 3, 4, 5, 6, 7, 8, 9] rfl) (hD.sub [0, 1, 2, 3, 4, 5, 6, 7, 8, 9] rfl rfl)⟩ rfl rfl hl.1 rfl (lv_room (Nat.le_of_ble_eq_true rfl)) dX4_isStill_54 ⟨Nat.le_of_ble_eq_true rfl, Nat.le_of_ble_eq_true rfl⟩) [0, 1, 2, 3, 4, 5, 6, 7, 8, 9] [] [0, 1, 2, 3, 4, 5, 6, 7, 8, 9] rfl rfl rfl (by decide +kernel) rfl rfl (fun H locs hP hD hS => ?_)
          refine lv_i2l (v := (y11).toInt64) hx hb dX4_isStill_57 rfl ?_
          refine lv_aload_n hx hb dX4_isStill_58 rfl (lv_at hl 1 rfl) ?_
          refine va_get (D := (dC, dI)) (ci := 4) (v := .long (p4_lower vM)) (C := RX4) (T := TX4) (N := 21) hx hb hts hiX4 hown hK hP 0 rfl rfl 8 (by decide) hgX4_79 (fun _ h9 => h9) rfl dX4_isStill_59 ?_
          refine lv_lmul hx hb dX4_isStill_62 ?_
          refine W.lcmp hx hb dX4_isStill_63 ?_
          refine lv_if_ge (tgt := 71) hx hb dX4_isStill_64 (by decide) (fun c12 => ?_) (fun c12 => ?_)
          · have hf := oif_t c12 hf
            exact (hWW _ _ _ _ _ _ _).1 (J71 k4 hk4 k25 hk25 x1 x2 z8 x6 H locs ls hP hD hS (lv_sub hl [1, 2, 3, 0, 5] rfl) hf)
          · have hf := oif_f c12 hf
            refine lv_iconst (v := 1) hx hb dX4_isStill_67 (by decide) ?_
            refine lv_goto (tgt := 72) hx hb dX4_isStill_68 (by decide) ?_
            exact (hWW _ _ _ _ _ _ _).1 (J72 k4 hk4 k25 hk25 x1 x2 z8 x6 (1 : Int32) H locs ls hP hD hS (lv_sub hl [1, 2, 3, 0, 5] rfl) hf)
  have L4 : ∀ (n : Nat) (x1 : Int32) (x2 : Int32) (H : Heap) (locs : List Loc) (ls : Array Slot), va_P (dC, dI) vwCl [k4_0 aM vM, k4_1 cI aM vM, k4_2 cI aM vM, k4_3 cI aM vM, k4_4 cI aM vM, k4_5 cJ aM vM, k4_6 cI aM vM, k4_7 cJ aM vM, k4_8 cJ aM vM, k4_9 cI aM vM] H → va_D A [k4_0 aM vM, k4_1 cI aM vM, k4_2 cI aM vM, k4_3 cI aM vM, k4_4 cI aM vM, k4_5 cJ aM vM, k4_6 cI aM vM, k4_7 cJ aM vM, k4_8 cJ aM vM, k4_9 cI aM vM] → va_S A s.heap H locs → lv_has ls 8 [(0, .ref (aM 0)), (1, .int x1), (2, .int x2)] → fX4_isStill_4 n vM x1 x2 = some y → WW H locs 0 0 ls 4 [] := by
    intro n
    induction n with
    | zero =>
      intro x1 x2 H locs ls hP hD hS hl hf
      exact onone hf
    | succ n ih =>
      intro x1 x2 H locs ls hP hD hS hl hf
      have hf : fX4_isStill_4_b (fX4_isStill_4 n) vM x1 x2 = some y := hf
      generalize fX4_isStill_4 n = k4 at hf ih
      have hk4 := ih
      clear ih
      unfold fX4_isStill_4_b at hf
      refine (hWW _ _ _ _ _ _ _).2 ?_
      refine lv_iload_n hx hb dX4_isStill_4 rfl (lv_at hl 2 rfl) ?_
      refine lv_aload_n hx hb dX4_isStill_5 rfl (lv_at hl 0 rfl) ?_
      refine va_get (D := (dC, dI)) (ci := 4) (v := .ref (aM 1)) (C := RX4) (T := TX4) (N := 21) hx hb hts hiX4 hown hK hP 0 rfl rfl 0 (by decide) hgX4_7 (fun _ h9 => h9) rfl dX4_isStill_6 ?_
      refine lv_iconst (v := 1) hx hb dX4_isStill_9 (by decide) ?_
      refine va_iald hx hb hK hP 1 0 rfl rfl (vpc rfl) dX4_isStill_10 ?_
      refine lv_icmp_ge (tgt := 290) hx hb dX4_isStill_11 (by decide) (fun c1 => ?_) (fun c1 => ?_)
      · have hf := oif_t c1 hf
        refine lv_iload_n hx hb dX4_isStill_290 rfl (lv_at hl 1 rfl) ?_
        obtain ⟨hz2, hf⟩ := ozb hf
        obtain rfl := Option.some.inj hf
        exact W.zret (v := x1) hx hb hr hz2 (fun t ht hW => ⟨⟨x1, (), rfl, rfl, by rw [ht]; exact hP, hD⟩, hS.F ht⟩) hS.2.2 dX4_isStill_291
      · have hf := oif_f c1 hf
        refine lv_lconst (v := 0) hx hb dX4_isStill_14 (by decide) ?_
        refine lv_lstore_n (lv' := [(3, .long 0), (0, .ref (aM 0)), (1, .int x1), (2, .int x2)]) hx hb dX4_isStill_15 rfl hl (by decide) rfl (fun ls hl => ?_)
        refine lv_iconst (v := 1) hx hb dX4_isStill_16 (by decide) ?_
        refine lv_istore (lv' := [(5, .int 1), (3, .long 0), (0, .ref (aM 0)), (1, .int x1), (2, .int x2)]) hx hb dX4_isStill_17 hl (by decide) rfl (fun ls hl => ?_)
        refine lv_iload_n hx hb dX4_isStill_19 rfl (lv_at hl 4 rfl) ?_
        refine lv_istore (lv' := [(6, .int x2), (5, .int 1), (3, .long 0), (0, .ref (aM 0)), (1, .int x1), (2, .int x2)]) hx hb dX4_isStill_20 hl (by decide) rfl (fun ls hl => ?_)
        refine lv_iconst (v := 1) hx hb dX4_isStill_22 (by decide) ?_
        refine lv_istore (lv' := [(7, .int 1), (6, .int x2), (5, .int 1), (3, .long 0), (0, .ref (aM 0)), (1, .int x1), (2, .int x2)]) hx hb dX4_isStill_23 hl (by decide) rfl (fun ls hl => ?_)
        exact (hWW _ _ _ _ _ _ _).1 (L25 k4 hk4 FU x1 x2 (0 : Int64) (1 : Int32) x2 (1 : Int32) H locs ls hP hD hS (lv_sub hl [4, 5, 6, 3, 2, 1, 0] rfl) hf)
  refine (hWW _ _ _ _ _ _ _).2 ?_
  unfold fX4_isStill at hf
  refine lv_iconst (v := 1) hx hb dX4_isStill_0 (by decide) ?_
  refine lv_istore_n (lv' := [(1, .int 1), (0, .ref (aM 0))]) hx hb dX4_isStill_1 rfl hl (by decide) rfl (fun ls hl => ?_)
  refine lv_iconst (v := 0) hx hb dX4_isStill_2 (by decide) ?_
  refine lv_istore_n (lv' := [(2, .int 0), (1, .int 1), (0, .ref (aM 0))]) hx hb dX4_isStill_3 rfl hl (by decide) rfl (fun ls hl => ?_)
  exact (hWW _ _ _ _ _ _ _).1 (L4 FU (1 : Int32) (0 : Int32) H locs ls hP hD hS (lv_sub hl [2, 1, 0] rfl) hf)
def fX4_rests_103 (k22 : BX4 → Int32 → Int32 → Option BX4) (k64 : BX4 → Int32 → Int32 → Int32 → Int32 → Option BX4) (vM : BX4) (x2 : Int32) (x3 : Int32) (x4 : Int32) (st0 : Int32) : Option BX4 :=
  elet (x4 + 1) (fun z15 => k64 vM st0 x2 x3 z15)
def fX4_rests_102 (k22 : BX4 → Int32 → Int32 → Option BX4) (k64 : BX4 → Int32 → Int32 → Int32 → Int32 → Option BX4) (vM : BX4) (x2 : Int32) (x3 : Int32) (x4 : Int32) : Option BX4 :=
  fX4_rests_103 k22 k64 vM x2 x3 x4 (0 : Int32)
def fX4_rests_110 (k22 : BX4 → Int32 → Int32 → Option BX4) (vM : BX4) (x1 : Int32) (x2 : Int32) : Option BX4 :=
  elet (x2 + 1) (fun z16 => k22 vM x1 z16)
def fX4_rests_64_b (k22 : BX4 → Int32 → Int32 → Option BX4) (k64 : BX4 → Int32 → Int32 → Int32 → Int32 → Option BX4) (vM : BX4) (x1 : Int32) (x2 : Int32) (x3 : Int32) (x4 : Int32) : Option BX4 :=
  if x3 ≤ x4 then (fX4_rests_110 k22 vM x1 x2) else (if x1 = 0 then ((fX4_lays vM x4).bind (fun y9 => (fX4_solves y9).bind (fun y10 => (fX4_isIn y10).bind (fun y11 => if y11 = 0 then (fX4_rests_102 k22 k64 y10 x2 x3 x4) else ((fX4_isStill y10).bind (fun y13 => if y13 = 0 then (fX4_rests_102 k22 k64 y10 x2 x3 x4) else (fX4_rests_103 k22 k64 y10 x2 x3 x4 (1 : Int32)))))))) else (fX4_rests_110 k22 vM x1 x2))
def fX4_rests_64 (k22 : BX4 → Int32 → Int32 → Option BX4) : Nat → BX4 → Int32 → Int32 → Int32 → Int32 → Option BX4
  | 0 => fun _ _ _ _ _ => none
  | n + 1 => fX4_rests_64_b k22 (fX4_rests_64 k22 n)
def fX4_rests_42_b (k22 : BX4 → Int32 → Int32 → Option BX4) (k42 : BX4 → Int32 → Int32 → Int32 → Int32 → Option BX4) (vM : BX4) (x1 : Int32) (x2 : Int32) (x3 : Int32) (x4 : Int32) : Option BX4 :=
  if (p4_blocks vM) ≤ x4 then (fX4_rests_64 k22 FU vM x1 x2 x3 (0 : Int32)) else (elet (x3 * (3 : Int32)) (fun z5 => elet (x4 + 1) (fun z6 => k42 vM x1 x2 z5 z6)))
def fX4_rests_42 (k22 : BX4 → Int32 → Int32 → Option BX4) : Nat → BX4 → Int32 → Int32 → Int32 → Int32 → Option BX4
  | 0 => fun _ _ _ _ _ => none
  | n + 1 => fX4_rests_42_b k22 (fX4_rests_42 k22 n)
def fX4_rests_22_b (k22 : BX4 → Int32 → Int32 → Option BX4) (vM : BX4) (x1 : Int32) (x2 : Int32) : Option BX4 :=
  if (8 : Int32) ≤ x2 then (some vM) else (if x1 = 0 then ((fX4_parts vM x2).bind (fun y3 => fX4_rests_42 k22 FU y3 x1 x2 (1 : Int32) (0 : Int32))) else (some vM))
def fX4_rests_22 : Nat → BX4 → Int32 → Int32 → Option BX4
  | 0 => fun _ _ _ => none
  | n + 1 => fX4_rests_22_b (fX4_rests_22 n)
def fX4_rests_19 (vM : BX4) (st0 : Int32) : Option BX4 :=
  fX4_rests_22 FU vM st0 (0 : Int32)
def fX4_rests (vM : BX4) : Option BX4 :=
  elet (s4_lower vM 1) (fun b17 => if ((p4_s b17) ((1 : Int32)).toNatClampNeg) = 0 then (fX4_rests_19 b17 (1 : Int32)) else (fX4_rests_19 b17 (0 : Int32)))
set_option maxHeartbeats 8000000 in
set_option maxRecDepth 100000 in
theorem mX4_rests (l : Launch) (dC : Nat → ClassId) (dI : Nat → Nat → Nat) (cI cJ : ClassId) (aM : Nat → Nat) (sz : Nat) (vM : BX4) (y : BX4) (hf : fX4_rests vM = some y) : Met l yX4_rests wsX4_rests ({ frames := 4, cells := 0, slots := 0, locals := 90 }) (cPc dC dI cI cJ [.ref (aM 0)] [k4_0 aM vM, k4_1 cI aM vM, k4_2 cI aM vM, k4_3 cI aM vM, k4_4 cI aM vM, k4_5 cJ aM vM, k4_6 cI aM vM, k4_7 cJ aM vM, k4_8 cJ aM vM, k4_9 cI aM vM] sz) (va_Qv (fun (_ : Unit) => True) (fun _ t => cB dC dI (va_A [k4_0 aM vM, k4_1 cI aM vM, k4_2 cI aM vM, k4_3 cI aM vM, k4_4 cI aM vM, k4_5 cJ aM vM, k4_6 cI aM vM, k4_7 cJ aM vM, k4_8 cJ aM vM, k4_9 cI aM vM] sz) [k4_0 aM y, k4_1 cI aM y, k4_2 cI aM y, k4_3 cI aM y, k4_4 cI aM y, k4_5 cJ aM y, k4_6 cI aM y, k4_7 cJ aM y, k4_8 cJ aM y, k4_9 cI aM y] t) (va_A [k4_0 aM vM, k4_1 cI aM vM, k4_2 cI aM vM, k4_3 cI aM vM, k4_4 cI aM vM, k4_5 cJ aM vM, k4_6 cI aM vM, k4_7 cJ aM vM, k4_8 cJ aM vM, k4_9 cI aM vM] sz)) 0 0 (va_A [k4_0 aM vM, k4_1 cI aM vM, k4_2 cI aM vM, k4_3 cI aM vM, k4_4 cI aM vM, k4_5 cJ aM vM, k4_6 cI aM vM, k4_7 cJ aM vM, k4_8 cJ aM vM, k4_9 cI aM vM] sz) := by
  refine Met.ofW (cc := cX4_rests) (maxL := 5) (ret := none) (by decide) rfl ?_
  intro p e s m args below meth c s₁ B hml hv
  obtain ⟨rfl, hsz, hP, hK, hD0, hN⟩ := hv
  have hx := B.exec
  have hb := B.bytes
  have hr := B.returns
  have hts := atoms_spec (ws := wsX4_rests) B.pre
  have hown : s.vm.findClass RX4 = some m.cls := findClass_of_methodNamed B.named
  have hlocks := B.notSynchronized
  subst hsz
  have hD := hD0.self (sz := s.heap.size)
  generalize hAe : va_A [k4_0 aM vM, k4_1 cI aM vM, k4_2 cI aM vM, k4_3 cI aM vM, k4_4 cI aM vM, k4_5 cJ aM vM, k4_6 cI aM vM, k4_7 cJ aM vM, k4_8 cJ aM vM, k4_9 cI aM vM] s.heap.size = A at hD hN ⊢
  have hA : ∀ q : Nat, s.heap.size ≤ q → A q := fun q h => by rw [← hAe]; exact Or.inr h
  have hP : va_P (dC, dI) vwCl [k4_0 aM vM, k4_1 cI aM vM, k4_2 cI aM vM, k4_3 cI aM vM, k4_4 cI aM vM, k4_5 cJ aM vM, k4_6 cI aM vM, k4_7 cJ aM vM, k4_8 cJ aM vM, k4_9 cI aM vM] s.heap := hP
  have hl := lv_entry ([.ref (aM 0)]) (n := 5) (Nat.le_of_ble_eq_true rfl)
  rw [lg_entry_eq]
  generalize (lg_sl ([.ref (aM 0)]) ++ List.replicate (5 - (lg_sl ([.ref (aM 0)])).length) Slot.unset).toArray = ls at hl ⊢
  have hl : lv_has ls 5 [(0, .ref (aM 0))] := hl
  have hiX4 : ∀ w ∈ u_ws RX4 TX4 21, w ∈ wsX4_rests := by decide +kernel
  have hgX4_90 := hts (.fieldLink RX4 90 "SpringPlatesModel" "blocks" "I") (by decide +kernel)
  have hgX4_79 := hts (.fieldLink RX4 79 "SpringPlatesModel" "lower" "J") (by decide +kernel)
  have hgX4_7 := hts (.fieldLink RX4 7 "SpringPlatesModel" "s" "[I") (by decide +kernel)
  refine nameH (fun H locs hHe hLe => ?_)
  have hP : va_P (dC, dI) vwCl [k4_0 aM vM, k4_1 cI aM vM, k4_2 cI aM vM, k4_3 cI aM vM, k4_4 cI aM vM, k4_5 cJ aM vM, k4_6 cI aM vM, k4_7 cJ aM vM, k4_8 cJ aM vM, k4_9 cI aM vM] H := by rw [hHe]; exact hP
  have hS : va_S A s.heap H locs := by rw [hHe, hLe]; exact va_S.rf
  refine withW (fun WW hWW => ?_)
  have J103 : ∀ (k22 : BX4 → Int32 → Int32 → Option BX4) (hk22 : ∀ (vM : BX4) (x1 : Int32) (x2 : Int32) (H : Heap) (locs : List Loc) (ls : Array Slot), va_P (dC, dI) vwCl [k4_0 aM vM, k4_1 cI aM vM, k4_2 cI aM vM, k4_3 cI aM vM, k4_4 cI aM vM, k4_5 cJ aM vM, k4_6 cI aM vM, k4_7 cJ aM vM, k4_8 cJ aM vM, k4_9 cI aM vM] H → va_D A [k4_0 aM vM, k4_1 cI aM vM, k4_2 cI aM vM, k4_3 cI aM vM, k4_4 cI aM vM, k4_5 cJ aM vM, k4_6 cI aM vM, k4_7 cJ aM vM, k4_8 cJ aM vM, k4_9 cI aM vM] → va_S A s.heap H locs → lv_has ls 5 [(0, .ref (aM 0)), (1, .int x1), (2, .int x2)] → k22 vM x1 x2 = some y → WW H locs 0 0 ls 22 []) (k64 : BX4 → Int32 → Int32 → Int32 → Int32 → Option BX4) (hk64 : ∀ (vM : BX4) (x1 : Int32) (x2 : Int32) (x3 : Int32) (x4 : Int32) (H : Heap) (locs : List Loc) (ls : Array Slot), va_P (dC, dI) vwCl [k4_0 aM vM, k4_1 cI aM vM, k4_2 cI aM vM, k4_3 cI aM vM, k4_4 cI aM vM, k4_5 cJ aM vM, k4_6 cI aM vM, k4_7 cJ aM vM, k4_8 cJ aM vM, k4_9 cI aM vM] H → va_D A [k4_0 aM vM, k4_1 cI aM vM, k4_2 cI aM vM, k4_3 cI aM vM, k4_4 cI aM vM, k4_5 cJ aM vM, k4_6 cI aM vM, k4_7 cJ aM vM, k4_8 cJ aM vM, k4_9 cI aM vM] → va_S A s.heap H locs → lv_has ls 5 [(0, .ref (aM 0)), (1, .int x1), (2, .int x2), (3, .int x3), (4, .int x4)] → k64 vM x1 x2 x3 x4 = some y → WW H locs 0 0 ls 64 []) (vM : BX4) (x2 : Int32) (x3 : Int32) (x4 : Int32) (st0 : Int32) (H : Heap) (locs : List Loc) (ls : Array Slot), va_P (dC, dI) vwCl [k4_0 aM vM, k4_1 cI aM vM, k4_2 cI aM vM, k4_3 cI aM vM, k4_4 cI aM vM, k4_5 cJ aM vM, k4_6 cI aM vM, k4_7 cJ aM vM, k4_8 cJ aM vM, k4_9 cI aM vM] H → va_D A [k4_0 aM vM, k4_1 cI aM vM, k4_2 cI aM vM, k4_3 cI aM vM, k4_4 cI aM vM, k4_5 cJ aM vM, k4_6 cI aM vM, k4_7 cJ aM vM, k4_8 cJ aM vM, k4_9 cI aM vM] → va_S A s.heap H locs → lv_has ls 5 [(0, .ref (aM 0)), (2, .int x2), (3, .int x3), (4, .int x4)] → fX4_rests_103 k22 k64 vM x2 x3 x4 st0 = some y → WW H locs 0 0 ls 103 [.int st0] := by
    intro k22 hk22 k64 hk64 vM x2 x3 x4 st0 H locs ls hP hD hS hl hf
    unfold fX4_rests_103 at hf
    refine (hWW _ _ _ _ _ _ _).2 ?_
    refine lv_istore_n (lv' := [(1, .int st0), (0, .ref (aM 0)), (2, .int x2), (3, .int x3), (4, .int x4)]) hx hb dX4_rests_103 rfl hl (by decide) rfl (fun ls hl => ?_)
    obtain ⟨z15, ez15, hf⟩ := elet_out hf
    refine lv_iinc (v := z15) (lv' := [(4, .int z15), (1, .int st0), (0, .ref (aM 0)), (2, .int x2), (3, .int x3)]) hx hb dX4_rests_104 hl (k := 4) rfl (by rw [ez15]; rfl) (by decide) rfl (fun ls hl => ?_)
    refine lv_goto (tgt := 64) hx hb dX4_rests_107 (by decide) ?_
    exact (hWW _ _ _ _ _ _ _).1 (hk64 vM st0 x2 x3 z15 H locs ls hP hD hS (lv_sub hl [2, 1, 3, 4, 0] rfl) hf)
  have J102 : ∀ (k22 : BX4 → Int32 → Int32 → Option BX4) (hk22 : ∀ (vM : BX4) (x1 : Int32) (x2 : Int32) (H : Heap) (locs : List Loc) (ls : Array Slot), va_P (dC, dI) vwCl [k4_0 aM vM, k4_1 cI aM vM, k4_2 cI aM vM, k4_3 cI aM vM, k4_4 cI aM vM, k4_5 cJ aM vM, k4_6 cI aM vM, k4_7 cJ aM vM, k4_8 cJ aM vM, k4_9 cI aM vM] H → va_D A [k4_0 aM vM, k4_1 cI aM vM, k4_2 cI aM vM, k4_3 cI aM vM, k4_4 cI aM vM, k4_5 cJ aM vM, k4_6 cI aM vM, k4_7 cJ aM vM, k4_8 cJ aM vM, k4_9 cI aM vM] → va_S A s.heap H locs → lv_has ls 5 [(0, .ref (aM 0)), (1, .int x1), (2, .int x2)] → k22 vM x1 x2 = some y → WW H locs 0 0 ls 22 []) (k64 : BX4 → Int32 → Int32 → Int32 → Int32 → Option BX4) (hk64 : ∀ (vM : BX4) (x1 : Int32) (x2 : Int32) (x3 : Int32) (x4 : Int32) (H : Heap) (locs : List Loc) (ls : Array Slot), va_P (dC, dI) vwCl [k4_0 aM vM, k4_1 cI aM vM, k4_2 cI aM vM, k4_3 cI aM vM, k4_4 cI aM vM, k4_5 cJ aM vM, k4_6 cI aM vM, k4_7 cJ aM vM, k4_8 cJ aM vM, k4_9 cI aM vM] H → va_D A [k4_0 aM vM, k4_1 cI aM vM, k4_2 cI aM vM, k4_3 cI aM vM, k4_4 cI aM vM, k4_5 cJ aM vM, k4_6 cI aM vM, k4_7 cJ aM vM, k4_8 cJ aM vM, k4_9 cI aM vM] → va_S A s.heap H locs → lv_has ls 5 [(0, .ref (aM 0)), (1, .int x1), (2, .int x2), (3, .int x3), (4, .int x4)] → k64 vM x1 x2 x3 x4 = some y → WW H locs 0 0 ls 64 []) (vM : BX4) (x2 : Int32) (x3 : Int32) (x4 : Int32) (H : Heap) (locs : List Loc) (ls : Array Slot), va_P (dC, dI) vwCl [k4_0 aM vM, k4_1 cI aM vM, k4_2 cI aM vM, k4_3 cI aM vM, k4_4 cI aM vM, k4_5 cJ aM vM, k4_6 cI aM vM, k4_7 cJ aM vM, k4_8 cJ aM vM, k4_9 cI aM vM] H → va_D A [k4_0 aM vM, k4_1 cI aM vM, k4_2 cI aM vM, k4_3 cI aM vM, k4_4 cI aM vM, k4_5 cJ aM vM, k4_6 cI aM vM, k4_7 cJ aM vM, k4_8 cJ aM vM, k4_9 cI aM vM] → va_S A s.heap H locs → lv_has ls 5 [(0, .ref (aM 0)), (2, .int x2), (3, .int x3), (4, .int x4)] → fX4_rests_102 k22 k64 vM x2 x3 x4 = some y → WW H locs 0 0 ls 102 [] := by
    intro k22 hk22 k64 hk64 vM x2 x3 x4 H locs ls hP hD hS hl hf
    unfold fX4_rests_102 at hf
    refine (hWW _ _ _ _ _ _ _).2 ?_
    refine lv_iconst (v := 0) hx hb dX4_rests_102 (by decide) ?_
    exact (hWW _ _ _ _ _ _ _).1 (J103 k22 hk22 k64 hk64 vM x2 x3 x4 (0 : Int32) H locs ls hP hD hS (lv_sub hl [0, 1, 2, 3] rfl) hf)
  have J110 : ∀ (k22 : BX4 → Int32 → Int32 → Option BX4) (hk22 : ∀ (vM : BX4) (x1 : Int32) (x2 : Int32) (H : Heap) (locs : List Loc) (ls : Array Slot), va_P (dC, dI) vwCl [k4_0 aM vM, k4_1 cI aM vM, k4_2 cI aM vM, k4_3 cI aM vM, k4_4 cI aM vM, k4_5 cJ aM vM, k4_6 cI aM vM, k4_7 cJ aM vM, k4_8 cJ aM vM, k4_9 cI aM vM] H → va_D A [k4_0 aM vM, k4_1 cI aM vM, k4_2 cI aM vM, k4_3 cI aM vM, k4_4 cI aM vM, k4_5 cJ aM vM, k4_6 cI aM vM, k4_7 cJ aM vM, k4_8 cJ aM vM, k4_9 cI aM vM] → va_S A s.heap H locs → lv_has ls 5 [(0, .ref (aM 0)), (1, .int x1), (2, .int x2)] → k22 vM x1 x2 = some y → WW H locs 0 0 ls 22 []) (vM : BX4) (x1 : Int32) (x2 : Int32) (H : Heap) (locs : List Loc) (ls : Array Slot), va_P (dC, dI) vwCl [k4_0 aM vM, k4_1 cI aM vM, k4_2 cI aM vM, k4_3 cI aM vM, k4_4 cI aM vM, k4_5 cJ aM vM, k4_6 cI aM vM, k4_7 cJ aM vM, k4_8 cJ aM vM, k4_9 cI aM vM] H → va_D A [k4_0 aM vM, k4_1 cI aM vM, k4_2 cI aM vM, k4_3 cI aM vM, k4_4 cI aM vM, k4_5 cJ aM vM, k4_6 cI aM vM, k4_7 cJ aM vM, k4_8 cJ aM vM, k4_9 cI aM vM] → va_S A s.heap H locs → lv_has ls 5 [(0, .ref (aM 0)), (1, .int x1), (2, .int x2)] → fX4_rests_110 k22 vM x1 x2 = some y → WW H locs 0 0 ls 110 [] := by
    intro k22 hk22 vM x1 x2 H locs ls hP hD hS hl hf
    unfold fX4_rests_110 at hf
    refine (hWW _ _ _ _ _ _ _).2 ?_
    obtain ⟨z16, ez16, hf⟩ := elet_out hf
    refine lv_iinc (v := z16) (lv' := [(2, .int z16), (0, .ref (aM 0)), (1, .int x1)]) hx hb dX4_rests_110 hl (k := 2) rfl (by rw [ez16]; rfl) (by decide) rfl (fun ls hl => ?_)
    refine lv_goto (tgt := 22) hx hb dX4_rests_113 (by decide) ?_
    exact (hWW _ _ _ _ _ _ _).1 (hk22 vM x1 z16 H locs ls hP hD hS (lv_sub hl [1, 2, 0] rfl) hf)
  have L64 : ∀ (k22 : BX4 → Int32 → Int32 → Option BX4) (hk22 : ∀ (vM : BX4) (x1 : Int32) (x2 : Int32) (H : Heap) (locs : List Loc) (ls : Array Slot), va_P (dC, dI) vwCl [k4_0 aM vM, k4_1 cI aM vM, k4_2 cI aM vM, k4_3 cI aM vM, k4_4 cI aM vM, k4_5 cJ aM vM, k4_6 cI aM vM, k4_7 cJ aM vM, k4_8 cJ aM vM, k4_9 cI aM vM] H → va_D A [k4_0 aM vM, k4_1 cI aM vM, k4_2 cI aM vM, k4_3 cI aM vM, k4_4 cI aM vM, k4_5 cJ aM vM, k4_6 cI aM vM, k4_7 cJ aM vM, k4_8 cJ aM vM, k4_9 cI aM vM] → va_S A s.heap H locs → lv_has ls 5 [(0, .ref (aM 0)), (1, .int x1), (2, .int x2)] → k22 vM x1 x2 = some y → WW H locs 0 0 ls 22 []) (n : Nat) (vM : BX4) (x1 : Int32) (x2 : Int32) (x3 : Int32) (x4 : Int32) (H : Heap) (locs : List Loc) (ls : Array Slot), va_P (dC, dI) vwCl [k4_0 aM vM, k4_1 cI aM vM, k4_2 cI aM vM, k4_3 cI aM vM, k4_4 cI aM vM, k4_5 cJ aM vM, k4_6 cI aM vM, k4_7 cJ aM vM, k4_8 cJ aM vM, k4_9 cI aM vM] H → va_D A [k4_0 aM vM, k4_1 cI aM vM, k4_2 cI aM vM, k4_3 cI aM vM, k4_4 cI aM vM, k4_5 cJ aM vM, k4_6 cI aM vM, k4_7 cJ aM vM, k4_8 cJ aM vM, k4_9 cI aM vM] → va_S A s.heap H locs → lv_has ls 5 [(0, .ref (aM 0)), (1, .int x1), (2, .int x2), (3, .int x3), (4, .int x4)] → fX4_rests_64 k22 n vM x1 x2 x3 x4 = some y → WW H locs 0 0 ls 64 [] := by
    intro k22 hk22 n
    induction n with
    | zero =>
      intro vM x1 x2 x3 x4 H locs ls hP hD hS hl hf
      exact onone hf
    | succ n ih =>
      intro vM x1 x2 x3 x4 H locs ls hP hD hS hl hf
      have hf : fX4_rests_64_b k22 (fX4_rests_64 k22 n) vM x1 x2 x3 x4 = some y := hf
      generalize fX4_rests_64 k22 n = k64 at hf ih
      have hk64 := ih
      clear ih
      unfold fX4_rests_64_b at hf
      refine (hWW _ _ _ _ _ _ _).2 ?_
      refine lv_iload hx hb dX4_rests_64 (lv_at hl 4 rfl) ?_
      refine lv_iload_n hx hb dX4_rests_66 rfl (lv_at hl 3 rfl) ?_
      refine lv_icmp_ge (tgt := 110) hx hb dX4_rests_67 (by decide) (fun c7 => ?_) (fun c7 => ?_)
      · have hf := oif_t c7 hf
        exact (hWW _ _ _ _ _ _ _).1 (J110 k22 hk22 vM x1 x2 H locs ls hP hD hS (lv_sub hl [0, 1, 2] rfl) hf)
      · have hf := oif_f c7 hf
        refine lv_iload_n hx hb dX4_rests_70 rfl (lv_at hl 1 rfl) ?_
        refine lv_if_ne (tgt := 110) hx hb dX4_rests_71 (by decide) (fun c8 => ?_) (fun c8 => ?_)
        · have hf := oif_f c8 hf
          exact (hWW _ _ _ _ _ _ _).1 (J110 k22 hk22 vM x1 x2 H locs ls hP hD hS (lv_sub hl [0, 1, 2] rfl) hf)
        · have hf := oif_t c8 hf
          refine lv_aload_n hx hb dX4_rests_74 rfl (lv_at hl 0 rfl) ?_
          refine lv_iload hx hb dX4_rests_75 (lv_at hl 4 rfl) ?_
          obtain ⟨y9, hy9, hf⟩ := obind hf
          refine cg_v (ws := [k4_0 aM vM, k4_1 cI aM vM, k4_2 cI aM vM, k4_3 cI aM vM, k4_4 cI aM vM, k4_5 cJ aM vM, k4_6 cI aM vM, k4_7 cJ aM vM, k4_8 cJ aM vM, k4_9 cI aM vM]) (wc := [k4_0 aM vM, k4_1 cI aM vM, k4_2 cI aM vM, k4_3 cI aM vM, k4_4 cI aM vM, k4_5 cJ aM vM, k4_6 cI aM vM, k4_7 cJ aM vM, k4_8 cJ aM vM, k4_9 cI aM vM]) (wr := []) (w1 := [k4_0 aM y9, k4_1 cI aM y9, k4_2 cI aM y9, k4_3 cI aM y9, k4_4 cI aM y9, k4_5 cJ aM y9, k4_6 cI aM y9, k4_7 cJ aM y9, k4_8 cJ aM y9, k4_9 cI aM y9]) (wo := [k4_0 aM y9, k4_1 cI aM y9, k4_2 cI aM y9, k4_3 cI aM y9, k4_4 cI aM y9, k4_5 cJ aM y9, k4_6 cI aM y9, k4_7 cJ aM y9, k4_8 cJ aM y9, k4_9 cI aM y9]) hP hD hS hA (va_runV (As := [.int x4]) (rest := []) ⟨hx, hb, hml, hown, hts⟩ (mX4_lays l dC dI cI cJ aM H.size vM x4 y9 hy9) (cwV 1 hts gX4_rests_X4_lays rfl rfl rfl (by decide +kernel) ⟨Nat.le_of_ble_eq_true rfl, Nat.le_of_ble_eq_true rfl⟩) ⟨cFB, va_recv hK hP (ci := 4) (q0 := 0) rfl rfl, cPre hK hN hS (va_free (wc := [k4_0 aM vM, k4_1 cI aM vM, k4_2 cI aM vM, k4_3 cI aM vM, k4_4 cI aM vM, k4_5 cJ aM vM, k4_6 cI aM vM, k4_7 cJ aM vM, k4_8 cJ aM vM, k4_9 cI aM vM]) hD hS hA [0, 1, 2, 3, 4, 5, 6, 7, 8, 9] rfl) (hP.sub [0, 1, 2, 3, 4, 5, 6, 7, 8, 9] rfl) (hD.sub [0, 1, 2, 3, 4, 5, 6, 7, 8, 9] rfl rfl)⟩ rfl rfl hl.1 rfl (lv_room (Nat.le_of_ble_eq_true rfl)) dX4_rests_77 ⟨Nat.le_of_ble_eq_true rfl, Nat.le_of_ble_eq_true rfl⟩) [0, 1, 2, 3, 4, 5, 6, 7, 8, 9] [] [0, 1, 2, 3, 4, 5, 6, 7, 8, 9] rfl rfl rfl (by decide +kernel) rfl rfl (fun H locs hP hD hS => ?_)
          refine lv_aload_n hx hb dX4_rests_80 rfl (lv_at hl 0 rfl) ?_
          obtain ⟨y10, hy10, hf⟩ := obind hf
          refine cg_v (ws := [k4_0 aM y9, k4_1 cI aM y9, k4_2 cI aM y9, k4_3 cI aM y9, k4_4 cI aM y9, k4_5 cJ aM y9, k4_6 cI aM y9, k4_7 cJ aM y9, k4_8 cJ aM y9, k4_9 cI aM y9]) (wc := [k4_0 aM y9, k4_1 cI aM y9, k4_2 cI aM y9, k4_3 cI aM y9, k4_4 cI aM y9, k4_5 cJ aM y9, k4_6 cI aM y9, k4_7 cJ aM y9, k4_8 cJ aM y9, k4_9 cI aM y9]) (wr := []) (w1 := [k4_0 aM y10, k4_1 cI aM y10, k4_2 cI aM y10, k4_3 cI aM y10, k4_4 cI aM y10, k4_5 cJ aM y10, k4_6 cI aM y10, k4_7 cJ aM y10, k4_8 cJ aM y10, k4_9 cI aM y10]) (wo := [k4_0 aM y10, k4_1 cI aM y10, k4_2 cI aM y10, k4_3 cI aM y10, k4_4 cI aM y10, k4_5 cJ aM y10, k4_6 cI aM y10, k4_7 cJ aM y10, k4_8 cJ aM y10, k4_9 cI aM y10]) hP hD hS hA (va_runV (As := []) (rest := []) ⟨hx, hb, hml, hown, hts⟩ (mX4_solves l dC dI cI cJ aM H.size y9 y10 hy10) (cwV 0 hts gX4_rests_X4_solves rfl rfl rfl (by decide +kernel) ⟨Nat.le_of_ble_eq_true rfl, Nat.le_of_ble_eq_true rfl⟩) ⟨cFB, va_recv hK hP (ci := 4) (q0 := 0) rfl rfl, cPre hK hN hS (va_free (wc := [k4_0 aM y9, k4_1 cI aM y9, k4_2 cI aM y9, k4_3 cI aM y9, k4_4 cI aM y9, k4_5 cJ aM y9, k4_6 cI aM y9, k4_7 cJ aM y9, k4_8 cJ aM y9, k4_9 cI aM y9]) hD hS hA [0, 1, 2, 3, 4, 5, 6, 7, 8, 9] rfl) (hP.sub [0, 1, 2, 3, 4, 5, 6, 7, 8, 9] rfl) (hD.sub [0, 1, 2, 3, 4, 5, 6, 7, 8, 9] rfl rfl)⟩ rfl rfl hl.1 rfl (lv_room (Nat.le_of_ble_eq_true rfl)) dX4_rests_81 ⟨Nat.le_of_ble_eq_true rfl, Nat.le_of_ble_eq_true rfl⟩) [0, 1, 2, 3, 4, 5, 6, 7, 8, 9] [] [0, 1, 2, 3, 4, 5, 6, 7, 8, 9] rfl rfl rfl (by decide +kernel) rfl rfl (fun H locs hP hD hS => ?_)
          refine lv_aload_n hx hb dX4_rests_84 rfl (lv_at hl 0 rfl) ?_
          obtain ⟨y11, hy11, hf⟩ := obind hf
          refine cg_i (ws := [k4_0 aM y10, k4_1 cI aM y10, k4_2 cI aM y10, k4_3 cI aM y10, k4_4 cI aM y10, k4_5 cJ aM y10, k4_6 cI aM y10, k4_7 cJ aM y10, k4_8 cJ aM y10, k4_9 cI aM y10]) (wc := [k4_0 aM y10, k4_1 cI aM y10, k4_2 cI aM y10, k4_3 cI aM y10, k4_4 cI aM y10, k4_5 cJ aM y10, k4_6 cI aM y10, k4_7 cJ aM y10, k4_8 cJ aM y10, k4_9 cI aM y10]) (wr := []) (w1 := [k4_0 aM y10, k4_1 cI aM y10, k4_2 cI aM y10, k4_3 cI aM y10, k4_4 cI aM y10, k4_5 cJ aM y10, k4_6 cI aM y10, k4_7 cJ aM y10, k4_8 cJ aM y10, k4_9 cI aM y10]) (wo := [k4_0 aM y10, k4_1 cI aM y10, k4_2 cI aM y10, k4_3 cI aM y10, k4_4 cI aM y10, k4_5 cJ aM y10, k4_6 cI aM y10, k4_7 cJ aM y10, k4_8 cJ aM y10, k4_9 cI aM y10]) hP hD hS hA (va_runV (As := []) (rest := []) ⟨hx, hb, hml, hown, hts⟩ (mX4_isIn l dC dI cI cJ aM H.size y10 y11 hy11) (cwV 0 hts gX4_rests_X4_isIn rfl rfl rfl (by decide +kernel) ⟨Nat.le_of_ble_eq_true rfl, Nat.le_of_ble_eq_true rfl⟩) ⟨cFB, va_recv hK hP (ci := 4) (q0 := 0) rfl rfl, cPre hK hN hS (va_free (wc := [k4_0 aM y10, k4_1 cI aM y10, k4_2 cI aM y10, k4_3 cI aM y10, k4_4 cI aM y10, k4_5 cJ aM y10, k4_6 cI aM y10, k4_7 cJ aM y10, k4_8 cJ aM y10, k4_9 cI aM y10]) hD hS hA [0, 1, 2, 3, 4, 5, 6, 7, 8, 9] rfl) (hP.sub [0, 1, 2, 3, 4, 5, 6, 7, 8, 9] rfl) (hD.sub [0, 1, 2, 3, 4, 5, 6, 7, 8, 9] rfl rfl)⟩ rfl rfl hl.1 rfl (lv_room (Nat.le_of_ble_eq_true rfl)) dX4_rests_85 ⟨Nat.le_of_ble_eq_true rfl, Nat.le_of_ble_eq_true rfl⟩) [0, 1, 2, 3, 4, 5, 6, 7, 8, 9] [] [0, 1, 2, 3, 4, 5, 6, 7, 8, 9] rfl rfl rfl (by decide +kernel) rfl rfl (fun H locs hP hD hS => ?_)
          refine lv_if_eq (tgt := 102) hx hb dX4_rests_88 (by decide) (fun c12 => ?_) (fun c12 => ?_)
          · have hf := oif_t c12 hf
            exact (hWW _ _ _ _ _ _ _).1 (J102 k22 hk22 k64 hk64 y10 x2 x3 x4 H locs ls hP hD hS (lv_sub hl [0, 2, 3, 4] rfl) hf)
          · have hf := oif_f c12 hf
            refine lv_aload_n hx hb dX4_rests_91 rfl (lv_at hl 0 rfl) ?_
            obtain ⟨y13, hy13, hf⟩ := obind hf
            refine cg_i (ws := [k4_0 aM y10, k4_1 cI aM y10, k4_2 cI aM y10, k4_3 cI aM y10, k4_4 cI aM y10, k4_5 cJ aM y10, k4_6 cI aM y10, k4_7 cJ aM y10, k4_8 cJ aM y10, k4_9 cI aM y10]) (wc := [k4_0 aM y10, k4_1 cI aM y10, k4_2 cI aM y10, k4_3 cI aM y10, k4_4 cI aM y10, k4_5 cJ aM y10, k4_6 cI aM y10, k4_7 cJ aM y10, k4_8 cJ aM y10, k4_9 cI aM y10]) (wr := []) (w1 := [k4_0 aM y10, k4_1 cI aM y10, k4_2 cI aM y10, k4_3 cI aM y10, k4_4 cI aM y10, k4_5 cJ aM y10, k4_6 cI aM y10, k4_7 cJ aM y10, k4_8 cJ aM y10, k4_9 cI aM y10]) (wo := [k4_0 aM y10, k4_1 cI aM y10, k4_2 cI aM y10, k4_3 cI aM y10, k4_4 cI aM y10, k4_5 cJ aM y10, k4_6 cI aM y10, k4_7 cJ aM y10, k4_8 cJ aM y10, k4_9 cI aM y10]) hP hD hS hA (va_runV (As := []) (rest := []) ⟨hx, hb, hml, hown, hts⟩ (mX4_isStill l dC dI cI cJ aM H.size y10 y13 hy13) (cwV 0 hts gX4_rests_X4_isStill rfl rfl rfl (by decide +kernel) ⟨Nat.le_of_ble_eq_true rfl, Nat.le_of_ble_eq_true rfl⟩) ⟨cFB, va_recv hK hP (ci := 4) (q0 := 0) rfl rfl, cPre hK hN hS (va_free (wc := [k4_0 aM y10, k4_1 cI aM y10, k4_2 cI aM y10, k4_3 cI aM y10, k4_4 cI aM y10, k4_5 cJ aM y10, k4_6 cI aM y10, k4_7 cJ aM y10, k4_8 cJ aM y10, k4_9 cI aM y10]) hD hS hA [0, 1, 2, 3, 4, 5, 6, 7, 8, 9] rfl) (hP.sub [0, 1, 2, 3, 4, 5, 6, 7, 8, 9] rfl) (hD.sub [0, 1, 2, 3, 4, 5, 6, 7, 8, 9] rfl rfl)⟩ rfl rfl hl.1 rfl (lv_room (Nat.le_of_ble_eq_true rfl)) dX4_rests_92 ⟨Nat.le_of_ble_eq_true rfl, Nat.le_of_ble_eq_true rfl⟩) [0, 1, 2, 3, 4, 5, 6, 7, 8, 9] [] [0, 1, 2, 3, 4, 5, 6, 7, 8, 9] rfl rfl rfl (by decide +kernel) rfl rfl (fun H locs hP hD hS => ?_)
            refine lv_if_eq (tgt := 102) hx hb dX4_rests_95 (by decide) (fun c14 => ?_) (fun c14 => ?_)
            · have hf := oif_t c14 hf
              exact (hWW _ _ _ _ _ _ _).1 (J102 k22 hk22 k64 hk64 y10 x2 x3 x4 H locs ls hP hD hS (lv_sub hl [0, 2, 3, 4] rfl) hf)
            · have hf := oif_f c14 hf
              refine lv_iconst (v := 1) hx hb dX4_rests_98 (by decide) ?_
              refine lv_goto (tgt := 103) hx hb dX4_rests_99 (by decide) ?_
              exact (hWW _ _ _ _ _ _ _).1 (J103 k22 hk22 k64 hk64 y10 x2 x3 x4 (1 : Int32) H locs ls hP hD hS (lv_sub hl [0, 2, 3, 4] rfl) hf)
  have L42 : ∀ (k22 : BX4 → Int32 → Int32 → Option BX4) (hk22 : ∀ (vM : BX4) (x1 : Int32) (x2 : Int32) (H : Heap) (locs : List Loc) (ls : Array Slot), va_P (dC, dI) vwCl [k4_0 aM vM, k4_1 cI aM vM, k4_2 cI aM vM, k4_3 cI aM vM, k4_4 cI aM vM, k4_5 cJ aM vM, k4_6 cI aM vM, k4_7 cJ aM vM, k4_8 cJ aM vM, k4_9 cI aM vM] H → va_D A [k4_0 aM vM, k4_1 cI aM vM, k4_2 cI aM vM, k4_3 cI aM vM, k4_4 cI aM vM, k4_5 cJ aM vM, k4_6 cI aM vM, k4_7 cJ aM vM, k4_8 cJ aM vM, k4_9 cI aM vM] → va_S A s.heap H locs → lv_has ls 5 [(0, .ref (aM 0)), (1, .int x1), (2, .int x2)] → k22 vM x1 x2 = some y → WW H locs 0 0 ls 22 []) (n : Nat) (vM : BX4) (x1 : Int32) (x2 : Int32) (x3 : Int32) (x4 : Int32) (H : Heap) (locs : List Loc) (ls : Array Slot), va_P (dC, dI) vwCl [k4_0 aM vM, k4_1 cI aM vM, k4_2 cI aM vM, k4_3 cI aM vM, k4_4 cI aM vM, k4_5 cJ aM vM, k4_6 cI aM vM, k4_7 cJ aM vM, k4_8 cJ aM vM, k4_9 cI aM vM] H → va_D A [k4_0 aM vM, k4_1 cI aM vM, k4_2 cI aM vM, k4_3 cI aM vM, k4_4 cI aM vM, k4_5 cJ aM vM, k4_6 cI aM vM, k4_7 cJ aM vM, k4_8 cJ aM vM, k4_9 cI aM vM] → va_S A s.heap H locs → lv_has ls 5 [(0, .ref (aM 0)), (1, .int x1), (2, .int x2), (3, .int x3), (4, .int x4)] → fX4_rests_42 k22 n vM x1 x2 x3 x4 = some y → WW H locs 0 0 ls 42 [] := by
    intro k22 hk22 n
    induction n with
    | zero =>
      intro vM x1 x2 x3 x4 H locs ls hP hD hS hl hf
      exact onone hf
    | succ n ih =>
      intro vM x1 x2 x3 x4 H locs ls hP hD hS hl hf
      have hf : fX4_rests_42_b k22 (fX4_rests_42 k22 n) vM x1 x2 x3 x4 = some y := hf
      generalize fX4_rests_42 k22 n = k42 at hf ih
      have hk42 := ih
      clear ih
      unfold fX4_rests_42_b at hf
      refine (hWW _ _ _ _ _ _ _).2 ?_
      refine lv_iload hx hb dX4_rests_42 (lv_at hl 4 rfl) ?_
      refine lv_aload_n hx hb dX4_rests_44 rfl (lv_at hl 0 rfl) ?_
      refine va_get (D := (dC, dI)) (ci := 4) (v := .int (p4_blocks vM)) (C := RX4) (T := TX4) (N := 21) hx hb hts hiX4 hown hK hP 0 rfl rfl 11 (by decide) hgX4_90 (fun _ h9 => h9) rfl dX4_rests_45 ?_
      refine lv_icmp_ge (tgt := 61) hx hb dX4_rests_48 (by decide) (fun c4 => ?_) (fun c4 => ?_)
      · have hf := oif_t c4 hf
        refine lv_iconst (v := 0) hx hb dX4_rests_61 (by decide) ?_
        refine lv_istore (lv' := [(4, .int 0), (0, .ref (aM 0)), (1, .int x1), (2, .int x2), (3, .int x3)]) hx hb dX4_rests_62 hl (by decide) rfl (fun ls hl => ?_)
        exact (hWW _ _ _ _ _ _ _).1 (L64 k22 hk22 FU vM x1 x2 x3 (0 : Int32) H locs ls hP hD hS (lv_sub hl [1, 2, 3, 4, 0] rfl) hf)
      · have hf := oif_f c4 hf
        refine lv_iload_n hx hb dX4_rests_51 rfl (lv_at hl 3 rfl) ?_
        refine lv_iconst (v := 3) hx hb dX4_rests_52 (by decide) ?_
        refine lv_imul hx hb dX4_rests_53 ?_
        obtain ⟨z5, ez5, hf⟩ := elet_out hf
        refine lvn_i ez5 ?_
        refine lv_istore_n (lv' := [(3, .int z5), (0, .ref (aM 0)), (1, .int x1), (2, .int x2), (4, .int x4)]) hx hb dX4_rests_54 rfl hl (by decide) rfl (fun ls hl => ?_)
        obtain ⟨z6, ez6, hf⟩ := elet_out hf
        refine lv_iinc (v := z6) (lv' := [(4, .int z6), (3, .int z5), (0, .ref (aM 0)), (1, .int x1), (2, .int x2)]) hx hb dX4_rests_55 hl (k := 4) rfl (by rw [ez6]; rfl) (by decide) rfl (fun ls hl => ?_)
        refine lv_goto (tgt := 42) hx hb dX4_rests_58 (by decide) ?_
        exact (hWW _ _ _ _ _ _ _).1 (hk42 vM x1 x2 z5 z6 H locs ls hP hD hS (lv_sub hl [2, 3, 4, 1, 0] rfl) hf)
  have L22 : ∀ (n : Nat) (vM : BX4) (x1 : Int32) (x2 : Int32) (H : Heap) (locs : List Loc) (ls : Array Slot), va_P (dC, dI) vwCl [k4_0 aM vM, k4_1 cI aM vM, k4_2 cI aM vM, k4_3 cI aM vM, k4_4 cI aM vM, k4_5 cJ aM vM, k4_6 cI aM vM, k4_7 cJ aM vM, k4_8 cJ aM vM, k4_9 cI aM vM] H → va_D A [k4_0 aM vM, k4_1 cI aM vM, k4_2 cI aM vM, k4_3 cI aM vM, k4_4 cI aM vM, k4_5 cJ aM vM, k4_6 cI aM vM, k4_7 cJ aM vM, k4_8 cJ aM vM, k4_9 cI aM vM] → va_S A s.heap H locs → lv_has ls 5 [(0, .ref (aM 0)), (1, .int x1), (2, .int x2)] → fX4_rests_22 n vM x1 x2 = some y → WW H locs 0 0 ls 22 [] := by
    intro n
    induction n with
    | zero =>
      intro vM x1 x2 H locs ls hP hD hS hl hf
      exact onone hf
    | succ n ih =>
      intro vM x1 x2 H locs ls hP hD hS hl hf
      have hf : fX4_rests_22_b (fX4_rests_22 n) vM x1 x2 = some y := hf
      generalize fX4_rests_22 n = k22 at hf ih
      have hk22 := ih
      clear ih
      unfold fX4_rests_22_b at hf
      refine (hWW _ _ _ _ _ _ _).2 ?_
      refine lv_iload_n hx hb dX4_rests_22 rfl (lv_at hl 2 rfl) ?_
      refine lv_bipush (v := 8) hx hb dX4_rests_23 (by decide) ?_
      refine lv_icmp_ge (tgt := 116) hx hb dX4_rests_25 (by decide) (fun c1 => ?_) (fun c1 => ?_)
      · have hf := oif_t c1 hf
        obtain rfl := Option.some.inj hf
        exact W.vret hx hb hr (fun t ht hW => ⟨⟨(), rfl, trivial, by rw [ht]; exact hP, hD⟩, hS.F ht⟩) hS.2.2 dX4_rests_116
      · have hf := oif_f c1 hf
        refine lv_iload_n hx hb dX4_rests_28 rfl (lv_at hl 1 rfl) ?_
        refine lv_if_ne (tgt := 116) hx hb dX4_rests_29 (by decide) (fun c2 => ?_) (fun c2 => ?_)
        · have hf := oif_f c2 hf
          obtain rfl := Option.some.inj hf
          exact W.vret hx hb hr (fun t ht hW => ⟨⟨(), rfl, trivial, by rw [ht]; exact hP, hD⟩, hS.F ht⟩) hS.2.2 dX4_rests_116
        · have hf := oif_t c2 hf
          refine lv_aload_n hx hb dX4_rests_32 rfl (lv_at hl 0 rfl) ?_
          refine lv_iload_n hx hb dX4_rests_33 rfl (lv_at hl 2 rfl) ?_
          obtain ⟨y3, hy3, hf⟩ := obind hf
          refine cg_v (ws := [k4_0 aM vM, k4_1 cI aM vM, k4_2 cI aM vM, k4_3 cI aM vM, k4_4 cI aM vM, k4_5 cJ aM vM, k4_6 cI aM vM, k4_7 cJ aM vM, k4_8 cJ aM vM, k4_9 cI aM vM]) (wc := [k4_0 aM vM, k4_1 cI aM vM, k4_2 cI aM vM, k4_3 cI aM vM, k4_4 cI aM vM, k4_5 cJ aM vM, k4_6 cI aM vM, k4_7 cJ aM vM, k4_8 cJ aM vM, k4_9 cI aM vM]) (wr := []) (w1 := [k4_0 aM y3, k4_1 cI aM y3, k4_2 cI aM y3, k4_3 cI aM y3, k4_4 cI aM y3, k4_5 cJ aM y3, k4_6 cI aM y3, k4_7 cJ aM y3, k4_8 cJ aM y3, k4_9 cI aM y3]) (wo := [k4_0 aM y3, k4_1 cI aM y3, k4_2 cI aM y3, k4_3 cI aM y3, k4_4 cI aM y3, k4_5 cJ aM y3, k4_6 cI aM y3, k4_7 cJ aM y3, k4_8 cJ aM y3, k4_9 cI aM y3]) hP hD hS hA (va_runV (As := [.int x2]) (rest := []) ⟨hx, hb, hml, hown, hts⟩ (mX4_parts l dC dI cI cJ aM H.size vM x2 y3 hy3) (cwV 1 hts gX4_rests_X4_parts rfl rfl rfl (by decide +kernel) ⟨Nat.le_of_ble_eq_true rfl, Nat.le_of_ble_eq_true rfl⟩) ⟨cFB, va_recv hK hP (ci := 4) (q0 := 0) rfl rfl, cPre hK hN hS (va_free (wc := [k4_0 aM vM, k4_1 cI aM vM, k4_2 cI aM vM, k4_3 cI aM vM, k4_4 cI aM vM, k4_5 cJ aM vM, k4_6 cI aM vM, k4_7 cJ aM vM, k4_8 cJ aM vM, k4_9 cI aM vM]) hD hS hA [0, 1, 2, 3, 4, 5, 6, 7, 8, 9] rfl) (hP.sub [0, 1, 2, 3, 4, 5, 6, 7, 8, 9] rfl) (hD.sub [0, 1, 2, 3, 4, 5, 6, 7, 8, 9] rfl rfl)⟩ rfl rfl hl.1 rfl (lv_room (Nat.le_of_ble_eq_true rfl)) dX4_rests_34 ⟨Nat.le_of_ble_eq_true rfl, Nat.le_of_ble_eq_true rfl⟩) [0, 1, 2, 3, 4, 5, 6, 7, 8, 9] [] [0, 1, 2, 3, 4, 5, 6, 7, 8, 9] rfl rfl rfl (by decide +kernel) rfl rfl (fun H locs hP hD hS => ?_)
          refine lv_iconst (v := 1) hx hb dX4_rests_37 (by decide) ?_
          refine lv_istore_n (lv' := [(3, .int 1), (0, .ref (aM 0)), (1, .int x1), (2, .int x2)]) hx hb dX4_rests_38 rfl hl (by decide) rfl (fun ls hl => ?_)
          refine lv_iconst (v := 0) hx hb dX4_rests_39 (by decide) ?_
          refine lv_istore (lv' := [(4, .int 0), (3, .int 1), (0, .ref (aM 0)), (1, .int x1), (2, .int x2)]) hx hb dX4_rests_40 hl (by decide) rfl (fun ls hl => ?_)
          exact (hWW _ _ _ _ _ _ _).1 (L42 k22 hk22 FU y3 x1 x2 (1 : Int32) (0 : Int32) H locs ls hP hD hS (lv_sub hl [2, 3, 4, 1, 0] rfl) hf)
  have J19 : ∀ (vM : BX4) (st0 : Int32) (H : Heap) (locs : List Loc) (ls : Array Slot), va_P (dC, dI) vwCl [k4_0 aM vM, k4_1 cI aM vM, k4_2 cI aM vM, k4_3 cI aM vM, k4_4 cI aM vM, k4_5 cJ aM vM, k4_6 cI aM vM, k4_7 cJ aM vM, k4_8 cJ aM vM, k4_9 cI aM vM] H → va_D A [k4_0 aM vM, k4_1 cI aM vM, k4_2 cI aM vM, k4_3 cI aM vM, k4_4 cI aM vM, k4_5 cJ aM vM, k4_6 cI aM vM, k4_7 cJ aM vM, k4_8 cJ aM vM, k4_9 cI aM vM] → va_S A s.heap H locs → lv_has ls 5 [(0, .ref (aM 0))] → fX4_rests_19 vM st0 = some y → WW H locs 0 0 ls 19 [.int st0] := by
    intro vM st0 H locs ls hP hD hS hl hf
    unfold fX4_rests_19 at hf
    refine (hWW _ _ _ _ _ _ _).2 ?_
    refine lv_istore_n (lv' := [(1, .int st0), (0, .ref (aM 0))]) hx hb dX4_rests_19 rfl hl (by decide) rfl (fun ls hl => ?_)
    refine lv_iconst (v := 0) hx hb dX4_rests_20 (by decide) ?_
    refine lv_istore_n (lv' := [(2, .int 0), (1, .int st0), (0, .ref (aM 0))]) hx hb dX4_rests_21 rfl hl (by decide) rfl (fun ls hl => ?_)
    exact (hWW _ _ _ _ _ _ _).1 (L22 FU vM st0 (0 : Int32) H locs ls hP hD hS (lv_sub hl [2, 1, 0] rfl) hf)
  refine (hWW _ _ _ _ _ _ _).2 ?_
  unfold fX4_rests at hf
  refine lv_aload_n hx hb dX4_rests_0 rfl (lv_at hl 0 rfl) ?_
  refine lv_lconst (v := 1) hx hb dX4_rests_1 (by decide) ?_
  obtain ⟨b17, eb17, hf⟩ := elet_out hf
  refine va_put (D := (dC, dI)) (ci := 4) (v := .long 1) (ty := .long) (C := RX4) (T := TX4) (N := 21) hx hb hts hiX4 tyX4 tyX4_ok nmX4 hown hK hP hD hS 0 rfl rfl 8 (by decide) hgX4_79 (fun _ h9 => h9) rfl (by decide +kernel) rfl rfl (Nat.le_of_ble_eq_true rfl) dX4_rests_2 (fun H locs hP hD hS => ?_)
  have hP : va_P (dC, dI) vwCl [k4_0 aM b17, k4_1 cI aM b17, k4_2 cI aM b17, k4_3 cI aM b17, k4_4 cI aM b17, k4_5 cJ aM b17, k4_6 cI aM b17, k4_7 cJ aM b17, k4_8 cJ aM b17, k4_9 cI aM b17] H := by rw [eb17]; exact hP
  have hD : va_D A [k4_0 aM b17, k4_1 cI aM b17, k4_2 cI aM b17, k4_3 cI aM b17, k4_4 cI aM b17, k4_5 cJ aM b17, k4_6 cI aM b17, k4_7 cJ aM b17, k4_8 cJ aM b17, k4_9 cI aM b17] := by rw [eb17]; exact hD
  refine lv_aload_n hx hb dX4_rests_5 rfl (lv_at hl 0 rfl) ?_
  refine va_get (D := (dC, dI)) (ci := 4) (v := .ref (aM 1)) (C := RX4) (T := TX4) (N := 21) hx hb hts hiX4 hown hK hP 0 rfl rfl 0 (by decide) hgX4_7 (fun _ h9 => h9) rfl dX4_rests_6 ?_
  refine lv_iconst (v := 1) hx hb dX4_rests_9 (by decide) ?_
  refine va_iald hx hb hK hP 1 0 rfl rfl (vpc rfl) dX4_rests_10 ?_
  refine lv_if_ne (tgt := 18) hx hb dX4_rests_11 (by decide) (fun c18 => ?_) (fun c18 => ?_)
  · have hf := oif_f c18 hf
    refine lv_iconst (v := 0) hx hb dX4_rests_18 (by decide) ?_
    exact (hWW _ _ _ _ _ _ _).1 (J19 b17 (0 : Int32) H locs ls hP hD hS (lv_sub hl [0] rfl) hf)
  · have hf := oif_t c18 hf
    refine lv_iconst (v := 1) hx hb dX4_rests_14 (by decide) ?_
    refine lv_goto (tgt := 19) hx hb dX4_rests_15 (by decide) ?_
    exact (hWW _ _ _ _ _ _ _).1 (J19 b17 (1 : Int32) H locs ls hP hD hS (lv_sub hl [0] rfl) hf)
