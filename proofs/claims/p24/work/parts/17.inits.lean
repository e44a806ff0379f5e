
abbrev adL (l : List Nat) (k : Nat) : Nat := l.getD k 0
theorem vaK_i {D : va_G} {cl : List vw_C} {cI cJ cA : ClassId} {U : State} (h : va_K D cl ([(cI, .int), (cJ, .long)] ++ [(cA, .int)]) U) : cI = cA ∧ va_K D cl [(cI, .int), (cJ, .long)] U := by
  have h1 := (h.2 0 _ rfl).2
  have h2 := (h.2 2 _ rfl).2
  exact ⟨Option.some.inj (Eq.trans (Eq.symm h1) h2), h.sub [0, 1] rfl⟩
theorem vaK_l {D : va_G} {cl : List vw_C} {cI cJ cA : ClassId} {U : State} (h : va_K D cl ([(cI, .int), (cJ, .long)] ++ [(cA, .long)]) U) : cJ = cA ∧ va_K D cl [(cI, .int), (cJ, .long)] U := by
  have h1 := (h.2 1 _ rfl).2
  have h2 := (h.2 2 _ rfl).2
  exact ⟨Option.some.inj (Eq.trans (Eq.symm h1) h2), h.sub [0, 1] rfl⟩
def fX0_init : Option BX0 :=
  elet ((60, 0, (fun _ => 0), (fun _ => 0), (fun _ => 0), (fun _ => 0)) : BX0) (fun vL => (fX0_putNewSpring vL (0 : Int32)).bind (fun y1 => some y1))
set_option maxHeartbeats 8000000 in
set_option maxRecDepth 100000 in
theorem mX0_init (l : Launch) (dC : Nat → ClassId) (dI : Nat → Nat → Nat) (cI cJ : ClassId) (h0 : Nat) (sz : Nat) (y : BX0) (hf : fX0_init = some y) : Met l yX0_init wsX0_init ({ frames := 1, cells := 4, slots := 22, locals := 21 }) (cPc dC dI cI cJ [.ref h0] [(h0, .inr (0, [.int 0, .int 0, .null, .null, .null, .null]))] sz) (va_Qv (fun (a : Nat → Nat) => a 0 = h0) (fun a t => cB dC dI (va_A [(h0, .inr (0, [.int 0, .int 0, .null, .null, .null, .null]))] sz) [k0_0 a y, k0_1 cI a y, k0_2 cI a y, k0_3 cI a y, k0_4 cI a y] t) (va_A [(h0, .inr (0, [.int 0, .int 0, .null, .null, .null, .null]))] sz)) 4 22 (va_A [(h0, .inr (0, [.int 0, .int 0, .null, .null, .null, .null]))] sz) := by
  refine Met.ofW (cc := cX0_init) (maxL := 1) (ret := none) (by decide) rfl ?_
  intro p e s m args below meth c s₁ B hml hv
  obtain ⟨rfl, hsz, hP, hK, hD0, hN⟩ := hv
  have hx := B.exec
  have hb := B.bytes
  have hr := B.returns
  have hts := atoms_spec (ws := wsX0_init) B.pre
  have hown : s.vm.findClass RX0 = some m.cls := findClass_of_methodNamed B.named
  have hlocks := B.notSynchronized
  have hin : meth.name = "<init>" := (name_of_methodNamed B.named B.method).1
  subst hsz
  have hD := hD0.self (sz := s.heap.size)
  generalize hAe : va_A [(h0, .inr (0, [.int 0, .int 0, .null, .null, .null, .null]))] s.heap.size = A at hD hN ⊢
  have hA : ∀ q : Nat, s.heap.size ≤ q → A q := fun q h => by rw [← hAe]; exact Or.inr h
  have hP : va_P (dC, dI) vwCl [(h0, .inr (0, [.int 0, .int 0, .null, .null, .null, .null]))] s.heap := hP
  have hl := lv_entry ([.ref h0]) (n := 1) (Nat.le_of_ble_eq_true rfl)
  rw [lg_entry_eq]
  generalize (lg_sl ([.ref h0]) ++ List.replicate (1 - (lg_sl ([.ref h0])).length) Slot.unset).toArray = ls at hl ⊢
  have hl : lv_has ls 1 [(0, .ref h0)] := hl
  have hiX0 : ∀ w ∈ u_ws RX0 TX0 6, w ∈ wsX0_init := by decide +kernel
  have hgX0_9 := hts (.fieldLink RX0 9 "SpringPlates$Layout" "width" "I") (by decide +kernel)
  have hgX0_15 := hts (.fieldLink RX0 15 "SpringPlates$Layout" "plates" "I") (by decide +kernel)
  have hacint := hts (.arrayClass .int) (by decide +kernel)
  have hgX0_18 := hts (.fieldLink RX0 18 "SpringPlates$Layout" "strengths" "[I") (by decide +kernel)
  have hgX0_22 := hts (.fieldLink RX0 22 "SpringPlates$Layout" "lengths" "[I") (by decide +kernel)
  have hgX0_25 := hts (.fieldLink RX0 25 "SpringPlates$Layout" "loads" "[I") (by decide +kernel)
  have hgX0_28 := hts (.fieldLink RX0 28 "SpringPlates$Layout" "stops" "[I") (by decide +kernel)
  refine nameH (fun H locs hHe hLe => ?_)
  have hP : va_P (dC, dI) vwCl [(h0, .inr (0, [.int 0, .int 0, .null, .null, .null, .null]))] H := by rw [hHe]; exact hP
  have hS : va_S A s.heap H locs := by rw [hHe, hLe]; exact va_S.rf
  unfold fX0_init at hf
  refine lv_aload_n hx hb dX0_init_0 rfl (lv_at hl 0 rfl) ?_
  refine W.objInit hx hb hown (hts (.methodLink RX0 3 objectInit) (by decide +kernel)) (hts (.instanceMethod objectInit) (by decide +kernel)) (hts (.code objectInit ⟨#[0xb1]⟩ 1 none) (by decide +kernel)) rfl (by rw [hml]; exact hl.1) rfl dX0_init_1 (Nat.le_of_ble_eq_true rfl) (Nat.le_of_ble_eq_true rfl) ?_
  refine W.eq (g2 := F0 m 4 ls []) rfl ?_
  refine lv_aload_n hx hb dX0_init_4 rfl (lv_at hl 0 rfl) ?_
  refine lv_bipush (v := 60) hx hb dX0_init_5 (by decide) ?_
  refine va_put (D := (dC, dI)) (ci := 0) (v := .int 60) (ty := .int) (C := RX0) (T := TX0) (N := 6) hx hb hts hiX0 tyX0 tyX0_ok nmX0 hown hK hP hD hS 0 rfl rfl 0 (by decide) hgX0_9 (fun _ h9 => h9) rfl (by decide +kernel) rfl rfl (Nat.le_of_ble_eq_true rfl) dX0_init_7 (fun H locs hP hD hS => ?_)
  have hP : va_P (dC, dI) vwCl [(h0, .inr (0, [.int 60, .int 0, .null, .null, .null, .null]))] H := hP
  have hD : va_D A [(h0, .inr (0, [.int 60, .int 0, .null, .null, .null, .null]))] := hD
  refine lv_aload_n hx hb dX0_init_10 rfl (lv_at hl 0 rfl) ?_
  refine lv_iconst (v := 0) hx hb dX0_init_11 (by decide) ?_
  refine va_put (D := (dC, dI)) (ci := 0) (v := .int 0) (ty := .int) (C := RX0) (T := TX0) (N := 6) hx hb hts hiX0 tyX0 tyX0_ok nmX0 hown hK hP hD hS 0 rfl rfl 1 (by decide) hgX0_15 (fun _ h9 => h9) rfl (by decide +kernel) rfl rfl (Nat.le_of_ble_eq_true rfl) dX0_init_12 (fun H locs hP hD hS => ?_)
  have hP : va_P (dC, dI) vwCl [(h0, .inr (0, [.int 60, .int 0, .null, .null, .null, .null]))] H := hP
  have hD : va_D A [(h0, .inr (0, [.int 60, .int 0, .null, .null, .null, .null]))] := hD
  refine lv_aload_n hx hb dX0_init_15 rfl (lv_at hl 0 rfl) ?_
  refine lv_iconst (v := 5) hx hb dX0_init_16 (by decide) ?_
  refine va_newa (atype := .int) (a0 := (5, .inl (fun _ => 0))) (N' := 5) hx hb hacint rfl hK hP hD hS hA (fun cA => rfl) (by decide) rfl (Nat.le_of_ble_eq_true rfl) (Nat.le_of_ble_eq_true rfl) (Nat.le_of_ble_eq_true rfl) dX0_init_17 (fun q17 cA H hK2 hP hD hS => ?_)
  obtain ⟨ecA, hK⟩ := vaK_i hK2
  subst ecA; clear hK2
  have hP : va_P (dC, dI) vwCl [(h0, .inr (0, [.int 60, .int 0, .null, .null, .null, .null])), (q17, .inl (cI, 5, .inl (fun _ => 0)))] H := hP
  have hD : va_D A [(h0, .inr (0, [.int 60, .int 0, .null, .null, .null, .null])), (q17, .inl (cI, 5, .inl (fun _ => 0)))] := hD
  refine W.widen (k := 1) (n := 5) (Nat.le_of_ble_eq_true rfl) (Nat.le_of_ble_eq_true rfl) ?_
  refine va_putF (D := (dC, dI)) (ci := 0) (v := .ref q17) (ty := .array .int) (C := RX0) (T := TX0) (N := 6) hx hb hts hiX0 tyX0 tyX0_ok nmX0 hown hK hP hD hS 0 rfl rfl 2 (by decide) hgX0_18 (fun _ h9 => h9) rfl hin rfl (by decide +kernel) rfl rfl (Nat.le_of_ble_eq_true rfl) dX0_init_19 (fun H locs hP hD hS => ?_)
  have hP : va_P (dC, dI) vwCl [(h0, .inr (0, [.int 60, .int 0, .ref q17, .null, .null, .null])), (q17, .inl (cI, 5, .inl (fun _ => 0)))] H := hP
  have hD : va_D A [(h0, .inr (0, [.int 60, .int 0, .ref q17, .null, .null, .null])), (q17, .inl (cI, 5, .inl (fun _ => 0)))] := hD
  refine lv_aload_n hx hb dX0_init_22 rfl (lv_at hl 0 rfl) ?_
  refine lv_iconst (v := 5) hx hb dX0_init_23 (by decide) ?_
  refine va_newa (atype := .int) (a0 := (5, .inl (fun _ => 0))) (N' := 5) hx hb hacint rfl hK hP hD hS hA (fun cA => rfl) (by decide) rfl (Nat.le_of_ble_eq_true rfl) (Nat.le_of_ble_eq_true rfl) (Nat.le_of_ble_eq_true rfl) dX0_init_24 (fun q24 cA H hK2 hP hD hS => ?_)
  obtain ⟨ecA, hK⟩ := vaK_i hK2
  subst ecA; clear hK2
  have hP : va_P (dC, dI) vwCl [(h0, .inr (0, [.int 60, .int 0, .ref q17, .null, .null, .null])), (q17, .inl (cI, 5, .inl (fun _ => 0))), (q24, .inl (cI, 5, .inl (fun _ => 0)))] H := hP
  have hD : va_D A [(h0, .inr (0, [.int 60, .int 0, .ref q17, .null, .null, .null])), (q17, .inl (cI, 5, .inl (fun _ => 0))), (q24, .inl (cI, 5, .inl (fun _ => 0)))] := hD
  refine W.widen (k := 2) (n := 10) (Nat.le_of_ble_eq_true rfl) (Nat.le_of_ble_eq_true rfl) ?_
  refine va_putF (D := (dC, dI)) (ci := 0) (v := .ref q24) (ty := .array .int) (C := RX0) (T := TX0) (N := 6) hx hb hts hiX0 tyX0 tyX0_ok nmX0 hown hK hP hD hS 0 rfl rfl 3 (by decide) hgX0_22 (fun _ h9 => h9) rfl hin rfl (by decide +kernel) rfl rfl (Nat.le_of_ble_eq_true rfl) dX0_init_26 (fun H locs hP hD hS => ?_)
  have hP : va_P (dC, dI) vwCl [(h0, .inr (0, [.int 60, .int 0, .ref q17, .ref q24, .null, .null])), (q17, .inl (cI, 5, .inl (fun _ => 0))), (q24, .inl (cI, 5, .inl (fun _ => 0)))] H := hP
  have hD : va_D A [(h0, .inr (0, [.int 60, .int 0, .ref q17, .ref q24, .null, .null])), (q17, .inl (cI, 5, .inl (fun _ => 0))), (q24, .inl (cI, 5, .inl (fun _ => 0)))] := hD
  refine lv_aload_n hx hb dX0_init_29 rfl (lv_at hl 0 rfl) ?_
  refine lv_iconst (v := 4) hx hb dX0_init_30 (by decide) ?_
  refine va_newa (atype := .int) (a0 := (4, .inl (fun _ => 0))) (N' := 4) hx hb hacint rfl hK hP hD hS hA (fun cA => rfl) (by decide) rfl (Nat.le_of_ble_eq_true rfl) (Nat.le_of_ble_eq_true rfl) (Nat.le_of_ble_eq_true rfl) dX0_init_31 (fun q31 cA H hK2 hP hD hS => ?_)
  obtain ⟨ecA, hK⟩ := vaK_i hK2
  subst ecA; clear hK2
  have hP : va_P (dC, dI) vwCl [(h0, .inr (0, [.int 60, .int 0, .ref q17, .ref q24, .null, .null])), (q17, .inl (cI, 5, .inl (fun _ => 0))), (q24, .inl (cI, 5, .inl (fun _ => 0))), (q31, .inl (cI, 4, .inl (fun _ => 0)))] H := hP
  have hD : va_D A [(h0, .inr (0, [.int 60, .int 0, .ref q17, .ref q24, .null, .null])), (q17, .inl (cI, 5, .inl (fun _ => 0))), (q24, .inl (cI, 5, .inl (fun _ => 0))), (q31, .inl (cI, 4, .inl (fun _ => 0)))] := hD
  refine W.widen (k := 3) (n := 14) (Nat.le_of_ble_eq_true rfl) (Nat.le_of_ble_eq_true rfl) ?_
  refine va_putF (D := (dC, dI)) (ci := 0) (v := .ref q31) (ty := .array .int) (C := RX0) (T := TX0) (N := 6) hx hb hts hiX0 tyX0 tyX0_ok nmX0 hown hK hP hD hS 0 rfl rfl 4 (by decide) hgX0_25 (fun _ h9 => h9) rfl hin rfl (by decide +kernel) rfl rfl (Nat.le_of_ble_eq_true rfl) dX0_init_33 (fun H locs hP hD hS => ?_)
  have hP : va_P (dC, dI) vwCl [(h0, .inr (0, [.int 60, .int 0, .ref q17, .ref q24, .ref q31, .null])), (q17, .inl (cI, 5, .inl (fun _ => 0))), (q24, .inl (cI, 5, .inl (fun _ => 0))), (q31, .inl (cI, 4, .inl (fun _ => 0)))] H := hP
  have hD : va_D A [(h0, .inr (0, [.int 60, .int 0, .ref q17, .ref q24, .ref q31, .null])), (q17, .inl (cI, 5, .inl (fun _ => 0))), (q24, .inl (cI, 5, .inl (fun _ => 0))), (q31, .inl (cI, 4, .inl (fun _ => 0)))] := hD
  refine lv_aload_n hx hb dX0_init_36 rfl (lv_at hl 0 rfl) ?_
  refine lv_bipush (v := 8) hx hb dX0_init_37 (by decide) ?_
  refine va_newa (atype := .int) (a0 := (8, .inl (fun _ => 0))) (N' := 8) hx hb hacint rfl hK hP hD hS hA (fun cA => rfl) (by decide) rfl (Nat.le_of_ble_eq_true rfl) (Nat.le_of_ble_eq_true rfl) (Nat.le_of_ble_eq_true rfl) dX0_init_39 (fun q39 cA H hK2 hP hD hS => ?_)
  obtain ⟨ecA, hK⟩ := vaK_i hK2
  subst ecA; clear hK2
  have hP : va_P (dC, dI) vwCl [(h0, .inr (0, [.int 60, .int 0, .ref q17, .ref q24, .ref q31, .null])), (q17, .inl (cI, 5, .inl (fun _ => 0))), (q24, .inl (cI, 5, .inl (fun _ => 0))), (q31, .inl (cI, 4, .inl (fun _ => 0))), (q39, .inl (cI, 8, .inl (fun _ => 0)))] H := hP
  have hD : va_D A [(h0, .inr (0, [.int 60, .int 0, .ref q17, .ref q24, .ref q31, .null])), (q17, .inl (cI, 5, .inl (fun _ => 0))), (q24, .inl (cI, 5, .inl (fun _ => 0))), (q31, .inl (cI, 4, .inl (fun _ => 0))), (q39, .inl (cI, 8, .inl (fun _ => 0)))] := hD
  refine W.widen (k := 4) (n := 22) (Nat.le_of_ble_eq_true rfl) (Nat.le_of_ble_eq_true rfl) ?_
  refine va_putF (D := (dC, dI)) (ci := 0) (v := .ref q39) (ty := .array .int) (C := RX0) (T := TX0) (N := 6) hx hb hts hiX0 tyX0 tyX0_ok nmX0 hown hK hP hD hS 0 rfl rfl 5 (by decide) hgX0_28 (fun _ h9 => h9) rfl hin rfl (by decide +kernel) rfl rfl (Nat.le_of_ble_eq_true rfl) dX0_init_41 (fun H locs hP hD hS => ?_)
  have hP : va_P (dC, dI) vwCl [(h0, .inr (0, [.int 60, .int 0, .ref q17, .ref q24, .ref q31, .ref q39])), (q17, .inl (cI, 5, .inl (fun _ => 0))), (q24, .inl (cI, 5, .inl (fun _ => 0))), (q31, .inl (cI, 4, .inl (fun _ => 0))), (q39, .inl (cI, 8, .inl (fun _ => 0)))] H := hP
  have hD : va_D A [(h0, .inr (0, [.int 60, .int 0, .ref q17, .ref q24, .ref q31, .ref q39])), (q17, .inl (cI, 5, .inl (fun _ => 0))), (q24, .inl (cI, 5, .inl (fun _ => 0))), (q31, .inl (cI, 4, .inl (fun _ => 0))), (q39, .inl (cI, 8, .inl (fun _ => 0)))] := hD
  obtain ⟨aL, ha⟩ : ∃ a : Nat → Nat, a = adL [h0, q17, q24, q31, q39] := ⟨_, rfl⟩
  obtain ⟨vL, hv0, hf⟩ := elet_out hf
  have hP : va_P (dC, dI) vwCl [k0_0 aL vL, k0_1 cI aL vL, k0_2 cI aL vL, k0_3 cI aL vL, k0_4 cI aL vL] H := by rw [ha, hv0]; exact hP
  have hD : va_D A [k0_0 aL vL, k0_1 cI aL vL, k0_2 cI aL vL, k0_3 cI aL vL, k0_4 cI aL vL] := by rw [ha, hv0]; exact hD
  have hl : lv_has ls 1 [(0, .ref (aL 0))] := by rw [ha]; exact hl
  refine lv_aload_n hx hb dX0_init_44 rfl (lv_at hl 0 rfl) ?_
  refine lv_iconst (v := 0) hx hb dX0_init_45 (by decide) ?_
  obtain ⟨y1, hy1, hf⟩ := obind hf
  refine cg_v (ws := [k0_0 aL vL, k0_1 cI aL vL, k0_2 cI aL vL, k0_3 cI aL vL, k0_4 cI aL vL]) (wc := [k0_0 aL vL, k0_1 cI aL vL, k0_2 cI aL vL, k0_3 cI aL vL, k0_4 cI aL vL]) (wr := []) (w1 := [k0_0 aL y1, k0_1 cI aL y1, k0_2 cI aL y1, k0_3 cI aL y1, k0_4 cI aL y1]) (wo := [k0_0 aL y1, k0_1 cI aL y1, k0_2 cI aL y1, k0_3 cI aL y1, k0_4 cI aL y1]) hP hD hS hA (va_runV (As := [.int 0]) (rest := []) ⟨hx, hb, hml, hown, hts⟩ (mX0_putNewSpring l dC dI cI cJ aL H.size vL (0 : Int32) y1 hy1) (cwV 1 hts gX0_init_X0_putNewSpring rfl rfl rfl (by decide +kernel) ⟨Nat.le_of_ble_eq_true rfl, Nat.le_of_ble_eq_true rfl⟩) ⟨cFB, va_recv hK hP (ci := 0) (q0 := 0) rfl rfl, cPre hK hN hS (va_free (wc := [k0_0 aL vL, k0_1 cI aL vL, k0_2 cI aL vL, k0_3 cI aL vL, k0_4 cI aL vL]) hD hS hA [0, 1, 2, 3, 4] rfl) (hP.sub [0, 1, 2, 3, 4] rfl) (hD.sub [0, 1, 2, 3, 4] rfl rfl)⟩ rfl rfl hl.1 rfl (lv_room (Nat.le_of_ble_eq_true rfl)) dX0_init_46 ⟨Nat.le_of_ble_eq_true rfl, Nat.le_of_ble_eq_true rfl⟩) [0, 1, 2, 3, 4] [] [0, 1, 2, 3, 4] rfl rfl rfl (by decide +kernel) rfl rfl (fun H locs hP hD hS => ?_)
  obtain rfl := Option.some.inj hf
  exact W.vret hx hb hr (fun t ht hW => ⟨⟨aL, rfl, (by rw [ha]; rfl), by rw [ht]; exact hP, hD⟩, hS.F ht⟩) hS.2.2 dX0_init_49
def fX1_init : Option BX1 :=
  elet (((fun _ => 0), 1, (fun _ => 0), (fun _ => 0), (fun _ => 0), (fun _ => 0), (fun _ => 0), (fun _ => 0), (fun _ => 0), (fun _ => 0)) : BX1) (fun vQ => some vQ)
set_option maxHeartbeats 8000000 in
set_option maxRecDepth 100000 in
theorem mX1_init (l : Launch) (dC : Nat → ClassId) (dI : Nat → Nat → Nat) (cI cJ : ClassId) (h0 : Nat) (sz : Nat) (y : BX1) (hf : fX1_init = some y) : Met l yX1_init wsX1_init ({ frames := 1, cells := 9, slots := 38, locals := 12 }) (cPc dC dI cI cJ [.ref h0] [(h0, .inr (1, [.null, .long 0, .null, .null, .null, .null, .null, .null, .null, .null]))] sz) (va_Qv (fun (a : Nat → Nat) => a 0 = h0) (fun a t => cB dC dI (va_A [(h0, .inr (1, [.null, .long 0, .null, .null, .null, .null, .null, .null, .null, .null]))] sz) [k1_0 a y, k1_1 cJ a y, k1_2 cI a y, k1_3 cI a y, k1_4 cI a y, k1_5 cJ a y, k1_6 cJ a y, k1_7 cJ a y, k1_8 cJ a y, k1_9 cJ a y] t) (va_A [(h0, .inr (1, [.null, .long 0, .null, .null, .null, .null, .null, .null, .null, .null]))] sz)) 9 38 (va_A [(h0, .inr (1, [.null, .long 0, .null, .null, .null, .null, .null, .null, .null, .null]))] sz) := by
  refine Met.ofW (cc := cX1_init) (maxL := 1) (ret := none) (by decide) rfl ?_
  intro p e s m args below meth c s₁ B hml hv
  obtain ⟨rfl, hsz, hP, hK, hD0, hN⟩ := hv
  have hx := B.exec
  have hb := B.bytes
  have hr := B.returns
  have hts := atoms_spec (ws := wsX1_init) B.pre
  have hown : s.vm.findClass RX1 = some m.cls := findClass_of_methodNamed B.named
  have hlocks := B.notSynchronized
  have hin : meth.name = "<init>" := (name_of_methodNamed B.named B.method).1
  subst hsz
  have hD := hD0.self (sz := s.heap.size)
  generalize hAe : va_A [(h0, .inr (1, [.null, .long 0, .null, .null, .null, .null, .null, .null, .null, .null]))] s.heap.size = A at hD hN ⊢
  have hA : ∀ q : Nat, s.heap.size ≤ q → A q := fun q h => by rw [← hAe]; exact Or.inr h
  have hP : va_P (dC, dI) vwCl [(h0, .inr (1, [.null, .long 0, .null, .null, .null, .null, .null, .null, .null, .null]))] s.heap := hP
  have hl := lv_entry ([.ref h0]) (n := 1) (Nat.le_of_ble_eq_true rfl)
  rw [lg_entry_eq]
  generalize (lg_sl ([.ref h0]) ++ List.replicate (1 - (lg_sl ([.ref h0])).length) Slot.unset).toArray = ls at hl ⊢
  have hl : lv_has ls 1 [(0, .ref h0)] := hl
  have hiX1 : ∀ w ∈ u_ws RX1 TX1 10, w ∈ wsX1_init := by decide +kernel
  have haclong := hts (.arrayClass .long) (by decide +kernel)
  have hgX1_9 := hts (.fieldLink RX1 9 "SpringPlates$Rest" "spots" "[J") (by decide +kernel)
  have hgX1_15 := hts (.fieldLink RX1 15 "SpringPlates$Rest" "lower" "J") (by decide +kernel)
  have hacint := hts (.arrayClass .int) (by decide +kernel)
  have hgX1_19 := hts (.fieldLink RX1 19 "SpringPlates$Rest" "lowest" "[I") (by decide +kernel)
  have hgX1_23 := hts (.fieldLink RX1 23 "SpringPlates$Rest" "highest" "[I") (by decide +kernel)
  have hgX1_26 := hts (.fieldLink RX1 26 "SpringPlates$Rest" "holds" "[I") (by decide +kernel)
  have hgX1_29 := hts (.fieldLink RX1 29 "SpringPlates$Rest" "constants" "[J") (by decide +kernel)
  have hgX1_32 := hts (.fieldLink RX1 32 "SpringPlates$Rest" "slopes" "[J") (by decide +kernel)
  have hgX1_35 := hts (.fieldLink RX1 35 "SpringPlates$Rest" "divisors" "[J") (by decide +kernel)
  have hgX1_38 := hts (.fieldLink RX1 38 "SpringPlates$Rest" "uppers" "[J") (by decide +kernel)
  have hgX1_41 := hts (.fieldLink RX1 41 "SpringPlates$Rest" "lowers" "[J") (by decide +kernel)
  refine nameH (fun H locs hHe hLe => ?_)
  have hP : va_P (dC, dI) vwCl [(h0, .inr (1, [.null, .long 0, .null, .null, .null, .null, .null, .null, .null, .null]))] H := by rw [hHe]; exact hP
  have hS : va_S A s.heap H locs := by rw [hHe, hLe]; exact va_S.rf
  unfold fX1_init at hf
  refine lv_aload_n hx hb dX1_init_0 rfl (lv_at hl 0 rfl) ?_
  refine W.objInit hx hb hown (hts (.methodLink RX1 3 objectInit) (by decide +kernel)) (hts (.instanceMethod objectInit) (by decide +kernel)) (hts (.code objectInit ⟨#[0xb1]⟩ 1 none) (by decide +kernel)) rfl (by rw [hml]; exact hl.1) rfl dX1_init_1 (Nat.le_of_ble_eq_true rfl) (Nat.le_of_ble_eq_true rfl) ?_
  refine W.eq (g2 := F0 m 4 ls []) rfl ?_
  refine lv_aload_n hx hb dX1_init_4 rfl (lv_at hl 0 rfl) ?_
  refine lv_bipush (v := 6) hx hb dX1_init_5 (by decide) ?_
  refine va_newa (atype := .long) (a0 := (6, .inr (.inl (fun _ => 0)))) (N' := 6) hx hb haclong rfl hK hP hD hS hA (fun cA => rfl) (by decide) rfl (Nat.le_of_ble_eq_true rfl) (Nat.le_of_ble_eq_true rfl) (Nat.le_of_ble_eq_true rfl) dX1_init_7 (fun q7 cA H hK2 hP hD hS => ?_)
  obtain ⟨ecA, hK⟩ := vaK_l hK2
  subst ecA; clear hK2
  have hP : va_P (dC, dI) vwCl [(h0, .inr (1, [.null, .long 0, .null, .null, .null, .null, .null, .null, .null, .null])), (q7, .inl (cJ, 6, .inr (.inl (fun _ => 0))))] H := hP
  have hD : va_D A [(h0, .inr (1, [.null, .long 0, .null, .null, .null, .null, .null, .null, .null, .null])), (q7, .inl (cJ, 6, .inr (.inl (fun _ => 0))))] := hD
  refine W.widen (k := 1) (n := 6) (Nat.le_of_ble_eq_true rfl) (Nat.le_of_ble_eq_true rfl) ?_
  refine va_putF (D := (dC, dI)) (ci := 1) (v := .ref q7) (ty := .array .long) (C := RX1) (T := TX1) (N := 10) hx hb hts hiX1 tyX1 tyX1_ok nmX1 hown hK hP hD hS 0 rfl rfl 0 (by decide) hgX1_9 (fun _ h9 => h9) rfl hin rfl (by decide +kernel) rfl rfl (Nat.le_of_ble_eq_true rfl) dX1_init_9 (fun H locs hP hD hS => ?_)
  have hP : va_P (dC, dI) vwCl [(h0, .inr (1, [.ref q7, .long 0, .null, .null, .null, .null, .null, .null, .null, .null])), (q7, .inl (cJ, 6, .inr (.inl (fun _ => 0))))] H := hP
  have hD : va_D A [(h0, .inr (1, [.ref q7, .long 0, .null, .null, .null, .null, .null, .null, .null, .null])), (q7, .inl (cJ, 6, .inr (.inl (fun _ => 0))))] := hD
  refine lv_aload_n hx hb dX1_init_12 rfl (lv_at hl 0 rfl) ?_
  refine lv_lconst (v := 1) hx hb dX1_init_13 (by decide) ?_
  refine va_put (D := (dC, dI)) (ci := 1) (v := .long 1) (ty := .long) (C := RX1) (T := TX1) (N := 10) hx hb hts hiX1 tyX1 tyX1_ok nmX1 hown hK hP hD hS 0 rfl rfl 1 (by decide) hgX1_15 (fun _ h9 => h9) rfl (by decide +kernel) rfl rfl (Nat.le_of_ble_eq_true rfl) dX1_init_14 (fun H locs hP hD hS => ?_)
  have hP : va_P (dC, dI) vwCl [(h0, .inr (1, [.ref q7, .long 1, .null, .null, .null, .null, .null, .null, .null, .null])), (q7, .inl (cJ, 6, .inr (.inl (fun _ => 0))))] H := hP
  have hD : va_D A [(h0, .inr (1, [.ref q7, .long 1, .null, .null, .null, .null, .null, .null, .null, .null])), (q7, .inl (cJ, 6, .inr (.inl (fun _ => 0))))] := hD
  refine lv_aload_n hx hb dX1_init_17 rfl (lv_at hl 0 rfl) ?_
  refine lv_iconst (v := 4) hx hb dX1_init_18 (by decide) ?_
  refine va_newa (atype := .int) (a0 := (4, .inl (fun _ => 0))) (N' := 4) hx hb hacint rfl hK hP hD hS hA (fun cA => rfl) (by decide) rfl (Nat.le_of_ble_eq_true rfl) (Nat.le_of_ble_eq_true rfl) (Nat.le_of_ble_eq_true rfl) dX1_init_19 (fun q19 cA H hK2 hP hD hS => ?_)
  obtain ⟨ecA, hK⟩ := vaK_i hK2
  subst ecA; clear hK2
  have hP : va_P (dC, dI) vwCl [(h0, .inr (1, [.ref q7, .long 1, .null, .null, .null, .null, .null, .null, .null, .null])), (q7, .inl (cJ, 6, .inr (.inl (fun _ => 0)))), (q19, .inl (cI, 4, .inl (fun _ => 0)))] H := hP
  have hD : va_D A [(h0, .inr (1, [.ref q7, .long 1, .null, .null, .null, .null, .null, .null, .null, .null])), (q7, .inl (cJ, 6, .inr (.inl (fun _ => 0)))), (q19, .inl (cI, 4, .inl (fun _ => 0)))] := hD
  refine W.widen (k := 2) (n := 10) (Nat.le_of_ble_eq_true rfl) (Nat.le_of_ble_eq_true rfl) ?_
  refine va_putF (D := (dC, dI)) (ci := 1) (v := .ref q19) (ty := .array .int) (C := RX1) (T := TX1) (N := 10) hx hb hts hiX1 tyX1 tyX1_ok nmX1 hown hK hP hD hS 0 rfl rfl 2 (by decide) hgX1_19 (fun _ h9 => h9) rfl hin rfl (by decide +kernel) rfl rfl (Nat.le_of_ble_eq_true rfl) dX1_init_21 (fun H locs hP hD hS => ?_)
  have hP : va_P (dC, dI) vwCl [(h0, .inr (1, [.ref q7, .long 1, .ref q19, .null, .null, .null, .null, .null, .null, .null])), (q7, .inl (cJ, 6, .inr (.inl (fun _ => 0)))), (q19, .inl (cI, 4, .inl (fun _ => 0)))] H := hP
  have hD : va_D A [(h0, .inr (1, [.ref q7, .long 1, .ref q19, .null, .null, .null, .null, .null, .null, .null])), (q7, .inl (cJ, 6, .inr (.inl (fun _ => 0)))), (q19, .inl (cI, 4, .inl (fun _ => 0)))] := hD
  refine lv_aload_n hx hb dX1_init_24 rfl (lv_at hl 0 rfl) ?_
  refine lv_iconst (v := 4) hx hb dX1_init_25 (by decide) ?_
  refine va_newa (atype := .int) (a0 := (4, .inl (fun _ => 0))) (N' := 4) hx hb hacint rfl hK hP hD hS hA (fun cA => rfl) (by decide) rfl (Nat.le_of_ble_eq_true rfl) (Nat.le_of_ble_eq_true rfl) (Nat.le_of_ble_eq_true rfl) dX1_init_26 (fun q26 cA H hK2 hP hD hS => ?_)
  obtain ⟨ecA, hK⟩ := vaK_i hK2
  subst ecA; clear hK2
  have hP : va_P (dC, dI) vwCl [(h0, .inr (1, [.ref q7, .long 1, .ref q19, .null, .null, .null, .null, .null, .null, .null])), (q7, .inl (cJ, 6, .inr (.inl (fun _ => 0)))), (q19, .inl (cI, 4, .inl (fun _ => 0))), (q26, .inl (cI, 4, .inl (fun _ => 0)))] H := hP
  have hD : va_D A [(h0, .inr (1, [.ref q7, .long 1, .ref q19, .null, .null, .null, .null, .null, .null, .null])), (q7, .inl (cJ, 6, .inr (.inl (fun _ => 0)))), (q19, .inl (cI, 4, .inl (fun _ => 0))), (q26, .inl (cI, 4, .inl (fun _ => 0)))] := hD
  refine W.widen (k := 3) (n := 14) (Nat.le_of_ble_eq_true rfl) (Nat.le_of_ble_eq_true rfl) ?_
  refine va_putF (D := (dC, dI)) (ci := 1) (v := .ref q26) (ty := .array .int) (C := RX1) (T := TX1) (N := 10) hx hb hts hiX1 tyX1 tyX1_ok nmX1 hown hK hP hD hS 0 rfl rfl 3 (by decide) hgX1_23 (fun _ h9 => h9) rfl hin rfl (by decide +kernel) rfl rfl (Nat.le_of_ble_eq_true rfl) dX1_init_28 (fun H locs hP hD hS => ?_)
  have hP : va_P (dC, dI) vwCl [(h0, .inr (1, [.ref q7, .long 1, .ref q19, .ref q26, .null, .null, .null, .null, .null, .null])), (q7, .inl (cJ, 6, .inr (.inl (fun _ => 0)))), (q19, .inl (cI, 4, .inl (fun _ => 0))), (q26, .inl (cI, 4, .inl (fun _ => 0)))] H := hP
  have hD : va_D A [(h0, .inr (1, [.ref q7, .long 1, .ref q19, .ref q26, .null, .null, .null, .null, .null, .null])), (q7, .inl (cJ, 6, .inr (.inl (fun _ => 0)))), (q19, .inl (cI, 4, .inl (fun _ => 0))), (q26, .inl (cI, 4, .inl (fun _ => 0)))] := hD
  refine lv_aload_n hx hb dX1_init_31 rfl (lv_at hl 0 rfl) ?_
  refine lv_iconst (v := 4) hx hb dX1_init_32 (by decide) ?_
  refine va_newa (atype := .int) (a0 := (4, .inl (fun _ => 0))) (N' := 4) hx hb hacint rfl hK hP hD hS hA (fun cA => rfl) (by decide) rfl (Nat.le_of_ble_eq_true rfl) (Nat.le_of_ble_eq_true rfl) (Nat.le_of_ble_eq_true rfl) dX1_init_33 (fun q33 cA H hK2 hP hD hS => ?_)
  obtain ⟨ecA, hK⟩ := vaK_i hK2
  subst ecA; clear hK2
  have hP : va_P (dC, dI) vwCl [(h0, .inr (1, [.ref q7, .long 1, .ref q19, .ref q26, .null, .null, .null, .null, .null, .null])), (q7, .inl (cJ, 6, .inr (.inl (fun _ => 0)))), (q19, .inl (cI, 4, .inl (fun _ => 0))), (q26, .inl (cI, 4, .inl (fun _ => 0))), (q33, .inl (cI, 4, .inl (fun _ => 0)))] H := hP
  have hD : va_D A [(h0, .inr (1, [.ref q7, .long 1, .ref q19, .ref q26, .null, .null, .null, .null, .null, .null])), (q7, .inl (cJ, 6, .inr (.inl (fun _ => 0)))), (q19, .inl (cI, 4, .inl (fun _ => 0))), (q26, .inl (cI, 4, .inl (fun _ => 0))), (q33, .inl (cI, 4, .inl (fun _ => 0)))] := hD
  refine W.widen (k := 4) (n := 18) (Nat.le_of_ble_eq_true rfl) (Nat.le_of_ble_eq_true rfl) ?_
  refine va_putF (D := (dC, dI)) (ci := 1) (v := .ref q33) (ty := .array .int) (C := RX1) (T := TX1) (N := 10) hx hb hts hiX1 tyX1 tyX1_ok nmX1 hown hK hP hD hS 0 rfl rfl 4 (by decide) hgX1_26 (fun _ h9 => h9) rfl hin rfl (by decide +kernel) rfl rfl (Nat.le_of_ble_eq_true rfl) dX1_init_35 (fun H locs hP hD hS => ?_)
  have hP : va_P (dC, dI) vwCl [(h0, .inr (1, [.ref q7, .long 1, .ref q19, .ref q26, .ref q33, .null, .null, .null, .null, .null])), (q7, .inl (cJ, 6, .inr (.inl (fun _ => 0)))), (q19, .inl (cI, 4, .inl (fun _ => 0))), (q26, .inl (cI, 4, .inl (fun _ => 0))), (q33, .inl (cI, 4, .inl (fun _ => 0)))] H := hP
  have hD : va_D A [(h0, .inr (1, [.ref q7, .long 1, .ref q19, .ref q26, .ref q33, .null, .null, .null, .null, .null])), (q7, .inl (cJ, 6, .inr (.inl (fun _ => 0)))), (q19, .inl (cI, 4, .inl (fun _ => 0))), (q26, .inl (cI, 4, .inl (fun _ => 0))), (q33, .inl (cI, 4, .inl (fun _ => 0)))] := hD
  refine lv_aload_n hx hb dX1_init_38 rfl (lv_at hl 0 rfl) ?_
  refine lv_iconst (v := 4) hx hb dX1_init_39 (by decide) ?_
  refine va_newa (atype := .long) (a0 := (4, .inr (.inl (fun _ => 0)))) (N' := 4) hx hb haclong rfl hK hP hD hS hA (fun cA => rfl) (by decide) rfl (Nat.le_of_ble_eq_true rfl) (Nat.le_of_ble_eq_true rfl) (Nat.le_of_ble_eq_true rfl) dX1_init_40 (fun q40 cA H hK2 hP hD hS => ?_)
  obtain ⟨ecA, hK⟩ := vaK_l hK2
  subst ecA; clear hK2
  have hP : va_P (dC, dI) vwCl [(h0, .inr (1, [.ref q7, .long 1, .ref q19, .ref q26, .ref q33, .null, .null, .null, .null, .null])), (q7, .inl (cJ, 6, .inr (.inl (fun _ => 0)))), (q19, .inl (cI, 4, .inl (fun _ => 0))), (q26, .inl (cI, 4, .inl (fun _ => 0))), (q33, .inl (cI, 4, .inl (fun _ => 0))), (q40, .inl (cJ, 4, .inr (.inl (fun _ => 0))))] H := hP
  have hD : va_D A [(h0, .inr (1, [.ref q7, .long 1, .ref q19, .ref q26, .ref q33, .null, .null, .null, .null, .null])), (q7, .inl (cJ, 6, .inr (.inl (fun _ => 0)))), (q19, .inl (cI, 4, .inl (fun _ => 0))), (q26, .inl (cI, 4, .inl (fun _ => 0))), (q33, .inl (cI, 4, .inl (fun _ => 0))), (q40, .inl (cJ, 4, .inr (.inl (fun _ => 0))))] := hD
  refine W.widen (k := 5) (n := 22) (Nat.le_of_ble_eq_true rfl) (Nat.le_of_ble_eq_true rfl) ?_
  refine va_putF (D := (dC, dI)) (ci := 1) (v := .ref q40) (ty := .array .long) (C := RX1) (T := TX1) (N := 10) hx hb hts hiX1 tyX1 tyX1_ok nmX1 hown hK hP hD hS 0 rfl rfl 5 (by decide) hgX1_29 (fun _ h9 => h9) rfl hin rfl (by decide +kernel) rfl rfl (Nat.le_of_ble_eq_true rfl) dX1_init_42 (fun H locs hP hD hS => ?_)
  have hP : va_P (dC, dI) vwCl [(h0, .inr (1, [.ref q7, .long 1, .ref q19, .ref q26, .ref q33, .ref q40, .null, .null, .null, .null])), (q7, .inl (cJ, 6, .inr (.inl (fun _ => 0)))), (q19, .inl (cI, 4, .inl (fun _ => 0))), (q26, .inl (cI, 4, .inl (fun _ => 0))), (q33, .inl (cI, 4, .inl (fun _ => 0))), (q40, .inl (cJ, 4, .inr (.inl (fun _ => 0))))] H := hP
  have hD : va_D A [(h0, .inr (1, [.ref q7, .long 1, .ref q19, .ref q26, .ref q33, .ref q40, .null, .null, .null, .null])), (q7, .inl (cJ, 6, .inr (.inl (fun _ => 0)))), (q19, .inl (cI, 4, .inl (fun _ => 0))), (q26, .inl (cI, 4, .inl (fun _ => 0))), (q33, .inl (cI, 4, .inl (fun _ => 0))), (q40, .inl (cJ, 4, .inr (.inl (fun _ => 0))))] := hD
  refine lv_aload_n hx hb dX1_init_45 rfl (lv_at hl 0 rfl) ?_
  refine lv_iconst (v := 4) hx hb dX1_init_46 (by decide) ?_
  refine va_newa (atype := .long) (a0 := (4, .inr (.inl (fun _ => 0)))) (N' := 4) hx hb haclong rfl hK hP hD hS hA (fun cA => rfl) (by decide) rfl (Nat.le_of_ble_eq_true rfl) (Nat.le_of_ble_eq_true rfl) (Nat.le_of_ble_eq_true rfl) dX1_init_47 (fun q47 cA H hK2 hP hD hS => ?_)
  obtain ⟨ecA, hK⟩ := vaK_l hK2
  subst ecA; clear hK2
  have hP : va_P (dC, dI) vwCl [(h0, .inr (1, [.ref q7, .long 1, .ref q19, .ref q26, .ref q33, .ref q40, .null, .null, .null, .null])), (q7, .inl (cJ, 6, .inr (.inl (fun _ => 0)))), (q19, .inl (cI, 4, .inl (fun _ => 0))), (q26, .inl (cI, 4, .inl (fun _ => 0))), (q33, .inl (cI, 4, .inl (fun _ => 0))), (q40, .inl (cJ, 4, .inr (.inl (fun _ => 0)))), (q47, .inl (cJ, 4, .inr (.inl (fun _ => 0))))] H := hP
  have hD : va_D A [(h0, .inr (1, [.ref q7, .long 1, .ref q19, .ref q26, .ref q33, .ref q40, .null, .null, .null, .null])), (q7, .inl (cJ, 6, .inr (.inl (fun _ => 0)))), (q19, .inl (cI, 4, .inl (fun _ => 0))), (q26, .inl (cI, 4, .inl (fun _ => 0))), (q33, .inl (cI, 4, .inl (fun _ => 0))), (q40, .inl (cJ, 4, .inr (.inl (fun _ => 0)))), (q47, .inl (cJ, 4, .inr (.inl (fun _ => 0))))] := hD
  refine W.widen (k := 6) (n := 26) (Nat.le_of_ble_eq_true rfl) (Nat.le_of_ble_eq_true rfl) ?_
  refine va_putF (D := (dC, dI)) (ci := 1) (v := .ref q47) (ty := .array .long) (C := RX1) (T := TX1) (N := 10) hx hb hts hiX1 tyX1 tyX1_ok nmX1 hown hK hP hD hS 0 rfl rfl 6 (by decide) hgX1_32 (fun _ h9 => h9) rfl hin rfl (by decide +kernel) rfl rfl (Nat.le_of_ble_eq_true rfl) dX1_init_49 (fun H locs hP hD hS => ?_)
  have hP : va_P (dC, dI) vwCl [(h0, .inr (1, [.ref q7, .long 1, .ref q19, .ref q26, .ref q33, .ref q40, .ref q47, .null, .null, .null])), (q7, .inl (cJ, 6, .inr (.inl (fun _ => 0)))), (q19, .inl (cI, 4, .inl (fun _ => 0))), (q26, .inl (cI, 4, .inl (fun _ => 0))), (q33, .inl (cI, 4, .inl (fun _ => 0))), (q40, .inl (cJ, 4, .inr (.inl (fun _ => 0)))), (q47, .inl (cJ, 4, .inr (.inl (fun _ => 0))))] H := hP
  have hD : va_D A [(h0, .inr (1, [.ref q7, .long 1, .ref q19, .ref q26, .ref q33, .ref q40, .ref q47, .null, .null, .null])), (q7, .inl (cJ, 6, .inr (.inl (fun _ => 0)))), (q19, .inl (cI, 4, .inl (fun _ => 0))), (q26, .inl (cI, 4, .inl (fun _ => 0))), (q33, .inl (cI, 4, .inl (fun _ => 0))), (q40, .inl (cJ, 4, .inr (.inl (fun _ => 0)))), (q47, .inl (cJ, 4, .inr (.inl (fun _ => 0))))] := hD
  refine lv_aload_n hx hb dX1_init_52 rfl (lv_at hl 0 rfl) ?_
  refine lv_iconst (v := 4) hx hb dX1_init_53 (by decide) ?_
  refine va_newa (atype := .long) (a0 := (4, .inr (.inl (fun _ => 0)))) (N' := 4) hx hb haclong rfl hK hP hD hS hA (fun cA => rfl) (by decide) rfl (Nat.le_of_ble_eq_true rfl) (Nat.le_of_ble_eq_true rfl) (Nat.le_of_ble_eq_true rfl) dX1_init_54 (fun q54 cA H hK2 hP hD hS => ?_)
  obtain ⟨ecA, hK⟩ := vaK_l hK2
  subst ecA; clear hK2
  have hP : va_P (dC, dI) vwCl [(h0, .inr (1, [.ref q7, .long 1, .ref q19, .ref q26, .ref q33, .ref q40, .ref q47, .null, .null, .null])), (q7, .inl (cJ, 6, .inr (.inl (fun _ => 0)))), (q19, .inl (cI, 4, .inl (fun _ => 0))), (q26, .inl (cI, 4, .inl (fun _ => 0))), (q33, .inl (cI, 4, .inl (fun _ => 0))), (q40, .inl (cJ, 4, .inr (.inl (fun _ => 0)))), (q47, .inl (cJ, 4, .inr (.inl (fun _ => 0)))), (q54, .inl (cJ, 4, .inr (.inl (fun _ => 0))))] H := hP
  have hD : va_D A [(h0, .inr (1, [.ref q7, .long 1, .ref q19, .ref q26, .ref q33, .ref q40, .ref q47, .null, .null, .null])), (q7, .inl (cJ, 6, .inr (.inl (fun _ => 0)))), (q19, .inl (cI, 4, .inl (fun _ => 0))), (q26, .inl (cI, 4, .inl (fun _ => 0))), (q33, .inl (cI, 4, .inl (fun _ => 0))), (q40, .inl (cJ, 4, .inr (.inl (fun _ => 0)))), (q47, .inl (cJ, 4, .inr (.inl (fun _ => 0)))), (q54, .inl (cJ, 4, .inr (.inl (fun _ => 0))))] := hD
  refine W.widen (k := 7) (n := 30) (Nat.le_of_ble_eq_true rfl) (Nat.le_of_ble_eq_true rfl) ?_
  refine va_putF (D := (dC, dI)) (ci := 1) (v := .ref q54) (ty := .array .long) (C := RX1) (T := TX1) (N := 10) hx hb hts hiX1 tyX1 tyX1_ok nmX1 hown hK hP hD hS 0 rfl rfl 7 (by decide) hgX1_35 (fun _ h9 => h9) rfl hin rfl (by decide +kernel) rfl rfl (Nat.le_of_ble_eq_true rfl) dX1_init_56 (fun H locs hP hD hS => ?_)
  have hP : va_P (dC, dI) vwCl [(h0, .inr (1, [.ref q7, .long 1, .ref q19, .ref q26, .ref q33, .ref q40, .ref q47, .ref q54, .null, .null])), (q7, .inl (cJ, 6, .inr (.inl (fun _ => 0)))), (q19, .inl (cI, 4, .inl (fun _ => 0))), (q26, .inl (cI, 4, .inl (fun _ => 0))), (q33, .inl (cI, 4, .inl (fun _ => 0))), (q40, .inl (cJ, 4, .inr (.inl (fun _ => 0)))), (q47, .inl (cJ, 4, .inr (.inl (fun _ => 0)))), (q54, .inl (cJ, 4, .inr (.inl (fun _ => 0))))] H := hP
  have hD : va_D A [(h0, .inr (1, [.ref q7, .long 1, .ref q19, .ref q26, .ref q33, .ref q40, .ref q47, .ref q54, .null, .null])), (q7, .inl (cJ, 6, .inr (.inl (fun _ => 0)))), (q19, .inl (cI, 4, .inl (fun _ => 0))), (q26, .inl (cI, 4, .inl (fun _ => 0))), (q33, .inl (cI, 4, .inl (fun _ => 0))), (q40, .inl (cJ, 4, .inr (.inl (fun _ => 0)))), (q47, .inl (cJ, 4, .inr (.inl (fun _ => 0)))), (q54, .inl (cJ, 4, .inr (.inl (fun _ => 0))))] := hD
  refine lv_aload_n hx hb dX1_init_59 rfl (lv_at hl 0 rfl) ?_
  refine lv_iconst (v := 4) hx hb dX1_init_60 (by decide) ?_
  refine va_newa (atype := .long) (a0 := (4, .inr (.inl (fun _ => 0)))) (N' := 4) hx hb haclong rfl hK hP hD hS hA (fun cA => rfl) (by decide) rfl (Nat.le_of_ble_eq_true rfl) (Nat.le_of_ble_eq_true rfl) (Nat.le_of_ble_eq_true rfl) dX1_init_61 (fun q61 cA H hK2 hP hD hS => ?_)
  obtain ⟨ecA, hK⟩ := vaK_l hK2
  subst ecA; clear hK2
  have hP : va_P (dC, dI) vwCl [(h0, .inr (1, [.ref q7, .long 1, .ref q19, .ref q26, .ref q33, .ref q40, .ref q47, .ref q54, .null, .null])), (q7, .inl (cJ, 6, .inr (.inl (fun _ => 0)))), (q19, .inl (cI, 4, .inl (fun _ => 0))), (q26, .inl (cI, 4, .inl (fun _ => 0))), (q33, .inl (cI, 4, .inl (fun _ => 0))), (q40, .inl (cJ, 4, .inr (.inl (fun _ => 0)))), (q47, .inl (cJ, 4, .inr (.inl (fun _ => 0)))), (q54, .inl (cJ, 4, .inr (.inl (fun _ => 0)))), (q61, .inl (cJ, 4, .inr (.inl (fun _ => 0))))] H := hP
  have hD : va_D A [(h0, .inr (1, [.ref q7, .long 1, .ref q19, .ref q26, .ref q33, .ref q40, .ref q47, .ref q54, .null, .null])), (q7, .inl (cJ, 6, .inr (.inl (fun _ => 0)))), (q19, .inl (cI, 4, .inl (fun _ => 0))), (q26, .inl (cI, 4, .inl (fun _ => 0))), (q33, .inl (cI, 4, .inl (fun _ => 0))), (q40, .inl (cJ, 4, .inr (.inl (fun _ => 0)))), (q47, .inl (cJ, 4, .inr (.inl (fun _ => 0)))), (q54, .inl (cJ, 4, .inr (.inl (fun _ => 0)))), (q61, .inl (cJ, 4, .inr (.inl (fun _ => 0))))] := hD
  refine W.widen (k := 8) (n := 34) (Nat.le_of_ble_eq_true rfl) (Nat.le_of_ble_eq_true rfl) ?_
  refine va_putF (D := (dC, dI)) (ci := 1) (v := .ref q61) (ty := .array .long) (C := RX1) (T := TX1) (N := 10) hx hb hts hiX1 tyX1 tyX1_ok nmX1 hown hK hP hD hS 0 rfl rfl 8 (by decide) hgX1_38 (fun _ h9 => h9) rfl hin rfl (by decide +kernel) rfl rfl (Nat.le_of_ble_eq_true rfl) dX1_init_63 (fun H locs hP hD hS => ?_)
  have hP : va_P (dC, dI) vwCl [(h0, .inr (1, [.ref q7, .long 1, .ref q19, .ref q26, .ref q33, .ref q40, .ref q47, .ref q54, .ref q61, .null])), (q7, .inl (cJ, 6, .inr (.inl (fun _ => 0)))), (q19, .inl (cI, 4, .inl (fun _ => 0))), (q26, .inl (cI, 4, .inl (fun _ => 0))), (q33, .inl (cI, 4, .inl (fun _ => 0))), (q40, .inl (cJ, 4, .inr (.inl (fun _ => 0)))), (q47, .inl (cJ, 4, .inr (.inl (fun _ => 0)))), (q54, .inl (cJ, 4, .inr (.inl (fun _ => 0)))), (q61, .inl (cJ, 4, .inr (.inl (fun _ => 0))))] H := hP
  have hD : va_D A [(h0, .inr (1, [.ref q7, .long 1, .ref q19, .ref q26, .ref q33, .ref q40, .ref q47, .ref q54, .ref q61, .null])), (q7, .inl (cJ, 6, .inr (.inl (fun _ => 0)))), (q19, .inl (cI, 4, .inl (fun _ => 0))), (q26, .inl (cI, 4, .inl (fun _ => 0))), (q33, .inl (cI, 4, .inl (fun _ => 0))), (q40, .inl (cJ, 4, .inr (.inl (fun _ => 0)))), (q47, .inl (cJ, 4, .inr (.inl (fun _ => 0)))), (q54, .inl (cJ, 4, .inr (.inl (fun _ => 0)))), (q61, .inl (cJ, 4, .inr (.inl (fun _ => 0))))] := hD
  refine lv_aload_n hx hb dX1_init_66 rfl (lv_at hl 0 rfl) ?_
  refine lv_iconst (v := 4) hx hb dX1_init_67 (by decide) ?_
  refine va_newa (atype := .long) (a0 := (4, .inr (.inl (fun _ => 0)))) (N' := 4) hx hb haclong rfl hK hP hD hS hA (fun cA => rfl) (by decide) rfl (Nat.le_of_ble_eq_true rfl) (Nat.le_of_ble_eq_true rfl) (Nat.le_of_ble_eq_true rfl) dX1_init_68 (fun q68 cA H hK2 hP hD hS => ?_)
  obtain ⟨ecA, hK⟩ := vaK_l hK2
  subst ecA; clear hK2
  have hP : va_P (dC, dI) vwCl [(h0, .inr (1, [.ref q7, .long 1, .ref q19, .ref q26, .ref q33, .ref q40, .ref q47, .ref q54, .ref q61, .null])), (q7, .inl (cJ, 6, .inr (.inl (fun _ => 0)))), (q19, .inl (cI, 4, .inl (fun _ => 0))), (q26, .inl (cI, 4, .inl (fun _ => 0))), (q33, .inl (cI, 4, .inl (fun _ => 0))), (q40, .inl (cJ, 4, .inr (.inl (fun _ => 0)))), (q47, .inl (cJ, 4, .inr (.inl (fun _ => 0)))), (q54, .inl (cJ, 4, .inr (.inl (fun _ => 0)))), (q61, .inl (cJ, 4, .inr (.inl (fun _ => 0)))), (q68, .inl (cJ, 4, .inr (.inl (fun _ => 0))))] H := hP
  have hD : va_D A [(h0, .inr (1, [.ref q7, .long 1, .ref q19, .ref q26, .ref q33, .ref q40, .ref q47, .ref q54, .ref q61, .null])), (q7, .inl (cJ, 6, .inr (.inl (fun _ => 0)))), (q19, .inl (cI, 4, .inl (fun _ => 0))), (q26, .inl (cI, 4, .inl (fun _ => 0))), (q33, .inl (cI, 4, .inl (fun _ => 0))), (q40, .inl (cJ, 4, .inr (.inl (fun _ => 0)))), (q47, .inl (cJ, 4, .inr (.inl (fun _ => 0)))), (q54, .inl (cJ, 4, .inr (.inl (fun _ => 0)))), (q61, .inl (cJ, 4, .inr (.inl (fun _ => 0)))), (q68, .inl (cJ, 4, .inr (.inl (fun _ => 0))))] := hD
  refine W.widen (k := 9) (n := 38) (Nat.le_of_ble_eq_true rfl) (Nat.le_of_ble_eq_true rfl) ?_
  refine va_putF (D := (dC, dI)) (ci := 1) (v := .ref q68) (ty := .array .long) (C := RX1) (T := TX1) (N := 10) hx hb hts hiX1 tyX1 tyX1_ok nmX1 hown hK hP hD hS 0 rfl rfl 9 (by decide) hgX1_41 (fun _ h9 => h9) rfl hin rfl (by decide +kernel) rfl rfl (Nat.le_of_ble_eq_true rfl) dX1_init_70 (fun H locs hP hD hS => ?_)
  have hP : va_P (dC, dI) vwCl [(h0, .inr (1, [.ref q7, .long 1, .ref q19, .ref q26, .ref q33, .ref q40, .ref q47, .ref q54, .ref q61, .ref q68])), (q7, .inl (cJ, 6, .inr (.inl (fun _ => 0)))), (q19, .inl (cI, 4, .inl (fun _ => 0))), (q26, .inl (cI, 4, .inl (fun _ => 0))), (q33, .inl (cI, 4, .inl (fun _ => 0))), (q40, .inl (cJ, 4, .inr (.inl (fun _ => 0)))), (q47, .inl (cJ, 4, .inr (.inl (fun _ => 0)))), (q54, .inl (cJ, 4, .inr (.inl (fun _ => 0)))), (q61, .inl (cJ, 4, .inr (.inl (fun _ => 0)))), (q68, .inl (cJ, 4, .inr (.inl (fun _ => 0))))] H := hP
  have hD : va_D A [(h0, .inr (1, [.ref q7, .long 1, .ref q19, .ref q26, .ref q33, .ref q40, .ref q47, .ref q54, .ref q61, .ref q68])), (q7, .inl (cJ, 6, .inr (.inl (fun _ => 0)))), (q19, .inl (cI, 4, .inl (fun _ => 0))), (q26, .inl (cI, 4, .inl (fun _ => 0))), (q33, .inl (cI, 4, .inl (fun _ => 0))), (q40, .inl (cJ, 4, .inr (.inl (fun _ => 0)))), (q47, .inl (cJ, 4, .inr (.inl (fun _ => 0)))), (q54, .inl (cJ, 4, .inr (.inl (fun _ => 0)))), (q61, .inl (cJ, 4, .inr (.inl (fun _ => 0)))), (q68, .inl (cJ, 4, .inr (.inl (fun _ => 0))))] := hD
  obtain ⟨aQ, ha⟩ : ∃ a : Nat → Nat, a = adL [h0, q7, q19, q26, q33, q40, q47, q54, q61, q68] := ⟨_, rfl⟩
  obtain ⟨vQ, hv0, hf⟩ := elet_out hf
  have hP : va_P (dC, dI) vwCl [k1_0 aQ vQ, k1_1 cJ aQ vQ, k1_2 cI aQ vQ, k1_3 cI aQ vQ, k1_4 cI aQ vQ, k1_5 cJ aQ vQ, k1_6 cJ aQ vQ, k1_7 cJ aQ vQ, k1_8 cJ aQ vQ, k1_9 cJ aQ vQ] H := by rw [ha, hv0]; exact hP
  have hD : va_D A [k1_0 aQ vQ, k1_1 cJ aQ vQ, k1_2 cI aQ vQ, k1_3 cI aQ vQ, k1_4 cI aQ vQ, k1_5 cJ aQ vQ, k1_6 cJ aQ vQ, k1_7 cJ aQ vQ, k1_8 cJ aQ vQ, k1_9 cJ aQ vQ] := by rw [ha, hv0]; exact hD
  have hl : lv_has ls 1 [(0, .ref (aQ 0))] := by rw [ha]; exact hl
  obtain rfl := Option.some.inj hf
  exact W.vret hx hb hr (fun t ht hW => ⟨⟨aQ, rfl, (by rw [ha]; rfl), by rw [ht]; exact hP, hD⟩, hS.F ht⟩) hS.2.2 dX1_init_73
def fX2_init : Option BX2 :=
  elet (((fun _ => 0), 0, 0, 0, 0, 0, 0, (fun _ => 0), 0) : BX2) (fun vS => some vS)
set_option maxHeartbeats 8000000 in
set_option maxRecDepth 100000 in
theorem mX2_init (l : Launch) (dC : Nat → ClassId) (dI : Nat → Nat → Nat) (cI cJ : ClassId) (h0 : Nat) (sz : Nat) (y : BX2) (hf : fX2_init = some y) : Met l yX2_init wsX2_init ({ frames := 1, cells := 2, slots := 63, locals := 12 }) (cPc dC dI cI cJ [.ref h0] [(h0, .inr (2, [.null, .int 0, .int 0, .int 0, .int 0, .int 0, .int 0, .null, .int 0]))] sz) (va_Qv (fun (a : Nat → Nat) => a 0 = h0) (fun a t => cB dC dI (va_A [(h0, .inr (2, [.null, .int 0, .int 0, .int 0, .int 0, .int 0, .int 0, .null, .int 0]))] sz) [k2_0 a y, k2_1 cI a y, k2_2 cI a y] t) (va_A [(h0, .inr (2, [.null, .int 0, .int 0, .int 0, .int 0, .int 0, .int 0, .null, .int 0]))] sz)) 2 63 (va_A [(h0, .inr (2, [.null, .int 0, .int 0, .int 0, .int 0, .int 0, .int 0, .null, .int 0]))] sz) := by
  refine Met.ofW (cc := cX2_init) (maxL := 1) (ret := none) (by decide) rfl ?_
  intro p e s m args below meth c s₁ B hml hv
  obtain ⟨rfl, hsz, hP, hK, hD0, hN⟩ := hv
  have hx := B.exec
  have hb := B.bytes
  have hr := B.returns
  have hts := atoms_spec (ws := wsX2_init) B.pre
  have hown : s.vm.findClass RX2 = some m.cls := findClass_of_methodNamed B.named
  have hlocks := B.notSynchronized
  have hin : meth.name = "<init>" := (name_of_methodNamed B.named B.method).1
  subst hsz
  have hD := hD0.self (sz := s.heap.size)
  generalize hAe : va_A [(h0, .inr (2, [.null, .int 0, .int 0, .int 0, .int 0, .int 0, .int 0, .null, .int 0]))] s.heap.size = A at hD hN ⊢
  have hA : ∀ q : Nat, s.heap.size ≤ q → A q := fun q h => by rw [← hAe]; exact Or.inr h
  have hP : va_P (dC, dI) vwCl [(h0, .inr (2, [.null, .int 0, .int 0, .int 0, .int 0, .int 0, .int 0, .null, .int 0]))] s.heap := hP
  have hl := lv_entry ([.ref h0]) (n := 1) (Nat.le_of_ble_eq_true rfl)
  rw [lg_entry_eq]
  generalize (lg_sl ([.ref h0]) ++ List.replicate (1 - (lg_sl ([.ref h0])).length) Slot.unset).toArray = ls at hl ⊢
  have hl : lv_has ls 1 [(0, .ref h0)] := hl
  have hiX2 : ∀ w ∈ u_ws RX2 TX2 9, w ∈ wsX2_init := by decide +kernel
  have hacint := hts (.arrayClass .int) (by decide +kernel)
  have hgX2_9 := hts (.fieldLink RX2 9 "SpringPlates$Script" "characters" "[I") (by decide +kernel)
  have hgX2_15 := hts (.fieldLink RX2 15 "SpringPlates$Script" "size" "I") (by decide +kernel)
  have hgX2_19 := hts (.fieldLink RX2 19 "SpringPlates$Script" "settings" "I") (by decide +kernel)
  have hgX2_22 := hts (.fieldLink RX2 22 "SpringPlates$Script" "reason" "I") (by decide +kernel)
  have hgX2_25 := hts (.fieldLink RX2 25 "SpringPlates$Script" "cause" "I") (by decide +kernel)
  have hgX2_28 := hts (.fieldLink RX2 28 "SpringPlates$Script" "start" "I") (by decide +kernel)
  have hgX2_31 := hts (.fieldLink RX2 31 "SpringPlates$Script" "next" "I") (by decide +kernel)
  have hgX2_34 := hts (.fieldLink RX2 34 "SpringPlates$Script" "numbers" "[I") (by decide +kernel)
  have hgX2_37 := hts (.fieldLink RX2 37 "SpringPlates$Script" "numberCount" "I") (by decide +kernel)
  refine nameH (fun H locs hHe hLe => ?_)
  have hP : va_P (dC, dI) vwCl [(h0, .inr (2, [.null, .int 0, .int 0, .int 0, .int 0, .int 0, .int 0, .null, .int 0]))] H := by rw [hHe]; exact hP
  have hS : va_S A s.heap H locs := by rw [hHe, hLe]; exact va_S.rf
  unfold fX2_init at hf
  refine lv_aload_n hx hb dX2_init_0 rfl (lv_at hl 0 rfl) ?_
  refine W.objInit hx hb hown (hts (.methodLink RX2 3 objectInit) (by decide +kernel)) (hts (.instanceMethod objectInit) (by decide +kernel)) (hts (.code objectInit ⟨#[0xb1]⟩ 1 none) (by decide +kernel)) rfl (by rw [hml]; exact hl.1) rfl dX2_init_1 (Nat.le_of_ble_eq_true rfl) (Nat.le_of_ble_eq_true rfl) ?_
  refine W.eq (g2 := F0 m 4 ls []) rfl ?_
  refine lv_aload_n hx hb dX2_init_4 rfl (lv_at hl 0 rfl) ?_
  refine lv_bipush (v := 60) hx hb dX2_init_5 (by decide) ?_
  refine va_newa (atype := .int) (a0 := (60, .inl (fun _ => 0))) (N' := 60) hx hb hacint rfl hK hP hD hS hA (fun cA => rfl) (by decide) rfl (Nat.le_of_ble_eq_true rfl) (Nat.le_of_ble_eq_true rfl) (Nat.le_of_ble_eq_true rfl) dX2_init_7 (fun q7 cA H hK2 hP hD hS => ?_)
  obtain ⟨ecA, hK⟩ := vaK_i hK2
  subst ecA; clear hK2
  have hP : va_P (dC, dI) vwCl [(h0, .inr (2, [.null, .int 0, .int 0, .int 0, .int 0, .int 0, .int 0, .null, .int 0])), (q7, .inl (cI, 60, .inl (fun _ => 0)))] H := hP
  have hD : va_D A [(h0, .inr (2, [.null, .int 0, .int 0, .int 0, .int 0, .int 0, .int 0, .null, .int 0])), (q7, .inl (cI, 60, .inl (fun _ => 0)))] := hD
  refine W.widen (k := 1) (n := 60) (Nat.le_of_ble_eq_true rfl) (Nat.le_of_ble_eq_true rfl) ?_
  refine va_putF (D := (dC, dI)) (ci := 2) (v := .ref q7) (ty := .array .int) (C := RX2) (T := TX2) (N := 9) hx hb hts hiX2 tyX2 tyX2_ok nmX2 hown hK hP hD hS 0 rfl rfl 0 (by decide) hgX2_9 (fun _ h9 => h9) rfl hin rfl (by decide +kernel) rfl rfl (Nat.le_of_ble_eq_true rfl) dX2_init_9 (fun H locs hP hD hS => ?_)
  have hP : va_P (dC, dI) vwCl [(h0, .inr (2, [.ref q7, .int 0, .int 0, .int 0, .int 0, .int 0, .int 0, .null, .int 0])), (q7, .inl (cI, 60, .inl (fun _ => 0)))] H := hP
  have hD : va_D A [(h0, .inr (2, [.ref q7, .int 0, .int 0, .int 0, .int 0, .int 0, .int 0, .null, .int 0])), (q7, .inl (cI, 60, .inl (fun _ => 0)))] := hD
  refine lv_aload_n hx hb dX2_init_12 rfl (lv_at hl 0 rfl) ?_
  refine lv_iconst (v := 0) hx hb dX2_init_13 (by decide) ?_
  refine va_put (D := (dC, dI)) (ci := 2) (v := .int 0) (ty := .int) (C := RX2) (T := TX2) (N := 9) hx hb hts hiX2 tyX2 tyX2_ok nmX2 hown hK hP hD hS 0 rfl rfl 1 (by decide) hgX2_15 (fun _ h9 => h9) rfl (by decide +kernel) rfl rfl (Nat.le_of_ble_eq_true rfl) dX2_init_14 (fun H locs hP hD hS => ?_)
  have hP : va_P (dC, dI) vwCl [(h0, .inr (2, [.ref q7, .int 0, .int 0, .int 0, .int 0, .int 0, .int 0, .null, .int 0])), (q7, .inl (cI, 60, .inl (fun _ => 0)))] H := hP
  have hD : va_D A [(h0, .inr (2, [.ref q7, .int 0, .int 0, .int 0, .int 0, .int 0, .int 0, .null, .int 0])), (q7, .inl (cI, 60, .inl (fun _ => 0)))] := hD
  refine lv_aload_n hx hb dX2_init_17 rfl (lv_at hl 0 rfl) ?_
  refine lv_iconst (v := 0) hx hb dX2_init_18 (by decide) ?_
  refine va_put (D := (dC, dI)) (ci := 2) (v := .int 0) (ty := .int) (C := RX2) (T := TX2) (N := 9) hx hb hts hiX2 tyX2 tyX2_ok nmX2 hown hK hP hD hS 0 rfl rfl 2 (by decide) hgX2_19 (fun _ h9 => h9) rfl (by decide +kernel) rfl rfl (Nat.le_of_ble_eq_true rfl) dX2_init_19 (fun H locs hP hD hS => ?_)
  have hP : va_P (dC, dI) vwCl [(h0, .inr (2, [.ref q7, .int 0, .int 0, .int 0, .int 0, .int 0, .int 0, .null, .int 0])), (q7, .inl (cI, 60, .inl (fun _ => 0)))] H := hP
  have hD : va_D A [(h0, .inr (2, [.ref q7, .int 0, .int 0, .int 0, .int 0, .int 0, .int 0, .null, .int 0])), (q7, .inl (cI, 60, .inl (fun _ => 0)))] := hD
  refine lv_aload_n hx hb dX2_init_22 rfl (lv_at hl 0 rfl) ?_
  refine lv_iconst (v := 0) hx hb dX2_init_23 (by decide) ?_
  refine va_put (D := (dC, dI)) (ci := 2) (v := .int 0) (ty := .int) (C := RX2) (T := TX2) (N := 9) hx hb hts hiX2 tyX2 tyX2_ok nmX2 hown hK hP hD hS 0 rfl rfl 3 (by decide) hgX2_22 (fun _ h9 => h9) rfl (by decide +kernel) rfl rfl (Nat.le_of_ble_eq_true rfl) dX2_init_24 (fun H locs hP hD hS => ?_)
  have hP : va_P (dC, dI) vwCl [(h0, .inr (2, [.ref q7, .int 0, .int 0, .int 0, .int 0, .int 0, .int 0, .null, .int 0])), (q7, .inl (cI, 60, .inl (fun _ => 0)))] H := hP
  have hD : va_D A [(h0, .inr (2, [.ref q7, .int 0, .int 0, .int 0, .int 0, .int 0, .int 0, .null, .int 0])), (q7, .inl (cI, 60, .inl (fun _ => 0)))] := hD
  refine lv_aload_n hx hb dX2_init_27 rfl (lv_at hl 0 rfl) ?_
  refine lv_iconst (v := 0) hx hb dX2_init_28 (by decide) ?_
  refine va_put (D := (dC, dI)) (ci := 2) (v := .int 0) (ty := .int) (C := RX2) (T := TX2) (N := 9) hx hb hts hiX2 tyX2 tyX2_ok nmX2 hown hK hP hD hS 0 rfl rfl 4 (by decide) hgX2_25 (fun _ h9 => h9) rfl (by decide +kernel) rfl rfl (Nat.le_of_ble_eq_true rfl) dX2_init_29 (fun H locs hP hD hS => ?_)
  have hP : va_P (dC, dI) vwCl [(h0, .inr (2, [.ref q7, .int 0, .int 0, .int 0, .int 0, .int 0, .int 0, .null, .int 0])), (q7, .inl (cI, 60, .inl (fun _ => 0)))] H := hP
  have hD : va_D A [(h0, .inr (2, [.ref q7, .int 0, .int 0, .int 0, .int 0, .int 0, .int 0, .null, .int 0])), (q7, .inl (cI, 60, .inl (fun _ => 0)))] := hD
  refine lv_aload_n hx hb dX2_init_32 rfl (lv_at hl 0 rfl) ?_
  refine lv_iconst (v := 0) hx hb dX2_init_33 (by decide) ?_
  refine va_put (D := (dC, dI)) (ci := 2) (v := .int 0) (ty := .int) (C := RX2) (T := TX2) (N := 9) hx hb hts hiX2 tyX2 tyX2_ok nmX2 hown hK hP hD hS 0 rfl rfl 5 (by decide) hgX2_28 (fun _ h9 => h9) rfl (by decide +kernel) rfl rfl (Nat.le_of_ble_eq_true rfl) dX2_init_34 (fun H locs hP hD hS => ?_)
  have hP : va_P (dC, dI) vwCl [(h0, .inr (2, [.ref q7, .int 0, .int 0, .int 0, .int 0, .int 0, .int 0, .null, .int 0])), (q7, .inl (cI, 60, .inl (fun _ => 0)))] H := hP
  have hD : va_D A [(h0, .inr (2, [.ref q7, .int 0, .int 0, .int 0, .int 0, .int 0, .int 0, .null, .int 0])), (q7, .inl (cI, 60, .inl (fun _ => 0)))] := hD
  refine lv_aload_n hx hb dX2_init_37 rfl (lv_at hl 0 rfl) ?_
  refine lv_iconst (v := 0) hx hb dX2_init_38 (by decide) ?_
  refine va_put (D := (dC, dI)) (ci := 2) (v := .int 0) (ty := .int) (C := RX2) (T := TX2) (N := 9) hx hb hts hiX2 tyX2 tyX2_ok nmX2 hown hK hP hD hS 0 rfl rfl 6 (by decide) hgX2_31 (fun _ h9 => h9) rfl (by decide +kernel) rfl rfl (Nat.le_of_ble_eq_true rfl) dX2_init_39 (fun H locs hP hD hS => ?_)
  have hP : va_P (dC, dI) vwCl [(h0, .inr (2, [.ref q7, .int 0, .int 0, .int 0, .int 0, .int 0, .int 0, .null, .int 0])), (q7, .inl (cI, 60, .inl (fun _ => 0)))] H := hP
  have hD : va_D A [(h0, .inr (2, [.ref q7, .int 0, .int 0, .int 0, .int 0, .int 0, .int 0, .null, .int 0])), (q7, .inl (cI, 60, .inl (fun _ => 0)))] := hD
  refine lv_aload_n hx hb dX2_init_42 rfl (lv_at hl 0 rfl) ?_
  refine lv_iconst (v := 3) hx hb dX2_init_43 (by decide) ?_
  refine va_newa (atype := .int) (a0 := (3, .inl (fun _ => 0))) (N' := 3) hx hb hacint rfl hK hP hD hS hA (fun cA => rfl) (by decide) rfl (Nat.le_of_ble_eq_true rfl) (Nat.le_of_ble_eq_true rfl) (Nat.le_of_ble_eq_true rfl) dX2_init_44 (fun q44 cA H hK2 hP hD hS => ?_)
  obtain ⟨ecA, hK⟩ := vaK_i hK2
  subst ecA; clear hK2
  have hP : va_P (dC, dI) vwCl [(h0, .inr (2, [.ref q7, .int 0, .int 0, .int 0, .int 0, .int 0, .int 0, .null, .int 0])), (q7, .inl (cI, 60, .inl (fun _ => 0))), (q44, .inl (cI, 3, .inl (fun _ => 0)))] H := hP
  have hD : va_D A [(h0, .inr (2, [.ref q7, .int 0, .int 0, .int 0, .int 0, .int 0, .int 0, .null, .int 0])), (q7, .inl (cI, 60, .inl (fun _ => 0))), (q44, .inl (cI, 3, .inl (fun _ => 0)))] := hD
  refine W.widen (k := 2) (n := 63) (Nat.le_of_ble_eq_true rfl) (Nat.le_of_ble_eq_true rfl) ?_
  refine va_putF (D := (dC, dI)) (ci := 2) (v := .ref q44) (ty := .array .int) (C := RX2) (T := TX2) (N := 9) hx hb hts hiX2 tyX2 tyX2_ok nmX2 hown hK hP hD hS 0 rfl rfl 7 (by decide) hgX2_34 (fun _ h9 => h9) rfl hin rfl (by decide +kernel) rfl rfl (Nat.le_of_ble_eq_true rfl) dX2_init_46 (fun H locs hP hD hS => ?_)
  have hP : va_P (dC, dI) vwCl [(h0, .inr (2, [.ref q7, .int 0, .int 0, .int 0, .int 0, .int 0, .int 0, .ref q44, .int 0])), (q7, .inl (cI, 60, .inl (fun _ => 0))), (q44, .inl (cI, 3, .inl (fun _ => 0)))] H := hP
  have hD : va_D A [(h0, .inr (2, [.ref q7, .int 0, .int 0, .int 0, .int 0, .int 0, .int 0, .ref q44, .int 0])), (q7, .inl (cI, 60, .inl (fun _ => 0))), (q44, .inl (cI, 3, .inl (fun _ => 0)))] := hD
  refine lv_aload_n hx hb dX2_init_49 rfl (lv_at hl 0 rfl) ?_
  refine lv_iconst (v := 0) hx hb dX2_init_50 (by decide) ?_
  refine va_put (D := (dC, dI)) (ci := 2) (v := .int 0) (ty := .int) (C := RX2) (T := TX2) (N := 9) hx hb hts hiX2 tyX2 tyX2_ok nmX2 hown hK hP hD hS 0 rfl rfl 8 (by decide) hgX2_37 (fun _ h9 => h9) rfl (by decide +kernel) rfl rfl (Nat.le_of_ble_eq_true rfl) dX2_init_51 (fun H locs hP hD hS => ?_)
  have hP : va_P (dC, dI) vwCl [(h0, .inr (2, [.ref q7, .int 0, .int 0, .int 0, .int 0, .int 0, .int 0, .ref q44, .int 0])), (q7, .inl (cI, 60, .inl (fun _ => 0))), (q44, .inl (cI, 3, .inl (fun _ => 0)))] H := hP
  have hD : va_D A [(h0, .inr (2, [.ref q7, .int 0, .int 0, .int 0, .int 0, .int 0, .int 0, .ref q44, .int 0])), (q7, .inl (cI, 60, .inl (fun _ => 0))), (q44, .inl (cI, 3, .inl (fun _ => 0)))] := hD
  obtain ⟨aS, ha⟩ : ∃ a : Nat → Nat, a = adL [h0, q7, q44] := ⟨_, rfl⟩
  obtain ⟨vS, hv0, hf⟩ := elet_out hf
  have hP : va_P (dC, dI) vwCl [k2_0 aS vS, k2_1 cI aS vS, k2_2 cI aS vS] H := by rw [ha, hv0]; exact hP
  have hD : va_D A [k2_0 aS vS, k2_1 cI aS vS, k2_2 cI aS vS] := by rw [ha, hv0]; exact hD
  have hl : lv_has ls 1 [(0, .ref (aS 0))] := by rw [ha]; exact hl
  obtain rfl := Option.some.inj hf
  exact W.vret hx hb hr (fun t ht hW => ⟨⟨aS, rfl, (by rw [ha]; rfl), by rw [ht]; exact hP, hD⟩, hS.F ht⟩) hS.2.2 dX2_init_54
