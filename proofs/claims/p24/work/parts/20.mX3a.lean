def fX3_plateOf (vX : BX3) (vA : BX0) (i1 : Int32) (i2 : Int32) : Option Int32 :=
  (fX0_hasPlate vA i1).bind (fun y1 => if y1 = 0 then (some (-1000001)) else (if i2 = 0 then (if inB i1 4 = true then (some (((p0_loads vA) (i1).toNatClampNeg) + (1000 : Int32))) else none) else (if i2 = 1 then ((fX0_stopOf vA i1 (0 : Int32)).bind (fun y6 => (fX3_placeOrNotFound y6).bind (fun y7 => some y7))) else (if i2 = 2 then ((fX0_stopOf vA i1 (1 : Int32)).bind (fun y9 => (fX3_placeOrNotFound y9).bind (fun y10 => some y10))) else (if i2 = 3 then (if inB i1 5 = true then (some ((p0_strengths vA) (i1).toNatClampNeg)) else none) else (if i2 = 4 then (if inB i1 5 = true then (some ((p0_lengths vA) (i1).toNatClampNeg)) else none) else (if i2 = 5 then (if inB (i1 + (1 : Int32)) 5 = true then (some ((p0_strengths vA) ((i1 + (1 : Int32))).toNatClampNeg)) else none) else (if i2 = 6 then (if inB (i1 + (1 : Int32)) 5 = true then (some ((p0_lengths vA) ((i1 + (1 : Int32))).toNatClampNeg)) else none) else (some (-1000001))))))))))
set_option maxHeartbeats 8000000 in
set_option maxRecDepth 100000 in
theorem mX3_plateOf (l : Launch) (dC : Nat → ClassId) (dI : Nat → Nat → Nat) (cI cJ : ClassId) (a : Nat → Nat) (aA : Nat → Nat) (aB : Nat → Nat) (aR : Nat → Nat) (aT : Nat → Nat) (aS : Nat → Nat) (sz : Nat) (vX : BX3) (vA : BX0) (i1 : Int32) (i2 : Int32) (y : Int32) (hf : fX3_plateOf vX vA i1 i2 = some y) : Met l yX3_plateOf wsX3_plateOf ({ frames := 1, cells := 0, slots := 0, locals := 22 }) (cPc dC dI cI cJ [.ref (a 0), .int i1, .int i2] [k3_0 a aA aB aR aT aS vX, k0_0 aA vA, k0_1 cI aA vA, k0_2 cI aA vA, k0_3 cI aA vA, k0_4 cI aA vA] sz) (va_Qi (fun r (_ : Unit) => r = y) (fun _ t => cB dC dI (va_A [k3_0 a aA aB aR aT aS vX, k0_0 aA vA, k0_1 cI aA vA, k0_2 cI aA vA, k0_3 cI aA vA, k0_4 cI aA vA] sz) [k3_0 a aA aB aR aT aS vX, k0_0 aA vA, k0_1 cI aA vA, k0_2 cI aA vA, k0_3 cI aA vA, k0_4 cI aA vA] t) (va_A [k3_0 a aA aB aR aT aS vX, k0_0 aA vA, k0_1 cI aA vA, k0_2 cI aA vA, k0_3 cI aA vA, k0_4 cI aA vA] sz)) 0 0 (va_A [k3_0 a aA aB aR aT aS vX, k0_0 aA vA, k0_1 cI aA vA, k0_2 cI aA vA, k0_3 cI aA vA, k0_4 cI aA vA] sz) := by
  refine Met.ofW (cc := cX3_plateOf) (maxL := 3) (ret := (some .int)) (by decide) rfl ?_
  intro p e s m args below meth c s₁ B hml hv
  obtain ⟨rfl, hsz, hP, hK, hD0, hN⟩ := hv
  have hx := B.exec
  have hb := B.bytes
  have hr := B.returns
  have hts := atoms_spec (ws := wsX3_plateOf) B.pre
  have hown : s.vm.findClass RX3 = some m.cls := findClass_of_methodNamed B.named
  have hlocks := B.notSynchronized
  subst hsz
  have hD := hD0.self (sz := s.heap.size)
  generalize hAe : va_A [k3_0 a aA aB aR aT aS vX, k0_0 aA vA, k0_1 cI aA vA, k0_2 cI aA vA, k0_3 cI aA vA, k0_4 cI aA vA] s.heap.size = A at hD hN ⊢
  have hA : ∀ q : Nat, s.heap.size ≤ q → A q := fun q h => by rw [← hAe]; exact Or.inr h
  have hP : va_P (dC, dI) vwCl [k3_0 a aA aB aR aT aS vX, k0_0 aA vA, k0_1 cI aA vA, k0_2 cI aA vA, k0_3 cI aA vA, k0_4 cI aA vA] s.heap := hP
  have hl := lv_entry ([.ref (a 0), .int i1, .int i2]) (n := 3) (Nat.le_of_ble_eq_true rfl)
  rw [lg_entry_eq]
  generalize (lg_sl ([.ref (a 0), .int i1, .int i2]) ++ List.replicate (3 - (lg_sl ([.ref (a 0), .int i1, .int i2])).length) Slot.unset).toArray = ls at hl ⊢
  have hl : lv_has ls 3 [(0, .ref (a 0)), (1, .int i1), (2, .int i2)] := hl
  have hiX3 : ∀ w ∈ u_ws RX3 TX3 8, w ∈ wsX3_plateOf := by decide +kernel
  have hgX3_10 := hts (.fieldLink RX3 10 "SpringPlates" "laid" "LSpringPlates$Layout;") (by decide +kernel)
  have hiX0 : ∀ w ∈ u_ws RX0 TX0 6, w ∈ wsX3_plateOf := by decide +kernel
  have hgX0_85 := hts (.fieldLink RX3 85 "SpringPlates$Layout" "loads" "[I") (by decide +kernel)
  have hgX0_95 := hts (.fieldLink RX3 95 "SpringPlates$Layout" "strengths" "[I") (by decide +kernel)
  have hgX0_98 := hts (.fieldLink RX3 98 "SpringPlates$Layout" "lengths" "[I") (by decide +kernel)
  have hc84 := hts (.constant RX3 84 (-1000001)) (by decide +kernel)
  refine nameH (fun H locs hHe hLe => ?_)
  have hP : va_P (dC, dI) vwCl [k3_0 a aA aB aR aT aS vX, k0_0 aA vA, k0_1 cI aA vA, k0_2 cI aA vA, k0_3 cI aA vA, k0_4 cI aA vA] H := by rw [hHe]; exact hP
  have hS : va_S A s.heap H locs := by rw [hHe, hLe]; exact va_S.rf
  unfold fX3_plateOf at hf
  refine lv_aload_n hx hb dX3_plateOf_0 rfl (lv_at hl 0 rfl) ?_
  refine va_get (D := (dC, dI)) (ci := 3) (v := .ref (aA 0)) (C := RX3) (T := TX3) (N := 8) hx hb hts hiX3 hown hK hP 0 rfl rfl 0 (by decide) hgX3_10 (fun _ h9 => h9) rfl dX3_plateOf_1 ?_
  refine lv_iload_n hx hb dX3_plateOf_4 rfl (lv_at hl 1 rfl) ?_
  obtain ⟨y1, hy1, hf⟩ := obind hf
  refine cg_i (ws := [k3_0 a aA aB aR aT aS vX, k0_0 aA vA, k0_1 cI aA vA, k0_2 cI aA vA, k0_3 cI aA vA, k0_4 cI aA vA]) (wc := [k0_0 aA vA, k0_1 cI aA vA, k0_2 cI aA vA, k0_3 cI aA vA, k0_4 cI aA vA]) (wr := [k3_0 a aA aB aR aT aS vX]) (w1 := [k0_0 aA vA, k0_1 cI aA vA, k0_2 cI aA vA, k0_3 cI aA vA, k0_4 cI aA vA]) (wo := [k3_0 a aA aB aR aT aS vX, k0_0 aA vA, k0_1 cI aA vA, k0_2 cI aA vA, k0_3 cI aA vA, k0_4 cI aA vA]) hP hD hS hA (va_runV (As := [.int i1]) (rest := []) ⟨hx, hb, hml, hown, hts⟩ (mX0_hasPlate l dC dI cI cJ aA H.size vA i1 y1 hy1) (cwV 1 hts gX3_plateOf_X0_hasPlate rfl rfl rfl (by decide +kernel) ⟨Nat.le_of_ble_eq_true rfl, Nat.le_of_ble_eq_true rfl⟩) ⟨cFB, va_recv hK hP (ci := 0) (q0 := 1) rfl rfl, cPre hK hN hS (va_free (wc := [k0_0 aA vA, k0_1 cI aA vA, k0_2 cI aA vA, k0_3 cI aA vA, k0_4 cI aA vA]) hD hS hA [1, 2, 3, 4, 5] rfl) (hP.sub [1, 2, 3, 4, 5] rfl) (hD.sub [1, 2, 3, 4, 5] rfl rfl)⟩ rfl rfl hl.1 rfl (lv_room (Nat.le_of_ble_eq_true rfl)) dX3_plateOf_5 ⟨Nat.le_of_ble_eq_true rfl, Nat.le_of_ble_eq_true rfl⟩) [1, 2, 3, 4, 5] [0] [0, 1, 2, 3, 4, 5] rfl rfl rfl (by decide +kernel) rfl rfl (fun H locs hP hD hS => ?_)
  refine lv_if_ne (tgt := 14) hx hb dX3_plateOf_8 (by decide) (fun c2 => ?_) (fun c2 => ?_)
  · have hf := oif_f c2 hf
    refine lv_iload_n hx hb dX3_plateOf_14 rfl (lv_at hl 2 rfl) ?_
    by_cases c3 : i2 = 0
    · have hf := oif_t c3 hf
      refine lv_tableIn (tgt := 56) hx hb dX3_plateOf_15 (by rw [c3]; decide) (by rw [c3]; decide) (by rw [c3]; rfl) (by decide) ?_
      refine lv_aload_n hx hb dX3_plateOf_56 rfl (lv_at hl 0 rfl) ?_
      refine va_get (D := (dC, dI)) (ci := 3) (v := .ref (aA 0)) (C := RX3) (T := TX3) (N := 8) hx hb hts hiX3 hown hK hP 0 rfl rfl 0 (by decide) hgX3_10 (fun _ h9 => h9) rfl dX3_plateOf_57 ?_
      refine va_get (D := (dC, dI)) (ci := 0) (v := .ref (aA 3)) (C := RX0) (T := TX0) (N := 6) hx hb hts hiX0 hown hK hP 1 rfl rfl 4 (by decide) hgX0_85 (fun _ h9 => h9) rfl dX3_plateOf_60 ?_
      refine lv_iload_n hx hb dX3_plateOf_63 rfl (lv_at hl 1 rfl) ?_
      obtain ⟨hi4, hf⟩ := oinb rfl hf
      refine va_iald hx hb hK hP 4 0 rfl rfl hi4 dX3_plateOf_64 ?_
      refine lv_sipush (v := 1000) hx hb dX3_plateOf_65 (by decide) ?_
      refine lv_iadd hx hb dX3_plateOf_68 ?_
      obtain rfl := Option.some.inj hf
      exact W.iret (v := (((p0_loads vA) (i1).toNatClampNeg) + (1000 : Int32))) hx hb hr (fun t ht hW => ⟨⟨(((p0_loads vA) (i1).toNatClampNeg) + (1000 : Int32)), (), rfl, rfl, by rw [ht]; exact hP, hD⟩, hS.F ht⟩) hS.2.2 dX3_plateOf_69
    · have hf := oif_f c3 hf
      by_cases c5 : i2 = 1
      · have hf := oif_t c5 hf
        refine lv_tableIn (tgt := 70) hx hb dX3_plateOf_15 (by rw [c5]; decide) (by rw [c5]; decide) (by rw [c5]; rfl) (by decide) ?_
        refine lv_aload_n hx hb dX3_plateOf_70 rfl (lv_at hl 0 rfl) ?_
        refine va_get (D := (dC, dI)) (ci := 3) (v := .ref (aA 0)) (C := RX3) (T := TX3) (N := 8) hx hb hts hiX3 hown hK hP 0 rfl rfl 0 (by decide) hgX3_10 (fun _ h9 => h9) rfl dX3_plateOf_71 ?_
        refine lv_iload_n hx hb dX3_plateOf_74 rfl (lv_at hl 1 rfl) ?_
        refine lv_iconst (v := 0) hx hb dX3_plateOf_75 (by decide) ?_
        obtain ⟨y6, hy6, hf⟩ := obind hf
        refine cg_i (ws := [k3_0 a aA aB aR aT aS vX, k0_0 aA vA, k0_1 cI aA vA, k0_2 cI aA vA, k0_3 cI aA vA, k0_4 cI aA vA]) (wc := [k0_0 aA vA, k0_1 cI aA vA, k0_2 cI aA vA, k0_3 cI aA vA, k0_4 cI aA vA]) (wr := [k3_0 a aA aB aR aT aS vX]) (w1 := [k0_0 aA vA, k0_1 cI aA vA, k0_2 cI aA vA, k0_3 cI aA vA, k0_4 cI aA vA]) (wo := [k3_0 a aA aB aR aT aS vX, k0_0 aA vA, k0_1 cI aA vA, k0_2 cI aA vA, k0_3 cI aA vA, k0_4 cI aA vA]) hP hD hS hA (va_runV (As := [.int i1, .int 0]) (rest := []) ⟨hx, hb, hml, hown, hts⟩ (mX0_stopOf l dC dI cI cJ aA H.size vA i1 (0 : Int32) y6 hy6) (cwV 2 hts gX3_plateOf_X0_stopOf rfl rfl rfl (by decide +kernel) ⟨Nat.le_of_ble_eq_true rfl, Nat.le_of_ble_eq_true rfl⟩) ⟨cFB, va_recv hK hP (ci := 0) (q0 := 1) rfl rfl, cPre hK hN hS (va_free (wc := [k0_0 aA vA, k0_1 cI aA vA, k0_2 cI aA vA, k0_3 cI aA vA, k0_4 cI aA vA]) hD hS hA [1, 2, 3, 4, 5] rfl) (hP.sub [1, 2, 3, 4, 5] rfl) (hD.sub [1, 2, 3, 4, 5] rfl rfl)⟩ rfl rfl hl.1 rfl (lv_room (Nat.le_of_ble_eq_true rfl)) dX3_plateOf_76 ⟨Nat.le_of_ble_eq_true rfl, Nat.le_of_ble_eq_true rfl⟩) [1, 2, 3, 4, 5] [0] [0, 1, 2, 3, 4, 5] rfl rfl rfl (by decide +kernel) rfl rfl (fun H locs hP hD hS => ?_)
        obtain ⟨y7, hy7, hf⟩ := obind hf
        refine cg_i (ws := [k3_0 a aA aB aR aT aS vX, k0_0 aA vA, k0_1 cI aA vA, k0_2 cI aA vA, k0_3 cI aA vA, k0_4 cI aA vA]) (wc := []) (wr := [k3_0 a aA aB aR aT aS vX, k0_0 aA vA, k0_1 cI aA vA, k0_2 cI aA vA, k0_3 cI aA vA, k0_4 cI aA vA]) (w1 := []) (wo := [k3_0 a aA aB aR aT aS vX, k0_0 aA vA, k0_1 cI aA vA, k0_2 cI aA vA, k0_3 cI aA vA, k0_4 cI aA vA]) hP hD hS hA (va_runS (As := [.int y6]) (rest := []) ⟨hx, hb, hml, hown, hts⟩ (mX3_placeOrNotFound l dC dI cI cJ  H.size y6 y7 hy7) (va_cwS 1 hts gX3_plateOf_X3_placeOrNotFound rfl rfl rfl (by decide +kernel) ⟨Nat.le_of_ble_eq_true rfl, Nat.le_of_ble_eq_true rfl⟩) ⟨cFB, cPre hK hN hS (va_free (wc := []) hD hS hA [] rfl) (hP.sub [] rfl) (hD.sub [] rfl rfl)⟩ rfl rfl hl.1 rfl (lv_room (Nat.le_of_ble_eq_true rfl)) dX3_plateOf_79 ⟨Nat.le_of_ble_eq_true rfl, Nat.le_of_ble_eq_true rfl⟩) [] [0, 1, 2, 3, 4, 5] [0, 1, 2, 3, 4, 5] rfl rfl rfl (by decide +kernel) rfl rfl (fun H locs hP hD hS => ?_)
        obtain rfl := Option.some.inj hf
        exact W.iret (v := y7) hx hb hr (fun t ht hW => ⟨⟨y7, (), rfl, rfl, by rw [ht]; exact hP, hD⟩, hS.F ht⟩) hS.2.2 dX3_plateOf_82
      · have hf := oif_f c5 hf
        by_cases c8 : i2 = 2
        · have hf := oif_t c8 hf
          refine lv_tableIn (tgt := 83) hx hb dX3_plateOf_15 (by rw [c8]; decide) (by rw [c8]; decide) (by rw [c8]; rfl) (by decide) ?_
          refine lv_aload_n hx hb dX3_plateOf_83 rfl (lv_at hl 0 rfl) ?_
          refine va_get (D := (dC, dI)) (ci := 3) (v := .ref (aA 0)) (C := RX3) (T := TX3) (N := 8) hx hb hts hiX3 hown hK hP 0 rfl rfl 0 (by decide) hgX3_10 (fun _ h9 => h9) rfl dX3_plateOf_84 ?_
          refine lv_iload_n hx hb dX3_plateOf_87 rfl (lv_at hl 1 rfl) ?_
          refine lv_iconst (v := 1) hx hb dX3_plateOf_88 (by decide) ?_
          obtain ⟨y9, hy9, hf⟩ := obind hf
          refine cg_i (ws := [k3_0 a aA aB aR aT aS vX, k0_0 aA vA, k0_1 cI aA vA, k0_2 cI aA vA, k0_3 cI aA vA, k0_4 cI aA vA]) (wc := [k0_0 aA vA, k0_1 cI aA vA, k0_2 cI aA vA, k0_3 cI aA vA, k0_4 cI aA vA]) (wr := [k3_0 a aA aB aR aT aS vX]) (w1 := [k0_0 aA vA, k0_1 cI aA vA, k0_2 cI aA vA, k0_3 cI aA vA, k0_4 cI aA vA]) (wo := [k3_0 a aA aB aR aT aS vX, k0_0 aA vA, k0_1 cI aA vA, k0_2 cI aA vA, k0_3 cI aA vA, k0_4 cI aA vA]) hP hD hS hA (va_runV (As := [.int i1, .int 1]) (rest := []) ⟨hx, hb, hml, hown, hts⟩ (mX0_stopOf l dC dI cI cJ aA H.size vA i1 (1 : Int32) y9 hy9) (cwV 2 hts gX3_plateOf_X0_stopOf rfl rfl rfl (by decide +kernel) ⟨Nat.le_of_ble_eq_true rfl, Nat.le_of_ble_eq_true rfl⟩) ⟨cFB, va_recv hK hP (ci := 0) (q0 := 1) rfl rfl, cPre hK hN hS (va_free (wc := [k0_0 aA vA, k0_1 cI aA vA, k0_2 cI aA vA, k0_3 cI aA vA, k0_4 cI aA vA]) hD hS hA [1, 2, 3, 4, 5] rfl) (hP.sub [1, 2, 3, 4, 5] rfl) (hD.sub [1, 2, 3, 4, 5] rfl rfl)⟩ rfl rfl hl.1 rfl (lv_room (Nat.le_of_ble_eq_true rfl)) dX3_plateOf_89 ⟨Nat.le_of_ble_eq_true rfl, Nat.le_of_ble_eq_true rfl⟩) [1, 2, 3, 4, 5] [0] [0, 1, 2, 3, 4, 5] rfl rfl rfl (by decide +kernel) rfl rfl (fun H locs hP hD hS => ?_)
          obtain ⟨y10, hy10, hf⟩ := obind hf
          refine cg_i (ws := [k3_0 a aA aB aR aT aS vX, k0_0 aA vA, k0_1 cI aA vA, k0_2 cI aA vA, k0_3 cI aA vA, k0_4 cI aA vA]) (wc := []) (wr := [k3_0 a aA aB aR aT aS vX, k0_0 aA vA, k0_1 cI aA vA, k0_2 cI aA vA, k0_3 cI aA vA, k0_4 cI aA vA]) (w1 := []) (wo := [k3_0 a aA aB aR aT aS vX, k0_0 aA vA, k0_1 cI aA vA, k0_2 cI aA vA, k0_3 cI aA vA, k0_4 cI aA vA]) hP hD hS hA (va_runS (As := [.int y9]) (rest := []) ⟨hx, hb, hml, hown, hts⟩ (mX3_placeOrNotFound l dC dI cI cJ  H.size y9 y10 hy10) (va_cwS 1 hts gX3_plateOf_X3_placeOrNotFound rfl rfl rfl (by decide +kernel) ⟨Nat.le_of_ble_eq_true rfl, Nat.le_of_ble_eq_true rfl⟩) ⟨cFB, cPre hK hN hS (va_free (wc := []) hD hS hA [] rfl) (hP.sub [] rfl) (hD.sub [] rfl rfl)⟩ rfl rfl hl.1 rfl (lv_room (Nat.le_of_ble_eq_true rfl)) dX3_plateOf_92 ⟨Nat.le_of_ble_eq_true rfl, Nat.le_of_ble_eq_true rfl⟩) [] [0, 1, 2, 3, 4, 5] [0, 1, 2, 3, 4, 5] rfl rfl rfl (by decide +kernel) rfl rfl (fun H locs hP hD hS => ?_)
          obtain rfl := Option.some.inj hf
          exact W.iret (v := y10) hx hb hr (fun t ht hW => ⟨⟨y10, (), rfl, rfl, by rw [ht]; exact hP, hD⟩, hS.F ht⟩) hS.2.2 dX3_plateOf_95
        · have hf := oif_f c8 hf
          by_cases c11 : i2 = 3
          · have hf := oif_t c11 hf
            refine lv_tableIn (tgt := 96) hx hb dX3_plateOf_15 (by rw [c11]; decide) (by rw [c11]; decide) (by rw [c11]; rfl) (by decide) ?_
            refine lv_aload_n hx hb dX3_plateOf_96 rfl (lv_at hl 0 rfl) ?_
            refine va_get (D := (dC, dI)) (ci := 3) (v := .ref (aA 0)) (C := RX3) (T := TX3) (N := 8) hx hb hts hiX3 hown hK hP 0 rfl rfl 0 (by decide) hgX3_10 (fun _ h9 => h9) rfl dX3_plateOf_97 ?_
            refine va_get (D := (dC, dI)) (ci := 0) (v := .ref (aA 1)) (C := RX0) (T := TX0) (N := 6) hx hb hts hiX0 hown hK hP 1 rfl rfl 2 (by decide) hgX0_95 (fun _ h9 => h9) rfl dX3_plateOf_100 ?_
            refine lv_iload_n hx hb dX3_plateOf_103 rfl (lv_at hl 1 rfl) ?_
            obtain ⟨hi12, hf⟩ := oinb rfl hf
            refine va_iald hx hb hK hP 2 0 rfl rfl hi12 dX3_plateOf_104 ?_
            obtain rfl := Option.some.inj hf
            exact W.iret (v := ((p0_strengths vA) (i1).toNatClampNeg)) hx hb hr (fun t ht hW => ⟨⟨((p0_strengths vA) (i1).toNatClampNeg), (), rfl, rfl, by rw [ht]; exact hP, hD⟩, hS.F ht⟩) hS.2.2 dX3_plateOf_105
          · have hf := oif_f c11 hf
            by_cases c13 : i2 = 4
            · have hf := oif_t c13 hf
              refine lv_tableIn (tgt := 106) hx hb dX3_plateOf_15 (by rw [c13]; decide) (by rw [c13]; decide) (by rw [c13]; rfl) (by decide) ?_
              refine lv_aload_n hx hb dX3_plateOf_106 rfl (lv_at hl 0 rfl) ?_
              refine va_get (D := (dC, dI)) (ci := 3) (v := .ref (aA 0)) (C := RX3) (T := TX3) (N := 8) hx hb hts hiX3 hown hK hP 0 rfl rfl 0 (by decide) hgX3_10 (fun _ h9 => h9) rfl dX3_plateOf_107 ?_
              refine va_get (D := (dC, dI)) (ci := 0) (v := .ref (aA 2)) (C := RX0) (T := TX0) (N := 6) hx hb hts hiX0 hown hK hP 1 rfl rfl 3 (by decide) hgX0_98 (fun _ h9 => h9) rfl dX3_plateOf_110 ?_
              refine lv_iload_n hx hb dX3_plateOf_113 rfl (lv_at hl 1 rfl) ?_
              obtain ⟨hi14, hf⟩ := oinb rfl hf
              refine va_iald hx hb hK hP 3 0 rfl rfl hi14 dX3_plateOf_114 ?_
              obtain rfl := Option.some.inj hf
              exact W.iret (v := ((p0_lengths vA) (i1).toNatClampNeg)) hx hb hr (fun t ht hW => ⟨⟨((p0_lengths vA) (i1).toNatClampNeg), (), rfl, rfl, by rw [ht]; exact hP, hD⟩, hS.F ht⟩) hS.2.2 dX3_plateOf_115
            · have hf := oif_f c13 hf
              by_cases c15 : i2 = 5
              · have hf := oif_t c15 hf
                refine lv_tableIn (tgt := 116) hx hb dX3_plateOf_15 (by rw [c15]; decide) (by rw [c15]; decide) (by rw [c15]; rfl) (by decide) ?_
                refine lv_aload_n hx hb dX3_plateOf_116 rfl (lv_at hl 0 rfl) ?_
                refine va_get (D := (dC, dI)) (ci := 3) (v := .ref (aA 0)) (C := RX3) (T := TX3) (N := 8) hx hb hts hiX3 hown hK hP 0 rfl rfl 0 (by decide) hgX3_10 (fun _ h9 => h9) rfl dX3_plateOf_117 ?_
                refine va_get (D := (dC, dI)) (ci := 0) (v := .ref (aA 1)) (C := RX0) (T := TX0) (N := 6) hx hb hts hiX0 hown hK hP 1 rfl rfl 2 (by decide) hgX0_95 (fun _ h9 => h9) rfl dX3_plateOf_120 ?_
                refine lv_iload_n hx hb dX3_plateOf_123 rfl (lv_at hl 1 rfl) ?_
                refine lv_iconst (v := 1) hx hb dX3_plateOf_124 (by decide) ?_
                refine lv_iadd hx hb dX3_plateOf_125 ?_
                obtain ⟨hi16, hf⟩ := oinb rfl hf
                refine va_iald hx hb hK hP 2 0 rfl rfl hi16 dX3_plateOf_126 ?_
                obtain rfl := Option.some.inj hf
                exact W.iret (v := ((p0_strengths vA) ((i1 + (1 : Int32))).toNatClampNeg)) hx hb hr (fun t ht hW => ⟨⟨((p0_strengths vA) ((i1 + (1 : Int32))).toNatClampNeg), (), rfl, rfl, by rw [ht]; exact hP, hD⟩, hS.F ht⟩) hS.2.2 dX3_plateOf_127
              · have hf := oif_f c15 hf
                by_cases c17 : i2 = 6
                · have hf := oif_t c17 hf
                  refine lv_tableIn (tgt := 128) hx hb dX3_plateOf_15 (by rw [c17]; decide) (by rw [c17]; decide) (by rw [c17]; rfl) (by decide) ?_
                  refine lv_aload_n hx hb dX3_plateOf_128 rfl (lv_at hl 0 rfl) ?_
                  refine va_get (D := (dC, dI)) (ci := 3) (v := .ref (aA 0)) (C := RX3) (T := TX3) (N := 8) hx hb hts hiX3 hown hK hP 0 rfl rfl 0 (by decide) hgX3_10 (fun _ h9 => h9) rfl dX3_plateOf_129 ?_
                  refine va_get (D := (dC, dI)) (ci := 0) (v := .ref (aA 2)) (C := RX0) (T := TX0) (N := 6) hx hb hts hiX0 hown hK hP 1 rfl rfl 3 (by decide) hgX0_98 (fun _ h9 => h9) rfl dX3_plateOf_132 ?_
                  refine lv_iload_n hx hb dX3_plateOf_135 rfl (lv_at hl 1 rfl) ?_
                  refine lv_iconst (v := 1) hx hb dX3_plateOf_136 (by decide) ?_
                  refine lv_iadd hx hb dX3_plateOf_137 ?_
                  obtain ⟨hi18, hf⟩ := oinb rfl hf
                  refine va_iald hx hb hK hP 3 0 rfl rfl hi18 dX3_plateOf_138 ?_
                  obtain rfl := Option.some.inj hf
                  exact W.iret (v := ((p0_lengths vA) ((i1 + (1 : Int32))).toNatClampNeg)) hx hb hr (fun t ht hW => ⟨⟨((p0_lengths vA) ((i1 + (1 : Int32))).toNatClampNeg), (), rfl, rfl, by rw [ht]; exact hP, hD⟩, hS.F ht⟩) hS.2.2 dX3_plateOf_139
                · have hf := oif_f c17 hf
                  refine lv_tableOut (tgt := 140) hx hb dX3_plateOf_15 (by have t0 := toInt_ne (n := 0) rfl c3; have t1 := toInt_ne (n := 1) rfl c5; have t2 := toInt_ne (n := 2) rfl c8; have t3 := toInt_ne (n := 3) rfl c11; have t4 := toInt_ne (n := 4) rfl c13; have t5 := toInt_ne (n := 5) rfl c15; have t6 := toInt_ne (n := 6) rfl c17; omega) (by decide) ?_
                  refine lv_ldc (v := (-1000001)) hx hb hown hc84 dX3_plateOf_140 ?_
                  obtain rfl := Option.some.inj hf
                  exact W.iret (v := (-1000001)) hx hb hr (fun t ht hW => ⟨⟨(-1000001), (), rfl, rfl, by rw [ht]; exact hP, hD⟩, hS.F ht⟩) hS.2.2 dX3_plateOf_142
  · have hf := oif_t c2 hf
    refine lv_ldc (v := (-1000001)) hx hb hown hc84 dX3_plateOf_11 ?_
    obtain rfl := Option.some.inj hf
    exact W.iret (v := (-1000001)) hx hb hr (fun t ht hW => ⟨⟨(-1000001), (), rfl, rfl, by rw [ht]; exact hP, hD⟩, hS.F ht⟩) hS.2.2 dX3_plateOf_13
def fX3_freshTrial (vX : BX3) (vA : BX0) (vB : BX0) : Option BX0 :=
  (fX0_copyFrom vB vA).bind (fun y1 => some y1)
set_option maxHeartbeats 8000000 in
set_option maxRecDepth 100000 in
theorem mX3_freshTrial (l : Launch) (dC : Nat → ClassId) (dI : Nat → Nat → Nat) (cI cJ : ClassId) (a : Nat → Nat) (aA : Nat → Nat) (aB : Nat → Nat) (aR : Nat → Nat) (aT : Nat → Nat) (aS : Nat → Nat) (sz : Nat) (vX : BX3) (vA : BX0) (vB : BX0) (y : BX0) (hf : fX3_freshTrial vX vA vB = some y) : Met l yX3_freshTrial wsX3_freshTrial ({ frames := 2, cells := 0, slots := 0, locals := 45 }) (cPc dC dI cI cJ [.ref (a 0)] [k3_0 a aA aB aR aT aS vX, k0_0 aA vA, k0_1 cI aA vA, k0_2 cI aA vA, k0_3 cI aA vA, k0_4 cI aA vA, k0_0 aB vB, k0_1 cI aB vB, k0_2 cI aB vB, k0_3 cI aB vB, k0_4 cI aB vB] sz) (va_Qr (fun (_ : Unit) => True) (fun _ ra t => ra = (aB 0) ∧ cB dC dI (va_A [k3_0 a aA aB aR aT aS vX, k0_0 aA vA, k0_1 cI aA vA, k0_2 cI aA vA, k0_3 cI aA vA, k0_4 cI aA vA, k0_0 aB vB, k0_1 cI aB vB, k0_2 cI aB vB, k0_3 cI aB vB, k0_4 cI aB vB] sz) [k3_0 a aA aB aR aT aS vX, k0_0 aA vA, k0_1 cI aA vA, k0_2 cI aA vA, k0_3 cI aA vA, k0_4 cI aA vA, k0_0 aB y, k0_1 cI aB y, k0_2 cI aB y, k0_3 cI aB y, k0_4 cI aB y] t) (va_A [k3_0 a aA aB aR aT aS vX, k0_0 aA vA, k0_1 cI aA vA, k0_2 cI aA vA, k0_3 cI aA vA, k0_4 cI aA vA, k0_0 aB vB, k0_1 cI aB vB, k0_2 cI aB vB, k0_3 cI aB vB, k0_4 cI aB vB] sz)) 0 0 (va_A [k3_0 a aA aB aR aT aS vX, k0_0 aA vA, k0_1 cI aA vA, k0_2 cI aA vA, k0_3 cI aA vA, k0_4 cI aA vA, k0_0 aB vB, k0_1 cI aB vB, k0_2 cI aB vB, k0_3 cI aB vB, k0_4 cI aB vB] sz) := by
  refine Met.ofW (cc := cX3_freshTrial) (maxL := 1) (ret := (some (.object "SpringPlates$Layout"))) (by decide) rfl ?_
  intro p e s m args below meth c s₁ B hml hv
  obtain ⟨rfl, hsz, hP, hK, hD0, hN⟩ := hv
  have hx := B.exec
  have hb := B.bytes
  have hr := B.returns
  have hts := atoms_spec (ws := wsX3_freshTrial) B.pre
  have hown : s.vm.findClass RX3 = some m.cls := findClass_of_methodNamed B.named
  have hlocks := B.notSynchronized
  subst hsz
  have hD := hD0.self (sz := s.heap.size)
  generalize hAe : va_A [k3_0 a aA aB aR aT aS vX, k0_0 aA vA, k0_1 cI aA vA, k0_2 cI aA vA, k0_3 cI aA vA, k0_4 cI aA vA, k0_0 aB vB, k0_1 cI aB vB, k0_2 cI aB vB, k0_3 cI aB vB, k0_4 cI aB vB] s.heap.size = A at hD hN ⊢
  have hA : ∀ q : Nat, s.heap.size ≤ q → A q := fun q h => by rw [← hAe]; exact Or.inr h
  have hP : va_P (dC, dI) vwCl [k3_0 a aA aB aR aT aS vX, k0_0 aA vA, k0_1 cI aA vA, k0_2 cI aA vA, k0_3 cI aA vA, k0_4 cI aA vA, k0_0 aB vB, k0_1 cI aB vB, k0_2 cI aB vB, k0_3 cI aB vB, k0_4 cI aB vB] s.heap := hP
  have hl := lv_entry ([.ref (a 0)]) (n := 1) (Nat.le_of_ble_eq_true rfl)
  rw [lg_entry_eq]
  generalize (lg_sl ([.ref (a 0)]) ++ List.replicate (1 - (lg_sl ([.ref (a 0)])).length) Slot.unset).toArray = ls at hl ⊢
  have hl : lv_has ls 1 [(0, .ref (a 0))] := hl
  have hiX3 : ∀ w ∈ u_ws RX3 TX3 8, w ∈ wsX3_freshTrial := by decide +kernel
  have hgX3_16 := hts (.fieldLink RX3 16 "SpringPlates" "trial" "LSpringPlates$Layout;") (by decide +kernel)
  have hgX3_10 := hts (.fieldLink RX3 10 "SpringPlates" "laid" "LSpringPlates$Layout;") (by decide +kernel)
  refine nameH (fun H locs hHe hLe => ?_)
  have hP : va_P (dC, dI) vwCl [k3_0 a aA aB aR aT aS vX, k0_0 aA vA, k0_1 cI aA vA, k0_2 cI aA vA, k0_3 cI aA vA, k0_4 cI aA vA, k0_0 aB vB, k0_1 cI aB vB, k0_2 cI aB vB, k0_3 cI aB vB, k0_4 cI aB vB] H := by rw [hHe]; exact hP
  have hS : va_S A s.heap H locs := by rw [hHe, hLe]; exact va_S.rf
  unfold fX3_freshTrial at hf
  refine lv_aload_n hx hb dX3_freshTrial_0 rfl (lv_at hl 0 rfl) ?_
  refine va_get (D := (dC, dI)) (ci := 3) (v := .ref (aB 0)) (C := RX3) (T := TX3) (N := 8) hx hb hts hiX3 hown hK hP 0 rfl rfl 1 (by decide) hgX3_16 (fun _ h9 => h9) rfl dX3_freshTrial_1 ?_
  refine lv_aload_n hx hb dX3_freshTrial_4 rfl (lv_at hl 0 rfl) ?_
  refine va_get (D := (dC, dI)) (ci := 3) (v := .ref (aA 0)) (C := RX3) (T := TX3) (N := 8) hx hb hts hiX3 hown hK hP 0 rfl rfl 0 (by decide) hgX3_10 (fun _ h9 => h9) rfl dX3_freshTrial_5 ?_
  obtain ⟨y1, hy1, hf⟩ := obind hf
  refine cg_v (ws := [k3_0 a aA aB aR aT aS vX, k0_0 aA vA, k0_1 cI aA vA, k0_2 cI aA vA, k0_3 cI aA vA, k0_4 cI aA vA, k0_0 aB vB, k0_1 cI aB vB, k0_2 cI aB vB, k0_3 cI aB vB, k0_4 cI aB vB]) (wc := [k0_0 aB vB, k0_1 cI aB vB, k0_2 cI aB vB, k0_3 cI aB vB, k0_4 cI aB vB, k0_0 aA vA, k0_1 cI aA vA, k0_2 cI aA vA, k0_3 cI aA vA, k0_4 cI aA vA]) (wr := [k3_0 a aA aB aR aT aS vX]) (w1 := [k0_0 aB y1, k0_1 cI aB y1, k0_2 cI aB y1, k0_3 cI aB y1, k0_4 cI aB y1, k0_0 aA vA, k0_1 cI aA vA, k0_2 cI aA vA, k0_3 cI aA vA, k0_4 cI aA vA]) (wo := [k3_0 a aA aB aR aT aS vX, k0_0 aA vA, k0_1 cI aA vA, k0_2 cI aA vA, k0_3 cI aA vA, k0_4 cI aA vA, k0_0 aB y1, k0_1 cI aB y1, k0_2 cI aB y1, k0_3 cI aB y1, k0_4 cI aB y1]) hP hD hS hA (va_runV (As := [.ref (aA 0)]) (rest := []) ⟨hx, hb, hml, hown, hts⟩ (mX0_copyFrom l dC dI cI cJ aB aA H.size vB vA y1 hy1) (cwV 1 hts gX3_freshTrial_X0_copyFrom rfl rfl rfl (by decide +kernel) ⟨Nat.le_of_ble_eq_true rfl, Nat.le_of_ble_eq_true rfl⟩) ⟨cFB, va_recv hK hP (ci := 0) (q0 := 6) rfl rfl, cPre hK hN hS (va_free (wc := [k0_0 aB vB, k0_1 cI aB vB, k0_2 cI aB vB, k0_3 cI aB vB, k0_4 cI aB vB, k0_0 aA vA, k0_1 cI aA vA, k0_2 cI aA vA, k0_3 cI aA vA, k0_4 cI aA vA]) hD hS hA [6, 7, 8, 9, 10, 1, 2, 3, 4, 5] rfl) (hP.sub [6, 7, 8, 9, 10, 1, 2, 3, 4, 5] rfl) (hD.sub [6, 7, 8, 9, 10, 1, 2, 3, 4, 5] rfl rfl)⟩ rfl rfl hl.1 rfl (lv_room (Nat.le_of_ble_eq_true rfl)) dX3_freshTrial_8 ⟨Nat.le_of_ble_eq_true rfl, Nat.le_of_ble_eq_true rfl⟩) [6, 7, 8, 9, 10, 1, 2, 3, 4, 5] [0] [0, 6, 7, 8, 9, 10, 1, 2, 3, 4, 5] rfl rfl rfl (by decide +kernel) rfl rfl (fun H locs hP hD hS => ?_)
  refine lv_aload_n hx hb dX3_freshTrial_11 rfl (lv_at hl 0 rfl) ?_
  refine va_get (D := (dC, dI)) (ci := 3) (v := .ref (aB 0)) (C := RX3) (T := TX3) (N := 8) hx hb hts hiX3 hown hK hP 0 rfl rfl 1 (by decide) hgX3_16 (fun _ h9 => h9) rfl dX3_freshTrial_12 ?_
  obtain rfl := Option.some.inj hf
  exact W.aret (v := .ref (aB 0)) hx hb hr (Or.inl ⟨_, rfl⟩) (Or.inr ⟨_, rfl⟩) (fun t ht hW => ⟨⟨(), (aB 0), rfl, trivial, rfl, by rw [ht]; exact hP, hD⟩, hS.F ht⟩) hS.2.2 dX3_freshTrial_15
def fX3_settled (vX : BX3) (vA : BX0) (vR : BX1) : Option (BX3 × BX1) :=
  if (p3_restKnown vX) = 0 then ((fX1_settle vA vR).bind (fun y2 => elet (s3_restKnown vX 1) (fun b3 => some (b3, y2)))) else (some (vX, vR))
set_option maxHeartbeats 8000000 in
set_option maxRecDepth 100000 in
theorem mX3_settled (l : Launch) (dC : Nat → ClassId) (dI : Nat → Nat → Nat) (cI cJ : ClassId) (a : Nat → Nat) (aA : Nat → Nat) (aB : Nat → Nat) (aR : Nat → Nat) (aT : Nat → Nat) (aS : Nat → Nat) (sz : Nat) (vX : BX3) (vA : BX0) (vR : BX1) (y : (BX3 × BX1)) (hf : fX3_settled vX vA vR = some y) : Met l yX3_settled wsX3_settled ({ frames := 5, cells := 0, slots := 0, locals := 121 }) (cPc dC dI cI cJ [.ref (a 0)] [k3_0 a aA aB aR aT aS vX, k0_0 aA vA, k0_1 cI aA vA, k0_2 cI aA vA, k0_3 cI aA vA, k0_4 cI aA vA, k1_0 aR vR, k1_1 cJ aR vR, k1_2 cI aR vR, k1_3 cI aR vR, k1_4 cI aR vR, k1_5 cJ aR vR, k1_6 cJ aR vR, k1_7 cJ aR vR, k1_8 cJ aR vR, k1_9 cJ aR vR] sz) (va_Qr (fun (_ : Unit) => True) (fun _ ra t => ra = (aR 0) ∧ cB dC dI (va_A [k3_0 a aA aB aR aT aS vX, k0_0 aA vA, k0_1 cI aA vA, k0_2 cI aA vA, k0_3 cI aA vA, k0_4 cI aA vA, k1_0 aR vR, k1_1 cJ aR vR, k1_2 cI aR vR, k1_3 cI aR vR, k1_4 cI aR vR, k1_5 cJ aR vR, k1_6 cJ aR vR, k1_7 cJ aR vR, k1_8 cJ aR vR, k1_9 cJ aR vR] sz) [k3_0 a aA aB aR aT aS y.1, k0_0 aA vA, k0_1 cI aA vA, k0_2 cI aA vA, k0_3 cI aA vA, k0_4 cI aA vA, k1_0 aR y.2, k1_1 cJ aR y.2, k1_2 cI aR y.2, k1_3 cI aR y.2, k1_4 cI aR y.2, k1_5 cJ aR y.2, k1_6 cJ aR y.2, k1_7 cJ aR y.2, k1_8 cJ aR y.2, k1_9 cJ aR y.2] t) (va_A [k3_0 a aA aB aR aT aS vX, k0_0 aA vA, k0_1 cI aA vA, k0_2 cI aA vA, k0_3 cI aA vA, k0_4 cI aA vA, k1_0 aR vR, k1_1 cJ aR vR, k1_2 cI aR vR, k1_3 cI aR vR, k1_4 cI aR vR, k1_5 cJ aR vR, k1_6 cJ aR vR, k1_7 cJ aR vR, k1_8 cJ aR vR, k1_9 cJ aR vR] sz)) 0 0 (va_A [k3_0 a aA aB aR aT aS vX, k0_0 aA vA, k0_1 cI aA vA, k0_2 cI aA vA, k0_3 cI aA vA, k0_4 cI aA vA, k1_0 aR vR, k1_1 cJ aR vR, k1_2 cI aR vR, k1_3 cI aR vR, k1_4 cI aR vR, k1_5 cJ aR vR, k1_6 cJ aR vR, k1_7 cJ aR vR, k1_8 cJ aR vR, k1_9 cJ aR vR] sz) := by
  refine Met.ofW (cc := cX3_settled) (maxL := 1) (ret := (some (.object "SpringPlates$Rest"))) (by decide) rfl ?_
  intro p e s m args below meth c s₁ B hml hv
  obtain ⟨rfl, hsz, hP, hK, hD0, hN⟩ := hv
  have hx := B.exec
  have hb := B.bytes
  have hr := B.returns
  have hts := atoms_spec (ws := wsX3_settled) B.pre
  have hown : s.vm.findClass RX3 = some m.cls := findClass_of_methodNamed B.named
  have hlocks := B.notSynchronized
  subst hsz
  have hD := hD0.self (sz := s.heap.size)
  generalize hAe : va_A [k3_0 a aA aB aR aT aS vX, k0_0 aA vA, k0_1 cI aA vA, k0_2 cI aA vA, k0_3 cI aA vA, k0_4 cI aA vA, k1_0 aR vR, k1_1 cJ aR vR, k1_2 cI aR vR, k1_3 cI aR vR, k1_4 cI aR vR, k1_5 cJ aR vR, k1_6 cJ aR vR, k1_7 cJ aR vR, k1_8 cJ aR vR, k1_9 cJ aR vR] s.heap.size = A at hD hN ⊢
  have hA : ∀ q : Nat, s.heap.size ≤ q → A q := fun q h => by rw [← hAe]; exact Or.inr h
  have hP : va_P (dC, dI) vwCl [k3_0 a aA aB aR aT aS vX, k0_0 aA vA, k0_1 cI aA vA, k0_2 cI aA vA, k0_3 cI aA vA, k0_4 cI aA vA, k1_0 aR vR, k1_1 cJ aR vR, k1_2 cI aR vR, k1_3 cI aR vR, k1_4 cI aR vR, k1_5 cJ aR vR, k1_6 cJ aR vR, k1_7 cJ aR vR, k1_8 cJ aR vR, k1_9 cJ aR vR] s.heap := hP
  have hl := lv_entry ([.ref (a 0)]) (n := 1) (Nat.le_of_ble_eq_true rfl)
  rw [lg_entry_eq]
  generalize (lg_sl ([.ref (a 0)]) ++ List.replicate (1 - (lg_sl ([.ref (a 0)])).length) Slot.unset).toArray = ls at hl ⊢
  have hl : lv_has ls 1 [(0, .ref (a 0))] := hl
  have hiX3 : ∀ w ∈ u_ws RX3 TX3 8, w ∈ wsX3_settled := by decide +kernel
  have hgX3_34 := hts (.fieldLink RX3 34 "SpringPlates" "restKnown" "Z") (by decide +kernel)
  have hgX3_30 := hts (.fieldLink RX3 30 "SpringPlates" "rest" "LSpringPlates$Rest;") (by decide +kernel)
  have hgX3_10 := hts (.fieldLink RX3 10 "SpringPlates" "laid" "LSpringPlates$Layout;") (by decide +kernel)
  refine nameH (fun H locs hHe hLe => ?_)
  have hP : va_P (dC, dI) vwCl [k3_0 a aA aB aR aT aS vX, k0_0 aA vA, k0_1 cI aA vA, k0_2 cI aA vA, k0_3 cI aA vA, k0_4 cI aA vA, k1_0 aR vR, k1_1 cJ aR vR, k1_2 cI aR vR, k1_3 cI aR vR, k1_4 cI aR vR, k1_5 cJ aR vR, k1_6 cJ aR vR, k1_7 cJ aR vR, k1_8 cJ aR vR, k1_9 cJ aR vR] H := by rw [hHe]; exact hP
  have hS : va_S A s.heap H locs := by rw [hHe, hLe]; exact va_S.rf
  unfold fX3_settled at hf
  refine lv_aload_n hx hb dX3_settled_0 rfl (lv_at hl 0 rfl) ?_
  refine va_get (D := (dC, dI)) (ci := 3) (v := .int (p3_restKnown vX)) (C := RX3) (T := TX3) (N := 8) hx hb hts hiX3 hown hK hP 0 rfl rfl 5 (by decide) hgX3_34 (fun _ h9 => h9) rfl dX3_settled_1 ?_
  refine lv_if_ne (tgt := 23) hx hb dX3_settled_4 (by decide) (fun c1 => ?_) (fun c1 => ?_)
  · have hf := oif_f c1 hf
    refine lv_aload_n hx hb dX3_settled_23 rfl (lv_at hl 0 rfl) ?_
    refine va_get (D := (dC, dI)) (ci := 3) (v := .ref (aR 0)) (C := RX3) (T := TX3) (N := 8) hx hb hts hiX3 hown hK hP 0 rfl rfl 4 (by decide) hgX3_30 (fun _ h9 => h9) rfl dX3_settled_24 ?_
    obtain rfl := Option.some.inj hf
    exact W.aret (v := .ref (aR 0)) hx hb hr (Or.inl ⟨_, rfl⟩) (Or.inr ⟨_, rfl⟩) (fun t ht hW => ⟨⟨(), (aR 0), rfl, trivial, rfl, by rw [ht]; exact hP, hD⟩, hS.F ht⟩) hS.2.2 dX3_settled_27
  · have hf := oif_t c1 hf
    refine lv_aload_n hx hb dX3_settled_7 rfl (lv_at hl 0 rfl) ?_
    refine va_get (D := (dC, dI)) (ci := 3) (v := .ref (aR 0)) (C := RX3) (T := TX3) (N := 8) hx hb hts hiX3 hown hK hP 0 rfl rfl 4 (by decide) hgX3_30 (fun _ h9 => h9) rfl dX3_settled_8 ?_
    refine lv_aload_n hx hb dX3_settled_11 rfl (lv_at hl 0 rfl) ?_
    refine va_get (D := (dC, dI)) (ci := 3) (v := .ref (aA 0)) (C := RX3) (T := TX3) (N := 8) hx hb hts hiX3 hown hK hP 0 rfl rfl 0 (by decide) hgX3_10 (fun _ h9 => h9) rfl dX3_settled_12 ?_
    obtain ⟨y2, hy2, hf⟩ := obind hf
    refine cg_v (ws := [k3_0 a aA aB aR aT aS vX, k0_0 aA vA, k0_1 cI aA vA, k0_2 cI aA vA, k0_3 cI aA vA, k0_4 cI aA vA, k1_0 aR vR, k1_1 cJ aR vR, k1_2 cI aR vR, k1_3 cI aR vR, k1_4 cI aR vR, k1_5 cJ aR vR, k1_6 cJ aR vR, k1_7 cJ aR vR, k1_8 cJ aR vR, k1_9 cJ aR vR]) (wc := [k0_0 aA vA, k0_1 cI aA vA, k0_2 cI aA vA, k0_3 cI aA vA, k0_4 cI aA vA, k1_0 aR vR, k1_1 cJ aR vR, k1_2 cI aR vR, k1_3 cI aR vR, k1_4 cI aR vR, k1_5 cJ aR vR, k1_6 cJ aR vR, k1_7 cJ aR vR, k1_8 cJ aR vR, k1_9 cJ aR vR]) (wr := [k3_0 a aA aB aR aT aS vX]) (w1 := [k0_0 aA vA, k0_1 cI aA vA, k0_2 cI aA vA, k0_3 cI aA vA, k0_4 cI aA vA, k1_0 aR y2, k1_1 cJ aR y2, k1_2 cI aR y2, k1_3 cI aR y2, k1_4 cI aR y2, k1_5 cJ aR y2, k1_6 cJ aR y2, k1_7 cJ aR y2, k1_8 cJ aR y2, k1_9 cJ aR y2]) (wo := [k3_0 a aA aB aR aT aS vX, k0_0 aA vA, k0_1 cI aA vA, k0_2 cI aA vA, k0_3 cI aA vA, k0_4 cI aA vA, k1_0 aR y2, k1_1 cJ aR y2, k1_2 cI aR y2, k1_3 cI aR y2, k1_4 cI aR y2, k1_5 cJ aR y2, k1_6 cJ aR y2, k1_7 cJ aR y2, k1_8 cJ aR y2, k1_9 cJ aR y2]) hP hD hS hA (va_runV (As := [.ref (aA 0)]) (rest := []) ⟨hx, hb, hml, hown, hts⟩ (mX1_settle l dC dI cI cJ aA aR H.size vA vR y2 hy2) (cwV 1 hts gX3_settled_X1_settle rfl rfl rfl (by decide +kernel) ⟨Nat.le_of_ble_eq_true rfl, Nat.le_of_ble_eq_true rfl⟩) ⟨cFB, va_recv hK hP (ci := 1) (q0 := 6) rfl rfl, cPre hK hN hS (va_free (wc := [k0_0 aA vA, k0_1 cI aA vA, k0_2 cI aA vA, k0_3 cI aA vA, k0_4 cI aA vA, k1_0 aR vR, k1_1 cJ aR vR, k1_2 cI aR vR, k1_3 cI aR vR, k1_4 cI aR vR, k1_5 cJ aR vR, k1_6 cJ aR vR, k1_7 cJ aR vR, k1_8 cJ aR vR, k1_9 cJ aR vR]) hD hS hA [1, 2, 3, 4, 5, 6, 7, 8, 9, 10, 11, 12, 13, 14, 15] rfl) (hP.sub [1, 2, 3, 4, 5, 6, 7, 8, 9, 10, 11, 12, 13, 14, 15] rfl) (hD.sub [1, 2, 3, 4, 5, 6, 7, 8, 9, 10, 11, 12, 13, 14, 15] rfl rfl)⟩ rfl rfl hl.1 rfl (lv_room (Nat.le_of_ble_eq_true rfl)) dX3_settled_15 ⟨Nat.le_of_ble_eq_true rfl, Nat.le_of_ble_eq_true rfl⟩) [1, 2, 3, 4, 5, 6, 7, 8, 9, 10, 11, 12, 13, 14, 15] [0] [0, 1, 2, 3, 4, 5, 6, 7, 8, 9, 10, 11, 12, 13, 14, 15] rfl rfl rfl (by decide +kernel) rfl rfl (fun H locs hP hD hS => ?_)
    refine lv_aload_n hx hb dX3_settled_18 rfl (lv_at hl 0 rfl) ?_
    refine lv_iconst (v := 1) hx hb dX3_settled_19 (by decide) ?_
    obtain ⟨b3, eb3, hf⟩ := elet_out hf
    refine va_put (D := (dC, dI)) (ci := 3) (v := .int 1) (ty := .boolean) (C := RX3) (T := TX3) (N := 8) hx hb hts hiX3 tyX3 tyX3_ok nmX3 hown hK hP hD hS 0 rfl rfl 5 (by decide) hgX3_34 (fun _ h9 => h9) rfl (by decide +kernel) rfl rfl (Nat.le_of_ble_eq_true rfl) dX3_settled_20 (fun H locs hP hD hS => ?_)
    have hP : va_P (dC, dI) vwCl [k3_0 a aA aB aR aT aS b3, k0_0 aA vA, k0_1 cI aA vA, k0_2 cI aA vA, k0_3 cI aA vA, k0_4 cI aA vA, k1_0 aR y2, k1_1 cJ aR y2, k1_2 cI aR y2, k1_3 cI aR y2, k1_4 cI aR y2, k1_5 cJ aR y2, k1_6 cJ aR y2, k1_7 cJ aR y2, k1_8 cJ aR y2, k1_9 cJ aR y2] H := by rw [eb3]; exact hP
    have hD : va_D A [k3_0 a aA aB aR aT aS b3, k0_0 aA vA, k0_1 cI aA vA, k0_2 cI aA vA, k0_3 cI aA vA, k0_4 cI aA vA, k1_0 aR y2, k1_1 cJ aR y2, k1_2 cI aR y2, k1_3 cI aR y2, k1_4 cI aR y2, k1_5 cJ aR y2, k1_6 cJ aR y2, k1_7 cJ aR y2, k1_8 cJ aR y2, k1_9 cJ aR y2] := by rw [eb3]; exact hD
    refine lv_aload_n hx hb dX3_settled_23 rfl (lv_at hl 0 rfl) ?_
    refine va_get (D := (dC, dI)) (ci := 3) (v := .ref (aR 0)) (C := RX3) (T := TX3) (N := 8) hx hb hts hiX3 hown hK hP 0 rfl rfl 4 (by decide) hgX3_30 (fun _ h9 => h9) rfl dX3_settled_24 ?_
    obtain rfl := Option.some.inj hf
    exact W.aret (v := .ref (aR 0)) hx hb hr (Or.inl ⟨_, rfl⟩) (Or.inr ⟨_, rfl⟩) (fun t ht hW => ⟨⟨(), (aR 0), rfl, trivial, rfl, by rw [ht]; exact hP, hD⟩, hS.F ht⟩) hS.2.2 dX3_settled_27
def fX3_place (vX : BX3) (vA : BX0) (vR : BX1) (i1 : Int32) (i2 : Int32) : Option (Int32 × BX3 × BX1) :=
  (fX0_hasPlate vA i1).bind (fun y1 => if y1 = 0 then (some ((-1000001), vX, vR)) else (if i2 < 0 then (some ((-1000001), vX, vR)) else (if i2 ≤ (2 : Int32) then ((fX3_settled vX vA vR).bind (fun y5 => if i2 = (2 : Int32) then ((fX1_wholePlaceOf y5.2 i1).bind (fun y9 => some (y9, y5.1, y5.2))) else ((fX1_upperPlaceOf y5.2 i1).bind (fun y7 => (fX3_inLowestTerms y7 (p1_lower y5.2) i2).bind (fun y8 => some ((y8).toInt32, y5.1, y5.2)))))) else (some ((-1000001), vX, vR)))))
set_option maxHeartbeats 8000000 in
set_option maxRecDepth 100000 in
theorem mX3_place (l : Launch) (dC : Nat → ClassId) (dI : Nat → Nat → Nat) (cI cJ : ClassId) (a : Nat → Nat) (aA : Nat → Nat) (aB : Nat → Nat) (aR : Nat → Nat) (aT : Nat → Nat) (aS : Nat → Nat) (sz : Nat) (vX : BX3) (vA : BX0) (vR : BX1) (i1 : Int32) (i2 : Int32) (y : (Int32 × BX3 × BX1)) (hf : fX3_place vX vA vR i1 i2 = some y) : Met l yX3_place wsX3_place ({ frames := 6, cells := 0, slots := 0, locals := 141 }) (cPc dC dI cI cJ [.ref (a 0), .int i1, .int i2] [k3_0 a aA aB aR aT aS vX, k0_0 aA vA, k0_1 cI aA vA, k0_2 cI aA vA, k0_3 cI aA vA, k0_4 cI aA vA, k1_0 aR vR, k1_1 cJ aR vR, k1_2 cI aR vR, k1_3 cI aR vR, k1_4 cI aR vR, k1_5 cJ aR vR, k1_6 cJ aR vR, k1_7 cJ aR vR, k1_8 cJ aR vR, k1_9 cJ aR vR] sz) (va_Qi (fun r (_ : Unit) => r = y.1) (fun _ t => cB dC dI (va_A [k3_0 a aA aB aR aT aS vX, k0_0 aA vA, k0_1 cI aA vA, k0_2 cI aA vA, k0_3 cI aA vA, k0_4 cI aA vA, k1_0 aR vR, k1_1 cJ aR vR, k1_2 cI aR vR, k1_3 cI aR vR, k1_4 cI aR vR, k1_5 cJ aR vR, k1_6 cJ aR vR, k1_7 cJ aR vR, k1_8 cJ aR vR, k1_9 cJ aR vR] sz) [k3_0 a aA aB aR aT aS y.2.1, k0_0 aA vA, k0_1 cI aA vA, k0_2 cI aA vA, k0_3 cI aA vA, k0_4 cI aA vA, k1_0 aR y.2.2, k1_1 cJ aR y.2.2, k1_2 cI aR y.2.2, k1_3 cI aR y.2.2, k1_4 cI aR y.2.2, k1_5 cJ aR y.2.2, k1_6 cJ aR y.2.2, k1_7 cJ aR y.2.2, k1_8 cJ aR y.2.2, k1_9 cJ aR y.2.2] t) (va_A [k3_0 a aA aB aR aT aS vX, k0_0 aA vA, k0_1 cI aA vA, k0_2 cI aA vA, k0_3 cI aA vA, k0_4 cI aA vA, k1_0 aR vR, k1_1 cJ aR vR, k1_2 cI aR vR, k1_3 cI aR vR, k1_4 cI aR vR, k1_5 cJ aR vR, k1_6 cJ aR vR, k1_7 cJ aR vR, k1_8 cJ aR vR, k1_9 cJ aR vR] sz)) 0 0 (va_A [k3_0 a aA aB aR aT aS vX, k0_0 aA vA, k0_1 cI aA vA, k0_2 cI aA vA, k0_3 cI aA vA, k0_4 cI aA vA, k1_0 aR vR, k1_1 cJ aR vR, k1_2 cI aR vR, k1_3 cI aR vR, k1_4 cI aR vR, k1_5 cJ aR vR, k1_6 cJ aR vR, k1_7 cJ aR vR, k1_8 cJ aR vR, k1_9 cJ aR vR] sz) := by
  refine Met.ofW (cc := cX3_place) (maxL := 4) (ret := (some .int)) (by decide) rfl ?_
  intro p e s m args below meth c s₁ B hml hv
  obtain ⟨rfl, hsz, hP, hK, hD0, hN⟩ := hv
  have hx := B.exec
  have hb := B.bytes
  have hr := B.returns
  have hts := atoms_spec (ws := wsX3_place) B.pre
  have hown : s.vm.findClass RX3 = some m.cls := findClass_of_methodNamed B.named
  have hlocks := B.notSynchronized
  subst hsz
  have hD := hD0.self (sz := s.heap.size)
  generalize hAe : va_A [k3_0 a aA aB aR aT aS vX, k0_0 aA vA, k0_1 cI aA vA, k0_2 cI aA vA, k0_3 cI aA vA, k0_4 cI aA vA, k1_0 aR vR, k1_1 cJ aR vR, k1_2 cI aR vR, k1_3 cI aR vR, k1_4 cI aR vR, k1_5 cJ aR vR, k1_6 cJ aR vR, k1_7 cJ aR vR, k1_8 cJ aR vR, k1_9 cJ aR vR] s.heap.size = A at hD hN ⊢
  have hA : ∀ q : Nat, s.heap.size ≤ q → A q := fun q h => by rw [← hAe]; exact Or.inr h
  have hP : va_P (dC, dI) vwCl [k3_0 a aA aB aR aT aS vX, k0_0 aA vA, k0_1 cI aA vA, k0_2 cI aA vA, k0_3 cI aA vA, k0_4 cI aA vA, k1_0 aR vR, k1_1 cJ aR vR, k1_2 cI aR vR, k1_3 cI aR vR, k1_4 cI aR vR, k1_5 cJ aR vR, k1_6 cJ aR vR, k1_7 cJ aR vR, k1_8 cJ aR vR, k1_9 cJ aR vR] s.heap := hP
  have hl := lv_entry ([.ref (a 0), .int i1, .int i2]) (n := 4) (Nat.le_of_ble_eq_true rfl)
  rw [lg_entry_eq]
  generalize (lg_sl ([.ref (a 0), .int i1, .int i2]) ++ List.replicate (4 - (lg_sl ([.ref (a 0), .int i1, .int i2])).length) Slot.unset).toArray = ls at hl ⊢
  have hl : lv_has ls 4 [(0, .ref (a 0)), (1, .int i1), (2, .int i2)] := hl
  have hiX3 : ∀ w ∈ u_ws RX3 TX3 8, w ∈ wsX3_place := by decide +kernel
  have hgX3_10 := hts (.fieldLink RX3 10 "SpringPlates" "laid" "LSpringPlates$Layout;") (by decide +kernel)
  have hc84 := hts (.constant RX3 84 (-1000001)) (by decide +kernel)
  have hiX1 : ∀ w ∈ u_ws RX1 TX1 10, w ∈ wsX3_place := by decide +kernel
  have hgX1_126 := hts (.fieldLink RX3 126 "SpringPlates$Rest" "lower" "J") (by decide +kernel)
  refine nameH (fun H locs hHe hLe => ?_)
  have hP : va_P (dC, dI) vwCl [k3_0 a aA aB aR aT aS vX, k0_0 aA vA, k0_1 cI aA vA, k0_2 cI aA vA, k0_3 cI aA vA, k0_4 cI aA vA, k1_0 aR vR, k1_1 cJ aR vR, k1_2 cI aR vR, k1_3 cI aR vR, k1_4 cI aR vR, k1_5 cJ aR vR, k1_6 cJ aR vR, k1_7 cJ aR vR, k1_8 cJ aR vR, k1_9 cJ aR vR] H := by rw [hHe]; exact hP
  have hS : va_S A s.heap H locs := by rw [hHe, hLe]; exact va_S.rf
  unfold fX3_place at hf
  refine lv_aload_n hx hb dX3_place_0 rfl (lv_at hl 0 rfl) ?_
  refine va_get (D := (dC, dI)) (ci := 3) (v := .ref (aA 0)) (C := RX3) (T := TX3) (N := 8) hx hb hts hiX3 hown hK hP 0 rfl rfl 0 (by decide) hgX3_10 (fun _ h9 => h9) rfl dX3_place_1 ?_
  refine lv_iload_n hx hb dX3_place_4 rfl (lv_at hl 1 rfl) ?_
  obtain ⟨y1, hy1, hf⟩ := obind hf
  refine cg_i (ws := [k3_0 a aA aB aR aT aS vX, k0_0 aA vA, k0_1 cI aA vA, k0_2 cI aA vA, k0_3 cI aA vA, k0_4 cI aA vA, k1_0 aR vR, k1_1 cJ aR vR, k1_2 cI aR vR, k1_3 cI aR vR, k1_4 cI aR vR, k1_5 cJ aR vR, k1_6 cJ aR vR, k1_7 cJ aR vR, k1_8 cJ aR vR, k1_9 cJ aR vR]) (wc := [k0_0 aA vA, k0_1 cI aA vA, k0_2 cI aA vA, k0_3 cI aA vA, k0_4 cI aA vA]) (wr := [k3_0 a aA aB aR aT aS vX, k1_0 aR vR, k1_1 cJ aR vR, k1_2 cI aR vR, k1_3 cI aR vR, k1_4 cI aR vR, k1_5 cJ aR vR, k1_6 cJ aR vR, k1_7 cJ aR vR, k1_8 cJ aR vR, k1_9 cJ aR vR]) (w1 := [k0_0 aA vA, k0_1 cI aA vA, k0_2 cI aA vA, k0_3 cI aA vA, k0_4 cI aA vA]) (wo := [k3_0 a aA aB aR aT aS vX, k0_0 aA vA, k0_1 cI aA vA, k0_2 cI aA vA, k0_3 cI aA vA, k0_4 cI aA vA, k1_0 aR vR, k1_1 cJ aR vR, k1_2 cI aR vR, k1_3 cI aR vR, k1_4 cI aR vR, k1_5 cJ aR vR, k1_6 cJ aR vR, k1_7 cJ aR vR, k1_8 cJ aR vR, k1_9 cJ aR vR]) hP hD hS hA (va_runV (As := [.int i1]) (rest := []) ⟨hx, hb, hml, hown, hts⟩ (mX0_hasPlate l dC dI cI cJ aA H.size vA i1 y1 hy1) (cwV 1 hts gX3_place_X0_hasPlate rfl rfl rfl (by decide +kernel) ⟨Nat.le_of_ble_eq_true rfl, Nat.le_of_ble_eq_true rfl⟩) ⟨cFB, va_recv hK hP (ci := 0) (q0 := 1) rfl rfl, cPre hK hN hS (va_free (wc := [k0_0 aA vA, k0_1 cI aA vA, k0_2 cI aA vA, k0_3 cI aA vA, k0_4 cI aA vA]) hD hS hA [1, 2, 3, 4, 5] rfl) (hP.sub [1, 2, 3, 4, 5] rfl) (hD.sub [1, 2, 3, 4, 5] rfl rfl)⟩ rfl rfl hl.1 rfl (lv_room (Nat.le_of_ble_eq_true rfl)) dX3_place_5 ⟨Nat.le_of_ble_eq_true rfl, Nat.le_of_ble_eq_true rfl⟩) [1, 2, 3, 4, 5] [0, 6, 7, 8, 9, 10, 11, 12, 13, 14, 15] [0, 11, 12, 13, 14, 15, 1, 2, 3, 4, 5, 6, 7, 8, 9, 10] rfl rfl rfl (by decide +kernel) rfl rfl (fun H locs hP hD hS => ?_)
  refine lv_if_eq (tgt := 20) hx hb dX3_place_8 (by decide) (fun c2 => ?_) (fun c2 => ?_)
  · have hf := oif_t c2 hf
    refine lv_ldc (v := (-1000001)) hx hb hown hc84 dX3_place_20 ?_
    obtain rfl := Option.some.inj hf
    exact W.iret (v := (-1000001)) hx hb hr (fun t ht hW => ⟨⟨(-1000001), (), rfl, rfl, by rw [ht]; exact hP, hD⟩, hS.F ht⟩) hS.2.2 dX3_place_22
  · have hf := oif_f c2 hf
    refine lv_iload_n hx hb dX3_place_11 rfl (lv_at hl 2 rfl) ?_
    refine lv_if_lt (tgt := 20) hx hb dX3_place_12 (by decide) (fun c3 => ?_) (fun c3 => ?_)
    · have hf := oif_t c3 hf
      refine lv_ldc (v := (-1000001)) hx hb hown hc84 dX3_place_20 ?_
      obtain rfl := Option.some.inj hf
      exact W.iret (v := (-1000001)) hx hb hr (fun t ht hW => ⟨⟨(-1000001), (), rfl, rfl, by rw [ht]; exact hP, hD⟩, hS.F ht⟩) hS.2.2 dX3_place_22
    · have hf := oif_f c3 hf
      refine lv_iload_n hx hb dX3_place_15 rfl (lv_at hl 2 rfl) ?_
      refine lv_iconst (v := 2) hx hb dX3_place_16 (by decide) ?_
      refine lv_icmp_le (tgt := 23) hx hb dX3_place_17 (by decide) (fun c4 => ?_) (fun c4 => ?_)
      · have hf := oif_t c4 hf
        refine lv_aload_n hx hb dX3_place_23 rfl (lv_at hl 0 rfl) ?_
        obtain ⟨y5, hy5, hf⟩ := obind hf
        refine cg_r (ws := [k3_0 a aA aB aR aT aS vX, k0_0 aA vA, k0_1 cI aA vA, k0_2 cI aA vA, k0_3 cI aA vA, k0_4 cI aA vA, k1_0 aR vR, k1_1 cJ aR vR, k1_2 cI aR vR, k1_3 cI aR vR, k1_4 cI aR vR, k1_5 cJ aR vR, k1_6 cJ aR vR, k1_7 cJ aR vR, k1_8 cJ aR vR, k1_9 cJ aR vR]) (wc := [k3_0 a aA aB aR aT aS vX, k0_0 aA vA, k0_1 cI aA vA, k0_2 cI aA vA, k0_3 cI aA vA, k0_4 cI aA vA, k1_0 aR vR, k1_1 cJ aR vR, k1_2 cI aR vR, k1_3 cI aR vR, k1_4 cI aR vR, k1_5 cJ aR vR, k1_6 cJ aR vR, k1_7 cJ aR vR, k1_8 cJ aR vR, k1_9 cJ aR vR]) (wr := []) (w1 := [k3_0 a aA aB aR aT aS y5.1, k0_0 aA vA, k0_1 cI aA vA, k0_2 cI aA vA, k0_3 cI aA vA, k0_4 cI aA vA, k1_0 aR y5.2, k1_1 cJ aR y5.2, k1_2 cI aR y5.2, k1_3 cI aR y5.2, k1_4 cI aR y5.2, k1_5 cJ aR y5.2, k1_6 cJ aR y5.2, k1_7 cJ aR y5.2, k1_8 cJ aR y5.2, k1_9 cJ aR y5.2]) (wo := [k3_0 a aA aB aR aT aS y5.1, k0_0 aA vA, k0_1 cI aA vA, k0_2 cI aA vA, k0_3 cI aA vA, k0_4 cI aA vA, k1_0 aR y5.2, k1_1 cJ aR y5.2, k1_2 cI aR y5.2, k1_3 cI aR y5.2, k1_4 cI aR y5.2, k1_5 cJ aR y5.2, k1_6 cJ aR y5.2, k1_7 cJ aR y5.2, k1_8 cJ aR y5.2, k1_9 cJ aR y5.2]) hP hD hS hA (va_runV (As := []) (rest := []) ⟨hx, hb, hml, hown, hts⟩ (mX3_settled l dC dI cI cJ a aA aB aR aT aS H.size vX vA vR y5 hy5) (cwV 0 hts gX3_place_X3_settled rfl rfl rfl (by decide +kernel) ⟨Nat.le_of_ble_eq_true rfl, Nat.le_of_ble_eq_true rfl⟩) ⟨cFB, va_recv hK hP (ci := 3) (q0 := 0) rfl rfl, cPre hK hN hS (va_free (wc := [k3_0 a aA aB aR aT aS vX, k0_0 aA vA, k0_1 cI aA vA, k0_2 cI aA vA, k0_3 cI aA vA, k0_4 cI aA vA, k1_0 aR vR, k1_1 cJ aR vR, k1_2 cI aR vR, k1_3 cI aR vR, k1_4 cI aR vR, k1_5 cJ aR vR, k1_6 cJ aR vR, k1_7 cJ aR vR, k1_8 cJ aR vR, k1_9 cJ aR vR]) hD hS hA [0, 1, 2, 3, 4, 5, 6, 7, 8, 9, 10, 11, 12, 13, 14, 15] rfl) (hP.sub [0, 1, 2, 3, 4, 5, 6, 7, 8, 9, 10, 11, 12, 13, 14, 15] rfl) (hD.sub [0, 1, 2, 3, 4, 5, 6, 7, 8, 9, 10, 11, 12, 13, 14, 15] rfl rfl)⟩ rfl rfl hl.1 rfl (lv_room (Nat.le_of_ble_eq_true rfl)) dX3_place_24 ⟨Nat.le_of_ble_eq_true rfl, Nat.le_of_ble_eq_true rfl⟩) [0, 1, 2, 3, 4, 5, 6, 7, 8, 9, 10, 11, 12, 13, 14, 15] [] [0, 1, 2, 3, 4, 5, 6, 7, 8, 9, 10, 11, 12, 13, 14, 15] rfl rfl rfl (by decide +kernel) rfl rfl (fun H locs hP hD hS => ?_)
        refine lv_astore_n (lv' := [(3, .ref (aR 0)), (0, .ref (a 0)), (1, .int i1), (2, .int i2)]) hx hb dX3_place_27 rfl hl (by decide) rfl (fun ls hl => ?_)
        refine lv_iload_n hx hb dX3_place_28 rfl (lv_at hl 3 rfl) ?_
        refine lv_iconst (v := 2) hx hb dX3_place_29 (by decide) ?_
        refine lv_icmp_ne (tgt := 39) hx hb dX3_place_30 (by decide) (fun c6 => ?_) (fun c6 => ?_)
        · have hf := oif_f c6 hf
          refine lv_aload_n hx hb dX3_place_39 rfl (lv_at hl 0 rfl) ?_
          refine lv_iload_n hx hb dX3_place_40 rfl (lv_at hl 2 rfl) ?_
          obtain ⟨y7, hy7, hf⟩ := obind hf
          refine cg_l (ws := [k3_0 a aA aB aR aT aS y5.1, k0_0 aA vA, k0_1 cI aA vA, k0_2 cI aA vA, k0_3 cI aA vA, k0_4 cI aA vA, k1_0 aR y5.2, k1_1 cJ aR y5.2, k1_2 cI aR y5.2, k1_3 cI aR y5.2, k1_4 cI aR y5.2, k1_5 cJ aR y5.2, k1_6 cJ aR y5.2, k1_7 cJ aR y5.2, k1_8 cJ aR y5.2, k1_9 cJ aR y5.2]) (wc := [k1_0 aR y5.2, k1_1 cJ aR y5.2, k1_2 cI aR y5.2, k1_3 cI aR y5.2, k1_4 cI aR y5.2, k1_5 cJ aR y5.2, k1_6 cJ aR y5.2, k1_7 cJ aR y5.2, k1_8 cJ aR y5.2, k1_9 cJ aR y5.2]) (wr := [k3_0 a aA aB aR aT aS y5.1, k0_0 aA vA, k0_1 cI aA vA, k0_2 cI aA vA, k0_3 cI aA vA, k0_4 cI aA vA]) (w1 := [k1_0 aR y5.2, k1_1 cJ aR y5.2, k1_2 cI aR y5.2, k1_3 cI aR y5.2, k1_4 cI aR y5.2, k1_5 cJ aR y5.2, k1_6 cJ aR y5.2, k1_7 cJ aR y5.2, k1_8 cJ aR y5.2, k1_9 cJ aR y5.2]) (wo := [k3_0 a aA aB aR aT aS y5.1, k0_0 aA vA, k0_1 cI aA vA, k0_2 cI aA vA, k0_3 cI aA vA, k0_4 cI aA vA, k1_0 aR y5.2, k1_1 cJ aR y5.2, k1_2 cI aR y5.2, k1_3 cI aR y5.2, k1_4 cI aR y5.2, k1_5 cJ aR y5.2, k1_6 cJ aR y5.2, k1_7 cJ aR y5.2, k1_8 cJ aR y5.2, k1_9 cJ aR y5.2]) hP hD hS hA (va_runV (As := [.int i1]) (rest := []) ⟨hx, hb, hml, hown, hts⟩ (mX1_upperPlaceOf l dC dI cI cJ aR H.size y5.2 i1 y7 hy7) (cwV 1 hts gX3_place_X1_upperPlaceOf rfl rfl rfl (by decide +kernel) ⟨Nat.le_of_ble_eq_true rfl, Nat.le_of_ble_eq_true rfl⟩) ⟨cFB, va_recv hK hP (ci := 1) (q0 := 6) rfl rfl, cPre hK hN hS (va_free (wc := [k1_0 aR y5.2, k1_1 cJ aR y5.2, k1_2 cI aR y5.2, k1_3 cI aR y5.2, k1_4 cI aR y5.2, k1_5 cJ aR y5.2, k1_6 cJ aR y5.2, k1_7 cJ aR y5.2, k1_8 cJ aR y5.2, k1_9 cJ aR y5.2]) hD hS hA [6, 7, 8, 9, 10, 11, 12, 13, 14, 15] rfl) (hP.sub [6, 7, 8, 9, 10, 11, 12, 13, 14, 15] rfl) (hD.sub [6, 7, 8, 9, 10, 11, 12, 13, 14, 15] rfl rfl)⟩ rfl rfl hl.1 rfl (lv_room (Nat.le_of_ble_eq_true rfl)) dX3_place_41 ⟨Nat.le_of_ble_eq_true rfl, Nat.le_of_ble_eq_true rfl⟩) [6, 7, 8, 9, 10, 11, 12, 13, 14, 15] [0, 1, 2, 3, 4, 5] [0, 1, 2, 3, 4, 5, 6, 7, 8, 9, 10, 11, 12, 13, 14, 15] rfl rfl rfl (by decide +kernel) rfl rfl (fun H locs hP hD hS => ?_)
          refine lv_aload_n hx hb dX3_place_44 rfl (lv_at hl 0 rfl) ?_
          refine va_get (D := (dC, dI)) (ci := 1) (v := .long (p1_lower y5.2)) (C := RX1) (T := TX1) (N := 10) hx hb hts hiX1 hown hK hP 6 rfl rfl 1 (by decide) hgX1_126 (fun _ h9 => h9) rfl dX3_place_45 ?_
          refine lv_iload_n hx hb dX3_place_48 rfl (lv_at hl 3 rfl) ?_
          obtain ⟨y8, hy8, hf⟩ := obind hf
          refine cg_l (ws := [k3_0 a aA aB aR aT aS y5.1, k0_0 aA vA, k0_1 cI aA vA, k0_2 cI aA vA, k0_3 cI aA vA, k0_4 cI aA vA, k1_0 aR y5.2, k1_1 cJ aR y5.2, k1_2 cI aR y5.2, k1_3 cI aR y5.2, k1_4 cI aR y5.2, k1_5 cJ aR y5.2, k1_6 cJ aR y5.2, k1_7 cJ aR y5.2, k1_8 cJ aR y5.2, k1_9 cJ aR y5.2]) (wc := []) (wr := [k3_0 a aA aB aR aT aS y5.1, k0_0 aA vA, k0_1 cI aA vA, k0_2 cI aA vA, k0_3 cI aA vA, k0_4 cI aA vA, k1_0 aR y5.2, k1_1 cJ aR y5.2, k1_2 cI aR y5.2, k1_3 cI aR y5.2, k1_4 cI aR y5.2, k1_5 cJ aR y5.2, k1_6 cJ aR y5.2, k1_7 cJ aR y5.2, k1_8 cJ aR y5.2, k1_9 cJ aR y5.2]) (w1 := []) (wo := [k3_0 a aA aB aR aT aS y5.1, k0_0 aA vA, k0_1 cI aA vA, k0_2 cI aA vA, k0_3 cI aA vA, k0_4 cI aA vA, k1_0 aR y5.2, k1_1 cJ aR y5.2, k1_2 cI aR y5.2, k1_3 cI aR y5.2, k1_4 cI aR y5.2, k1_5 cJ aR y5.2, k1_6 cJ aR y5.2, k1_7 cJ aR y5.2, k1_8 cJ aR y5.2, k1_9 cJ aR y5.2]) hP hD hS hA (va_runS (As := [.long y7, .long (p1_lower y5.2), .int i2]) (rest := []) ⟨hx, hb, hml, hown, hts⟩ (mX3_inLowestTerms l dC dI cI cJ  H.size y7 (p1_lower y5.2) i2 y8 hy8) (va_cwS 3 hts gX3_place_X3_inLowestTerms rfl rfl rfl (by decide +kernel) ⟨Nat.le_of_ble_eq_true rfl, Nat.le_of_ble_eq_true rfl⟩) ⟨cFB, cPre hK hN hS (va_free (wc := []) hD hS hA [] rfl) (hP.sub [] rfl) (hD.sub [] rfl rfl)⟩ rfl rfl hl.1 rfl (lv_room (Nat.le_of_ble_eq_true rfl)) dX3_place_49 ⟨Nat.le_of_ble_eq_true rfl, Nat.le_of_ble_eq_true rfl⟩) [] [0, 1, 2, 3, 4, 5, 6, 7, 8, 9, 10, 11, 12, 13, 14, 15] [0, 1, 2, 3, 4, 5, 6, 7, 8, 9, 10, 11, 12, 13, 14, 15] rfl rfl rfl (by decide +kernel) rfl rfl (fun H locs hP hD hS => ?_)
          refine lv_l2i (v := (y8).toInt32) hx hb dX3_place_52 rfl ?_
          obtain rfl := Option.some.inj hf
          exact W.iret (v := (y8).toInt32) hx hb hr (fun t ht hW => ⟨⟨(y8).toInt32, (), rfl, rfl, by rw [ht]; exact hP, hD⟩, hS.F ht⟩) hS.2.2 dX3_place_53
        · have hf := oif_t c6 hf
          refine lv_aload_n hx hb dX3_place_33 rfl (lv_at hl 0 rfl) ?_
          refine lv_iload_n hx hb dX3_place_34 rfl (lv_at hl 2 rfl) ?_
          obtain ⟨y9, hy9, hf⟩ := obind hf
          refine cg_i (ws := [k3_0 a aA aB aR aT aS y5.1, k0_0 aA vA, k0_1 cI aA vA, k0_2 cI aA vA, k0_3 cI aA vA, k0_4 cI aA vA, k1_0 aR y5.2, k1_1 cJ aR y5.2, k1_2 cI aR y5.2, k1_3 cI aR y5.2, k1_4 cI aR y5.2, k1_5 cJ aR y5.2, k1_6 cJ aR y5.2, k1_7 cJ aR y5.2, k1_8 cJ aR y5.2, k1_9 cJ aR y5.2]) (wc := [k1_0 aR y5.2, k1_1 cJ aR y5.2, k1_2 cI aR y5.2, k1_3 cI aR y5.2, k1_4 cI aR y5.2, k1_5 cJ aR y5.2, k1_6 cJ aR y5.2, k1_7 cJ aR y5.2, k1_8 cJ aR y5.2, k1_9 cJ aR y5.2]) (wr := [k3_0 a aA aB aR aT aS y5.1, k0_0 aA vA, k0_1 cI aA vA, k0_2 cI aA vA, k0_3 cI aA vA, k0_4 cI aA vA]) (w1 := [k1_0 aR y5.2, k1_1 cJ aR y5.2, k1_2 cI aR y5.2, k1_3 cI aR y5.2, k1_4 cI aR y5.2, k1_5 cJ aR y5.2, k1_6 cJ aR y5.2, k1_7 cJ aR y5.2, k1_8 cJ aR y5.2, k1_9 cJ aR y5.2]) (wo := [k3_0 a aA aB aR aT aS y5.1, k0_0 aA vA, k0_1 cI aA vA, k0_2 cI aA vA, k0_3 cI aA vA, k0_4 cI aA vA, k1_0 aR y5.2, k1_1 cJ aR y5.2, k1_2 cI aR y5.2, k1_3 cI aR y5.2, k1_4 cI aR y5.2, k1_5 cJ aR y5.2, k1_6 cJ aR y5.2, k1_7 cJ aR y5.2, k1_8 cJ aR y5.2, k1_9 cJ aR y5.2]) hP hD hS hA (va_runV (As := [.int i1]) (rest := []) ⟨hx, hb, hml, hown, hts⟩ (mX1_wholePlaceOf l dC dI cI cJ aR H.size y5.2 i1 y9 hy9) (cwV 1 hts gX3_place_X1_wholePlaceOf rfl rfl rfl (by decide +kernel) ⟨Nat.le_of_ble_eq_true rfl, Nat.le_of_ble_eq_true rfl⟩) ⟨cFB, va_recv hK hP (ci := 1) (q0 := 6) rfl rfl, cPre hK hN hS (va_free (wc := [k1_0 aR y5.2, k1_1 cJ aR y5.2, k1_2 cI aR y5.2, k1_3 cI aR y5.2, k1_4 cI aR y5.2, k1_5 cJ aR y5.2, k1_6 cJ aR y5.2, k1_7 cJ aR y5.2, k1_8 cJ aR y5.2, k1_9 cJ aR y5.2]) hD hS hA [6, 7, 8, 9, 10, 11, 12, 13, 14, 15] rfl) (hP.sub [6, 7, 8, 9, 10, 11, 12, 13, 14, 15] rfl) (hD.sub [6, 7, 8, 9, 10, 11, 12, 13, 14, 15] rfl rfl)⟩ rfl rfl hl.1 rfl (lv_room (Nat.le_of_ble_eq_true rfl)) dX3_place_35 ⟨Nat.le_of_ble_eq_true rfl, Nat.le_of_ble_eq_true rfl⟩) [6, 7, 8, 9, 10, 11, 12, 13, 14, 15] [0, 1, 2, 3, 4, 5] [0, 1, 2, 3, 4, 5, 6, 7, 8, 9, 10, 11, 12, 13, 14, 15] rfl rfl rfl (by decide +kernel) rfl rfl (fun H locs hP hD hS => ?_)
          obtain rfl := Option.some.inj hf
          exact W.iret (v := y9) hx hb hr (fun t ht hW => ⟨⟨y9, (), rfl, rfl, by rw [ht]; exact hP, hD⟩, hS.F ht⟩) hS.2.2 dX3_place_38
      · have hf := oif_f c4 hf
        refine lv_ldc (v := (-1000001)) hx hb hown hc84 dX3_place_20 ?_
        obtain rfl := Option.some.inj hf
        exact W.iret (v := (-1000001)) hx hb hr (fun t ht hW => ⟨⟨(-1000001), (), rfl, rfl, by rw [ht]; exact hP, hD⟩, hS.F ht⟩) hS.2.2 dX3_place_22
def fX3_pull (vX : BX3) (vA : BX0) (vR : BX1) (i1 : Int32) (i2 : Int32) : Option (Int32 × BX3 × BX1) :=
  (fX0_hasSpring vA i1).bind (fun y1 => if y1 = 0 then (some ((-1000001), vX, vR)) else ((fX3_isPart i2).bind (fun y3 => if y3 = 0 then (some ((-1000001), vX, vR)) else ((fX3_settled vX vA vR).bind (fun y5 => (fX1_tensionOf vA y5.2 i1).bind (fun y6 => (fX3_forcePart y6 (p1_lower y5.2) i2).bind (fun y7 => some (y7, y5.1, y5.2))))))))
set_option maxHeartbeats 8000000 in
set_option maxRecDepth 100000 in
theorem mX3_pull (l : Launch) (dC : Nat → ClassId) (dI : Nat → Nat → Nat) (cI cJ : ClassId) (a : Nat → Nat) (aA : Nat → Nat) (aB : Nat → Nat) (aR : Nat → Nat) (aT : Nat → Nat) (aS : Nat → Nat) (sz : Nat) (vX : BX3) (vA : BX0) (vR : BX1) (i1 : Int32) (i2 : Int32) (y : (Int32 × BX3 × BX1)) (hf : fX3_pull vX vA vR i1 i2 = some y) : Met l yX3_pull wsX3_pull ({ frames := 6, cells := 0, slots := 0, locals := 141 }) (cPc dC dI cI cJ [.ref (a 0), .int i1, .int i2] [k3_0 a aA aB aR aT aS vX, k0_0 aA vA, k0_1 cI aA vA, k0_2 cI aA vA, k0_3 cI aA vA, k0_4 cI aA vA, k1_0 aR vR, k1_1 cJ aR vR, k1_2 cI aR vR, k1_3 cI aR vR, k1_4 cI aR vR, k1_5 cJ aR vR, k1_6 cJ aR vR, k1_7 cJ aR vR, k1_8 cJ aR vR, k1_9 cJ aR vR] sz) (va_Qi (fun r (_ : Unit) => r = y.1) (fun _ t => cB dC dI (va_A [k3_0 a aA aB aR aT aS vX, k0_0 aA vA, k0_1 cI aA vA, k0_2 cI aA vA, k0_3 cI aA vA, k0_4 cI aA vA, k1_0 aR vR, k1_1 cJ aR vR, k1_2 cI aR vR, k1_3 cI aR vR, k1_4 cI aR vR, k1_5 cJ aR vR, k1_6 cJ aR vR, k1_7 cJ aR vR, k1_8 cJ aR vR, k1_9 cJ aR vR] sz) [k3_0 a aA aB aR aT aS y.2.1, k0_0 aA vA, k0_1 cI aA vA, k0_2 cI aA vA, k0_3 cI aA vA, k0_4 cI aA vA, k1_0 aR y.2.2, k1_1 cJ aR y.2.2, k1_2 cI aR y.2.2, k1_3 cI aR y.2.2, k1_4 cI aR y.2.2, k1_5 cJ aR y.2.2, k1_6 cJ aR y.2.2, k1_7 cJ aR y.2.2, k1_8 cJ aR y.2.2, k1_9 cJ aR y.2.2] t) (va_A [k3_0 a aA aB aR aT aS vX, k0_0 aA vA, k0_1 cI aA vA, k0_2 cI aA vA, k0_3 cI aA vA, k0_4 cI aA vA, k1_0 aR vR, k1_1 cJ aR vR, k1_2 cI aR vR, k1_3 cI aR vR, k1_4 cI aR vR, k1_5 cJ aR vR, k1_6 cJ aR vR, k1_7 cJ aR vR, k1_8 cJ aR vR, k1_9 cJ aR vR] sz)) 0 0 (va_A [k3_0 a aA aB aR aT aS vX, k0_0 aA vA, k0_1 cI aA vA, k0_2 cI aA vA, k0_3 cI aA vA, k0_4 cI aA vA, k1_0 aR vR, k1_1 cJ aR vR, k1_2 cI aR vR, k1_3 cI aR vR, k1_4 cI aR vR, k1_5 cJ aR vR, k1_6 cJ aR vR, k1_7 cJ aR vR, k1_8 cJ aR vR, k1_9 cJ aR vR] sz) := by
  refine Met.ofW (cc := cX3_pull) (maxL := 4) (ret := (some .int)) (by decide) rfl ?_
  intro p e s m args below meth c s₁ B hml hv
  obtain ⟨rfl, hsz, hP, hK, hD0, hN⟩ := hv
  have hx := B.exec
  have hb := B.bytes
  have hr := B.returns
  have hts := atoms_spec (ws := wsX3_pull) B.pre
  have hown : s.vm.findClass RX3 = some m.cls := findClass_of_methodNamed B.named
  have hlocks := B.notSynchronized
  subst hsz
  have hD := hD0.self (sz := s.heap.size)
  generalize hAe : va_A [k3_0 a aA aB aR aT aS vX, k0_0 aA vA, k0_1 cI aA vA, k0_2 cI aA vA, k0_3 cI aA vA, k0_4 cI aA vA, k1_0 aR vR, k1_1 cJ aR vR, k1_2 cI aR vR, k1_3 cI aR vR, k1_4 cI aR vR, k1_5 cJ aR vR, k1_6 cJ aR vR, k1_7 cJ aR vR, k1_8 cJ aR vR, k1_9 cJ aR vR] s.heap.size = A at hD hN ⊢
  have hA : ∀ q : Nat, s.heap.size ≤ q → A q := fun q h => by rw [← hAe]; exact Or.inr h
  have hP : va_P (dC, dI) vwCl [k3_0 a aA aB aR aT aS vX, k0_0 aA vA, k0_1 cI aA vA, k0_2 cI aA vA, k0_3 cI aA vA, k0_4 cI aA vA, k1_0 aR vR, k1_1 cJ aR vR, k1_2 cI aR vR, k1_3 cI aR vR, k1_4 cI aR vR, k1_5 cJ aR vR, k1_6 cJ aR vR, k1_7 cJ aR vR, k1_8 cJ aR vR, k1_9 cJ aR vR] s.heap := hP
  have hl := lv_entry ([.ref (a 0), .int i1, .int i2]) (n := 4) (Nat.le_of_ble_eq_true rfl)
  rw [lg_entry_eq]
  generalize (lg_sl ([.ref (a 0), .int i1, .int i2]) ++ List.replicate (4 - (lg_sl ([.ref (a 0), .int i1, .int i2])).length) Slot.unset).toArray = ls at hl ⊢
  have hl : lv_has ls 4 [(0, .ref (a 0)), (1, .int i1), (2, .int i2)] := hl
  have hiX3 : ∀ w ∈ u_ws RX3 TX3 8, w ∈ wsX3_pull := by decide +kernel
  have hgX3_10 := hts (.fieldLink RX3 10 "SpringPlates" "laid" "LSpringPlates$Layout;") (by decide +kernel)
  have hc84 := hts (.constant RX3 84 (-1000001)) (by decide +kernel)
  have hiX1 : ∀ w ∈ u_ws RX1 TX1 10, w ∈ wsX3_pull := by decide +kernel
  have hgX1_126 := hts (.fieldLink RX3 126 "SpringPlates$Rest" "lower" "J") (by decide +kernel)
  refine nameH (fun H locs hHe hLe => ?_)
  have hP : va_P (dC, dI) vwCl [k3_0 a aA aB aR aT aS vX, k0_0 aA vA, k0_1 cI aA vA, k0_2 cI aA vA, k0_3 cI aA vA, k0_4 cI aA vA, k1_0 aR vR, k1_1 cJ aR vR, k1_2 cI aR vR, k1_3 cI aR vR, k1_4 cI aR vR, k1_5 cJ aR vR, k1_6 cJ aR vR, k1_7 cJ aR vR, k1_8 cJ aR vR, k1_9 cJ aR vR] H := by rw [hHe]; exact hP
  have hS : va_S A s.heap H locs := by rw [hHe, hLe]; exact va_S.rf
  unfold fX3_pull at hf
  refine lv_aload_n hx hb dX3_pull_0 rfl (lv_at hl 0 rfl) ?_
  refine va_get (D := (dC, dI)) (ci := 3) (v := .ref (aA 0)) (C := RX3) (T := TX3) (N := 8) hx hb hts hiX3 hown hK hP 0 rfl rfl 0 (by decide) hgX3_10 (fun _ h9 => h9) rfl dX3_pull_1 ?_
  refine lv_iload_n hx hb dX3_pull_4 rfl (lv_at hl 1 rfl) ?_
  obtain ⟨y1, hy1, hf⟩ := obind hf
  refine cg_i (ws := [k3_0 a aA aB aR aT aS vX, k0_0 aA vA, k0_1 cI aA vA, k0_2 cI aA vA, k0_3 cI aA vA, k0_4 cI aA vA, k1_0 aR vR, k1_1 cJ aR vR, k1_2 cI aR vR, k1_3 cI aR vR, k1_4 cI aR vR, k1_5 cJ aR vR, k1_6 cJ aR vR, k1_7 cJ aR vR, k1_8 cJ aR vR, k1_9 cJ aR vR]) (wc := [k0_0 aA vA, k0_1 cI aA vA, k0_2 cI aA vA, k0_3 cI aA vA, k0_4 cI aA vA]) (wr := [k3_0 a aA aB aR aT aS vX, k1_0 aR vR, k1_1 cJ aR vR, k1_2 cI aR vR, k1_3 cI aR vR, k1_4 cI aR vR, k1_5 cJ aR vR, k1_6 cJ aR vR, k1_7 cJ aR vR, k1_8 cJ aR vR, k1_9 cJ aR vR]) (w1 := [k0_0 aA vA, k0_1 cI aA vA, k0_2 cI aA vA, k0_3 cI aA vA, k0_4 cI aA vA]) (wo := [k3_0 a aA aB aR aT aS vX, k0_0 aA vA, k0_1 cI aA vA, k0_2 cI aA vA, k0_3 cI aA vA, k0_4 cI aA vA, k1_0 aR vR, k1_1 cJ aR vR, k1_2 cI aR vR, k1_3 cI aR vR, k1_4 cI aR vR, k1_5 cJ aR vR, k1_6 cJ aR vR, k1_7 cJ aR vR, k1_8 cJ aR vR, k1_9 cJ aR vR]) hP hD hS hA (va_runV (As := [.int i1]) (rest := []) ⟨hx, hb, hml, hown, hts⟩ (mX0_hasSpring l dC dI cI cJ aA H.size vA i1 y1 hy1) (cwV 1 hts gX3_pull_X0_hasSpring rfl rfl rfl (by decide +kernel) ⟨Nat.le_of_ble_eq_true rfl, Nat.le_of_ble_eq_true rfl⟩) ⟨cFB, va_recv hK hP (ci := 0) (q0 := 1) rfl rfl, cPre hK hN hS (va_free (wc := [k0_0 aA vA, k0_1 cI aA vA, k0_2 cI aA vA, k0_3 cI aA vA, k0_4 cI aA vA]) hD hS hA [1, 2, 3, 4, 5] rfl) (hP.sub [1, 2, 3, 4, 5] rfl) (hD.sub [1, 2, 3, 4, 5] rfl rfl)⟩ rfl rfl hl.1 rfl (lv_room (Nat.le_of_ble_eq_true rfl)) dX3_pull_5 ⟨Nat.le_of_ble_eq_true rfl, Nat.le_of_ble_eq_true rfl⟩) [1, 2, 3, 4, 5] [0, 6, 7, 8, 9, 10, 11, 12, 13, 14, 15] [0, 11, 12, 13, 14, 15, 1, 2, 3, 4, 5, 6, 7, 8, 9, 10] rfl rfl rfl (by decide +kernel) rfl rfl (fun H locs hP hD hS => ?_)
  refine lv_if_eq (tgt := 18) hx hb dX3_pull_8 (by decide) (fun c2 => ?_) (fun c2 => ?_)
  · have hf := oif_t c2 hf
    refine lv_ldc (v := (-1000001)) hx hb hown hc84 dX3_pull_18 ?_
    obtain rfl := Option.some.inj hf
    exact W.iret (v := (-1000001)) hx hb hr (fun t ht hW => ⟨⟨(-1000001), (), rfl, rfl, by rw [ht]; exact hP, hD⟩, hS.F ht⟩) hS.2.2 dX3_pull_20
  · have hf := oif_f c2 hf
    refine lv_iload_n hx hb dX3_pull_11 rfl (lv_at hl 2 rfl) ?_
    obtain ⟨y3, hy3, hf⟩ := obind hf
    refine cg_i (ws := [k3_0 a aA aB aR aT aS vX, k0_0 aA vA, k0_1 cI aA vA, k0_2 cI aA vA, k0_3 cI aA vA, k0_4 cI aA vA, k1_0 aR vR, k1_1 cJ aR vR, k1_2 cI aR vR, k1_3 cI aR vR, k1_4 cI aR vR, k1_5 cJ aR vR, k1_6 cJ aR vR, k1_7 cJ aR vR, k1_8 cJ aR vR, k1_9 cJ aR vR]) (wc := []) (wr := [k3_0 a aA aB aR aT aS vX, k0_0 aA vA, k0_1 cI aA vA, k0_2 cI aA vA, k0_3 cI aA vA, k0_4 cI aA vA, k1_0 aR vR, k1_1 cJ aR vR, k1_2 cI aR vR, k1_3 cI aR vR, k1_4 cI aR vR, k1_5 cJ aR vR, k1_6 cJ aR vR, k1_7 cJ aR vR, k1_8 cJ aR vR, k1_9 cJ aR vR]) (w1 := []) (wo := [k3_0 a aA aB aR aT aS vX, k0_0 aA vA, k0_1 cI aA vA, k0_2 cI aA vA, k0_3 cI aA vA, k0_4 cI aA vA, k1_0 aR vR, k1_1 cJ aR vR, k1_2 cI aR vR, k1_3 cI aR vR, k1_4 cI aR vR, k1_5 cJ aR vR, k1_6 cJ aR vR, k1_7 cJ aR vR, k1_8 cJ aR vR, k1_9 cJ aR vR]) hP hD hS hA (va_runS (As := [.int i2]) (rest := []) ⟨hx, hb, hml, hown, hts⟩ (mX3_isPart l dC dI cI cJ  H.size i2 y3 hy3) (va_cwS 1 hts gX3_pull_X3_isPart rfl rfl rfl (by decide +kernel) ⟨Nat.le_of_ble_eq_true rfl, Nat.le_of_ble_eq_true rfl⟩) ⟨cFB, cPre hK hN hS (va_free (wc := []) hD hS hA [] rfl) (hP.sub [] rfl) (hD.sub [] rfl rfl)⟩ rfl rfl hl.1 rfl (lv_room (Nat.le_of_ble_eq_true rfl)) dX3_pull_12 ⟨Nat.le_of_ble_eq_true rfl, Nat.le_of_ble_eq_true rfl⟩) [] [0, 1, 2, 3, 4, 5, 6, 7, 8, 9, 10, 11, 12, 13, 14, 15] [0, 1, 2, 3, 4, 5, 6, 7, 8, 9, 10, 11, 12, 13, 14, 15] rfl rfl rfl (by decide +kernel) rfl rfl (fun H locs hP hD hS => ?_)
    refine lv_if_ne (tgt := 21) hx hb dX3_pull_15 (by decide) (fun c4 => ?_) (fun c4 => ?_)
    · have hf := oif_f c4 hf
      refine lv_aload_n hx hb dX3_pull_21 rfl (lv_at hl 0 rfl) ?_
      obtain ⟨y5, hy5, hf⟩ := obind hf
      refine cg_r (ws := [k3_0 a aA aB aR aT aS vX, k0_0 aA vA, k0_1 cI aA vA, k0_2 cI aA vA, k0_3 cI aA vA, k0_4 cI aA vA, k1_0 aR vR, k1_1 cJ aR vR, k1_2 cI aR vR, k1_3 cI aR vR, k1_4 cI aR vR, k1_5 cJ aR vR, k1_6 cJ aR vR, k1_7 cJ aR vR, k1_8 cJ aR vR, k1_9 cJ aR vR]) (wc := [k3_0 a aA aB aR aT aS vX, k0_0 aA vA, k0_1 cI aA vA, k0_2 cI aA vA, k0_3 cI aA vA, k0_4 cI aA vA, k1_0 aR vR, k1_1 cJ aR vR, k1_2 cI aR vR, k1_3 cI aR vR, k1_4 cI aR vR, k1_5 cJ aR vR, k1_6 cJ aR vR, k1_7 cJ aR vR, k1_8 cJ aR vR, k1_9 cJ aR vR]) (wr := []) (w1 := [k3_0 a aA aB aR aT aS y5.1, k0_0 aA vA, k0_1 cI aA vA, k0_2 cI aA vA, k0_3 cI aA vA, k0_4 cI aA vA, k1_0 aR y5.2, k1_1 cJ aR y5.2, k1_2 cI aR y5.2, k1_3 cI aR y5.2, k1_4 cI aR y5.2, k1_5 cJ aR y5.2, k1_6 cJ aR y5.2, k1_7 cJ aR y5.2, k1_8 cJ aR y5.2, k1_9 cJ aR y5.2]) (wo := [k3_0 a aA aB aR aT aS y5.1, k0_0 aA vA, k0_1 cI aA vA, k0_2 cI aA vA, k0_3 cI aA vA, k0_4 cI aA vA, k1_0 aR y5.2, k1_1 cJ aR y5.2, k1_2 cI aR y5.2, k1_3 cI aR y5.2, k1_4 cI aR y5.2, k1_5 cJ aR y5.2, k1_6 cJ aR y5.2, k1_7 cJ aR y5.2, k1_8 cJ aR y5.2, k1_9 cJ aR y5.2]) hP hD hS hA (va_runV (As := []) (rest := []) ⟨hx, hb, hml, hown, hts⟩ (mX3_settled l dC dI cI cJ a aA aB aR aT aS H.size vX vA vR y5 hy5) (cwV 0 hts gX3_pull_X3_settled rfl rfl rfl (by decide +kernel) ⟨Nat.le_of_ble_eq_true rfl, Nat.le_of_ble_eq_true rfl⟩) ⟨cFB, va_recv hK hP (ci := 3) (q0 := 0) rfl rfl, cPre hK hN hS (va_free (wc := [k3_0 a aA aB aR aT aS vX, k0_0 aA vA, k0_1 cI aA vA, k0_2 cI aA vA, k0_3 cI aA vA, k0_4 cI aA vA, k1_0 aR vR, k1_1 cJ aR vR, k1_2 cI aR vR, k1_3 cI aR vR, k1_4 cI aR vR, k1_5 cJ aR vR, k1_6 cJ aR vR, k1_7 cJ aR vR, k1_8 cJ aR vR, k1_9 cJ aR vR]) hD hS hA [0, 1, 2, 3, 4, 5, 6, 7, 8, 9, 10, 11, 12, 13, 14, 15] rfl) (hP.sub [0, 1, 2, 3, 4, 5, 6, 7, 8, 9, 10, 11, 12, 13, 14, 15] rfl) (hD.sub [0, 1, 2, 3, 4, 5, 6, 7, 8, 9, 10, 11, 12, 13, 14, 15] rfl rfl)⟩ rfl rfl hl.1 rfl (lv_room (Nat.le_of_ble_eq_true rfl)) dX3_pull_22 ⟨Nat.le_of_ble_eq_true rfl, Nat.le_of_ble_eq_true rfl⟩) [0, 1, 2, 3, 4, 5, 6, 7, 8, 9, 10, 11, 12, 13, 14, 15] [] [0, 1, 2, 3, 4, 5, 6, 7, 8, 9, 10, 11, 12, 13, 14, 15] rfl rfl rfl (by decide +kernel) rfl rfl (fun H locs hP hD hS => ?_)
      refine lv_astore_n (lv' := [(3, .ref (aR 0)), (0, .ref (a 0)), (1, .int i1), (2, .int i2)]) hx hb dX3_pull_25 rfl hl (by decide) rfl (fun ls hl => ?_)
      refine lv_aload_n hx hb dX3_pull_26 rfl (lv_at hl 0 rfl) ?_
      refine lv_aload_n hx hb dX3_pull_27 rfl (lv_at hl 1 rfl) ?_
      refine va_get (D := (dC, dI)) (ci := 3) (v := .ref (aA 0)) (C := RX3) (T := TX3) (N := 8) hx hb hts hiX3 hown hK hP 0 rfl rfl 0 (by decide) hgX3_10 (fun _ h9 => h9) rfl dX3_pull_28 ?_
      refine lv_iload_n hx hb dX3_pull_31 rfl (lv_at hl 2 rfl) ?_
      obtain ⟨y6, hy6, hf⟩ := obind hf
      refine cg_l (ws := [k3_0 a aA aB aR aT aS y5.1, k0_0 aA vA, k0_1 cI aA vA, k0_2 cI aA vA, k0_3 cI aA vA, k0_4 cI aA vA, k1_0 aR y5.2, k1_1 cJ aR y5.2, k1_2 cI aR y5.2, k1_3 cI aR y5.2, k1_4 cI aR y5.2, k1_5 cJ aR y5.2, k1_6 cJ aR y5.2, k1_7 cJ aR y5.2, k1_8 cJ aR y5.2, k1_9 cJ aR y5.2]) (wc := [k0_0 aA vA, k0_1 cI aA vA, k0_2 cI aA vA, k0_3 cI aA vA, k0_4 cI aA vA, k1_0 aR y5.2, k1_1 cJ aR y5.2, k1_2 cI aR y5.2, k1_3 cI aR y5.2, k1_4 cI aR y5.2, k1_5 cJ aR y5.2, k1_6 cJ aR y5.2, k1_7 cJ aR y5.2, k1_8 cJ aR y5.2, k1_9 cJ aR y5.2]) (wr := [k3_0 a aA aB aR aT aS y5.1]) (w1 := [k0_0 aA vA, k0_1 cI aA vA, k0_2 cI aA vA, k0_3 cI aA vA, k0_4 cI aA vA, k1_0 aR y5.2, k1_1 cJ aR y5.2, k1_2 cI aR y5.2, k1_3 cI aR y5.2, k1_4 cI aR y5.2, k1_5 cJ aR y5.2, k1_6 cJ aR y5.2, k1_7 cJ aR y5.2, k1_8 cJ aR y5.2, k1_9 cJ aR y5.2]) (wo := [k3_0 a aA aB aR aT aS y5.1, k0_0 aA vA, k0_1 cI aA vA, k0_2 cI aA vA, k0_3 cI aA vA, k0_4 cI aA vA, k1_0 aR y5.2, k1_1 cJ aR y5.2, k1_2 cI aR y5.2, k1_3 cI aR y5.2, k1_4 cI aR y5.2, k1_5 cJ aR y5.2, k1_6 cJ aR y5.2, k1_7 cJ aR y5.2, k1_8 cJ aR y5.2, k1_9 cJ aR y5.2]) hP hD hS hA (va_runV (As := [.ref (aA 0), .int i1]) (rest := []) ⟨hx, hb, hml, hown, hts⟩ (mX1_tensionOf l dC dI cI cJ aA aR H.size vA y5.2 i1 y6 hy6) (cwV 2 hts gX3_pull_X1_tensionOf rfl rfl rfl (by decide +kernel) ⟨Nat.le_of_ble_eq_true rfl, Nat.le_of_ble_eq_true rfl⟩) ⟨cFB, va_recv hK hP (ci := 1) (q0 := 6) rfl rfl, cPre hK hN hS (va_free (wc := [k0_0 aA vA, k0_1 cI aA vA, k0_2 cI aA vA, k0_3 cI aA vA, k0_4 cI aA vA, k1_0 aR y5.2, k1_1 cJ aR y5.2, k1_2 cI aR y5.2, k1_3 cI aR y5.2, k1_4 cI aR y5.2, k1_5 cJ aR y5.2, k1_6 cJ aR y5.2, k1_7 cJ aR y5.2, k1_8 cJ aR y5.2, k1_9 cJ aR y5.2]) hD hS hA [1, 2, 3, 4, 5, 6, 7, 8, 9, 10, 11, 12, 13, 14, 15] rfl) (hP.sub [1, 2, 3, 4, 5, 6, 7, 8, 9, 10, 11, 12, 13, 14, 15] rfl) (hD.sub [1, 2, 3, 4, 5, 6, 7, 8, 9, 10, 11, 12, 13, 14, 15] rfl rfl)⟩ rfl rfl hl.1 rfl (lv_room (Nat.le_of_ble_eq_true rfl)) dX3_pull_32 ⟨Nat.le_of_ble_eq_true rfl, Nat.le_of_ble_eq_true rfl⟩) [1, 2, 3, 4, 5, 6, 7, 8, 9, 10, 11, 12, 13, 14, 15] [0] [0, 1, 2, 3, 4, 5, 6, 7, 8, 9, 10, 11, 12, 13, 14, 15] rfl rfl rfl (by decide +kernel) rfl rfl (fun H locs hP hD hS => ?_)
      refine lv_aload_n hx hb dX3_pull_35 rfl (lv_at hl 0 rfl) ?_
      refine va_get (D := (dC, dI)) (ci := 1) (v := .long (p1_lower y5.2)) (C := RX1) (T := TX1) (N := 10) hx hb hts hiX1 hown hK hP 6 rfl rfl 1 (by decide) hgX1_126 (fun _ h9 => h9) rfl dX3_pull_36 ?_
      refine lv_iload_n hx hb dX3_pull_39 rfl (lv_at hl 3 rfl) ?_
      obtain ⟨y7, hy7, hf⟩ := obind hf
      refine cg_i (ws := [k3_0 a aA aB aR aT aS y5.1, k0_0 aA vA, k0_1 cI aA vA, k0_2 cI aA vA, k0_3 cI aA vA, k0_4 cI aA vA, k1_0 aR y5.2, k1_1 cJ aR y5.2, k1_2 cI aR y5.2, k1_3 cI aR y5.2, k1_4 cI aR y5.2, k1_5 cJ aR y5.2, k1_6 cJ aR y5.2, k1_7 cJ aR y5.2, k1_8 cJ aR y5.2, k1_9 cJ aR y5.2]) (wc := []) (wr := [k3_0 a aA aB aR aT aS y5.1, k0_0 aA vA, k0_1 cI aA vA, k0_2 cI aA vA, k0_3 cI aA vA, k0_4 cI aA vA, k1_0 aR y5.2, k1_1 cJ aR y5.2, k1_2 cI aR y5.2, k1_3 cI aR y5.2, k1_4 cI aR y5.2, k1_5 cJ aR y5.2, k1_6 cJ aR y5.2, k1_7 cJ aR y5.2, k1_8 cJ aR y5.2, k1_9 cJ aR y5.2]) (w1 := []) (wo := [k3_0 a aA aB aR aT aS y5.1, k0_0 aA vA, k0_1 cI aA vA, k0_2 cI aA vA, k0_3 cI aA vA, k0_4 cI aA vA, k1_0 aR y5.2, k1_1 cJ aR y5.2, k1_2 cI aR y5.2, k1_3 cI aR y5.2, k1_4 cI aR y5.2, k1_5 cJ aR y5.2, k1_6 cJ aR y5.2, k1_7 cJ aR y5.2, k1_8 cJ aR y5.2, k1_9 cJ aR y5.2]) hP hD hS hA (va_runS (As := [.long y6, .long (p1_lower y5.2), .int i2]) (rest := []) ⟨hx, hb, hml, hown, hts⟩ (mX3_forcePart l dC dI cI cJ  H.size y6 (p1_lower y5.2) i2 y7 hy7) (va_cwS 3 hts gX3_pull_X3_forcePart rfl rfl rfl (by decide +kernel) ⟨Nat.le_of_ble_eq_true rfl, Nat.le_of_ble_eq_true rfl⟩) ⟨cFB, cPre hK hN hS (va_free (wc := []) hD hS hA [] rfl) (hP.sub [] rfl) (hD.sub [] rfl rfl)⟩ rfl rfl hl.1 rfl (lv_room (Nat.le_of_ble_eq_true rfl)) dX3_pull_40 ⟨Nat.le_of_ble_eq_true rfl, Nat.le_of_ble_eq_true rfl⟩) [] [0, 1, 2, 3, 4, 5, 6, 7, 8, 9, 10, 11, 12, 13, 14, 15] [0, 1, 2, 3, 4, 5, 6, 7, 8, 9, 10, 11, 12, 13, 14, 15] rfl rfl rfl (by decide +kernel) rfl rfl (fun H locs hP hD hS => ?_)
      obtain rfl := Option.some.inj hf
      exact W.iret (v := y7) hx hb hr (fun t ht hW => ⟨⟨y7, (), rfl, rfl, by rw [ht]; exact hP, hD⟩, hS.F ht⟩) hS.2.2 dX3_pull_43
    · have hf := oif_t c4 hf
      refine lv_ldc (v := (-1000001)) hx hb hown hc84 dX3_pull_18 ?_
      obtain rfl := Option.some.inj hf
      exact W.iret (v := (-1000001)) hx hb hr (fun t ht hW => ⟨⟨(-1000001), (), rfl, rfl, by rw [ht]; exact hP, hD⟩, hS.F ht⟩) hS.2.2 dX3_pull_20
def fX3_push (vX : BX3) (vA : BX0) (vR : BX1) (i1 : Int32) (i2 : Int32) : Option (Int32 × BX3 × BX1) :=
  (fX0_hasPlate vA i1).bind (fun y1 => if y1 = 0 then (some ((-1000001), vX, vR)) else ((fX3_isPart i2).bind (fun y3 => if y3 = 0 then (some ((-1000001), vX, vR)) else ((fX3_settled vX vA vR).bind (fun y5 => (fX1_forceOn vA y5.2 i1 i1).bind (fun y6 => (fX3_forcePart (-y6) (p1_lower y5.2) i2).bind (fun y7 => some (y7, y5.1, y5.2))))))))
set_option maxHeartbeats 8000000 in
set_option maxRecDepth 100000 in
theorem mX3_push (l : Launch) (dC : Nat → ClassId) (dI : Nat → Nat → Nat) (cI cJ : ClassId) (a : Nat → Nat) (aA : Nat → Nat) (aB : Nat → Nat) (aR : Nat → Nat) (aT : Nat → Nat) (aS : Nat → Nat) (sz : Nat) (vX : BX3) (vA : BX0) (vR : BX1) (i1 : Int32) (i2 : Int32) (y : (Int32 × BX3 × BX1)) (hf : fX3_push vX vA vR i1 i2 = some y) : Met l yX3_push wsX3_push ({ frames := 6, cells := 0, slots := 0, locals := 141 }) (cPc dC dI cI cJ [.ref (a 0), .int i1, .int i2] [k3_0 a aA aB aR aT aS vX, k0_0 aA vA, k0_1 cI aA vA, k0_2 cI aA vA, k0_3 cI aA vA, k0_4 cI aA vA, k1_0 aR vR, k1_1 cJ aR vR, k1_2 cI aR vR, k1_3 cI aR vR, k1_4 cI aR vR, k1_5 cJ aR vR, k1_6 cJ aR vR, k1_7 cJ aR vR, k1_8 cJ aR vR, k1_9 cJ aR vR] sz) (va_Qi (fun r (_ : Unit) => r = y.1) (fun _ t => cB dC dI (va_A [k3_0 a aA aB aR aT aS vX, k0_0 aA vA, k0_1 cI aA vA, k0_2 cI aA vA, k0_3 cI aA vA, k0_4 cI aA vA, k1_0 aR vR, k1_1 cJ aR vR, k1_2 cI aR vR, k1_3 cI aR vR, k1_4 cI aR vR, k1_5 cJ aR vR, k1_6 cJ aR vR, k1_7 cJ aR vR, k1_8 cJ aR vR, k1_9 cJ aR vR] sz) [k3_0 a aA aB aR aT aS y.2.1, k0_0 aA vA, k0_1 cI aA vA, k0_2 cI aA vA, k0_3 cI aA vA, k0_4 cI aA vA, k1_0 aR y.2.2, k1_1 cJ aR y.2.2, k1_2 cI aR y.2.2, k1_3 cI aR y.2.2, k1_4 cI aR y.2.2, k1_5 cJ aR y.2.2, k1_6 cJ aR y.2.2, k1_7 cJ aR y.2.2, k1_8 cJ aR y.2.2, k1_9 cJ aR y.2.2] t) (va_A [k3_0 a aA aB aR aT aS vX, k0_0 aA vA, k0_1 cI aA vA, k0_2 cI aA vA, k0_3 cI aA vA, k0_4 cI aA vA, k1_0 aR vR, k1_1 cJ aR vR, k1_2 cI aR vR, k1_3 cI aR vR, k1_4 cI aR vR, k1_5 cJ aR vR, k1_6 cJ aR vR, k1_7 cJ aR vR, k1_8 cJ aR vR, k1_9 cJ aR vR] sz)) 0 0 (va_A [k3_0 a aA aB aR aT aS vX, k0_0 aA vA, k0_1 cI aA vA, k0_2 cI aA vA, k0_3 cI aA vA, k0_4 cI aA vA, k1_0 aR vR, k1_1 cJ aR vR, k1_2 cI aR vR, k1_3 cI aR vR, k1_4 cI aR vR, k1_5 cJ aR vR, k1_6 cJ aR vR, k1_7 cJ aR vR, k1_8 cJ aR vR, k1_9 cJ aR vR] sz) := by
  refine Met.ofW (cc := cX3_push) (maxL := 4) (ret := (some .int)) (by decide) rfl ?_
  intro p e s m args below meth c s₁ B hml hv
  obtain ⟨rfl, hsz, hP, hK, hD0, hN⟩ := hv
  have hx := B.exec
  have hb := B.bytes
  have hr := B.returns
  have hts := atoms_spec (ws := wsX3_push) B.pre
  have hown : s.vm.findClass RX3 = some m.cls := findClass_of_methodNamed B.named
  have hlocks := B.notSynchronized
  subst hsz
  have hD := hD0.self (sz := s.heap.size)
  generalize hAe : va_A [k3_0 a aA aB aR aT aS vX, k0_0 aA vA, k0_1 cI aA vA, k0_2 cI aA vA, k0_3 cI aA vA, k0_4 cI aA vA, k1_0 aR vR, k1_1 cJ aR vR, k1_2 cI aR vR, k1_3 cI aR vR, k1_4 cI aR vR, k1_5 cJ aR vR, k1_6 cJ aR vR, k1_7 cJ aR vR, k1_8 cJ aR vR, k1_9 cJ aR vR] s.heap.size = A at hD hN ⊢
  have hA : ∀ q : Nat, s.heap.size ≤ q → A q := fun q h => by rw [← hAe]; exact Or.inr h
  have hP : va_P (dC, dI) vwCl [k3_0 a aA aB aR aT aS vX, k0_0 aA vA, k0_1 cI aA vA, k0_2 cI aA vA, k0_3 cI aA vA, k0_4 cI aA vA, k1_0 aR vR, k1_1 cJ aR vR, k1_2 cI aR vR, k1_3 cI aR vR, k1_4 cI aR vR, k1_5 cJ aR vR, k1_6 cJ aR vR, k1_7 cJ aR vR, k1_8 cJ aR vR, k1_9 cJ aR vR] s.heap := hP
  have hl := lv_entry ([.ref (a 0), .int i1, .int i2]) (n := 4) (Nat.le_of_ble_eq_true rfl)
  rw [lg_entry_eq]
  generalize (lg_sl ([.ref (a 0), .int i1, .int i2]) ++ List.replicate (4 - (lg_sl ([.ref (a 0), .int i1, .int i2])).length) Slot.unset).toArray = ls at hl ⊢
  have hl : lv_has ls 4 [(0, .ref (a 0)), (1, .int i1), (2, .int i2)] := hl
  have hiX3 : ∀ w ∈ u_ws RX3 TX3 8, w ∈ wsX3_push := by decide +kernel
  have hgX3_10 := hts (.fieldLink RX3 10 "SpringPlates" "laid" "LSpringPlates$Layout;") (by decide +kernel)
  have hc84 := hts (.constant RX3 84 (-1000001)) (by decide +kernel)
  have hiX1 : ∀ w ∈ u_ws RX1 TX1 10, w ∈ wsX3_push := by decide +kernel
  have hgX1_126 := hts (.fieldLink RX3 126 "SpringPlates$Rest" "lower" "J") (by decide +kernel)
  refine nameH (fun H locs hHe hLe => ?_)
  have hP : va_P (dC, dI) vwCl [k3_0 a aA aB aR aT aS vX, k0_0 aA vA, k0_1 cI aA vA, k0_2 cI aA vA, k0_3 cI aA vA, k0_4 cI aA vA, k1_0 aR vR, k1_1 cJ aR vR, k1_2 cI aR vR, k1_3 cI aR vR, k1_4 cI aR vR, k1_5 cJ aR vR, k1_6 cJ aR vR, k1_7 cJ aR vR, k1_8 cJ aR vR, k1_9 cJ aR vR] H := by rw [hHe]; exact hP
  have hS : va_S A s.heap H locs := by rw [hHe, hLe]; exact va_S.rf
  unfold fX3_push at hf
  refine lv_aload_n hx hb dX3_push_0 rfl (lv_at hl 0 rfl) ?_
  refine va_get (D := (dC, dI)) (ci := 3) (v := .ref (aA 0)) (C := RX3) (T := TX3) (N := 8) hx hb hts hiX3 hown hK hP 0 rfl rfl 0 (by decide) hgX3_10 (fun _ h9 => h9) rfl dX3_push_1 ?_
  refine lv_iload_n hx hb dX3_push_4 rfl (lv_at hl 1 rfl) ?_
  obtain ⟨y1, hy1, hf⟩ := obind hf
  refine cg_i (ws := [k3_0 a aA aB aR aT aS vX, k0_0 aA vA, k0_1 cI aA vA, k0_2 cI aA vA, k0_3 cI aA vA, k0_4 cI aA vA, k1_0 aR vR, k1_1 cJ aR vR, k1_2 cI aR vR, k1_3 cI aR vR, k1_4 cI aR vR, k1_5 cJ aR vR, k1_6 cJ aR vR, k1_7 cJ aR vR, k1_8 cJ aR vR, k1_9 cJ aR vR]) (wc := [k0_0 aA vA, k0_1 cI aA vA, k0_2 cI aA vA, k0_3 cI aA vA, k0_4 cI aA vA]) (wr := [k3_0 a aA aB aR aT aS vX, k1_0 aR vR, k1_1 cJ aR vR, k1_2 cI aR vR, k1_3 cI aR vR, k1_4 cI aR vR, k1_5 cJ aR vR, k1_6 cJ aR vR, k1_7 cJ aR vR, k1_8 cJ aR vR, k1_9 cJ aR vR]) (w1 := [k0_0 aA vA, k0_1 cI aA vA, k0_2 cI aA vA, k0_3 cI aA vA, k0_4 cI aA vA]) (wo := [k3_0 a aA aB aR aT aS vX, k0_0 aA vA, k0_1 cI aA vA, k0_2 cI aA vA, k0_3 cI aA vA, k0_4 cI aA vA, k1_0 aR vR, k1_1 cJ aR vR, k1_2 cI aR vR, k1_3 cI aR vR, k1_4 cI aR vR, k1_5 cJ aR vR, k1_6 cJ aR vR, k1_7 cJ aR vR, k1_8 cJ aR vR, k1_9 cJ aR vR]) hP hD hS hA (va_runV (As := [.int i1]) (rest := []) ⟨hx, hb, hml, hown, hts⟩ (mX0_hasPlate l dC dI cI cJ aA H.size vA i1 y1 hy1) (cwV 1 hts gX3_push_X0_hasPlate rfl rfl rfl (by decide +kernel) ⟨Nat.le_of_ble_eq_true rfl, Nat.le_of_ble_eq_true rfl⟩) ⟨cFB, va_recv hK hP (ci := 0) (q0 := 1) rfl rfl, cPre hK hN hS (va_free (wc := [k0_0 aA vA, k0_1 cI aA vA, k0_2 cI aA vA, k0_3 cI aA vA, k0_4 cI aA vA]) hD hS hA [1, 2, 3, 4, 5] rfl) (hP.sub [1, 2, 3, 4, 5] rfl) (hD.sub [1, 2, 3, 4, 5] rfl rfl)⟩ rfl rfl hl.1 rfl (lv_room (Nat.le_of_ble_eq_true rfl)) dX3_push_5 ⟨Nat.le_of_ble_eq_true rfl, Nat.le_of_ble_eq_true rfl⟩) [1, 2, 3, 4, 5] [0, 6, 7, 8, 9, 10, 11, 12, 13, 14, 15] [0, 11, 12, 13, 14, 15, 1, 2, 3, 4, 5, 6, 7, 8, 9, 10] rfl rfl rfl (by decide +kernel) rfl rfl (fun H locs hP hD hS => ?_)
  refine lv_if_eq (tgt := 18) hx hb dX3_push_8 (by decide) (fun c2 => ?_) (fun c2 => ?_)
  · have hf := oif_t c2 hf
    refine lv_ldc (v := (-1000001)) hx hb hown hc84 dX3_push_18 ?_
    obtain rfl := Option.some.inj hf
    exact W.iret (v := (-1000001)) hx hb hr (fun t ht hW => ⟨⟨(-1000001), (), rfl, rfl, by rw [ht]; exact hP, hD⟩, hS.F ht⟩) hS.2.2 dX3_push_20
  · have hf := oif_f c2 hf
    refine lv_iload_n hx hb dX3_push_11 rfl (lv_at hl 2 rfl) ?_
    obtain ⟨y3, hy3, hf⟩ := obind hf
    refine cg_i (ws := [k3_0 a aA aB aR aT aS vX, k0_0 aA vA, k0_1 cI aA vA, k0_2 cI aA vA, k0_3 cI aA vA, k0_4 cI aA vA, k1_0 aR vR, k1_1 cJ aR vR, k1_2 cI aR vR, k1_3 cI aR vR, k1_4 cI aR vR, k1_5 cJ aR vR, k1_6 cJ aR vR, k1_7 cJ aR vR, k1_8 cJ aR vR, k1_9 cJ aR vR]) (wc := []) (wr := [k3_0 a aA aB aR aT aS vX, k0_0 aA vA, k0_1 cI aA vA, k0_2 cI aA vA, k0_3 cI aA vA, k0_4 cI aA vA, k1_0 aR vR, k1_1 cJ aR vR, k1_2 cI aR vR, k1_3 cI aR vR, k1_4 cI aR vR, k1_5 cJ aR vR, k1_6 cJ aR vR, k1_7 cJ aR vR, k1_8 cJ aR vR, k1_9 cJ aR vR]) (w1 := []) (wo := [k3_0 a aA aB aR aT aS vX, k0_0 aA vA, k0_1 cI aA vA, k0_2 cI aA vA, k0_3 cI aA vA, k0_4 cI aA vA, k1_0 aR vR, k1_1 cJ aR vR, k1_2 cI aR vR, k1_3 cI aR vR, k1_4 cI aR vR, k1_5 cJ aR vR, k1_6 cJ aR vR, k1_7 cJ aR vR, k1_8 cJ aR vR, k1_9 cJ aR vR]) hP hD hS hA (va_runS (As := [.int i2]) (rest := []) ⟨hx, hb, hml, hown, hts⟩ (mX3_isPart l dC dI cI cJ  H.size i2 y3 hy3) (va_cwS 1 hts gX3_push_X3_isPart rfl rfl rfl (by decide +kernel) ⟨Nat.le_of_ble_eq_true rfl, Nat.le_of_ble_eq_true rfl⟩) ⟨cFB, cPre hK hN hS (va_free (wc := []) hD hS hA [] rfl) (hP.sub [] rfl) (hD.sub [] rfl rfl)⟩ rfl rfl hl.1 rfl (lv_room (Nat.le_of_ble_eq_true rfl)) dX3_push_12 ⟨Nat.le_of_ble_eq_true rfl, Nat.le_of_ble_eq_true rfl⟩) [] [0, 1, 2, 3, 4, 5, 6, 7, 8, 9, 10, 11, 12, 13, 14, 15] [0, 1, 2, 3, 4, 5, 6, 7, 8, 9, 10, 11, 12, 13, 14, 15] rfl rfl rfl (by decide +kernel) rfl rfl (fun H locs hP hD hS => ?_)
    refine lv_if_ne (tgt := 21) hx hb dX3_push_15 (by decide) (fun c4 => ?_) (fun c4 => ?_)
    · have hf := oif_f c4 hf
      refine lv_aload_n hx hb dX3_push_21 rfl (lv_at hl 0 rfl) ?_
      obtain ⟨y5, hy5, hf⟩ := obind hf
      refine cg_r (ws := [k3_0 a aA aB aR aT aS vX, k0_0 aA vA, k0_1 cI aA vA, k0_2 cI aA vA, k0_3 cI aA vA, k0_4 cI aA vA, k1_0 aR vR, k1_1 cJ aR vR, k1_2 cI aR vR, k1_3 cI aR vR, k1_4 cI aR vR, k1_5 cJ aR vR, k1_6 cJ aR vR, k1_7 cJ aR vR, k1_8 cJ aR vR, k1_9 cJ aR vR]) (wc := [k3_0 a aA aB aR aT aS vX, k0_0 aA vA, k0_1 cI aA vA, k0_2 cI aA vA, k0_3 cI aA vA, k0_4 cI aA vA, k1_0 aR vR, k1_1 cJ aR vR, k1_2 cI aR vR, k1_3 cI aR vR, k1_4 cI aR vR, k1_5 cJ aR vR, k1_6 cJ aR vR, k1_7 cJ aR vR, k1_8 cJ aR vR, k1_9 cJ aR vR]) (wr := []) (w1 := [k3_0 a aA aB aR aT aS y5.1, k0_0 aA vA, k0_1 cI aA vA, k0_2 cI aA vA, k0_3 cI aA vA, k0_4 cI aA vA, k1_0 aR y5.2, k1_1 cJ aR y5.2, k1_2 cI aR y5.2, k1_3 cI aR y5.2, k1_4 cI aR y5.2, k1_5 cJ aR y5.2, k1_6 cJ aR y5.2, k1_7 cJ aR y5.2, k1_8 cJ aR y5.2, k1_9 cJ aR y5.2]) (wo := [k3_0 a aA aB aR aT aS y5.1, k0_0 aA vA, k0_1 cI aA vA, k0_2 cI aA vA, k0_3 cI aA vA, k0_4 cI aA vA, k1_0 aR y5.2, k1_1 cJ aR y5.2, k1_2 cI aR y5.2, k1_3 cI aR y5.2, k1_4 cI aR y5.2, k1_5 cJ aR y5.2, k1_6 cJ aR y5.2, k1_7 cJ aR y5.2, k1_8 cJ aR y5.2, k1_9 cJ aR y5.2]) hP hD hS hA (va_runV (As := []) (rest := []) ⟨hx, hb, hml, hown, hts⟩ (mX3_settled l dC dI cI cJ a aA aB aR aT aS H.size vX vA vR y5 hy5) (cwV 0 hts gX3_push_X3_settled rfl rfl rfl (by decide +kernel) ⟨Nat.le_of_ble_eq_true rfl, Nat.le_of_ble_eq_true rfl⟩) ⟨cFB, va_recv hK hP (ci := 3) (q0 := 0) rfl rfl, cPre hK hN hS (va_free (wc := [k3_0 a aA aB aR aT aS vX, k0_0 aA vA, k0_1 cI aA vA, k0_2 cI aA vA, k0_3 cI aA vA, k0_4 cI aA vA, k1_0 aR vR, k1_1 cJ aR vR, k1_2 cI aR vR, k1_3 cI aR vR, k1_4 cI aR vR, k1_5 cJ aR vR, k1_6 cJ aR vR, k1_7 cJ aR vR, k1_8 cJ aR vR, k1_9 cJ aR vR]) hD hS hA [0, 1, 2, 3, 4, 5, 6, 7, 8, 9, 10, 11, 12, 13, 14, 15] rfl) (hP.sub [0, 1, 2, 3, 4, 5, 6, 7, 8, 9, 10, 11, 12, 13, 14, 15] rfl) (hD.sub [0, 1, 2, 3, 4, 5, 6, 7, 8, 9, 10, 11, 12, 13, 14, 15] rfl rfl)⟩ rfl rfl hl.1 rfl (lv_room (Nat.le_of_ble_eq_true rfl)) dX3_push_22 ⟨Nat.le_of_ble_eq_true rfl, Nat.le_of_ble_eq_true rfl⟩) [0, 1, 2, 3, 4, 5, 6, 7, 8, 9, 10, 11, 12, 13, 14, 15] [] [0, 1, 2, 3, 4, 5, 6, 7, 8, 9, 10, 11, 12, 13, 14, 15] rfl rfl rfl (by decide +kernel) rfl rfl (fun H locs hP hD hS => ?_)
      refine lv_astore_n (lv' := [(3, .ref (aR 0)), (0, .ref (a 0)), (1, .int i1), (2, .int i2)]) hx hb dX3_push_25 rfl hl (by decide) rfl (fun ls hl => ?_)
      refine lv_aload_n hx hb dX3_push_26 rfl (lv_at hl 0 rfl) ?_
      refine lv_aload_n hx hb dX3_push_27 rfl (lv_at hl 1 rfl) ?_
      refine va_get (D := (dC, dI)) (ci := 3) (v := .ref (aA 0)) (C := RX3) (T := TX3) (N := 8) hx hb hts hiX3 hown hK hP 0 rfl rfl 0 (by decide) hgX3_10 (fun _ h9 => h9) rfl dX3_push_28 ?_
      refine lv_iload_n hx hb dX3_push_31 rfl (lv_at hl 2 rfl) ?_
      refine lv_iload_n hx hb dX3_push_32 rfl (lv_at hl 2 rfl) ?_
      obtain ⟨y6, hy6, hf⟩ := obind hf
      refine cg_l (ws := [k3_0 a aA aB aR aT aS y5.1, k0_0 aA vA, k0_1 cI aA vA, k0_2 cI aA vA, k0_3 cI aA vA, k0_4 cI aA vA, k1_0 aR y5.2, k1_1 cJ aR y5.2, k1_2 cI aR y5.2, k1_3 cI aR y5.2, k1_4 cI aR y5.2, k1_5 cJ aR y5.2, k1_6 cJ aR y5.2, k1_7 cJ aR y5.2, k1_8 cJ aR y5.2, k1_9 cJ aR y5.2]) (wc := [k0_0 aA vA, k0_1 cI aA vA, k0_2 cI aA vA, k0_3 cI aA vA, k0_4 cI aA vA, k1_0 aR y5.2, k1_1 cJ aR y5.2, k1_2 cI aR y5.2, k1_3 cI aR y5.2, k1_4 cI aR y5.2, k1_5 cJ aR y5.2, k1_6 cJ aR y5.2, k1_7 cJ aR y5.2, k1_8 cJ aR y5.2, k1_9 cJ aR y5.2]) (wr := [k3_0 a aA aB aR aT aS y5.1]) (w1 := [k0_0 aA vA, k0_1 cI aA vA, k0_2 cI aA vA, k0_3 cI aA vA, k0_4 cI aA vA, k1_0 aR y5.2, k1_1 cJ aR y5.2, k1_2 cI aR y5.2, k1_3 cI aR y5.2, k1_4 cI aR y5.2, k1_5 cJ aR y5.2, k1_6 cJ aR y5.2, k1_7 cJ aR y5.2, k1_8 cJ aR y5.2, k1_9 cJ aR y5.2]) (wo := [k3_0 a aA aB aR aT aS y5.1, k0_0 aA vA, k0_1 cI aA vA, k0_2 cI aA vA, k0_3 cI aA vA, k0_4 cI aA vA, k1_0 aR y5.2, k1_1 cJ aR y5.2, k1_2 cI aR y5.2, k1_3 cI aR y5.2, k1_4 cI aR y5.2, k1_5 cJ aR y5.2, k1_6 cJ aR y5.2, k1_7 cJ aR y5.2, k1_8 cJ aR y5.2, k1_9 cJ aR y5.2]) hP hD hS hA (va_runV (As := [.ref (aA 0), .int i1, .int i1]) (rest := []) ⟨hx, hb, hml, hown, hts⟩ (mX1_forceOn l dC dI cI cJ aA aR H.size vA y5.2 i1 i1 y6 hy6) (cwV 3 hts gX3_push_X1_forceOn rfl rfl rfl (by decide +kernel) ⟨Nat.le_of_ble_eq_true rfl, Nat.le_of_ble_eq_true rfl⟩) ⟨cFB, va_recv hK hP (ci := 1) (q0 := 6) rfl rfl, cPre hK hN hS (va_free (wc := [k0_0 aA vA, k0_1 cI aA vA, k0_2 cI aA vA, k0_3 cI aA vA, k0_4 cI aA vA, k1_0 aR y5.2, k1_1 cJ aR y5.2, k1_2 cI aR y5.2, k1_3 cI aR y5.2, k1_4 cI aR y5.2, k1_5 cJ aR y5.2, k1_6 cJ aR y5.2, k1_7 cJ aR y5.2, k1_8 cJ aR y5.2, k1_9 cJ aR y5.2]) hD hS hA [1, 2, 3, 4, 5, 6, 7, 8, 9, 10, 11, 12, 13, 14, 15] rfl) (hP.sub [1, 2, 3, 4, 5, 6, 7, 8, 9, 10, 11, 12, 13, 14, 15] rfl) (hD.sub [1, 2, 3, 4, 5, 6, 7, 8, 9, 10, 11, 12, 13, 14, 15] rfl rfl)⟩ rfl rfl hl.1 rfl (lv_room (Nat.le_of_ble_eq_true rfl)) dX3_push_33 ⟨Nat.le_of_ble_eq_true rfl, Nat.le_of_ble_eq_true rfl⟩) [1, 2, 3, 4, 5, 6, 7, 8, 9, 10, 11, 12, 13, 14, 15] [0] [0, 1, 2, 3, 4, 5, 6, 7, 8, 9, 10, 11, 12, 13, 14, 15] rfl rfl rfl (by decide +kernel) rfl rfl (fun H locs hP hD hS => ?_)
      refine lv_lneg hx hb dX3_push_36 ?_
      refine lv_aload_n hx hb dX3_push_37 rfl (lv_at hl 0 rfl) ?_
      refine va_get (D := (dC, dI)) (ci := 1) (v := .long (p1_lower y5.2)) (C := RX1) (T := TX1) (N := 10) hx hb hts hiX1 hown hK hP 6 rfl rfl 1 (by decide) hgX1_126 (fun _ h9 => h9) rfl dX3_push_38 ?_
      refine lv_iload_n hx hb dX3_push_41 rfl (lv_at hl 3 rfl) ?_
      obtain ⟨y7, hy7, hf⟩ := obind hf
      refine cg_i (ws := [k3_0 a aA aB aR aT aS y5.1, k0_0 aA vA, k0_1 cI aA vA, k0_2 cI aA vA, k0_3 cI aA vA, k0_4 cI aA vA, k1_0 aR y5.2, k1_1 cJ aR y5.2, k1_2 cI aR y5.2, k1_3 cI aR y5.2, k1_4 cI aR y5.2, k1_5 cJ aR y5.2, k1_6 cJ aR y5.2, k1_7 cJ aR y5.2, k1_8 cJ aR y5.2, k1_9 cJ aR y5.2]) (wc := []) (wr := [k3_0 a aA aB aR aT aS y5.1, k0_0 aA vA, k0_1 cI aA vA, k0_2 cI aA vA, k0_3 cI aA vA, k0_4 cI aA vA, k1_0 aR y5.2, k1_1 cJ aR y5.2, k1_2 cI aR y5.2, k1_3 cI aR y5.2, k1_4 cI aR y5.2, k1_5 cJ aR y5.2, k1_6 cJ aR y5.2, k1_7 cJ aR y5.2, k1_8 cJ aR y5.2, k1_9 cJ aR y5.2]) (w1 := []) (wo := [k3_0 a aA aB aR aT aS y5.1, k0_0 aA vA, k0_1 cI aA vA, k0_2 cI aA vA, k0_3 cI aA vA, k0_4 cI aA vA, k1_0 aR y5.2, k1_1 cJ aR y5.2, k1_2 cI aR y5.2, k1_3 cI aR y5.2, k1_4 cI aR y5.2, k1_5 cJ aR y5.2, k1_6 cJ aR y5.2, k1_7 cJ aR y5.2, k1_8 cJ aR y5.2, k1_9 cJ aR y5.2]) hP hD hS hA (va_runS (As := [.long (-y6), .long (p1_lower y5.2), .int i2]) (rest := []) ⟨hx, hb, hml, hown, hts⟩ (mX3_forcePart l dC dI cI cJ  H.size (-y6) (p1_lower y5.2) i2 y7 hy7) (va_cwS 3 hts gX3_push_X3_forcePart rfl rfl rfl (by decide +kernel) ⟨Nat.le_of_ble_eq_true rfl, Nat.le_of_ble_eq_true rfl⟩) ⟨cFB, cPre hK hN hS (va_free (wc := []) hD hS hA [] rfl) (hP.sub [] rfl) (hD.sub [] rfl rfl)⟩ rfl rfl hl.1 rfl (lv_room (Nat.le_of_ble_eq_true rfl)) dX3_push_42 ⟨Nat.le_of_ble_eq_true rfl, Nat.le_of_ble_eq_true rfl⟩) [] [0, 1, 2, 3, 4, 5, 6, 7, 8, 9, 10, 11, 12, 13, 14, 15] [0, 1, 2, 3, 4, 5, 6, 7, 8, 9, 10, 11, 12, 13, 14, 15] rfl rfl rfl (by decide +kernel) rfl rfl (fun H locs hP hD hS => ?_)
      obtain rfl := Option.some.inj hf
      exact W.iret (v := y7) hx hb hr (fun t ht hW => ⟨⟨y7, (), rfl, rfl, by rw [ht]; exact hP, hD⟩, hS.F ht⟩) hS.2.2 dX3_push_45
    · have hf := oif_t c4 hf
      refine lv_ldc (v := (-1000001)) hx hb hown hc84 dX3_push_18 ?_
      obtain rfl := Option.some.inj hf
      exact W.iret (v := (-1000001)) hx hb hr (fun t ht hW => ⟨⟨(-1000001), (), rfl, rfl, by rw [ht]; exact hP, hD⟩, hS.F ht⟩) hS.2.2 dX3_push_20
def fX3_isAtStop (vX : BX3) (vA : BX0) (vR : BX1) (i2 : Int32) (i3 : Int32) : Option Int32 :=
  (fX0_stopOf vA i2 i3).bind (fun y1 => if y1 = (-1 : Int32) then (some 0) else ((fX1_isAt vR i2 y1).bind (fun y3 => if y3 = 0 then (some 0) else (some 1))))
set_option maxHeartbeats 8000000 in
set_option maxRecDepth 100000 in
theorem mX3_isAtStop (l : Launch) (dC : Nat → ClassId) (dI : Nat → Nat → Nat) (cI cJ : ClassId) (a : Nat → Nat) (aA : Nat → Nat) (aB : Nat → Nat) (aR : Nat → Nat) (aT : Nat → Nat) (aS : Nat → Nat) (sz : Nat) (vX : BX3) (vA : BX0) (vR : BX1) (i2 : Int32) (i3 : Int32) (y : Int32) (hf : fX3_isAtStop vX vA vR i2 i3 = some y) : Met l yX3_isAtStop wsX3_isAtStop ({ frames := 1, cells := 0, slots := 0, locals := 22 }) (cPc dC dI cI cJ [.ref (a 0), .ref (aR 0), .int i2, .int i3] [k3_0 a aA aB aR aT aS vX, k0_0 aA vA, k0_1 cI aA vA, k0_2 cI aA vA, k0_3 cI aA vA, k0_4 cI aA vA, k1_0 aR vR, k1_1 cJ aR vR, k1_2 cI aR vR, k1_3 cI aR vR, k1_4 cI aR vR, k1_5 cJ aR vR, k1_6 cJ aR vR, k1_7 cJ aR vR, k1_8 cJ aR vR, k1_9 cJ aR vR] sz) (va_Qi (fun r (_ : Unit) => r = y) (fun _ t => cB dC dI (va_A [k3_0 a aA aB aR aT aS vX, k0_0 aA vA, k0_1 cI aA vA, k0_2 cI aA vA, k0_3 cI aA vA, k0_4 cI aA vA, k1_0 aR vR, k1_1 cJ aR vR, k1_2 cI aR vR, k1_3 cI aR vR, k1_4 cI aR vR, k1_5 cJ aR vR, k1_6 cJ aR vR, k1_7 cJ aR vR, k1_8 cJ aR vR, k1_9 cJ aR vR] sz) [k3_0 a aA aB aR aT aS vX, k0_0 aA vA, k0_1 cI aA vA, k0_2 cI aA vA, k0_3 cI aA vA, k0_4 cI aA vA, k1_0 aR vR, k1_1 cJ aR vR, k1_2 cI aR vR, k1_3 cI aR vR, k1_4 cI aR vR, k1_5 cJ aR vR, k1_6 cJ aR vR, k1_7 cJ aR vR, k1_8 cJ aR vR, k1_9 cJ aR vR] t) (va_A [k3_0 a aA aB aR aT aS vX, k0_0 aA vA, k0_1 cI aA vA, k0_2 cI aA vA, k0_3 cI aA vA, k0_4 cI aA vA, k1_0 aR vR, k1_1 cJ aR vR, k1_2 cI aR vR, k1_3 cI aR vR, k1_4 cI aR vR, k1_5 cJ aR vR, k1_6 cJ aR vR, k1_7 cJ aR vR, k1_8 cJ aR vR, k1_9 cJ aR vR] sz)) 0 0 (va_A [k3_0 a aA aB aR aT aS vX, k0_0 aA vA, k0_1 cI aA vA, k0_2 cI aA vA, k0_3 cI aA vA, k0_4 cI aA vA, k1_0 aR vR, k1_1 cJ aR vR, k1_2 cI aR vR, k1_3 cI aR vR, k1_4 cI aR vR, k1_5 cJ aR vR, k1_6 cJ aR vR, k1_7 cJ aR vR, k1_8 cJ aR vR, k1_9 cJ aR vR] sz) := by
  refine Met.ofW (cc := cX3_isAtStop) (maxL := 5) (ret := (some .boolean)) (by decide) rfl ?_
  intro p e s m args below meth c s₁ B hml hv
  obtain ⟨rfl, hsz, hP, hK, hD0, hN⟩ := hv
  have hx := B.exec
  have hb := B.bytes
  have hr := B.returns
  have hts := atoms_spec (ws := wsX3_isAtStop) B.pre
  have hown : s.vm.findClass RX3 = some m.cls := findClass_of_methodNamed B.named
  have hlocks := B.notSynchronized
  subst hsz
  have hD := hD0.self (sz := s.heap.size)
  generalize hAe : va_A [k3_0 a aA aB aR aT aS vX, k0_0 aA vA, k0_1 cI aA vA, k0_2 cI aA vA, k0_3 cI aA vA, k0_4 cI aA vA, k1_0 aR vR, k1_1 cJ aR vR, k1_2 cI aR vR, k1_3 cI aR vR, k1_4 cI aR vR, k1_5 cJ aR vR, k1_6 cJ aR vR, k1_7 cJ aR vR, k1_8 cJ aR vR, k1_9 cJ aR vR] s.heap.size = A at hD hN ⊢
  have hA : ∀ q : Nat, s.heap.size ≤ q → A q := fun q h => by rw [← hAe]; exact Or.inr h
  have hP : va_P (dC, dI) vwCl [k3_0 a aA aB aR aT aS vX, k0_0 aA vA, k0_1 cI aA vA, k0_2 cI aA vA, k0_3 cI aA vA, k0_4 cI aA vA, k1_0 aR vR, k1_1 cJ aR vR, k1_2 cI aR vR, k1_3 cI aR vR, k1_4 cI aR vR, k1_5 cJ aR vR, k1_6 cJ aR vR, k1_7 cJ aR vR, k1_8 cJ aR vR, k1_9 cJ aR vR] s.heap := hP
  have hl := lv_entry ([.ref (a 0), .ref (aR 0), .int i2, .int i3]) (n := 5) (Nat.le_of_ble_eq_true rfl)
  rw [lg_entry_eq]
  generalize (lg_sl ([.ref (a 0), .ref (aR 0), .int i2, .int i3]) ++ List.replicate (5 - (lg_sl ([.ref (a 0), .ref (aR 0), .int i2, .int i3])).length) Slot.unset).toArray = ls at hl ⊢
  have hl : lv_has ls 5 [(0, .ref (a 0)), (1, .ref (aR 0)), (2, .int i2), (3, .int i3)] := hl
  have hiX3 : ∀ w ∈ u_ws RX3 TX3 8, w ∈ wsX3_isAtStop := by decide +kernel
  have hgX3_10 := hts (.fieldLink RX3 10 "SpringPlates" "laid" "LSpringPlates$Layout;") (by decide +kernel)
  refine nameH (fun H locs hHe hLe => ?_)
  have hP : va_P (dC, dI) vwCl [k3_0 a aA aB aR aT aS vX, k0_0 aA vA, k0_1 cI aA vA, k0_2 cI aA vA, k0_3 cI aA vA, k0_4 cI aA vA, k1_0 aR vR, k1_1 cJ aR vR, k1_2 cI aR vR, k1_3 cI aR vR, k1_4 cI aR vR, k1_5 cJ aR vR, k1_6 cJ aR vR, k1_7 cJ aR vR, k1_8 cJ aR vR, k1_9 cJ aR vR] H := by rw [hHe]; exact hP
  have hS : va_S A s.heap H locs := by rw [hHe, hLe]; exact va_S.rf
  unfold fX3_isAtStop at hf
  refine lv_aload_n hx hb dX3_isAtStop_0 rfl (lv_at hl 0 rfl) ?_
  refine va_get (D := (dC, dI)) (ci := 3) (v := .ref (aA 0)) (C := RX3) (T := TX3) (N := 8) hx hb hts hiX3 hown hK hP 0 rfl rfl 0 (by decide) hgX3_10 (fun _ h9 => h9) rfl dX3_isAtStop_1 ?_
  refine lv_iload_n hx hb dX3_isAtStop_4 rfl (lv_at hl 2 rfl) ?_
  refine lv_iload_n hx hb dX3_isAtStop_5 rfl (lv_at hl 3 rfl) ?_
  obtain ⟨y1, hy1, hf⟩ := obind hf
  refine cg_i (ws := [k3_0 a aA aB aR aT aS vX, k0_0 aA vA, k0_1 cI aA vA, k0_2 cI aA vA, k0_3 cI aA vA, k0_4 cI aA vA, k1_0 aR vR, k1_1 cJ aR vR, k1_2 cI aR vR, k1_3 cI aR vR, k1_4 cI aR vR, k1_5 cJ aR vR, k1_6 cJ aR vR, k1_7 cJ aR vR, k1_8 cJ aR vR, k1_9 cJ aR vR]) (wc := [k0_0 aA vA, k0_1 cI aA vA, k0_2 cI aA vA, k0_3 cI aA vA, k0_4 cI aA vA]) (wr := [k3_0 a aA aB aR aT aS vX, k1_0 aR vR, k1_1 cJ aR vR, k1_2 cI aR vR, k1_3 cI aR vR, k1_4 cI aR vR, k1_5 cJ aR vR, k1_6 cJ aR vR, k1_7 cJ aR vR, k1_8 cJ aR vR, k1_9 cJ aR vR]) (w1 := [k0_0 aA vA, k0_1 cI aA vA, k0_2 cI aA vA, k0_3 cI aA vA, k0_4 cI aA vA]) (wo := [k3_0 a aA aB aR aT aS vX, k0_0 aA vA, k0_1 cI aA vA, k0_2 cI aA vA, k0_3 cI aA vA, k0_4 cI aA vA, k1_0 aR vR, k1_1 cJ aR vR, k1_2 cI aR vR, k1_3 cI aR vR, k1_4 cI aR vR, k1_5 cJ aR vR, k1_6 cJ aR vR, k1_7 cJ aR vR, k1_8 cJ aR vR, k1_9 cJ aR vR]) hP hD hS hA (va_runV (As := [.int i2, .int i3]) (rest := []) ⟨hx, hb, hml, hown, hts⟩ (mX0_stopOf l dC dI cI cJ aA H.size vA i2 i3 y1 hy1) (cwV 2 hts gX3_isAtStop_X0_stopOf rfl rfl rfl (by decide +kernel) ⟨Nat.le_of_ble_eq_true rfl, Nat.le_of_ble_eq_true rfl⟩) ⟨cFB, va_recv hK hP (ci := 0) (q0 := 1) rfl rfl, cPre hK hN hS (va_free (wc := [k0_0 aA vA, k0_1 cI aA vA, k0_2 cI aA vA, k0_3 cI aA vA, k0_4 cI aA vA]) hD hS hA [1, 2, 3, 4, 5] rfl) (hP.sub [1, 2, 3, 4, 5] rfl) (hD.sub [1, 2, 3, 4, 5] rfl rfl)⟩ rfl rfl hl.1 rfl (lv_room (Nat.le_of_ble_eq_true rfl)) dX3_isAtStop_6 ⟨Nat.le_of_ble_eq_true rfl, Nat.le_of_ble_eq_true rfl⟩) [1, 2, 3, 4, 5] [0, 6, 7, 8, 9, 10, 11, 12, 13, 14, 15] [0, 11, 12, 13, 14, 15, 1, 2, 3, 4, 5, 6, 7, 8, 9, 10] rfl rfl rfl (by decide +kernel) rfl rfl (fun H locs hP hD hS => ?_)
  refine lv_istore (lv' := [(4, .int y1), (0, .ref (a 0)), (1, .ref (aR 0)), (2, .int i2), (3, .int i3)]) hx hb dX3_isAtStop_9 hl (by decide) rfl (fun ls hl => ?_)
  refine lv_iload hx hb dX3_isAtStop_11 (lv_at hl 0 rfl) ?_
  refine lv_iconst (v := (-1)) hx hb dX3_isAtStop_13 (by decide) ?_
  refine lv_icmp_eq (tgt := 31) hx hb dX3_isAtStop_14 (by decide) (fun c2 => ?_) (fun c2 => ?_)
  · have hf := oif_t c2 hf
    refine lv_iconst (v := 0) hx hb dX3_isAtStop_31 (by decide) ?_
    obtain rfl := Option.some.inj hf
    exact W.zret (v := 0) hx hb hr rfl (fun t ht hW => ⟨⟨0, (), rfl, rfl, by rw [ht]; exact hP, hD⟩, hS.F ht⟩) hS.2.2 dX3_isAtStop_32
  · have hf := oif_f c2 hf
    refine lv_aload_n hx hb dX3_isAtStop_17 rfl (lv_at hl 2 rfl) ?_
    refine lv_iload_n hx hb dX3_isAtStop_18 rfl (lv_at hl 3 rfl) ?_
    refine lv_iload hx hb dX3_isAtStop_19 (lv_at hl 0 rfl) ?_
    obtain ⟨y3, hy3, hf⟩ := obind hf
    refine cg_i (ws := [k3_0 a aA aB aR aT aS vX, k0_0 aA vA, k0_1 cI aA vA, k0_2 cI aA vA, k0_3 cI aA vA, k0_4 cI aA vA, k1_0 aR vR, k1_1 cJ aR vR, k1_2 cI aR vR, k1_3 cI aR vR, k1_4 cI aR vR, k1_5 cJ aR vR, k1_6 cJ aR vR, k1_7 cJ aR vR, k1_8 cJ aR vR, k1_9 cJ aR vR]) (wc := [k1_0 aR vR, k1_1 cJ aR vR, k1_2 cI aR vR, k1_3 cI aR vR, k1_4 cI aR vR, k1_5 cJ aR vR, k1_6 cJ aR vR, k1_7 cJ aR vR, k1_8 cJ aR vR, k1_9 cJ aR vR]) (wr := [k3_0 a aA aB aR aT aS vX, k0_0 aA vA, k0_1 cI aA vA, k0_2 cI aA vA, k0_3 cI aA vA, k0_4 cI aA vA]) (w1 := [k1_0 aR vR, k1_1 cJ aR vR, k1_2 cI aR vR, k1_3 cI aR vR, k1_4 cI aR vR, k1_5 cJ aR vR, k1_6 cJ aR vR, k1_7 cJ aR vR, k1_8 cJ aR vR, k1_9 cJ aR vR]) (wo := [k3_0 a aA aB aR aT aS vX, k0_0 aA vA, k0_1 cI aA vA, k0_2 cI aA vA, k0_3 cI aA vA, k0_4 cI aA vA, k1_0 aR vR, k1_1 cJ aR vR, k1_2 cI aR vR, k1_3 cI aR vR, k1_4 cI aR vR, k1_5 cJ aR vR, k1_6 cJ aR vR, k1_7 cJ aR vR, k1_8 cJ aR vR, k1_9 cJ aR vR]) hP hD hS hA (va_runV (As := [.int i2, .int y1]) (rest := []) ⟨hx, hb, hml, hown, hts⟩ (mX1_isAt l dC dI cI cJ aR H.size vR i2 y1 y3 hy3) (cwV 2 hts gX3_isAtStop_X1_isAt rfl rfl rfl (by decide +kernel) ⟨Nat.le_of_ble_eq_true rfl, Nat.le_of_ble_eq_true rfl⟩) ⟨cFB, va_recv hK hP (ci := 1) (q0 := 6) rfl rfl, cPre hK hN hS (va_free (wc := [k1_0 aR vR, k1_1 cJ aR vR, k1_2 cI aR vR, k1_3 cI aR vR, k1_4 cI aR vR, k1_5 cJ aR vR, k1_6 cJ aR vR, k1_7 cJ aR vR, k1_8 cJ aR vR, k1_9 cJ aR vR]) hD hS hA [6, 7, 8, 9, 10, 11, 12, 13, 14, 15] rfl) (hP.sub [6, 7, 8, 9, 10, 11, 12, 13, 14, 15] rfl) (hD.sub [6, 7, 8, 9, 10, 11, 12, 13, 14, 15] rfl rfl)⟩ rfl rfl hl.1 rfl (lv_room (Nat.le_of_ble_eq_true rfl)) dX3_isAtStop_21 ⟨Nat.le_of_ble_eq_true rfl, Nat.le_of_ble_eq_true rfl⟩) [6, 7, 8, 9, 10, 11, 12, 13, 14, 15] [0, 1, 2, 3, 4, 5] [0, 1, 2, 3, 4, 5, 6, 7, 8, 9, 10, 11, 12, 13, 14, 15] rfl rfl rfl (by decide +kernel) rfl rfl (fun H locs hP hD hS => ?_)
    refine lv_if_eq (tgt := 31) hx hb dX3_isAtStop_24 (by decide) (fun c4 => ?_) (fun c4 => ?_)
    · have hf := oif_t c4 hf
      refine lv_iconst (v := 0) hx hb dX3_isAtStop_31 (by decide) ?_
      obtain rfl := Option.some.inj hf
      exact W.zret (v := 0) hx hb hr rfl (fun t ht hW => ⟨⟨0, (), rfl, rfl, by rw [ht]; exact hP, hD⟩, hS.F ht⟩) hS.2.2 dX3_isAtStop_32
    · have hf := oif_f c4 hf
      refine lv_iconst (v := 1) hx hb dX3_isAtStop_27 (by decide) ?_
      refine lv_goto (tgt := 32) hx hb dX3_isAtStop_28 (by decide) ?_
      obtain rfl := Option.some.inj hf
      exact W.zret (v := 1) hx hb hr rfl (fun t ht hW => ⟨⟨1, (), rfl, rfl, by rw [ht]; exact hP, hD⟩, hS.F ht⟩) hS.2.2 dX3_isAtStop_32
def fX3_isAmong_99 (vX : BX3) (vA : BX0) (vR : BX1) : Option Int32 :=
  some 1
def fX3_isAmong (vX : BX3) (vA : BX0) (vR : BX1) (i2 : Int32) (i3 : Int32) : Option Int32 :=
  if i3 = 0 then ((fX3_isAtStop vX vA vR i2 (0 : Int32)).bind (fun y2 => if zB y2 = true then (some y2) else none)) else (if i3 = 1 then ((fX3_isAtStop vX vA vR i2 (1 : Int32)).bind (fun y5 => if zB y5 = true then (some y5) else none)) else (if i3 = 2 then (if (p0_plates vA) ≤ (i2 + (1 : Int32)) then (some 0) else ((fX1_touchesNext vR i2).bind (fun y9 => if y9 = 0 then (some 0) else (some 1)))) else (if i3 = 3 then ((fX1_isAt vR i2 (0 : Int32)).bind (fun y12 => if y12 = 0 then ((fX1_isAt vR i2 (p0_width vA)).bind (fun y14 => if y14 = 0 then (some 0) else (fX3_isAmong_99 vX vA vR))) else (fX3_isAmong_99 vX vA vR))) else ((fX1_forceOn vA vR i2 i2).bind (fun y16 => if (lg_cmp y16 (0 : Int64)) = 0 then (some 0) else (some 1))))))
set_option maxHeartbeats 8000000 in
set_option maxRecDepth 100000 in
theorem mX3_isAmong (l : Launch) (dC : Nat → ClassId) (dI : Nat → Nat → Nat) (cI cJ : ClassId) (a : Nat → Nat) (aA : Nat → Nat) (aB : Nat → Nat) (aR : Nat → Nat) (aT : Nat → Nat) (aS : Nat → Nat) (sz : Nat) (vX : BX3) (vA : BX0) (vR : BX1) (i2 : Int32) (i3 : Int32) (y : Int32) (hf : fX3_isAmong vX vA vR i2 i3 = some y) : Met l yX3_isAmong wsX3_isAmong ({ frames := 2, cells := 0, slots := 0, locals := 49 }) (cPc dC dI cI cJ [.ref (a 0), .ref (aR 0), .int i2, .int i3] [k3_0 a aA aB aR aT aS vX, k0_0 aA vA, k0_1 cI aA vA, k0_2 cI aA vA, k0_3 cI aA vA, k0_4 cI aA vA, k1_0 aR vR, k1_1 cJ aR vR, k1_2 cI aR vR, k1_3 cI aR vR, k1_4 cI aR vR, k1_5 cJ aR vR, k1_6 cJ aR vR, k1_7 cJ aR vR, k1_8 cJ aR vR, k1_9 cJ aR vR] sz) (va_Qi (fun r (_ : Unit) => r = y) (fun _ t => cB dC dI (va_A [k3_0 a aA aB aR aT aS vX, k0_0 aA vA, k0_1 cI aA vA, k0_2 cI aA vA, k0_3 cI aA vA, k0_4 cI aA vA, k1_0 aR vR, k1_1 cJ aR vR, k1_2 cI aR vR, k1_3 cI aR vR, k1_4 cI aR vR, k1_5 cJ aR vR, k1_6 cJ aR vR, k1_7 cJ aR vR, k1_8 cJ aR vR, k1_9 cJ aR vR] sz) [k3_0 a aA aB aR aT aS vX, k0_0 aA vA, k0_1 cI aA vA, k0_2 cI aA vA, k0_3 cI aA vA, k0_4 cI aA vA, k1_0 aR vR, k1_1 cJ aR vR, k1_2 cI aR vR, k1_3 cI aR vR, k1_4 cI aR vR, k1_5 cJ aR vR, k1_6 cJ aR vR, k1_7 cJ aR vR, k1_8 cJ aR vR, k1_9 cJ aR vR] t) (va_A [k3_0 a aA aB aR aT aS vX, k0_0 aA vA, k0_1 cI aA vA, k0_2 cI aA vA, k0_3 cI aA vA, k0_4 cI aA vA, k1_0 aR vR, k1_1 cJ aR vR, k1_2 cI aR vR, k1_3 cI aR vR, k1_4 cI aR vR, k1_5 cJ aR vR, k1_6 cJ aR vR, k1_7 cJ aR vR, k1_8 cJ aR vR, k1_9 cJ aR vR] sz)) 0 0 (va_A [k3_0 a aA aB aR aT aS vX, k0_0 aA vA, k0_1 cI aA vA, k0_2 cI aA vA, k0_3 cI aA vA, k0_4 cI aA vA, k1_0 aR vR, k1_1 cJ aR vR, k1_2 cI aR vR, k1_3 cI aR vR, k1_4 cI aR vR, k1_5 cJ aR vR, k1_6 cJ aR vR, k1_7 cJ aR vR, k1_8 cJ aR vR, k1_9 cJ aR vR] sz) := by
  refine Met.ofW (cc := cX3_isAmong) (maxL := 4) (ret := (some .boolean)) (by decide) rfl ?_
  intro p e s m args below meth c s₁ B hml hv
  obtain ⟨rfl, hsz, hP, hK, hD0, hN⟩ := hv
  have hx := B.exec
  have hb := B.bytes
  have hr := B.returns
  have hts := atoms_spec (ws := wsX3_isAmong) B.pre
  have hown : s.vm.findClass RX3 = some m.cls := findClass_of_methodNamed B.named
  have hlocks := B.notSynchronized
  subst hsz
  have hD := hD0.self (sz := s.heap.size)
  generalize hAe : va_A [k3_0 a aA aB aR aT aS vX, k0_0 aA vA, k0_1 cI aA vA, k0_2 cI aA vA, k0_3 cI aA vA, k0_4 cI aA vA, k1_0 aR vR, k1_1 cJ aR vR, k1_2 cI aR vR, k1_3 cI aR vR, k1_4 cI aR vR, k1_5 cJ aR vR, k1_6 cJ aR vR, k1_7 cJ aR vR, k1_8 cJ aR vR, k1_9 cJ aR vR] s.heap.size = A at hD hN ⊢
  have hA : ∀ q : Nat, s.heap.size ≤ q → A q := fun q h => by rw [← hAe]; exact Or.inr h
  have hP : va_P (dC, dI) vwCl [k3_0 a aA aB aR aT aS vX, k0_0 aA vA, k0_1 cI aA vA, k0_2 cI aA vA, k0_3 cI aA vA, k0_4 cI aA vA, k1_0 aR vR, k1_1 cJ aR vR, k1_2 cI aR vR, k1_3 cI aR vR, k1_4 cI aR vR, k1_5 cJ aR vR, k1_6 cJ aR vR, k1_7 cJ aR vR, k1_8 cJ aR vR, k1_9 cJ aR vR] s.heap := hP
  have hl := lv_entry ([.ref (a 0), .ref (aR 0), .int i2, .int i3]) (n := 4) (Nat.le_of_ble_eq_true rfl)
  rw [lg_entry_eq]
  generalize (lg_sl ([.ref (a 0), .ref (aR 0), .int i2, .int i3]) ++ List.replicate (4 - (lg_sl ([.ref (a 0), .ref (aR 0), .int i2, .int i3])).length) Slot.unset).toArray = ls at hl ⊢
  have hl : lv_has ls 4 [(0, .ref (a 0)), (1, .ref (aR 0)), (2, .int i2), (3, .int i3)] := hl
  have hiX3 : ∀ w ∈ u_ws RX3 TX3 8, w ∈ wsX3_isAmong := by decide +kernel
  have hgX3_10 := hts (.fieldLink RX3 10 "SpringPlates" "laid" "LSpringPlates$Layout;") (by decide +kernel)
  have hiX0 : ∀ w ∈ u_ws RX0 TX0 6, w ∈ wsX3_isAmong := by decide +kernel
  have hgX0_152 := hts (.fieldLink RX3 152 "SpringPlates$Layout" "plates" "I") (by decide +kernel)
  have hgX0_169 := hts (.fieldLink RX3 169 "SpringPlates$Layout" "width" "I") (by decide +kernel)
  refine nameH (fun H locs hHe hLe => ?_)
  have hP : va_P (dC, dI) vwCl [k3_0 a aA aB aR aT aS vX, k0_0 aA vA, k0_1 cI aA vA, k0_2 cI aA vA, k0_3 cI aA vA, k0_4 cI aA vA, k1_0 aR vR, k1_1 cJ aR vR, k1_2 cI aR vR, k1_3 cI aR vR, k1_4 cI aR vR, k1_5 cJ aR vR, k1_6 cJ aR vR, k1_7 cJ aR vR, k1_8 cJ aR vR, k1_9 cJ aR vR] H := by rw [hHe]; exact hP
  have hS : va_S A s.heap H locs := by rw [hHe, hLe]; exact va_S.rf
  refine withW (fun WW hWW => ?_)
  have J99 : ∀ (H : Heap) (locs : List Loc) (ls : Array Slot), va_P (dC, dI) vwCl [k3_0 a aA aB aR aT aS vX, k0_0 aA vA, k0_1 cI aA vA, k0_2 cI aA vA, k0_3 cI aA vA, k0_4 cI aA vA, k1_0 aR vR, k1_1 cJ aR vR, k1_2 cI aR vR, k1_3 cI aR vR, k1_4 cI aR vR, k1_5 cJ aR vR, k1_6 cJ aR vR, k1_7 cJ aR vR, k1_8 cJ aR vR, k1_9 cJ aR vR] H → va_D A [k3_0 a aA aB aR aT aS vX, k0_0 aA vA, k0_1 cI aA vA, k0_2 cI aA vA, k0_3 cI aA vA, k0_4 cI aA vA, k1_0 aR vR, k1_1 cJ aR vR, k1_2 cI aR vR, k1_3 cI aR vR, k1_4 cI aR vR, k1_5 cJ aR vR, k1_6 cJ aR vR, k1_7 cJ aR vR, k1_8 cJ aR vR, k1_9 cJ aR vR] → va_S A s.heap H locs → lv_has ls 4 [] → fX3_isAmong_99 vX vA vR = some y → WW H locs 0 0 ls 99 [] := by
    intro  H locs ls hP hD hS hl hf
    unfold fX3_isAmong_99 at hf
    refine (hWW _ _ _ _ _ _ _).2 ?_
    refine lv_iconst (v := 1) hx hb dX3_isAmong_99 (by decide) ?_
    refine lv_goto (tgt := 104) hx hb dX3_isAmong_100 (by decide) ?_
    obtain rfl := Option.some.inj hf
    exact W.zret (v := 1) hx hb hr rfl (fun t ht hW => ⟨⟨1, (), rfl, rfl, by rw [ht]; exact hP, hD⟩, hS.F ht⟩) hS.2.2 dX3_isAmong_104
  refine (hWW _ _ _ _ _ _ _).2 ?_
  unfold fX3_isAmong at hf
  refine lv_iload_n hx hb dX3_isAmong_0 rfl (lv_at hl 3 rfl) ?_
  by_cases c1 : i3 = 0
  · have hf := oif_t c1 hf
    refine lv_tableIn (tgt := 32) hx hb dX3_isAmong_1 (by rw [c1]; decide) (by rw [c1]; decide) (by rw [c1]; rfl) (by decide) ?_
    refine lv_aload_n hx hb dX3_isAmong_32 rfl (lv_at hl 0 rfl) ?_
    refine lv_aload_n hx hb dX3_isAmong_33 rfl (lv_at hl 1 rfl) ?_
    refine lv_iload_n hx hb dX3_isAmong_34 rfl (lv_at hl 2 rfl) ?_
    refine lv_iconst (v := 0) hx hb dX3_isAmong_35 (by decide) ?_
    obtain ⟨y2, hy2, hf⟩ := obind hf
    refine cg_i (ws := [k3_0 a aA aB aR aT aS vX, k0_0 aA vA, k0_1 cI aA vA, k0_2 cI aA vA, k0_3 cI aA vA, k0_4 cI aA vA, k1_0 aR vR, k1_1 cJ aR vR, k1_2 cI aR vR, k1_3 cI aR vR, k1_4 cI aR vR, k1_5 cJ aR vR, k1_6 cJ aR vR, k1_7 cJ aR vR, k1_8 cJ aR vR, k1_9 cJ aR vR]) (wc := [k3_0 a aA aB aR aT aS vX, k0_0 aA vA, k0_1 cI aA vA, k0_2 cI aA vA, k0_3 cI aA vA, k0_4 cI aA vA, k1_0 aR vR, k1_1 cJ aR vR, k1_2 cI aR vR, k1_3 cI aR vR, k1_4 cI aR vR, k1_5 cJ aR vR, k1_6 cJ aR vR, k1_7 cJ aR vR, k1_8 cJ aR vR, k1_9 cJ aR vR]) (wr := []) (w1 := [k3_0 a aA aB aR aT aS vX, k0_0 aA vA, k0_1 cI aA vA, k0_2 cI aA vA, k0_3 cI aA vA, k0_4 cI aA vA, k1_0 aR vR, k1_1 cJ aR vR, k1_2 cI aR vR, k1_3 cI aR vR, k1_4 cI aR vR, k1_5 cJ aR vR, k1_6 cJ aR vR, k1_7 cJ aR vR, k1_8 cJ aR vR, k1_9 cJ aR vR]) (wo := [k3_0 a aA aB aR aT aS vX, k0_0 aA vA, k0_1 cI aA vA, k0_2 cI aA vA, k0_3 cI aA vA, k0_4 cI aA vA, k1_0 aR vR, k1_1 cJ aR vR, k1_2 cI aR vR, k1_3 cI aR vR, k1_4 cI aR vR, k1_5 cJ aR vR, k1_6 cJ aR vR, k1_7 cJ aR vR, k1_8 cJ aR vR, k1_9 cJ aR vR]) hP hD hS hA (va_runV (As := [.ref (aR 0), .int i2, .int 0]) (rest := []) ⟨hx, hb, hml, hown, hts⟩ (mX3_isAtStop l dC dI cI cJ a aA aB aR aT aS H.size vX vA vR i2 (0 : Int32) y2 hy2) (cwV 3 hts gX3_isAmong_X3_isAtStop rfl rfl rfl (by decide +kernel) ⟨Nat.le_of_ble_eq_true rfl, Nat.le_of_ble_eq_true rfl⟩) ⟨cFB, va_recv hK hP (ci := 3) (q0 := 0) rfl rfl, cPre hK hN hS (va_free (wc := [k3_0 a aA aB aR aT aS vX, k0_0 aA vA, k0_1 cI aA vA, k0_2 cI aA vA, k0_3 cI aA vA, k0_4 cI aA vA, k1_0 aR vR, k1_1 cJ aR vR, k1_2 cI aR vR, k1_3 cI aR vR, k1_4 cI aR vR, k1_5 cJ aR vR, k1_6 cJ aR vR, k1_7 cJ aR vR, k1_8 cJ aR vR, k1_9 cJ aR vR]) hD hS hA [0, 1, 2, 3, 4, 5, 6, 7, 8, 9, 10, 11, 12, 13, 14, 15] rfl) (hP.sub [0, 1, 2, 3, 4, 5, 6, 7, 8, 9, 10, 11, 12, 13, 14, 15] rfl) (hD.sub [0, 1, 2, 3, 4, 5, 6, 7, 8, 9, 10, 11, 12, 13, 14, 15] rfl rfl)⟩ rfl rfl hl.1 rfl (lv_room (Nat.le_of_ble_eq_true rfl)) dX3_isAmong_36 ⟨Nat.le_of_ble_eq_true rfl, Nat.le_of_ble_eq_true rfl⟩) [0, 1, 2, 3, 4, 5, 6, 7, 8, 9, 10, 11, 12, 13, 14, 15] [] [0, 1, 2, 3, 4, 5, 6, 7, 8, 9, 10, 11, 12, 13, 14, 15] rfl rfl rfl (by decide +kernel) rfl rfl (fun H locs hP hD hS => ?_)
    obtain ⟨hz3, hf⟩ := ozb hf
    obtain rfl := Option.some.inj hf
    exact W.zret (v := y2) hx hb hr hz3 (fun t ht hW => ⟨⟨y2, (), rfl, rfl, by rw [ht]; exact hP, hD⟩, hS.F ht⟩) hS.2.2 dX3_isAmong_39
  · have hf := oif_f c1 hf
    by_cases c4 : i3 = 1
    · have hf := oif_t c4 hf
      refine lv_tableIn (tgt := 40) hx hb dX3_isAmong_1 (by rw [c4]; decide) (by rw [c4]; decide) (by rw [c4]; rfl) (by decide) ?_
      refine lv_aload_n hx hb dX3_isAmong_40 rfl (lv_at hl 0 rfl) ?_
      refine lv_aload_n hx hb dX3_isAmong_41 rfl (lv_at hl 1 rfl) ?_
      refine lv_iload_n hx hb dX3_isAmong_42 rfl (lv_at hl 2 rfl) ?_
      refine lv_iconst (v := 1) hx hb dX3_isAmong_43 (by decide) ?_
      obtain ⟨y5, hy5, hf⟩ := obind hf
      refine cg_i (ws := [k3_0 a aA aB aR aT aS vX, k0_0 aA vA, k0_1 cI aA vA, k0_2 cI aA vA, k0_3 cI aA vA, k0_4 cI aA vA, k1_0 aR vR, k1_1 cJ aR vR, k1_2 cI aR vR, k1_3 cI aR vR, k1_4 cI aR vR, k1_5 cJ aR vR, k1_6 cJ aR vR, k1_7 cJ aR vR, k1_8 cJ aR vR, k1_9 cJ aR vR]) (wc := [k3_0 a aA aB aR aT aS vX, k0_0 aA vA, k0_1 cI aA vA, k0_2 cI aA vA, k0_3 cI aA vA, k0_4 cI aA vA, k1_0 aR vR, k1_1 cJ aR vR, k1_2 cI aR vR, k1_3 cI aR vR, k1_4 cI aR vR, k1_5 cJ aR vR, k1_6 cJ aR vR, k1_7 cJ aR vR, k1_8 cJ aR vR, k1_9 cJ aR vR]) (wr := []) (w1 := [k3_0 a aA aB aR aT aS vX, k0_0 aA vA, k0_1 cI aA vA, k0_2 cI aA vA, k0_3 cI aA vA, k0_4 cI aA vA, k1_0 aR vR, k1_1 cJ aR vR, k1_2 cI aR vR, k1_3 cI aR vR, k1_4 cI aR vR, k1_5 cJ aR vR, k1_6 cJ aR vR, k1_7 cJ aR vR, k1_8 cJ aR vR, k1_9 cJ aR vR]) (wo := [k3_0 a aA aB aR aT aS vX, k0_0 aA vA, k0_1 cI aA vA, k0_2 cI aA vA, k0_3 cI aA vA, k0_4 cI aA vA, k1_0 aR vR, k1_1 cJ aR vR, k1_2 cI aR vR, k1_3 cI aR vR, k1_4 cI aR vR, k1_5 cJ aR vR, k1_6 cJ aR vR, k1_7 cJ aR vR, k1_8 cJ aR vR, k1_9 cJ aR vR]) hP hD hS hA (va_runV (As := [.ref (aR 0), .int i2, .int 1]) (rest := []) ⟨hx, hb, hml, hown, hts⟩ (mX3_isAtStop l dC dI cI cJ a aA aB aR aT aS H.size vX vA vR i2 (1 : Int32) y5 hy5) (cwV 3 hts gX3_isAmong_X3_isAtStop rfl rfl rfl (by decide +kernel) ⟨Nat.le_of_ble_eq_true rfl, Nat.le_of_ble_eq_true rfl⟩) ⟨cFB, va_recv hK hP (ci := 3) (q0 := 0) rfl rfl, cPre hK hN hS (va_free (wc := [k3_0 a aA aB aR aT aS vX, k0_0 aA vA, k0_1 cI aA vA, k0_2 cI aA vA, k0_3 cI aA vA, k0_4 cI aA vA, k1_0 aR vR, k1_1 cJ aR vR, k1_2 cI aR vR, k1_3 cI aR vR, k1_4 cI aR vR, k1_5 cJ aR vR, k1_6 cJ aR vR, k1_7 cJ aR vR, k1_8 cJ aR vR, k1_9 cJ aR vR]) hD hS hA [0, 1, 2, 3, 4, 5, 6, 7, 8, 9, 10, 11, 12, 13, 14, 15] rfl) (hP.sub [0, 1, 2, 3, 4, 5, 6, 7, 8, 9, 10, 11, 12, 13, 14, 15] rfl) (hD.sub [0, 1, 2, 3, 4, 5, 6, 7, 8, 9, 10, 11, 12, 13, 14, 15] rfl rfl)⟩ rfl rfl hl.1 rfl (lv_room (Nat.le_of_ble_eq_true rfl)) dX3_isAmong_44 ⟨Nat.le_of_ble_eq_true rfl, Nat.le_of_ble_eq_true rfl⟩) [0, 1, 2, 3, 4, 5, 6, 7, 8, 9, 10, 11, 12, 13, 14, 15] [] [0, 1, 2, 3, 4, 5, 6, 7, 8, 9, 10, 11, 12, 13, 14, 15] rfl rfl rfl (by decide +kernel) rfl rfl (fun H locs hP hD hS => ?_)
      obtain ⟨hz6, hf⟩ := ozb hf
      obtain rfl := Option.some.inj hf
      exact W.zret (v := y5) hx hb hr hz6 (fun t ht hW => ⟨⟨y5, (), rfl, rfl, by rw [ht]; exact hP, hD⟩, hS.F ht⟩) hS.2.2 dX3_isAmong_47
    · have hf := oif_f c4 hf
      by_cases c7 : i3 = 2
      · have hf := oif_t c7 hf
        refine lv_tableIn (tgt := 48) hx hb dX3_isAmong_1 (by rw [c7]; decide) (by rw [c7]; decide) (by rw [c7]; rfl) (by decide) ?_
        refine lv_iload_n hx hb dX3_isAmong_48 rfl (lv_at hl 2 rfl) ?_
        refine lv_iconst (v := 1) hx hb dX3_isAmong_49 (by decide) ?_
        refine lv_iadd hx hb dX3_isAmong_50 ?_
        refine lv_aload_n hx hb dX3_isAmong_51 rfl (lv_at hl 0 rfl) ?_
        refine va_get (D := (dC, dI)) (ci := 3) (v := .ref (aA 0)) (C := RX3) (T := TX3) (N := 8) hx hb hts hiX3 hown hK hP 0 rfl rfl 0 (by decide) hgX3_10 (fun _ h9 => h9) rfl dX3_isAmong_52 ?_
        refine va_get (D := (dC, dI)) (ci := 0) (v := .int (p0_plates vA)) (C := RX0) (T := TX0) (N := 6) hx hb hts hiX0 hown hK hP 1 rfl rfl 1 (by decide) hgX0_152 (fun _ h9 => h9) rfl dX3_isAmong_55 ?_
        refine lv_icmp_ge (tgt := 73) hx hb dX3_isAmong_58 (by decide) (fun c8 => ?_) (fun c8 => ?_)
        · have hf := oif_t c8 hf
          refine lv_iconst (v := 0) hx hb dX3_isAmong_73 (by decide) ?_
          obtain rfl := Option.some.inj hf
          exact W.zret (v := 0) hx hb hr rfl (fun t ht hW => ⟨⟨0, (), rfl, rfl, by rw [ht]; exact hP, hD⟩, hS.F ht⟩) hS.2.2 dX3_isAmong_74
        · have hf := oif_f c8 hf
          refine lv_aload_n hx hb dX3_isAmong_61 rfl (lv_at hl 1 rfl) ?_
          refine lv_iload_n hx hb dX3_isAmong_62 rfl (lv_at hl 2 rfl) ?_
          obtain ⟨y9, hy9, hf⟩ := obind hf
          refine cg_i (ws := [k3_0 a aA aB aR aT aS vX, k0_0 aA vA, k0_1 cI aA vA, k0_2 cI aA vA, k0_3 cI aA vA, k0_4 cI aA vA, k1_0 aR vR, k1_1 cJ aR vR, k1_2 cI aR vR, k1_3 cI aR vR, k1_4 cI aR vR, k1_5 cJ aR vR, k1_6 cJ aR vR, k1_7 cJ aR vR, k1_8 cJ aR vR, k1_9 cJ aR vR]) (wc := [k1_0 aR vR, k1_1 cJ aR vR, k1_2 cI aR vR, k1_3 cI aR vR, k1_4 cI aR vR, k1_5 cJ aR vR, k1_6 cJ aR vR, k1_7 cJ aR vR, k1_8 cJ aR vR, k1_9 cJ aR vR]) (wr := [k3_0 a aA aB aR aT aS vX, k0_0 aA vA, k0_1 cI aA vA, k0_2 cI aA vA, k0_3 cI aA vA, k0_4 cI aA vA]) (w1 := [k1_0 aR vR, k1_1 cJ aR vR, k1_2 cI aR vR, k1_3 cI aR vR, k1_4 cI aR vR, k1_5 cJ aR vR, k1_6 cJ aR vR, k1_7 cJ aR vR, k1_8 cJ aR vR, k1_9 cJ aR vR]) (wo := [k3_0 a aA aB aR aT aS vX, k0_0 aA vA, k0_1 cI aA vA, k0_2 cI aA vA, k0_3 cI aA vA, k0_4 cI aA vA, k1_0 aR vR, k1_1 cJ aR vR, k1_2 cI aR vR, k1_3 cI aR vR, k1_4 cI aR vR, k1_5 cJ aR vR, k1_6 cJ aR vR, k1_7 cJ aR vR, k1_8 cJ aR vR, k1_9 cJ aR vR]) hP hD hS hA (va_runV (As := [.int i2]) (rest := []) ⟨hx, hb, hml, hown, hts⟩ (mX1_touchesNext l dC dI cI cJ aR H.size vR i2 y9 hy9) (cwV 1 hts gX3_isAmong_X1_touchesNext rfl rfl rfl (by decide +kernel) ⟨Nat.le_of_ble_eq_true rfl, Nat.le_of_ble_eq_true rfl⟩) ⟨cFB, va_recv hK hP (ci := 1) (q0 := 6) rfl rfl, cPre hK hN hS (va_free (wc := [k1_0 aR vR, k1_1 cJ aR vR, k1_2 cI aR vR, k1_3 cI aR vR, k1_4 cI aR vR, k1_5 cJ aR vR, k1_6 cJ aR vR, k1_7 cJ aR vR, k1_8 cJ aR vR, k1_9 cJ aR vR]) hD hS hA [6, 7, 8, 9, 10, 11, 12, 13, 14, 15] rfl) (hP.sub [6, 7, 8, 9, 10, 11, 12, 13, 14, 15] rfl) (hD.sub [6, 7, 8, 9, 10, 11, 12, 13, 14, 15] rfl rfl)⟩ rfl rfl hl.1 rfl (lv_room (Nat.le_of_ble_eq_true rfl)) dX3_isAmong_63 ⟨Nat.le_of_ble_eq_true rfl, Nat.le_of_ble_eq_true rfl⟩) [6, 7, 8, 9, 10, 11, 12, 13, 14, 15] [0, 1, 2, 3, 4, 5] [0, 1, 2, 3, 4, 5, 6, 7, 8, 9, 10, 11, 12, 13, 14, 15] rfl rfl rfl (by decide +kernel) rfl rfl (fun H locs hP hD hS => ?_)
          refine lv_if_eq (tgt := 73) hx hb dX3_isAmong_66 (by decide) (fun c10 => ?_) (fun c10 => ?_)
          · have hf := oif_t c10 hf
            refine lv_iconst (v := 0) hx hb dX3_isAmong_73 (by decide) ?_
            obtain rfl := Option.some.inj hf
            exact W.zret (v := 0) hx hb hr rfl (fun t ht hW => ⟨⟨0, (), rfl, rfl, by rw [ht]; exact hP, hD⟩, hS.F ht⟩) hS.2.2 dX3_isAmong_74
          · have hf := oif_f c10 hf
            refine lv_iconst (v := 1) hx hb dX3_isAmong_69 (by decide) ?_
            refine lv_goto (tgt := 74) hx hb dX3_isAmong_70 (by decide) ?_
            obtain rfl := Option.some.inj hf
            exact W.zret (v := 1) hx hb hr rfl (fun t ht hW => ⟨⟨1, (), rfl, rfl, by rw [ht]; exact hP, hD⟩, hS.F ht⟩) hS.2.2 dX3_isAmong_74
      · have hf := oif_f c7 hf
        by_cases c11 : i3 = 3
        · have hf := oif_t c11 hf
          refine lv_tableIn (tgt := 75) hx hb dX3_isAmong_1 (by rw [c11]; decide) (by rw [c11]; decide) (by rw [c11]; rfl) (by decide) ?_
          refine lv_aload_n hx hb dX3_isAmong_75 rfl (lv_at hl 1 rfl) ?_
          refine lv_iload_n hx hb dX3_isAmong_76 rfl (lv_at hl 2 rfl) ?_
          refine lv_iconst (v := 0) hx hb dX3_isAmong_77 (by decide) ?_
          obtain ⟨y12, hy12, hf⟩ := obind hf
          refine cg_i (ws := [k3_0 a aA aB aR aT aS vX, k0_0 aA vA, k0_1 cI aA vA, k0_2 cI aA vA, k0_3 cI aA vA, k0_4 cI aA vA, k1_0 aR vR, k1_1 cJ aR vR, k1_2 cI aR vR, k1_3 cI aR vR, k1_4 cI aR vR, k1_5 cJ aR vR, k1_6 cJ aR vR, k1_7 cJ aR vR, k1_8 cJ aR vR, k1_9 cJ aR vR]) (wc := [k1_0 aR vR, k1_1 cJ aR vR, k1_2 cI aR vR, k1_3 cI aR vR, k1_4 cI aR vR, k1_5 cJ aR vR, k1_6 cJ aR vR, k1_7 cJ aR vR, k1_8 cJ aR vR, k1_9 cJ aR vR]) (wr := [k3_0 a aA aB aR aT aS vX, k0_0 aA vA, k0_1 cI aA vA, k0_2 cI aA vA, k0_3 cI aA vA, k0_4 cI aA vA]) (w1 := [k1_0 aR vR, k1_1 cJ aR vR, k1_2 cI aR vR, k1_3 cI aR vR, k1_4 cI aR vR, k1_5 cJ aR vR, k1_6 cJ aR vR, k1_7 cJ aR vR, k1_8 cJ aR vR, k1_9 cJ aR vR]) (wo := [k3_0 a aA aB aR aT aS vX, k0_0 aA vA, k0_1 cI aA vA, k0_2 cI aA vA, k0_3 cI aA vA, k0_4 cI aA vA, k1_0 aR vR, k1_1 cJ aR vR, k1_2 cI aR vR, k1_3 cI aR vR, k1_4 cI aR vR, k1_5 cJ aR vR, k1_6 cJ aR vR, k1_7 cJ aR vR, k1_8 cJ aR vR, k1_9 cJ aR vR]) hP hD hS hA (va_runV (As := [.int i2, .int 0]) (rest := []) ⟨hx, hb, hml, hown, hts⟩ (mX1_isAt l dC dI cI cJ aR H.size vR i2 (0 : Int32) y12 hy12) (cwV 2 hts gX3_isAmong_X1_isAt rfl rfl rfl (by decide +kernel) ⟨Nat.le_of_ble_eq_true rfl, Nat.le_of_ble_eq_true rfl⟩) ⟨cFB, va_recv hK hP (ci := 1) (q0 := 6) rfl rfl, cPre hK hN hS (va_free (wc := [k1_0 aR vR, k1_1 cJ aR vR, k1_2 cI aR vR, k1_3 cI aR vR, k1_4 cI aR vR, k1_5 cJ aR vR, k1_6 cJ aR vR, k1_7 cJ aR vR, k1_8 cJ aR vR, k1_9 cJ aR vR]) hD hS hA [6, 7, 8, 9, 10, 11, 12, 13, 14, 15] rfl) (hP.sub [6, 7, 8, 9, 10, 11, 12, 13, 14, 15] rfl) (hD.sub [6, 7, 8, 9, 10, 11, 12, 13, 14, 15] rfl rfl)⟩ rfl rfl hl.1 rfl (lv_room (Nat.le_of_ble_eq_true rfl)) dX3_isAmong_78 ⟨Nat.le_of_ble_eq_true rfl, Nat.le_of_ble_eq_true rfl⟩) [6, 7, 8, 9, 10, 11, 12, 13, 14, 15] [0, 1, 2, 3, 4, 5] [0, 1, 2, 3, 4, 5, 6, 7, 8, 9, 10, 11, 12, 13, 14, 15] rfl rfl rfl (by decide +kernel) rfl rfl (fun H locs hP hD hS => ?_)
          refine lv_if_ne (tgt := 99) hx hb dX3_isAmong_81 (by decide) (fun c13 => ?_) (fun c13 => ?_)
          · have hf := oif_f c13 hf
            exact (hWW _ _ _ _ _ _ _).1 (J99  H locs ls hP hD hS (lv_sub hl [] rfl) hf)
          · have hf := oif_t c13 hf
            refine lv_aload_n hx hb dX3_isAmong_84 rfl (lv_at hl 1 rfl) ?_
            refine lv_iload_n hx hb dX3_isAmong_85 rfl (lv_at hl 2 rfl) ?_
            refine lv_aload_n hx hb dX3_isAmong_86 rfl (lv_at hl 0 rfl) ?_
            refine va_get (D := (dC, dI)) (ci := 3) (v := .ref (aA 0)) (C := RX3) (T := TX3) (N := 8) hx hb hts hiX3 hown hK hP 0 rfl rfl 0 (by decide) hgX3_10 (fun _ h9 => h9) rfl dX3_isAmong_87 ?_
            refine va_get (D := (dC, dI)) (ci := 0) (v := .int (p0_width vA)) (C := RX0) (T := TX0) (N := 6) hx hb hts hiX0 hown hK hP 1 rfl rfl 0 (by decide) hgX0_169 (fun _ h9 => h9) rfl dX3_isAmong_90 ?_
            obtain ⟨y14, hy14, hf⟩ := obind hf
            refine cg_i (ws := [k3_0 a aA aB aR aT aS vX, k0_0 aA vA, k0_1 cI aA vA, k0_2 cI aA vA, k0_3 cI aA vA, k0_4 cI aA vA, k1_0 aR vR, k1_1 cJ aR vR, k1_2 cI aR vR, k1_3 cI aR vR, k1_4 cI aR vR, k1_5 cJ aR vR, k1_6 cJ aR vR, k1_7 cJ aR vR, k1_8 cJ aR vR, k1_9 cJ aR vR]) (wc := [k1_0 aR vR, k1_1 cJ aR vR, k1_2 cI aR vR, k1_3 cI aR vR, k1_4 cI aR vR, k1_5 cJ aR vR, k1_6 cJ aR vR, k1_7 cJ aR vR, k1_8 cJ aR vR, k1_9 cJ aR vR]) (wr := [k3_0 a aA aB aR aT aS vX, k0_0 aA vA, k0_1 cI aA vA, k0_2 cI aA vA, k0_3 cI aA vA, k0_4 cI aA vA]) (w1 := [k1_0 aR vR, k1_1 cJ aR vR, k1_2 cI aR vR, k1_3 cI aR vR, k1_4 cI aR vR, k1_5 cJ aR vR, k1_6 cJ aR vR, k1_7 cJ aR vR, k1_8 cJ aR vR, k1_9 cJ aR vR]) (wo := [k3_0 a aA aB aR aT aS vX, k0_0 aA vA, k0_1 cI aA vA, k0_2 cI aA vA, k0_3 cI aA vA, k0_4 cI aA vA, k1_0 aR vR, k1_1 cJ aR vR, k1_2 cI aR vR, k1_3 cI aR vR, k1_4 cI aR vR, k1_5 cJ aR vR, k1_6 cJ aR vR, k1_7 cJ aR vR, k1_8 cJ aR vR, k1_9 cJ aR vR]) hP hD hS hA (va_runV (As := [.int i2, .int (p0_width vA)]) (rest := []) ⟨hx, hb, hml, hown, hts⟩ (mX1_isAt l dC dI cI cJ aR H.size vR i2 (p0_width vA) y14 hy14) (cwV 2 hts gX3_isAmong_X1_isAt rfl rfl rfl (by decide +kernel) ⟨Nat.le_of_ble_eq_true rfl, Nat.le_of_ble_eq_true rfl⟩) ⟨cFB, va_recv hK hP (ci := 1) (q0 := 6) rfl rfl, cPre hK hN hS (va_free (wc := [k1_0 aR vR, k1_1 cJ aR vR, k1_2 cI aR vR, k1_3 cI aR vR, k1_4 cI aR vR, k1_5 cJ aR vR, k1_6 cJ aR vR, k1_7 cJ aR vR, k1_8 cJ aR vR, k1_9 cJ aR vR]) hD hS hA [6, 7, 8, 9, 10, 11, 12, 13, 14, 15] rfl) (hP.sub [6, 7, 8, 9, 10, 11, 12, 13, 14, 15] rfl) (hD.sub [6, 7, 8, 9, 10, 11, 12, 13, 14, 15] rfl rfl)⟩ rfl rfl hl.1 rfl (lv_room (Nat.le_of_ble_eq_true rfl)) dX3_isAmong_93 ⟨Nat.le_of_ble_eq_true rfl, Nat.le_of_ble_eq_true rfl⟩) [6, 7, 8, 9, 10, 11, 12, 13, 14, 15] [0, 1, 2, 3, 4, 5] [0, 1, 2, 3, 4, 5, 6, 7, 8, 9, 10, 11, 12, 13, 14, 15] rfl rfl rfl (by decide +kernel) rfl rfl (fun H locs hP hD hS => ?_)
            refine lv_if_eq (tgt := 103) hx hb dX3_isAmong_96 (by decide) (fun c15 => ?_) (fun c15 => ?_)
            · have hf := oif_t c15 hf
              refine lv_iconst (v := 0) hx hb dX3_isAmong_103 (by decide) ?_
              obtain rfl := Option.some.inj hf
              exact W.zret (v := 0) hx hb hr rfl (fun t ht hW => ⟨⟨0, (), rfl, rfl, by rw [ht]; exact hP, hD⟩, hS.F ht⟩) hS.2.2 dX3_isAmong_104
            · have hf := oif_f c15 hf
              exact (hWW _ _ _ _ _ _ _).1 (J99  H locs ls hP hD hS (lv_sub hl [] rfl) hf)
        · have hf := oif_f c11 hf
          refine lv_tableOut (tgt := 105) hx hb dX3_isAmong_1 (by have t0 := toInt_ne (n := 0) rfl c1; have t1 := toInt_ne (n := 1) rfl c4; have t2 := toInt_ne (n := 2) rfl c7; have t3 := toInt_ne (n := 3) rfl c11; omega) (by decide) ?_
          refine lv_aload_n hx hb dX3_isAmong_105 rfl (lv_at hl 1 rfl) ?_
          refine lv_aload_n hx hb dX3_isAmong_106 rfl (lv_at hl 0 rfl) ?_
          refine va_get (D := (dC, dI)) (ci := 3) (v := .ref (aA 0)) (C := RX3) (T := TX3) (N := 8) hx hb hts hiX3 hown hK hP 0 rfl rfl 0 (by decide) hgX3_10 (fun _ h9 => h9) rfl dX3_isAmong_107 ?_
          refine lv_iload_n hx hb dX3_isAmong_110 rfl (lv_at hl 2 rfl) ?_
          refine lv_iload_n hx hb dX3_isAmong_111 rfl (lv_at hl 2 rfl) ?_
          obtain ⟨y16, hy16, hf⟩ := obind hf
          refine cg_l (ws := [k3_0 a aA aB aR aT aS vX, k0_0 aA vA, k0_1 cI aA vA, k0_2 cI aA vA, k0_3 cI aA vA, k0_4 cI aA vA, k1_0 aR vR, k1_1 cJ aR vR, k1_2 cI aR vR, k1_3 cI aR vR, k1_4 cI aR vR, k1_5 cJ aR vR, k1_6 cJ aR vR, k1_7 cJ aR vR, k1_8 cJ aR vR, k1_9 cJ aR vR]) (wc := [k0_0 aA vA, k0_1 cI aA vA, k0_2 cI aA vA, k0_3 cI aA vA, k0_4 cI aA vA, k1_0 aR vR, k1_1 cJ aR vR, k1_2 cI aR vR, k1_3 cI aR vR, k1_4 cI aR vR, k1_5 cJ aR vR, k1_6 cJ aR vR, k1_7 cJ aR vR, k1_8 cJ aR vR, k1_9 cJ aR vR]) (wr := [k3_0 a aA aB aR aT aS vX]) (w1 := [k0_0 aA vA, k0_1 cI aA vA, k0_2 cI aA vA, k0_3 cI aA vA, k0_4 cI aA vA, k1_0 aR vR, k1_1 cJ aR vR, k1_2 cI aR vR, k1_3 cI aR vR, k1_4 cI aR vR, k1_5 cJ aR vR, k1_6 cJ aR vR, k1_7 cJ aR vR, k1_8 cJ aR vR, k1_9 cJ aR vR]) (wo := [k3_0 a aA aB aR aT aS vX, k0_0 aA vA, k0_1 cI aA vA, k0_2 cI aA vA, k0_3 cI aA vA, k0_4 cI aA vA, k1_0 aR vR, k1_1 cJ aR vR, k1_2 cI aR vR, k1_3 cI aR vR, k1_4 cI aR vR, k1_5 cJ aR vR, k1_6 cJ aR vR, k1_7 cJ aR vR, k1_8 cJ aR vR, k1_9 cJ aR vR]) hP hD hS hA (va_runV (As := [.ref (aA 0), .int i2, .int i2]) (rest := []) ⟨hx, hb, hml, hown, hts⟩ (mX1_forceOn l dC dI cI cJ aA aR H.size vA vR i2 i2 y16 hy16) (cwV 3 hts gX3_isAmong_X1_forceOn rfl rfl rfl (by decide +kernel) ⟨Nat.le_of_ble_eq_true rfl, Nat.le_of_ble_eq_true rfl⟩) ⟨cFB, va_recv hK hP (ci := 1) (q0 := 6) rfl rfl, cPre hK hN hS (va_free (wc := [k0_0 aA vA, k0_1 cI aA vA, k0_2 cI aA vA, k0_3 cI aA vA, k0_4 cI aA vA, k1_0 aR vR, k1_1 cJ aR vR, k1_2 cI aR vR, k1_3 cI aR vR, k1_4 cI aR vR, k1_5 cJ aR vR, k1_6 cJ aR vR, k1_7 cJ aR vR, k1_8 cJ aR vR, k1_9 cJ aR vR]) hD hS hA [1, 2, 3, 4, 5, 6, 7, 8, 9, 10, 11, 12, 13, 14, 15] rfl) (hP.sub [1, 2, 3, 4, 5, 6, 7, 8, 9, 10, 11, 12, 13, 14, 15] rfl) (hD.sub [1, 2, 3, 4, 5, 6, 7, 8, 9, 10, 11, 12, 13, 14, 15] rfl rfl)⟩ rfl rfl hl.1 rfl (lv_room (Nat.le_of_ble_eq_true rfl)) dX3_isAmong_112 ⟨Nat.le_of_ble_eq_true rfl, Nat.le_of_ble_eq_true rfl⟩) [1, 2, 3, 4, 5, 6, 7, 8, 9, 10, 11, 12, 13, 14, 15] [0] [0, 1, 2, 3, 4, 5, 6, 7, 8, 9, 10, 11, 12, 13, 14, 15] rfl rfl rfl (by decide +kernel) rfl rfl (fun H locs hP hD hS => ?_)
          refine lv_lconst (v := 0) hx hb dX3_isAmong_115 (by decide) ?_
          refine W.lcmp hx hb dX3_isAmong_116 ?_
          refine lv_if_eq (tgt := 124) hx hb dX3_isAmong_117 (by decide) (fun c17 => ?_) (fun c17 => ?_)
          · have hf := oif_t c17 hf
            refine lv_iconst (v := 0) hx hb dX3_isAmong_124 (by decide) ?_
            obtain rfl := Option.some.inj hf
            exact W.zret (v := 0) hx hb hr rfl (fun t ht hW => ⟨⟨0, (), rfl, rfl, by rw [ht]; exact hP, hD⟩, hS.F ht⟩) hS.2.2 dX3_isAmong_125
          · have hf := oif_f c17 hf
            refine lv_iconst (v := 1) hx hb dX3_isAmong_120 (by decide) ?_
            refine lv_goto (tgt := 125) hx hb dX3_isAmong_121 (by decide) ?_
            obtain rfl := Option.some.inj hf
            exact W.zret (v := 1) hx hb hr rfl (fun t ht hW => ⟨⟨1, (), rfl, rfl, by rw [ht]; exact hP, hD⟩, hS.F ht⟩) hS.2.2 dX3_isAmong_125
def fX3_plates_52 (k22 : BX3 → BX0 → BX1 → Int32 → Int32 → Int32 → Option (Int32 × BX3 × BX1)) (vX : BX3) (vA : BX0) (vR : BX1) (x1 : Int32) (x3 : Int32) (x4 : Int32) : Option (Int32 × BX3 × BX1) :=
  elet (x4 + 1) (fun z5 => k22 vX vA vR x1 x3 z5)
def fX3_plates_22_b (k22 : BX3 → BX0 → BX1 → Int32 → Int32 → Int32 → Option (Int32 × BX3 × BX1)) (vX : BX3) (vA : BX0) (vR : BX1) (x1 : Int32) (x3 : Int32) (x4 : Int32) : Option (Int32 × BX3 × BX1) :=
  if (p0_plates vA) ≤ x4 then (some (x3, vX, vR)) else ((fX3_isAmong vX vA vR x4 x1).bind (fun y2 => if y2 = 0 then (fX3_plates_52 k22 vX vA vR x1 x3 x4) else (elet (x3 ||| ((1 : Int32) <<< (x4 &&& 31))) (fun z4 => fX3_plates_52 k22 vX vA vR x1 z4 x4))))
def fX3_plates_22 : Nat → BX3 → BX0 → BX1 → Int32 → Int32 → Int32 → Option (Int32 × BX3 × BX1)
  | 0 => fun _ _ _ _ _ _ => none
  | n + 1 => fX3_plates_22_b (fX3_plates_22 n)
def fX3_plates (vX : BX3) (vA : BX0) (vR : BX1) (i1 : Int32) : Option (Int32 × BX3 × BX1) :=
  if i1 < 0 then (some ((-1000001), vX, vR)) else (if i1 ≤ (4 : Int32) then ((fX3_settled vX vA vR).bind (fun y8 => fX3_plates_22 FU y8.1 vA y8.2 i1 (0 : Int32) (0 : Int32))) else (some ((-1000001), vX, vR)))
set_option maxHeartbeats 8000000 in
set_option maxRecDepth 100000 in
theorem mX3_plates (l : Launch) (dC : Nat → ClassId) (dI : Nat → Nat → Nat) (cI cJ : ClassId) (a : Nat → Nat) (aA : Nat → Nat) (aB : Nat → Nat) (aR : Nat → Nat) (aT : Nat → Nat) (aS : Nat → Nat) (sz : Nat) (vX : BX3) (vA : BX0) (vR : BX1) (i1 : Int32) (y : (Int32 × BX3 × BX1)) (hf : fX3_plates vX vA vR i1 = some y) : Met l yX3_plates wsX3_plates ({ frames := 6, cells := 0, slots := 0, locals := 141 }) (cPc dC dI cI cJ [.ref (a 0), .int i1] [k3_0 a aA aB aR aT aS vX, k0_0 aA vA, k0_1 cI aA vA, k0_2 cI aA vA, k0_3 cI aA vA, k0_4 cI aA vA, k1_0 aR vR, k1_1 cJ aR vR, k1_2 cI aR vR, k1_3 cI aR vR, k1_4 cI aR vR, k1_5 cJ aR vR, k1_6 cJ aR vR, k1_7 cJ aR vR, k1_8 cJ aR vR, k1_9 cJ aR vR] sz) (va_Qi (fun r (_ : Unit) => r = y.1) (fun _ t => cB dC dI (va_A [k3_0 a aA aB aR aT aS vX, k0_0 aA vA, k0_1 cI aA vA, k0_2 cI aA vA, k0_3 cI aA vA, k0_4 cI aA vA, k1_0 aR vR, k1_1 cJ aR vR, k1_2 cI aR vR, k1_3 cI aR vR, k1_4 cI aR vR, k1_5 cJ aR vR, k1_6 cJ aR vR, k1_7 cJ aR vR, k1_8 cJ aR vR, k1_9 cJ aR vR] sz) [k3_0 a aA aB aR aT aS y.2.1, k0_0 aA vA, k0_1 cI aA vA, k0_2 cI aA vA, k0_3 cI aA vA, k0_4 cI aA vA, k1_0 aR y.2.2, k1_1 cJ aR y.2.2, k1_2 cI aR y.2.2, k1_3 cI aR y.2.2, k1_4 cI aR y.2.2, k1_5 cJ aR y.2.2, k1_6 cJ aR y.2.2, k1_7 cJ aR y.2.2, k1_8 cJ aR y.2.2, k1_9 cJ aR y.2.2] t) (va_A [k3_0 a aA aB aR aT aS vX, k0_0 aA vA, k0_1 cI aA vA, k0_2 cI aA vA, k0_3 cI aA vA, k0_4 cI aA vA, k1_0 aR vR, k1_1 cJ aR vR, k1_2 cI aR vR, k1_3 cI aR vR, k1_4 cI aR vR, k1_5 cJ aR vR, k1_6 cJ aR vR, k1_7 cJ aR vR, k1_8 cJ aR vR, k1_9 cJ aR vR] sz)) 0 0 (va_A [k3_0 a aA aB aR aT aS vX, k0_0 aA vA, k0_1 cI aA vA, k0_2 cI aA vA, k0_3 cI aA vA, k0_4 cI aA vA, k1_0 aR vR, k1_1 cJ aR vR, k1_2 cI aR vR, k1_3 cI aR vR, k1_4 cI aR vR, k1_5 cJ aR vR, k1_6 cJ aR vR, k1_7 cJ aR vR, k1_8 cJ aR vR, k1_9 cJ aR vR] sz) := by
  refine Met.ofW (cc := cX3_plates) (maxL := 5) (ret := (some .int)) (by decide) rfl ?_
  intro p e s m args below meth c s₁ B hml hv
  obtain ⟨rfl, hsz, hP, hK, hD0, hN⟩ := hv
  have hx := B.exec
  have hb := B.bytes
  have hr := B.returns
  have hts := atoms_spec (ws := wsX3_plates) B.pre
  have hown : s.vm.findClass RX3 = some m.cls := findClass_of_methodNamed B.named
  have hlocks := B.notSynchronized
  subst hsz
  have hD := hD0.self (sz := s.heap.size)
  generalize hAe : va_A [k3_0 a aA aB aR aT aS vX, k0_0 aA vA, k0_1 cI aA vA, k0_2 cI aA vA, k0_3 cI aA vA, k0_4 cI aA vA, k1_0 aR vR, k1_1 cJ aR vR, k1_2 cI aR vR, k1_3 cI aR vR, k1_4 cI aR vR, k1_5 cJ aR vR, k1_6 cJ aR vR, k1_7 cJ aR vR, k1_8 cJ aR vR, k1_9 cJ aR vR] s.heap.size = A at hD hN ⊢
  have hA : ∀ q : Nat, s.heap.size ≤ q → A q := fun q h => by rw [← hAe]; exact Or.inr h
  have hP : va_P (dC, dI) vwCl [k3_0 a aA aB aR aT aS vX, k0_0 aA vA, k0_1 cI aA vA, k0_2 cI aA vA, k0_3 cI aA vA, k0_4 cI aA vA, k1_0 aR vR, k1_1 cJ aR vR, k1_2 cI aR vR, k1_3 cI aR vR, k1_4 cI aR vR, k1_5 cJ aR vR, k1_6 cJ aR vR, k1_7 cJ aR vR, k1_8 cJ aR vR, k1_9 cJ aR vR] s.heap := hP
  have hl := lv_entry ([.ref (a 0), .int i1]) (n := 5) (Nat.le_of_ble_eq_true rfl)
  rw [lg_entry_eq]
  generalize (lg_sl ([.ref (a 0), .int i1]) ++ List.replicate (5 - (lg_sl ([.ref (a 0), .int i1])).length) Slot.unset).toArray = ls at hl ⊢
  have hl : lv_has ls 5 [(0, .ref (a 0)), (1, .int i1)] := hl
  have hiX3 : ∀ w ∈ u_ws RX3 TX3 8, w ∈ wsX3_plates := by decide +kernel
  have hgX3_10 := hts (.fieldLink RX3 10 "SpringPlates" "laid" "LSpringPlates$Layout;") (by decide +kernel)
  have hiX0 : ∀ w ∈ u_ws RX0 TX0 6, w ∈ wsX3_plates := by decide +kernel
  have hgX0_152 := hts (.fieldLink RX3 152 "SpringPlates$Layout" "plates" "I") (by decide +kernel)
  have hc84 := hts (.constant RX3 84 (-1000001)) (by decide +kernel)
  refine nameH (fun H locs hHe hLe => ?_)
  have hP : va_P (dC, dI) vwCl [k3_0 a aA aB aR aT aS vX, k0_0 aA vA, k0_1 cI aA vA, k0_2 cI aA vA, k0_3 cI aA vA, k0_4 cI aA vA, k1_0 aR vR, k1_1 cJ aR vR, k1_2 cI aR vR, k1_3 cI aR vR, k1_4 cI aR vR, k1_5 cJ aR vR, k1_6 cJ aR vR, k1_7 cJ aR vR, k1_8 cJ aR vR, k1_9 cJ aR vR] H := by rw [hHe]; exact hP
  have hS : va_S A s.heap H locs := by rw [hHe, hLe]; exact va_S.rf
  refine withW (fun WW hWW => ?_)
  have J52 : ∀ (k22 : BX3 → BX0 → BX1 → Int32 → Int32 → Int32 → Option (Int32 × BX3 × BX1)) (hk22 : ∀ (vX : BX3) (vR : BX1) (x1 : Int32) (x3 : Int32) (x4 : Int32) (H : Heap) (locs : List Loc) (ls : Array Slot), va_P (dC, dI) vwCl [k3_0 a aA aB aR aT aS vX, k0_0 aA vA, k0_1 cI aA vA, k0_2 cI aA vA, k0_3 cI aA vA, k0_4 cI aA vA, k1_0 aR vR, k1_1 cJ aR vR, k1_2 cI aR vR, k1_3 cI aR vR, k1_4 cI aR vR, k1_5 cJ aR vR, k1_6 cJ aR vR, k1_7 cJ aR vR, k1_8 cJ aR vR, k1_9 cJ aR vR] H → va_D A [k3_0 a aA aB aR aT aS vX, k0_0 aA vA, k0_1 cI aA vA, k0_2 cI aA vA, k0_3 cI aA vA, k0_4 cI aA vA, k1_0 aR vR, k1_1 cJ aR vR, k1_2 cI aR vR, k1_3 cI aR vR, k1_4 cI aR vR, k1_5 cJ aR vR, k1_6 cJ aR vR, k1_7 cJ aR vR, k1_8 cJ aR vR, k1_9 cJ aR vR] → va_S A s.heap H locs → lv_has ls 5 [(0, .ref (a 0)), (1, .int x1), (2, .ref (aR 0)), (3, .int x3), (4, .int x4)] → k22 vX vA vR x1 x3 x4 = some y → WW H locs 0 0 ls 22 []) (vX : BX3) (vR : BX1) (x1 : Int32) (x3 : Int32) (x4 : Int32) (H : Heap) (locs : List Loc) (ls : Array Slot), va_P (dC, dI) vwCl [k3_0 a aA aB aR aT aS vX, k0_0 aA vA, k0_1 cI aA vA, k0_2 cI aA vA, k0_3 cI aA vA, k0_4 cI aA vA, k1_0 aR vR, k1_1 cJ aR vR, k1_2 cI aR vR, k1_3 cI aR vR, k1_4 cI aR vR, k1_5 cJ aR vR, k1_6 cJ aR vR, k1_7 cJ aR vR, k1_8 cJ aR vR, k1_9 cJ aR vR] H → va_D A [k3_0 a aA aB aR aT aS vX, k0_0 aA vA, k0_1 cI aA vA, k0_2 cI aA vA, k0_3 cI aA vA, k0_4 cI aA vA, k1_0 aR vR, k1_1 cJ aR vR, k1_2 cI aR vR, k1_3 cI aR vR, k1_4 cI aR vR, k1_5 cJ aR vR, k1_6 cJ aR vR, k1_7 cJ aR vR, k1_8 cJ aR vR, k1_9 cJ aR vR] → va_S A s.heap H locs → lv_has ls 5 [(0, .ref (a 0)), (1, .int x1), (2, .ref (aR 0)), (3, .int x3), (4, .int x4)] → fX3_plates_52 k22 vX vA vR x1 x3 x4 = some y → WW H locs 0 0 ls 52 [] := by
    intro k22 hk22 vX vR x1 x3 x4 H locs ls hP hD hS hl hf
    unfold fX3_plates_52 at hf
    refine (hWW _ _ _ _ _ _ _).2 ?_
    obtain ⟨z5, ez5, hf⟩ := elet_out hf
    refine lv_iinc (v := z5) (lv' := [(4, .int z5), (0, .ref (a 0)), (1, .int x1), (2, .ref (aR 0)), (3, .int x3)]) hx hb dX3_plates_52 hl (k := 4) rfl (by rw [ez5]; rfl) (by decide) rfl (fun ls hl => ?_)
    refine lv_goto (tgt := 22) hx hb dX3_plates_55 (by decide) ?_
    exact (hWW _ _ _ _ _ _ _).1 (hk22 vX vR x1 x3 z5 H locs ls hP hD hS (lv_sub hl [1, 2, 3, 4, 0] rfl) hf)
  have L22 : ∀ (n : Nat) (vX : BX3) (vR : BX1) (x1 : Int32) (x3 : Int32) (x4 : Int32) (H : Heap) (locs : List Loc) (ls : Array Slot), va_P (dC, dI) vwCl [k3_0 a aA aB aR aT aS vX, k0_0 aA vA, k0_1 cI aA vA, k0_2 cI aA vA, k0_3 cI aA vA, k0_4 cI aA vA, k1_0 aR vR, k1_1 cJ aR vR, k1_2 cI aR vR, k1_3 cI aR vR, k1_4 cI aR vR, k1_5 cJ aR vR, k1_6 cJ aR vR, k1_7 cJ aR vR, k1_8 cJ aR vR, k1_9 cJ aR vR] H → va_D A [k3_0 a aA aB aR aT aS vX, k0_0 aA vA, k0_1 cI aA vA, k0_2 cI aA vA, k0_3 cI aA vA, k0_4 cI aA vA, k1_0 aR vR, k1_1 cJ aR vR, k1_2 cI aR vR, k1_3 cI aR vR, k1_4 cI aR vR, k1_5 cJ aR vR, k1_6 cJ aR vR, k1_7 cJ aR vR, k1_8 cJ aR vR, k1_9 cJ aR vR] → va_S A s.heap H locs → lv_has ls 5 [(0, .ref (a 0)), (1, .int x1), (2, .ref (aR 0)), (3, .int x3), (4, .int x4)] → fX3_plates_22 n vX vA vR x1 x3 x4 = some y → WW H locs 0 0 ls 22 [] := by
    intro n
    induction n with
    | zero =>
      intro vX vR x1 x3 x4 H locs ls hP hD hS hl hf
      exact onone hf
    | succ n ih =>
      intro vX vR x1 x3 x4 H locs ls hP hD hS hl hf
      have hf : fX3_plates_22_b (fX3_plates_22 n) vX vA vR x1 x3 x4 = some y := hf
      generalize fX3_plates_22 n = k22 at hf ih
      have hk22 := ih
      clear ih
      unfold fX3_plates_22_b at hf
      refine (hWW _ _ _ _ _ _ _).2 ?_
      refine lv_iload hx hb dX3_plates_22 (lv_at hl 4 rfl) ?_
      refine lv_aload_n hx hb dX3_plates_24 rfl (lv_at hl 0 rfl) ?_
      refine va_get (D := (dC, dI)) (ci := 3) (v := .ref (aA 0)) (C := RX3) (T := TX3) (N := 8) hx hb hts hiX3 hown hK hP 0 rfl rfl 0 (by decide) hgX3_10 (fun _ h9 => h9) rfl dX3_plates_25 ?_
      refine va_get (D := (dC, dI)) (ci := 0) (v := .int (p0_plates vA)) (C := RX0) (T := TX0) (N := 6) hx hb hts hiX0 hown hK hP 1 rfl rfl 1 (by decide) hgX0_152 (fun _ h9 => h9) rfl dX3_plates_28 ?_
      refine lv_icmp_ge (tgt := 58) hx hb dX3_plates_31 (by decide) (fun c1 => ?_) (fun c1 => ?_)
      · have hf := oif_t c1 hf
        refine lv_iload_n hx hb dX3_plates_58 rfl (lv_at hl 3 rfl) ?_
        obtain rfl := Option.some.inj hf
        exact W.iret (v := x3) hx hb hr (fun t ht hW => ⟨⟨x3, (), rfl, rfl, by rw [ht]; exact hP, hD⟩, hS.F ht⟩) hS.2.2 dX3_plates_59
      · have hf := oif_f c1 hf
        refine lv_aload_n hx hb dX3_plates_34 rfl (lv_at hl 0 rfl) ?_
        refine lv_aload_n hx hb dX3_plates_35 rfl (lv_at hl 2 rfl) ?_
        refine lv_iload hx hb dX3_plates_36 (lv_at hl 4 rfl) ?_
        refine lv_iload_n hx hb dX3_plates_38 rfl (lv_at hl 1 rfl) ?_
        obtain ⟨y2, hy2, hf⟩ := obind hf
        refine cg_i (ws := [k3_0 a aA aB aR aT aS vX, k0_0 aA vA, k0_1 cI aA vA, k0_2 cI aA vA, k0_3 cI aA vA, k0_4 cI aA vA, k1_0 aR vR, k1_1 cJ aR vR, k1_2 cI aR vR, k1_3 cI aR vR, k1_4 cI aR vR, k1_5 cJ aR vR, k1_6 cJ aR vR, k1_7 cJ aR vR, k1_8 cJ aR vR, k1_9 cJ aR vR]) (wc := [k3_0 a aA aB aR aT aS vX, k0_0 aA vA, k0_1 cI aA vA, k0_2 cI aA vA, k0_3 cI aA vA, k0_4 cI aA vA, k1_0 aR vR, k1_1 cJ aR vR, k1_2 cI aR vR, k1_3 cI aR vR, k1_4 cI aR vR, k1_5 cJ aR vR, k1_6 cJ aR vR, k1_7 cJ aR vR, k1_8 cJ aR vR, k1_9 cJ aR vR]) (wr := []) (w1 := [k3_0 a aA aB aR aT aS vX, k0_0 aA vA, k0_1 cI aA vA, k0_2 cI aA vA, k0_3 cI aA vA, k0_4 cI aA vA, k1_0 aR vR, k1_1 cJ aR vR, k1_2 cI aR vR, k1_3 cI aR vR, k1_4 cI aR vR, k1_5 cJ aR vR, k1_6 cJ aR vR, k1_7 cJ aR vR, k1_8 cJ aR vR, k1_9 cJ aR vR]) (wo := [k3_0 a aA aB aR aT aS vX, k0_0 aA vA, k0_1 cI aA vA, k0_2 cI aA vA, k0_3 cI aA vA, k0_4 cI aA vA, k1_0 aR vR, k1_1 cJ aR vR, k1_2 cI aR vR, k1_3 cI aR vR, k1_4 cI aR vR, k1_5 cJ aR vR, k1_6 cJ aR vR, k1_7 cJ aR vR, k1_8 cJ aR vR, k1_9 cJ aR vR]) hP hD hS hA (va_runV (As := [.ref (aR 0), .int x4, .int x1]) (rest := []) ⟨hx, hb, hml, hown, hts⟩ (mX3_isAmong l dC dI cI cJ a aA aB aR aT aS H.size vX vA vR x4 x1 y2 hy2) (cwV 3 hts gX3_plates_X3_isAmong rfl rfl rfl (by decide +kernel) ⟨Nat.le_of_ble_eq_true rfl, Nat.le_of_ble_eq_true rfl⟩) ⟨cFB, va_recv hK hP (ci := 3) (q0 := 0) rfl rfl, cPre hK hN hS (va_free (wc := [k3_0 a aA aB aR aT aS vX, k0_0 aA vA, k0_1 cI aA vA, k0_2 cI aA vA, k0_3 cI aA vA, k0_4 cI aA vA, k1_0 aR vR, k1_1 cJ aR vR, k1_2 cI aR vR, k1_3 cI aR vR, k1_4 cI aR vR, k1_5 cJ aR vR, k1_6 cJ aR vR, k1_7 cJ aR vR, k1_8 cJ aR vR, k1_9 cJ aR vR]) hD hS hA [0, 1, 2, 3, 4, 5, 6, 7, 8, 9, 10, 11, 12, 13, 14, 15] rfl) (hP.sub [0, 1, 2, 3, 4, 5, 6, 7, 8, 9, 10, 11, 12, 13, 14, 15] rfl) (hD.sub [0, 1, 2, 3, 4, 5, 6, 7, 8, 9, 10, 11, 12, 13, 14, 15] rfl rfl)⟩ rfl rfl hl.1 rfl (lv_room (Nat.le_of_ble_eq_true rfl)) dX3_plates_39 ⟨Nat.le_of_ble_eq_true rfl, Nat.le_of_ble_eq_true rfl⟩) [0, 1, 2, 3, 4, 5, 6, 7, 8, 9, 10, 11, 12, 13, 14, 15] [] [0, 1, 2, 3, 4, 5, 6, 7, 8, 9, 10, 11, 12, 13, 14, 15] rfl rfl rfl (by decide +kernel) rfl rfl (fun H locs hP hD hS => ?_)
        refine lv_if_eq (tgt := 52) hx hb dX3_plates_42 (by decide) (fun c3 => ?_) (fun c3 => ?_)
        · have hf := oif_t c3 hf
          exact (hWW _ _ _ _ _ _ _).1 (J52 k22 hk22 vX vR x1 x3 x4 H locs ls hP hD hS (lv_sub hl [0, 1, 2, 3, 4] rfl) hf)
        · have hf := oif_f c3 hf
          refine lv_iload_n hx hb dX3_plates_45 rfl (lv_at hl 3 rfl) ?_
          refine lv_iconst (v := 1) hx hb dX3_plates_46 (by decide) ?_
          refine lv_iload hx hb dX3_plates_47 (lv_at hl 4 rfl) ?_
          refine lv_ishl hx hb dX3_plates_49 ?_
          refine lv_ior hx hb dX3_plates_50 ?_
          obtain ⟨z4, ez4, hf⟩ := elet_out hf
          refine lvn_i ez4 ?_
          refine lv_istore_n (lv' := [(3, .int z4), (0, .ref (a 0)), (1, .int x1), (2, .ref (aR 0)), (4, .int x4)]) hx hb dX3_plates_51 rfl hl (by decide) rfl (fun ls hl => ?_)
          exact (hWW _ _ _ _ _ _ _).1 (J52 k22 hk22 vX vR x1 z4 x4 H locs ls hP hD hS (lv_sub hl [1, 2, 3, 0, 4] rfl) hf)
  refine (hWW _ _ _ _ _ _ _).2 ?_
  unfold fX3_plates at hf
  refine lv_iload_n hx hb dX3_plates_0 rfl (lv_at hl 1 rfl) ?_
  refine lv_if_lt (tgt := 9) hx hb dX3_plates_1 (by decide) (fun c6 => ?_) (fun c6 => ?_)
  · have hf := oif_t c6 hf
    refine lv_ldc (v := (-1000001)) hx hb hown hc84 dX3_plates_9 ?_
    obtain rfl := Option.some.inj hf
    exact W.iret (v := (-1000001)) hx hb hr (fun t ht hW => ⟨⟨(-1000001), (), rfl, rfl, by rw [ht]; exact hP, hD⟩, hS.F ht⟩) hS.2.2 dX3_plates_11
  · have hf := oif_f c6 hf
    refine lv_iload_n hx hb dX3_plates_4 rfl (lv_at hl 1 rfl) ?_
    refine lv_iconst (v := 4) hx hb dX3_plates_5 (by decide) ?_
    refine lv_icmp_le (tgt := 12) hx hb dX3_plates_6 (by decide) (fun c7 => ?_) (fun c7 => ?_)
    · have hf := oif_t c7 hf
      refine lv_aload_n hx hb dX3_plates_12 rfl (lv_at hl 0 rfl) ?_
      obtain ⟨y8, hy8, hf⟩ := obind hf
      refine cg_r (ws := [k3_0 a aA aB aR aT aS vX, k0_0 aA vA, k0_1 cI aA vA, k0_2 cI aA vA, k0_3 cI aA vA, k0_4 cI aA vA, k1_0 aR vR, k1_1 cJ aR vR, k1_2 cI aR vR, k1_3 cI aR vR, k1_4 cI aR vR, k1_5 cJ aR vR, k1_6 cJ aR vR, k1_7 cJ aR vR, k1_8 cJ aR vR, k1_9 cJ aR vR]) (wc := [k3_0 a aA aB aR aT aS vX, k0_0 aA vA, k0_1 cI aA vA, k0_2 cI aA vA, k0_3 cI aA vA, k0_4 cI aA vA, k1_0 aR vR, k1_1 cJ aR vR, k1_2 cI aR vR, k1_3 cI aR vR, k1_4 cI aR vR, k1_5 cJ aR vR, k1_6 cJ aR vR, k1_7 cJ aR vR, k1_8 cJ aR vR, k1_9 cJ aR vR]) (wr := []) (w1 := [k3_0 a aA aB aR aT aS y8.1, k0_0 aA vA, k0_1 cI aA vA, k0_2 cI aA vA, k0_3 cI aA vA, k0_4 cI aA vA, k1_0 aR y8.2, k1_1 cJ aR y8.2, k1_2 cI aR y8.2, k1_3 cI aR y8.2, k1_4 cI aR y8.2, k1_5 cJ aR y8.2, k1_6 cJ aR y8.2, k1_7 cJ aR y8.2, k1_8 cJ aR y8.2, k1_9 cJ aR y8.2]) (wo := [k3_0 a aA aB aR aT aS y8.1, k0_0 aA vA, k0_1 cI aA vA, k0_2 cI aA vA, k0_3 cI aA vA, k0_4 cI aA vA, k1_0 aR y8.2, k1_1 cJ aR y8.2, k1_2 cI aR y8.2, k1_3 cI aR y8.2, k1_4 cI aR y8.2, k1_5 cJ aR y8.2, k1_6 cJ aR y8.2, k1_7 cJ aR y8.2, k1_8 cJ aR y8.2, k1_9 cJ aR y8.2]) hP hD hS hA (va_runV (As := []) (rest := []) ⟨hx, hb, hml, hown, hts⟩ (mX3_settled l dC dI cI cJ a aA aB aR aT aS H.size vX vA vR y8 hy8) (cwV 0 hts gX3_plates_X3_settled rfl rfl rfl (by decide +kernel) ⟨Nat.le_of_ble_eq_true rfl, Nat.le_of_ble_eq_true rfl⟩) ⟨cFB, va_recv hK hP (ci := 3) (q0 := 0) rfl rfl, cPre hK hN hS (va_free (wc := [k3_0 a aA aB aR aT aS vX, k0_0 aA vA, k0_1 cI aA vA, k0_2 cI aA vA, k0_3 cI aA vA, k0_4 cI aA vA, k1_0 aR vR, k1_1 cJ aR vR, k1_2 cI aR vR, k1_3 cI aR vR, k1_4 cI aR vR, k1_5 cJ aR vR, k1_6 cJ aR vR, k1_7 cJ aR vR, k1_8 cJ aR vR, k1_9 cJ aR vR]) hD hS hA [0, 1, 2, 3, 4, 5, 6, 7, 8, 9, 10, 11, 12, 13, 14, 15] rfl) (hP.sub [0, 1, 2, 3, 4, 5, 6, 7, 8, 9, 10, 11, 12, 13, 14, 15] rfl) (hD.sub [0, 1, 2, 3, 4, 5, 6, 7, 8, 9, 10, 11, 12, 13, 14, 15] rfl rfl)⟩ rfl rfl hl.1 rfl (lv_room (Nat.le_of_ble_eq_true rfl)) dX3_plates_13 ⟨Nat.le_of_ble_eq_true rfl, Nat.le_of_ble_eq_true rfl⟩) [0, 1, 2, 3, 4, 5, 6, 7, 8, 9, 10, 11, 12, 13, 14, 15] [] [0, 1, 2, 3, 4, 5, 6, 7, 8, 9, 10, 11, 12, 13, 14, 15] rfl rfl rfl (by decide +kernel) rfl rfl (fun H locs hP hD hS => ?_)
      refine lv_astore_n (lv' := [(2, .ref (aR 0)), (0, .ref (a 0)), (1, .int i1)]) hx hb dX3_plates_16 rfl hl (by decide) rfl (fun ls hl => ?_)
      refine lv_iconst (v := 0) hx hb dX3_plates_17 (by decide) ?_
      refine lv_istore_n (lv' := [(3, .int 0), (2, .ref (aR 0)), (0, .ref (a 0)), (1, .int i1)]) hx hb dX3_plates_18 rfl hl (by decide) rfl (fun ls hl => ?_)
      refine lv_iconst (v := 0) hx hb dX3_plates_19 (by decide) ?_
      refine lv_istore (lv' := [(4, .int 0), (3, .int 0), (2, .ref (aR 0)), (0, .ref (a 0)), (1, .int i1)]) hx hb dX3_plates_20 hl (by decide) rfl (fun ls hl => ?_)
      exact (hWW _ _ _ _ _ _ _).1 (L22 FU y8.1 y8.2 i1 (0 : Int32) (0 : Int32) H locs ls hP hD hS (lv_sub hl [3, 4, 2, 1, 0] rfl) hf)
    · have hf := oif_f c7 hf
      refine lv_ldc (v := (-1000001)) hx hb hown hc84 dX3_plates_9 ?_
      obtain rfl := Option.some.inj hf
      exact W.iret (v := (-1000001)) hx hb hr (fun t ht hW => ⟨⟨(-1000001), (), rfl, rfl, by rw [ht]; exact hP, hD⟩, hS.F ht⟩) hS.2.2 dX3_plates_11
def fX3_count (vX : BX3) (vA : BX0) (vS : BX2) (i1 : Int32) : Option Int32 :=
  if i1 = 0 then (some (p0_plates vA)) else (if i1 = 1 then (some (p0_width vA)) else (if i1 = 2 then ((fX0_countStops vA).bind (fun y4 => some y4)) else (if i1 = 3 then ((fX0_sumOfLoads vA (0 : Int32) ((p0_plates vA) - (1 : Int32))).bind (fun y6 => some (y6 + (1000 : Int32)))) else (if i1 = 4 then (some (p3_states vX)) else (if i1 = 5 then (some (p2_size vS)) else (some (-1000001)))))))
set_option maxHeartbeats 8000000 in
set_option maxRecDepth 100000 in
theorem mX3_count (l : Launch) (dC : Nat → ClassId) (dI : Nat → Nat → Nat) (cI cJ : ClassId) (a : Nat → Nat) (aA : Nat → Nat) (aB : Nat → Nat) (aR : Nat → Nat) (aT : Nat → Nat) (aS : Nat → Nat) (sz : Nat) (vX : BX3) (vA : BX0) (vS : BX2) (i1 : Int32) (y : Int32) (hf : fX3_count vX vA vS i1 = some y) : Met l yX3_count wsX3_count ({ frames := 1, cells := 0, slots := 0, locals := 24 }) (cPc dC dI cI cJ [.ref (a 0), .int i1] [k3_0 a aA aB aR aT aS vX, k0_0 aA vA, k0_1 cI aA vA, k0_2 cI aA vA, k0_3 cI aA vA, k0_4 cI aA vA, k2_0 aS vS, k2_1 cI aS vS, k2_2 cI aS vS] sz) (va_Qi (fun r (_ : Unit) => r = y) (fun _ t => cB dC dI (va_A [k3_0 a aA aB aR aT aS vX, k0_0 aA vA, k0_1 cI aA vA, k0_2 cI aA vA, k0_3 cI aA vA, k0_4 cI aA vA, k2_0 aS vS, k2_1 cI aS vS, k2_2 cI aS vS] sz) [k3_0 a aA aB aR aT aS vX, k0_0 aA vA, k0_1 cI aA vA, k0_2 cI aA vA, k0_3 cI aA vA, k0_4 cI aA vA, k2_0 aS vS, k2_1 cI aS vS, k2_2 cI aS vS] t) (va_A [k3_0 a aA aB aR aT aS vX, k0_0 aA vA, k0_1 cI aA vA, k0_2 cI aA vA, k0_3 cI aA vA, k0_4 cI aA vA, k2_0 aS vS, k2_1 cI aS vS, k2_2 cI aS vS] sz)) 0 0 (va_A [k3_0 a aA aB aR aT aS vX, k0_0 aA vA, k0_1 cI aA vA, k0_2 cI aA vA, k0_3 cI aA vA, k0_4 cI aA vA, k2_0 aS vS, k2_1 cI aS vS, k2_2 cI aS vS] sz) := by
  refine Met.ofW (cc := cX3_count) (maxL := 2) (ret := (some .int)) (by decide) rfl ?_
  intro p e s m args below meth c s₁ B hml hv
  obtain ⟨rfl, hsz, hP, hK, hD0, hN⟩ := hv
  have hx := B.exec
  have hb := B.bytes
  have hr := B.returns
  have hts := atoms_spec (ws := wsX3_count) B.pre
  have hown : s.vm.findClass RX3 = some m.cls := findClass_of_methodNamed B.named
  have hlocks := B.notSynchronized
  subst hsz
  have hD := hD0.self (sz := s.heap.size)
  generalize hAe : va_A [k3_0 a aA aB aR aT aS vX, k0_0 aA vA, k0_1 cI aA vA, k0_2 cI aA vA, k0_3 cI aA vA, k0_4 cI aA vA, k2_0 aS vS, k2_1 cI aS vS, k2_2 cI aS vS] s.heap.size = A at hD hN ⊢
  have hA : ∀ q : Nat, s.heap.size ≤ q → A q := fun q h => by rw [← hAe]; exact Or.inr h
  have hP : va_P (dC, dI) vwCl [k3_0 a aA aB aR aT aS vX, k0_0 aA vA, k0_1 cI aA vA, k0_2 cI aA vA, k0_3 cI aA vA, k0_4 cI aA vA, k2_0 aS vS, k2_1 cI aS vS, k2_2 cI aS vS] s.heap := hP
  have hl := lv_entry ([.ref (a 0), .int i1]) (n := 2) (Nat.le_of_ble_eq_true rfl)
  rw [lg_entry_eq]
  generalize (lg_sl ([.ref (a 0), .int i1]) ++ List.replicate (2 - (lg_sl ([.ref (a 0), .int i1])).length) Slot.unset).toArray = ls at hl ⊢
  have hl : lv_has ls 2 [(0, .ref (a 0)), (1, .int i1)] := hl
  have hiX3 : ∀ w ∈ u_ws RX3 TX3 8, w ∈ wsX3_count := by decide +kernel
  have hgX3_10 := hts (.fieldLink RX3 10 "SpringPlates" "laid" "LSpringPlates$Layout;") (by decide +kernel)
  have hiX0 : ∀ w ∈ u_ws RX0 TX0 6, w ∈ wsX3_count := by decide +kernel
  have hgX0_152 := hts (.fieldLink RX3 152 "SpringPlates$Layout" "plates" "I") (by decide +kernel)
  have hgX0_169 := hts (.fieldLink RX3 169 "SpringPlates$Layout" "width" "I") (by decide +kernel)
  have hgX3_23 := hts (.fieldLink RX3 23 "SpringPlates" "states" "I") (by decide +kernel)
  have hgX3_44 := hts (.fieldLink RX3 44 "SpringPlates" "script" "LSpringPlates$Script;") (by decide +kernel)
  have hiX2 : ∀ w ∈ u_ws RX2 TX2 9, w ∈ wsX3_count := by decide +kernel
  have hgX2_218 := hts (.fieldLink RX3 218 "SpringPlates$Script" "size" "I") (by decide +kernel)
  have hc84 := hts (.constant RX3 84 (-1000001)) (by decide +kernel)
  refine nameH (fun H locs hHe hLe => ?_)
  have hP : va_P (dC, dI) vwCl [k3_0 a aA aB aR aT aS vX, k0_0 aA vA, k0_1 cI aA vA, k0_2 cI aA vA, k0_3 cI aA vA, k0_4 cI aA vA, k2_0 aS vS, k2_1 cI aS vS, k2_2 cI aS vS] H := by rw [hHe]; exact hP
  have hS : va_S A s.heap H locs := by rw [hHe, hLe]; exact va_S.rf
  unfold fX3_count at hf
  refine lv_iload_n hx hb dX3_count_0 rfl (lv_at hl 1 rfl) ?_
  by_cases c1 : i1 = 0
  · have hf := oif_t c1 hf
    refine lv_tableIn (tgt := 40) hx hb dX3_count_1 (by rw [c1]; decide) (by rw [c1]; decide) (by rw [c1]; rfl) (by decide) ?_
    refine lv_aload_n hx hb dX3_count_40 rfl (lv_at hl 0 rfl) ?_
    refine va_get (D := (dC, dI)) (ci := 3) (v := .ref (aA 0)) (C := RX3) (T := TX3) (N := 8) hx hb hts hiX3 hown hK hP 0 rfl rfl 0 (by decide) hgX3_10 (fun _ h9 => h9) rfl dX3_count_41 ?_
    refine va_get (D := (dC, dI)) (ci := 0) (v := .int (p0_plates vA)) (C := RX0) (T := TX0) (N := 6) hx hb hts hiX0 hown hK hP 1 rfl rfl 1 (by decide) hgX0_152 (fun _ h9 => h9) rfl dX3_count_44 ?_
    obtain rfl := Option.some.inj hf
    exact W.iret (v := (p0_plates vA)) hx hb hr (fun t ht hW => ⟨⟨(p0_plates vA), (), rfl, rfl, by rw [ht]; exact hP, hD⟩, hS.F ht⟩) hS.2.2 dX3_count_47
  · have hf := oif_f c1 hf
    by_cases c2 : i1 = 1
    · have hf := oif_t c2 hf
      refine lv_tableIn (tgt := 48) hx hb dX3_count_1 (by rw [c2]; decide) (by rw [c2]; decide) (by rw [c2]; rfl) (by decide) ?_
      refine lv_aload_n hx hb dX3_count_48 rfl (lv_at hl 0 rfl) ?_
      refine va_get (D := (dC, dI)) (ci := 3) (v := .ref (aA 0)) (C := RX3) (T := TX3) (N := 8) hx hb hts hiX3 hown hK hP 0 rfl rfl 0 (by decide) hgX3_10 (fun _ h9 => h9) rfl dX3_count_49 ?_
      refine va_get (D := (dC, dI)) (ci := 0) (v := .int (p0_width vA)) (C := RX0) (T := TX0) (N := 6) hx hb hts hiX0 hown hK hP 1 rfl rfl 0 (by decide) hgX0_169 (fun _ h9 => h9) rfl dX3_count_52 ?_
      obtain rfl := Option.some.inj hf
      exact W.iret (v := (p0_width vA)) hx hb hr (fun t ht hW => ⟨⟨(p0_width vA), (), rfl, rfl, by rw [ht]; exact hP, hD⟩, hS.F ht⟩) hS.2.2 dX3_count_55
    · have hf := oif_f c2 hf
      by_cases c3 : i1 = 2
      · have hf := oif_t c3 hf
        refine lv_tableIn (tgt := 56) hx hb dX3_count_1 (by rw [c3]; decide) (by rw [c3]; decide) (by rw [c3]; rfl) (by decide) ?_
        refine lv_aload_n hx hb dX3_count_56 rfl (lv_at hl 0 rfl) ?_
        refine va_get (D := (dC, dI)) (ci := 3) (v := .ref (aA 0)) (C := RX3) (T := TX3) (N := 8) hx hb hts hiX3 hown hK hP 0 rfl rfl 0 (by decide) hgX3_10 (fun _ h9 => h9) rfl dX3_count_57 ?_
        obtain ⟨y4, hy4, hf⟩ := obind hf
        refine cg_i (ws := [k3_0 a aA aB aR aT aS vX, k0_0 aA vA, k0_1 cI aA vA, k0_2 cI aA vA, k0_3 cI aA vA, k0_4 cI aA vA, k2_0 aS vS, k2_1 cI aS vS, k2_2 cI aS vS]) (wc := [k0_0 aA vA, k0_1 cI aA vA, k0_2 cI aA vA, k0_3 cI aA vA, k0_4 cI aA vA]) (wr := [k3_0 a aA aB aR aT aS vX, k2_0 aS vS, k2_1 cI aS vS, k2_2 cI aS vS]) (w1 := [k0_0 aA vA, k0_1 cI aA vA, k0_2 cI aA vA, k0_3 cI aA vA, k0_4 cI aA vA]) (wo := [k3_0 a aA aB aR aT aS vX, k0_0 aA vA, k0_1 cI aA vA, k0_2 cI aA vA, k0_3 cI aA vA, k0_4 cI aA vA, k2_0 aS vS, k2_1 cI aS vS, k2_2 cI aS vS]) hP hD hS hA (va_runV (As := []) (rest := []) ⟨hx, hb, hml, hown, hts⟩ (mX0_countStops l dC dI cI cJ aA H.size vA y4 hy4) (cwV 0 hts gX3_count_X0_countStops rfl rfl rfl (by decide +kernel) ⟨Nat.le_of_ble_eq_true rfl, Nat.le_of_ble_eq_true rfl⟩) ⟨cFB, va_recv hK hP (ci := 0) (q0 := 1) rfl rfl, cPre hK hN hS (va_free (wc := [k0_0 aA vA, k0_1 cI aA vA, k0_2 cI aA vA, k0_3 cI aA vA, k0_4 cI aA vA]) hD hS hA [1, 2, 3, 4, 5] rfl) (hP.sub [1, 2, 3, 4, 5] rfl) (hD.sub [1, 2, 3, 4, 5] rfl rfl)⟩ rfl rfl hl.1 rfl (lv_room (Nat.le_of_ble_eq_true rfl)) dX3_count_60 ⟨Nat.le_of_ble_eq_true rfl, Nat.le_of_ble_eq_true rfl⟩) [1, 2, 3, 4, 5] [0, 6, 7, 8] [0, 4, 5, 6, 7, 8, 1, 2, 3] rfl rfl rfl (by decide +kernel) rfl rfl (fun H locs hP hD hS => ?_)
        obtain rfl := Option.some.inj hf
        exact W.iret (v := y4) hx hb hr (fun t ht hW => ⟨⟨y4, (), rfl, rfl, by rw [ht]; exact hP, hD⟩, hS.F ht⟩) hS.2.2 dX3_count_63
      · have hf := oif_f c3 hf
        by_cases c5 : i1 = 3
        · have hf := oif_t c5 hf
          refine lv_tableIn (tgt := 64) hx hb dX3_count_1 (by rw [c5]; decide) (by rw [c5]; decide) (by rw [c5]; rfl) (by decide) ?_
          refine lv_aload_n hx hb dX3_count_64 rfl (lv_at hl 0 rfl) ?_
          refine va_get (D := (dC, dI)) (ci := 3) (v := .ref (aA 0)) (C := RX3) (T := TX3) (N := 8) hx hb hts hiX3 hown hK hP 0 rfl rfl 0 (by decide) hgX3_10 (fun _ h9 => h9) rfl dX3_count_65 ?_
          refine lv_iconst (v := 0) hx hb dX3_count_68 (by decide) ?_
          refine lv_aload_n hx hb dX3_count_69 rfl (lv_at hl 0 rfl) ?_
          refine va_get (D := (dC, dI)) (ci := 3) (v := .ref (aA 0)) (C := RX3) (T := TX3) (N := 8) hx hb hts hiX3 hown hK hP 0 rfl rfl 0 (by decide) hgX3_10 (fun _ h9 => h9) rfl dX3_count_70 ?_
          refine va_get (D := (dC, dI)) (ci := 0) (v := .int (p0_plates vA)) (C := RX0) (T := TX0) (N := 6) hx hb hts hiX0 hown hK hP 1 rfl rfl 1 (by decide) hgX0_152 (fun _ h9 => h9) rfl dX3_count_73 ?_
          refine lv_iconst (v := 1) hx hb dX3_count_76 (by decide) ?_
          refine lv_isub hx hb dX3_count_77 ?_
          obtain ⟨y6, hy6, hf⟩ := obind hf
          refine cg_i (ws := [k3_0 a aA aB aR aT aS vX, k0_0 aA vA, k0_1 cI aA vA, k0_2 cI aA vA, k0_3 cI aA vA, k0_4 cI aA vA, k2_0 aS vS, k2_1 cI aS vS, k2_2 cI aS vS]) (wc := [k0_0 aA vA, k0_1 cI aA vA, k0_2 cI aA vA, k0_3 cI aA vA, k0_4 cI aA vA]) (wr := [k3_0 a aA aB aR aT aS vX, k2_0 aS vS, k2_1 cI aS vS, k2_2 cI aS vS]) (w1 := [k0_0 aA vA, k0_1 cI aA vA, k0_2 cI aA vA, k0_3 cI aA vA, k0_4 cI aA vA]) (wo := [k3_0 a aA aB aR aT aS vX, k0_0 aA vA, k0_1 cI aA vA, k0_2 cI aA vA, k0_3 cI aA vA, k0_4 cI aA vA, k2_0 aS vS, k2_1 cI aS vS, k2_2 cI aS vS]) hP hD hS hA (va_runV (As := [.int 0, .int ((p0_plates vA) - (1 : Int32))]) (rest := []) ⟨hx, hb, hml, hown, hts⟩ (mX0_sumOfLoads l dC dI cI cJ aA H.size vA (0 : Int32) ((p0_plates vA) - (1 : Int32)) y6 hy6) (cwV 2 hts gX3_count_X0_sumOfLoads rfl rfl rfl (by decide +kernel) ⟨Nat.le_of_ble_eq_true rfl, Nat.le_of_ble_eq_true rfl⟩) ⟨cFB, va_recv hK hP (ci := 0) (q0 := 1) rfl rfl, cPre hK hN hS (va_free (wc := [k0_0 aA vA, k0_1 cI aA vA, k0_2 cI aA vA, k0_3 cI aA vA, k0_4 cI aA vA]) hD hS hA [1, 2, 3, 4, 5] rfl) (hP.sub [1, 2, 3, 4, 5] rfl) (hD.sub [1, 2, 3, 4, 5] rfl rfl)⟩ rfl rfl hl.1 rfl (lv_room (Nat.le_of_ble_eq_true rfl)) dX3_count_78 ⟨Nat.le_of_ble_eq_true rfl, Nat.le_of_ble_eq_true rfl⟩) [1, 2, 3, 4, 5] [0, 6, 7, 8] [0, 4, 5, 6, 7, 8, 1, 2, 3] rfl rfl rfl (by decide +kernel) rfl rfl (fun H locs hP hD hS => ?_)
          refine lv_sipush (v := 1000) hx hb dX3_count_81 (by decide) ?_
          refine lv_iadd hx hb dX3_count_84 ?_
          obtain rfl := Option.some.inj hf
          exact W.iret (v := (y6 + (1000 : Int32))) hx hb hr (fun t ht hW => ⟨⟨(y6 + (1000 : Int32)), (), rfl, rfl, by rw [ht]; exact hP, hD⟩, hS.F ht⟩) hS.2.2 dX3_count_85
        · have hf := oif_f c5 hf
          by_cases c7 : i1 = 4
          · have hf := oif_t c7 hf
            refine lv_tableIn (tgt := 86) hx hb dX3_count_1 (by rw [c7]; decide) (by rw [c7]; decide) (by rw [c7]; rfl) (by decide) ?_
            refine lv_aload_n hx hb dX3_count_86 rfl (lv_at hl 0 rfl) ?_
            refine va_get (D := (dC, dI)) (ci := 3) (v := .int (p3_states vX)) (C := RX3) (T := TX3) (N := 8) hx hb hts hiX3 hown hK hP 0 rfl rfl 3 (by decide) hgX3_23 (fun _ h9 => h9) rfl dX3_count_87 ?_
            obtain rfl := Option.some.inj hf
            exact W.iret (v := (p3_states vX)) hx hb hr (fun t ht hW => ⟨⟨(p3_states vX), (), rfl, rfl, by rw [ht]; exact hP, hD⟩, hS.F ht⟩) hS.2.2 dX3_count_90
          · have hf := oif_f c7 hf
            by_cases c8 : i1 = 5
            · have hf := oif_t c8 hf
              refine lv_tableIn (tgt := 91) hx hb dX3_count_1 (by rw [c8]; decide) (by rw [c8]; decide) (by rw [c8]; rfl) (by decide) ?_
              refine lv_aload_n hx hb dX3_count_91 rfl (lv_at hl 0 rfl) ?_
              refine va_get (D := (dC, dI)) (ci := 3) (v := .ref (aS 0)) (C := RX3) (T := TX3) (N := 8) hx hb hts hiX3 hown hK hP 0 rfl rfl 7 (by decide) hgX3_44 (fun _ h9 => h9) rfl dX3_count_92 ?_
              refine va_get (D := (dC, dI)) (ci := 2) (v := .int (p2_size vS)) (C := RX2) (T := TX2) (N := 9) hx hb hts hiX2 hown hK hP 6 rfl rfl 1 (by decide) hgX2_218 (fun _ h9 => h9) rfl dX3_count_95 ?_
              obtain rfl := Option.some.inj hf
              exact W.iret (v := (p2_size vS)) hx hb hr (fun t ht hW => ⟨⟨(p2_size vS), (), rfl, rfl, by rw [ht]; exact hP, hD⟩, hS.F ht⟩) hS.2.2 dX3_count_98
            · have hf := oif_f c8 hf
              refine lv_tableOut (tgt := 99) hx hb dX3_count_1 (by have t0 := toInt_ne (n := 0) rfl c1; have t1 := toInt_ne (n := 1) rfl c2; have t2 := toInt_ne (n := 2) rfl c3; have t3 := toInt_ne (n := 3) rfl c5; have t4 := toInt_ne (n := 4) rfl c7; have t5 := toInt_ne (n := 5) rfl c8; omega) (by decide) ?_
              refine lv_ldc (v := (-1000001)) hx hb hown hc84 dX3_count_99 ?_
              obtain rfl := Option.some.inj hf
              exact W.iret (v := (-1000001)) hx hb hr (fun t ht hW => ⟨⟨(-1000001), (), rfl, rfl, by rw [ht]; exact hP, hD⟩, hS.F ht⟩) hS.2.2 dX3_count_101
