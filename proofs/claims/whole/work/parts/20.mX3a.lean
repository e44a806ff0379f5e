def fX3_plateOf (vX : BX3) (vA : BX0) (i1 : Int32) (i2 : Int32) : Option Int32 :=
  (fX0_hasPlate vA i1).bind (fun y1 => if y1 = 0 then (some (-1000001)) else (if i2 = 0 then (if inB i1 4 = true then (some (((p0_loads vA) (i1).toNatClampNeg) + (1000 : Int32))) else none) else (if i2 = 1 then ((fX0_stopOf vA i1 (0 : Int32)).bind (fun y6 => (fX3_placeOrNotFound y6).bind (fun y7 => some y7))) else (if i2 = 2 then ((fX0_stopOf vA i1 (1 : Int32)).bind (fun y9 => (fX3_placeOrNotFound y9).bind (fun y10 => some y10))) else (if i2 = 3 then (if inB i1 5 = true then (some ((p0_strengths vA) (i1).toNatClampNeg)) else none) else (if i2 = 4 then (if inB i1 5 = true then (some ((p0_lengths vA) (i1).toNatClampNeg)) else none) else (if i2 = 5 then (if inB (i1 + (1 : Int32)) 5 = true then (some ((p0_strengths vA) ((i1 + (1 : Int32))).toNatClampNeg)) else none) else (if i2 = 6 then (if inB (i1 + (1 : Int32)) 5 = true then (some ((p0_lengths vA) ((i1 + (1 : Int32))).toNatClampNeg)) else none) else (some (-1000001))))))))))
set_option maxHeartbeats 8000000 in
set_option maxRecDepth 100000 in
theorem mX3_plateOf (l : Launch) (dC : Nat → ClassId) (dI : Nat → Nat → Nat) (cI cJ : ClassId) (a : Nat → Nat) (aA : Nat → Nat) (aB : Nat → Nat) (aR : Nat → Nat) (aT : Nat → Nat) (aS : Nat → Nat) (sz : Nat) (vX : BX3) (vA : BX0) (i1 : Int32) (i2 : Int32) (y : Int32) (hf : fX3_plateOf vX vA i1 i2 = some y) : Met l yX3_plateOf wsX3_plateOf ({ frames := 1, cells := 0, slots := 0, locals := 22 }) (cPc dC dI cI cJ [.ref (a 0), .int i1, .int i2] [k3_0 a aA aB aR aT aS vX, k0_0 aA vA, k0_1 cI aA vA, k0_2 cI aA vA, k0_3 cI aA vA, k0_4 cI aA vA] sz) (va_Qi (fun r (_ : Unit) => r = y) (fun _ t => cB dC dI (va_A [k3_0 a aA aB aR aT aS vX, k0_0 aA vA, k0_1 cI aA vA, k0_2 cI aA vA, k0_3 cI aA vA, k0_4 cI aA vA] sz) [k3_0 a aA aB aR aT aS vX, k0_0 aA vA, k0_1 cI aA vA, k0_2 cI aA vA, k0_3 cI aA vA, k0_4 cI aA vA] t) (va_A [k3_0 a aA aB aR aT aS vX, k0_0 aA vA, k0_1 cI aA vA, k0_2 cI aA vA, k0_3 cI aA vA, k0_4 cI aA vA] sz)) 0 0 (va_A [k3_0 a aA aB aR aT aS vX, k0_0 aA vA, k0_1 cI aA vA, k0_2 cI aA vA, k0_3 cI aA vA, k0_4 cI aA vA] sz) := by
  refine Met.ofW (cc := cX3_plateOf) (maxL := 3) (ret := (some .int)) (by decide) rfl ?_
  intro p e s m args below meth c s₁ B hml hv
  obtain ⟨rfl, hsz, hP, hK, hD0, hN⟩ := hv
  have hx := B.exec
  have hb := B.bytes
  have hr := B.returns
  have hts := atoms_spec (ws := wsX3_plateOf) B.pre
  have hown : s.vm.findClass RX3 = some m.cls := findClass_of_methodNamed B.named
  have hlocks := B.notSynchronized
  subst hsz
  have hD := hD0.self (sz := s.heap.size)
  generalize hAe : va_A [k3_0 a aA aB aR aT aS vX, k0_0 aA vA, k0_1 cI aA vA, k0_2 cI aA vA, k0_3 cI aA vA, k0_4 cI aA vA] s.heap.size = A at hD hN ⊢
  have hA : ∀ q : Nat, s.heap.size ≤ q → A q := fun q h => by rw [← hAe]; exact Or.inr h
  have hP : va_P (dC, dI) vwCl [k3_0 a aA aB aR aT aS vX, k0_0 aA vA, k0_1 cI aA vA, k0_2 cI aA vA, k0_3 cI aA vA, k0_4 cI aA vA] s.heap := hP
  have hl := lv_entry ([.ref (a 0), .int i1, .int i2]) (n := 3) (Nat.le_of_ble_eq_true rfl)
  rw [lg_entry_eq]
  generalize (lg_sl ([.ref (a 0), .int i1, .int i2]) ++ List.replicate (3 - (lg_sl ([.ref (a 0), .int i1, .int i2])).length) Slot.unset).toArray = ls at hl ⊢
  have hl : lv_has ls 3 [(0, .ref (a 0)), (1, .int i1), (2, .int i2)] := hl
  have hiX3 : ∀ w ∈ u_ws RX3 TX3 8, w ∈ wsX3_plateOf := by decide +kernel
  have hgX3_10 := hts (.fieldLink RX3 10 "SpringPlates" "laid" "LSpringPlates$Layout;") (by decide +kernel)
  have hiX0 : ∀ w ∈ u_ws RX0 TX0 6, w ∈ wsX3_plateOf := by decide +kernel
  have hgX0_85 := hts (.fieldLink RX3 85 "SpringPlates$Layout" "loads" "[I") (by decide +kernel)
  have hgX0_95 := hts (.fieldLink RX3 95 "SpringPlates$Layout" "strengths" "[I") (by decide +kernel)
  have hgX0_98 := hts (.fieldLink RX3 98 "SpringPlates$Layout" "lengths" "[I") (by decide +kernel)
  have hc84 := hts (.constant RX3 84 (-1000001)) (by decide +kernel)
  refine nameH (fun H locs hHe hLe => ?_)
  have hP : va_P (dC, dI) vwCl [k3_0 a aA aB aR aT aS vX, k0_0 aA vA, k0_1 cI aA vA, k0_2 cI aA vA, k0_3 cI aA vA, k0_4 cI aA vA] H := by rw [hHe]; exact hP
  have hS : va_S A s.heap H locs := by rw [hHe, hLe]; exact va_S.rf
  unfold fX3_plateOf at hf
  refine lv_aload_n hx hb dX3_plateOf_0 rfl (lv_at hl 0 rfl) ?_
  refine va_get (D := (dC, dI)) (ci := 3) (v := .ref (aA 0)) (C := RX3) (T := TX3) (N := 8) hx hb hts hiX3 hown hK hP 0 rfl rfl 0 (by decide) hgX3_10 (fun _ h9 => h9) rfl dX3_plateOf_1 ?_
  refine lv_iload_n hx hb dX3_plateOf_4 rfl (lv_at hl 1 rfl) ?_
  obtain ⟨y1, hy1, hf⟩ := obind hf
  refine cg_i (ws := [k3_0 a aA aB aR aT aS vX, k0_0 aA vA, k0_1 cI aA vA, k0_2 cI aA vA, k0_3 cI aA vA, k0_4 cI aA vA]) (wc := [k0_0 aA vA, k0_1 cI aA vA, k0_2 cI aA vA, k0_3 cI aA vA, k0_4 cI aA vA]) (wr := [k3_0 a aA aB aR aT aS vX]) (w1 := [k0_0 aA vA, k0_1 cI aA vA, k0_2 cI aA vA, k0_3 cI aA vA, k0_4 cI aA vA]) (wo := [k3_0 a aA aB aR aT aS vX, k0_0 aA vA, k0_1 cI aA vA, k0_2 cI aA vA, k0_3 cI aA vA, k0_4 cI aA vA]) hP hD hS hA (va_runV (As := [.int i1]) (rest := []) ⟨hx, hb, hml, hown, hts⟩ (mX0_hasPlate l dC dI cI cJ aA H.size vA i1 y1 hy1) (cwV 1 hts gX3_plateOf_X0_hasPlate rfl rfl rfl (by decide +kernel) ⟨Nat.le_of_ble_eq_true rfl, Nat.le_of_ble_eq_true rfl⟩) ⟨cFB, va_recv hK hP (ci := 0) (q0 := 1) rfl rfl, cPre hK hN hS (va_free (wc := [k0_0 aA vA, k0_1 cI aA vA, k0_2 cI aA vA, k0_3 cI aA vA, k0_4 cI aA vA]) hD hS hA [1, 2, 3, 4, 5] rfl) (hP.sub [1, 2, 3, 4, 5] rfl) (hD.sub [1, 2, 3, 4, 5] rfl rfl)⟩ rfl rfl hl.1 rfl (lv_room (Nat.le_of_ble_eq_true rfl)) dX3_plateOf_5 ⟨Nat.le_of_ble_eq_true rfl, Nat.le_of_ble_eq_true rfl⟩) [1, 2, 3, 4, 5] [0] [0, 1, 2, 3, 4, 5] rfl rfl rfl (by decide +kernel) rfl rfl (fun H locs hP hD hS => ?_)
  refine lv_if_ne (tgt := 14) hx hb dX3_plateOf_8 (by decide) (fun c2 => ?_) (fun c2 => ?_)
  · have hf := oif_f c2 hf
    refine lv_iload_n hx hb dX3_plateOf_14 rfl (lv_at hl 2 rfl) ?_
    by_cases c3 : i2 = 0
    · have hf := oif_t c3 hf
      refine lv_tableIn (tgt := 56) hx hb dX3_plateOf_15 (by rw [c3]; decide) (by rw [c3]; decide) (by rw [c3]; rfl) (by decide) ?_
      refine lv_aload_n hx hb dX3_plateOf_56 rfl (lv_at hl 0 rfl) ?_
      refine va_get (D := (dC, dI)) (ci := 3) (v := .ref (aA 0)) (C := RX3) (T := TX3) (N := 8) hx hb hts hiX3 hown hK hP 0 rfl rfl 0 (by decide) hgX3_10 (fun _ h9 => h9) rfl dX3_plateOf_57 ?_
      refine va_get (D := (dC, dI)) (ci := 0) (v := .ref (aA 3)) (C := RX0) (T := TX0) (N := 6) hx hb hts hiX0 hown hK hP 1 rfl rfl 4 (by decide) hgX0_85 (fun _ h9 => h9) rfl dX3_plateOf_60 ?_
      refine lv_iload_n hx hb dX3_plateOf_63 rfl (lv_at hl 1 rfl) ?_
      obtain ⟨hi4, hf⟩ := oinb rfl hf
      refine va_iald hx hb hK hP 4 0 rfl rfl hi4 dX3_plateOf_64 ?_
      refine lv_sipush (v := 1000) hx hb dX3_plateOf_65 (by decide) ?_
      refine lv_iadd hx hb dX3_plateOf_68 ?_
      obtain rfl := Option.some.inj hf
      exact W.iret (v := (((p0_loads vA) (i1).toNatClampNeg) + (1000 : Int32))) hx hb hr (fun t ht hW => ⟨⟨(((p0_loads vA) (i1).toNatClampNeg) + (1000 : Int32)), (), rfl, rfl, by rw [ht]; exact hP, hD⟩, hS.F ht⟩) hS.2.2 dX3_plateOf_69
    · have hf := oif_f c3 hf
      by_cases c5 : i2 = 1
      · have hf := oif_t c5 hf
        refine lv_tableIn (tgt := 70) hx hb dX3_plateOf_15 (by rw [c5]; decide) (by rw [c5]; decide) (by rw [c5]; rfl) (by decide) ?_
        refine lv_aload_n hx hb dX3_plateOf_70 rfl (lv_at hl 0 rfl) ?_
        refine va_get (D := (dC, dI)) (ci := 3) (v := .ref (aA 0)) (C := RX3) (T := TX3) (N := 8) hx hb hts hiX3 hown hK hP 0 rfl rfl 0 (by decide) hgX3_10 (fun _ h9 => h9) rfl dX3_plateOf_71 ?_
        refine lv_iload_n hx hb dX3_plateOf_74 rfl (lv_at hl 1 rfl) ?_
        refine lv_iconst (v := 0) hx hb dX3_plateOf_75 (by decide) ?_
        obtain ⟨y6, hy6, hf⟩ := obind hf
        refine cg_i (ws := [k3_0 a aA aB aR aT aS vX, k0_0 aA vA, k0_1 cI aA vA, k0_2 cI aA vA, k0_3 cI aA vA, k0_4 cI aA vA]) (wc := [k0_0 aA vA, k0_1 cI aA vA, k0_2 cI aA vA, k0_3 cI aA vA, k0_4 cI aA vA]) (wr := [k3_0 a aA aB aR aT aS vX]) (w1 := [k0_0 aA vA, k0_1 cI aA vA, k0_2 cI aA vA, k0_3 cI aA vA, k0_4 cI aA vA]) (wo := [k3_0 a aA aB aR aT aS vX, k0_0 aA vA, k0_1 cI aA vA, k0_2 cI aA vA, k0_3 cI aA vA, k0_4 cI aA vA]) hP hD hS hA (va_runV (As := [.int i1, .int 0]) (rest := []) ⟨hx, hb, hml, hown, hts⟩ (mX0_stopOf l dC dI cI cJ aA H.size vA i1 (0 : Int32) y6 hy6) (cwV 2 hts gX3_plateOf_X0_stopOf rfl rfl rfl (by decide +kernel) ⟨Nat.le_of_ble_eq_true rfl, Nat.le_of_ble_eq_true rfl⟩) ⟨cFB, va_recv hK hP (ci := 0) (q0 := 1) rfl rfl, cPre hK hN hS (va_free (wc := [k0_0 aA vA, k0_1 cI aA vA, k0_2 cI aA vA, k0_3 cI aA vA, k0_4 cI aA vA]) hD hS hA [1, 2, 3, 4, 5] rfl) (hP.sub [1, 2, 3, 4, 5] rfl) (hD.sub [1, 2, 3, 4, 5] rfl rfl)⟩ rfl rfl hl.1 rfl (lv_room (Nat.le_of_ble_eq_true rfl)) dX3_plateOf_76 ⟨Nat.le_of_ble_eq_true rfl, Nat.le_of_ble_eq_true rfl⟩) [1, 2, 3, 4, 5] [0] [0, 1, 2, 3, 4, 5] rfl rfl rfl (by decide +kernel) rfl rfl (fun H locs hP hD hS => ?_)
        obtain ⟨y7, hy7, hf⟩ := obind hf
        refine cg_i (ws := [k3_0 a aA aB aR aT aS vX, k0_0 aA vA, k0_1 cI aA vA, k0_2 cI aA vA, k0_3 cI aA vA, k0_4 cI aA vA]) (wc := []) (wr := [k3_0 a aA aB aR aT aS vX, k0_0 aA vA, k0_1 cI aA vA, k0_2 cI aA vA, k0_3 cI aA vA, k0_4 cI aA vA]) (w1 := []) (wo := [k3_0 a aA aB aR aT aS vX, k0_0 aA vA, k0_1 cI aA vA, k0_2 cI aA vA, k0_3 cI aA vA, k0_4 cI aA vA]) hP hD hS hA (va_runS (As := [.int y6]) (rest := []) ⟨hx, hb, hml, hown, hts⟩ (mX3_placeOrNotFound l dC dI cI cJ  H.size y6 y7 hy7) (va_cwS 1 hts gX3_plateOf_X3_placeOrNotFound rfl rfl rfl (by decide +kernel) ⟨Nat.le_of_ble_eq_true rfl, Nat.le_of_ble_eq_true rfl⟩) ⟨cFB, cPre hK hN hS (va_free (wc := []) hD hS hA [] rfl) (hP.sub [] rfl) (hD.sub [] rfl rfl)⟩ rfl rfl hl.1 rfl (lv_room (Nat.le_of_ble_eq_true rfl)) dX3_plateOf_79 ⟨Nat.le_of_ble_eq_true rfl, Nat.le_of_ble_eq_true rfl⟩) [] [0, 1, 2, 3, 4, 5] [0, 1, 2, 3, 4, 5] rfl rfl rfl (by decide +kernel) rfl rfl (fun H locs hP hD hS => ?_)
        obtain rfl := Option.some.inj hf
        exact W.iret (v := y7) hx hb hr (fun t ht hW => ⟨⟨y7, (), rfl, rfl, by rw [ht]; exact hP, hD⟩, hS.F ht⟩) hS.2.2 dX3_plateOf_82
      · have hf := oif_f c5 hf
        by_cases c8 : i2 = 2
        · have hf := oif_t c8 hf
          refine lv_tableIn (tgt := 83) hx hb dX3_plateOf_15 (by rw [c8]; decide) (by rw [c8]; decide) (by rw [c8]; rfl) (by decide) ?_
          refine lv_aload_n hx hb dX3_plateOf_83 rfl (lv_at hl 0 rfl) ?_
          refine va_get (D := (dC, dI)) (ci := 3) (v := .ref (aA 0)) (C := RX3) (T := TX3) (N := 8) hx hb hts hiX3 hown hK hP 0 rfl rfl 0 (by decide) hgX3_10 (fun _ h9 => h9) rfl dX3_plateOf_84 ?_
          refine lv_iload_n hx hb dX3_plateOf_87 rfl (lv_at hl 1 rfl) ?_
          refine lv_iconst (v := 1) hx hb dX3_plateOf_88 (by decide) ?_
          obtain ⟨y9, hy9, hf⟩ := obind hf
          refine cg_i (ws := [k3_0 a aA aB aR aT aS vX, k0_0 aA vA, k0_1 cI aA vA, k0_2 cI aA vA, k0_3 cI aA vA, k0_4 cI aA vA]) (wc := [k0_0 aA vA, k0_1 cI aA vA, k0_2 cI aA vA, k0_3 cI aA vA, k0_4 cI aA vA]) (wr := [k3_0 a aA aB aR aT aS vX]) (w1 := [k0_0 aA vA, k0_1 cI aA vA, k0_2 cI aA vA, k0_3 cI aA vA, k0_4 cI aA vA]) (wo := [k3_0 a aA aB aR aT aS vX, k0_0 aA vA, k0_1 cI aA vA, k0_2 cI aA vA, k0_3 cI aA vA, k0_4 cI aA vA]) hP hD hS hA (va_runV (As := [.int i1, .int 1]) (rest := []) ⟨hx, hb, hml, hown, hts⟩ (mX0_stopOf l dC dI cI cJ aA H.size vA i1 (1 : Int32) y9 hy9) (cwV 2 hts gX3_plateOf_X0_stopOf rfl rfl rfl (by decide +kernel) ⟨Nat.le_of_ble_eq_true rfl, Nat.le_of_ble_eq_true rfl⟩) ⟨cFB, va_recv hK hP (ci := 0) (q0 := 1) rfl rfl, cPre hK hN hS (va_free (wc := [k0_0 aA vA, k0_1 cI aA vA, k0_2 cI aA vA, k0_3 cI aA vA, k0_4 cI aA vA]) hD hS hA [1, 2, 3, 4, 5] rfl) (hP.sub [1, 2, 3, 4, 5] rfl) (hD.sub [1, 2, 3, 4, 5] rfl rfl)⟩ rfl rfl hl.1 rfl (lv_room (Nat.le_of_ble_eq_true rfl)) dX3_plateOf_89 ⟨Nat.le_of_ble_eq_true rfl, Nat.le_of_ble_eq_true rfl⟩) [1, 2, 3, 4, 5] [0] [0, 1, 2, 3, 4, 5] rfl rfl rfl (by decide +kernel) rfl rfl (fun H locs hP hD hS => ?_)
          obtain ⟨y10, hy10, hf⟩ := obind hf
          refine cg_i (ws := [k3_0 a aA aB aR aT aS vX, k0_0 aA vA, k0_1 cI aA vA, k0_2 cI aA vA, k0_3 cI aA vA, k0_4 cI aA vA]) (wc := []) (wr := [k3_0 a aA aB aR aT aS vX, k0_0 aA vA, k0_1 cI aA vA, k0_2 cI aA vA, k0_3 cI aA vA, k0_4 cI aA vA]) (w1 := []) (wo := [k3_0 a aA aB aR aT aS vX, k0_0 aA vA, k0_1 cI aA vA, k0_2 cI aA vA, k0_3 cI aA vA, k0_4 cI aA vA]) hP hD hS hA (va_runS (As := [.int y9]) (rest := []) ⟨hx, hb, hml, hown, hts⟩ (mX3_placeOrNotFound l dC dI cI cJ  H.size y9 y10 hy10) (va_cwS 1 hts gX3_plateOf_X3_placeOrNotFound rfl rfl rfl (by decide +kernel) ⟨Nat.le_of_ble_eq_true rfl, Nat.le_of_ble_eq_true rfl⟩) ⟨cFB, cPre hK hN hS (va_free (wc := []) hD hS hA [] rfl) (hP.sub [] rfl) (hD.sub [] rfl rfl)⟩ rfl rfl hl.1 rfl (lv_room (Nat.le_of_ble_eq_true rfl)) dX3_plateOf_92 ⟨Nat.le_of_ble_eq_true rfl, Nat.le_of_ble_eq_true rfl⟩) [] [0, 1, 2, 3, 4, 5] [0, 1, 2, 3, 4, 5] rfl rfl rfl (by decide +kernel) rfl rfl (fun H locs hP hD hS => ?_)
          obtain rfl := Option.some.inj hf
          exact W.iret (v := y10) hx hb hr (fun t ht hW => ⟨⟨y10, (), rfl, rfl, by rw [ht]; exact hP, hD⟩, hS.F ht⟩) hS.2.2 dX3_plateOf_95
        · have hf := oif_f c8 hf
          by_cases c11 : i2 = 3
          · have hf := oif_t c11 hf
            refine lv_tableIn (tgt := 96) hx hb dX3_plateOf_15 (by rw [c11]; decide) (by rw [c11]; decide) (by rw [c11]; rfl) (by decide) ?_
            refine lv_aload_n hx hb dX3_plateOf_96 rfl (lv_at hl 0 rfl) ?_
            refine va_get (D := (dC, dI)) (ci := 3) (v := .ref (aA 0)) (C := RX3) (T := TX3) (N := 8) hx hb hts hiX3 hown hK hP 0 rfl rfl 0 (by decide) hgX3_10 (fun _ h9 => h9) rfl dX3_plateOf_97 ?_
            refine va_get (D := (dC, dI)) (ci := 0) (v := .ref (aA 1)) (C := RX0) (T := TX0) (N := 6) hx hb hts hiX0 hown hK hP 1 rfl rfl 2 (by decide) hgX0_95 (fun _ h9 => h9) rfl dX3_plateOf_100 ?_
            refine lv_iload_n hx hb dX3_plateOf_103 rfl (lv_at hl 1 rfl) ?_
            obtain ⟨hi12, hf⟩ := oinb rfl hf
            refine va_iald hx hb hK hP 2 0 rfl rfl hi12 dX3_plateOf_104 ?_
            obtain rfl := Option.some.inj hf
            exact W.iret (v := ((p0_strengths vA) (i1).toNatClampNeg)) hx hb hr (fun t ht hW => ⟨⟨((p0_strengths vA) (i1).toNatClampNeg), (), rfl, rfl, by rw [ht]; exact hP, hD⟩, hS.F ht⟩) hS.2.2 dX3_plateOf_105
          · have hf := oif_f c11 hf
            by_cases c13 : i2 = 4
            · have hf := oif_t c13 hf
              refine lv_tableIn (tgt := 106) hx hb dX3_plateOf_15 (by rw [c13]; decide) (by rw [c13]; decide) (by rw [c13]; rfl) (by decide) ?_
              refine lv_aload_n hx hb dX3_plateOf_106 rfl (lv_at hl 0 rfl) ?_
              refine va_get (D := (dC, dI)) (ci := 3) (v := .ref (aA 0)) (C := RX3) (T := TX3) (N := 8) hx hb hts hiX3 hown hK hP 0 rfl rfl 0 (by decide) hgX3_10 (fun _ h9 => h9) rfl dX3_plateOf_107 ?_
              refine va_get (D := (dC, dI)) (ci := 0) (v := .ref (aA 2)) (C := RX0) (T := TX0) (N := 6) hx hb hts hiX0 hown hK hP 1 rfl rfl 3 (by decide) hgX0_98 (fun _ h9 => h9) rfl dX3_plateOf_110 ?_
              refine lv_iload_n hx hb dX3_plateOf_113 rfl (lv_at hl 1 rfl) ?_
              obtain ⟨hi14, hf⟩ := oinb rfl hf
              refine va_iald hx hb hK hP 3 0 rfl rfl hi14 dX3_plateOf_114 ?_
              obtain rfl := Option.some.inj hf
              exact W.iret (v := ((p0_lengths vA) (i1).toNatClampNeg)) hx hb hr (fun t ht hW => ⟨⟨((p0_lengths vA) (i1).toNatClampNeg), (), rfl, rfl, by rw [ht]; exact hP, hD⟩, hS.F ht⟩) hS.2.2 dX3_plateOf_115
            · have hf := oif_f c13 hf
              by_cases c15 : i2 = 5
              · have hf := oif_t c15 hf
                refine lv_tableIn (tgt := 116) hx hb dX3_plateOf_15 (by rw [c15]; decide) (by rw [c15]; decide) (by rw [c15]; rfl) (by decide) ?_
                refine lv_aload_n hx hb dX3_plateOf_116 rfl (lv_at hl 0 rfl) ?_
                refine va_get (D := (dC, dI)) (ci := 3) (v := .ref (aA 0)) (C := RX3) (T := TX3) (N := 8) hx hb hts hiX3 hown hK hP 0 rfl rfl 0 (by decide) hgX3_10 (fun _ h9 => h9) rfl dX3_plateOf_117 ?_
                refine va_get (D := (dC, dI)) (ci := 0) (v := .ref (aA 1)) (C := RX0) (T := TX0) (N := 6) hx hb hts hiX0 hown hK hP 1 rfl rfl 2 (by decide) hgX0_95 (fun _ h9 => h9) rfl dX3_plateOf_120 ?_
                refine lv_iload_n hx hb dX3_plateOf_123 rfl (lv_at hl 1 rfl) ?_
                refine lv_iconst (v := 1) hx hb dX3_plateOf_124 (by decide) ?_
                refine lv_iadd hx hb dX3_plateOf_125 ?_
                obtain ⟨hi16, hf⟩ := oinb rfl hf
                refine va_iald hx hb hK hP 2 0 rfl rfl hi16 dX3_plateOf_126 ?_
                obtain rfl := Option.some.inj hf
                exact W.iret (v := ((p0_strengths vA) ((i1 + (1 : Int32))).toNatClampNeg)) hx hb hr (fun t ht hW => ⟨⟨((p0_strengths vA) ((i1 + (1 : Int32))).toNatClampNeg), (), rfl, rfl, by rw [ht]; exact hP, hD⟩, hS.F ht⟩) hS.2.2 dX3_plateOf_127
              · have hf := oif_f c15 hf
                by_cases c17 : i2 = 6
                · have hf := oif_t c17 hf
                  refine lv_tableIn (tgt := 128) hx hb dX3_plateOf_15 (by rw [c17]; decide) (by rw [c17]; decide) (by rw [c17]; rfl) (by decide) ?_
                  refine lv_aload_n hx hb dX3_plateOf_128 rfl (lv_at hl 0 rfl) ?_
                  refine va_get (D := (dC, dI)) (ci := 3) (v := .ref (aA 0)) (C := RX3) (T := TX3) (N := 8) hx hb hts hiX3 hown hK hP 0 rfl rfl 0 (by decide) hgX3_10 (fun _ h9 => h9) rfl dX3_plateOf_129 ?_
                  refine va_get (D := (dC, dI)) (ci := 0) (v := .ref (aA 2)) (C := RX0) (T := TX0) (N := 6) hx hb hts hiX0 hown hK hP 1 rfl rfl 3 (by decide) hgX0_98 (fun _ h9 => h9) rfl dX3_plateOf_132 ?_
                  refine lv_iload_n hx hb dX3_plateOf_135 rfl (lv_at hl 1 rfl) ?_
                  refine lv_iconst (v := 1) hx hb dX3_plateOf_136 (by decide) ?_
                  refine lv_iadd hx hb dX3_plateOf_137 ?_
                  obtain ⟨hi18, hf⟩ := oinb rfl hf
                  refine va_iald hx hb hK hP 3 0 rfl rfl hi18 dX3_plateOf_138 ?_
                  obtain rfl := Option.some.inj hf
                  exact W.iret (v := ((p0_lengths vA) ((i1 + (1 : Int32))).toNatClampNeg)) hx hb hr (fun t ht hW => ⟨⟨((p0_lengths vA) ((i1 + (1 : Int32))).toNatClampNeg), (), rfl, rfl, by rw [ht]; exact hP, hD⟩, hS.F ht⟩) hS.2.2 dX3_plateOf_139
                · have hf := oif_f c17 hf
                  refine lv_tableOut (tgt := 140) hx hb dX3_plateOf_15 (by have t0 := toInt_ne (n := 0) rfl c3; have t1 := toInt_ne (n := 1) rfl c5; have t2 := toInt_ne (n := 2) rfl c8; have t3 := toInt_ne (n := 3) rfl c11; have t4 := toInt_ne (n := 4) rfl c13; have t5 := toInt_ne (n := 5) rfl c15; have t6 := toInt_ne (n := 6) rfl c17; omega) (by decide) ?_
                  refine lv_ldc (v := (-1000001)) hx hb hown hc84 dX3_plateOf_140 ?_
                  obtain rfl := Option.some.inj hf
                  exact W.iret (v := (-1000001)) hx hb hr (fun t ht hW => ⟨⟨(-1000001), (), rfl, rfl, by rw [ht]; exact hP, hD⟩, hS.F ht⟩) hS.2.2 dX3_plateOf_142
  · have hf := oif_t c2 hf
    refine lv_ldc (v := (-1000001)) hx hb hown hc84 dX3_plateOf_11 ?_
    obtain rfl := Option.some.inj hf
    exact W.iret (v := (-1000001)) hx hb hr (fun t ht hW => ⟨⟨(-1000001), (), rfl, rfl, by rw [ht]; exact hP, hD⟩, hS.F ht⟩) hS.2.2 dX3_plateOf_13
def fX3_freshTrial (vX : BX3) (vA : BX0) (vB : BX0) : Option BX0 :=
  (fX0_copyFrom vB vA).bind (fun y1 => some y1)
set_option maxHeartbeats 8000000 in
set_option maxRecDepth 100000 in
theorem mX3_freshTrial (l : Launch) (dC : Nat → ClassId) (dI : Nat → Nat → Nat) (cI cJ : ClassId) (a : Nat → Nat) (aA : Nat → Nat) (aB : Nat → Nat) (aR : Nat → Nat) (aT : Nat → Nat) (aS : Nat → Nat) (sz : Nat) (vX : BX3) (vA : BX0) (vB : BX0) (y : BX0) (hf : fX3_freshTrial vX vA vB = some y) : Met l yX3_freshTrial wsX3_freshTrial ({ frames := 2, cells := 0, slots := 0, locals := 45 }) (cPc dC dI cI cJ [.ref (a 0)] [k3_0 a aA aB aR aT aS vX, k0_0 aA vA, k0_1 cI aA vA, k0_2 cI aA vA, k0_3 cI aA vA, k0_4 cI aA vA, k0_0 aB vB, k0_1 cI aB vB, k0_2 cI aB vB, k0_3 cI aB vB, k0_4 cI aB vB] sz) (va_Qr (fun (_ : Unit) => True) (fun _ ra t => ra = (aB 0) ∧ cB dC dI (va_A [k3_0 a aA aB aR aT aS vX, k0_0 aA vA, k0_1 cI aA vA, k0_2 cI aA vA, k0_3 cI aA vA, k0_4 cI aA vA, k0_0 aB vB, k0_1 cI aB vB, k0_2 cI aB vB, k0_3 cI aB vB, k0_4 cI aB vB] sz) [k3_0 a aA aB aR aT aS vX, k0_0 aA vA, k0_1 cI aA vA, k0_2 cI aA vA, k0_3 cI aA vA, k0_4 cI aA vA, k0_0 aB y, k0_1 cI aB y, k0_2 cI aB y, k0_3 cI aB y, k0_4 cI aB y] t) (va_A [k3_0 a aA aB aR aT aS vX, k0_0 aA vA, k0_1 cI aA vA, k0_2 cI aA vA, k0_3 cI aA vA, k0_4 cI aA vA, k0_0 aB vB, k0_1 cI aB vB, k0_2 cI aB vB, k0_3 cI aB vB, k0_4 cI aB vB] sz)) 0 0 (va_A [k3_0 a aA aB aR aT aS vX, k0_0 aA vA, k0_1 cI aA vA, k0_2 cI aA vA, k0_3 cI aA vA, k0_4 cI aA vA, k0_0 aB vB, k0_1 cI aB vB, k0_2 cI aB vB, k0_3 cI aB vB, k0_4 cI aB vB] sz) := by
  refine Met.ofW (cc := cX3_freshTrial) (maxL := 1) (ret := (some (.object "SpringPlates$Layout"))) (by decide) rfl ?_
  intro p e s m args below meth c s₁ B hml hv
  obtain ⟨rfl, hsz, hP, hK, hD0, hN⟩ := hv
  have hx := B.exec
  have hb := B.bytes
  have hr := B.returns
  have hts := atoms_spec (ws := wsX3_freshTrial) B.pre
  have hown : s.vm.findClass RX3 = some m.cls := findClass_of_methodNamed B.named
  have hlocks := B.notSynchronized
  subst hsz
  have hD := hD0.self (sz := s.heap.size)
  generalize hAe : va_A [k3_0 a aA aB aR aT aS vX, k0_0 aA vA, k0_1 cI aA vA, k0_2 cI aA vA, k0_3 cI aA vA, k0_4 cI aA vA, k0_0 aB vB, k0_1 cI aB vB, k0_2 cI aB vB, k0_3 cI aB vB, k0_4 cI aB vB] s.heap.size = A at hD hN ⊢
  have hA : ∀ q : Nat, s.heap.size ≤ q → A q := fun q h => by rw [← hAe]; exact Or.inr h
  have hP : va_P (dC, dI) vwCl [k3_0 a aA aB aR aT aS vX, k0_0 aA vA, k0_1 cI aA vA, k0_2 cI aA vA, k0_3 cI aA vA, k0_4 cI aA vA, k0_0 aB vB, k0_1 cI aB vB, k0_2 cI aB vB, k0_3 cI aB vB, k0_4 cI aB vB] s.heap := hP
  have hl := lv_entry ([.ref (a 0)]) (n := 1) (Nat.le_of_ble_eq_true rfl)
  rw [lg_entry_eq]
  generalize (lg_sl ([.ref (a 0)]) ++ List.replicate (1 - (lg_sl ([.ref (a 0)])).length) Slot.unset).toArray = ls at hl ⊢
  have hl : lv_has ls 1 [(0, .ref (a 0))] := hl
  have hiX3 : ∀ w ∈ u_ws RX3 TX3 8, w ∈ wsX3_freshTrial := by decide +kernel
  have hgX3_16 := hts (.fieldLink RX3 16 "SpringPlates" "trial" "LSpringPlates$Layout;") (by decide +kernel)
  have hgX3_10 := hts (.fieldLink RX3 10 "SpringPlates" "laid" "LSpringPlates$Layout;") (by decide +kernel)
  refine nameH (fun H locs hHe hLe => ?_)
  have hP : va_P (dC, dI) vwCl [k3_0 a aA aB aR aT aS vX, k0_0 aA vA, k0_1 cI aA vA, k0_2 cI aA vA, k0_3 cI aA vA, k0_4 cI aA vA, k0_0 aB vB, k0_1 cI aB vB, k0_2 cI aB vB, k0_3 cI aB vB, k0_4 cI aB vB] H := by rw [hHe]; exact hP
  have hS : va_S A s.heap H locs := by rw [hHe, hLe]; exact va_S.rf
  unfold fX3_freshTrial at hf
  refine lv_aload_n hx hb dX3_freshTrial_0 rfl (lv_at hl 0 rfl) ?_
  refine va_get (D := (dC, dI)) (ci := 3) (v := .ref (aB 0)) (C := RX3) (T := TX3) (N := 8) hx hb hts hiX3 hown hK hP 0 rfl rfl 1 (by decide) hgX3_16 (fun _ h9 => h9) rfl dX3_freshTrial_1 ?_
  refine lv_aload_n hx hb dX3_freshTrial_4 rfl (lv_at hl 0 rfl) ?_
  refine va_get (D := (dC, dI)) (ci := 3) (v := .ref (aA 0)) (C := RX3) (T := TX3) (N := 8) hx hb hts hiX3 hown hK hP 0 rfl rfl 0 (by decide) hgX3_10 (fun _ h9 => h9) rfl dX3_freshTrial_5 ?_
  obtain ⟨y1, hy1, hf⟩ := obind hf
  refine cg_v (ws := [k3_0 a aA aB aR aT aS vX, k0_0 aA vA, k0_1 cI aA vA, k0_2 cI aA vA, k0_3 cI aA vA, k0_4 cI aA vA, k0_0 aB vB, k0_1 cI aB vB, k0_2 cI aB vB, k0_3 cI aB vB, k0_4 cI aB vB]) (wc := [k0_0 aB vB, k0_1 cI aB vB, k0_2 cI aB vB, k0_3 cI aB vB, k0_4 cI aB vB, k0_0 aA vA, k0_1 cI aA vA, k0_2 cI aA vA, k0_3 cI aA vA, k0_4 cI aA vA]) (wr := [k3_0 a aA aB aR aT aS vX]) (w1 := [k0_0 aB y1, k0_1 cI aB y1, k0_2 cI aB y1, k0_3 cI aB y1, k0_4 cI aB y1, k0_0 aA vA, k0_1 cI aA vA, k0_2 cI aA vA, k0_3 cI aA vA, k0_4 cI aA vA]) (wo := [k3_0 a aA aB aR aT aS vX, k0_0 aA vA, k0_1 cI aA vA, k0_2 cI aA vA, k0_3 cI aA vA, k0_4 cI aA vA, k0_0 aB y1, k0_1 cI aB y1, k0_2 cI aB y1, k0_3 cI aB y1, k0_4 cI aB y1]) hP hD hS hA (va_runV (As := [.ref (aA 0)]) (rest := []) ⟨hx, hb, hml, hown, hts⟩ (mX0_copyFrom l dC dI cI cJ aB aA H.size vB vA y1 hy1) (cwV 1 hts gX3_freshTrial_X0_copyFrom rfl rfl rfl (by decide +kernel) ⟨Nat.le_of_ble_eq_true rfl, Nat.le_of_ble_eq_true rfl⟩) ⟨cFB, va_recv hK hP (ci := 0) (q0 := 6) rfl rfl, cPre hK hN hS (va_free (wc := [k0_0 aB vB, k0_1 cI aB vB, k0_2 cI aB vB, k0_3 cI aB vB, k0_4 cI aB vB, k0_0 aA vA, k0_1 cI aA vA, k0_2 cI aA vA, k0_3 cI aA vA, k0_4 cI aA vA]) hD hS hA [6, 7, 8, 9, 10, 1, 2, 3, 4, 5] rfl) (hP.sub [6, 7, 8, 9, 10, 1, 2, 3, 4, 5] rfl) (hD.sub [6, 7, 8, 9, 10, 1, 2, 3, 4, 5] rfl rfl)⟩ rfl rfl hl.1 rfl (lv_room (Nat.le_of_ble_eq_true rfl)) dX3_freshTrial_8 ⟨Nat.le_of_ble_eq_true rfl, Nat.le_of_ble_eq_true rfl⟩) [6, 7, 8, 9, 10, 1, 2, 3, 4, 5] [0] [0, 6, 7, 8, 9, 10, 1, 2, 3, 4, 5] rfl rfl rfl (by decide +kernel) rfl rfl (fun H locs hP hD hS => ?_)
  refine lv_aload_n hx hb dX3_freshTrial_11 rfl (lv_at hl 0 rfl) ?_
  refine va_get (D := (dC, dI)) (ci := 3) (v := .ref (aB 0)) (C := RX3) (T := TX3) (N := 8) hx hb hts hiX3 hown hK hP 0 rfl rfl 1 (by decide) hgX3_16 (fun _ h9 => h9) rfl dX3_freshTrial_12 ?_
  obtain rfl := Option.some.inj hf
  exact W.aret (v := .ref (aB 0)) hx hb hr (Or.inl ⟨_, rfl⟩) (Or.inr ⟨_, rfl⟩) (fun t ht hW => ⟨⟨(), (aB 0), rfl, trivial, rfl, by rw [ht]; exact hP, hD⟩, hS.F ht⟩) hS.2.2 dX3_freshTrial_15
def fX3_settled (vX : BX3) (vA : BX0) (vR : BX1) : Option (BX3 × BX1) :=
  if (p3_restKnown vX) = 0 then ((fX1_settle vA vR).bind (fun y2 => elet (s3_restKnown vX 1) (fun b3 => some (b3, y2)))) else (some (vX, vR))
set_option maxHeartbeats 8000000 in
set_option maxRecDepth 100000 in
theorem mX3_settled (l : Launch) (dC : Nat → ClassId) (dI : Nat → Nat → Nat) (cI cJ : ClassId) (a : Nat → Nat) (aA : Nat → Nat) (aB : Nat → Nat) (aR : Nat → Nat) (aT : Nat → Nat) (aS : Nat → Nat) (sz : Nat) (vX : BX3) (vA : BX0) (vR : BX1) (y : (BX3 × BX1)) (hf : fX3_settled vX vA vR = some y) : Met l yX3_settled wsX3_settled ({ frames := 5, cells := 0, slots := 0, locals := 121 }) (cPc dC dI cI cJ [.ref (a 0)] [k3_0 a aA aB aR aT aS vX, k0_0 aA vA, k0_1 cI aA vA, k0_2 cI aA vA, k0_3 cI aA vA, k0_4 cI aA vA, k1_0 aR vR, k1_1 cJ aR vR, k1_2 cI aR vR, k1_3 cI aR vR, k1_4 cI aR vR, k1_5 cJ aR vR, k1_6 cJ aR vR, k1_7 cJ aR vR, k1_8 cJ aR vR, k1_9 cJ aR vR] sz) (va_Qr (fun (_ : Unit) => True) (fun _ ra t => ra = (aR 0) ∧ cB dC dI (va_A [k3_0 a aA aB aR aT aS vX, k0_0 aA vA, k0_1 cI aA vA, k0_2 cI aA vA, k0_3 cI aA vA, k0_4 cI aA vA, k1_0 aR vR, k1_1 cJ aR vR, k1_2 cI aR vR, k1_3 cI aR vR, k1_4 cI aR vR, k1_5 cJ aR vR, k1_6 cJ aR vR, k1_7 cJ aR vR, k1_8 cJ aR vR, k1_9 cJ aR vR] sz) [k3_0 a aA aB aR aT aS y.1, k0_0 aA vA, k0_1 cI aA vA, k0_2 cI aA vA, k0_3 cI aA vA, k0_4 cI aA vA, k1_0 aR y.2, k1_1 cJ aR y.2, k1_2 cI aR y.2, k1_3 cI aR y.2, k1_4 cI aR y.2, k1_5 cJ aR y.2, k1_6 cJ aR y.2, k1_7 cJ aR y.2, k1_8 cJ aR y.2, k1_9 cJ aR y.2] t) (va_A [k3_0 a aA aB aR aT aS vX, k0_0 aA vA, k0_1 cI aA vA, k0_2 cI aA vA, k0_3 cI aA vA, k0_4 cI aA vA, k1_0 aR vR, k1_1 cJ aR vR, k1_2 cI aR vR, k1_3 cI aR vR, k1_4 cI aR vR, k1_5 cJ aR vR, k1_6 cJ aR vR, k1_7 cJ aR vR, k1_8 cJ aR vR, k1_9 cJ aR vR] sz)) 0 0 (va_A [k3_0 a aA aB aR aT aS vX, k0_0 aA vA, k0_1 cI aA vA, k0_2 cI aA vA, k0_3 cI aA vA, k0_4 cI aA vA, k1_0 aR vR, k1_1 cJ aR vR, k1_2 cI aR vR, k1_3 cI aR vR, k1_4 cI aR vR, k1_5 cJ aR vR, k1_6 cJ aR vR, k1_7 cJ aR vR, k1_8 cJ aR vR, k1_9 cJ aR vR] sz) := by
  refine Met.ofW (cc := cX3_settled) (maxL := 1) (ret := (some (.object "SpringPlates$Rest"))) (by decide) rfl ?_
  intro p e s m args below meth c s₁ B hml hv
  obtain ⟨rfl, hsz, hP, hK, hD0, hN⟩ := hv
  have hx := B.exec
  have hb := B.bytes
  have hr := B.returns
  have hts := atoms_spec (ws := wsX3_settled) B.pre
  have hown : s.vm.findClass RX3 = some m.cls := findClass_of_methodNamed B.named
  have hlocks := B.notSynchronized
  subst hsz
  have hD := hD0.self (sz := s.heap.size)
  generalize hAe : va_A [k3_0 a aA aB aR aT aS vX, k0_0 aA vA, k0_1 cI aA vA, k0_2 cI aA vA, k0_3 cI aA vA, k0_4 cI aA vA, k1_0 aR vR, k1_1 cJ aR vR, k1_2 cI aR vR, k1_3 cI aR vR, k1_4 cI aR vR, k1_5 cJ aR vR, k1_6 cJ aR vR, k1_7 cJ aR vR, k1_8 cJ aR vR, k1_9 cJ aR vR] s.heap.size = A at hD hN ⊢
  have hA : ∀ q : Nat, s.heap.size ≤ q → A q := fun q h => by rw [← hAe]; exact Or.inr h
  have hP : va_P (dC, dI) vwCl [k3_0 a aA aB aR aT aS vX, k0_0 aA vA, k0_1 cI aA vA, k0_2 cI aA vA, k0_3 cI aA vA, k0_4 cI aA vA, k1_0 aR vR, k1_1 cJ aR vR, k1_2 cI aR vR, k1_3 cI aR vR, k1_4 cI aR vR, k1_5 cJ aR vR, k1_6 cJ aR vR, k1_7 cJ aR vR, k1_8 cJ aR vR, k1_9 cJ aR vR] s.heap := hP
  have hl := lv_entry ([.ref (a 0)]) (n := 1) (Nat.le_of_ble_eq_true rfl)
  rw [lg_entry_eq]
  generalize (lg_sl ([.ref (a 0)]) ++ List.replicate (1 - (lg_sl ([.ref (a 0)])).length) Slot.unset).toArray = ls at hl ⊢
  have hl : lv_has ls 1 [(0, .ref (a 0))] := hl
  have hiX3 : ∀ w ∈ u_ws RX3 TX3 8, w ∈ wsX3_settled := by decide +kernel
  have hgX3_34 := hts (.fieldLink RX3 34 "SpringPlates" "restKnown" "Z") (by decide +kernel)
  have hgX3_30 := hts (.fieldLink RX3 30 "SpringPlates" "rest" "LSpringPlates$Rest;") (by decide +kernel)
  have hgX3_10 := hts (.fieldLink RX3 10 "SpringPlates" "laid" "LSpringPlates$Layout;") (by decide +kernel)
  refine nameH (fun H locs hHe hLe => ?_)
  have hP : va_P (dC, dI) vwCl [k3_0 a aA aB aR aT aS vX, k0_0 aA vA, k0_1 cI aA vA, k0_2 cI aA vA, k0_3 cI aA vA, k0_4 cI aA vA, k1_0 aR vR, k1_1 cJ aR vR, k1_2 cI aR vR, k1_3 cI aR vR, k1_4 cI aR vR, k1_5 cJ aR vR, k1_6 cJ aR vR, k1_7 cJ aR vR, k1_8 cJ aR vR, k1_9 cJ aR vR] H := by rw [hHe]; exact hP
  have hS : va_S A s.heap H locs := by rw [hHe, hLe]; exact va_S.rf
  unfold fX3_settled at hf
  refine lv_aload_n hx hb dX3_settled_0 rfl (lv_at hl 0 rfl) ?_
  refine va_get (D := (dC, dI)) (ci := 3) (v := .int (p3_restKnown vX)) (C := RX3) (T := TX3) (N := 8) hx hb hts hiX3 hown hK hP 0 rfl rfl 5 (by decide) hgX3_34 (fun _ h9 => h9) rfl dX3_settled_1 ?_
  refine lv_if_ne (tgt := 23) hx hb dX3_settled_4 (by decide) (fun c1 => ?_) (fun c1 => ?_)
  · have hf := oif_f c1 hf
    refine lv_aload_n hx hb dX3_settled_23 rfl (lv_at hl 0 rfl) ?_
    refine va_get (D := (dC, dI)) (ci := 3) (v := .ref (aR 0)) (C := RX3) (T := TX3) (N := 8) hx hb hts hiX3 hown hK hP 0 rfl rfl 4 (by decide) hgX3_30 (fun _ h9 => h9) rfl dX3_settled_24 ?_
    obtain rfl := Option.some.inj hf
    exact W.aret (v := .ref (aR 0)) hx hb hr (Or.inl ⟨_, rfl⟩) (Or.inr ⟨_, rfl⟩) (fun t ht hW => ⟨⟨(), (aR 0), rfl, trivial, rfl, by rw [ht]; exact hP, hD⟩, hS.F ht⟩) hS.2.2 dX3_settled_27
  · have hf := oif_t c1 hf
    refine lv_aload_n hx hb dX3_settled_7 rfl (lv_at hl 0 rfl) ?_
    refine va_get (D := (dC, dI)) (ci := 3) (v := .ref (aR 0)) (C := RX3) (T := TX3) (N := 8) hx hb hts hiX3 hown hK hP 0 rfl rfl 4 (by decide) hgX3_30 (fun _ h9 => h9) rfl dX3_settled_8 ?_
    refine lv_aload_n hx hb dX3_settled_11 rfl (lv_at hl 0 rfl) ?_
    refine va_get (D := (dC, dI)) (ci := 3) (v := .ref (aA 0)) (C := RX3) (T := TX3) (N := 8) hx hb hts hiX3 hown hK hP 0 rfl rfl 0 (by decide) hgX3_10 (fun _ h9 => h9) rfl dX3_settled_12 ?_
    obtain ⟨y2, hy2, hf⟩ := obind hf
    refine cg_v (ws := [k3_0 a aA aB aR aT aS vX, k0_0 aA vA, k0_1 cI aA vA, k0_2 cI aA vA, k0_3 cI aA vA, k0_4 cI aA vA, k1_0 aR vR, k1_1 cJ aR vR, k1_2 cI aR vR, k1_3 cI aR vR, k1_4 cI aR vR, k1_5 cJ aR vR, k1_6 cJ aR vR, k1_7 cJ aR vR, k1_8 cJ aR vR, k1_9 cJ aR vR]) (wc := [k0_0 aA vA, k0_1 cI aA vA, k0_2 cI aA vA, k0_3 cI aA vA, k0_4 cI aA vA, k1_0 aR vR, k1_1 cJ aR vR, k1_2 cI aR vR, k1_3 cI aR vR, k1_4 cI aR vR, k1_5 cJ aR vR, k1_6 cJ aR vR, k1_7 cJ aR vR, k1_8 cJ aR vR, k1_9 cJ aR vR]) (wr := [k3_0 a aA aB aR aT aS vX]) (w1 := [k0_0 aA vA, k0_1 cI aA vA, k0_2 cI aA vA, k0_3 cI aA vA, k0_4 cI aA vA, k1_0 aR y2, k1_1 cJ aR y2, k1_2 cI aR y2, k1_3 cI aR y2, k1_4 cI aR y2, k1_5 cJ aR y2, k1_6 cJ aR y2, k1_7 cJ aR y2, k1_8 cJ aR y2, k1_9 cJ aR y2]) (wo := [k3_0 a aA aB aR aT aS vX, k0_0 aA vA, k0_1 cI aA vA, k0_2 cI aA vA, k0_3 cI aA vA, k0_4 cI aA vA, k1_0 aR y2, k1_1 cJ aR y2, k1_2 cI aR y2, k1_3 cI aR y2, k1_4 cI aR y2, k1_5 cJ aR y2, k1_6 cJ aR y2, k1_7 cJ aR y2, k1_8 cJ aR y2, k1_9 cJ aR y2]) hP hD hS hA (va_runV (As := [.ref (aA 0)]) (rest := []) ⟨hx, hb, hml, hown, hts⟩ (mX1_settle l dC dI cI cJ aA aR H.size vA vR y2 hy2) (cwV 1 hts gX3_settled_X1_settle rfl rfl rfl (by decide +kernel) ⟨Nat.le_of_ble_eq_true rfl, Nat.le_of_ble_eq_true rfl⟩) ⟨cFB, va_recv hK hP (ci := 1) (q0 := 6) rfl rfl, cPre hK hN hS (va_free (wc := [k0_0 aA vA, k0_1 cI aA vA, k0_2 cI aA vA, k0_3 cI aA vA, k0_4 cI aA vA, k1_0 aR vR, k1_1 cJ aR vR, k1_2 cI aR vR, k1_3 cI aR vR, k1_4 cI aR vR, k1_5 cJ aR vR, k1_6 cJ aR vR, k1_7 cJ aR vR, k1_8 cJ aR vR, k1_9 cJ aR vR]) hD hS hA [1, 2, 3, 4, 5, 6, 7, 8, 9, 10, 11, 12, 13, 14, 15] rfl) (hP.sub [1, 2, 3, 4, 5, 6, 7, 8, 9, 10, 11, 12, 13, 14, 15] rfl) (hD.sub [1, 2, 3, 4, 5, 6, 7, 8, 9, 10, 11, 12, 13, 14, 15] rfl rfl)⟩ rfl rfl hl.1 rfl (lv_room (Nat.le_of_ble_eq_true rfl)) dX3_settled_15 ⟨Nat.le_of_ble_eq_true rfl, Nat.le_of_ble_eq_true rfl⟩) [1, 2, 3, 4, 5, 6, 7, 8, 9, 10, 11, 12, 13, 14, 15] [0] [0, 1, 2, 3, 4, 5, 6, 7, 8, 9, 10, 11, 12, 13, 14, 15] rfl rfl rfl (by decide +kernel) rfl rfl (fun H locs hP hD hS => ?_)
    refine lv_aload_n hx hb dX3_settled_18 rfl (lv_at hl 0 rfl) ?_
    refine lv_iconst (v := 1) hx hb dX3_settled_19 (by decide) ?_
    obtain ⟨b3, eb3, hf⟩ := elet_out hf
    refine va_put (D := (dC, dI)) (ci := 3) (v := .int 1) (ty := .boolean) (C := RX3) (T := TX3) (N := 8) hx hb hts hiX3 tyX3 tyX3_ok nmX3 hown hK hP hD hS 0 rfl rfl 5 (by decide) hgX3_34 (fun _ h9 => h9) rfl (by decide +kernel) rfl rfl (Nat.le_of_ble_eq_true rfl) dX3_settled_20 (fun H locs hP hD hS => ?_)
    have hP : va_P (dC, dI) vwCl [k3_0 a aA aB aR aT aS b3, k0_0 aA vA, k0_1 cI aA vA, k0_2 cI aA vA, k0_3 cI aA vA, k0_4 cI aA vA, k1_0 aR y2, k1_1 cJ aR y2, k1_2 cI aR y2, k1_3 cI aR y2, k1_4 cI aR y2, k1_5 cJ aR y2, k1_6 cJ aR y2, k1_7 cJ aR y2, k1_8 cJ aR y2, k1_9 cJ aR y2] H := by rw [eb3]; exact hP
    have hD : va_D A [k3_0 a aA aB aR aT aS b3, k0_0 aA vA, k0_1 cI aA vA, k0_2 cI aA vA, k0_3 cI aA vA, k0_4 cI aA vA, k1_0 aR y2, k1_1 cJ aR y2, k1_2 cI aR y2, k1_3 cI aR y2, k1_4 cI aR y2, k1_5 cJ aR y2, k1_6 cJ aR y2, k1_7 cJ aR y2, k1_8 cJ aR y2, k1_9 cJ aR y2] := by rw [eb3]; exact hD
    refine lv_aload_n hx hb dX3_settled_23 rfl (lv_at hl 0 rfl) ?_
    refine va_get (D := (dC, dI)) (ci := 3) (v := .ref (aR 0)) (C := RX3) (T := TX3) (N := 8) hx hb hts hiX3 hown hK hP 0 rfl rfl 4 (by decide) hgX3_30 (fun _ h9 => h9) rfl dX3_settled_24 ?_
    obtain rfl := Option.some.inj hf
    exact W.aret (v := .ref (aR 0)) hx hb hr (Or.inl ⟨_, rfl⟩) (Or.inr ⟨_, rfl⟩) (fun t ht hW => ⟨⟨(), (aR 0), rfl, trivial, rfl, by rw [ht]; exact hP, hD⟩, hS.F ht⟩) hS.2.2 dX3_settled_27
def fX3_place (vX : BX3) (vA : BX0) (vR : BX1) (i1 : Int32) (i2 : Int32) : Option (Int32 × BX3 × BX1) :=
  (fX0_hasPlate vA i1).bind (fun y1 => if y1 = 0 then (some ((-1000001), vX, vR)) else (if i2 < 0 then (some ((-1000001), vX, vR)) else (if i2 ≤ (2 : Int32) then ((fX3_settled vX vA vR).bind (fun y5 => if i2 = (2 : Int32) then ((fX1_wholePlaceOf y5.2 i1).bind (fun y9 => some (y9, y5.1, y5.2))) else ((fX1_upperPlaceOf y5.2 i1).bind (fun y7 => (fX3_inLowestTerms y7 (p1_lower y5.2) i2).bind (fun y8 => some ((y8).toInt32, y5.1, y5.2)))))) else (some ((-1000001), vX, vR)))))
set_option maxHeartbeats 8000000 in
set_option maxRecDepth 100000 in
theorem mX3_place (l : Launch) (dC : Nat → ClassId) (dI : Nat → Nat → Nat) (cI cJ : ClassId) (a : Nat → Nat) (aA : Nat → Nat) (aB : Nat → Nat) (aR : Nat → Nat) (aT : Nat → Nat) (aS : Nat → Nat) (sz : Nat) (vX : BX3) (vA : BX0) (vR : BX1) (i1 : Int32) (i2 : Int32) (y : (Int32 × BX3 × BX1)) (hf : fX3_place vX vA vR i1 i2 = some y) : Met l yX3_place wsX3_place ({ frames := 6, cells := 0, slots := 0, locals := 141 }) (cPc dC dI cI cJ [.ref (a 0), .int i1, .int i2] [k3_0 a aA aB aR aT aS vX, k0_0 aA vA, k0_1 cI aA vA, k0_2 cI aA vA, k0_3 cI aA vA, k0_4 cI aA vA, k1_0 aR vR, k1_1 cJ aR vR, k1_2 cI aR vR, k1_3 cI aR vR, k1_4 cI aR vR, k1_5 cJ aR vR, k1_6 cJ aR vR, k1_7 cJ aR vR, k1_8 cJ aR vR, k1_9 cJ aR vR] sz) (va_Qi (fun r (_ : Unit) => r = y.1) (fun _ t => cB dC dI (va_A [k3_0 a aA aB aR aT aS vX, k0_0 aA vA, k0_1 cI aA vA, k0_2 cI aA vA, k0_3 cI aA vA, k0_4 cI aA vA, k1_0 aR vR, k1_1 cJ aR vR, k1_2 cI aR vR, k1_3 cI aR vR, k1_4 cI aR vR, k1_5 cJ aR vR, k1_6 cJ aR vR, k1_7 cJ aR vR, k1_8 cJ aR vR, k1_9 cJ aR vR] sz) [k3_0 a aA aB aR aT aS y.2.1, k0_0 aA vA, k0_1 cI aA vA, k0_2 cI aA vA, k0_3 cI aA vA, k0_4 cI aA vA, k1_0 aR y.2.2, k1_1 cJ aR y.2.2, k1_2 cI aR y.2.2, k1_3 cI aR y.2.2, k1_4 cI aR y.2.2, k1_5 cJ aR y.2.2, k1_6 cJ aR y.2.2, k1_7 cJ aR y.2.2, k1_8 cJ aR y.2.2, k1_9 cJ aR y.2.2] t) (va_A [k3_0 a aA aB aR aT aS vX, k0_0 aA vA, k0_1 cI aA vA, k0_2 cI aA vA, k0_3 cI aA vA, k0_4 cI aA vA, k1_0 aR vR, k1_1 cJ aR vR, k1_2 cI aR vR, k1_3 cI aR vR, k1_4 cI aR vR, k1_5 cJ aR vR, k1_6 cJ aR vR, k1_7 cJ aR vR, k1_8 cJ aR vR, k1_9 cJ aR vR] sz)) 0 0 (va_A [k3_0 a aA aB aR aT aS vX, k0_0 aA vA, k0_1 cI aA vA, k0_2 cI aA vA, k0_3 cI aA vA, k0_4 cI aA vA, k1_0 aR vR, k1_1 cJ aR vR, k1_2 cI aR vR, k1_3 cI aR vR, k1_4 cI aR vR, k1_5 cJ aR vR, k1_6 cJ aR vR, k1_7 cJ aR vR, k1_8 cJ aR vR, k1_9 cJ aR vR] sz) := by
  refine Met.ofW (cc := cX3_place) (maxL := 4) (ret := (some .int)) (by decide) rfl ?_
  intro p e s m args below meth c s₁ B hml hv
  obtain ⟨rfl, hsz, hP, hK, hD0, hN⟩ := hv
  have hx := B.exec
  have hb := B.bytes
  have hr := B.returns
  have hts := atoms_spec (ws := wsX3_place) B.pre
  have hown : s.vm.findClass RX3 = some m.cls := findClass_of_methodNamed B.named
  have hlocks := B.notSynchronized
  subst hsz
  have hD := hD0.self (sz := s.heap.size)
  generalize hAe : va_A [k3_0 a aA aB aR aT aS vX, k0_0 aA vA, k0_1 cI aA vA, k0_2 cI aA vA, k0_3 cI aA vA, k0_4 cI aA vA, k1_0 aR vR, k1_1 cJ aR vR, k1_2 cI aR vR, k1_3 cI aR vR, k1_4 cI aR vR, k1_5 cJ aR vR, k1_6 cJ aR vR, k1_7 cJ aR vR, k1_8 cJ aR vR, k1_9 cJ aR vR] s.heap.size = A at hD hN ⊢
  have hA : ∀ q : Nat, s.heap.size ≤ q → A q := fun q h => by rw [← hAe]; exact Or.inr h
  have hP : va_P (dC, dI) vwCl [k3_0 a aA aB aR aT aS vX, k0_0 aA vA, k0_1 cI aA vA, k0_2 cI aA vA, k0_3 cI aA vA, k0_4 cI aA vA, k1_0 aR vR, k1_1 cJ aR vR, k1_2 cI aR vR, k1_3 cI aR vR, k1_4 cI aR vR, k1_5 cJ aR vR, k1_6 cJ aR vR, k1_7 cJ aR vR, k1_8 cJ aR vR, k1_9 cJ aR vR] s.heap := hP
  have hl := lv_entry ([.ref (a 0), .int i1, .int i2]) (n := 4) (Nat.le_of_ble_eq_true rfl)
  rw [lg_entry_eq]
  generalize (lg_sl ([.ref (a 0), .int i1, .int i2]) ++ List.replicate (4 - (lg_sl ([.ref (a 0), .int i1, .int i2])).length) Slot.unset).toArray = ls at hl ⊢
  have hl : lv_has ls 4 [(0, .ref (a 0)), (1, .int i1), (2, .int i2)] := hl
  have hiX3 : ∀ w ∈ u_ws RX3 TX3 8, w ∈ wsX3_place := by decide +kernel
  have hgX3_10 := hts (.fieldLink RX3 10 "SpringPlates" "laid" "LSpringPlates$Layout;") (by decide +kernel)
  have hc84 := hts (.constant RX3 84 (-1000001)) (by decide +kernel)
  have hiX1 : ∀ w ∈ u_ws RX1 TX1 10, w ∈ wsX3_place := by decide +kernel
  have hgX1_126 := hts (.fieldLink RX3 126 "SpringPlates$Rest" "lower" "J") (by decide +kernel)
  refine nameH (fun H locs hHe hLe => ?_)
  have hP : va_P (dC, dI) vwCl [k3_0 a aA aB aR aT aS vX, k0_0 aA vA, k0_1 cI aA vA, k0_2 cI aA vA, k0_3 cI aA vA, k0_4 cI aA vA, k1_0 aR vR, k1_1 cJ aR vR, k1_2 cI aR vR, k1_3 cI aR vR, k1_4 cI aR vR, k1_5 cJ aR vR, k1_6 cJ aR vR, k1_7 cJ aR vR, k1_8 cJ aR vR, k1_9 cJ aR vR] H := by rw [hHe]; exact hP
  have hS : va_S A s.heap H locs := by rw [hHe, hLe]; exact va_S.rf
  unfold fX3_place at hf
  refine lv_aload_n hx hb dX3_place_0 rfl (lv_at hl 0 rfl) ?_
  refine va_get (D := (dC, dI)) (ci := 3) (v := .ref (aA 0)) (C := RX3) (T := TX3) (N := 8) hx hb hts hiX3 hown hK hP 0 rfl rfl 0 (by decide) hgX3_10 (fun _ h9 => h9) rfl dX3_place_1 ?_
  refine lv_iload_n hx hb dX3_place_4 rfl (lv_at hl 1 rfl) ?_
  obtain ⟨y1, hy1, hf⟩ := obind hf
  refine cg_i (ws := [k3_0 a aA aB aR aT aS vX, k0_0 aA vA, k0_1 cI aA vA, k0_2 cI aA vA, k0_3 cI aA vA, k0_4 cI aA vA, k1_0 aR vR, k1_1 cJ aR vR, k1_2 cI aR vR, k1_3 cI aR vR, k1_4 cI aR vR, k1_5 cJ aR vR, k1_6 cJ aR vR, k1_7 cJ aR vR, k1_8 cJ aR vR, k1_9 cJ aR vR]) (wc := [k0_0 aA vA, k0_1 cI aA vA, k0_2 cI aA vA, k0_3 cI aA vA, k0_4 cI aA vA]) (wr := [k3_0 a aA aB aR aT aS vX, k1_0 aR vR, k1_1 cJ aR vR, k1_2 cI aR vR, k1_3 cI aR vR, k1_4 cI aR vR, k1_5 cJ aR vR, k1_6 cJ aR vR, k1_7 cJ aR vR, k1_8 cJ aR vR, k1_9 cJ aR vR]) (w1 := [k0_0 aA vA, k0_1 cI aA vA, k0_2 cI aA vA, k0_3 cI aA vA, k0_4 cI aA vA]) (wo := [k3_0 a aA aB aR aT aS vX, k0_0 aA vA, k0_1 cI aA vA, k0_2 cI aA vA, k0_3 cI aA vA, k0_4 cI aA vA, k1_0 aR vR, k1_1 cJ aR vR, k1_2 cI aR vR, k1_3 cI aR vR, k1_4 cI aR vR, k1_5 cJ aR vR, k1_6 cJ aR vR, k1_7 cJ aR vR, k1_8 cJ aR vR, k1_9 cJ aR vR]) hP hD hS hA (va_runV (As := [.int i1]) (rest := []) ⟨hx, hb, hml, hown, hts⟩ (mX0_hasPlate l dC dI cI cJ aA H.size vA i1 y1 hy1) (cwV 1 hts gX3_place_X0_hasPlate rfl rfl rfl (by decide +kernel) ⟨Nat.le_of_ble_eq_true rfl, Nat.le_of_ble_eq_true rfl⟩) ⟨cFB, va_recv hK hP (ci := 0) (q0 := 1) rfl rfl, cPre hK hN hS (va_free (wc := [k0_0 aA vA, k0_1 cI aA vA, k0_2 cI aA vA, k0_3 cI aA vA, k0_4 cI aA vA]) hD hS hA [1, 2, 3, 4, 5] rfl) (hP.sub [1, 2, 3, 4, 5] rfl) (hD.sub [1, 2, 3, 4, 5] rfl rfl)⟩ rfl rfl hl.1 rfl (lv_room (Nat.le_of_ble_eq_true rfl)) dX3_place_5 ⟨Nat.le_of_ble_eq_true rfl, Nat.le_of_ble_eq_true rfl⟩) [1, 2, 3, 4, 5] [0, 6, 7, 8, 9, 10, 11, 12, 13, 14, 15] [0, 11, 12, 13, 14, 15, 1, 2, 3, 4, 5, 6, 7, 8, 9, 10] rfl rfl rfl (by decide +kernel) rfl rfl (fun H locs hP hD hS => ?_)
  refine lv_if_eq (tgt := 20) hx hb dX3_place_8 (by decide) (fun c2 => ?_) (fun c2 => ?_)
  · have hf := oif_t c2 hf
    refine lv_ldc (v := (-1000001)) hx hb hown hc84 dX3_place_20 ?_
    obtain rfl := Option.some.inj hf
    exact W.iret (v := (-1000001)) hx hb hr (fun t ht hW => ⟨⟨(-1000001), (), rfl, rfl, by rw [ht]; exact hP, hD⟩, hS.F ht⟩) hS.2.2 dX3_place_22
  · have hf := oif_f c2 hf
    refine lv_iload_n hx hb dX3_place_11 rfl (lv_at hl 2 rfl) ?_
    refine lv_if_lt (tgt := 20) hx hb dX3_place_12 (by decide) (fun c3 => ?_) (fun c3 => ?_)
    · have hf := oif_t c3 hf
      refine lv_ldc (v := (-1000001)) hx hb hown hc84 dX3_place_20 ?_
      obtain rfl := Option.some.inj hf
      exact W.iret (v := (-1000001)) hx hb hr (fun t ht hW => ⟨⟨(-1000001), (), rfl, rfl, by rw [ht]; exact hP, hD⟩, hS.F ht⟩) hS.2.2 dX3_place_22
    · have hf := oif_f c3 hf
      refine lv_iload_n hx hb dX3_place_15 rfl (lv_at hl 2 rfl) ?_
      refine lv_iconst (v := 2) hx hb dX3_place_16 (by decide) ?_
      refine lv_icmp_le (tgt := 23) hx hb dX3_place_17 (by decide) (fun c4 => ?_) (fun c4 => ?_)
      · have hf := oif_t c4 hf
        refine lv_aload_n hx hb dX3_place_23 rfl (lv_at hl 0 rfl) ?_
        obtain ⟨y5, hy5, hf⟩ := obind hf
        refine cg_r (ws := [k3_0 a aA aB aR aT aS vX, k0_0 aA vA, k0_1 cI aA vA, k0_2 cI aA vA, k0_3 cI aA vA, k0_4 cI aA vA, k1_0 aR vR, k1_1 cJ aR vR, k1_2 cI aR vR, k1_3 cI aR vR, k1_4 cI aR vR, k1_5 cJ aR vR, k1_6 cJ aR vR, k1_7 cJ aR vR, k1_8 cJ aR vR, k1_9 cJ aR vR]) (wc := [k3_0 a aA aB aR aT aS vX, k0_0 aA vA, k0_1 cI aA vA, k0_2 cI aA vA, k0_3 cI aA vA, k0_4 cI aA vA, k1_0 aR vR, k1_1 cJ aR vR, k1_2 cI aR vR, k1_3 cI aR vR, k1_4 cI aR vR, k1_5 cJ aR vR, k1_6 cJ aR vR, k1_7 cJ aR vR, k1_8 cJ aR vR, k1_9 cJ aR vR]) (wr := []) (w1 := [k3_0 a aA aB aR aT aS y5.1, k0_0 aA vA, k0_1 cI aA vA, k0_2 cI aA vA, k0_3 cI aA vA, k0_4 cI aA vA, k1_0 aR y5.2, k1_1 cJ aR y5.2, k1_2 cI aR y5.2, k1_3 cI aR y5.2, k1_4 cI aR y5.2, k1_5 cJ aR y5.2, k1_6 cJ aR y5.2, k1_7 cJ aR y5.2, k1_8 cJ aR y5.2, k1_9 cJ aR y5.2]) (wo := [k3_0 a aA aB aR aT aS y5.1, k0_0 aA vA, k0_1 cI aA vA, k0_2 cI aA vA, k0_3 cI aA vA, k0_4 cI aA vA, k1_0 aR y5.2, k1_1 cJ aR y5.2, k1_2 cI aR y5.2, k1_3 cI aR y5.2, k1_4 cI aR y5.2, k1_5 cJ aR y5.2, k1_6 cJ aR y5.2, k1_7 cJ aR y5.2, k1_8 cJ aR y5.2, k1_9 cJ aR y5.2]) hP hD hS hA (va_runV (As := []) (rest := []) ⟨hx, hb, hml, hown, hts⟩ (mX3_settled l dC dI cI cJ a aA aB aR aT aS H.size vX vA vR y5 hy5) (cwV 0 hts gX3_place_X3_settled rfl rfl rfl (by decide +kernel) ⟨Nat.le_of_ble_eq_true rfl, Nat.le_of_ble_eq_true rfl⟩) ⟨cFB, va_recv hK hP (ci := 3) (q0 := 0) rfl rfl, cPre hK hN hS (va_free (wc := [k3_0 a aA aB aR aT aS vX, k0_0 aA vA, k0_1 cI aA vA, k0_2 cI aA vA, k0_3 cI aA vA, k0_4 cI aA vA, k1_0 aR vR, k1_1 cJ aR vR, k1_2 cI aR vR, k1_3 cI aR vR, k1_4 cI aR vR, k1_5 cJ aR vR, k1_6 cJ aR vR, k1_7 cJ aR vR, k1_8 cJ aR vR, k1_9 cJ aR vR]) hD hS hA [0, 1, 2, 3, 4, 5, 6, 7, 8, 9, 10, 11, 12, 13, 14, 15] rfl) (hP.sub [0, 1, 2, 3, 4, 5, 6, 7, 8, 9, 10, 11, 12, 13, 14, 15] rfl) (hD.sub [0, 1, 2, 3, 4, 5, 6, 7, 8, 9, 10, 11, 12, 13, 14, 15] rfl rfl)⟩ rfl rfl hl.1 rfl (lv_room (Nat.le_of_ble_eq_true rfl)) dX3_place_24 ⟨Nat.le_of_ble_eq_true rfl, Nat.le_of_ble_eq_true rfl⟩) [0, 1, 2, 3, 4, 5, 6, 7, 8, 9, 10, 11, 12, 13, 14, 15] [] [0, 1, 2, 3, 4, 5, 6, 7, 8, 9, 10, 11, 12, 13, 14, 15] rfl rfl rfl (by decide +kernel) rfl rfl (fun H locs hP hD hS => ?_)
        refine lv_astore_n (lv' := [(3, .ref (aR 0)), (0, .ref (a 0)), (1, .int i1), (2, .int i2)]) hx hb dX3_place_27 rfl hl (by decide) rfl (fun ls hl => ?_)
        refine lv_iload_n hx hb dX3_place_28 rfl (lv_at hl 3 rfl) ?_
        refine lv_iconst (v := 2) hx hb dX3_place_29 (by decide) ?_
        refine lv_icmp_ne (tgt := 39) hx hb dX3_place_30 (by decide) (fun c6 => ?_) (fun c6 => ?_)
        · have hf := oif_f c6 hf
          refine lv_aload_n hx hb dX3_place_39 rfl (lv_at hl 0 rfl) ?_
          refine lv_iload_n hx hb dX3_place_40 rfl (lv_at hl 2 rfl) ?_
          obtain ⟨y7, hy7, hf⟩ := obind hf
          refine cg_l (ws := [k3_0 a aA aB aR aT aS y5.1, k0_0 aA vA, k0_1 cI aA vA, k0_2 cI aA vA, k0_3 cI aA vA, k0_4 cI aA vA, k1_0 aR y5.2, k1_1 cJ aR y5.2, k1_2 cI aR y5.2, k1_3 cI aR y5.2, k1_4 cI aR y5.2, k1_5 cJ aR y5.2, k1_6 cJ aR y5.2, k1_7 cJ aR y5.2, k1_8 cJ aR y5.2, k1_9 cJ aR y5.2]) (wc := [k1_0 aR y5.2, k1_1 cJ aR y5.2, k1_2 cI aR y5.2, k1_3 cI aR y5.2, k1_4 cI aR y5.2, k1_5 cJ aR y5.2, k1_6 cJ aR y5.2, k1_7 cJ aR y5.2, k1_8 cJ aR y5.2, k1_9 cJ aR y5.2]) (wr := [k3_0 a aA aB aR aT aS y5.1, k0_0 aA vA, k0_1 cI aA vA, k0_2 cI aA vA, k0_3 cI aA vA, k0_4 cI aA vA]) (w1 := [k1_0 aR y5.2, k1_1 cJ aR y5.2, k1_2 cI aR y5.2, k1_3 cI aR y5.2, k1_4 cI aR y5.2, k1_5 cJ aR y5.2, k1_6 cJ aR y5.2, k1_7 cJ aR y5.2, k1_8 cJ aR y5.2, k1_9 cJ aR y5.2]) (wo := [k3_0 a aA aB aR aT aS y5.1, k0_0 aA vA, k0_1 cI aA vA, k0_2 cI aA vA, k0_3 cI aA vA, k0_4 cI aA vA, k1_0 aR y5.2, k1_1 cJ aR y5.2, k1_2 cI aR y5.2, k1_3 cI aR y5.2, k1_4 cI aR y5.2, k1_5 cJ aR y5.2, k1_6 cJ aR y5.2, k1_7 cJ aR y5.2, k1_8 cJ aR y5.2, k1_9 cJ aR y5.2]) hP hD hS hA (va_runV (As := [.int i1]) (rest := []) ⟨hx, hb, hml, hown, hts⟩ (mX1_upperPlaceOf l dC dI cI cJ aR H.size y5.2 i1 y7 hy7) (cwV 1 hts gX3_place_X1_upperPlaceOf rfl rfl rfl (by decide +kernel) ⟨Nat.le_of_ble_eq_true rfl, Nat.le_of_ble_eq_true rfl⟩) ⟨cFB, va_recv hK hP (ci := 1) (q0 := 6) rfl rfl, cPre hK hN hS (va_free (wc := [k1_0 aR y5.2, k1_1 cJ aR y5.2, k1_2 cI aR y5.2, k1_3 cI aR y5.2, k1_4 cI aR y5.2, k1_5 cJ aR y5.2, k1_6 cJ aR y5.2, k1_7 cJ aR y5.2, k1_8 cJ aR y5.2, k1_9 cJ aR y5.2]) hD hS hA [6, 7, 8, 9, 10, 11, 12, 13, 14, 15] rfl) (hP.sub [6, 7, 8, 9, 10, 11, 12, 13, 14, 15] rfl) (hD.sub [6, 7, 8, 9, 10, 11, 12, 13, 14, 15] rfl rfl)⟩ rfl rfl hl.1 rfl (lv_room (Nat.le_of_ble_eq_true rfl)) dX3_place_41 ⟨Nat.le_of_ble_eq_true rfl, Nat.le_of_ble_eq_true rfl⟩) [6, 7, 8, 9, 10, 11, 12, 13, 14, 15] [0, 1, 2, 3, 4, 5] [0, 1, 2, 3, 4, 5, 6, 7, 8, 9, 10, 11, 12, 13, 14, 15] rfl rfl rfl (by decide +kernel) rfl rfl (fun H locs hP hD hS => ?_)
          refine lv_aload_n hx hb dX3_place_44 rfl (lv_at hl 0 rfl) ?_
          refine va_get (D := (dC, dI)) (ci := 1) (v := .long (p1_lower y5.2)) (C := RX1) (T := TX1) (N := 10) hx hb hts hiX1 hown hK hP 6 rfl rfl 1 (by decide) hgX1_126 (fun _ h9 => h9) rfl dX3_place_45 ?_
          refine lv_iload_n hx hb dX3_place_48 rfl (lv_at hl 3 rfl) ?_
          obtain ⟨y8, hy8, hf⟩ := obind hf
          refine cg_l (ws := [k3_0 a aA aB aR aT aS y5.1, k0_0 aA vA, k0_1 cI aA vA, k0_2 cI aA vA, k0_3 cI aA vA, k0_4 cI aA vA, k1_0 aR y5.2, k1_1 cJ aR y5.2, k1_2 cI aR y5.2, k1_3 cI aR y5.2, k1_4 cI aR y5.2, k1_5 cJ aR y5.2, k1_6 cJ aR y5.2, k1_7 cJ aR y5.2, k1_8 cJ aR y5.2, k1_9 cJ aR y5.2]) (wc := []) (wr := [k3_0 a aA aB aR aT aS y5.1, k0_0 aA vA, k0_1 cI aA vA, k0_2 cI aA vA, k0_3 cI aA vA, k0_4 cI aA vA, k1_0 aR y5.2, k1_1 cJ aR y5.2, k1_2 cI aR y5.2, k1_3 cI aR y5.2, k1_4 cI aR y5.2, k1_5 cJ aR y5.2, k1_6 cJ aR y5.2, k1_7 cJ aR y5.2, k1_8 cJ aR y5.2, k1_9 cJ aR y5.2]) (w1 := []) (wo := [k3_0 a aA aB aR aT aS y5.1, k0_0 aA vA, k0_1 cI aA vA, k0_2 cI aA vA, k0_3 cI aA vA, k0_4 cI aA vA, k1_0 aR y5.2, k1_1 cJ aR y5.2, k1_2 cI aR y5.2, k1_3 cI aR y5.2, k1_4 cI aR y5.2, k1_5 cJ aR y5.2, k1_6 cJ aR y5.2, k1_7 cJ aR y5.2, k1_8 cJ aR y5.2, k1_9 cJ aR y5.2]) hP hD hS hA (va_runS (As := [.long y7, .long (p1_lower y5.2), .int i2]) (rest := []) ⟨hx, hb, hml, hown, hts⟩ (mX3_inLowestTerms l dC dI cI cJ  H.size y7 (p1_lower y5.2) i2 y8 hy8) (va_cwS 3 hts gX3_place_X3_inLowestTerms rfl rfl rfl (by decide +kernel) ⟨Nat.le_of_ble_eq_true rfl, Nat.le_of_ble_eq_true rfl⟩) ⟨cFB, cPre hK hN hS (va_free (wc := []) hD hS hA [] rfl) (hP.sub [] rfl) (hD.sub [] rfl rfl)⟩ rfl rfl hl.1 rfl (lv_room (Nat.le_of_ble_eq_true rfl)) dX3_place_49 ⟨Nat.le_of_ble_eq_true rfl, Nat.le_of_ble_eq_true rfl⟩) [] [0, 1, 2, 3, 4, 5, 6, 7, 8, 9, 10, 11, 12, 13, 14, 15] [0, 1, 2, 3, 4, 5, 6, 7, 8, 9, 10, 11, 12, 13, 14, 15] rfl rfl rfl (by decide +kernel) rfl rfl (fun H locs hP hD hS => ?_)
          refine lv_l2i (v := (y8).toInt32) hx hb dX3_place_52 rfl ?_
          obtain rfl := Option.some.inj hf
          exact W.iret (v := (y8).toInt32) hx hb hr (fun t ht hW => ⟨⟨(y8).toInt32, (), rfl, rfl, by rw [ht]; exact hP, hD⟩, hS.F ht⟩) hS.2.2 dX3_place_53
        · have hf := oif_t c6 hf
          refine lv_aload_n hx hb dX3_place_33 rfl (lv_at hl 0 rfl) ?_
          refine lv_iload_n hx hb dX3_place_34 rfl (lv_at hl 2 rfl) ?_
          obtain ⟨y9, hy9, hf⟩ := obind hf
          refine cg_i (ws := [k3_0 a aA aB aR aT aS y5.1, k0_0 aA vA, k0_1 cI aA vA, k0_2 cI aA vA, k0_3 cI aA vA, k0_4 cI aA vA, k1_0 aR y5.2, k1_1 cJ aR y5.2, k1_2 cI aR y5.2, k1_3 cI aR y5.2, k1_4 cI aR y5.2, k1_5 cJ aR y5.2, k1_6 cJ aR y5.2, k1_7 cJ aR y5.2, k1_8 cJ aR y5.2, k1_9 cJ aR y5.2]) (wc := [k1_0 aR y5.2, k1_1 cJ aR y5.2, k1_2 cI aR y5.2, k1_3 cI aR y5.2, k1_4 cI aR y5.2, k1_5 cJ aR y5.2, k1_6 cJ aR y5.2, k1_7 cJ aR y5.2, k1_8 cJ aR y5.2, k1_9 cJ aR y5.2]) (wr := [k3_0 a aA aB aR aT aS y5.1, k0_0 aA vA, k0_1 cI aA vA, k0_2 cI aA vA, k0_3 cI aA vA, k0_4 cI aA vA]) (w1 := [k1_0 aR y5.2, k1_1 cJ aR y5.2, k1_2 cI aR y5.2, k1_3 cI aR y5.2, k1_4 cI aR y5.2, k1_5 cJ aR y5.2, k1_6 cJ aR y5.2, k1_7 cJ aR y5.2, k1_8 cJ aR y5.2, k1_9 cJ aR y5.2]) (wo := [k3_0 a aA aB aR aT aS y5.1, k0_0 aA vA, k0_1 cI aA vA, k0_2 cI aA vA, k0_3 cI aA vA, k0_4 cI aA vA, k1_0 aR y5.2, k1_1 cJ aR y5.2, k1_2 cI aR y5.2, k1_3 cI aR y5.2, k1_4 cI aR y5.2, k1_5 cJ aR y5.2, k1_6 cJ aR y5.2, k1_7 cJ aR y5.2, k1_8 cJ aR y5.2, k1_9 cJ aR y5.2]) hP hD hS hA (va_runV (As := [.int i1]) (rest := []) ⟨hx, hb, hml, hown, hts⟩ (mX1_wholePlaceOf l dC dI cI cJ aR H.size y5.2 i1 y9 hy9) (cwV 1 hts gX3_place_X1_wholePlaceOf rfl rfl rfl (by decide +kernel) ⟨Nat.le_of_ble_eq_true rfl, Nat.le_of_ble_eq_true rfl⟩) ⟨cFB, va_recv hK hP (ci := 1) (q0 := 6) rfl rfl, cPre hK hN hS (va_free (wc := [k1_0 aR y5.2, k1_1 cJ aR y5.2, k1_2 cI aR y5.2, k1_3 cI aR y5.2, k1_4 cI aR y5.2, k1_5 cJ aR y5.2, k1_6 cJ aR y5.2, k1_7 cJ aR y5.2, k1_8 cJ aR y5.2, k1_9 cJ aR y5.2]) hD hS hA [6, 7, 8, 9, 10, 11, 12, 13, 14, 15] rfl) (hP.sub [6, 7, 8, 9, 10, 11, 12, 13, 14, 15] rfl) (hD.sub [6, 7, 8, 9, 10, 11, 12, 13, 14, 15] rfl rfl)⟩ rfl rfl hl.1 rfl (lv_room (Nat.le_of_ble_eq_true rfl)) dX3_place_35 ⟨Nat.le_of_ble_eq_true rfl, Nat.le_of_ble_eq_true rfl⟩) [6, 7, 8, 9, 10, 11, 12, 13, 14, 15] [0, 1, 2, 3, 4, 5] [0, 1, 2, 3, 4, 5, 6, 7, 8, 9, 10, 11, 12, 13, 14, 15] rfl rfl rfl (by decide +kernel) rfl rfl (fun H locs hP hD hS => ?_)
          obtain rfl := Option.some.inj hf
          exact W.iret (v := y9) hx hb hr (fun t ht hW => ⟨⟨y9, (), rfl, rfl, by rw [ht]; exact hP, hD⟩, hS.F ht⟩) hS.2.2 dX3_place_38
      · have hf := oif_f c4 hf
        refine lv_ldc (v := (-1000001)) hx hb hown hc84 dX3_place_20 ?_
        obtain rfl := Option.some.inj hf
        exact W.iret (v := (-1000001)) hx hb hr (fun t ht hW => ⟨⟨(-1000001), (), rfl, rfl, by rw [ht]; exact hP, hD⟩, hS.F ht⟩) hS.2.2 dX3_place_22
def fX3_pull (vX : BX3) (vA : BX0) (vR : BX1) (i1 : Int32) (i2 : Int32) : Option (Int32 × BX3 × BX1) :=
  (fX0_hasSpring vA i1).bind (fun y1 => if y1 = 0 then (some ((-1000001), vX, vR)) else ((fX3_isPart i2).bind (fun y3 => if y3 = 0 then (some ((-1000001), vX, vR)) else ((fX3_settled vX vA vR).bind (fun y5 => (fX1_tensionOf vA y5.2 i1).bind (fun y6 => (fX3_forcePart y6 (p1_lower y5.2) i2).bind (fun y7 => some (y7, y5.1, y5.2))))))))
set_option maxHeartbeats 8000000 in
set_option maxRecDepth 100000 in
theorem mX3_pull (l : Launch) (dC : Nat → ClassId) (dI : Nat → Nat → Nat) (cI cJ : ClassId) (a : Nat → Nat) (aA : Nat → Nat) (aB : Nat → Nat) (aR : Nat → Nat) (aT : Nat → Nat) (aS : Nat → Nat) (sz : Nat) (vX : BX3) (vA : BX0) (vR : BX1) (i1 : Int32) (i2 : Int32) (y : (Int32 × BX3 × BX1)) (hf : fX3_pull vX vA vR i1 i2 = some y) : Met l yX3_pull wsX3_pull ({ frames := 6, cells := 0, slots := 0, locals := 141 }) (cPc dC dI cI cJ [.ref (a 0), .int i1, .int i2] [k3_0 a aA aB aR aT aS vX, k0_0 aA vA, k0_1 cI aA vA, k0_2 cI aA vA, k0_3 cI aA vA, k0_4 cI aA vA, k1_0 aR vR, k1_1 cJ aR vR, k1_2 cI aR vR, k1_3 cI aR vR, k1_4 cI aR vR, k1_5 cJ aR vR, k1_6 cJ aR vR, k1_7 cJ aR vR, k1_8 cJ aR vR, k1_9 cJ aR vR] sz) (va_Qi (fun r (_ : Unit) => r = y.1) (fun _ t => cB dC dI (va_A [k3_0 a aA aB aR aT aS vX, k0_0 aA vA, k0_1 cI aA vA, k0_2 cI aA vA, k0_3 cI aA vA, k0_4 cI aA vA, k1_0 aR vR, k1_1 cJ aR vR, k1_2 cI aR vR, k1_3 cI aR vR, k1_4 cI aR vR, k1_5 cJ aR vR, k1_6 cJ aR vR, k1_7 cJ aR vR, k1_8 cJ aR vR, k1_9 cJ aR vR] sz) [k3_0 a aA aB aR aT aS y.2.1, k0_0 aA vA, k0_1 cI aA vA, k0_2 cI aA vA, k0_3 cI aA vA, k0_4 cI aA vA, k1_0 aR y.2.2, k1_1 cJ aR y.2.2, k1_2 cI aR y.2.2, k1_3 cI aR y.2.2, k1_4 cI aR y.2.2, k1_5 cJ aR y.2.2, k1_6 cJ aR y.2.2, k1_7 cJ aR y.2.2, k1_8 cJ aR y.2.2, k1_9 cJ aR y.2.2] t) (va_A [k3_0 a aA aB aR aT aS vX, k0_0 aA vA, k0_1 cI aA vA, k0_2 cI aA vA, k0_3 cI aA vA, k0_4 cI aA vA, k1_0 aR vR, k1_1 cJ aR vR, k1_2 cI aR vR, k1_3 cI aR vR, k1_4 cI aR vR, k1_5 cJ aR vR, k1_6 cJ aR vR, k1_7 cJ aR vR, k1_8 cJ aR vR, k1_9 cJ aR vR] sz)) 0 0 (va_A [k3_0 a aA aB aR aT aS vX, k0_0 aA vA, k0_1 cI aA vA, k0_2 cI aA vA, k0_3 cI aA vA, k0_4 cI aA vA, k1_0 aR vR, k1_1 cJ aR vR, k1_2 cI aR vR, k1_3 cI aR vR, k1_4 cI aR vR, k1_5 cJ aR vR, k1_6 cJ aR vR, k1_7 cJ aR vR, k1_8 cJ aR vR, k1_9 cJ aR vR] sz) := by
  refine Met.ofW (cc := cX3_pull) (maxL := 4) (ret := (some .int)) (by decide) rfl ?_
  intro p e s m args below meth c s₁ B hml hv
  obtain ⟨rfl, hsz, hP, hK, hD0, hN⟩ := hv
  have hx := B.exec
  have hb := B.bytes
  have hr := B.returns
  have hts := atoms_spec (ws := wsX3_pull) B.pre
  have hown : s.vm.findClass RX3 = some m.cls := findClass_of_methodNamed B.named
  have hlocks := B.notSynchronized
  subst hsz
  have hD := hD0.self (sz := s.heap.size)
  generalize hAe : va_A [k3_0 a aA aB aR aT aS vX, k0_0 aA vA, k0_1 cI aA vA, k0_2 cI aA vA, k0_3 cI aA vA, k0_4 cI aA vA, k1_0 aR vR, k1_1 cJ aR vR, k1_2 cI aR vR, k1_3 cI aR vR, k1_4 cI aR vR, k1_5 cJ aR vR, k1_6 cJ aR vR, k1_7 cJ aR vR, k1_8 cJ aR vR, k1_9 cJ aR vR] s.heap.size = A at hD hN ⊢
  have hA : ∀ q : Nat, s.heap.size ≤ q → A q := fun q h => by rw [← hAe]; exact Or.inr h
  have hP : va_P (dC, dI) vwCl [k3_0 a aA aB aR aT aS vX, k0_0 aA vA, k0_1 cI aA vA, k0_2 cI aA vA, k0_3 cI aA vA, k0_4 cI aA vA, k1_0 aR vR, k1_1 cJ aR vR, k1_2 cI aR vR, k1_3 cI aR vR, k1_4 cI aR vR, k1_5 cJ aR vR, k1_6 cJ aR vR, k1_7 cJ aR vR, k1_8 cJ aR vR, k1_9 cJ aR vR] s.heap := hP
  have hl := lv_entry ([.ref (a 0), .int i1, .int i2]) (n := 4) (Nat.le_of_ble_eq_true rfl)
  rw [lg_entry_eq]
  generalize (lg_sl ([.ref (a 0), .int i1, .int i2]) ++ List.replicate (4 - (lg_sl ([.ref (a 0), .int i1, .int i2])).length) Slot.unset).toArray = ls at hl ⊢
  have hl : lv_has ls 4 [(0, .ref (a 0)), (1, .int i1), (2, .int i2)] := hl
  have hiX3 : ∀ w ∈ u_ws RX3 TX3 8, w ∈ wsX3_pull := by decide +kernel
  have hgX3_10 := hts (.fieldLink RX3 10 "SpringPlates" "laid" "LSpringPlates$Layout;") (by decide +kernel)
  have hc84 := hts (.constant RX3 84 (-1000001)) (by decide +kernel)
  have hiX1 : ∀ w ∈ u_ws RX1 TX1 10, w ∈ wsX3_pull := by decide +kernel
  have hgX1_126 := hts (.fieldLink RX3 126 "SpringPlates$Rest" "lower" "J") (by decide +kernel)
  refine nameH (fun H locs hHe hLe => ?_)
  have hP : va_P (dC, dI) vwCl [k3_0 a aA aB aR aT aS vX, k0_0 aA vA, k0_1 cI aA vA, k0_2 cI aA vA, k0_3 cI aA vA, k0_4 cI aA vA, k1_0 aR vR, k1_1 cJ aR vR, k1_2 cI aR vR, k1_3 cI aR vR, k1_4 cI aR vR, k1_5 cJ aR vR, k1_6 cJ aR vR, k1_7 cJ aR vR, k1_8 cJ aR vR, k1_9 cJ aR vR] H := by rw [hHe]; exact hP
  have hS : va_S A s.heap H locs := by rw [hHe, hLe]; exact va_S.rf
  unfold fX3_pull at hf
  refine lv_aload_n hx hb dX3_pull_0 rfl (lv_at hl 0 rfl) ?_
  refine va_get (D := (dC, dI)) (ci := 3) (v := .ref (aA 0)) (C := RX3) (T := TX3) (N := 8) hx hb hts hiX3 hown hK hP 0 rfl rfl 0 (by decide) hgX3_10 (fun _ h9 => h9) rfl dX3_pull_1 ?_
  refine lv_iload_n hx hb dX3_pull_4 rfl (lv_at hl 1 rfl) ?_
  obtain ⟨y1, hy1, hf⟩ := obind hf
  refine cg_i (ws := [k3_0 a aA aB aR aT aS vX, k0_0 aA vA, k0_1 cI aA vA, k0_2 cI aA vA, k0_3 cI aA vA, k0_4 cI aA vA, k1_0 aR vR, k1_1 cJ aR vR, k1_2 cI aR vR, k1_3 cI aR vR, k1_4 cI aR vR, k1_5 cJ aR vR, k1_6 cJ aR vR, k1_7 cJ aR vR, k1_8 cJ aR vR, k1_9 cJ aR vR]) (wc := [k0_0 aA vA, k0_1 cI aA vA, k0_2 cI aA vA, k0_3 cI aA vA, k0_4 cI aA vA]) (wr := [k3_0 a aA aB aR aT aS vX, k1_0 aR vR, k1_1 cJ aR vR, k1_2 cI aR vR, k1_3 cI aR vR, k1_4 cI aR vR, k1_5 cJ aR vR, k1_6 cJ aR vR, k1_7 cJ aR vR, k1_8 cJ aR vR, k1_9 cJ aR vR]) (w1 := [k0_0 aA vA, k0_1 cI aA vA, k0_2 cI aA vA, k0_3 cI aA vA, k0_4 cI aA vA]) (wo := [k3_0 a aA aB aR aT aS vX, k0_0 aA vA, k0_1 cI aA vA, k0_2 cI aA vA, k0_3 cI aA vA, k0_4 cI aA vA, k1_0 aR vR, k1_1 cJ aR vR, k1_2 cI aR vR, k1_3 cI aR vR, k1_4 cI aR vR, k1_5 cJ aR vR, k1_6 cJ aR vR, k1_7 cJ aR vR, k1_8 cJ aR vR, k1_9 cJ aR vR]) hP hD hS hA (va_runV (As := [.int i1]) (rest := []) ⟨hx, hb, hml, hown, hts⟩ (mX0_hasSpring l dC dI cI cJ aA H.size vA i1 y1 hy1) (cwV 1 hts gX3_pull_X0_hasSpring rfl rfl rfl (by decide +kernel) ⟨Nat.le_of_ble_eq_true rfl, Nat.le_of_ble_eq_true rfl⟩) ⟨cFB, va_recv hK hP (ci := 0) (q0 := 1) rfl rfl, cPre hK hN hS (va_free (wc := [k0_0 aA vA, k0_1 cI aA vA, k0_2 cI aA vA, k0_3 cI aA vA, k0_4 cI aA vA]) hD hS hA [1, 2, 3, 4, 5] rfl) (hP.sub [1, 2, 3, 4, 5] rfl) (hD.sub [1, 2, 3, 4, 5] rfl rfl)⟩ rfl rfl hl.1 rfl (lv_room (Nat.le_of_ble_eq_true rfl)) dX3_pull_5 ⟨Nat.le_of_ble_eq_true rfl, Nat.le_of_ble_eq_true rfl⟩) [1, 2, 3, 4, 5] [0, 6, 7, 8, 9, 10, 11, 12, 13, 14, 15] [0, 11, 12, 13, 14, 15, 1, 2, 3, 4, 5, 6, 7, 8, 9, 10] rfl rfl rfl (by decide +kernel) rfl rfl (fun H locs hP hD hS => ?_)
  refine lv_if_eq (tgt := 18) hx hb dX3_pull_8 (by decide) (fun c2 => ?_) (fun c2 => ?_)
  · have hf := oif_t c2 hf
    refine lv_ldc (v := (-1000001)) hx hb hown hc84 dX3_pull_18 ?_
    obtain rfl := Option.some.inj hf
    exact W.iret (v := (-1000001)) hx hb hr (fun t ht hW => ⟨⟨(-1000001), (), rfl, rfl, by rw [ht]; exact hP, hD⟩, hS.F ht⟩) hS.2.2 dX3_pull_20
  · have hf := oif_f c2 hf
    refine lv_iload_n hx hb dX3_pull_11 rfl (lv_at hl 2 rfl) ?_
    obtain ⟨y3, hy3, hf⟩ := obind hf
    refine cg_i (ws := [k3_0 a aA aB aR aT aS vX, k0_0 aA vA, k0_1 cI aA vA, k0_2 cI aA vA, k0_3 cI aA vA, k0_4 cI aA vA, k1_0 aR vR, k1_1 cJ aR vR, k1_2 cI aR vR, k1_3 cI aR vR, k1_4 cI aR vR, k1_5 cJ aR vR, k1_6 cJ aR vR, k1_7 cJ aR vR, k1_8 cJ aR vR, k1_9 cJ aR vR]) (wc := []) (wr := [k3_0 a aA aB aR aT aS vX, k0_0 aA vA, k0_1 cI aA vA, k0_2 cI aA vA, k0_3 cI aA vA, k0_4 cI aA vA, k1_0 aR vR, k1_1 cJ aR vR, k1_2 cI aR vR, k1_3 cI aR vR, k1_4 cI aR vR, k1_5 cJ aR vR, k1_6 cJ aR vR, k1_7 cJ aR vR, k1_8 cJ aR vR, k1_9 cJ aR vR]) (w1 := []) (wo := [k3_0 a aA aB aR aT aS vX, k0_0 aA vA, k0_1 cI aA vA, k0_2 cI aA vA, k0_3 cI aA vA, k0_4 cI aA vA, k1_0 aR vR, k1_1 cJ aR vR, k1_2 cI aR vR, k1_3 cI aR vR, k1_4 cI aR vR, k1_5 cJ aR vR, k1_6 cJ aR vR, k1_7 cJ aR vR, k1_8 cJ aR vR, k1_9 cJ aR vR]) hP hD hS hA (va_runS (As := [.int i2]) (rest := []) ⟨hx, hb, hml, hown, hts⟩ (mX3_isPart l dC dI cI cJ  H.size i2 y3 hy3) (va_cwS 1 hts gX3_pull_X3_isPart rfl rfl rfl (by decide +kernel) ⟨Nat.le_of_ble_eq_true rfl, Nat.le_of_ble_eq_true rfl⟩) ⟨cFB, cPre hK hN hS (va_free (wc := []) hD hS hA [] rfl) (hP.sub [] rfl) (hD.sub [] rfl rfl)⟩ rfl rfl hl.1 rfl (lv_room (Nat.le_of_ble_eq_true rfl)) dX3_pull_12 ⟨Nat.le_of_ble_eq_true rfl, Nat.le_of_ble_eq_true rfl⟩) [] [0, 1, 2, 3, 4, 5, 6, 7, 8, 9, 10, 11, 12, 13, 14, 15] [0, 1, 2, 3, 4, 5, 6, 7, 8, 9, 10, 11, 12, 13, 14, 15] rfl rfl rfl (by decide +kernel) rfl rfl (fun H locs hP hD hS => ?_)
    refine lv_if_ne (tgt := 21) hx hb dX3_pull_15 (by decide) (fun c4 => ?_) (fun c4 => ?_)
    · have hf := oif_f c4 hf
      refine lv_aload_n hx hb dX3_pull_21 rfl (lv_at hl 0 rfl) ?_
      obtain ⟨y5, hy5, hf⟩ := obind hf
      refine cg_r (ws := [k3_0 a aA aB aR aT aS vX, k0_0 aA vA, k0_1 cI aA vA, k0_2 cI aA vA, k0_3 cI aA vA, k0_4 cI aA vA, k1_0 aR vR, k1_1 cJ aR vR, k1_2 cI aR vR, k1_3 cI aR vR, k1_4 cI aR vR, k1_5 cJ aR vR, k1_6 cJ aR vR, k1_7 cJ aR vR, k1_8 cJ aR vR, k1_9 cJ aR vR]) (wc := [k3_0 a aA aB aR aT aS vX, k0_0 aA vA, k0_1 cI aA vA, k0_2 cI aA vA, k0_3 cI aA vA, k0_4 cI aA vA, k1_0 aR vR, k1_1 cJ aR vR, k1_2 cI aR vR, k1_3 cI aR vR, k1_4 cI aR vR, k1_5 cJ aR vR, k1_6 cJ aR vR, k1_7 cJ aR vR, k1_8 cJ aR vR, k1_9 cJ aR vR]) (wr := []) (w1 := [k3_0 a aA aB aR aT aS y5.1, k0_0 aA vA, k0_1 cI aA vA, k0_2 cI aA vA, k0_3 cI aA vA, k0_4 cI aA vA, k1_0 aR y5.2, k1_1 cJ aR y5.2, k1_2 cI aR y5.2, k1_3 cI aR y5.2, k1_4 cI aR y5.2, k1_5 cJ aR y5.2, k1_6 cJ aR y5.2, k1_7 cJ aR y5.2, k1_8 cJ aR y5.2, k1_9 cJ aR y5.2]) (wo := [k3_0 a aA aB aR aT aS y5.1, k0_0 aA vA, k0_1 cI aA vA, k0_2 cI aA vA, k0_3 cI aA vA, k0_4 cI aA vA, k1_0 aR y5.2, k1_1 cJ aR y5.2, k1_2 cI aR y5.2, k1_3 cI aR y5.2, k1_4 cI aR y5.2, k1_5 cJ aR y5.2, k1_6 cJ aR y5.2, k1_7 cJ aR y5.2, k1_8 cJ aR y5.2, k1_9 cJ aR y5.2]) hP hD hS hA (va_runV (As := []) (rest := []) ⟨hx, hb, hml, hown, hts⟩ (mX3_settled l dC dI cI cJ a aA aB aR aT aS H.size vX vA vR y5 hy5) (cwV 0 hts gX3_pull_X3_settled rfl rfl rfl (by decide +kernel) ⟨Nat.le_of_ble_eq_true rfl, Nat.le_of_ble_eq_true rfl⟩) ⟨cFB, va_recv hK hP (ci := 3) (q0 := 0) rfl rfl, cPre hK hN hS (va_free (wc := [k3_0 a aA aB aR aT aS vX, k0_0 aA vA, k0_1 cI aA vA, k0_2 cI aA vA, k0_3 cI aA vA, k0_4 cI aA vA, k1_0 aR vR, k1_1 cJ aR vR, k1_2 cI aR vR, k1_3 cI aR vR, k1_4 cI aR vR, k1_5 cJ aR vR, k1_6 cJ aR vR, k1_7 cJ aR vR, k1_8 cJ aR vR, k1_9 cJ aR vR]) hD hS hA [0, 1, 2, 3, 4, 5, 6, 7, 8, 9, 10, 11, 12, 13, 14, 15] rfl) (hP.sub [0, 1, 2, 3, 4, 5, 6, 7, 8, 9, 10, 11, 12, 13, 14, 15] rfl) (hD.sub [0, 1, 2, 3, 4, 5, 6, 7, 8, 9, 10, 11, 12, 13, 14, 15] rfl rfl)⟩ rfl rfl hl.1 rfl (lv_room (Nat.le_of_ble_eq_true rfl)) dX3_pull_22 ⟨Nat.le_of_ble_eq_true rfl, Nat.le_of_ble_eq_true rfl⟩) [0, 1, 2, 3, 4, 5, 6, 7, 8, 9, 10, 11, 12, 13, 14, 15] [] [0, 1, 2, 3, 4, 5, 6, 7, 8, 9, 10, 11, 12, 13, 14, 15] rfl rfl rfl (by decide +kernel) rfl rfl (fun H locs hP hD hS => ?_)
      refine lv_astore_n (lv' := [(3, .ref (aR 0)), (0, .ref (a 0)), (1, .int i1), (2, .int i2)]) hx hb dX3_pull_25 rfl hl (by decide) rfl (fun ls hl => ?_)
      refine lv_aload_n hx hb dX3_pull_26 rfl (lv_at hl 0 rfl) ?_
      refine lv_aload_n hx hb dX3_pull_27 rfl (lv_at hl 1 rfl) ?_
      refine va_get (D := (dC, dI)) (ci := 3) (v := .ref (aA 0)) (C := RX3) (T := TX3) (N := 8) hx hb hts hiX3 hown hK hP 0 rfl rfl 0 (by decide) hgX3_10 (fun _ h9 => h9) rfl dX3_pull_28 ?_
      refine lv_iload_n hx hb dX3_pull_31 rfl (lv_at hl 2 rfl) ?_
      obtain ⟨y6, hy6, hf⟩ := obind hf
      refine cg_l (ws := [k3_0 a aA aB aR aT aS y5.1, k0_0 aA vA, k0_1 cI aA vA, k0_2 cI aA vA, k0_3 cI aA vA, k0_4 cI aA vA, k1_0 aR y5.2, k1_1 cJ aR y5.2, k1_2 cI aR y5.2, k1_3 cI aR y5.2, k1_4 cI aR y5.2, k1_5 cJ aR y5.2, k1_6 cJ aR y5.2, k1_7 cJ aR y5.2, k1_8 cJ aR y5.2, k1_9 cJ aR y5.2]) (wc := [k0_0 aA vA, k0_1 cI aA vA, k0_2 cI aA vA, k0_3 cI aA vA, k0_4 cI aA vA, k1_0 aR y5.2, k1_1 cJ aR y5.2, k1_2 cI aR y5.2, k1_3 cI aR y5.2, k1_4 cI aR y5.2, k1_5 cJ aR y5.2, k1_6 cJ aR y5.2, k1_7 cJ aR y5.2, k1_8 cJ aR y5.2, k1_9 cJ aR y5.2]) (wr := [k3_0 a aA aB aR aT aS y5.1]) (w1 := [k0_0 aA vA, k0_1 cI aA vA, k0_2 cI aA vA, k0_3 cI aA vA, k0_4 cI aA vA, k1_0 aR y5.2, k1_1 cJ aR y5.2, k1_2 cI aR y5.2, k1_3 cI aR y5.2, k1_4 cI aR y5.2, k1_5 cJ aR y5.2, k1_6 cJ aR y5.2, k1_7 cJ aR y5.2, k1_8 cJ aR y5.2, k1_9 cJ aR y5.2]) (wo := [k3_0 a aA aB aR aT aS y5.1, k0_0 aA vA, k0_1 cI aA vA, k0_2 cI aA vA, k0_3 cI aA vA, k0_4 cI aA vA, k1_0 aR y5.2, k1_1 cJ aR y5.2, k1_2 cI aR y5.2, k1_3 cI aR y5.2, k1_4 cI aR y5.2, k1_5 cJ aR y5.2, k1_6 cJ aR y5.2, k1_7 cJ aR y5.2, k1_8 cJ aR y5.2, k1_9 cJ aR y5.2]) hP hD hS hA (va_runV (As := [.ref (aA 0), .int i1]) (rest := []) ⟨hx, hb, hml, hown, hts⟩ (mX1_tensionOf l dC dI cI cJ aA aR H.size vA y5.2 i1 y6 hy6) (cwV 2 hts gX3_pull_X1_tensionOf rfl rfl rfl (by decide +kernel) ⟨Nat.le_of_ble_eq_true rfl, Nat.le_of_ble_eq_true rfl⟩) ⟨cFB, va_recv hK hP (ci := 1) (q0 := 6) rfl rfl, cPre hK hN hS (va_free (wc := [k0_0 aA vA, k0_1 cI aA vA, k0_2 cI aA vA, k0_3 cI aA vA, k0_4 cI aA vA, k1_0 aR y5.2, k1_1 cJ aR y5.2, k1_2 cI aR y5.2, k1_3 cI aR y5.2, k1_4 cI aR y5.2, k1_5 cJ aR y5.2, k1_6 cJ aR y5.2, k1_7 cJ aR y5.2, k1_8 cJ aR y5.2, k1_9 cJ aR y5.2]) hD hS hA [1, 2, 3, 4, 5, 6, 7, 8, 9, 10, 11, 12, 13, 14, 15] rfl) (hP.sub [1, 2, 3, 4, 5, 6, 7, 8, 9, 10, 11, 12, 13, 14, 15] rfl) (hD.sub [1, 2, 3, 4, 5, 6, 7, 8, 9, 10, 11, 12, 13, 14, 15] rfl rfl)⟩ rfl rfl hl.1 rfl (lv_room (Nat.le_of_ble_eq_true rfl)) dX3_pull_32 ⟨Nat.le_of_ble_eq_true rfl, Nat.le_of_ble_eq_true rfl⟩) [1, 2, 3, 4, 5, 6, 7, 8, 9, 10, 11, 12, 13, 14, 15] [0] [0, 1, 2, 3, 4, 5, 6, 7, 8, 9, 10, 11, 12, 13, 14, 15] rfl rfl rfl (by decide +kernel) rfl rfl (fun H locs hP hD hS => ?_)
      refine lv_aload_n hx hb dX3_pull_35 rfl (lv_at hl 0 rfl) ?_
      refine va_get (D := (dC, dI)) (ci := 1) (v := .long (p1_lower y5.2)) (C := RX1) (T := TX1) (N := 10) hx hb hts hiX1 hown hK hP 6 rfl rfl 1 (by decide) hgX1_126 (fun _ h9 => h9) rfl dX3_pull_36 ?_
      refine lv_iload_n hx hb dX3_pull_39 rfl (lv_at hl 3 rfl) ?_
      obtain ⟨y7, hy7, hf⟩ := obind hf
      refine cg_i (ws := [k3_0 a aA aB aR aT aS y5.1, k0_0 aA vA, k0_1 cI aA vA, k0_2 cI aA vA, k0_3 cI aA vA, k0_4 cI aA vA, k1_0 aR y5.2, k1_1 cJ aR y5.2, k1_2 cI aR y5.2, k1_3 cI aR y5.2, k1_4 cI aR y5.2, k1_5 cJ aR y5.2, k1_6 cJ aR y5.2, k1_7 cJ aR y5.2, k1_8 cJ aR y5.2, k1_9 cJ aR y5.2]) (wc := []) (wr := [k3_0 a aA aB aR aT aS y5.1, k0_0 aA vA, k0_1 cI aA vA, k0_2 cI aA vA, k0_3 cI aA vA, k0_4 cI aA vA, k1_0 aR y5.2, k1_1 cJ aR y5.2, k1_2 cI aR y5.2, k1_3 cI aR y5.2, k1_4 cI aR y5.2, k1_5 cJ aR y5.2, k1_6 cJ aR y5.2, k1_7 cJ aR y5.2, k1_8 cJ aR y5.2, k1_9 cJ aR y5.2]) (w1 := []) (wo := [k3_0 a aA aB aR aT aS y5.1, k0_0 aA vA, k0_1 cI aA vA, k0_2 cI aA vA, k0_3 cI aA vA, k0_4 cI aA vA, k1_0 aR y5.2, k1_1 cJ aR y5.2, k1_2 cI aR y5.2, k1_3 cI aR y5.2, k1_4 cI aR y5.2, k1_5 cJ aR y5.2, k1_6 cJ aR y5.2, k1_7 cJ aR y5.2, k1_8 cJ aR y5.2, k1_9 cJ aR y5.2]) hP hD hS hA (va_runS (As := [.long y6, .long (p1_lower y5.2), .int i2]) (rest := []) ⟨hx, hb, hml, hown, hts⟩ (mX3_forcePart l dC dI cI cJ  H.size y6 (p1_lower y5.2) i2 y7 hy7) (va_cwS 3 hts gX3_pull_X3_forcePart rfl rfl rfl (by decide +kernel) ⟨Nat.le_of_ble_eq_true rfl, Nat.le_of_ble_eq_true rfl⟩) ⟨cFB, cPre hK hN hS (va_free (wc := []) hD hS hA [] rfl) (hP.sub [] rfl) (hD.sub [] rfl rfl)⟩ rfl rfl hl.1 rfl (lv_room (Nat.le_of_ble_eq_true rfl)) dX3_pull_40 ⟨Nat.le_of_ble_eq_true rfl, Nat.le_of_ble_eq_true rfl⟩) [] [0, 1, 2, 3, 4, 5, 6, 7, 8, 9, 10, 11, 12, 13, 14, 15] [0, 1, 2, 3, 4, 5, 6, 7, 8, 9, 10, 11, 12, 13, 14, 15] rfl rfl rfl (by decide +kernel) rfl rfl (fun H locs hP hD hS => ?_)
      obtain rfl := Option.some.inj hf
      exact W.iret (v := y7) hx hb hr (fun t ht hW => ⟨⟨y7, (), rfl, rfl, by rw [ht]; exact hP, hD⟩, hS.F ht⟩) hS.2.2 dX3_pull_43
    · have hf := oif_t c4 hf
      refine lv_ldc (v := (-1000001)) hx hb hown hc84 dX3_pull_18 ?_
      obtain rfl := Option.some.inj hf
      exact W.iret (v := (-1000001)) hx hb hr (fun t ht hW => ⟨⟨(-1000001), (), rfl, rfl, by rw [ht]; exact hP, hD⟩, hS.F ht⟩) hS.2.2 dX3_pull_20
def fX3_push (vX : BX3) (vA : BX0) (vR : BX1) (i1 : Int32) (i2 : Int32) : Option (Int32 × BX3 × BX1) :=
  (fX0_hasPlate vA i1).bind (fun y1 => if y1 = 0 then (some ((-1000001), vX, vR)) else ((fX3_isPart i2).bind (fun y3 => if y3 = 0 then (some ((-1000001), vX, vR)) else ((fX3_settled vX vA vR).bind (fun y5 => (fX1_forceOn vA y5.2 i1 i1).bind (fun y6 => (fX3_forcePart (-y6) (p1_lower y5.2) i2).bind (fun y7 => some (y7, y5.1, y5.2))))))))
set_option maxHeartbeats 8000000 in
set_option maxRecDepth 100000 in
theorem mX3_push (l : Launch) (dC : Nat → ClassId) (dI : Nat → Nat → Nat) (cI cJ : ClassId) (a : Nat → Nat) (aA : Nat → Nat) (aB : Nat → Nat) (aR : Nat → Nat) (aT : Nat → Nat) (aS : Nat → Nat) (sz : Nat) (vX : BX3) (vA : BX0) (vR : BX1) (i1 : Int32) (i2 : Int32) (y : (Int32 × BX3 × BX1)) (hf : fX3_push vX vA vR i1 i2 = some y) : Met l yX3_push wsX3_push ({ frames := 6, cells := 0, slots := 0, locals := 141 }) (cPc dC dI cI cJ [.ref (a 0), .int i1, .int i2] [k3_0 a aA aB aR aT aS vX, k0_0 aA vA, k0_1 cI aA vA, k0_2 cI aA vA, k0_3 cI aA vA, k0_4 cI aA vA, k1_0 aR vR, k1_1 cJ aR vR, k1_2 cI aR vR, k1_3 cI aR vR, k1_4 cI aR vR, k1_5 cJ aR vR, k1_6 cJ aR vR, k1_7 cJ aR vR, k1_8 cJ aR vR, k1_9 cJ aR vR] sz) (va_Qi (fun r (_ : Unit) => r = y.1) (fun _ t => cB dC dI (va_A [k3_0 a aA aB aR aT aS vX, k0_0 aA vA, k0_1 cI aA vA, k0_2 cI aA vA, k0_3 cI aA vA, k0_4 cI aA vA, k1_0 aR vR, k1_1 cJ aR vR, k1_2 cI aR vR, k1_3 cI aR vR, k1_4 cI aR vR, k1_5 cJ aR vR, k1_6 cJ aR vR, k1_7 cJ aR vR, k1_8 cJ aR vR, k1_9 cJ aR vR] sz) [k3_0 a aA aB aR aT aS y.2.1, k0_0 aA vA, k0_1 cI aA vA, k0_2 cI aA vA, k0_3 cI aA vA, k0_4 cI aA vA, k1_0 aR y.2.2, k1_1 cJ aR y.2.2, k1_2 cI aR y.2.2, k1_3 cI aR y.2.2, k1_4 cI aR y.2.2, k1_5 cJ aR y.2.2, k1_6 cJ aR y.2.2, k1_7 cJ aR y.2.2, k1_8 cJ aR y.2.2, k1_9 cJ aR y.2.2] t) (va_A [k3_0 a aA aB aR aT aS vX, k0_0 aA vA, k0_1 cI aA vA, k0_2 cI aA vA, k0_3 cI aA vA, k0_4 cI aA vA, k1_0 aR vR, k1_1 cJ aR vR, k1_2 cI aR vR, k1_3 cI aR vR, k1_4 cI aR vR, k1_5 cJ aR vR, k1_6 cJ aR vR, k1_7 cJ aR vR, k1_8 cJ aR vR, k1_9 cJ aR vR] sz)) 0 0 (va_A [k3_0 a aA aB aR aT aS vX, k0_0 aA vA, k0_1 cI aA vA, k0_2 cI aA vA, k0_3 cI aA vA, k0_4 cI aA vA, k1_0 aR vR, k1_1 cJ aR vR, k1_2 cI aR vR, k1_3 cI aR vR, k1_4 cI aR vR, k1_5 cJ aR vR, k1_6 cJ aR vR, k1_7 cJ aR vR, k1_8 cJ aR vR, k1_9 cJ aR vR] sz) := by
  refine Met.ofW (cc := cX3_push) (maxL := 4) (ret := (some .int)) (by decide) rfl ?_
  intro p e s m args below meth c s₁ B hml hv
  obtain ⟨rfl, hsz, hP, hK, hD0, hN⟩ := hv
  have hx := B.exec
  have hb := B.bytes
  have hr := B.returns
  have hts := atoms_spec (ws := wsX3_push) B.pre
  have hown : s.vm.findClass RX3 = some m.cls := findClass_of_methodNamed B.named
  have hlocks := B.notSynchronized
  subst hsz
  have hD := hD0.self (sz := s.heap.size)
  generalize hAe : va_A [k3_0 a aA aB aR aT aS vX, k0_0 aA vA, k0_1 cI aA vA, k0_2 cI aA vA, k0_3 cI aA vA, k0_4 cI aA vA, k1_0 aR vR, k1_1 cJ aR vR, k1_2 cI aR vR, k1_3 cI aR vR, k1_4 cI aR vR, k1_5 cJ aR vR, k1_6 cJ aR vR, k1_7 cJ aR vR, k1_8 cJ aR vR, k1_9 cJ aR vR] s.heap.size = A at hD hN ⊢
  have hA : ∀ q : Nat, s.heap.size ≤ q → A q := fun q h => by rw [← hAe]; exact Or.inr h
  have hP : va_P (dC, dI) vwCl [k3_0 a aA aB aR aT aS vX, k0_0 aA vA, k0_1 cI aA vA, k0_2 cI aA vA, k0_3 cI aA vA, k0_4 cI aA vA, k1_0 aR vR, k1_1 cJ aR vR, k1_2 cI aR vR, k1_3 cI aR vR, k1_4 cI aR vR, k1_5 cJ aR vR, k1_6 cJ aR vR, k1_7 cJ aR vR, k1_8 cJ aR vR, k1_9 cJ aR vR] s.heap := hP
  have hl := lv_entry ([.ref (a 0), .int i1, .int i2]) (n := 4) (Nat.le_of_ble_eq_true rfl)
  rw [lg_entry_eq]
  generalize (lg_sl ([.ref (a 0), .int i1, .int i2]) ++ List.replicate (4 - (lg_sl ([.ref (a 0), .int i1, .int i2])).length) Slot.unset).toArray = ls at hl ⊢
  have hl : lv_has ls 4 [(0, .ref (a 0)), (1, .int i1), (2, .int i2)] := hl
  have hiX3 : ∀ w ∈ u_ws RX3 TX3 8, w ∈ wsX3_push := by decide +kernel
  have hgX3_10 := hts (.fieldLink RX3 10 "SpringPlates" "laid" "LSpringPlates$Layout;") (by decide +kernel)
  have hc84 := hts (.constant RX3 84 (-1000001)) (by decide +kernel)
  have hiX1 : ∀ w ∈ u_ws RX1 TX1 10, w ∈ wsX3_push := by decide +kernel
  have hgX1_126 := hts (.fieldLink RX3 126 "SpringPlates$Rest" "lower" "J") (by decide +kernel)
  refine nameH (fun H locs hHe hLe => ?_)
  have hP : va_P (dC, dI) vwCl [k3_0 a aA aB aR aT aS vX, k0_0 aA vA, k0_1 cI aA vA, k0_2 cI aA vA, k0_3 cI aA vA, k0_4 cI aA vA, k1_0 aR vR, k1_1 cJ aR vR, k1_2 cI aR vR, k1_3 cI aR vR, k1_4 cI aR vR, k1_5 cJ aR vR, k1_6 cJ aR vR, k1_7 cJ aR vR, k1_8 cJ aR vR, k1_9 cJ aR vR] H := by rw [hHe]; exact hP
  have hS : va_S A s.heap H locs := by rw [hHe, hLe]; exact va_S.rf
  unfold fX3_push at hf
  refine lv_aload_n hx hb dX3_push_0 rfl (lv_at hl 0 rfl) ?_
  refine va_get (D := (dC, dI)) (ci := 3) (v := .ref (aA 0)) (C := RX3) (T := TX3) (N := 8) hx hb hts hiX3 hown hK hP 0 rfl rfl 0 (by decide) hgX3_10 (fun _ h9 => h9) rfl dX3_push_1 ?_
  refine lv_iload_n hx hb dX3_push_4 rfl (lv_at hl 1 rfl) ?_
  obtain ⟨y1, hy1, hf⟩ := obind hf
  refine cg_i (ws := [k3_0 a aA aB aR aT aS vX, k0_0 aA vA, k0_1 cI aA vA, k0_2 cI aA vA, k0_3 cI aA vA, k0_4 cI aA vA, k1_0 aR vR, k1_1 cJ aR vR, k1_2 cI aR vR, k1_3 cI aR vR, k1_4 cI aR vR, k1_5 cJ aR vR, k1_6 cJ aR vR, k1_7 cJ aR vR, k1_8 cJ aR vR, k1_9 cJ aR vR]) (wc := [k0_0 aA vA, k0_1 cI aA vA, k0_2 cI aA vA, k0_3 cI aA vA, k0_4 cI aA vA]) (wr := [k3_0 a aA aB aR aT aS vX, k1_0 aR vR, k1_1 cJ aR vR, k1_2 cI aR vR, k1_3 cI aR vR, k1_4 cI aR vR, k1_5 cJ aR vR, k1_6 cJ aR vR, k1_7 cJ aR vR, k1_8 cJ aR vR, k1_9 cJ aR vR]) (w1 := [k0_0 aA vA, k0_1 cI aA vA, k0_2 cI aA vA, k0_3 cI aA vA, k0_4 cI aA vA]) (wo := [k3_0 a aA aB aR aT aS vX, k0_0 aA vA, k0_1 cI aA vA, k0_2 cI aA vA, k0_3 cI aA vA, k0_4 cI aA vA, k1_0 aR vR, k1_1 cJ aR vR, k1_2 cI aR vR, k1_3 cI aR vR, k1_4 cI aR vR, k1_5 cJ aR vR, k1_6 cJ aR vR, k1_7 cJ aR vR, k1_8 cJ aR vR, k1_9 cJ aR vR]) hP hD hS hA (va_runV (As := [.int i1]) (rest := []) ⟨hx, hb, hml, hown, hts⟩ (mX0_hasPlate l dC dI cI cJ aA H.size vA i1 y1 hy1) (cwV 1 hts gX3_push_X0_hasPlate rfl rfl rfl (by decide +kernel) ⟨Nat.le_of_ble_eq_true rfl, Nat.le_of_ble_eq_true rfl⟩) ⟨cFB, va_recv hK hP (ci := 0) (q0 := 1) rfl rfl, cPre hK hN hS (va_free (wc := [k0_0 aA vA, k0_1 cI aA vA, k0_2 cI aA vA, k0_3 cI aA vA, k0_4 cI aA vA]) hD hS hA [1, 2, 3, 4, 5] rfl) (hP.sub [1, 2, 3, 4, 5] rfl) (hD.sub [1, 2, 3, 4, 5] rfl rfl)⟩ rfl rfl hl.1 rfl (lv_room (Nat.le_of_ble_eq_true rfl)) dX3_push_5 ⟨Nat.le_of_ble_eq_true rfl, Nat.le_of_ble_eq_true rfl⟩) [1, 2, 3, 4, 5] [0, 6, 7, 8, 9, 10, 11, 12, 13, 14, 15] [0, 11, 12, 13, 14, 15, 1, 2, 3, 4, 5, 6, 7, 8, 9, 10] rfl rfl rfl (by decide +kernel) rfl rfl (fun H locs hP hD hS => ?_)
  refine lv_if_eq (tgt := 18) hx hb dX3_push_8 (by decide) (fun c2 => ?_) (fun c2 => ?_)
  · have hf := oif_t c2 hf
    refine lv_ldc (v := (-1000001)) hx hb hown hc84 dX3_push_18 ?_
    obtain rfl := Option.some.inj hf
    exact W.iret (v := (-1000001)) hx hb hr (fun t ht hW => ⟨⟨(-1000001), (), rfl, rfl, by rw [ht]; exact hP, hD⟩, hS.F ht⟩) hS.2.2 dX3_push_20
  · have hf := oif_f c2 hf
    refine lv_iload_n hx hb dX3_push_11 rfl (lv_at hl 2 rfl) ?_
    obtain ⟨y3, hy3, hf⟩ := obind hf
    refine cg_i (ws := [k3_0 a aA aB aR aT aS vX, k0_0 aA vA, k0_1 cI aA vA, k0_2 cI aA vA, k0_3 cI aA vA, k0_4 cI aA vA, k1_0 aR vR, k1_1 cJ aR vR, k1_2 cI aR vR, k1_3 cI aR vR, k1_4 cI aR vR, k1_5 cJ aR vR, k1_6 cJ aR vR, k1_7 cJ aR vR, k1_8 cJ aR vR, k1_9 cJ aR vR]) (wc := []) (wr := [k3_0 a aA aB aR aT aS vX, k0_0 aA vA, k0_1 cI aA vA, k0_2 cI aA vA, k0_3 cI aA vA, k0_4 cI aA vA, k1_0 aR vR, k1_1 cJ aR vR, k1_2 cI aR vR, k1_3 cI aR vR, k1_4 cI aR vR, k1_5 cJ aR vR, k1_6 cJ aR vR, k1_7 cJ aR vR, k1_8 cJ aR vR, k1_9 cJ aR vR]) (w1 := []) (wo := [k3_0 a aA aB aR aT aS vX, k0_0 aA vA, k0_1 cI aA vA, k0_2 cI aA vA, k0_3 cI aA vA, k0_4 cI aA vA, k1_0 aR vR, k1_1 cJ aR vR, k1_2 cI aR vR, k1_3 cI aR vR, k1_4 cI aR vR, k1_5 cJ aR vR, k1_6 cJ aR vR, k1_7 cJ aR vR, k1_8 cJ aR vR, k1_9 cJ aR vR]) hP hD hS hA (va_runS (As := [.int i2]) (rest := []) ⟨hx, hb, hml, hown, hts⟩ (mX3_isPart l dC dI cI cJ  H.size i2 y3 hy3) (va_cwS 1 hts gX3_push_X3_isPart rfl rfl rfl (by decide +kernel) ⟨Nat.le_of_ble_eq_true rfl, Nat.le_of_ble_eq_true rfl⟩) ⟨cFB, cPre hK hN hS (va_free (wc := []) hD hS hA [] rfl) (hP.sub [] rfl) (hD.sub [] rfl rfl)⟩ rfl rfl hl.1 rfl (lv_room (Nat.le_of_ble_eq_true rfl)) dX3_push_12 ⟨Nat.le_of_ble_eq_true rfl, Nat.le_of_ble_eq_true rfl⟩) [] [0, 1, 2, 3, 4, 5, 6, 7, 8, 9, 10, 11, 12, 13, 14, 15] [0, 1, 2, 3, 4, 5, 6, 7, 8, 9, 10, 11, 12, 13, 14, 15] rfl rfl rfl (by decide +kernel) rfl rfl (fun H locs hP hD hS => ?_)
    refine lv_if_ne (tgt := 21) hx hb dX3_push_15 (by decide) (fun c4 => ?_) (fun c4 => ?_)
    · have hf := oif_f c4 hf
      refine lv_aload_n hx hb dX3_push_21 rfl (lv_at hl 0 rfl) ?_
      obtain ⟨y5, hy5, hf⟩ := obind hf
      refine cg_r (ws := [k3_0 a aA aB aR aT aS vX, k0_0 aA vA, k0_1 cI aA vA, k0_2 cI aA vA, k0_3 cI aA vA, k0_4 cI aA vA, k1_0 aR vR, k1_1 cJ aR vR, k1_2 cI aR vR, k1_3 cI aR vR, k1_4 cI aR vR, k1_5 cJ aR vR, k1_6 cJ aR vR, k1_7 cJ aR vR, k1_8 cJ aR vR, k1_9 cJ aR vR]) (wc := [k3_0 a aA aB aR aT aS vX, k0_0 aA vA, k0_1 cI aA vA, k0_2 cI aA vA, k0_3 cI aA vA, k0_4 cI aA vA, k1_0 aR vR, k1_1 cJ aR vR, k1_2 cI aR vR, k1_3 cI aR vR, k1_4 cI aR vR, k1_5 cJ aR vR, k1_6 cJ aR vR, k1_7 cJ aR vR, k1_8 cJ aR vR, k1_9 cJ aR vR]) (wr := []) (w1 := [k3_0 a aA aB aR aT aS y5.1, k0_0 aA vA, k0_1 cI aA vA, k0_2 cI aA vA, k0_3 cI aA vA, k0_4 cI aA vA, k1_0 aR y5.2, k1_1 cJ aR y5.2, k1_2 cI aR y5.2, k1_3 cI aR y5.2, k1_4 cI aR y5.2, k1_5 cJ aR y5.2, k1_6 cJ aR y5.2, k1_7 cJ aR y5.2, k1_8 cJ aR y5.2, k1_9 cJ aR y5.2]) (wo := [k3_0 a aA aB aR aT aS y5.1, k0_0 aA vA, k0_1 cI aA vA, k0_2 cI aA vA, k0_3 cI aA vA, k0_4 cI aA vA, k1_0 aR y5.2, k1_1 cJ aR y5.2, k1_2 cI aR y5.2, k1_3 cI aR y5.2, k1_4 cI aR y5.2, k1_5 cJ aR y5.2, k1_6 cJ aR y5.2, k1_7 cJ aR y5.2, k1_8 cJ aR y5.2, k1_9 cJ aR y5.2]) hP hD hS hA (va_runV (As := []) (rest := []) ⟨hx, hb, hml, hown, hts⟩ (mX3_settled l dC dI cI cJ a aA aB aR aT aS H.size vX vA vR y5 hy5) (cwV 0 hts gX3_push_X3_settled rfl rfl rfl (by decide +kernel) ⟨Nat.le_of_ble_eq_true rfl, Nat.le_of_ble_eq_true rfl⟩) ⟨cFB, va_recv hK hP (ci := 3) (q0 := 0) rfl rfl, cPre hK hN hS (va_free (wc := [k3_0 a aA aB aR aT aS vX, k0_0 aA vA, k0_1 cI aA vA, k0_2 cI aA vA, k0_3 cI aA vA, k0_4 cI aA vA, k1_0 aR vR, k1_1 cJ aR vR, k1_2 cI aR vR, k1_3 cI aR vR, k1_4 cI aR vR, k1_5 cJ aR vR, k1_6 cJ aR vR, k1_7 cJ aR vR, k1_8 cJ aR vR, k1_9 cJ aR vR]) hD hS hA [0, 1, 2, 3, 4, 5, 6, 7, 8, 9, 10, 11, 12, 13, 14, 15] rfl) (hP.sub [0, 1, 2, 3, 4, 5, 6, 7, 8, 9, 10, 11, 12, 13, 14, 15] rfl) (hD.sub [0, 1, 2, 3, 4, 5, 6, 7, 8, 9, 10, 11, 12, 13, 14, 15] rfl rfl)⟩ rfl rfl hl.1 rfl (lv_room (Nat.le_of_ble_eq_true rfl)) dX3_push_22 ⟨Nat.le_of_ble_eq_true rfl, Nat.le_of_ble_eq_true rfl⟩) [0, 1, 2, 3, 4, 5, 6, 7, 8, 9, 10, 11, 12, 13, 14, 15] [] [0, 1, 2, 3, 4, 5, 6, 7, 8, 9, 10, 11, 12, 13, 14, 15] rfl rfl rfl (by decide +kernel) rfl rfl (fun H locs hP hD hS => ?_)
      refine lv_astore_n (lv' := [(3, .ref (aR 0)), (0, .ref (a 0)), (1, .int i1), (2, .int i2)]) hx hb dX3_push_25 rfl hl (by decide) rfl (fun ls hl => ?_)
      refine lv_aload_n hx hb dX3_push_26 rfl (lv_at hl 0 rfl) ?_
      refine lv_aload_n hx hb dX3_push_27 rfl (lv_at hl 1 rfl) ?_
      refine va_get (D := (dC, dI)) (ci := 3) (v := .ref (aA 0)) (C := RX3) (T := TX3) (N := 8) hx hb hts hiX3 hown hK hP 0 rfl rfl 0 (by decide) hgX3_10 (fun _ h9 => h9) rfl dX3_push_28 ?_
      refine lv_iload_n hx hb dX3_push_31 rfl (lv_at hl 2 rfl) ?_
      refine lv_iload_n hx hb dX3_push_32 rfl (lv_at hl 2 rfl) ?_
      obtain ⟨y6, hy6, hf⟩ := obind hf
      refine cg_l (ws := [k3_0 a aA aB aR aT aS y5.1, k0_0 aA vA, k0_1 cI aA vA, k0_2 cI aA vA, k0_3 cI aA vA, k0_4 cI aA vA, k1_0 aR y5.2, k1_1 cJ aR y5.2, k1_2 cI aR y5.2, k1_3 cI aR y5.2, k1_4 cI aR y5.2, k1_5 cJ aR y5.2, k1_6 cJ aR y5.2, k1_7 cJ aR y5.2, k1_8 cJ aR y5.2, k1_9 cJ aR y5.2]) (wc := [k0_0 aA vA, k0_1 cI aA vA, k0_2 cI aA vA, k0_3 cI aA vA, k0_4 cI aA vA, k1_0 aR y5.2, k1_1 cJ aR y5.2, k1_2 cI aR y5.2, k1_3 cI aR y5.2, k1_4 cI aR y5.2, k1_5 cJ aR y5.2, k1_6 cJ aR y5.2, k1_7 cJ aR y5.2, k1_8 cJ aR y5.2, k1_9 cJ aR y5.2]) (wr := [k3_0 a aA aB aR aT aS y5.1]) (w1 := [k0_0 aA vA, k0_1 cI aA vA, k0_2 cI aA vA, k0_3 cI aA vA, k0_4 cI aA vA, k1_0 aR y5.2, k1_1 cJ aR y5.2, k1_2 cI aR y5.2, k1_3 cI aR y5.2, k1_4 cI aR y5.2, k1_5 cJ aR y5.2, k1_6 cJ aR y5.2, k1_7 cJ aR y5.2, k1_8 cJ aR y5.2, k1_9 cJ aR y5.2]) (wo := [k3_0 a aA aB aR aT aS y5.1, k0_0 aA vA, k0_1 cI aA vA, k0_2 cI aA vA, k0_3 cI aA vA, k0_4 cI aA vA, k1_0 aR y5.2, k1_1 cJ aR y5.2, k1_2 cI aR y5.2, k1_3 cI aR y5.2, k1_4 cI aR y5.2, k1_5 cJ aR y5.2, k1_6 cJ aR y5.2, k1_7 cJ aR y5.2, k1_8 cJ aR y5.2, k1_9 cJ aR y5.2]) hP hD hS hA (va_runV (As := [.ref (aA 0), .int i1, .int i1]) (rest := []) ⟨hx, hb, hml, hown, hts⟩ (mX1_forceOn l dC dI cI cJ aA aR H.size vA y5.2 i1 i1 y6 hy6) (cwV 3 hts gX3_push_X1_forceOn rfl rfl rfl (by decide +kernel) ⟨Nat.le_of_ble_eq_true rfl, Nat.le_of_ble_eq_true rfl⟩) ⟨cFB, va_recv hK hP (ci := 1) (q0 := 6) rfl rfl, cPre hK hN hS (va_free (wc := [k0_0 aA vA, k0_1 cI aA vA, k0_2 cI aA vA, k0_3 cI aA vA, k0_4 cI aA vA, k1_0 aR y5.2, k1_1 cJ aR y5.2, k1_2 cI aR y5.2, k1_3 cI aR y5.2, k1_4 cI aR y5.2, k1_5 cJ aR y5.2, k1_6 cJ aR y5.2, k1_7 cJ aR y5.2, k1_8 cJ aR y5.2, k1_9 cJ aR y5.2]) hD hS hA [1, 2, 3, 4, 5, 6, 7, 8, 9, 10, 11, 12, 13, 14, 15] rfl) (hP.sub [1, 2, 3, 4, 5, 6, 7, 8, 9, 10, 11, 12, 13, 14, 15] rfl) (hD.sub [1, 2, 3, 4, 5, 6, 7, 8, 9, 10, 11, 12, 13, 14, 15] rfl rfl)⟩ rfl rfl hl.1 rfl (lv_room (Nat.le_of_ble_eq_true rfl)) dX3_push_33 ⟨Nat.le_of_ble_eq_true rfl, Nat.le_of_ble_eq_true rfl⟩) [1, 2, 3, 4, 5, 6, 7, 8, 9, 10, 11, 12, 13, 14, 15] [0] [0, 1, 2, 3, 4, 5, 6, 7, 8, 9, 10, 11, 12, 13, 14, 15] rfl rfl rfl (by decide +kernel) rfl rfl (fun H locs hP hD hS => ?_)
      refine lv_lneg hx hb dX3_push_36 ?_
      refine lv_aload_n hx hb dX3_push_37 rfl (lv_at hl 0 rfl) ?_
      refine va_get (D := (dC, dI)) (ci := 1) (v := .long (p1_lower y5.2)) (C := RX1) (T := TX1) (N := 10) hx hb hts hiX1 hown hK hP 6 rfl rfl 1 (by decide) hgX1_126 (fun _ h9 => h9) rfl dX3_push_38 ?_
      refine lv_iload_n hx hb dX3_push_41 rfl (lv_at hl 3 rfl) ?_
      obtain ⟨y7, hy7, hf⟩ := obind hf
      refine cg_i (ws := [k3_0 a aA aB aR aT aS y5.1, k0_0 aA vA, k0_1 cI aA vA, k0_2 cI aA vA, k0_3 cI aA vA, k0_4 cI aA vA, k1_0 aR y5.2, k1_1 cJ aR y5.2, k1_2 cI aR y5.2, k1_3 cI aR y5.2, k1_4 cI aR y5.2, k1_5 cJ aR y5.2, k1_6 cJ aR y5.2, k1_7 cJ aR y5.2, k1_8 cJ aR y5.2, k1_9 cJ aR y5.2]) (wc := []) (wr := [k3_0 a aA aB aR aT aS y5.1, k0_0 aA vA, k0_1 cI aA vA, k0_2 cI aA vA, k0_3 cI aA vA, k0_4 cI aA vA, k1_0 aR y5.2, k1_1 cJ aR y5.2, k1_2 cI aR y5.2, k1_3 cI aR y5.2, k1_4 cI aR y5.2, k1_5 cJ aR y5.2, k1_6 cJ aR y5.2, k1_7 cJ aR y5.2, k1_8 cJ aR y5.2, k1_9 cJ aR y5.2]) (w1 := []) (wo := [k3_0 a aA aB aR aT aS y5.1, k0_0 aA vA, k0_1 cI aA vA, k0_2 cI aA vA, k0_3 cI aA vA, k0_4 cI aA vA, k1_0 aR y5.2, k1_1 cJ aR y5.2, k1_2 cI aR y5.2, k1_3 cI aR y5.2, k1_4 cI aR y5.2, k1_5 cJ aR y5.2, k1_6 cJ aR y5.2, k1_7 cJ aR y5.2, k1_8 cJ aR y5.2, k1_9 cJ aR y5.2]) hP hD hS hA (va_runS (As := [.long (-y6), .long (p1_lower y5.2), .int i2]) (rest := []) ⟨hx, hb, hml, hown, hts⟩ (mX3_forcePart l dC dI cI cJ  H.size (-y6) (p1_lower y5.2) i2 y7 hy7) (va_cwS 3 hts gX3_push_X3_forcePart rfl rfl rfl (by decide +kernel) ⟨Nat.le_of_ble_eq_true rfl, Nat.le_of_ble_eq_true rfl⟩) ⟨cFB, cPre hK hN hS (va_free (wc := []) hD hS hA [] rfl) (hP.sub [] rfl) (hD.sub [] rfl rfl)⟩ rfl rfl hl.1 rfl (lv_room (Nat.le_of_ble_eq_true rfl)) dX3_push_42 ⟨Nat.le_of_ble_eq_true rfl, Nat.le_of_ble_eq_true rfl⟩) [] [0, 1, 2, 3, 4, 5, 6, 7, 8, 9, 10, 11, 12, 13, 14, 15] [0, 1, 2, 3, 4, 5, 6, 7, 8, 9, 10, 11, 12, 13, 14, 15] rfl rfl rfl (by decide +kernel) rfl rfl (fun H locs hP hD hS => ?_)
      obtain rfl := Option.some.inj hf
      exact W.iret (v := y7) hx hb hr (fun t ht hW => ⟨⟨y7, (), rfl, rfl, by rw [ht]; exact hP, hD⟩, hS.F ht⟩) hS.2.2 dX3_push_45
    · have hf := oif_t c4 hf
      refine lv_ldc (v := (-1000001)) hx hb hown hc84 dX3_push_18 ?_
      obtain rfl := Option.some.inj hf
      exact W.iret (v := (-1000001)) hx hb hr (fun t ht hW => ⟨⟨(-1000001), (), rfl, rfl, by rw [ht]; exact hP, hD⟩, hS.F ht⟩) hS.2.2 dX3_push_20
def fX3_isAtStop (vX : BX3) (vA : BX0) (vR : BX1) (i2 : Int32) (i3 : Int32) : Option Int32 :=
  (fX0_stopOf vA i2 i3).bind (fun y1 => if y1 = (-1 : Int32) then (some 0) else ((fX1_isAt vR i2 y1).bind (fun y3 => if y3 = 0 then (some 0) else (some 1))))
set_option maxHeartbeats 8000000 in
set_option maxRecDepth 100000 in
theorem mX3_isAtStop (l : Launch) (dC : Nat → ClassId) (dI : Nat → Nat → Nat) (cI cJ : ClassId) (a : Nat → Nat) (aA : Nat → Nat) (aB : Nat → Nat) (aR : Nat → Nat) (aT : Nat → Nat) (aS : Nat → Nat) (sz : Nat) (vX : BX3) (vA : BX0) (vR : BX1) (i2 : Int32) (i3 : Int32) (y : Int32) (hf : fX3_isAtStop vX vA vR i2 i3 = some y) : Met l yX3_isAtStop wsX3_isAtStop ({ frames := 1, cells := 0, slots := 0, locals := 22 }) (cPc dC dI cI cJ [.ref (a 0), .ref (aR 0), .int i2, .int i3] [k3_0 a aA aB aR aT aS vX, k0_0 aA vA, k0_1 cI aA vA, k0_2 cI aA vA, k0_3 cI aA vA, k0_4 cI aA vA, k1_0 aR vR, k1_1 cJ aR vR, k1_2 cI aR vR, k1_3 cI aR vR, k1_4 cI aR vR, k1_5 cJ aR vR, k1_6 cJ aR vR, k1_7 cJ aR vR, k1_8 cJ aR vR, k1_9 cJ aR vR] sz) (va_Qi (fun r (_ : Unit) => r = y) (fun _ t => cB dC dI (va_A [k3_0 a aA aB aR aT aS vX, k0_0 aA vA, k0_1 cI aA vA, k0_2 cI aA vA, k0_3 cI aA vA, k0_4 cI aA vA, k1_0 aR vR, k1_1 cJ aR vR, k1_2 cI aR vR, k1_3 cI aR vR, k1_4 cI aR vR, k1_5 cJ aR vR, k1_6 cJ aR vR, k1_7 cJ aR vR, k1_8 cJ aR vR, k1_9 cJ aR vR] sz) [k3_0 a aA aB aR aT aS vX, k0_0 aA vA, k0_1 cI aA vA, k0_2 cI aA vA, k0_3 cI aA vA, k0_4 cI aA vA, k1_0 aR vR, k1_1 cJ aR vR, k1_2 cI aR vR, k1_3 cI aR vR, k1_4 cI aR vR, k1_5 cJ aR vR, k1_6 cJ aR vR, k1_7 cJ aR vR, k1_8 cJ aR vR, k1_9 cJ aR vR] t) (va_A [k3_0 a aA aB aR aT aS vX, k0_0 aA vA, k0_1 cI aA vA, k0_2 cI aA vA, k0_3 cI aA vA, k0_4 cI aA vA, k1_0 aR vR, k1_1 cJ aR vR, k1_2 cI aR vR, k1_3 cI aR vR, k1_4 cI aR vR, k1_5 cJ aR vR, k1_6 cJ aR vR, k1_7 cJ aR vR, k1_8 cJ aR vR, k1_9 cJ aR vR] sz)) 0 0 (va_A [k3_0 a aA aB aR aT aS vX, k0_0 aA vA, k0_1 cI aA vA, k0_2 cI aA vA, k0_3 cI aA vA, k0_4 cI aA vA, k1_0 aR vR, k1_1 cJ aR vR, k1_2 cI aR vR, k1_3 cI aR vR, k1_4 cI aR vR, k1_5 cJ aR vR, k1_6 cJ aR vR, k1_7 cJ aR vR, k1_8 cJ aR vR, k1_9 cJ aR vR] sz) := by
  refine Met.ofW (cc := cX3_isAtStop) (maxL := 5) (ret := (some .boolean)) (by decide) rfl ?_
  intro p e s m args below meth c s₁ B hml hv
  obtain ⟨rfl, hsz, hP, hK, hD0, hN⟩ := hv
  have hx := B.exec
  have hb := B.bytes
  have hr := B.returns
  have hts := atoms_spec (ws := wsX3_isAtStop) B.pre
  have hown : s.vm.findClass RX3 = some m.cls := findClass_of_methodNamed B.named
  have hlocks := B.notSynchronized
  subst hsz
  have hD := hD0.self (sz := s.heap.size)
  generalize hAe : va_A [k3_0 a aA aB aR aT aS vX, k0_0 aA vA, k0_1 cI aA vA, k0_2 cI aA vA, k0_3 cI aA vA, k0_4 cI aA vA, k1_0 aR vR, k1_1 cJ aR vR, k1_2 cI aR vR, k1_3 cI aR vR, k1_4 cI aR vR, k1_5 cJ aR vR, k1_6 cJ aR vR, k1_7 cJ aR vR, k1_8 cJ aR vR, k1_9 cJ aR vR] s.heap.size = A at hD hN ⊢
  have hA : ∀ q : Nat, s.heap.size ≤ q → A q := fun q h => by rw [← hAe]; exact Or.inr h
  have hP : va_P (dC, dI) vwCl [k3_0 a aA aB aR aT aS vX, k0_0 aA vA, k0_1 cI aA vA, k0_2 cI aA vA, k0_3 cI aA vA, k0_4 cI aA vA, k1_0 aR vR, k1_1 cJ aR vR, k1_2 cI aR vR, k1_3 cI aR vR, k1_4 cI aR vR, k1_5 cJ aR vR, k1_6 cJ aR vR, k1_7 cJ aR vR, k1_8 cJ aR vR, k1_9 cJ aR vR] s.heap := hP
  have hl := lv_entry ([.ref (a 0), .ref (aR 0), .int i2, .int i3]) (n := 5) (Nat.le_of_ble_eq_true rfl)
  rw [lg_entry_eq]
  generalize (lg_sl ([.ref (a 0), .ref (aR 0), .int i2, .int i3]) ++ List.replicate (5 - (lg_sl ([.ref (a 0), .ref (aR 0), .int i2, .int i3])).length) Slot.unset).toArray = ls at hl ⊢
  have hl : lv_has ls 5 [(0, .ref (a 0)), (1, .ref (aR 0)), (2, .int i2), (3, .int i3)] := hl
  have hiX3 : ∀ w ∈ u_ws RX3 TX3 8, w ∈ wsX3_isAtStop := by decide +kernel
  have hgX3_10 := hts (.fieldLink RX3 10 "SpringPlates" "laid" "LSpringPlates$Layout;") (by decide +kernel)
  refine nameH (fun H locs hHe hLe => ?_)
  have hP : va_P (dC, dI) vwCl [k3_0 a aA aB aR aT aS vX, k0_0 aA vA, k0_1 cI aA vA, k0_2 cI aA vA, k0_3 cI aA vA, k0_4 cI aA vA, k1_0 aR vR, k1_1 cJ aR vR, k1_2 cI aR vR, k1_3 cI aR vR, k1_4 cI aR vR, k1_5 cJ aR vR, k1_6 cJ aR vR, k1_7 cJ aR vR, k1_8 cJ aR vR, k1_9 cJ aR vR] H := by rw [hHe]; exact hP
  have hS : va_S A s.heap H locs := by rw [hHe, hLe]; exact va_S.rf
  unfold fX3_isAtStop at hf
  refine lv_aload_n hx hb dX3_isAtStop_0 rfl (lv_at hl 0 rfl) ?_
  refine va_get (D := (dC, dI)) (ci := 3) (v := .ref (aA 0)) (C := RX3) (T := TX3) (N := 8) hx hb hts hiX3 hown hK hP 0 rfl rfl 0 (by decide) hgX3_10 (fun _ h9 => h9) rfl dX3_isAtStop_1 ?_
  refine lv_iload_n hx hb dX3_isAtStop_4 rfl (lv_at hl 2 rfl) ?_
  refine lv_iload_n hx hb dX3_isAtStop_5 rfl (lv_at hl 3 rfl) ?_
  obtain ⟨y1, hy1, hf⟩ := obind hf
  refine cg_i (ws := [k3_0 a aA aB aR aT aS vX, k0_0 aA vA, k0_1 cI aA vA, k0_2 cI aA vA, k0_3 cI aA vA, k0_4 cI aA vA, k1_0 aR vR, k1_1 cJ aR vR, k1_2 cI aR vR, k1_3 cI aR vR, k1_4 cI aR vR, k1_5 cJ aR vR, k1_6 cJ aR vR, k1_7 cJ aR vR, k1_8 cJ aR vR, k1_9 cJ aR vR]) (wc := [k0_0 aA vA, k0_1 cI aA vA, k0_2 cI aA vA, k0_3 cI aA vA, k0_4 cI aA vA]) (wr := [k3_0 a aA aB aR aT aS vX, k1_0 aR vR, k1_1 cJ aR vR, k1_2 cI aR vR, k1_3 cI aR vR, k1_4 cI aR vR, k1_5 cJ aR vR, k1_6 cJ aR vR, k1_7 cJ aR vR, k1_8 cJ aR vR, k1_9 cJ aR vR]) (w1 := [k0_0 aA vA, k0_1 cI aA vA, k0_2 cI aA vA, k0_3 cI aA vA, k0_4 cI aA vA]) (wo := [k3_0 a aA aB aR aT aS vX, k0_0 aA vA, k0_1 cI aA vA, k0_2 cI aA vA, k0_3 cI aA vA, k0_4 cI aA vA, k1_0 aR vR, k1_1 cJ aR vR, k1_2 cI aR vR, k1_3 cI aR vR, k1_4 cI aR vR, k1_5 cJ aR vR, k1_6 cJ aR vR, k1_7 cJ aR vR, k1_8 cJ aR vR, k1_9 cJ aR vR]) hP hD hS hA (va_runV (As := [.int i2, .int i3]) (rest := []) ⟨hx, hb, hml, hown, hts⟩ (mX0_stopOf l dC dI cI cJ aA H.size vA i2 i3 y1 hy1) (cwV 2 hts gX3_isAtStop_X0_stopOf rfl rfl rfl (by decide +kernel) ⟨Nat.le_of_ble_eq_true rfl, Nat.le_of_ble_eq_true rfl⟩) ⟨cFB, va_recv hK hP (ci := 0) (q0 := 1) rfl rfl, cPre hK hN hS (va_free (wc := [k0_0 aA vA, k0_1 cI aA vA, k0_2 cI aA vA, k0_3 cI aA vA, k0_4 cI aA vA]) hD hS hA [1, 2, 3, 4, 5] rfl) (hP.sub [1, 2, 3, 4, 5] rfl) (hD.sub [1, 2, 3, 4, 5] rfl rfl)⟩ rfl rfl hl.1 rfl (lv_room (Nat.le_of_ble_eq_true rfl)) dX3_isAtStop_6 ⟨Nat.le_of_ble_eq_true rfl, Nat.le_of_ble_eq_true rfl⟩) [1, 2, 3, 4, 5] [0, 6, 7, 8, 9, 10, 11, 12, 13, 14, 15] [0, 11, 12, 13, 14, 15, 1, 2, 3, 4, 5, 6, 7, 8, 9, 10] rfl rfl rfl (by decide +kernel) rfl rfl (fun H locs hP hD hS => ?_)
  refine lv_istore (lv' := [(4, .int y1), (0, .ref (a 0)), (1, .ref (aR 0)), (2, .int i2), (3, .int i3)]) hx hb dX3_isAtStop_9 hl (by decide) rfl (fun ls hl => ?_)
  refine lv_iload hx hb dX3_isAtStop_11 (lv_at hl 0 rfl) ?_
  refine lv_iconst (v := (-1)) hx hb dX3_isAtStop_13 (by decide) ?_
  refine lv_icmp_eq (tgt := 31) hx hb dX3_isAtStop_14 (by decide) (fun c2 => ?_) (fun c2 => ?_)
  · have hf := oif_t c2 hf
    refine lv_iconst (v := 0) hx hb dX3_isAtStop_31 (by decide) ?_
    obtain rfl := Option.some.inj hf
    exact W.zret (v := 0) hx hb hr rfl (fun t ht hW => ⟨⟨0, (), rfl, rfl, by rw [ht]; exact hP, hD⟩, hS.F ht⟩) hS.2.2 dX3_isAtStop_32
  · have hf := oif_f c2 hf
    refine lv_aload_n hx hb dX3_isAtStop_17 rfl (lv_at hl 2 rfl) ?_
    refine lv_iload_n hx hb dX3_isAtStop_18 rfl (lv_at hl 3 rfl) ?_
    refine lv_iload hx hb dX3_isAtStop_19 (lv_at hl 0 rfl) ?_
    obtain ⟨y3, hy3, hf⟩ := obind hf
    refine cg_i (ws := [k3_0 a aA aB aR aT aS vX, k0_0 aA vA, k0_1 cI aA vA, k0_2 cI aA vA, k0_3 cI aA vA, k0_4 cI aA vA, k1_0 aR vR, k1_1 cJ aR vR, k1_2 cI aR vR, k1_3 cI aR vR, k1_4 cI aR vR, k1_5 cJ aR vR, k1_6 cJ aR vR, k1_7 cJ aR vR, k1_8 cJ aR vR, k1_9 cJ aR vR]) (wc := [k1_0 aR vR, k1_1 cJ aR vR, k1_2 cI aR vR, k1_3 cI aR vR, k1_4 cI aR vR, k1_5 cJ aR vR, k1_6 cJ aR vR, k1_7 cJ aR vR, k1_8 cJ aR vR, k1_9 cJ aR vR]) (wr := [k3_0 a aA aB aR aT aS vX, k0_0 aA vA, k0_1 cI aA vA, k0_2 cI aA vA, k0_3 cI aA vA, k0_4 cI aA vA]) (w1 := [k1_0 aR vR, k1_1 cJ aR vR, k1_2 cI aR vR, k1_3 cI aR vR, k1_4 cI aR vR, k1_5 cJ aR vR, k1_6 cJ aR vR, k1_7 cJ aR vR, k1_8 cJ aR vR, k1_9 cJ aR vR]) (wo := [k3_0 a aA aB aR aT aS vX, k0_0 aA vA, k0_1 cI aA vA, k0_2 cI aA vA, k0_3 cI aA vA, k0_4 cI aA vA, k1_0 aR vR, k1_1 cJ aR vR, k1_2 cI aR vR, k1_3 cI aR vR, k1_4 cI aR vR, k1_5 cJ aR vR, k1_6 cJ aR vR, k1_7 cJ aR vR, k1_8 cJ aR vR, k1_9 cJ aR vR]) hP hD hS hA (va_runV (As := [.int i2, .int y1]) (rest := []) ⟨hx, hb, hml, hown, hts⟩ (mX1_isAt l dC dI cI cJ aR H.size vR i2 y1 y3 hy3) (cwV 2 hts gX3_isAtStop_X1_isAt rfl rfl rfl (by decide +kernel) ⟨Nat.le_of_ble_eq_true rfl, Nat.le_of_ble_eq_true rfl⟩) ⟨cFB, va_recv hK hP (ci := 1) (q0 := 6) rfl rfl, cPre hK hN hS (va_free (wc := [k1_0 aR vR, k1_1 cJ aR vR, k1_2 cI aR vR, k1_3 cI aR vR, k1_4 cI aR vR, k1_5 cJ aR vR, k1_6 cJ aR vR, k1_7 cJ aR vR, k1_8 cJ aR vR, k1_9 cJ aR vR]) hD hS hA [6, 7, 8, 9, 10, 11, 12, 13, 14, 15] rfl) (hP.sub [6, 7, 8, 9, 10, 11, 12, 13, 14, 15] rfl) (hD.sub [6, 7, 8, 9, 10, 11, 12, 13, 14, 15] rfl rfl)⟩ rfl rfl hl.1 rfl (lv_room (Nat.le_of_ble_eq_true rfl)) dX3_isAtStop_21 ⟨Nat.le_of_ble_eq_true rfl, Nat.le_of_ble_eq_true rfl⟩) [6, 7, 8, 9, 10, 11, 12, 13, 14, 15] [0, 1, 2, 3, 4, 5] [0, 1, 2, 3, 4, 5, 6, 7, 8, 9, 10, 11, 12, 13, 14, 15] rfl rfl rfl (by decide +kernel) rfl rfl (fun H locs hP hD hS => ?_)
    refine lv_if_eq (tgt := 31) hx hb dX3_isAtStop_24 (by decide) (fun c4 => ?_) (fun c4 => ?_)
    · have hf := oif_t c4 hf
      refine lv_iconst (v := 0) hx hb dX3_isAtStop_31 (by decide) ?_
      obtain rfl := Option.some.inj hf
      exact W.zret (v := 0) hx hb hr rfl (fun t ht hW => ⟨⟨0, (), rfl, rfl, by rw [ht]; exact hP, hD⟩, hS.F ht⟩) hS.2.2 dX3_isAtStop_32
    · have hf := oif_f c4 hf
      refine lv_iconst (v := 1) hx hb dX3_isAtStop_27 (by decide) ?_
      refine lv_goto (tgt := 32) hx hb dX3_isAtStop_28 (by decide) ?_
      obtain rfl := Option.some.inj hf
      exact W.zret (v := 1) hx hb hr rfl (fun t ht hW => ⟨⟨1, (), rfl, rfl, by rw [ht]; exact hP, hD⟩, hS.F ht⟩) hS.2.2 dX3_isAtStop_32
def fX3_isAmong_99 (vX : BX3) (vA : BX0) (vR : BX1) : Option Int32 :=
  some 1
def fX3_isAmong (vX : BX3) (vA : BX0) (vR : BX1) (i2 : Int32) (i3 : Int32) : Option Int32 :=
  if i3 = 0 then ((fX3_isAtStop vX vA vR i2 (0 : Int32)).bind (fun y2 => if zB y2 = true then (some y2) else none)) else (if i3 = 1 then ((fX3_isAtStop vX vA vR i2 (1 : Int32)).bind (fun y5 => if zB y5 = true then (some y5) else none)) else (if i3 = 2 then (if (p0_plates vA) ≤ (i2 + (1 : Int32)) then (some 0) else ((fX1_touchesNext vR i2).bind (fun y9 => if y9 = 0 then (some 0) else (some 1)))) else (if i3 = 3 then ((fX1_isAt vR i2 (0 : Int32)).bind (fun y12 => if y12 = 0 then ((fX1_isAt vR i2 (p0_width vA)).bind (fun y14 => if y14 = 0 then (some 0) else (fX3_isAmong_99 vX vA vR))) else (fX3_isAmong_99 vX vA vR))) else ((fX1_forceOn vA vR i2 i2).bind (fun y16 => if (lg_cmp y16 (0 : Int64)) = 0 then (some 0) else (some 1))))))
set_option maxHeartbeats 8000000 in
set_option maxRecDepth 100000 in
theorem mX3_isAmong (l : Launch) (dC : Nat → ClassId) (dI : Nat → Nat → Nat) (cI cJ : ClassId) (a : Nat → Nat) (aA : Nat → Nat) (aB : Nat → Nat) (aR : Nat → Nat) (aT : Nat → Nat) (aS : Nat → Nat) (sz : Nat) (vX : BX3) (vA : BX0) (vR : BX1) (i2 : Int32) (i3 : Int32) (y : Int32) (hf : fX3_isAmong vX vA vR i2 i3 = some y) : Met l yX3_isAmong wsX3_isAmong ({ frames := 2, cells := 0, slots := 0, locals := 49 }) (cPc dC dI cI cJ [.ref (a 0), .ref (aR 0), .int i2, .int i3] [k3_0 a aA aB aR aT aS vX, k0_0 aA vA, k0_1 cI aA vA, k0_2 cI aA vA, k0_3 cI aA vA, k0_4 cI aA vA, k1_0 aR vR, k1_1 cJ aR vR, k1_2 cI aR vR, k1_3 cI aR vR, k1_4 cI aR vR, k1_5 cJ aR vR, k1_6 cJ aR vR, k1_7 cJ aR vR, k1_8 cJ aR vR, k1_9 cJ aR vR] sz) (va_Qi (fun r (_ : Unit) => r = y) (fun _ t => cB dC dI (va_A [k3_0 a aA aB aR aT aS vX, k0_0 aA vA, k0_1 cI aA vA, k0_2 cI aA vA, k0_3 cI aA vA, k0_4 cI aA vA, k1_0 aR vR, k1_1 cJ aR vR, k1_2 cI aR vR, k1_3 cI aR vR, k1_4 cI aR vR, k1_5 cJ aR vR, k1_6 cJ aR vR, k1_7 cJ aR vR, k1_8 cJ aR vR, k1_9 cJ aR vR] sz) [k3_0 a aA aB aR aT aS vX, k0_0 aA vA, k0_1 cI aA vA, k0_2 cI aA vA, k0_3 cI aA vA, k0_4 cI aA vA, k1_0 aR vR, k1_1 cJ aR vR, k1_2 cI aR vR, k1_3 cI aR vR, k1_4 cI aR vR, k1_5 cJ aR vR, k1_6 cJ aR vR, k1_7 cJ aR vR, k1_8 cJ aR vR, k1_9 cJ aR vR] t) (va_A [k3_0 a aA aB aR aT aS vX, k0_0 aA vA, k0_1 cI aA vA, k0_2 cI aA vA, k0_3 cI aA vA, k0_4 cI aA vA, k1_0 aR vR, k1_1 cJ aR vR, k1_2 cI aR vR, k1_3 cI aR vR, k1_4 cI aR vR, k1_5 cJ aR vR, k1_6 cJ aR vR, k1_7 cJ aR vR, k1_8 cJ aR vR, k1_9 cJ aR vR] sz)) 0 0 (va_A [k3_0 a aA aB aR aT aS vX, k0_0 aA vA, k0_1 cI aA vA, k0_2 cI aA vA, k0_3 cI aA vA, k0_4 cI aA vA, k1_0 aR vR, k1_1 cJ aR vR, k1_2 cI aR vR, k1_3 cI aR vR, k1_4 cI aR vR, k1_5 cJ aR vR, k1_6 cJ aR vR, k1_7 cJ aR vR, k1_8 cJ aR vR, k1_9 cJ aR vR] sz) := by
  refine Met.ofW (cc := cX3_isAmong) (maxL := 4) (ret := (some .boolean)) (by decide) rfl ?_
  intro p e s m args below meth c s₁ B hml hv
  obtain ⟨rfl, hsz, hP, hK, hD0, hN⟩ := hv
  have hx := B.exec
  have hb := B.bytes
  have hr := B.returns
  have hts := atoms_spec (ws := wsX3_isAmong) B.pre
  have hown : s.vm.findClass RX3 = some m.cls := findClass_of_methodNamed B.named
  have hlocks := B.notSynchronized
  subst hsz
  have hD := hD0.self (sz := s.heap.size)
  generalize hAe : va_A [k3_0 a aA aB aR aT aS vX, k0_0 aA vA, k0_1 cI aA vA, k0_2 cI aA vA, k0_3 cI aA vA, k0_4 cI aA vA, k1_0 aR vR, k1_1 cJ aR vR, k1_2 cI aR vR, k1_3 cI aR vR, k1_4 cI aR vR, k1_5 cJ aR vR, k1_6 cJ aR vR, k1_7 cJ aR vR, k1_8 cJ aR vR, k1_9 cJ aR vR] s.heap.size = A at hD hN ⊢
  have hA : ∀ q : Nat, s.heap.size ≤ q → A q := fun q h => by rw [← hAe]; exact Or.inr h
  have hP : va_P (dC, dI) vwCl [k3_0 a aA aB aR aT aS vX, k0_0 aA vA, k0_1 cI aA vA, k0_2 cI aA vA, k0_3 cI aA vA, k0_4 cI aA vA, k1_0 aR vR, k1_1 cJ aR vR, k1_2 cI aR vR, k1_3 cI aR vR, k1_4 cI aR vR, k1_5 cJ aR vR, k1_6 cJ aR vR, k1_7 cJ aR vR, k1_8 cJ aR vR, k1_9 cJ aR vR] s.heap := hP
  have hl := lv_entry ([.ref (a 0), .ref (aR 0), .int i2, .int i3]) (n := 4) (Nat.le_of_ble_eq_true rfl)
  rw [lg_entry_eq]
  generalize (lg_sl ([.ref (a 0), .ref (aR 0), .int i2, .int i3]) ++ List.replicate (4 - (lg_sl ([.ref (a 0), .ref (aR 0), .int i2, .int i3])).length) Slot.unset).toArray = ls at hl ⊢
  have hl : lv_has ls 4 [(0, .ref (a 0)), (1, .ref (aR 0)), (2, .int i2), (3, .int i3)] := hl
  have hiX3 : ∀ w ∈ u_ws RX3 TX3 8, w ∈ wsX3_isAmong := by decide +kernel
  have hgX3_10 := hts (.fieldLink RX3 10 "SpringPlates" "laid" "LSpringPlates$Layout;") (by decide +kernel)
  have hiX0 : ∀ w ∈ u_ws RX0 TX0 6, w ∈ wsX3_isAmong := by decide +kernel
  have hgX0_152 := hts (.fieldLink RX3 152 "SpringPlates$Layout" "plates" "I") (by decide +kernel)
  have hgX0_169 := hts (.fieldLink RX3 169 "SpringPlates$Layout" "width" "I") (by decide +kernel)
  refine nameH (fun H locs hHe hLe => ?_)
  have hP : va_P (dC, dI) vwCl [k3_0 a aA aB aR aT aS vX, k0_0 aA vA, k0_1 cI aA vA, k0_2 cI aA vA, k0_3 cI aA vA, k0_4 cI aA vA, k1_0 aR vR, k1_1 cJ aR vR, k1_2 cI aR vR, k1_3 cI aR vR, k1_4 cI aR vR, k1_5 cJ aR vR, k1_6 cJ aR vR, k1_7 cJ aR vR, k1_8 cJ aR vR, k1_9 cJ aR vR] H := by rw [hHe]; exact hP
  have hS : va_S A s.heap H locs := by rw [hHe, hLe]; exact va_S.rf
  refine withW (fun WW hWW => ?_)
  have J99 : ∀ (H : Heap) (locs : List Loc) (ls : Array Slot), va_P (dC, dI) vwCl [k3_0 a aA aB aR aT aS vX, k0_0 aA vA, k0_1 cI aA vA, k0_2 cI aA vA, k0_3 cI aA vA, k0_4 cI aA vA, k1_0 aR vR, k1_1 cJ aR vR, k1_2 cI aR vR, k1_3 cI aR vR, k1_4 cI aR vR, k1_5 cJ aR vR, k1_6 cJ aR vR, k1_7 cJ aR vR, k1_8 cJ aR vR, k1_9 cJ aR vR] H → va_D A [k3_0 a aA aB aR aT aS vX, k0_0 aA vA, k0_1 cI aA vA, k0_2 cI aA vA, k0_3 cI aA vA, k0_4 cI aA vA, k1_0 aR vR, k1_1 cJ aR vR, k1_2 cI aR vR, k1_3 cI aR vR, k1_4 cI aR vR, k1_5 cJ aR vR, k1_6 cJ aR vR, k1_7 cJ aR vR, k1_8 cJ aR vR, k1_9 cJ aR vR] → va_S A s.heap H locs → lv_has ls 4 [] → fX3_isAmong_99 vX vA vR = some y → WW H locs 0 0 ls 99 [] := by
    intro  H locs ls hP hD hS hl hf
    unfold fX3_isAmong_99 at hf
    refine (hWW _ _ _ _ _ _ _).2 ?_
    refine lv_iconst (v := 1) hx hb dX3_isAmong_99 (by decide) ?_
    refine lv_goto (tgt := 104) hx hb dX3_isAmong_100 (by decide) ?_
    obtain rfl := Option.some.inj hf
    exact W.zret (v := 1) hx hb hr rfl (fun t ht hW => ⟨⟨1, (), rfl, rfl, by rw [ht]; exact hP, hD⟩, hS.F ht⟩) hS.2.2 dX3_isAmong_104
  refine (hWW _ _ _ _ _ _ _).2 ?_
  unfold fX3_isAmong at hf
  refine lv_iload_n hx hb dX3_isAmong_0 rfl (lv_at hl 3 rfl) ?_
  by_cases c1 : i3 = 0
  · have hf := oif_t c1 hf
    refine lv_tableIn (tgt := 32) hx hb dX3_isAmong_1 (by rw [c1]; decide) (by rw [c1]; decide) (by rw [c1]; rfl) (by decide) ?_
    refine lv_aload_n hx hb dX3_isAmong_32 rfl (lv_at hl 0 rfl) ?_
    refine lv_aload_n hx hb dX3_isAmong_33 rfl (lv_at hl 1 rfl) ?_
    refine lv_iload_n hx hb dX3_isAmong_34 rfl (lv_at hl 2 rfl) ?_
    refine lv_iconst (v := 0) hx hb dX3_isAmong_35 (by decide) ?_
    obtain ⟨y2, hy2, hf⟩ := obind hf
    refine cg_i (ws := [k3_0 a aA aB aR aT aS vX, k0_0 aA vA, k0_1 cI aA vA, k0_2 cI aA vA, k0_3 cI aA vA, k0_4 cI aA vA, k1_0 aR vR, k1_1 cJ aR vR, k1_2 cI aR vR, k1_3 cI aR vR, k1_4 cI aR vR, k1_5 cJ aR vR, k1_6 cJ aR vR, k1_7 cJ aR vR, k1_8 cJ aR vR, k1_9 cJ aR vR]) (wc := [k3_0 a aA aB aR aT aS vX, k0_0 aA vA, k0_1 cI aA vA, k0_2 cI aA vA, k0_3 cI aA vA, k0_4 cI aA vA, k1_0 aR vR, k1_1 cJ aR vR, k1_2 cI aR vR, k1_3 cI aR vR, k1_4 cI aR vR, k1_5 cJ aR vR, k1_6 cJ aR vR, k1_7 cJ aR vR, k1_8 cJ aR vR, k1_9 cJ aR vR]) (wr := []) (w1 := [k3_0 a aA aB aR aT aS vX, k0_0 aA vA, k0_1 cI aA vA, k0_2 cI aA vA, k0_3 cI aA vA, k0_4 cI aA vA, k1_0 aR vR, k1_1 cJ aR vR, k1_2 cI aR vR, k1_3 cI aR vR, k1_4 cI aR vR, k1_5 cJ aR vR, k1_6 cJ aR vR, k1_7 cJ aR vR, k1_8 cJ aR vR, k1_9 cJ aR vR]) (wo := [k3_0 a aA aB aR aT aS vX, k0_0 aA vA, k0_1 cI aA vA, k0_2 cI aA vA, k0_3 cI aA vA, k0_4 cI aA vA, k1_0 aR vR, k1_1 cJ aR vR, k1_2 cI aR vR, k1_3 cI aR vR, k1_4 cI aR vR, k1_5 cJ aR vR, k1_6 cJ aR vR, k1_7 cJ aR vR, k1_8 cJ aR vR, k1_9 cJ aR vR]) hP hD hS hA (va_runV (As := [.ref (aR 0), .int i2, .int 0]) (rest := []) ⟨hx, hb, hml, hown, hts⟩ (mX3_isAtStop l dC dI cI cJ a aA aB aR aT aS H.size vX vA vR i2 (0 : Int32) y2 hy2) (cwV 3 hts gX3_isAmong_X3_isAtStop rfl rfl rfl (by decide +kernel) ⟨Nat.le_of_ble_eq_true rfl, Nat.le_of_ble_eq_true rfl⟩) ⟨cFB, va_recv hK hP (ci := 3) (q0 := 0) rfl rfl, cPre hK hN hS (va_free (wc := [k3_0 a aA aB aR aT aS vX, k0_0 aA vA, k0_1 cI aA vA, k0_2 cI aA vA, k0_3 cI aA vA, k0_4 cI aA vA, k1_0 aR vR, k1_1 cJ aR vR, k1_2 cI aR vR, k1_3 cI aR vR, k1_4 cI aR vR, k1_5 cJ aR vR, k1_6 cJ aR vR, k1_7 cJ aR vR, k1_8 cJ aR vR, k1_9 cJ aR vR]) hD hS hA [0, 1, 2, 3, 4, 5, 6, 7, 8, 9, 10, 11, 12, 13, 14, 15] rfl) (hP.sub [0, 1, 2, 3, 4, 5, 6, 7, 8, 9, 10, 11, 12, 13, 14, 15] rfl) (hD.sub [0, 1, 2, 3, 4, 5, 6, 7, 8, 9, 10, 11, 12, 13, 14, 15] rfl rfl)⟩ rfl rfl hl.1 rfl (lv_room (Nat.le_of_ble_eq_true rfl)) dX3_isAmong_36 ⟨Nat.le_of_ble_eq_true rfl, Nat.le_of_ble_eq_true rfl⟩) [0, 1, 2, 3, 4, 5, 6, 7, 8, 9, 10, 11, 12, 13, 14, 15] [] [0, 1, 2, 3, 4, 5, 6, 7, 8, 9, 10, 11, 12, 13, 14, 15] rfl rfl rfl (by decide +kernel) rfl rfl (fun H locs hP hD hS => ?_)
    obtain ⟨hz3, hf⟩ := ozb hf
    obtain rfl := Option.some.inj hf
    exact W.zret (v := y2) hx hb hr hz3 (fun t ht hW => ⟨⟨y2, (), rfl, rfl, by rw [ht]; exact hP, hD⟩, hS.F ht⟩) hS.2.2 dX3_isAmong_39
  · have hf := oif_f c1 hf
    by_cases c4 : i3 = 1
    · have hf := oif_t c4 hf
      refine lv_tableIn (tgt := 40) hx hb dX3_isAmong_1 (by rw [c4]; decide) (by rw [c4]; decide) (by rw [c4]; rfl) (by decide) ?_
      refine lv_aload_n hx hb dX3_isAmong_40 rfl (lv_at hl 0 rfl) ?_
      refine lv_aload_n hx hb dX3_isAmong_41 rfl (lv_at hl 1 rfl) ?_
      refine lv_iload_n hx hb dX3_isAmong_42 rfl (lv_at hl 2 rfl) ?_
      refine lv_iconst (v := 1) hx hb dX3_isAmong_43 (by decide) ?_
      obtain ⟨y5, hy5, hf⟩ := obind hf
      refine cg_i (ws := [k3_0 a aA aB aR aT aS vX, k0_0 aA vA, k0_1 cI aA vA, k0_2 cI aA vA, k0_3 cI aA vA, k0_4 cI aA vA, k1_0 aR vR, k1_1 cJ aR vR, k1_2 cI aR vR, k1_3 cI aR vR, k1_4 cI aR vR, k1_5 cJ aR vR, k1_6 cJ aR vR, k1_7 cJ aR vR, k1_8 cJ aR vR, k1_9 cJ aR vR]) (wc := [k3_0 a aA aB aR aT aS vX, k0_0 aA vA, k0_1 cI aA vA, k0_2 cI aA vA, k0_3 cI aA vA, k0_4 cI aA vA, k1_0 aR vR, k1_1 cJ aR vR, k1_2 cI aR vR, k1_3 cI aR vR, k1_4 cI aR vR, k1_5 cJ aR vR, k1_6 cJ aR vR, k1_7 cJ aR vR, k1_8 cJ aR vR, k1_9 cJ aR vR]) (wr := []) (w1 := [k3_0 a aA aB aR aT aS vX, k0_0 aA vA, k0_1 cI aA vA, k0_2 cI aA vA, k0_3 cI aA vA, k0_4 cI aA vA, k1_0 aR vR, k1_1 cJ aR vR, k1_2 cI aR vR, k1_3 cI aR vR, k1_4 cI aR vR, k1_5 cJ aR vR, k1_6 cJ aR vR, k1_7 cJ aR vR, k1_8 cJ aR vR, k1_9 cJ aR vR]) (wo := [k3_0 a aA aB aR aT aS vX, k0_0 aA vA, k0_1 cI aA vA, k0_2 cI aA vA, k0_3 cI aA vA, k0_4 cI aA vA, k1_0 aR vR, k1_1 cJ aR vR, k1_2 cI aR vR, k1_3 cI aR vR, k1_4 cI aR vR, k1_5 cJ aR vR, k1_6 cJ aR vR, k1_7 cJ aR vR, k1_8 cJ aR vR, k1_9 cJ aR vR]) hP hD hS hA (va_runV (As := [.ref (aR 0), .int i2, .int 1]) (rest := []) ⟨hx, hb, hml, hown, hts⟩ (mX3_isAtStop l dC dI cI cJ a aA aB aR aT aS H.size vX vA vR i2 (1 : Int32) y5 hy5) (cwV 3 hts gX3_isAmong_X3_isAtStop rfl rfl rfl (by decide +kernel) ⟨Nat.le_of_ble_eq_true rfl, Nat.le_of_ble_eq_true rfl⟩) ⟨cFB, va_recv hK hP (ci := 3) (q0 := 0) rfl rfl, cPre hK hN hS (va_free (wc := [k3_0 a aA aB aR aT aS vX, k0_0 aA vA, k0_1 cI aA vA, k0_2 cI aA vA, k0_3 cI aA vA, k0_4 cI aA vA, k1_0 aR vR, k1_1 cJ aR vR, k1_2 cI aR vR, k1_3 cI aR vR, k1_4 cI aR vR, k1_5 cJ aR vR, k1_6 cJ aR vR, k1_7 cJ aR vR, k1_8 cJ aR vR, k1_9 cJ aR vR]) hD hS hA [0, 1, 2, 3, 4, 5, 6, 7, 8, 9, 10, 11, 12, 13, 14, 15] rfl) (hP.sub [0, 1, 2, 3, 4, 5, 6, 7, 8, 9, 10, 11, 12, 13, 14, 15] rfl) (hD.sub [0, 1, 2, 3, 4, 5, 6, 7, 8, 9, 10, 11, 12, 13, 14, 15] rfl rfl)⟩ rfl rfl hl.1 rfl (lv_room (Nat.le_of_ble_eq_true rfl)) dX3_isAmong_44 ⟨Nat.le_of_ble_eq_true rfl, Nat.le_of_ble_eq_true rfl⟩) [0, 1, 2, 3, 4, 5, 6, 7, 8, 9, 10, 11, 12, 13, 14, 15] [] [0, 1, 2, 3, 4, 5, 6, 7, 8, 9, 10, 11, 12, 13, 14, 15] rfl rfl rfl (by decide +kernel) rfl rfl (fun H locs hP hD hS => ?_)
      obtain ⟨hz6, hf⟩ := ozb hf
      obtain rfl := Option.some.inj hf
      exact W.zret (v := y5) hx hb hr hz6 (fun t ht hW => ⟨⟨y5, (), rfl, rfl, by rw [ht]; exact hP, hD⟩, hS.F ht⟩) hS.2.2 dX3_isAmong_47
    · have hf := oif_f c4 hf
      by_cases c7 : i3 = 2
      · have hf := oif_t c7 hf
        refine lv_tableIn (tgt := 48) hx hb dX3_isAmong_1 (by rw [c7]; decide) (by rw [c7]; decide) (by rw [c7]; rfl) (by decide) ?_
        refine lv_iload_n hx hb dX3_isAmong_48 rfl (lv_at hl 2 rfl) ?_
        refine lv_iconst (v := 1) hx hb dX3_isAmong_49 (by decide) ?_
        refine lv_iadd hx hb dX3_isAmong_50 ?_
        refine lv_aload_n hx hb dX3_isAmong_51 rfl (lv_at hl 0 rfl) ?_
        refine va_get (D := (dC, dI)) (ci := 3) (v := .ref (aA 0)) (C := RX3) (T := TX3) (N := 8) hx hb hts hiX3 hown hK hP 0 rfl rfl 0 (by decide) hgX3_10 (fun _ h9 => h9) rfl dX3_isAmong_52 ?_
        refine va_get (D := (dC, dI)) (ci := 0) (v := .int (p0_plates vA)) (C := RX0) (T := TX0) (N := 6) hx hb hts hiX0 hown hK hP 1 rfl rfl 1 (by decide) hgX0_152 (fun _ h9 => h9) rfl dX3_isAmong_55 ?_
        refine lv_icmp_ge (tgt := 73) hx hb dX3_isAmong_58 (by decide) (fun c8 => ?_) (fun c8 => ?_)
        · have hf := oif_t c8 hf
          refine lv_iconst (v := 0) hx hb dX3_isAmong_73 (by decide) ?_
          obtain rfl := Option.some.inj hf
          exact W.zret (v := 0) hx hb hr rfl (fun t ht hW => ⟨⟨0, (), rfl, rfl, by rw [ht]; exact hP, hD⟩, hS.F ht⟩) hS.2.2 dX3_isAmong_74
        · have hf := oif_f c8 hf
          refine lv_aload_n hx hb dX3_isAmong_61 rfl (lv_at hl 1 rfl) ?_
          refine lv_iload_n hx hb dX3_isAmong_62 rfl (lv_at hl 2 rfl) ?_
          obtain ⟨y9, hy9, hf⟩ := obind hf
          refine cg_i (ws := [k3_0 a aA aB aR aT aS vX, k0_0 aA vA, k0_1 cI aA vA, k0_2 cI aA vA, k0_3 cI aA vA, k0_4 cI aA vA, k1_0 aR vR, k1_1 cJ aR vR, k1_2 cI aR vR, k1_3 cI aR vR, k1_4 cI aR vR, k1_5 cJ aR vR, k1_6 cJ aR vR, k1_7 cJ aR vR, k1_8 cJ aR vR, k1_9 cJ aR vR]) (wc := [k1_0 aR vR, k1_1 cJ aR vR, k1_2 cI aR vR, k1_3 cI aR vR, k1_4 cI aR vR, k1_5 cJ aR vR, k1_6 cJ aR vR, k1_7 cJ aR vR, k1_8 cJ aR vR, k1_9 cJ aR vR]) (wr := [k3_0 a aA aB aR aT aS vX, k0_0 aA vA, k0_1 cI aA vA, k0_2 cI aA vA, k0_3 cI aA vA, k0_4 cI aA vA]) (w1 := [k1_0 aR vR, k1_1 cJ aR vR, k1_2 cI aR vR, k1_3 cI aR vR, k1_4 cI aR vR, k1_5 cJ aR vR, k1_6 cJ aR vR, k1_7 cJ aR vR, k1_8 cJ aR vR, k1_9 cJ aR vR]) (wo := [k3_0 a aA aB aR aT aS vX, k0_0 aA vA, k0_1 cI aA vA, k0_2 cI aA vA, k0_3 cI aA vA, k0_4 cI aA vA, k1_0 aR vR, k1_1 cJ aR vR, k1_2 cI aR vR, k1_3 cI aR vR, k1_4 cI aR vR, k1_5 cJ aR vR, k1_6 cJ aR vR, k1_7 cJ aR vR, k1_8 cJ aR vR, k1_9 cJ aR vR]) hP hD hS hA (va_runV (As := [.int i2]) (rest := []) ⟨hx, hb, hml, hown, hts⟩ (mX1_touchesNext l dC dI cI cJ aR H.size vR i2 y9 hy9) (cwV 1 hts gX3_isAmong_X1_touchesNext rfl rfl rfl (by decide +kernel) ⟨Nat.le_of_ble_eq_true rfl, Nat.le_of_ble_eq_true rfl⟩) ⟨cFB, va_recv hK hP (ci := 1) (q0 := 6) rfl rfl, cPre hK hN hS (va_free (wc := [k1_0 aR vR, k1_1 cJ aR vR, k1_2 cI aR vR, k1_3 cI aR vR, k1_4 cI aR vR, k1_5 cJ aR vR, k1_6 cJ aR vR, k1_7 cJ aR vR, k1_8 cJ aR vR, k1_9 cJ aR vR]) hD hS hA [6, 7, 8, 9, 10, 11, 12, 13, 14, 15] rfl) (hP.sub [6, 7, 8, 9, 10, 11, 12, 13, 14, 15] rfl) (hD.sub [6, 7, 8, 9, 10, 11, 12, 13, 14, 15] rfl rfl)⟩ rfl rfl hl.1 rfl (lv_room (Nat.le_of_ble_eq_true rfl)) dX3_isAmong_63 ⟨Nat.le_of_ble_eq_true rfl, Nat.le_of_ble_eq_true rfl⟩) [6, 7, 8, 9, 10, 11, 12, 13, 14, 15] [0, 1, 2, 3, 4, 5] [0, 1, 2, 3, 4, 5, 6, 7, 8, 9, 10, 11, 12, 13, 14, 15] rfl rfl rfl (by decide +kernel) rfl rfl (fun H locs hP hD hS => ?_)
          refine lv_if_eq (tgt := 73) hx hb dX3_isAmong_66 (by decide) (fun c10 => ?_) (fun c10 => ?_)
          · have hf := oif_t c10 hf
            refine lv_iconst (v := 0) hx hb dX3_isAmong_73 (by decide) ?_
            obtain rfl := Option.some.inj hf
            exact W.zret (v := 0) hx hb hr rfl (fun t ht hW => ⟨⟨0, (), rfl, rfl, by rw [ht]; exact hP, hD⟩, hS.F ht⟩) hS.2.2 dX3_isAmong_74
          · have hf := oif_f c10 hf
            refine lv_iconst (v := 1) hx hb dX3_isAmong_69 (by decide) ?_
            refine lv_goto (tgt := 74) hx hb dX3_isAmong_70 (by decide) ?_
            obtain rfl := Option.some.inj hf
            exact W.zret (v := 1) hx hb hr rfl (fun t ht hW => ⟨⟨1, (), rfl, rfl, by rw [ht]; exact hP, hD⟩, hS.F ht⟩) hS.2.2 dX3_isAmong_74
      · have hf := oif_f c7 hf
        by_cases c11 : i3 = 3
        · have hf := oif_t c11 hf
          refine lv_tableIn (tgt := 75) hx hb dX3_isAmong_1 (by rw [c11]; decide) (by rw [c11]; decide) (by rw [c11]; rfl) (by decide) ?_
          refine lv_aload_n hx hb dX3_isAmong_75 rfl (lv_at hl 1 rfl) ?_
          refine lv_iload_n hx hb dX3_isAmong_76 rfl (lv_at hl 2 rfl) ?_
          refine lv_iconst (v := 0) hx hb dX3_isAmong_77 (by decide) ?_
          obtain ⟨y12, hy12, hf⟩ := obind hf
          refine cg_i (ws := [k3_0 a aA aB aR aT aS vX, k0_0 aA vA, k0_1 cI aA vA, k0_2 cI aA vA, k0_3 cI aA vA, k0_4 cI aA vA, k1_0 aR vR, k1_1 cJ aR vR, k1_2 cI aR vR, k1_3 cI aR vR, k1_4 cI aR vR, k1_5 cJ aR vR, k1_6 cJ aR vR, k1_7 cJ aR vR, k1_8 cJ aR vR, k1_9 cJ aR vR]) (wc := [k1_0 aR vR, k1_1 cJ aR vR, k1_2 cI aR vR, k1_3 cI aR vR, k1_4 cI aR vR, k1_5 cJ aR vR, k1_6 cJ aR vR, k1_7 cJ aR vR, k1_8 cJ aR vR, k1_9 cJ aR vR]) (wr := [k3_0 a aA aB aR aT aS vX, k0_0 aA vA, k0_1 cI aA vA, k0_2 cI aA vA, k0_3 cI aA vA, k0_4 cI aA vA]) (w1 := [k1_0 aR vR, k1_1 cJ aR vR, k1_2 cI aR vR, k1_3 cI aR vR, k1_4 cI aR vR, k1_5 cJ aR vR, k1_6 cJ aR vR, k1_7 cJ aR vR, k1_8 cJ aR vR, k1_9 cJ aR vR]) (wo := [k3_0 a aA aB aR aT aS vX, k0_0 aA vA, k0_1 cI aA vA, k0_2 cI aA vA, k0_3 cI aA vA, k0_4 cI aA vA, k1_0 aR vR, k1_1 cJ aR vR, k1_2 cI aR vR, k1_3 cI aR vR, k1_4 cI aR vR, k1_5 cJ aR vR, k1_6 cJ aR vR, k1_7 cJ aR vR, k1_8 cJ aR vR, k1_9 cJ aR vR]) hP hD hS hA (va_runV (As := [.int i2, .int 0]) (rest := []) ⟨hx, hb, hml, hown, hts⟩ (mX1_isAt l dC dI cI cJ aR H.size vR i2 (0 : Int32) y12 hy12) (cwV 2 hts gX3_isAmong_X1_isAt rfl rfl rfl (by decide +kernel) ⟨Nat.le_of_ble_eq_true rfl, Nat.le_of_ble_eq_true rfl⟩) ⟨cFB, va_recv hK hP (ci := 1) (q0 := 6) rfl rfl, cPre hK hN hS (va_free (wc := [k1_0 aR vR, k1_1 cJ aR vR, k1_2 cI aR vR, k1_3 cI aR vR, k1_4 cI aR vR, k1_5 cJ aR vR, k1_6 cJ aR vR, k1_7 cJ aR vR, k1_8 cJ aR vR, k1_9 cJ aR vR]) hD hS hA [6, 7, 8, 9, 10, 11, 12, 13, 14, 15] rfl) (hP.sub [6, 7, 8, 9, 10, 11, 12, 13, 14, 15] rfl) (hD.sub [6, 7, 8, 9, 10, 11, 12, 13, 14, 15] rfl rfl)⟩ rfl rfl hl.1 rfl (lv_room (Nat.le_of_ble_eq_true rfl)) dX3_isAmong_78 ⟨Nat.le_of_ble_eq_true rfl, Nat.le_of_ble_eq_true rfl⟩) [6, 7, 8, 9, 10, 11, 12, 13, 14, 15] [0, 1, 2, 3, 4, 5] [0, 1, 2, 3, 4, 5, 6, 7, 8, 9, 10, 11, 12, 13, 14, 15] rfl rfl rfl (by decide +kernel) rfl rfl (fun H locs hP hD hS => ?_)
          refine lv_if_ne (tgt := 99) hx hb dX3_isAmong_81 (by decide) (fun c13 => ?_) (fun c13 => ?_)
          · have hf := oif_f c13 hf
            exact (hWW _ _ _ _ _ _ _).1 (J99  H locs ls hP hD hS (lv_sub hl [] rfl) hf)
          · have hf := oif_t c13 hf
            refine lv_aload_n hx hb dX3_isAmong_84 rfl (lv_at hl 1 rfl) ?_
            refine lv_iload_n hx hb dX3_isAmong_85 rfl (lv_at hl 2 rfl) ?_
            refine lv_aload_n hx hb dX3_isAmong_86 rfl (lv_at hl 0 rfl) ?_
            refine va_get (D := (dC, dI)) (ci := 3) (v := .ref (aA 0)) (C := RX3) (T := TX3) (N := 8) hx hb hts hiX3 hown hK hP 0 rfl rfl 0 (by decide) hgX3_10 (fun _ h9 => h9) rfl dX3_isAmong_87 ?_
            refine va_get (D := (dC, dI)) (ci := 0) (v := .int (p0_width vA)) (C := RX0) (T := TX0) (N := 6) hx hb hts hiX0 hown hK hP 1 rfl rfl 0 (by decide) hgX0_169 (fun _ h9 => h9) rfl dX3_isAmong_90 ?_
            obtain ⟨y14, hy14, hf⟩ := obind hf
            refine cg_i (ws := [k3_0 a aA aB aR aT aS vX, k0_0 aA vA, k0_1 cI aA vA, k0_2 cI aA vA, k0_3 cI aA vA, k0_4 cI aA vA, k1_0 aR vR, k1_1 cJ aR vR, k1_2 cI aR vR, k1_3 cI aR vR, k1_4 cI aR vR, k1_5 cJ aR vR, k1_6 cJ aR vR, k1_7 cJ aR vR, k1_8 cJ aR vR, k1_9 cJ aR vR]) (wc := [k1_0 aR vR, k1_1 cJ aR vR, k1_2 cI aR vR, k1_3 cI aR vR, k1_4 cI aR vR, k1_5 cJ aR vR, k1_6 cJ aR vR, k1_7 cJ aR vR, k1_8 cJ aR vR, k1_9 cJ aR vR]) (wr := [k3_0 a aA aB aR aT aS vX, k0_0 aA vA, k0_1 cI aA vA, k0_2 cI aA vA, k0_3 cI aA vA, k0_4 cI aA vA]) (w1 := [k1_0 aR vR, k1_1 cJ aR vR, k1_2 cI aR vR, k1_3 cI aR vR, k1_4 cI aR vR, k1_5 cJ aR vR, k1_6 cJ aR vR, k1_7 cJ aR vR, k1_8 cJ aR vR, k1_9 cJ aR vR]) (wo := [k3_0 a aA aB aR aT aS vX, k0_0 aA vA, k0_1 cI aA vA, k0_2 cI aA vA, k0_3 cI aA vA, k0_4 cI aA vA, k1_0 aR vR, k1_1 cJ aR vR, k1_2 cI aR vR, k1_3 cI aR vR, k1_4 cI aR vR, k1_5 cJ aR vR, k1_6 cJ aR vR, k1_7 cJ aR vR, k1_8 cJ aR vR, k1_9 cJ aR vR]) hP hD hS hA (va_runV (As := [.int i2, .int (p0_width vA)]) (rest := []) ⟨hx, hb, hml, hown, hts⟩ (mX1_isAt l dC dI cI cJ aR H.size vR i2 (p0_width vA) y14 hy14) (cwV 2 hts gX3_isAmong_X1_isAt rfl rfl rfl (by decide +kernel) ⟨Nat.le_of_ble_eq_true rfl, Nat.le_of_ble_eq_true rfl⟩) ⟨cFB, va_recv hK hP (ci := 1) (q0 := 6) rfl rfl, cPre hK hN hS (va_free (wc := [k1_0 aR vR, k1_1 cJ aR vR, k1_2 cI aR vR, k1_3 cI aR vR, k1_4 cI aR vR, k1_5 cJ aR vR, k1_6 cJ aR vR, k1_7 cJ aR vR, k1_8 cJ aR vR, k1_9 cJ aR vR]) hD hS hA [6, 7, 8, 9, 10, 11, 12, 13, 14, 15] rfl) (hP.sub [6, 7, 8, 9, 10, 11, 12, 13, 14, 15] rfl) (hD.sub [6, 7, 8, 9, 10, 11, 12, 13, 14, 15] rfl rfl)⟩ rfl rfl hl.1 rfl (lv_room (Nat.le_of_ble_eq_true rfl)) dX3_isAmong_93 ⟨Nat.le_of_ble_eq_true rfl, Nat.le_of_ble_eq_true rfl⟩) [6, 7, 8, 9, 10, 11, 12, 13, 14, 15] [0, 1, 2, 3, 4, 5] [0, 1, 2, 3, 4, 5, 6, 7, 8, 9, 10, 11, 12, 13, 14, 15] rfl rfl rfl (by decide +kernel) rfl rfl (fun H locs hP hD hS => ?_)
            refine lv_if_eq (tgt := 103) hx hb dX3_isAmong_96 (by decide) (fun c15 => ?_) (fun c15 => ?_)
            · have hf := oif_t c15 hf
              refine lv_iconst (v := 0) hx hb dX3_isAmong_103 (by decide) ?_
              obtain rfl := Option.some.inj hf
              exact W.zret (v := 0) hx hb hr rfl (fun t ht hW => ⟨⟨0, (), rfl, rfl, by rw [ht]; exact hP, hD⟩, hS.F ht⟩) hS.2.2 dX3_isAmong_104
            · have hf := oif_f c15 hf
              exact (hWW _ _ _ _ _ _ _).1 (J99  H locs ls hP hD hS (lv_sub hl [] rfl) hf)
        · have hf := oif_f c11 hf
          refine lv_tableOut (tgt := 105) hx hb dX3_isAmong_1 (by have t0 := toInt_ne (n := 0) rfl c1; have t1 := toInt_ne (n := 1) rfl c4; have t2 := toInt_ne (n := 2) rfl c7; have t3 := toInt_ne (n := 3) rfl c11; omega) (by decide) ?_
          refine lv_aload_n hx hb dX3_isAmong_105 rfl (lv_at hl 1 rfl) ?_
          refine lv_aload_n hx hb dX3_isAmong_106 rfl (lv_at hl 0 rfl) ?_
          refine va_get (D := (dC, dI)) (ci := 3) (v := .ref (aA 0)) (C := RX3) (T := TX3) (N := 8) hx hb hts hiX3 hown hK hP 0 rfl rfl 0 (by decide) hgX3_10 (fun _ h9 => h9) rfl dX3_isAmong_107 ?_
          refine lv_iload_n hx hb dX3_isAmong_110 rfl (lv_at hl 2 rfl) ?_
          refine lv_iload_n hx hb dX3_isAmong_111 rfl (lv_at hl 2 rfl) ?_
          obtain ⟨y16, hy16, hf⟩ := obind hf
          refine cg_l (ws := [k3_0 a aA aB aR aT aS vX, k0_0 aA vA, k0_1 cI aA vA, k0_2 cI aA vA, k0_3 cI aA vA, k0_4 cI aA vA, k1_0 aR vR, k1_1 cJ aR vR, k1_2 cI aR vR, k1_3 cI aR vR, k1_4 cI aR vR, k1_5 cJ aR vR, k1_6 cJ aR vR, k1_7 cJ aR vR, k1_8 cJ aR vR, k1_9 cJ aR vR]) (wc := [k0_0 aA vA, k0_1 cI aA vA, k0_2 cI aA vA, k0_3 cI aA vA, k0_4 cI aA vA, k1_0 aR vR, k1_1 cJ aR vR, k1_2 cI aR vR, k1_3 cI aR vR, k1_4 cI aR vR, k1_5 cJ aR vR, k1_6 cJ aR vR, k1_7 cJ aR vR, k1_8 cJ aR vR, k1_9 cJ aR vR]) (wr := [k3_0 a aA aB aR aT aS vX]) (w1 := [k0_0 aA vA, k0_1 cI aA vA, k0_2 cI aA vA, k0_3 cI aA vA, k0_4 cI aA vA, k1_0 aR vR, k1_1 cJ aR vR, k1_2 cI aR vR, k1_3 cI aR vR, k1_4 cI aR vR, k1_5 cJ aR vR, k1_6 cJ aR vR, k1_7 cJ aR vR, k1_8 cJ aR vR, k1_9 cJ aR vR]) (wo := [k3_0 a aA aB aR aT aS vX, k0_0 aA vA, k0_1 cI aA vA, k0_2 cI aA vA, k0_3 cI aA vA, k0_4 cI aA vA, k1_0 aR vR, k1_1 cJ aR vR, k1_2 cI aR vR, k1_3 cI aR vR, k1_4 cI aR vR, k1_5 cJ aR vR, k1_6 cJ aR vR, k1_7 cJ aR vR, k1_8 cJ aR vR, k1_9 cJ aR vR]) hP hD hS hA (va_runV (As := [.ref (aA 0), .int i2, .int i2]) (rest := []) ⟨hx, hb, hml, hown, hts⟩ (mX1_forceOn l dC dI cI cJ aA aR H.size vA vR i2 i2 y16 hy16) (cwV 3 hts gX3_isAmong_X1_forceOn rfl rfl rfl (by decide +kernel) ⟨Nat.le_of_ble_eq_true rfl, Nat.le_of_ble_eq_true rfl⟩) ⟨cFB, va_recv hK hP (ci := 1) (q0 := 6) rfl rfl, cPre hK hN hS (va_free (wc := [k0_0 aA vA, k0_1 cI aA vA, k0_2 cI aA vA, k0_3 cI aA vA, k0_4 cI aA vA, k1_0 aR vR, k1_1 cJ aR vR, k1_2 cI aR vR, k1_3 cI aR vR, k1_4 cI aR vR, k1_5 cJ aR vR, k1_6 cJ aR vR, k1_7 cJ aR vR, k1_8 cJ aR vR, k1_9 cJ aR vR]) hD hS hA [1, 2, 3, 4, 5, 6, 7, 8, 9, 10, 11, 12, 13, 14, 15] rfl) (hP.sub [1, 2, 3, 4, 5, 6, 7, 8, 9, 10, 11, 12, 13, 14, 15] rfl) (hD.sub [1, 2, 3, 4, 5, 6, 7, 8, 9, 10, 11, 12, 13, 14, 15] rfl rfl)⟩ rfl rfl hl.1 rfl (lv_room (Nat.le_of_ble_eq_true rfl)) dX3_isAmong_112 ⟨Nat.le_of_ble_eq_true rfl, Nat.le_of_ble_eq_true rfl⟩) [1, 2, 3, 4, 5, 6, 7, 8, 9, 10, 11, 12, 13, 14, 15] [0] [0, 1, 2, 3, 4, 5, 6, 7, 8, 9, 10, 11, 12, 13, 14, 15] rfl rfl rfl (by decide +kernel) rfl rfl (fun H locs hP hD hS => ?_)
          refine lv_lconst (v := 0) hx hb dX3_isAmong_115 (by decide) ?_
          refine W.lcmp hx hb dX3_isAmong_116 ?_
          refine lv_if_eq (tgt := 124) hx hb dX3_isAmong_117 (by decide) (fun c17 => ?_) (fun c17 => ?_)
          · have hf := oif_t c17 hf
            refine lv_iconst (v := 0) hx hb dX3_isAmong_124 (by decide) ?_
            obtain rfl := Option.some.inj hf
            exact W.zret (v := 0) hx hb hr rfl (fun t ht hW => ⟨⟨0, (), rfl, rfl, by rw [ht]; exact hP, hD⟩, hS.F ht⟩) hS.2.2 dX3_isAmong_125
          · have hf := oif_f c17 hf
            refine lv_iconst (v := 1) hx hb dX3_isAmong_120 (by decide) ?_
            refine lv_goto (tgt := 125) hx hb dX3_isAmong_121 (by decide) ?_
            obtain rfl := Option.some.inj hf
            exact W.zret (v := 1) hx hb hr rfl (fun t ht hW => ⟨⟨1, (), rfl, rfl, by rw [ht]; exact hP, hD⟩, hS.F ht⟩) hS.2.2 dX3_isAmong_125
def fX3_plates_52 (k22 : BX3 → BX0 → BX1 → Int32 → Int32 → Int32 → Option (Int32 × BX3 × BX1)) (vX : BX3) (vA : BX0) (vR : BX1) (x1 : Int32) (x3 : Int32) (x4 : Int32) : Option (Int32 × BX3 × BX1) :=
  elet (x4 + 1) (fun z5 => k22 vX vA vR x1 x3 z5)
def fX3_plates_22_b (k22 : BX3 → BX0 → BX1 → Int32 → Int32 → Int32 → Option (Int32 × BX3 × BX1)) (vX : BX3) (vA : BX0) (vR : BX1) (x1 : Int32) (x3 : Int32) (x4 : Int32) : Option (Int32 × BX3 × BX1) :=
  if (p0_plates vA) ≤ x4 then (some (x3, vX, vR)) else ((fX3_isAmong vX vA vR x4 x1).bind (fun y2 => if y2 = 0 then (fX3_plates_52 k22 vX vA vR x1 x3 x4) else (elet (x3 ||| ((1 : Int32) <<< (x4 &&& 31))) (fun z4 => fX3_plates_52 k22 vX vA vR x1 z4 x4))))
def fX3_plates_22 : Nat → BX3 → BX0 → BX1 → Int32 → Int32 → Int32 → Option (Int32 × BX3 × BX1)
  | 0 => fun _ _ _ _ _ _ => none
  | n + 1 => fX3_plates_22_b (fX3_plates_22 n)
def fX3_plates (vX : BX3) (vA : BX0) (vR : BX1) (i1 : Int32) : Option (Int32 × BX3 × BX1) :=
  if i1 < 0 then (some ((-1000001), vX, vR)) else (if i1 ≤ (4 : Int32) then ((fX3_settled vX vA vR).bind (fun y8 => fX3_plates_22 FU y8.1 vA y8.2 i1 (0 : Int32) (0 : Int32))) else (some ((-1000001), vX, vR)))
set_option maxHeartbeats 8000000 in
set_option maxRecDepth 100000 in
theorem mX3_plates (l : Launch) (dC : Nat → ClassId) (dI : Nat → Nat → Nat) (cI cJ : ClassId) (a : Nat → Nat) (aA : Nat → Nat) (aB : Nat → Nat) (aR : Nat → Nat) (aT : Nat → Nat) (aS : Nat → Nat) (sz : Nat) (vX : BX3) (vA : BX0) (vR : BX1) (i1 : Int32) (y : (Int32 × BX3 × BX1)) (hf : fX3_plates vX vA vR i1 = some y) : Met l yX3_plates wsX3_plates ({ frames := 6, cells := 0, slots := 0, locals := 141 }) (cPc dC dI cI cJ [.ref (a 0), .int i1] [k3_0 a aA aB aR aT aS vX, k0_0 aA vA, k0_1 cI aA vA, k0_2 cI aA vA, k0_3 cI aA vA, k0_4 cI aA vA, k1_0 aR vR, k1_1 cJ aR vR, k1_2 cI aR vR, k1_3 cI aR vR, k1_4 cI aR vR, k1_5 cJ aR vR, k1_6 cJ aR vR, k1_7 cJ aR vR, k1_8 cJ aR vR, k1_9 cJ aR vR] sz) (va_Qi (fun r (_ : Unit) => r = y.1) (fun _ t => cB dC dI (va_A [k3_0 a aA aB aR aT aS vX, k0_0 aA vA, k0_1 cI aA vA, k0_2 cI aA vA, k0_3 cI aA vA, k0_4 cI aA vA, k1_0 aR vR, k1_1 cJ aR vR, k1_2 cI aR vR, k1_3 cI aR vR, k1_4 cI aR vR, k1_5 cJ aR vR, k1_6 cJ aR vR, k1_7 cJ aR vR, k1_8 cJ aR vR, k1_9 cJ aR vR] sz) [k3_0 a aA aB aR aT aS y.2.1, k0_0 aA vA, k0_1 cI aA vA, k0_2 cI aA vA, k0_3 cI aA vA, k0_4 cI aA vA, k1_0 aR y.2.2, k1_1 cJ aR y.2.2, k1_2 cI aR y.2.2, k1_3 cI aR y.2.2, k1_4 cI aR y.2.2, k1_5 cJ aR y.2.2, k1_6 cJ aR y.2.2, k1_7 cJ aR y.2.2, k1_8 cJ aR y.2.2, k1_9 cJ aR y.2.2] t) (va_A [k3_0 a aA aB aR aT aS vX, k0_0 aA vA, k0_1 cI aA vA, k0_2 cI aA vA, k0_3 cI aA vA, k0_4 cI aA vA, k1_0 aR vR, k1_1 cJ aR vR, k1_2 cI aR vR, k1_3 cI aR vR, k1_4 cI aR vR, k1_5 cJ aR vR, k1_6 cJ aR vR, k1_7 cJ aR vR, k1_8 cJ aR vR, k1_9 cJ aR vR] sz)) 0 0 (va_A [k3_0 a aA aB aR aT aS vX, k0_0 aA vA, k0_1 cI aA vA, k0_2 cI aA vA, k0_3 cI aA vA, k0_4 cI aA vA, k1_0 aR vR, k1_1 cJ aR vR, k1_2 cI aR vR, k1_3 cI aR vR, k1_4 cI aR vR, k1_5 cJ aR vR, k1_6 cJ aR vR, k1_7 cJ aR vR, k1_8 cJ aR vR, k1_9 cJ aR vR] sz) := by
  refine Met.ofW (cc := cX3_plates) (maxL := 5) (ret := (some .int)) (by decide) rfl ?_
  intro p e s m args below meth c s₁ B hml hv
  obtain ⟨rfl, hsz, hP, hK, hD0, hN⟩ := hv
  have hx := B.exec
  have hb := B.bytes
  have hr := B.returns
  have hts := atoms_spec (ws := wsX3_plates) B.pre
  have hown : s.vm.findClass RX3 = some m.cls := findClass_of_methodNamed B.named
  have hlocks := B.notSynchronized
  subst hsz
  have hD := hD0.self (sz := s.heap.size)
  generalize hAe : va_A [k3_0 a aA aB aR aT aS vX, k0_0 aA vA, k0_1 cI aA vA, k0_2 cI aA vA, k0_3 cI aA vA, k0_4 cI aA vA, k1_0 aR vR, k1_1 cJ aR vR, k1_2 cI aR vR, k1_3 cI aR vR, k1_4 cI aR vR, k1_5 cJ aR vR, k1_6 cJ aR vR, k1_7 cJ aR vR, k1_8 cJ aR vR, k1_9 cJ aR vR] s.heap.size = A at hD hN ⊢
  have hA : ∀ q : Nat, s.heap.size ≤ q → A q := fun q h => by rw [← hAe]; exact Or.inr h
  have hP : va_P (dC, dI) vwCl [k3_0 a aA aB aR aT aS vX, k0_0 aA vA, k0_1 cI aA vA, k0_2 cI aA vA, k0_3 cI aA vA, k0_4 cI aA vA, k1_0 aR vR, k1_1 cJ aR vR, k1_2 cI aR vR, k1_3 cI aR vR, k1_4 cI aR vR, k1_5 cJ aR vR, k1_6 cJ aR vR, k1_7 cJ aR vR, k1_8 cJ aR vR, k1_9 cJ aR vR] s.heap := hP
  have hl := lv_entry ([.ref (a 0), .int i1]) (n := 5) (Nat.le_of_ble_eq_true rfl)
  rw [lg_entry_eq]
  generalize (lg_sl ([.ref (a 0), .int i1]) ++ List.replicate (5 - (lg_sl ([.ref (a 0), .int i1])).length) Slot.unset).toArray = ls at hl ⊢
  have hl : lv_has ls 5 [(0, .ref (a 0)), (1, .int i1)] := hl
  have hiX3 : ∀ w ∈ u_ws RX3 TX3 8, w ∈ wsX3_plates := by decide +kernel
  have hgX3_10 := hts (.fieldLink RX3 10 "SpringPlates" "laid" "LSpringPlates$Layout;") (by decide +kernel)
  have hiX0 : ∀ w ∈ u_ws RX0 TX0 6, w ∈ wsX3_plates := by decide +kernel
  have hgX0_152 := hts (.fieldLink RX3 152 "SpringPlates$Layout" "plates" "I") (by decide +kernel)
  have hc84 := hts (.constant RX3 84 (-1000001)) (by decide +kernel)
  refine nameH (fun H locs hHe hLe => ?_)
  have hP : va_P (dC, dI) vwCl [k3_0 a aA aB aR aT aS vX, k0_0 aA vA, k0_1 cI aA vA, k0_2 cI aA vA, k0_3 cI aA vA, k0_4 cI aA vA, k1_0 aR vR, k1_1 cJ aR vR, k1_2 cI aR vR, k1_3 cI aR vR, k1_4 cI aR vR, k1_5 cJ aR vR, k1_6 cJ aR vR, k1_7 cJ aR vR, k1_8 cJ aR vR, k1_9 cJ aR vR] H := by rw [hHe]; exact hP
  have hS : va_S A s.heap H locs := by rw [hHe, hLe]; exact va_S.rf
  refine withW (fun WW hWW => ?_)
  have J52 : ∀ (k22 : BX3 → BX0 → BX1 → Int32 → Int32 → Int32 → Option (Int32 × BX3 × BX1)) (hk22 : ∀ (vX : BX3) (vR : BX1) (x1 : Int32) (x3 : Int32) (x4 : Int32) (H : Heap) (locs : List Loc) (ls : Array Slot), va_P (dC, dI) vwCl [k3_0 a aA aB aR aT aS vX, k0_0 aA vA, k0_1 cI aA vA, k0_2 cI aA vA, k0_3 cI aA vA, k0_4 cI aA vA, k1_0 aR vR, k1_1 cJ aR vR, k1_2 cI aR vR, k1_3 cI aR vR, k1_4 cI aR vR, k1_5 cJ aR vR, k1_6 cJ aR vR, k1_7 cJ aR vR, k1_8 cJ aR vR, k1_9 cJ aR vR] H → va_D A [k3_0 a aA aB aR aT aS vX, k0_0 aA vA, k0_1 cI aA vA, k0_2 cI aA vA, k0_3 cI aA vA, k0_4 cI aA vA, k1_0 aR vR, k1_1 cJ aR vR, k1_2 cI aR vR, k1_3 cI aR vR, k1_4 cI aR vR, k1_5 cJ aR vR, k1_6 cJ aR vR, k1_7 cJ aR vR, k1_8 cJ aR vR, k1_9 cJ aR vR] → va_S A s.heap H locs → lv_has ls 5 [(0, .ref (a 0)), (1, .int x1), (2, .ref (aR 0)), (3, .int x3), (4, .int x4)] → k22 vX vA vR x1 x3 x4 = some y → WW H locs 0 0 ls 22 []) (vX : BX3) (vR : BX1) (x1 : Int32) (x3 : Int32) (x4 : Int32) (H : Heap) (locs : List Loc) (ls : Array Slot), va_P (dC, dI) vwCl [k3_0 a aA aB aR aT aS vX, k0_0 aA vA, k0_1 cI aA vA, k0_2 cI aA vA, k0_3 cI aA vA, k0_4 cI aA vA, k1_0 aR vR, k1_1 cJ aR vR, k1_2 cI aR vR, k1_3 cI aR vR, k1_4 cI aR vR, k1_5 cJ aR vR, k1_6 cJ aR vR, k1_7 cJ aR vR, k1_8 cJ aR vR, k1_9 cJ aR vR] H → va_D A [k3_0 a aA aB aR aT aS vX, k0_0 aA vA, k0_1 cI aA vA, k0_2 cI aA vA, k0_3 cI aA vA, k0_4 cI aA vA, k1_0 aR vR, k1_1 cJ aR vR, k1_2 cI aR vR, k1_3 cI aR vR, k1_4 cI aR vR, k1_5 cJ aR vR, k1_6 cJ aR vR, k1_7 cJ aR vR, k1_8 cJ aR vR, k1_9 cJ aR vR] → va_S A s.heap H locs → lv_has ls 5 [(0, .ref (a 0)), (1, .int x1), (2, .ref (aR 0)), (3, .int x3), (4, .int x4)] → fX3_plates_52 k22 vX vA vR x1 x3 x4 = some y → WW H locs 0 0 ls 52 [] := by
    intro k22 hk22 vX vR x1 x3 x4 H locs ls hP hD hS hl hf
    unfold fX3_plates_52 at hf
    refine (hWW _ _ _ _ _ _ _).2 ?_
    obtain ⟨z5, ez5, hf⟩ := elet_out hf
    refine lv_iinc (v := z5) (lv' := [(4, .int z5), (0, .ref (a 0)), (1, .int x1), (2, .ref (aR 0)), (3, .int x3)]) hx hb dX3_plates_52 hl (k := 4) rfl (by rw [ez5]; rfl) (by decide) rfl (fun ls hl => ?_)
    refine lv_goto (tgt := 22) hx hb dX3_plates_55 (by decide) ?_
    exact (hWW _ _ _ _ _ _ _).1 (hk22 vX vR x1 x3 z5 H locs ls hP hD hS (lv_sub hl [1, 2, 3, 4, 0] rfl) hf)
  have L22 : ∀ (n : Nat) (vX : BX3) (vR : BX1) (x1 : Int32) (x3 : Int32) (x4 : Int32) (H : Heap) (locs : List Loc) (ls : Array Slot), va_P (dC, dI) vwCl [k3_0 a aA aB aR aT aS vX, k0_0 aA vA, k0_1 cI aA vA, k0_2 cI aA vA, k0_3 cI aA vA, k0_4 cI aA vA, k1_0 aR vR, k1_1 cJ aR vR, k1_2 cI aR vR, k1_3 cI aR vR, k1_4 cI aR vR, k1_5 cJ aR vR, k1_6 cJ aR vR, k1_7 cJ aR vR, k1_8 cJ aR vR, k1_9 cJ aR vR] H → va_D A [k3_0 a aA aB aR aT aS vX, k0_0 aA vA, k0_1 cI aA vA, k0_2 cI aA vA, k0_3 cI aA vA, k0_4 cI aA vA, k1_0 aR vR, k1_1 cJ aR vR, k1_2 cI aR vR, k1_3 cI aR vR, k1_4 cI aR vR, k1_5 cJ aR vR, k1_6 cJ aR vR, k1_7 cJ aR vR, k1_8 cJ aR vR, k1_9 cJ aR vR] → va_S A s.heap H locs → lv_has ls 5 [(0, .ref (a 0)), (1, .int x1), (2, .ref (aR 0)), (3, .int x3), (4, .int x4)] → fX3_plates_22 n vX vA vR x1 x3 x4 = some y → WW H locs 0 0 ls 22 [] := by
    intro n
    induction n with
    | zero =>
      intro vX vR x1 x3 x4 H locs ls hP hD hS hl hf
      exact onone hf
    | succ n ih =>
      intro vX vR x1 x3 x4 H locs ls hP hD hS hl hf
      have hf : fX3_plates_22_b (fX3_plates_22 n) vX vA vR x1 x3 x4 = some y := hf
      generalize fX3_plates_22 n = k22 at hf ih
      have hk22 := ih
      clear ih
      unfold fX3_plates_22_b at hf
      refine (hWW _ _ _ _ _ _ _).2 ?_
      refine lv_iload hx hb dX3_plates_22 (lv_at hl 4 rfl) ?_
      refine lv_aload_n hx hb dX3_plates_24 rfl (lv_at hl 0 rfl) ?_
      refine va_get (D := (dC, dI)) (ci := 3) (v := .ref (aA 0)) (C := RX3) (T := TX3) (N := 8) hx hb hts hiX3 hown hK hP 0 rfl rfl 0 (by decide) hgX3_10 (fun _ h9 => h9) rfl dX3_plates_25 ?_
      refine va_get (D := (dC, dI)) (ci := 0) (v := .int (p0_plates vA)) (C := RX0) (T := TX0) (N := 6) hx hb hts hiX0 hown hK hP 1 rfl rfl 1 (by decide) hgX0_152 (fun _ h9 => h9) rfl dX3_plates_28 ?_
      refine lv_icmp_ge (tgt := 58) hx hb dX3_plates_31 (by decide) (fun c1 => ?_) (fun c1 => ?_)
      · have hf := oif_t c1 hf
        refine lv_iload_n hx hb dX3_plates_58 rfl (lv_at hl 3 rfl) ?_
        obtain rfl := Option.some.inj hf
        exact W.iret (v := x3) hx hb hr (fun t ht hW => ⟨⟨x3, (), rfl, rfl, by rw [ht]; exact hP, hD⟩, hS.F ht⟩) hS.2.2 dX3_plates_59
      · have hf := oif_f c1 hf
        refine lv_aload_n hx hb dX3_plates_34 rfl (lv_at hl 0 rfl) ?_
        refine lv_aload_n hx hb dX3_plates_35 rfl (lv_at hl 2 rfl) ?_
        refine lv_iload hx hb dX3_plates_36 (lv_at hl 4 rfl) ?_
        refine lv_iload_n hx hb dX3_plates_38 rfl (lv_at hl 1 rfl) ?_
        obtain ⟨y2, hy2, hf⟩ := obind hf
        refine cg_i (ws := [k3_0 a aA aB aR aT aS vX, k0_0 aA vA, k0_1 cI aA vA, k0_2 cI aA vA, k0_3 cI aA vA, k0_4 cI aA vA, k1_0 aR vR, k1_1 cJ aR vR, k1_2 cI aR vR, k1_3 cI aR vR, k1_4 cI aR vR, k1_5 cJ aR vR, k1_6 cJ aR vR, k1_7 cJ aR vR, k1_8 cJ aR vR, k1_9 cJ aR vR]) (wc := [k3_0 a aA aB aR aT aS vX, k0_0 aA vA, k0_1 cI aA vA, k0_2 cI aA vA, k0_3 cI aA vA, k0_4 cI aA vA, k1_0 aR vR, k1_1 cJ aR vR, k1_2 cI aR vR, k1_3 cI aR vR, k1_4 cI aR vR, k1_5 cJ aR vR, k1_6 cJ aR vR, k1_7 cJ aR vR, k1_8 cJ aR vR, k1_9 cJ aR vR]) (wr := []) (w1 := [k3_0 a aA aB aR aT aS vX, k0_0 aA vA, k0_1 cI aA vA, k0_2 cI aA vA, k0_3 cI aA vA, k0_4 cI aA vA, k1_0 aR vR, k1_1 cJ aR vR, k1_2 cI aR vR, k1_3 cI aR vR, k1_4 cI aR vR, k1_5 cJ aR vR, k1_6 cJ aR vR, k1_7 cJ aR vR, k1_8 cJ aR vR, k1_9 cJ aR vR]) (wo := [k3_0 a aA aB aR aT aS vX, k0_0 aA vA, k0_1 cI aA vA, k0_2 cI aA vA, k0_3 cI aA vA, k0_4 cI aA vA, k1_0 aR vR, k1_1 cJ aR vR, k1_2 cI aR vR, k1_3 cI aR vR, k1_4 cI aR vR, k1_5 cJ aR vR, k1_6 cJ aR vR, k1_7 cJ aR vR, k1_8 cJ aR vR, k1_9 cJ aR vR]) hP hD hS hA (va_runV (As := [.ref (aR 0), .int x4, .int x1]) (rest := []) ⟨hx, hb, hml, hown, hts⟩ (mX3_isAmong l dC dI cI cJ a aA aB aR aT aS H.size vX vA vR x4 x1 y2 hy2) (cwV 3 hts gX3_plates_X3_isAmong rfl rfl rfl (by decide +kernel) ⟨Nat.le_of_ble_eq_true rfl, Nat.le_of_ble_eq_true rfl⟩) ⟨cFB, va_recv hK hP (ci := 3) (q0 := 0) rfl rfl, cPre hK hN hS (va_free (wc := [k3_0 a aA aB aR aT aS vX, k0_0 aA vA, k0_1 cI aA vA, k0_2 cI aA vA, k0_3 cI aA vA, k0_4 cI aA vA, k1_0 aR vR, k1_1 cJ aR vR, k1_2 cI aR vR, k1_3 cI aR vR, k1_4 cI aR vR, k1_5 cJ aR vR, k1_6 cJ aR vR, k1_7 cJ aR vR, k1_8 cJ aR vR, k1_9 cJ aR vR]) hD hS hA [0, 1, 2, 3, 4, 5, 6, 7, 8, 9, 10, 11, 12, 13, 14, 15] rfl) (hP.sub [0, 1, 2, 3, 4, 5, 6, 7, 8, 9, 10, 11, 12, 13, 14, 15] rfl) (hD.sub [0, 1, 2, 3, 4, 5, 6, 7, 8, 9, 10, 11, 12, 13, 14, 15] rfl rfl)⟩ rfl rfl hl.1 rfl (lv_room (Nat.le_of_ble_eq_true rfl)) dX3_plates_39 ⟨Nat.le_of_ble_eq_true rfl, Nat.le_of_ble_eq_true rfl⟩) [0, 1, 2, 3, 4, 5, 6, 7, 8, 9, 10, 11, 12, 13, 14, 15] [] [0, 1, 2, 3, 4, 5, 6, 7, 8, 9, 10, 11, 12, 13, 14, 15] rfl rfl rfl (by decide +kernel) rfl rfl (fun H locs hP hD hS => ?_)
        refine lv_if_eq (tgt := 52) hx hb dX3_plates_42 (by decide) (fun c3 => ?_) (fun c3 => ?_)
        · have hf := oif_t c3 hf
          exact (hWW _ _ _ _ _ _ _).1 (J52 k22 hk22 vX vR x1 x3 x4 H locs ls hP hD hS (lv_sub hl [0, 1, 2, 3, 4] rfl) hf)
        · have hf := oif_f c3 hf
          refine lv_iload_n hx hb dX3_plates_45 rfl (lv_at hl 3 rfl) ?_
          refine lv_iconst (v := 1) hx hb dX3_plates_46 (by decide) ?_
          refine lv_iload hx hb dX3_plates_47 (lv_at hl 4 rfl) ?_
          refine lv_ishl hx hb dX3_plates_49 ?_
          refine lv_ior hx hb dX3_plates_50 ?_
          obtain ⟨z4, ez4, hf⟩ := elet_out hf
          refine lvn_i ez4 ?_
          refine lv_istore_n (lv' := [(3, .int z4), (0, .ref (a 0)), (1, .int x1), (2, .ref (aR 0)), (4, .int x4)]) hx hb dX3_plates_51 rfl hl (by decide) rfl (fun ls hl => ?_)
          exact (hWW _ _ _ _ _ _ _).1 (J52 k22 hk22 vX vR x1 z4 x4 H locs ls hP hD hS (lv_sub hl [1, 2, 3, 0, 4] rfl) hf)
  refine (hWW _ _ _ _ _ _ _).2 ?_
  unfold fX3_plates at hf
  refine lv_iload_n hx hb dX3_plates_0 rfl (lv_at hl 1 rfl) ?_
  refine lv_if_lt (tgt := 9) hx hb dX3_plates_1 (by decide) (fun c6 => ?_) (fun c6 => ?_)
  · have hf := oif_t c6 hf
    refine lv_ldc (v := (-1000001)) hx hb hown hc84 dX3_plates_9 ?_
    obtain rfl := Option.some.inj hf
    exact W.iret (v := (-1000001)) hx hb hr (fun t ht hW => ⟨⟨(-1000001), (), rfl, rfl, by rw [ht]; exact hP, hD⟩, hS.F ht⟩) hS.2.2 dX3_plates_11
  · have hf := oif_f c6 hf
    refine lv_iload_n hx hb dX3_plates_4 rfl (lv_at hl 1 rfl) ?_
    refine lv_iconst (v := 4) hx hb dX3_plates_5 (by decide) ?_
    refine lv_icmp_le (tgt := 12) hx hb dX3_plates_6 (by decide) (fun c7 => ?_) (fun c7 => ?_)
    · have hf := oif_t c7 hf
      refine lv_aload_n hx hb dX3_plates_12 rfl (lv_at hl 0 rfl) ?_
      obtain ⟨y8, hy8, hf⟩ := obind hf
      refine cg_r (ws := [k3_0 a aA aB aR aT aS vX, k0_0 aA vA, k0_1 cI aA vA, k0_2 cI aA vA, k0_3 cI aA vA, k0_4 cI aA vA, k1_0 aR vR, k1_1 cJ aR vR, k1_2 cI aR vR, k1_3 cI aR vR, k1_4 cI aR vR, k1_5 cJ aR vR, k1_6 cJ aR vR, k1_7 cJ aR vR, k1_8 cJ aR vR, k1_9 cJ aR vR]) (wc := [k3_0 a aA aB aR aT aS vX, k0_0 aA vA, k0_1 cI aA vA, k0_2 cI aA vA, k0_3 cI aA vA, k0_4 cI aA vA, k1_0 aR vR, k1_1 cJ aR vR, k1_2 cI aR vR, k1_3 cI aR vR, k1_4 cI aR vR, k1_5 cJ aR vR, k1_6 cJ aR vR, k1_7 cJ aR vR, k1_8 cJ aR vR, k1_9 cJ aR vR]) (wr := []) (w1 := [k3_0 a aA aB aR aT aS y8.1, k0_0 aA vA, k0_1 cI aA vA, k0_2 cI aA vA, k0_3 cI aA vA, k0_4 cI aA vA, k1_0 aR y8.2, k1_1 cJ aR y8.2, k1_2 cI aR y8.2, k1_3 cI aR y8.2, k1_4 cI aR y8.2, k1_5 cJ aR y8.2, k1_6 cJ aR y8.2, k1_7 cJ aR y8.2, k1_8 cJ aR y8.2, k1_9 cJ aR y8.2]) (wo := [k3_0 a aA aB aR aT aS y8.1, k0_0 aA vA, k0_1 cI aA vA, k0_2 cI aA vA, k0_3 cI aA vA, k0_4 cI aA vA, k1_0 aR y8.2, k1_1 cJ aR y8.2, k1_2 cI aR y8.2, k1_3 cI aR y8.2, k1_4 cI aR y8.2, k1_5 cJ aR y8.2, k1_6 cJ aR y8.2, k1_7 cJ aR y8.2, k1_8 cJ aR y8.2, k1_9 cJ aR y8.2]) hP hD hS hA (va_runV (As := []) (rest := []) ⟨hx, hb, hml, hown, hts⟩ (mX3_settled l dC dI cI cJ a aA aB aR aT aS H.size vX vA vR y8 hy8) (cwV 0 hts gX3_plates_X3_settled rfl rfl rfl (by decide +kernel) ⟨Nat.le_of_ble_eq_true rfl, Nat.le_of_ble_eq_true rfl⟩) ⟨cFB, va_recv hK hP (ci := 3) (q0 := 0) rfl rfl, cPre hK hN hS (va_free (wc := [k3_0 a aA aB aR aT aS vX, k0_0 aA vA, k0_1 cI aA vA, k0_2 cI aA vA, k0_3 cI aA vA, k0_4 cI aA vA, k1_0 aR vR, k1_1 cJ aR vR, k1_2 cI aR vR, k1_3 cI aR vR, k1_4 cI aR vR, k1_5 cJ aR vR, k1_6 cJ aR vR, k1_7 cJ aR vR, k1_8 cJ aR vR, k1_9 cJ aR vR]) hD hS hA [0, 1, 2, 3, 4, 5, 6, 7, 8, 9, 10, 11, 12, 13, 14, 15] rfl) (hP.sub [0, 1, 2, 3, 4, 5, 6, 7, 8, 9, 10, 11, 12, 13, 14, 15] rfl) (hD.sub [0, 1, 2, 3, 4, 5, 6, 7, 8, 9, 10, 11, 12, 13, 14, 15] rfl rfl)⟩ rfl rfl hl.1 rfl (lv_room (Nat.le_of_ble_eq_true rfl)) dX3_plates_13 ⟨Nat.le_of_ble_eq_true rfl, Nat.le_of_ble_eq_true rfl⟩) [0, 1, 2, 3, 4, 5, 6, 7, 8, 9, 10, 11, 12, 13, 14, 15] [] [0, 1, 2, 3, 4, 5, 6, 7, 8, 9, 10, 11, 12, 13, 14, 15] rfl rfl rfl (by decide +kernel) rfl rfl (fun H locs hP hD hS => ?_)
      refine lv_astore_n (lv' := [(2, .ref (aR 0)), (0, .ref (a 0)), (1, .int i1)]) hx hb dX3_plates_16 rfl hl (by decide) rfl (fun ls hl => ?_)
      refine lv_iconst (v := 0) hx hb dX3_plates_17 (by decide) ?_
      refine lv_istore_n (lv' := [(3, .int 0), (2, .ref (aR 0)), (0, .ref (a 0)), (1, .int i1)]) hx hb dX3_plates_18 rfl hl (by decide) rfl (fun ls hl => ?_)
      refine lv_iconst (v := 0) hx hb dX3_plates_19 (by decide) ?_
      refine lv_istore (lv' := [(4, .int 0), (3, .int 0), (2, .ref (aR 0)), (0, .ref (a 0)), (1, .int i1)]) hx hb dX3_plates_20 hl (by decide) rfl (fun ls hl => ?_)
      exact (hWW _ _ _ _ _ _ _).1 (L22 FU y8.1 y8.2 i1 (0 : Int32) (0 : Int32) H locs ls hP hD hS (lv_sub hl [3, 4, 2, 1, 0] rfl) hf)
    · have hf := oif_f c7 hf
      refine lv_ldc (v := (-1000001)) hx hb hown hc84 dX3_plates_9 ?_
      obtain rfl := Option.some.inj hf
      exact W.iret (v := (-1000001)) hx hb hr (fun t ht hW => ⟨⟨(-1000001), (), rfl, rfl, by rw [ht]; exact hP, hD⟩, hS.F ht⟩) hS.2.2 dX3_plates_11
def fX3_settleWithout (vX : BX3) (vA : BX0) (vB : BX0) (vT : BX1) (i1 : Int32) (i2 : Int32) : Option (BX0 × BX1) :=
  (fX0_copyFrom vB vA).bind (fun y1 => (fX0_removeStop y1 i1 i2).bind (fun y2 => (fX1_settle y2.2 vT).bind (fun y3 => some (y2.2, y3))))
set_option maxHeartbeats 8000000 in
set_option maxRecDepth 100000 in
theorem mX3_settleWithout (l : Launch) (dC : Nat → ClassId) (dI : Nat → Nat → Nat) (cI cJ : ClassId) (a : Nat → Nat) (aA : Nat → Nat) (aB : Nat → Nat) (aR : Nat → Nat) (aT : Nat → Nat) (aS : Nat → Nat) (sz : Nat) (vX : BX3) (vA : BX0) (vB : BX0) (vT : BX1) (i1 : Int32) (i2 : Int32) (y : (BX0 × BX1)) (hf : fX3_settleWithout vX vA vB vT i1 i2 = some y) : Met l yX3_settleWithout wsX3_settleWithout ({ frames := 5, cells := 0, slots := 0, locals := 121 }) (cPc dC dI cI cJ [.ref (a 0), .int i1, .int i2] [k3_0 a aA aB aR aT aS vX, k0_0 aA vA, k0_1 cI aA vA, k0_2 cI aA vA, k0_3 cI aA vA, k0_4 cI aA vA, k0_0 aB vB, k0_1 cI aB vB, k0_2 cI aB vB, k0_3 cI aB vB, k0_4 cI aB vB, k1_0 aT vT, k1_1 cJ aT vT, k1_2 cI aT vT, k1_3 cI aT vT, k1_4 cI aT vT, k1_5 cJ aT vT, k1_6 cJ aT vT, k1_7 cJ aT vT, k1_8 cJ aT vT, k1_9 cJ aT vT] sz) (va_Qv (fun (_ : Unit) => True) (fun _ t => cB dC dI (va_A [k3_0 a aA aB aR aT aS vX, k0_0 aA vA, k0_1 cI aA vA, k0_2 cI aA vA, k0_3 cI aA vA, k0_4 cI aA vA, k0_0 aB vB, k0_1 cI aB vB, k0_2 cI aB vB, k0_3 cI aB vB, k0_4 cI aB vB, k1_0 aT vT, k1_1 cJ aT vT, k1_2 cI aT vT, k1_3 cI aT vT, k1_4 cI aT vT, k1_5 cJ aT vT, k1_6 cJ aT vT, k1_7 cJ aT vT, k1_8 cJ aT vT, k1_9 cJ aT vT] sz) [k3_0 a aA aB aR aT aS vX, k0_0 aA vA, k0_1 cI aA vA, k0_2 cI aA vA, k0_3 cI aA vA, k0_4 cI aA vA, k0_0 aB y.1, k0_1 cI aB y.1, k0_2 cI aB y.1, k0_3 cI aB y.1, k0_4 cI aB y.1, k1_0 aT y.2, k1_1 cJ aT y.2, k1_2 cI aT y.2, k1_3 cI aT y.2, k1_4 cI aT y.2, k1_5 cJ aT y.2, k1_6 cJ aT y.2, k1_7 cJ aT y.2, k1_8 cJ aT y.2, k1_9 cJ aT y.2] t) (va_A [k3_0 a aA aB aR aT aS vX, k0_0 aA vA, k0_1 cI aA vA, k0_2 cI aA vA, k0_3 cI aA vA, k0_4 cI aA vA, k0_0 aB vB, k0_1 cI aB vB, k0_2 cI aB vB, k0_3 cI aB vB, k0_4 cI aB vB, k1_0 aT vT, k1_1 cJ aT vT, k1_2 cI aT vT, k1_3 cI aT vT, k1_4 cI aT vT, k1_5 cJ aT vT, k1_6 cJ aT vT, k1_7 cJ aT vT, k1_8 cJ aT vT, k1_9 cJ aT vT] sz)) 0 0 (va_A [k3_0 a aA aB aR aT aS vX, k0_0 aA vA, k0_1 cI aA vA, k0_2 cI aA vA, k0_3 cI aA vA, k0_4 cI aA vA, k0_0 aB vB, k0_1 cI aB vB, k0_2 cI aB vB, k0_3 cI aB vB, k0_4 cI aB vB, k1_0 aT vT, k1_1 cJ aT vT, k1_2 cI aT vT, k1_3 cI aT vT, k1_4 cI aT vT, k1_5 cJ aT vT, k1_6 cJ aT vT, k1_7 cJ aT vT, k1_8 cJ aT vT, k1_9 cJ aT vT] sz) := by
  refine Met.ofW (cc := cX3_settleWithout) (maxL := 3) (ret := none) (by decide) rfl ?_
  intro p e s m args below meth c s₁ B hml hv
  obtain ⟨rfl, hsz, hP, hK, hD0, hN⟩ := hv
  have hx := B.exec
  have hb := B.bytes
  have hr := B.returns
  have hts := atoms_spec (ws := wsX3_settleWithout) B.pre
  have hown : s.vm.findClass RX3 = some m.cls := findClass_of_methodNamed B.named
  have hlocks := B.notSynchronized
  subst hsz
  have hD := hD0.self (sz := s.heap.size)
  generalize hAe : va_A [k3_0 a aA aB aR aT aS vX, k0_0 aA vA, k0_1 cI aA vA, k0_2 cI aA vA, k0_3 cI aA vA, k0_4 cI aA vA, k0_0 aB vB, k0_1 cI aB vB, k0_2 cI aB vB, k0_3 cI aB vB, k0_4 cI aB vB, k1_0 aT vT, k1_1 cJ aT vT, k1_2 cI aT vT, k1_3 cI aT vT, k1_4 cI aT vT, k1_5 cJ aT vT, k1_6 cJ aT vT, k1_7 cJ aT vT, k1_8 cJ aT vT, k1_9 cJ aT vT] s.heap.size = A at hD hN ⊢
  have hA : ∀ q : Nat, s.heap.size ≤ q → A q := fun q h => by rw [← hAe]; exact Or.inr h
  have hP : va_P (dC, dI) vwCl [k3_0 a aA aB aR aT aS vX, k0_0 aA vA, k0_1 cI aA vA, k0_2 cI aA vA, k0_3 cI aA vA, k0_4 cI aA vA, k0_0 aB vB, k0_1 cI aB vB, k0_2 cI aB vB, k0_3 cI aB vB, k0_4 cI aB vB, k1_0 aT vT, k1_1 cJ aT vT, k1_2 cI aT vT, k1_3 cI aT vT, k1_4 cI aT vT, k1_5 cJ aT vT, k1_6 cJ aT vT, k1_7 cJ aT vT, k1_8 cJ aT vT, k1_9 cJ aT vT] s.heap := hP
  have hl := lv_entry ([.ref (a 0), .int i1, .int i2]) (n := 3) (Nat.le_of_ble_eq_true rfl)
  rw [lg_entry_eq]
  generalize (lg_sl ([.ref (a 0), .int i1, .int i2]) ++ List.replicate (3 - (lg_sl ([.ref (a 0), .int i1, .int i2])).length) Slot.unset).toArray = ls at hl ⊢
  have hl : lv_has ls 3 [(0, .ref (a 0)), (1, .int i1), (2, .int i2)] := hl
  have hiX3 : ∀ w ∈ u_ws RX3 TX3 8, w ∈ wsX3_settleWithout := by decide +kernel
  have hgX3_16 := hts (.fieldLink RX3 16 "SpringPlates" "trial" "LSpringPlates$Layout;") (by decide +kernel)
  have hgX3_10 := hts (.fieldLink RX3 10 "SpringPlates" "laid" "LSpringPlates$Layout;") (by decide +kernel)
  have hgX3_38 := hts (.fieldLink RX3 38 "SpringPlates" "trialRest" "LSpringPlates$Rest;") (by decide +kernel)
  refine nameH (fun H locs hHe hLe => ?_)
  have hP : va_P (dC, dI) vwCl [k3_0 a aA aB aR aT aS vX, k0_0 aA vA, k0_1 cI aA vA, k0_2 cI aA vA, k0_3 cI aA vA, k0_4 cI aA vA, k0_0 aB vB, k0_1 cI aB vB, k0_2 cI aB vB, k0_3 cI aB vB, k0_4 cI aB vB, k1_0 aT vT, k1_1 cJ aT vT, k1_2 cI aT vT, k1_3 cI aT vT, k1_4 cI aT vT, k1_5 cJ aT vT, k1_6 cJ aT vT, k1_7 cJ aT vT, k1_8 cJ aT vT, k1_9 cJ aT vT] H := by rw [hHe]; exact hP
  have hS : va_S A s.heap H locs := by rw [hHe, hLe]; exact va_S.rf
  unfold fX3_settleWithout at hf
  refine lv_aload_n hx hb dX3_settleWithout_0 rfl (lv_at hl 0 rfl) ?_
  refine va_get (D := (dC, dI)) (ci := 3) (v := .ref (aB 0)) (C := RX3) (T := TX3) (N := 8) hx hb hts hiX3 hown hK hP 0 rfl rfl 1 (by decide) hgX3_16 (fun _ h9 => h9) rfl dX3_settleWithout_1 ?_
  refine lv_aload_n hx hb dX3_settleWithout_4 rfl (lv_at hl 0 rfl) ?_
  refine va_get (D := (dC, dI)) (ci := 3) (v := .ref (aA 0)) (C := RX3) (T := TX3) (N := 8) hx hb hts hiX3 hown hK hP 0 rfl rfl 0 (by decide) hgX3_10 (fun _ h9 => h9) rfl dX3_settleWithout_5 ?_
  obtain ⟨y1, hy1, hf⟩ := obind hf
  refine cg_v (ws := [k3_0 a aA aB aR aT aS vX, k0_0 aA vA, k0_1 cI aA vA, k0_2 cI aA vA, k0_3 cI aA vA, k0_4 cI aA vA, k0_0 aB vB, k0_1 cI aB vB, k0_2 cI aB vB, k0_3 cI aB vB, k0_4 cI aB vB, k1_0 aT vT, k1_1 cJ aT vT, k1_2 cI aT vT, k1_3 cI aT vT, k1_4 cI aT vT, k1_5 cJ aT vT, k1_6 cJ aT vT, k1_7 cJ aT vT, k1_8 cJ aT vT, k1_9 cJ aT vT]) (wc := [k0_0 aB vB, k0_1 cI aB vB, k0_2 cI aB vB, k0_3 cI aB vB, k0_4 cI aB vB, k0_0 aA vA, k0_1 cI aA vA, k0_2 cI aA vA, k0_3 cI aA vA, k0_4 cI aA vA]) (wr := [k3_0 a aA aB aR aT aS vX, k1_0 aT vT, k1_1 cJ aT vT, k1_2 cI aT vT, k1_3 cI aT vT, k1_4 cI aT vT, k1_5 cJ aT vT, k1_6 cJ aT vT, k1_7 cJ aT vT, k1_8 cJ aT vT, k1_9 cJ aT vT]) (w1 := [k0_0 aB y1, k0_1 cI aB y1, k0_2 cI aB y1, k0_3 cI aB y1, k0_4 cI aB y1, k0_0 aA vA, k0_1 cI aA vA, k0_2 cI aA vA, k0_3 cI aA vA, k0_4 cI aA vA]) (wo := [k3_0 a aA aB aR aT aS vX, k0_0 aA vA, k0_1 cI aA vA, k0_2 cI aA vA, k0_3 cI aA vA, k0_4 cI aA vA, k0_0 aB y1, k0_1 cI aB y1, k0_2 cI aB y1, k0_3 cI aB y1, k0_4 cI aB y1, k1_0 aT vT, k1_1 cJ aT vT, k1_2 cI aT vT, k1_3 cI aT vT, k1_4 cI aT vT, k1_5 cJ aT vT, k1_6 cJ aT vT, k1_7 cJ aT vT, k1_8 cJ aT vT, k1_9 cJ aT vT]) hP hD hS hA (va_runV (As := [.ref (aA 0)]) (rest := []) ⟨hx, hb, hml, hown, hts⟩ (mX0_copyFrom l dC dI cI cJ aB aA H.size vB vA y1 hy1) (cwV 1 hts gX3_settleWithout_X0_copyFrom rfl rfl rfl (by decide +kernel) ⟨Nat.le_of_ble_eq_true rfl, Nat.le_of_ble_eq_true rfl⟩) ⟨cFB, va_recv hK hP (ci := 0) (q0 := 6) rfl rfl, cPre hK hN hS (va_free (wc := [k0_0 aB vB, k0_1 cI aB vB, k0_2 cI aB vB, k0_3 cI aB vB, k0_4 cI aB vB, k0_0 aA vA, k0_1 cI aA vA, k0_2 cI aA vA, k0_3 cI aA vA, k0_4 cI aA vA]) hD hS hA [6, 7, 8, 9, 10, 1, 2, 3, 4, 5] rfl) (hP.sub [6, 7, 8, 9, 10, 1, 2, 3, 4, 5] rfl) (hD.sub [6, 7, 8, 9, 10, 1, 2, 3, 4, 5] rfl rfl)⟩ rfl rfl hl.1 rfl (lv_room (Nat.le_of_ble_eq_true rfl)) dX3_settleWithout_8 ⟨Nat.le_of_ble_eq_true rfl, Nat.le_of_ble_eq_true rfl⟩) [6, 7, 8, 9, 10, 1, 2, 3, 4, 5] [0, 11, 12, 13, 14, 15, 16, 17, 18, 19, 20] [0, 16, 17, 18, 19, 20, 11, 12, 13, 14, 15, 1, 2, 3, 4, 5, 6, 7, 8, 9, 10] rfl rfl rfl (by decide +kernel) rfl rfl (fun H locs hP hD hS => ?_)
  refine lv_aload_n hx hb dX3_settleWithout_11 rfl (lv_at hl 0 rfl) ?_
  refine va_get (D := (dC, dI)) (ci := 3) (v := .ref (aB 0)) (C := RX3) (T := TX3) (N := 8) hx hb hts hiX3 hown hK hP 0 rfl rfl 1 (by decide) hgX3_16 (fun _ h9 => h9) rfl dX3_settleWithout_12 ?_
  refine lv_iload_n hx hb dX3_settleWithout_15 rfl (lv_at hl 1 rfl) ?_
  refine lv_iload_n hx hb dX3_settleWithout_16 rfl (lv_at hl 2 rfl) ?_
  obtain ⟨y2, hy2, hf⟩ := obind hf
  refine cg_i (ws := [k3_0 a aA aB aR aT aS vX, k0_0 aA vA, k0_1 cI aA vA, k0_2 cI aA vA, k0_3 cI aA vA, k0_4 cI aA vA, k0_0 aB y1, k0_1 cI aB y1, k0_2 cI aB y1, k0_3 cI aB y1, k0_4 cI aB y1, k1_0 aT vT, k1_1 cJ aT vT, k1_2 cI aT vT, k1_3 cI aT vT, k1_4 cI aT vT, k1_5 cJ aT vT, k1_6 cJ aT vT, k1_7 cJ aT vT, k1_8 cJ aT vT, k1_9 cJ aT vT]) (wc := [k0_0 aB y1, k0_1 cI aB y1, k0_2 cI aB y1, k0_3 cI aB y1, k0_4 cI aB y1]) (wr := [k3_0 a aA aB aR aT aS vX, k0_0 aA vA, k0_1 cI aA vA, k0_2 cI aA vA, k0_3 cI aA vA, k0_4 cI aA vA, k1_0 aT vT, k1_1 cJ aT vT, k1_2 cI aT vT, k1_3 cI aT vT, k1_4 cI aT vT, k1_5 cJ aT vT, k1_6 cJ aT vT, k1_7 cJ aT vT, k1_8 cJ aT vT, k1_9 cJ aT vT]) (w1 := [k0_0 aB y2.2, k0_1 cI aB y2.2, k0_2 cI aB y2.2, k0_3 cI aB y2.2, k0_4 cI aB y2.2]) (wo := [k3_0 a aA aB aR aT aS vX, k0_0 aA vA, k0_1 cI aA vA, k0_2 cI aA vA, k0_3 cI aA vA, k0_4 cI aA vA, k0_0 aB y2.2, k0_1 cI aB y2.2, k0_2 cI aB y2.2, k0_3 cI aB y2.2, k0_4 cI aB y2.2, k1_0 aT vT, k1_1 cJ aT vT, k1_2 cI aT vT, k1_3 cI aT vT, k1_4 cI aT vT, k1_5 cJ aT vT, k1_6 cJ aT vT, k1_7 cJ aT vT, k1_8 cJ aT vT, k1_9 cJ aT vT]) hP hD hS hA (va_runV (As := [.int i1, .int i2]) (rest := []) ⟨hx, hb, hml, hown, hts⟩ (mX0_removeStop l dC dI cI cJ aB H.size y1 i1 i2 y2 hy2) (cwV 2 hts gX3_settleWithout_X0_removeStop rfl rfl rfl (by decide +kernel) ⟨Nat.le_of_ble_eq_true rfl, Nat.le_of_ble_eq_true rfl⟩) ⟨cFB, va_recv hK hP (ci := 0) (q0 := 6) rfl rfl, cPre hK hN hS (va_free (wc := [k0_0 aB y1, k0_1 cI aB y1, k0_2 cI aB y1, k0_3 cI aB y1, k0_4 cI aB y1]) hD hS hA [6, 7, 8, 9, 10] rfl) (hP.sub [6, 7, 8, 9, 10] rfl) (hD.sub [6, 7, 8, 9, 10] rfl rfl)⟩ rfl rfl hl.1 rfl (lv_room (Nat.le_of_ble_eq_true rfl)) dX3_settleWithout_17 ⟨Nat.le_of_ble_eq_true rfl, Nat.le_of_ble_eq_true rfl⟩) [6, 7, 8, 9, 10] [0, 1, 2, 3, 4, 5, 11, 12, 13, 14, 15, 16, 17, 18, 19, 20] [0, 1, 2, 3, 4, 5, 16, 17, 18, 19, 20, 6, 7, 8, 9, 10, 11, 12, 13, 14, 15] rfl rfl rfl (by decide +kernel) rfl rfl (fun H locs hP hD hS => ?_)
  refine lv_pop hx hb dX3_settleWithout_20 rfl ?_
  refine lv_aload_n hx hb dX3_settleWithout_21 rfl (lv_at hl 0 rfl) ?_
  refine va_get (D := (dC, dI)) (ci := 3) (v := .ref (aT 0)) (C := RX3) (T := TX3) (N := 8) hx hb hts hiX3 hown hK hP 0 rfl rfl 6 (by decide) hgX3_38 (fun _ h9 => h9) rfl dX3_settleWithout_22 ?_
  refine lv_aload_n hx hb dX3_settleWithout_25 rfl (lv_at hl 0 rfl) ?_
  refine va_get (D := (dC, dI)) (ci := 3) (v := .ref (aB 0)) (C := RX3) (T := TX3) (N := 8) hx hb hts hiX3 hown hK hP 0 rfl rfl 1 (by decide) hgX3_16 (fun _ h9 => h9) rfl dX3_settleWithout_26 ?_
  obtain ⟨y3, hy3, hf⟩ := obind hf
  refine cg_v (ws := [k3_0 a aA aB aR aT aS vX, k0_0 aA vA, k0_1 cI aA vA, k0_2 cI aA vA, k0_3 cI aA vA, k0_4 cI aA vA, k0_0 aB y2.2, k0_1 cI aB y2.2, k0_2 cI aB y2.2, k0_3 cI aB y2.2, k0_4 cI aB y2.2, k1_0 aT vT, k1_1 cJ aT vT, k1_2 cI aT vT, k1_3 cI aT vT, k1_4 cI aT vT, k1_5 cJ aT vT, k1_6 cJ aT vT, k1_7 cJ aT vT, k1_8 cJ aT vT, k1_9 cJ aT vT]) (wc := [k0_0 aB y2.2, k0_1 cI aB y2.2, k0_2 cI aB y2.2, k0_3 cI aB y2.2, k0_4 cI aB y2.2, k1_0 aT vT, k1_1 cJ aT vT, k1_2 cI aT vT, k1_3 cI aT vT, k1_4 cI aT vT, k1_5 cJ aT vT, k1_6 cJ aT vT, k1_7 cJ aT vT, k1_8 cJ aT vT, k1_9 cJ aT vT]) (wr := [k3_0 a aA aB aR aT aS vX, k0_0 aA vA, k0_1 cI aA vA, k0_2 cI aA vA, k0_3 cI aA vA, k0_4 cI aA vA]) (w1 := [k0_0 aB y2.2, k0_1 cI aB y2.2, k0_2 cI aB y2.2, k0_3 cI aB y2.2, k0_4 cI aB y2.2, k1_0 aT y3, k1_1 cJ aT y3, k1_2 cI aT y3, k1_3 cI aT y3, k1_4 cI aT y3, k1_5 cJ aT y3, k1_6 cJ aT y3, k1_7 cJ aT y3, k1_8 cJ aT y3, k1_9 cJ aT y3]) (wo := [k3_0 a aA aB aR aT aS vX, k0_0 aA vA, k0_1 cI aA vA, k0_2 cI aA vA, k0_3 cI aA vA, k0_4 cI aA vA, k0_0 aB y2.2, k0_1 cI aB y2.2, k0_2 cI aB y2.2, k0_3 cI aB y2.2, k0_4 cI aB y2.2, k1_0 aT y3, k1_1 cJ aT y3, k1_2 cI aT y3, k1_3 cI aT y3, k1_4 cI aT y3, k1_5 cJ aT y3, k1_6 cJ aT y3, k1_7 cJ aT y3, k1_8 cJ aT y3, k1_9 cJ aT y3]) hP hD hS hA (va_runV (As := [.ref (aB 0)]) (rest := []) ⟨hx, hb, hml, hown, hts⟩ (mX1_settle l dC dI cI cJ aB aT H.size y2.2 vT y3 hy3) (cwV 1 hts gX3_settleWithout_X1_settle rfl rfl rfl (by decide +kernel) ⟨Nat.le_of_ble_eq_true rfl, Nat.le_of_ble_eq_true rfl⟩) ⟨cFB, va_recv hK hP (ci := 1) (q0 := 11) rfl rfl, cPre hK hN hS (va_free (wc := [k0_0 aB y2.2, k0_1 cI aB y2.2, k0_2 cI aB y2.2, k0_3 cI aB y2.2, k0_4 cI aB y2.2, k1_0 aT vT, k1_1 cJ aT vT, k1_2 cI aT vT, k1_3 cI aT vT, k1_4 cI aT vT, k1_5 cJ aT vT, k1_6 cJ aT vT, k1_7 cJ aT vT, k1_8 cJ aT vT, k1_9 cJ aT vT]) hD hS hA [6, 7, 8, 9, 10, 11, 12, 13, 14, 15, 16, 17, 18, 19, 20] rfl) (hP.sub [6, 7, 8, 9, 10, 11, 12, 13, 14, 15, 16, 17, 18, 19, 20] rfl) (hD.sub [6, 7, 8, 9, 10, 11, 12, 13, 14, 15, 16, 17, 18, 19, 20] rfl rfl)⟩ rfl rfl hl.1 rfl (lv_room (Nat.le_of_ble_eq_true rfl)) dX3_settleWithout_29 ⟨Nat.le_of_ble_eq_true rfl, Nat.le_of_ble_eq_true rfl⟩) [6, 7, 8, 9, 10, 11, 12, 13, 14, 15, 16, 17, 18, 19, 20] [0, 1, 2, 3, 4, 5] [0, 1, 2, 3, 4, 5, 6, 7, 8, 9, 10, 11, 12, 13, 14, 15, 16, 17, 18, 19, 20] rfl rfl rfl (by decide +kernel) rfl rfl (fun H locs hP hD hS => ?_)
  obtain rfl := Option.some.inj hf
  exact W.vret hx hb hr (fun t ht hW => ⟨⟨(), rfl, trivial, by rw [ht]; exact hP, hD⟩, hS.F ht⟩) hS.2.2 dX3_settleWithout_32
def fX3_trialReaches (vX : BX3) (vB : BX0) (vT : BX1) (i1 : Int32) (i2 : Int32) (i3 : Int32) : Option (Int32 × BX0 × BX1) :=
  (fX0_setLoad vB i1 i2).bind (fun y1 => (fX1_settle y1.2 vT).bind (fun y2 => (fX1_upperPlaceOf y2 i1).bind (fun y3 => if (lg_cmp y3 ((i3).toInt64 * (p1_lower y2))) < 0 then (some (0, y1.2, y2)) else (some (1, y1.2, y2)))))
set_option maxHeartbeats 8000000 in
set_option maxRecDepth 100000 in
theorem mX3_trialReaches (l : Launch) (dC : Nat → ClassId) (dI : Nat → Nat → Nat) (cI cJ : ClassId) (a : Nat → Nat) (aA : Nat → Nat) (aB : Nat → Nat) (aR : Nat → Nat) (aT : Nat → Nat) (aS : Nat → Nat) (sz : Nat) (vX : BX3) (vB : BX0) (vT : BX1) (i1 : Int32) (i2 : Int32) (i3 : Int32) (y : (Int32 × BX0 × BX1)) (hf : fX3_trialReaches vX vB vT i1 i2 i3 = some y) : Met l yX3_trialReaches wsX3_trialReaches ({ frames := 5, cells := 0, slots := 0, locals := 121 }) (cPc dC dI cI cJ [.ref (a 0), .int i1, .int i2, .int i3] [k3_0 a aA aB aR aT aS vX, k0_0 aB vB, k0_1 cI aB vB, k0_2 cI aB vB, k0_3 cI aB vB, k0_4 cI aB vB, k1_0 aT vT, k1_1 cJ aT vT, k1_2 cI aT vT, k1_3 cI aT vT, k1_4 cI aT vT, k1_5 cJ aT vT, k1_6 cJ aT vT, k1_7 cJ aT vT, k1_8 cJ aT vT, k1_9 cJ aT vT] sz) (va_Qi (fun r (_ : Unit) => r = y.1) (fun _ t => cB dC dI (va_A [k3_0 a aA aB aR aT aS vX, k0_0 aB vB, k0_1 cI aB vB, k0_2 cI aB vB, k0_3 cI aB vB, k0_4 cI aB vB, k1_0 aT vT, k1_1 cJ aT vT, k1_2 cI aT vT, k1_3 cI aT vT, k1_4 cI aT vT, k1_5 cJ aT vT, k1_6 cJ aT vT, k1_7 cJ aT vT, k1_8 cJ aT vT, k1_9 cJ aT vT] sz) [k3_0 a aA aB aR aT aS vX, k0_0 aB y.2.1, k0_1 cI aB y.2.1, k0_2 cI aB y.2.1, k0_3 cI aB y.2.1, k0_4 cI aB y.2.1, k1_0 aT y.2.2, k1_1 cJ aT y.2.2, k1_2 cI aT y.2.2, k1_3 cI aT y.2.2, k1_4 cI aT y.2.2, k1_5 cJ aT y.2.2, k1_6 cJ aT y.2.2, k1_7 cJ aT y.2.2, k1_8 cJ aT y.2.2, k1_9 cJ aT y.2.2] t) (va_A [k3_0 a aA aB aR aT aS vX, k0_0 aB vB, k0_1 cI aB vB, k0_2 cI aB vB, k0_3 cI aB vB, k0_4 cI aB vB, k1_0 aT vT, k1_1 cJ aT vT, k1_2 cI aT vT, k1_3 cI aT vT, k1_4 cI aT vT, k1_5 cJ aT vT, k1_6 cJ aT vT, k1_7 cJ aT vT, k1_8 cJ aT vT, k1_9 cJ aT vT] sz)) 0 0 (va_A [k3_0 a aA aB aR aT aS vX, k0_0 aB vB, k0_1 cI aB vB, k0_2 cI aB vB, k0_3 cI aB vB, k0_4 cI aB vB, k1_0 aT vT, k1_1 cJ aT vT, k1_2 cI aT vT, k1_3 cI aT vT, k1_4 cI aT vT, k1_5 cJ aT vT, k1_6 cJ aT vT, k1_7 cJ aT vT, k1_8 cJ aT vT, k1_9 cJ aT vT] sz) := by
  refine Met.ofW (cc := cX3_trialReaches) (maxL := 4) (ret := (some .boolean)) (by decide) rfl ?_
  intro p e s m args below meth c s₁ B hml hv
  obtain ⟨rfl, hsz, hP, hK, hD0, hN⟩ := hv
  have hx := B.exec
  have hb := B.bytes
  have hr := B.returns
  have hts := atoms_spec (ws := wsX3_trialReaches) B.pre
  have hown : s.vm.findClass RX3 = some m.cls := findClass_of_methodNamed B.named
  have hlocks := B.notSynchronized
  subst hsz
  have hD := hD0.self (sz := s.heap.size)
  generalize hAe : va_A [k3_0 a aA aB aR aT aS vX, k0_0 aB vB, k0_1 cI aB vB, k0_2 cI aB vB, k0_3 cI aB vB, k0_4 cI aB vB, k1_0 aT vT, k1_1 cJ aT vT, k1_2 cI aT vT, k1_3 cI aT vT, k1_4 cI aT vT, k1_5 cJ aT vT, k1_6 cJ aT vT, k1_7 cJ aT vT, k1_8 cJ aT vT, k1_9 cJ aT vT] s.heap.size = A at hD hN ⊢
  have hA : ∀ q : Nat, s.heap.size ≤ q → A q := fun q h => by rw [← hAe]; exact Or.inr h
  have hP : va_P (dC, dI) vwCl [k3_0 a aA aB aR aT aS vX, k0_0 aB vB, k0_1 cI aB vB, k0_2 cI aB vB, k0_3 cI aB vB, k0_4 cI aB vB, k1_0 aT vT, k1_1 cJ aT vT, k1_2 cI aT vT, k1_3 cI aT vT, k1_4 cI aT vT, k1_5 cJ aT vT, k1_6 cJ aT vT, k1_7 cJ aT vT, k1_8 cJ aT vT, k1_9 cJ aT vT] s.heap := hP
  have hl := lv_entry ([.ref (a 0), .int i1, .int i2, .int i3]) (n := 4) (Nat.le_of_ble_eq_true rfl)
  rw [lg_entry_eq]
  generalize (lg_sl ([.ref (a 0), .int i1, .int i2, .int i3]) ++ List.replicate (4 - (lg_sl ([.ref (a 0), .int i1, .int i2, .int i3])).length) Slot.unset).toArray = ls at hl ⊢
  have hl : lv_has ls 4 [(0, .ref (a 0)), (1, .int i1), (2, .int i2), (3, .int i3)] := hl
  have hiX3 : ∀ w ∈ u_ws RX3 TX3 8, w ∈ wsX3_trialReaches := by decide +kernel
  have hgX3_16 := hts (.fieldLink RX3 16 "SpringPlates" "trial" "LSpringPlates$Layout;") (by decide +kernel)
  have hgX3_38 := hts (.fieldLink RX3 38 "SpringPlates" "trialRest" "LSpringPlates$Rest;") (by decide +kernel)
  have hiX1 : ∀ w ∈ u_ws RX1 TX1 10, w ∈ wsX3_trialReaches := by decide +kernel
  have hgX1_126 := hts (.fieldLink RX3 126 "SpringPlates$Rest" "lower" "J") (by decide +kernel)
  refine nameH (fun H locs hHe hLe => ?_)
  have hP : va_P (dC, dI) vwCl [k3_0 a aA aB aR aT aS vX, k0_0 aB vB, k0_1 cI aB vB, k0_2 cI aB vB, k0_3 cI aB vB, k0_4 cI aB vB, k1_0 aT vT, k1_1 cJ aT vT, k1_2 cI aT vT, k1_3 cI aT vT, k1_4 cI aT vT, k1_5 cJ aT vT, k1_6 cJ aT vT, k1_7 cJ aT vT, k1_8 cJ aT vT, k1_9 cJ aT vT] H := by rw [hHe]; exact hP
  have hS : va_S A s.heap H locs := by rw [hHe, hLe]; exact va_S.rf
  unfold fX3_trialReaches at hf
  refine lv_aload_n hx hb dX3_trialReaches_0 rfl (lv_at hl 0 rfl) ?_
  refine va_get (D := (dC, dI)) (ci := 3) (v := .ref (aB 0)) (C := RX3) (T := TX3) (N := 8) hx hb hts hiX3 hown hK hP 0 rfl rfl 1 (by decide) hgX3_16 (fun _ h9 => h9) rfl dX3_trialReaches_1 ?_
  refine lv_iload_n hx hb dX3_trialReaches_4 rfl (lv_at hl 1 rfl) ?_
  refine lv_iload_n hx hb dX3_trialReaches_5 rfl (lv_at hl 2 rfl) ?_
  obtain ⟨y1, hy1, hf⟩ := obind hf
  refine cg_i (ws := [k3_0 a aA aB aR aT aS vX, k0_0 aB vB, k0_1 cI aB vB, k0_2 cI aB vB, k0_3 cI aB vB, k0_4 cI aB vB, k1_0 aT vT, k1_1 cJ aT vT, k1_2 cI aT vT, k1_3 cI aT vT, k1_4 cI aT vT, k1_5 cJ aT vT, k1_6 cJ aT vT, k1_7 cJ aT vT, k1_8 cJ aT vT, k1_9 cJ aT vT]) (wc := [k0_0 aB vB, k0_1 cI aB vB, k0_2 cI aB vB, k0_3 cI aB vB, k0_4 cI aB vB]) (wr := [k3_0 a aA aB aR aT aS vX, k1_0 aT vT, k1_1 cJ aT vT, k1_2 cI aT vT, k1_3 cI aT vT, k1_4 cI aT vT, k1_5 cJ aT vT, k1_6 cJ aT vT, k1_7 cJ aT vT, k1_8 cJ aT vT, k1_9 cJ aT vT]) (w1 := [k0_0 aB y1.2, k0_1 cI aB y1.2, k0_2 cI aB y1.2, k0_3 cI aB y1.2, k0_4 cI aB y1.2]) (wo := [k3_0 a aA aB aR aT aS vX, k0_0 aB y1.2, k0_1 cI aB y1.2, k0_2 cI aB y1.2, k0_3 cI aB y1.2, k0_4 cI aB y1.2, k1_0 aT vT, k1_1 cJ aT vT, k1_2 cI aT vT, k1_3 cI aT vT, k1_4 cI aT vT, k1_5 cJ aT vT, k1_6 cJ aT vT, k1_7 cJ aT vT, k1_8 cJ aT vT, k1_9 cJ aT vT]) hP hD hS hA (va_runV (As := [.int i1, .int i2]) (rest := []) ⟨hx, hb, hml, hown, hts⟩ (mX0_setLoad l dC dI cI cJ aB H.size vB i1 i2 y1 hy1) (cwV 2 hts gX3_trialReaches_X0_setLoad rfl rfl rfl (by decide +kernel) ⟨Nat.le_of_ble_eq_true rfl, Nat.le_of_ble_eq_true rfl⟩) ⟨cFB, va_recv hK hP (ci := 0) (q0 := 1) rfl rfl, cPre hK hN hS (va_free (wc := [k0_0 aB vB, k0_1 cI aB vB, k0_2 cI aB vB, k0_3 cI aB vB, k0_4 cI aB vB]) hD hS hA [1, 2, 3, 4, 5] rfl) (hP.sub [1, 2, 3, 4, 5] rfl) (hD.sub [1, 2, 3, 4, 5] rfl rfl)⟩ rfl rfl hl.1 rfl (lv_room (Nat.le_of_ble_eq_true rfl)) dX3_trialReaches_6 ⟨Nat.le_of_ble_eq_true rfl, Nat.le_of_ble_eq_true rfl⟩) [1, 2, 3, 4, 5] [0, 6, 7, 8, 9, 10, 11, 12, 13, 14, 15] [0, 11, 12, 13, 14, 15, 1, 2, 3, 4, 5, 6, 7, 8, 9, 10] rfl rfl rfl (by decide +kernel) rfl rfl (fun H locs hP hD hS => ?_)
  refine lv_pop hx hb dX3_trialReaches_9 rfl ?_
  refine lv_aload_n hx hb dX3_trialReaches_10 rfl (lv_at hl 0 rfl) ?_
  refine va_get (D := (dC, dI)) (ci := 3) (v := .ref (aT 0)) (C := RX3) (T := TX3) (N := 8) hx hb hts hiX3 hown hK hP 0 rfl rfl 6 (by decide) hgX3_38 (fun _ h9 => h9) rfl dX3_trialReaches_11 ?_
  refine lv_aload_n hx hb dX3_trialReaches_14 rfl (lv_at hl 0 rfl) ?_
  refine va_get (D := (dC, dI)) (ci := 3) (v := .ref (aB 0)) (C := RX3) (T := TX3) (N := 8) hx hb hts hiX3 hown hK hP 0 rfl rfl 1 (by decide) hgX3_16 (fun _ h9 => h9) rfl dX3_trialReaches_15 ?_
  obtain ⟨y2, hy2, hf⟩ := obind hf
  refine cg_v (ws := [k3_0 a aA aB aR aT aS vX, k0_0 aB y1.2, k0_1 cI aB y1.2, k0_2 cI aB y1.2, k0_3 cI aB y1.2, k0_4 cI aB y1.2, k1_0 aT vT, k1_1 cJ aT vT, k1_2 cI aT vT, k1_3 cI aT vT, k1_4 cI aT vT, k1_5 cJ aT vT, k1_6 cJ aT vT, k1_7 cJ aT vT, k1_8 cJ aT vT, k1_9 cJ aT vT]) (wc := [k0_0 aB y1.2, k0_1 cI aB y1.2, k0_2 cI aB y1.2, k0_3 cI aB y1.2, k0_4 cI aB y1.2, k1_0 aT vT, k1_1 cJ aT vT, k1_2 cI aT vT, k1_3 cI aT vT, k1_4 cI aT vT, k1_5 cJ aT vT, k1_6 cJ aT vT, k1_7 cJ aT vT, k1_8 cJ aT vT, k1_9 cJ aT vT]) (wr := [k3_0 a aA aB aR aT aS vX]) (w1 := [k0_0 aB y1.2, k0_1 cI aB y1.2, k0_2 cI aB y1.2, k0_3 cI aB y1.2, k0_4 cI aB y1.2, k1_0 aT y2, k1_1 cJ aT y2, k1_2 cI aT y2, k1_3 cI aT y2, k1_4 cI aT y2, k1_5 cJ aT y2, k1_6 cJ aT y2, k1_7 cJ aT y2, k1_8 cJ aT y2, k1_9 cJ aT y2]) (wo := [k3_0 a aA aB aR aT aS vX, k0_0 aB y1.2, k0_1 cI aB y1.2, k0_2 cI aB y1.2, k0_3 cI aB y1.2, k0_4 cI aB y1.2, k1_0 aT y2, k1_1 cJ aT y2, k1_2 cI aT y2, k1_3 cI aT y2, k1_4 cI aT y2, k1_5 cJ aT y2, k1_6 cJ aT y2, k1_7 cJ aT y2, k1_8 cJ aT y2, k1_9 cJ aT y2]) hP hD hS hA (va_runV (As := [.ref (aB 0)]) (rest := []) ⟨hx, hb, hml, hown, hts⟩ (mX1_settle l dC dI cI cJ aB aT H.size y1.2 vT y2 hy2) (cwV 1 hts gX3_trialReaches_X1_settle rfl rfl rfl (by decide +kernel) ⟨Nat.le_of_ble_eq_true rfl, Nat.le_of_ble_eq_true rfl⟩) ⟨cFB, va_recv hK hP (ci := 1) (q0 := 6) rfl rfl, cPre hK hN hS (va_free (wc := [k0_0 aB y1.2, k0_1 cI aB y1.2, k0_2 cI aB y1.2, k0_3 cI aB y1.2, k0_4 cI aB y1.2, k1_0 aT vT, k1_1 cJ aT vT, k1_2 cI aT vT, k1_3 cI aT vT, k1_4 cI aT vT, k1_5 cJ aT vT, k1_6 cJ aT vT, k1_7 cJ aT vT, k1_8 cJ aT vT, k1_9 cJ aT vT]) hD hS hA [1, 2, 3, 4, 5, 6, 7, 8, 9, 10, 11, 12, 13, 14, 15] rfl) (hP.sub [1, 2, 3, 4, 5, 6, 7, 8, 9, 10, 11, 12, 13, 14, 15] rfl) (hD.sub [1, 2, 3, 4, 5, 6, 7, 8, 9, 10, 11, 12, 13, 14, 15] rfl rfl)⟩ rfl rfl hl.1 rfl (lv_room (Nat.le_of_ble_eq_true rfl)) dX3_trialReaches_18 ⟨Nat.le_of_ble_eq_true rfl, Nat.le_of_ble_eq_true rfl⟩) [1, 2, 3, 4, 5, 6, 7, 8, 9, 10, 11, 12, 13, 14, 15] [0] [0, 1, 2, 3, 4, 5, 6, 7, 8, 9, 10, 11, 12, 13, 14, 15] rfl rfl rfl (by decide +kernel) rfl rfl (fun H locs hP hD hS => ?_)
  refine lv_aload_n hx hb dX3_trialReaches_21 rfl (lv_at hl 0 rfl) ?_
  refine va_get (D := (dC, dI)) (ci := 3) (v := .ref (aT 0)) (C := RX3) (T := TX3) (N := 8) hx hb hts hiX3 hown hK hP 0 rfl rfl 6 (by decide) hgX3_38 (fun _ h9 => h9) rfl dX3_trialReaches_22 ?_
  refine lv_iload_n hx hb dX3_trialReaches_25 rfl (lv_at hl 1 rfl) ?_
  obtain ⟨y3, hy3, hf⟩ := obind hf
  refine cg_l (ws := [k3_0 a aA aB aR aT aS vX, k0_0 aB y1.2, k0_1 cI aB y1.2, k0_2 cI aB y1.2, k0_3 cI aB y1.2, k0_4 cI aB y1.2, k1_0 aT y2, k1_1 cJ aT y2, k1_2 cI aT y2, k1_3 cI aT y2, k1_4 cI aT y2, k1_5 cJ aT y2, k1_6 cJ aT y2, k1_7 cJ aT y2, k1_8 cJ aT y2, k1_9 cJ aT y2]) (wc := [k1_0 aT y2, k1_1 cJ aT y2, k1_2 cI aT y2, k1_3 cI aT y2, k1_4 cI aT y2, k1_5 cJ aT y2, k1_6 cJ aT y2, k1_7 cJ aT y2, k1_8 cJ aT y2, k1_9 cJ aT y2]) (wr := [k3_0 a aA aB aR aT aS vX, k0_0 aB y1.2, k0_1 cI aB y1.2, k0_2 cI aB y1.2, k0_3 cI aB y1.2, k0_4 cI aB y1.2]) (w1 := [k1_0 aT y2, k1_1 cJ aT y2, k1_2 cI aT y2, k1_3 cI aT y2, k1_4 cI aT y2, k1_5 cJ aT y2, k1_6 cJ aT y2, k1_7 cJ aT y2, k1_8 cJ aT y2, k1_9 cJ aT y2]) (wo := [k3_0 a aA aB aR aT aS vX, k0_0 aB y1.2, k0_1 cI aB y1.2, k0_2 cI aB y1.2, k0_3 cI aB y1.2, k0_4 cI aB y1.2, k1_0 aT y2, k1_1 cJ aT y2, k1_2 cI aT y2, k1_3 cI aT y2, k1_4 cI aT y2, k1_5 cJ aT y2, k1_6 cJ aT y2, k1_7 cJ aT y2, k1_8 cJ aT y2, k1_9 cJ aT y2]) hP hD hS hA (va_runV (As := [.int i1]) (rest := []) ⟨hx, hb, hml, hown, hts⟩ (mX1_upperPlaceOf l dC dI cI cJ aT H.size y2 i1 y3 hy3) (cwV 1 hts gX3_trialReaches_X1_upperPlaceOf rfl rfl rfl (by decide +kernel) ⟨Nat.le_of_ble_eq_true rfl, Nat.le_of_ble_eq_true rfl⟩) ⟨cFB, va_recv hK hP (ci := 1) (q0 := 6) rfl rfl, cPre hK hN hS (va_free (wc := [k1_0 aT y2, k1_1 cJ aT y2, k1_2 cI aT y2, k1_3 cI aT y2, k1_4 cI aT y2, k1_5 cJ aT y2, k1_6 cJ aT y2, k1_7 cJ aT y2, k1_8 cJ aT y2, k1_9 cJ aT y2]) hD hS hA [6, 7, 8, 9, 10, 11, 12, 13, 14, 15] rfl) (hP.sub [6, 7, 8, 9, 10, 11, 12, 13, 14, 15] rfl) (hD.sub [6, 7, 8, 9, 10, 11, 12, 13, 14, 15] rfl rfl)⟩ rfl rfl hl.1 rfl (lv_room (Nat.le_of_ble_eq_true rfl)) dX3_trialReaches_26 ⟨Nat.le_of_ble_eq_true rfl, Nat.le_of_ble_eq_true rfl⟩) [6, 7, 8, 9, 10, 11, 12, 13, 14, 15] [0, 1, 2, 3, 4, 5] [0, 1, 2, 3, 4, 5, 6, 7, 8, 9, 10, 11, 12, 13, 14, 15] rfl rfl rfl (by decide +kernel) rfl rfl (fun H locs hP hD hS => ?_)
  refine lv_iload_n hx hb dX3_trialReaches_29 rfl (lv_at hl 3 rfl) ?_
  refine lv_i2l (v := (i3).toInt64) hx hb dX3_trialReaches_30 rfl ?_
  refine lv_aload_n hx hb dX3_trialReaches_31 rfl (lv_at hl 0 rfl) ?_
  refine va_get (D := (dC, dI)) (ci := 3) (v := .ref (aT 0)) (C := RX3) (T := TX3) (N := 8) hx hb hts hiX3 hown hK hP 0 rfl rfl 6 (by decide) hgX3_38 (fun _ h9 => h9) rfl dX3_trialReaches_32 ?_
  refine va_get (D := (dC, dI)) (ci := 1) (v := .long (p1_lower y2)) (C := RX1) (T := TX1) (N := 10) hx hb hts hiX1 hown hK hP 6 rfl rfl 1 (by decide) hgX1_126 (fun _ h9 => h9) rfl dX3_trialReaches_35 ?_
  refine lv_lmul hx hb dX3_trialReaches_38 ?_
  refine W.lcmp hx hb dX3_trialReaches_39 ?_
  refine lv_if_lt (tgt := 47) hx hb dX3_trialReaches_40 (by decide) (fun c4 => ?_) (fun c4 => ?_)
  · have hf := oif_t c4 hf
    refine lv_iconst (v := 0) hx hb dX3_trialReaches_47 (by decide) ?_
    obtain rfl := Option.some.inj hf
    exact W.zret (v := 0) hx hb hr rfl (fun t ht hW => ⟨⟨0, (), rfl, rfl, by rw [ht]; exact hP, hD⟩, hS.F ht⟩) hS.2.2 dX3_trialReaches_48
  · have hf := oif_f c4 hf
    refine lv_iconst (v := 1) hx hb dX3_trialReaches_43 (by decide) ?_
    refine lv_goto (tgt := 48) hx hb dX3_trialReaches_44 (by decide) ?_
    obtain rfl := Option.some.inj hf
    exact W.zret (v := 1) hx hb hr rfl (fun t ht hW => ⟨⟨1, (), rfl, rfl, by rw [ht]; exact hP, hD⟩, hS.F ht⟩) hS.2.2 dX3_trialReaches_48
def fX3_without (vX : BX3) (vA : BX0) (vB : BX0) (vT : BX1) (i1 : Int32) (i2 : Int32) (i3 : Int32) (i4 : Int32) : Option (Int32 × BX0 × BX1) :=
  (fX0_hasPlate vA i1).bind (fun y1 => if y1 = 0 then (some ((-1000001), vB, vT)) else ((fX3_isSide i2).bind (fun y3 => if y3 = 0 then (some ((-1000001), vB, vT)) else ((fX0_hasPlate vA i3).bind (fun y5 => if y5 = 0 then (some ((-1000001), vB, vT)) else ((fX3_isPart i4).bind (fun y7 => if y7 = 0 then (some ((-1000001), vB, vT)) else ((fX0_stopOf vA i1 i2).bind (fun y9 => if y9 = (-1 : Int32) then (some ((-1000002), vB, vT)) else ((fX3_settleWithout vX vA vB vT i1 i2).bind (fun y11 => (fX1_upperPlaceOf y11.2 i3).bind (fun y12 => (fX3_inLowestTerms y12 (p1_lower y11.2) i4).bind (fun y13 => some ((y13).toInt32, y11.1, y11.2))))))))))))))
set_option maxHeartbeats 8000000 in
set_option maxRecDepth 100000 in
theorem mX3_without (l : Launch) (dC : Nat → ClassId) (dI : Nat → Nat → Nat) (cI cJ : ClassId) (a : Nat → Nat) (aA : Nat → Nat) (aB : Nat → Nat) (aR : Nat → Nat) (aT : Nat → Nat) (aS : Nat → Nat) (sz : Nat) (vX : BX3) (vA : BX0) (vB : BX0) (vT : BX1) (i1 : Int32) (i2 : Int32) (i3 : Int32) (i4 : Int32) (y : (Int32 × BX0 × BX1)) (hf : fX3_without vX vA vB vT i1 i2 i3 i4 = some y) : Met l yX3_without wsX3_without ({ frames := 6, cells := 0, slots := 0, locals := 143 }) (cPc dC dI cI cJ [.ref (a 0), .int i1, .int i2, .int i3, .int i4] [k3_0 a aA aB aR aT aS vX, k0_0 aA vA, k0_1 cI aA vA, k0_2 cI aA vA, k0_3 cI aA vA, k0_4 cI aA vA, k0_0 aB vB, k0_1 cI aB vB, k0_2 cI aB vB, k0_3 cI aB vB, k0_4 cI aB vB, k1_0 aT vT, k1_1 cJ aT vT, k1_2 cI aT vT, k1_3 cI aT vT, k1_4 cI aT vT, k1_5 cJ aT vT, k1_6 cJ aT vT, k1_7 cJ aT vT, k1_8 cJ aT vT, k1_9 cJ aT vT] sz) (va_Qi (fun r (_ : Unit) => r = y.1) (fun _ t => cB dC dI (va_A [k3_0 a aA aB aR aT aS vX, k0_0 aA vA, k0_1 cI aA vA, k0_2 cI aA vA, k0_3 cI aA vA, k0_4 cI aA vA, k0_0 aB vB, k0_1 cI aB vB, k0_2 cI aB vB, k0_3 cI aB vB, k0_4 cI aB vB, k1_0 aT vT, k1_1 cJ aT vT, k1_2 cI aT vT, k1_3 cI aT vT, k1_4 cI aT vT, k1_5 cJ aT vT, k1_6 cJ aT vT, k1_7 cJ aT vT, k1_8 cJ aT vT, k1_9 cJ aT vT] sz) [k3_0 a aA aB aR aT aS vX, k0_0 aA vA, k0_1 cI aA vA, k0_2 cI aA vA, k0_3 cI aA vA, k0_4 cI aA vA, k0_0 aB y.2.1, k0_1 cI aB y.2.1, k0_2 cI aB y.2.1, k0_3 cI aB y.2.1, k0_4 cI aB y.2.1, k1_0 aT y.2.2, k1_1 cJ aT y.2.2, k1_2 cI aT y.2.2, k1_3 cI aT y.2.2, k1_4 cI aT y.2.2, k1_5 cJ aT y.2.2, k1_6 cJ aT y.2.2, k1_7 cJ aT y.2.2, k1_8 cJ aT y.2.2, k1_9 cJ aT y.2.2] t) (va_A [k3_0 a aA aB aR aT aS vX, k0_0 aA vA, k0_1 cI aA vA, k0_2 cI aA vA, k0_3 cI aA vA, k0_4 cI aA vA, k0_0 aB vB, k0_1 cI aB vB, k0_2 cI aB vB, k0_3 cI aB vB, k0_4 cI aB vB, k1_0 aT vT, k1_1 cJ aT vT, k1_2 cI aT vT, k1_3 cI aT vT, k1_4 cI aT vT, k1_5 cJ aT vT, k1_6 cJ aT vT, k1_7 cJ aT vT, k1_8 cJ aT vT, k1_9 cJ aT vT] sz)) 0 0 (va_A [k3_0 a aA aB aR aT aS vX, k0_0 aA vA, k0_1 cI aA vA, k0_2 cI aA vA, k0_3 cI aA vA, k0_4 cI aA vA, k0_0 aB vB, k0_1 cI aB vB, k0_2 cI aB vB, k0_3 cI aB vB, k0_4 cI aB vB, k1_0 aT vT, k1_1 cJ aT vT, k1_2 cI aT vT, k1_3 cI aT vT, k1_4 cI aT vT, k1_5 cJ aT vT, k1_6 cJ aT vT, k1_7 cJ aT vT, k1_8 cJ aT vT, k1_9 cJ aT vT] sz) := by
  refine Met.ofW (cc := cX3_without) (maxL := 5) (ret := (some .int)) (by decide) rfl ?_
  intro p e s m args below meth c s₁ B hml hv
  obtain ⟨rfl, hsz, hP, hK, hD0, hN⟩ := hv
  have hx := B.exec
  have hb := B.bytes
  have hr := B.returns
  have hts := atoms_spec (ws := wsX3_without) B.pre
  have hown : s.vm.findClass RX3 = some m.cls := findClass_of_methodNamed B.named
  have hlocks := B.notSynchronized
  subst hsz
  have hD := hD0.self (sz := s.heap.size)
  generalize hAe : va_A [k3_0 a aA aB aR aT aS vX, k0_0 aA vA, k0_1 cI aA vA, k0_2 cI aA vA, k0_3 cI aA vA, k0_4 cI aA vA, k0_0 aB vB, k0_1 cI aB vB, k0_2 cI aB vB, k0_3 cI aB vB, k0_4 cI aB vB, k1_0 aT vT, k1_1 cJ aT vT, k1_2 cI aT vT, k1_3 cI aT vT, k1_4 cI aT vT, k1_5 cJ aT vT, k1_6 cJ aT vT, k1_7 cJ aT vT, k1_8 cJ aT vT, k1_9 cJ aT vT] s.heap.size = A at hD hN ⊢
  have hA : ∀ q : Nat, s.heap.size ≤ q → A q := fun q h => by rw [← hAe]; exact Or.inr h
  have hP : va_P (dC, dI) vwCl [k3_0 a aA aB aR aT aS vX, k0_0 aA vA, k0_1 cI aA vA, k0_2 cI aA vA, k0_3 cI aA vA, k0_4 cI aA vA, k0_0 aB vB, k0_1 cI aB vB, k0_2 cI aB vB, k0_3 cI aB vB, k0_4 cI aB vB, k1_0 aT vT, k1_1 cJ aT vT, k1_2 cI aT vT, k1_3 cI aT vT, k1_4 cI aT vT, k1_5 cJ aT vT, k1_6 cJ aT vT, k1_7 cJ aT vT, k1_8 cJ aT vT, k1_9 cJ aT vT] s.heap := hP
  have hl := lv_entry ([.ref (a 0), .int i1, .int i2, .int i3, .int i4]) (n := 5) (Nat.le_of_ble_eq_true rfl)
  rw [lg_entry_eq]
  generalize (lg_sl ([.ref (a 0), .int i1, .int i2, .int i3, .int i4]) ++ List.replicate (5 - (lg_sl ([.ref (a 0), .int i1, .int i2, .int i3, .int i4])).length) Slot.unset).toArray = ls at hl ⊢
  have hl : lv_has ls 5 [(0, .ref (a 0)), (1, .int i1), (2, .int i2), (3, .int i3), (4, .int i4)] := hl
  have hiX3 : ∀ w ∈ u_ws RX3 TX3 8, w ∈ wsX3_without := by decide +kernel
  have hgX3_10 := hts (.fieldLink RX3 10 "SpringPlates" "laid" "LSpringPlates$Layout;") (by decide +kernel)
  have hc84 := hts (.constant RX3 84 (-1000001)) (by decide +kernel)
  have hgX3_38 := hts (.fieldLink RX3 38 "SpringPlates" "trialRest" "LSpringPlates$Rest;") (by decide +kernel)
  have hiX1 : ∀ w ∈ u_ws RX1 TX1 10, w ∈ wsX3_without := by decide +kernel
  have hgX1_126 := hts (.fieldLink RX3 126 "SpringPlates$Rest" "lower" "J") (by decide +kernel)
  have hc189 := hts (.constant RX3 189 (-1000002)) (by decide +kernel)
  refine nameH (fun H locs hHe hLe => ?_)
  have hP : va_P (dC, dI) vwCl [k3_0 a aA aB aR aT aS vX, k0_0 aA vA, k0_1 cI aA vA, k0_2 cI aA vA, k0_3 cI aA vA, k0_4 cI aA vA, k0_0 aB vB, k0_1 cI aB vB, k0_2 cI aB vB, k0_3 cI aB vB, k0_4 cI aB vB, k1_0 aT vT, k1_1 cJ aT vT, k1_2 cI aT vT, k1_3 cI aT vT, k1_4 cI aT vT, k1_5 cJ aT vT, k1_6 cJ aT vT, k1_7 cJ aT vT, k1_8 cJ aT vT, k1_9 cJ aT vT] H := by rw [hHe]; exact hP
  have hS : va_S A s.heap H locs := by rw [hHe, hLe]; exact va_S.rf
  unfold fX3_without at hf
  refine lv_aload_n hx hb dX3_without_0 rfl (lv_at hl 0 rfl) ?_
  refine va_get (D := (dC, dI)) (ci := 3) (v := .ref (aA 0)) (C := RX3) (T := TX3) (N := 8) hx hb hts hiX3 hown hK hP 0 rfl rfl 0 (by decide) hgX3_10 (fun _ h9 => h9) rfl dX3_without_1 ?_
  refine lv_iload_n hx hb dX3_without_4 rfl (lv_at hl 1 rfl) ?_
  obtain ⟨y1, hy1, hf⟩ := obind hf
  refine cg_i (ws := [k3_0 a aA aB aR aT aS vX, k0_0 aA vA, k0_1 cI aA vA, k0_2 cI aA vA, k0_3 cI aA vA, k0_4 cI aA vA, k0_0 aB vB, k0_1 cI aB vB, k0_2 cI aB vB, k0_3 cI aB vB, k0_4 cI aB vB, k1_0 aT vT, k1_1 cJ aT vT, k1_2 cI aT vT, k1_3 cI aT vT, k1_4 cI aT vT, k1_5 cJ aT vT, k1_6 cJ aT vT, k1_7 cJ aT vT, k1_8 cJ aT vT, k1_9 cJ aT vT]) (wc := [k0_0 aA vA, k0_1 cI aA vA, k0_2 cI aA vA, k0_3 cI aA vA, k0_4 cI aA vA]) (wr := [k3_0 a aA aB aR aT aS vX, k0_0 aB vB, k0_1 cI aB vB, k0_2 cI aB vB, k0_3 cI aB vB, k0_4 cI aB vB, k1_0 aT vT, k1_1 cJ aT vT, k1_2 cI aT vT, k1_3 cI aT vT, k1_4 cI aT vT, k1_5 cJ aT vT, k1_6 cJ aT vT, k1_7 cJ aT vT, k1_8 cJ aT vT, k1_9 cJ aT vT]) (w1 := [k0_0 aA vA, k0_1 cI aA vA, k0_2 cI aA vA, k0_3 cI aA vA, k0_4 cI aA vA]) (wo := [k3_0 a aA aB aR aT aS vX, k0_0 aA vA, k0_1 cI aA vA, k0_2 cI aA vA, k0_3 cI aA vA, k0_4 cI aA vA, k0_0 aB vB, k0_1 cI aB vB, k0_2 cI aB vB, k0_3 cI aB vB, k0_4 cI aB vB, k1_0 aT vT, k1_1 cJ aT vT, k1_2 cI aT vT, k1_3 cI aT vT, k1_4 cI aT vT, k1_5 cJ aT vT, k1_6 cJ aT vT, k1_7 cJ aT vT, k1_8 cJ aT vT, k1_9 cJ aT vT]) hP hD hS hA (va_runV (As := [.int i1]) (rest := []) ⟨hx, hb, hml, hown, hts⟩ (mX0_hasPlate l dC dI cI cJ aA H.size vA i1 y1 hy1) (cwV 1 hts gX3_without_X0_hasPlate rfl rfl rfl (by decide +kernel) ⟨Nat.le_of_ble_eq_true rfl, Nat.le_of_ble_eq_true rfl⟩) ⟨cFB, va_recv hK hP (ci := 0) (q0 := 1) rfl rfl, cPre hK hN hS (va_free (wc := [k0_0 aA vA, k0_1 cI aA vA, k0_2 cI aA vA, k0_3 cI aA vA, k0_4 cI aA vA]) hD hS hA [1, 2, 3, 4, 5] rfl) (hP.sub [1, 2, 3, 4, 5] rfl) (hD.sub [1, 2, 3, 4, 5] rfl rfl)⟩ rfl rfl hl.1 rfl (lv_room (Nat.le_of_ble_eq_true rfl)) dX3_without_5 ⟨Nat.le_of_ble_eq_true rfl, Nat.le_of_ble_eq_true rfl⟩) [1, 2, 3, 4, 5] [0, 6, 7, 8, 9, 10, 11, 12, 13, 14, 15, 16, 17, 18, 19, 20] [0, 16, 17, 18, 19, 20, 1, 2, 3, 4, 5, 6, 7, 8, 9, 10, 11, 12, 13, 14, 15] rfl rfl rfl (by decide +kernel) rfl rfl (fun H locs hP hD hS => ?_)
  refine lv_if_eq (tgt := 37) hx hb dX3_without_8 (by decide) (fun c2 => ?_) (fun c2 => ?_)
  · have hf := oif_t c2 hf
    refine lv_ldc (v := (-1000001)) hx hb hown hc84 dX3_without_37 ?_
    obtain rfl := Option.some.inj hf
    exact W.iret (v := (-1000001)) hx hb hr (fun t ht hW => ⟨⟨(-1000001), (), rfl, rfl, by rw [ht]; exact hP, hD⟩, hS.F ht⟩) hS.2.2 dX3_without_39
  · have hf := oif_f c2 hf
    refine lv_iload_n hx hb dX3_without_11 rfl (lv_at hl 2 rfl) ?_
    obtain ⟨y3, hy3, hf⟩ := obind hf
    refine cg_i (ws := [k3_0 a aA aB aR aT aS vX, k0_0 aA vA, k0_1 cI aA vA, k0_2 cI aA vA, k0_3 cI aA vA, k0_4 cI aA vA, k0_0 aB vB, k0_1 cI aB vB, k0_2 cI aB vB, k0_3 cI aB vB, k0_4 cI aB vB, k1_0 aT vT, k1_1 cJ aT vT, k1_2 cI aT vT, k1_3 cI aT vT, k1_4 cI aT vT, k1_5 cJ aT vT, k1_6 cJ aT vT, k1_7 cJ aT vT, k1_8 cJ aT vT, k1_9 cJ aT vT]) (wc := []) (wr := [k3_0 a aA aB aR aT aS vX, k0_0 aA vA, k0_1 cI aA vA, k0_2 cI aA vA, k0_3 cI aA vA, k0_4 cI aA vA, k0_0 aB vB, k0_1 cI aB vB, k0_2 cI aB vB, k0_3 cI aB vB, k0_4 cI aB vB, k1_0 aT vT, k1_1 cJ aT vT, k1_2 cI aT vT, k1_3 cI aT vT, k1_4 cI aT vT, k1_5 cJ aT vT, k1_6 cJ aT vT, k1_7 cJ aT vT, k1_8 cJ aT vT, k1_9 cJ aT vT]) (w1 := []) (wo := [k3_0 a aA aB aR aT aS vX, k0_0 aA vA, k0_1 cI aA vA, k0_2 cI aA vA, k0_3 cI aA vA, k0_4 cI aA vA, k0_0 aB vB, k0_1 cI aB vB, k0_2 cI aB vB, k0_3 cI aB vB, k0_4 cI aB vB, k1_0 aT vT, k1_1 cJ aT vT, k1_2 cI aT vT, k1_3 cI aT vT, k1_4 cI aT vT, k1_5 cJ aT vT, k1_6 cJ aT vT, k1_7 cJ aT vT, k1_8 cJ aT vT, k1_9 cJ aT vT]) hP hD hS hA (va_runS (As := [.int i2]) (rest := []) ⟨hx, hb, hml, hown, hts⟩ (mX3_isSide l dC dI cI cJ  H.size i2 y3 hy3) (va_cwS 1 hts gX3_without_X3_isSide rfl rfl rfl (by decide +kernel) ⟨Nat.le_of_ble_eq_true rfl, Nat.le_of_ble_eq_true rfl⟩) ⟨cFB, cPre hK hN hS (va_free (wc := []) hD hS hA [] rfl) (hP.sub [] rfl) (hD.sub [] rfl rfl)⟩ rfl rfl hl.1 rfl (lv_room (Nat.le_of_ble_eq_true rfl)) dX3_without_12 ⟨Nat.le_of_ble_eq_true rfl, Nat.le_of_ble_eq_true rfl⟩) [] [0, 1, 2, 3, 4, 5, 6, 7, 8, 9, 10, 11, 12, 13, 14, 15, 16, 17, 18, 19, 20] [0, 1, 2, 3, 4, 5, 6, 7, 8, 9, 10, 11, 12, 13, 14, 15, 16, 17, 18, 19, 20] rfl rfl rfl (by decide +kernel) rfl rfl (fun H locs hP hD hS => ?_)
    refine lv_if_eq (tgt := 37) hx hb dX3_without_15 (by decide) (fun c4 => ?_) (fun c4 => ?_)
    · have hf := oif_t c4 hf
      refine lv_ldc (v := (-1000001)) hx hb hown hc84 dX3_without_37 ?_
      obtain rfl := Option.some.inj hf
      exact W.iret (v := (-1000001)) hx hb hr (fun t ht hW => ⟨⟨(-1000001), (), rfl, rfl, by rw [ht]; exact hP, hD⟩, hS.F ht⟩) hS.2.2 dX3_without_39
    · have hf := oif_f c4 hf
      refine lv_aload_n hx hb dX3_without_18 rfl (lv_at hl 0 rfl) ?_
      refine va_get (D := (dC, dI)) (ci := 3) (v := .ref (aA 0)) (C := RX3) (T := TX3) (N := 8) hx hb hts hiX3 hown hK hP 0 rfl rfl 0 (by decide) hgX3_10 (fun _ h9 => h9) rfl dX3_without_19 ?_
      refine lv_iload_n hx hb dX3_without_22 rfl (lv_at hl 3 rfl) ?_
      obtain ⟨y5, hy5, hf⟩ := obind hf
      refine cg_i (ws := [k3_0 a aA aB aR aT aS vX, k0_0 aA vA, k0_1 cI aA vA, k0_2 cI aA vA, k0_3 cI aA vA, k0_4 cI aA vA, k0_0 aB vB, k0_1 cI aB vB, k0_2 cI aB vB, k0_3 cI aB vB, k0_4 cI aB vB, k1_0 aT vT, k1_1 cJ aT vT, k1_2 cI aT vT, k1_3 cI aT vT, k1_4 cI aT vT, k1_5 cJ aT vT, k1_6 cJ aT vT, k1_7 cJ aT vT, k1_8 cJ aT vT, k1_9 cJ aT vT]) (wc := [k0_0 aA vA, k0_1 cI aA vA, k0_2 cI aA vA, k0_3 cI aA vA, k0_4 cI aA vA]) (wr := [k3_0 a aA aB aR aT aS vX, k0_0 aB vB, k0_1 cI aB vB, k0_2 cI aB vB, k0_3 cI aB vB, k0_4 cI aB vB, k1_0 aT vT, k1_1 cJ aT vT, k1_2 cI aT vT, k1_3 cI aT vT, k1_4 cI aT vT, k1_5 cJ aT vT, k1_6 cJ aT vT, k1_7 cJ aT vT, k1_8 cJ aT vT, k1_9 cJ aT vT]) (w1 := [k0_0 aA vA, k0_1 cI aA vA, k0_2 cI aA vA, k0_3 cI aA vA, k0_4 cI aA vA]) (wo := [k3_0 a aA aB aR aT aS vX, k0_0 aA vA, k0_1 cI aA vA, k0_2 cI aA vA, k0_3 cI aA vA, k0_4 cI aA vA, k0_0 aB vB, k0_1 cI aB vB, k0_2 cI aB vB, k0_3 cI aB vB, k0_4 cI aB vB, k1_0 aT vT, k1_1 cJ aT vT, k1_2 cI aT vT, k1_3 cI aT vT, k1_4 cI aT vT, k1_5 cJ aT vT, k1_6 cJ aT vT, k1_7 cJ aT vT, k1_8 cJ aT vT, k1_9 cJ aT vT]) hP hD hS hA (va_runV (As := [.int i3]) (rest := []) ⟨hx, hb, hml, hown, hts⟩ (mX0_hasPlate l dC dI cI cJ aA H.size vA i3 y5 hy5) (cwV 1 hts gX3_without_X0_hasPlate rfl rfl rfl (by decide +kernel) ⟨Nat.le_of_ble_eq_true rfl, Nat.le_of_ble_eq_true rfl⟩) ⟨cFB, va_recv hK hP (ci := 0) (q0 := 1) rfl rfl, cPre hK hN hS (va_free (wc := [k0_0 aA vA, k0_1 cI aA vA, k0_2 cI aA vA, k0_3 cI aA vA, k0_4 cI aA vA]) hD hS hA [1, 2, 3, 4, 5] rfl) (hP.sub [1, 2, 3, 4, 5] rfl) (hD.sub [1, 2, 3, 4, 5] rfl rfl)⟩ rfl rfl hl.1 rfl (lv_room (Nat.le_of_ble_eq_true rfl)) dX3_without_23 ⟨Nat.le_of_ble_eq_true rfl, Nat.le_of_ble_eq_true rfl⟩) [1, 2, 3, 4, 5] [0, 6, 7, 8, 9, 10, 11, 12, 13, 14, 15, 16, 17, 18, 19, 20] [0, 16, 17, 18, 19, 20, 1, 2, 3, 4, 5, 6, 7, 8, 9, 10, 11, 12, 13, 14, 15] rfl rfl rfl (by decide +kernel) rfl rfl (fun H locs hP hD hS => ?_)
      refine lv_if_eq (tgt := 37) hx hb dX3_without_26 (by decide) (fun c6 => ?_) (fun c6 => ?_)
      · have hf := oif_t c6 hf
        refine lv_ldc (v := (-1000001)) hx hb hown hc84 dX3_without_37 ?_
        obtain rfl := Option.some.inj hf
        exact W.iret (v := (-1000001)) hx hb hr (fun t ht hW => ⟨⟨(-1000001), (), rfl, rfl, by rw [ht]; exact hP, hD⟩, hS.F ht⟩) hS.2.2 dX3_without_39
      · have hf := oif_f c6 hf
        refine lv_iload hx hb dX3_without_29 (lv_at hl 4 rfl) ?_
        obtain ⟨y7, hy7, hf⟩ := obind hf
        refine cg_i (ws := [k3_0 a aA aB aR aT aS vX, k0_0 aA vA, k0_1 cI aA vA, k0_2 cI aA vA, k0_3 cI aA vA, k0_4 cI aA vA, k0_0 aB vB, k0_1 cI aB vB, k0_2 cI aB vB, k0_3 cI aB vB, k0_4 cI aB vB, k1_0 aT vT, k1_1 cJ aT vT, k1_2 cI aT vT, k1_3 cI aT vT, k1_4 cI aT vT, k1_5 cJ aT vT, k1_6 cJ aT vT, k1_7 cJ aT vT, k1_8 cJ aT vT, k1_9 cJ aT vT]) (wc := []) (wr := [k3_0 a aA aB aR aT aS vX, k0_0 aA vA, k0_1 cI aA vA, k0_2 cI aA vA, k0_3 cI aA vA, k0_4 cI aA vA, k0_0 aB vB, k0_1 cI aB vB, k0_2 cI aB vB, k0_3 cI aB vB, k0_4 cI aB vB, k1_0 aT vT, k1_1 cJ aT vT, k1_2 cI aT vT, k1_3 cI aT vT, k1_4 cI aT vT, k1_5 cJ aT vT, k1_6 cJ aT vT, k1_7 cJ aT vT, k1_8 cJ aT vT, k1_9 cJ aT vT]) (w1 := []) (wo := [k3_0 a aA aB aR aT aS vX, k0_0 aA vA, k0_1 cI aA vA, k0_2 cI aA vA, k0_3 cI aA vA, k0_4 cI aA vA, k0_0 aB vB, k0_1 cI aB vB, k0_2 cI aB vB, k0_3 cI aB vB, k0_4 cI aB vB, k1_0 aT vT, k1_1 cJ aT vT, k1_2 cI aT vT, k1_3 cI aT vT, k1_4 cI aT vT, k1_5 cJ aT vT, k1_6 cJ aT vT, k1_7 cJ aT vT, k1_8 cJ aT vT, k1_9 cJ aT vT]) hP hD hS hA (va_runS (As := [.int i4]) (rest := []) ⟨hx, hb, hml, hown, hts⟩ (mX3_isPart l dC dI cI cJ  H.size i4 y7 hy7) (va_cwS 1 hts gX3_without_X3_isPart rfl rfl rfl (by decide +kernel) ⟨Nat.le_of_ble_eq_true rfl, Nat.le_of_ble_eq_true rfl⟩) ⟨cFB, cPre hK hN hS (va_free (wc := []) hD hS hA [] rfl) (hP.sub [] rfl) (hD.sub [] rfl rfl)⟩ rfl rfl hl.1 rfl (lv_room (Nat.le_of_ble_eq_true rfl)) dX3_without_31 ⟨Nat.le_of_ble_eq_true rfl, Nat.le_of_ble_eq_true rfl⟩) [] [0, 1, 2, 3, 4, 5, 6, 7, 8, 9, 10, 11, 12, 13, 14, 15, 16, 17, 18, 19, 20] [0, 1, 2, 3, 4, 5, 6, 7, 8, 9, 10, 11, 12, 13, 14, 15, 16, 17, 18, 19, 20] rfl rfl rfl (by decide +kernel) rfl rfl (fun H locs hP hD hS => ?_)
        refine lv_if_ne (tgt := 40) hx hb dX3_without_34 (by decide) (fun c8 => ?_) (fun c8 => ?_)
        · have hf := oif_f c8 hf
          refine lv_aload_n hx hb dX3_without_40 rfl (lv_at hl 0 rfl) ?_
          refine va_get (D := (dC, dI)) (ci := 3) (v := .ref (aA 0)) (C := RX3) (T := TX3) (N := 8) hx hb hts hiX3 hown hK hP 0 rfl rfl 0 (by decide) hgX3_10 (fun _ h9 => h9) rfl dX3_without_41 ?_
          refine lv_iload_n hx hb dX3_without_44 rfl (lv_at hl 1 rfl) ?_
          refine lv_iload_n hx hb dX3_without_45 rfl (lv_at hl 2 rfl) ?_
          obtain ⟨y9, hy9, hf⟩ := obind hf
          refine cg_i (ws := [k3_0 a aA aB aR aT aS vX, k0_0 aA vA, k0_1 cI aA vA, k0_2 cI aA vA, k0_3 cI aA vA, k0_4 cI aA vA, k0_0 aB vB, k0_1 cI aB vB, k0_2 cI aB vB, k0_3 cI aB vB, k0_4 cI aB vB, k1_0 aT vT, k1_1 cJ aT vT, k1_2 cI aT vT, k1_3 cI aT vT, k1_4 cI aT vT, k1_5 cJ aT vT, k1_6 cJ aT vT, k1_7 cJ aT vT, k1_8 cJ aT vT, k1_9 cJ aT vT]) (wc := [k0_0 aA vA, k0_1 cI aA vA, k0_2 cI aA vA, k0_3 cI aA vA, k0_4 cI aA vA]) (wr := [k3_0 a aA aB aR aT aS vX, k0_0 aB vB, k0_1 cI aB vB, k0_2 cI aB vB, k0_3 cI aB vB, k0_4 cI aB vB, k1_0 aT vT, k1_1 cJ aT vT, k1_2 cI aT vT, k1_3 cI aT vT, k1_4 cI aT vT, k1_5 cJ aT vT, k1_6 cJ aT vT, k1_7 cJ aT vT, k1_8 cJ aT vT, k1_9 cJ aT vT]) (w1 := [k0_0 aA vA, k0_1 cI aA vA, k0_2 cI aA vA, k0_3 cI aA vA, k0_4 cI aA vA]) (wo := [k3_0 a aA aB aR aT aS vX, k0_0 aA vA, k0_1 cI aA vA, k0_2 cI aA vA, k0_3 cI aA vA, k0_4 cI aA vA, k0_0 aB vB, k0_1 cI aB vB, k0_2 cI aB vB, k0_3 cI aB vB, k0_4 cI aB vB, k1_0 aT vT, k1_1 cJ aT vT, k1_2 cI aT vT, k1_3 cI aT vT, k1_4 cI aT vT, k1_5 cJ aT vT, k1_6 cJ aT vT, k1_7 cJ aT vT, k1_8 cJ aT vT, k1_9 cJ aT vT]) hP hD hS hA (va_runV (As := [.int i1, .int i2]) (rest := []) ⟨hx, hb, hml, hown, hts⟩ (mX0_stopOf l dC dI cI cJ aA H.size vA i1 i2 y9 hy9) (cwV 2 hts gX3_without_X0_stopOf rfl rfl rfl (by decide +kernel) ⟨Nat.le_of_ble_eq_true rfl, Nat.le_of_ble_eq_true rfl⟩) ⟨cFB, va_recv hK hP (ci := 0) (q0 := 1) rfl rfl, cPre hK hN hS (va_free (wc := [k0_0 aA vA, k0_1 cI aA vA, k0_2 cI aA vA, k0_3 cI aA vA, k0_4 cI aA vA]) hD hS hA [1, 2, 3, 4, 5] rfl) (hP.sub [1, 2, 3, 4, 5] rfl) (hD.sub [1, 2, 3, 4, 5] rfl rfl)⟩ rfl rfl hl.1 rfl (lv_room (Nat.le_of_ble_eq_true rfl)) dX3_without_46 ⟨Nat.le_of_ble_eq_true rfl, Nat.le_of_ble_eq_true rfl⟩) [1, 2, 3, 4, 5] [0, 6, 7, 8, 9, 10, 11, 12, 13, 14, 15, 16, 17, 18, 19, 20] [0, 16, 17, 18, 19, 20, 1, 2, 3, 4, 5, 6, 7, 8, 9, 10, 11, 12, 13, 14, 15] rfl rfl rfl (by decide +kernel) rfl rfl (fun H locs hP hD hS => ?_)
          refine lv_iconst (v := (-1)) hx hb dX3_without_49 (by decide) ?_
          refine lv_icmp_ne (tgt := 56) hx hb dX3_without_50 (by decide) (fun c10 => ?_) (fun c10 => ?_)
          · have hf := oif_f c10 hf
            refine lv_aload_n hx hb dX3_without_56 rfl (lv_at hl 0 rfl) ?_
            refine lv_iload_n hx hb dX3_without_57 rfl (lv_at hl 1 rfl) ?_
            refine lv_iload_n hx hb dX3_without_58 rfl (lv_at hl 2 rfl) ?_
            obtain ⟨y11, hy11, hf⟩ := obind hf
            refine cg_v (ws := [k3_0 a aA aB aR aT aS vX, k0_0 aA vA, k0_1 cI aA vA, k0_2 cI aA vA, k0_3 cI aA vA, k0_4 cI aA vA, k0_0 aB vB, k0_1 cI aB vB, k0_2 cI aB vB, k0_3 cI aB vB, k0_4 cI aB vB, k1_0 aT vT, k1_1 cJ aT vT, k1_2 cI aT vT, k1_3 cI aT vT, k1_4 cI aT vT, k1_5 cJ aT vT, k1_6 cJ aT vT, k1_7 cJ aT vT, k1_8 cJ aT vT, k1_9 cJ aT vT]) (wc := [k3_0 a aA aB aR aT aS vX, k0_0 aA vA, k0_1 cI aA vA, k0_2 cI aA vA, k0_3 cI aA vA, k0_4 cI aA vA, k0_0 aB vB, k0_1 cI aB vB, k0_2 cI aB vB, k0_3 cI aB vB, k0_4 cI aB vB, k1_0 aT vT, k1_1 cJ aT vT, k1_2 cI aT vT, k1_3 cI aT vT, k1_4 cI aT vT, k1_5 cJ aT vT, k1_6 cJ aT vT, k1_7 cJ aT vT, k1_8 cJ aT vT, k1_9 cJ aT vT]) (wr := []) (w1 := [k3_0 a aA aB aR aT aS vX, k0_0 aA vA, k0_1 cI aA vA, k0_2 cI aA vA, k0_3 cI aA vA, k0_4 cI aA vA, k0_0 aB y11.1, k0_1 cI aB y11.1, k0_2 cI aB y11.1, k0_3 cI aB y11.1, k0_4 cI aB y11.1, k1_0 aT y11.2, k1_1 cJ aT y11.2, k1_2 cI aT y11.2, k1_3 cI aT y11.2, k1_4 cI aT y11.2, k1_5 cJ aT y11.2, k1_6 cJ aT y11.2, k1_7 cJ aT y11.2, k1_8 cJ aT y11.2, k1_9 cJ aT y11.2]) (wo := [k3_0 a aA aB aR aT aS vX, k0_0 aA vA, k0_1 cI aA vA, k0_2 cI aA vA, k0_3 cI aA vA, k0_4 cI aA vA, k0_0 aB y11.1, k0_1 cI aB y11.1, k0_2 cI aB y11.1, k0_3 cI aB y11.1, k0_4 cI aB y11.1, k1_0 aT y11.2, k1_1 cJ aT y11.2, k1_2 cI aT y11.2, k1_3 cI aT y11.2, k1_4 cI aT y11.2, k1_5 cJ aT y11.2, k1_6 cJ aT y11.2, k1_7 cJ aT y11.2, k1_8 cJ aT y11.2, k1_9 cJ aT y11.2]) hP hD hS hA (va_runV (As := [.int i1, .int i2]) (rest := []) ⟨hx, hb, hml, hown, hts⟩ (mX3_settleWithout l dC dI cI cJ a aA aB aR aT aS H.size vX vA vB vT i1 i2 y11 hy11) (cwV 2 hts gX3_without_X3_settleWithout rfl rfl rfl (by decide +kernel) ⟨Nat.le_of_ble_eq_true rfl, Nat.le_of_ble_eq_true rfl⟩) ⟨cFB, va_recv hK hP (ci := 3) (q0 := 0) rfl rfl, cPre hK hN hS (va_free (wc := [k3_0 a aA aB aR aT aS vX, k0_0 aA vA, k0_1 cI aA vA, k0_2 cI aA vA, k0_3 cI aA vA, k0_4 cI aA vA, k0_0 aB vB, k0_1 cI aB vB, k0_2 cI aB vB, k0_3 cI aB vB, k0_4 cI aB vB, k1_0 aT vT, k1_1 cJ aT vT, k1_2 cI aT vT, k1_3 cI aT vT, k1_4 cI aT vT, k1_5 cJ aT vT, k1_6 cJ aT vT, k1_7 cJ aT vT, k1_8 cJ aT vT, k1_9 cJ aT vT]) hD hS hA [0, 1, 2, 3, 4, 5, 6, 7, 8, 9, 10, 11, 12, 13, 14, 15, 16, 17, 18, 19, 20] rfl) (hP.sub [0, 1, 2, 3, 4, 5, 6, 7, 8, 9, 10, 11, 12, 13, 14, 15, 16, 17, 18, 19, 20] rfl) (hD.sub [0, 1, 2, 3, 4, 5, 6, 7, 8, 9, 10, 11, 12, 13, 14, 15, 16, 17, 18, 19, 20] rfl rfl)⟩ rfl rfl hl.1 rfl (lv_room (Nat.le_of_ble_eq_true rfl)) dX3_without_59 ⟨Nat.le_of_ble_eq_true rfl, Nat.le_of_ble_eq_true rfl⟩) [0, 1, 2, 3, 4, 5, 6, 7, 8, 9, 10, 11, 12, 13, 14, 15, 16, 17, 18, 19, 20] [] [0, 1, 2, 3, 4, 5, 6, 7, 8, 9, 10, 11, 12, 13, 14, 15, 16, 17, 18, 19, 20] rfl rfl rfl (by decide +kernel) rfl rfl (fun H locs hP hD hS => ?_)
            refine lv_aload_n hx hb dX3_without_62 rfl (lv_at hl 0 rfl) ?_
            refine va_get (D := (dC, dI)) (ci := 3) (v := .ref (aT 0)) (C := RX3) (T := TX3) (N := 8) hx hb hts hiX3 hown hK hP 0 rfl rfl 6 (by decide) hgX3_38 (fun _ h9 => h9) rfl dX3_without_63 ?_
            refine lv_iload_n hx hb dX3_without_66 rfl (lv_at hl 3 rfl) ?_
            obtain ⟨y12, hy12, hf⟩ := obind hf
            refine cg_l (ws := [k3_0 a aA aB aR aT aS vX, k0_0 aA vA, k0_1 cI aA vA, k0_2 cI aA vA, k0_3 cI aA vA, k0_4 cI aA vA, k0_0 aB y11.1, k0_1 cI aB y11.1, k0_2 cI aB y11.1, k0_3 cI aB y11.1, k0_4 cI aB y11.1, k1_0 aT y11.2, k1_1 cJ aT y11.2, k1_2 cI aT y11.2, k1_3 cI aT y11.2, k1_4 cI aT y11.2, k1_5 cJ aT y11.2, k1_6 cJ aT y11.2, k1_7 cJ aT y11.2, k1_8 cJ aT y11.2, k1_9 cJ aT y11.2]) (wc := [k1_0 aT y11.2, k1_1 cJ aT y11.2, k1_2 cI aT y11.2, k1_3 cI aT y11.2, k1_4 cI aT y11.2, k1_5 cJ aT y11.2, k1_6 cJ aT y11.2, k1_7 cJ aT y11.2, k1_8 cJ aT y11.2, k1_9 cJ aT y11.2]) (wr := [k3_0 a aA aB aR aT aS vX, k0_0 aA vA, k0_1 cI aA vA, k0_2 cI aA vA, k0_3 cI aA vA, k0_4 cI aA vA, k0_0 aB y11.1, k0_1 cI aB y11.1, k0_2 cI aB y11.1, k0_3 cI aB y11.1, k0_4 cI aB y11.1]) (w1 := [k1_0 aT y11.2, k1_1 cJ aT y11.2, k1_2 cI aT y11.2, k1_3 cI aT y11.2, k1_4 cI aT y11.2, k1_5 cJ aT y11.2, k1_6 cJ aT y11.2, k1_7 cJ aT y11.2, k1_8 cJ aT y11.2, k1_9 cJ aT y11.2]) (wo := [k3_0 a aA aB aR aT aS vX, k0_0 aA vA, k0_1 cI aA vA, k0_2 cI aA vA, k0_3 cI aA vA, k0_4 cI aA vA, k0_0 aB y11.1, k0_1 cI aB y11.1, k0_2 cI aB y11.1, k0_3 cI aB y11.1, k0_4 cI aB y11.1, k1_0 aT y11.2, k1_1 cJ aT y11.2, k1_2 cI aT y11.2, k1_3 cI aT y11.2, k1_4 cI aT y11.2, k1_5 cJ aT y11.2, k1_6 cJ aT y11.2, k1_7 cJ aT y11.2, k1_8 cJ aT y11.2, k1_9 cJ aT y11.2]) hP hD hS hA (va_runV (As := [.int i3]) (rest := []) ⟨hx, hb, hml, hown, hts⟩ (mX1_upperPlaceOf l dC dI cI cJ aT H.size y11.2 i3 y12 hy12) (cwV 1 hts gX3_without_X1_upperPlaceOf rfl rfl rfl (by decide +kernel) ⟨Nat.le_of_ble_eq_true rfl, Nat.le_of_ble_eq_true rfl⟩) ⟨cFB, va_recv hK hP (ci := 1) (q0 := 11) rfl rfl, cPre hK hN hS (va_free (wc := [k1_0 aT y11.2, k1_1 cJ aT y11.2, k1_2 cI aT y11.2, k1_3 cI aT y11.2, k1_4 cI aT y11.2, k1_5 cJ aT y11.2, k1_6 cJ aT y11.2, k1_7 cJ aT y11.2, k1_8 cJ aT y11.2, k1_9 cJ aT y11.2]) hD hS hA [11, 12, 13, 14, 15, 16, 17, 18, 19, 20] rfl) (hP.sub [11, 12, 13, 14, 15, 16, 17, 18, 19, 20] rfl) (hD.sub [11, 12, 13, 14, 15, 16, 17, 18, 19, 20] rfl rfl)⟩ rfl rfl hl.1 rfl (lv_room (Nat.le_of_ble_eq_true rfl)) dX3_without_67 ⟨Nat.le_of_ble_eq_true rfl, Nat.le_of_ble_eq_true rfl⟩) [11, 12, 13, 14, 15, 16, 17, 18, 19, 20] [0, 1, 2, 3, 4, 5, 6, 7, 8, 9, 10] [0, 1, 2, 3, 4, 5, 6, 7, 8, 9, 10, 11, 12, 13, 14, 15, 16, 17, 18, 19, 20] rfl rfl rfl (by decide +kernel) rfl rfl (fun H locs hP hD hS => ?_)
            refine lv_aload_n hx hb dX3_without_70 rfl (lv_at hl 0 rfl) ?_
            refine va_get (D := (dC, dI)) (ci := 3) (v := .ref (aT 0)) (C := RX3) (T := TX3) (N := 8) hx hb hts hiX3 hown hK hP 0 rfl rfl 6 (by decide) hgX3_38 (fun _ h9 => h9) rfl dX3_without_71 ?_
            refine va_get (D := (dC, dI)) (ci := 1) (v := .long (p1_lower y11.2)) (C := RX1) (T := TX1) (N := 10) hx hb hts hiX1 hown hK hP 11 rfl rfl 1 (by decide) hgX1_126 (fun _ h9 => h9) rfl dX3_without_74 ?_
            refine lv_iload hx hb dX3_without_77 (lv_at hl 4 rfl) ?_
            obtain ⟨y13, hy13, hf⟩ := obind hf
            refine cg_l (ws := [k3_0 a aA aB aR aT aS vX, k0_0 aA vA, k0_1 cI aA vA, k0_2 cI aA vA, k0_3 cI aA vA, k0_4 cI aA vA, k0_0 aB y11.1, k0_1 cI aB y11.1, k0_2 cI aB y11.1, k0_3 cI aB y11.1, k0_4 cI aB y11.1, k1_0 aT y11.2, k1_1 cJ aT y11.2, k1_2 cI aT y11.2, k1_3 cI aT y11.2, k1_4 cI aT y11.2, k1_5 cJ aT y11.2, k1_6 cJ aT y11.2, k1_7 cJ aT y11.2, k1_8 cJ aT y11.2, k1_9 cJ aT y11.2]) (wc := []) (wr := [k3_0 a aA aB aR aT aS vX, k0_0 aA vA, k0_1 cI aA vA, k0_2 cI aA vA, k0_3 cI aA vA, k0_4 cI aA vA, k0_0 aB y11.1, k0_1 cI aB y11.1, k0_2 cI aB y11.1, k0_3 cI aB y11.1, k0_4 cI aB y11.1, k1_0 aT y11.2, k1_1 cJ aT y11.2, k1_2 cI aT y11.2, k1_3 cI aT y11.2, k1_4 cI aT y11.2, k1_5 cJ aT y11.2, k1_6 cJ aT y11.2, k1_7 cJ aT y11.2, k1_8 cJ aT y11.2, k1_9 cJ aT y11.2]) (w1 := []) (wo := [k3_0 a aA aB aR aT aS vX, k0_0 aA vA, k0_1 cI aA vA, k0_2 cI aA vA, k0_3 cI aA vA, k0_4 cI aA vA, k0_0 aB y11.1, k0_1 cI aB y11.1, k0_2 cI aB y11.1, k0_3 cI aB y11.1, k0_4 cI aB y11.1, k1_0 aT y11.2, k1_1 cJ aT y11.2, k1_2 cI aT y11.2, k1_3 cI aT y11.2, k1_4 cI aT y11.2, k1_5 cJ aT y11.2, k1_6 cJ aT y11.2, k1_7 cJ aT y11.2, k1_8 cJ aT y11.2, k1_9 cJ aT y11.2]) hP hD hS hA (va_runS (As := [.long y12, .long (p1_lower y11.2), .int i4]) (rest := []) ⟨hx, hb, hml, hown, hts⟩ (mX3_inLowestTerms l dC dI cI cJ  H.size y12 (p1_lower y11.2) i4 y13 hy13) (va_cwS 3 hts gX3_without_X3_inLowestTerms rfl rfl rfl (by decide +kernel) ⟨Nat.le_of_ble_eq_true rfl, Nat.le_of_ble_eq_true rfl⟩) ⟨cFB, cPre hK hN hS (va_free (wc := []) hD hS hA [] rfl) (hP.sub [] rfl) (hD.sub [] rfl rfl)⟩ rfl rfl hl.1 rfl (lv_room (Nat.le_of_ble_eq_true rfl)) dX3_without_79 ⟨Nat.le_of_ble_eq_true rfl, Nat.le_of_ble_eq_true rfl⟩) [] [0, 1, 2, 3, 4, 5, 6, 7, 8, 9, 10, 11, 12, 13, 14, 15, 16, 17, 18, 19, 20] [0, 1, 2, 3, 4, 5, 6, 7, 8, 9, 10, 11, 12, 13, 14, 15, 16, 17, 18, 19, 20] rfl rfl rfl (by decide +kernel) rfl rfl (fun H locs hP hD hS => ?_)
            refine lv_l2i (v := (y13).toInt32) hx hb dX3_without_82 rfl ?_
            obtain rfl := Option.some.inj hf
            exact W.iret (v := (y13).toInt32) hx hb hr (fun t ht hW => ⟨⟨(y13).toInt32, (), rfl, rfl, by rw [ht]; exact hP, hD⟩, hS.F ht⟩) hS.2.2 dX3_without_83
          · have hf := oif_t c10 hf
            refine lv_ldc (v := (-1000002)) hx hb hown hc189 dX3_without_53 ?_
            obtain rfl := Option.some.inj hf
            exact W.iret (v := (-1000002)) hx hb hr (fun t ht hW => ⟨⟨(-1000002), (), rfl, rfl, by rw [ht]; exact hP, hD⟩, hS.F ht⟩) hS.2.2 dX3_without_55
        · have hf := oif_t c8 hf
          refine lv_ldc (v := (-1000001)) hx hb hown hc84 dX3_without_37 ?_
          obtain rfl := Option.some.inj hf
          exact W.iret (v := (-1000001)) hx hb hr (fun t ht hW => ⟨⟨(-1000001), (), rfl, rfl, by rw [ht]; exact hP, hD⟩, hS.F ht⟩) hS.2.2 dX3_without_39
def fX3_leastLoad_105 (k59 : BX3 → BX0 → BX0 → BX1 → Int32 → Int32 → Int32 → Int32 → Int32 → Option (Int32 × BX0 × BX1)) (vX : BX3) (vA : BX0) (vB : BX0) (vT : BX1) (x1 : Int32) (x2 : Int32) (x3 : Int32) (x4 : Int32) (x5 : Int32) : Option (Int32 × BX0 × BX1) :=
  elet (x5 + 1) (fun z7 => k59 vX vA vB vT x1 x2 x3 x4 z7)
def fX3_leastLoad_111 (vX : BX3) (vA : BX0) (vB : BX0) (vT : BX1) (x4 : Int32) : Option (Int32 × BX0 × BX1) :=
  some ((x4 + (1000 : Int32)), vB, vT)
def fX3_leastLoad_59_b (k59 : BX3 → BX0 → BX0 → BX1 → Int32 → Int32 → Int32 → Int32 → Int32 → Option (Int32 × BX0 × BX1)) (vX : BX3) (vA : BX0) (vB : BX0) (vT : BX1) (x1 : Int32) (x2 : Int32) (x3 : Int32) (x4 : Int32) (x5 : Int32) : Option (Int32 × BX0 × BX1) :=
  if (20 : Int32) ≤ x5 then (fX3_leastLoad_111 vX vA vB vT x4) else (if x4 ≤ x3 then (fX3_leastLoad_111 vX vA vB vT x4) else ((fJ9_floorDiv_7cf53 (x3 + x4) (2 : Int32)).bind (fun y3 => (fX3_trialReaches vX vB vT x1 y3 x2).bind (fun y4 => if y4.1 = 0 then (elet (y3 + (1 : Int32)) (fun z6 => fX3_leastLoad_105 k59 vX vA y4.2.1 y4.2.2 x1 x2 z6 x4 x5)) else (fX3_leastLoad_105 k59 vX vA y4.2.1 y4.2.2 x1 x2 x3 y3 x5)))))
def fX3_leastLoad_59 : Nat → BX3 → BX0 → BX0 → BX1 → Int32 → Int32 → Int32 → Int32 → Int32 → Option (Int32 × BX0 × BX1)
  | 0 => fun _ _ _ _ _ _ _ _ _ => none
  | n + 1 => fX3_leastLoad_59_b (fX3_leastLoad_59 n)
def fX3_leastLoad (vX : BX3) (vA : BX0) (vB : BX0) (vT : BX1) (i1 : Int32) (i2 : Int32) : Option (Int32 × BX0 × BX1) :=
  (fX0_hasPlate vA i1).bind (fun y8 => if y8 = 0 then (some ((-1000001), vB, vT)) else (if i2 < 0 then (some ((-1000001), vB, vT)) else (if i2 ≤ (99 : Int32) then ((fX0_copyFrom vB vA).bind (fun y12 => (fX3_trialReaches vX y12 vT i1 (99 : Int32) i2).bind (fun y13 => if y13.1 = 0 then (some ((-1000004), y13.2.1, y13.2.2)) else (fX3_leastLoad_59 FU vX vA y13.2.1 y13.2.2 i1 i2 (-99 : Int32) (99 : Int32) (0 : Int32))))) else (some ((-1000001), vB, vT)))))
set_option maxHeartbeats 8000000 in
set_option maxRecDepth 100000 in
theorem mX3_leastLoad (l : Launch) (dC : Nat → ClassId) (dI : Nat → Nat → Nat) (cI cJ : ClassId) (a : Nat → Nat) (aA : Nat → Nat) (aB : Nat → Nat) (aR : Nat → Nat) (aT : Nat → Nat) (aS : Nat → Nat) (sz : Nat) (vX : BX3) (vA : BX0) (vB : BX0) (vT : BX1) (i1 : Int32) (i2 : Int32) (y : (Int32 × BX0 × BX1)) (hf : fX3_leastLoad vX vA vB vT i1 i2 = some y) : Met l yX3_leastLoad wsX3_leastLoad ({ frames := 6, cells := 0, slots := 0, locals := 144 }) (cPc dC dI cI cJ [.ref (a 0), .int i1, .int i2] [k3_0 a aA aB aR aT aS vX, k0_0 aA vA, k0_1 cI aA vA, k0_2 cI aA vA, k0_3 cI aA vA, k0_4 cI aA vA, k0_0 aB vB, k0_1 cI aB vB, k0_2 cI aB vB, k0_3 cI aB vB, k0_4 cI aB vB, k1_0 aT vT, k1_1 cJ aT vT, k1_2 cI aT vT, k1_3 cI aT vT, k1_4 cI aT vT, k1_5 cJ aT vT, k1_6 cJ aT vT, k1_7 cJ aT vT, k1_8 cJ aT vT, k1_9 cJ aT vT] sz) (va_Qi (fun r (_ : Unit) => r = y.1) (fun _ t => cB dC dI (va_A [k3_0 a aA aB aR aT aS vX, k0_0 aA vA, k0_1 cI aA vA, k0_2 cI aA vA, k0_3 cI aA vA, k0_4 cI aA vA, k0_0 aB vB, k0_1 cI aB vB, k0_2 cI aB vB, k0_3 cI aB vB, k0_4 cI aB vB, k1_0 aT vT, k1_1 cJ aT vT, k1_2 cI aT vT, k1_3 cI aT vT, k1_4 cI aT vT, k1_5 cJ aT vT, k1_6 cJ aT vT, k1_7 cJ aT vT, k1_8 cJ aT vT, k1_9 cJ aT vT] sz) [k3_0 a aA aB aR aT aS vX, k0_0 aA vA, k0_1 cI aA vA, k0_2 cI aA vA, k0_3 cI aA vA, k0_4 cI aA vA, k0_0 aB y.2.1, k0_1 cI aB y.2.1, k0_2 cI aB y.2.1, k0_3 cI aB y.2.1, k0_4 cI aB y.2.1, k1_0 aT y.2.2, k1_1 cJ aT y.2.2, k1_2 cI aT y.2.2, k1_3 cI aT y.2.2, k1_4 cI aT y.2.2, k1_5 cJ aT y.2.2, k1_6 cJ aT y.2.2, k1_7 cJ aT y.2.2, k1_8 cJ aT y.2.2, k1_9 cJ aT y.2.2] t) (va_A [k3_0 a aA aB aR aT aS vX, k0_0 aA vA, k0_1 cI aA vA, k0_2 cI aA vA, k0_3 cI aA vA, k0_4 cI aA vA, k0_0 aB vB, k0_1 cI aB vB, k0_2 cI aB vB, k0_3 cI aB vB, k0_4 cI aB vB, k1_0 aT vT, k1_1 cJ aT vT, k1_2 cI aT vT, k1_3 cI aT vT, k1_4 cI aT vT, k1_5 cJ aT vT, k1_6 cJ aT vT, k1_7 cJ aT vT, k1_8 cJ aT vT, k1_9 cJ aT vT] sz)) 0 0 (va_A [k3_0 a aA aB aR aT aS vX, k0_0 aA vA, k0_1 cI aA vA, k0_2 cI aA vA, k0_3 cI aA vA, k0_4 cI aA vA, k0_0 aB vB, k0_1 cI aB vB, k0_2 cI aB vB, k0_3 cI aB vB, k0_4 cI aB vB, k1_0 aT vT, k1_1 cJ aT vT, k1_2 cI aT vT, k1_3 cI aT vT, k1_4 cI aT vT, k1_5 cJ aT vT, k1_6 cJ aT vT, k1_7 cJ aT vT, k1_8 cJ aT vT, k1_9 cJ aT vT] sz) := by
  refine Met.ofW (cc := cX3_leastLoad) (maxL := 7) (ret := (some .int)) (by decide) rfl ?_
  intro p e s m args below meth c s₁ B hml hv
  obtain ⟨rfl, hsz, hP, hK, hD0, hN⟩ := hv
  have hx := B.exec
  have hb := B.bytes
  have hr := B.returns
  have hts := atoms_spec (ws := wsX3_leastLoad) B.pre
  have hown : s.vm.findClass RX3 = some m.cls := findClass_of_methodNamed B.named
  have hlocks := B.notSynchronized
  subst hsz
  have hD := hD0.self (sz := s.heap.size)
  generalize hAe : va_A [k3_0 a aA aB aR aT aS vX, k0_0 aA vA, k0_1 cI aA vA, k0_2 cI aA vA, k0_3 cI aA vA, k0_4 cI aA vA, k0_0 aB vB, k0_1 cI aB vB, k0_2 cI aB vB, k0_3 cI aB vB, k0_4 cI aB vB, k1_0 aT vT, k1_1 cJ aT vT, k1_2 cI aT vT, k1_3 cI aT vT, k1_4 cI aT vT, k1_5 cJ aT vT, k1_6 cJ aT vT, k1_7 cJ aT vT, k1_8 cJ aT vT, k1_9 cJ aT vT] s.heap.size = A at hD hN ⊢
  have hA : ∀ q : Nat, s.heap.size ≤ q → A q := fun q h => by rw [← hAe]; exact Or.inr h
  have hP : va_P (dC, dI) vwCl [k3_0 a aA aB aR aT aS vX, k0_0 aA vA, k0_1 cI aA vA, k0_2 cI aA vA, k0_3 cI aA vA, k0_4 cI aA vA, k0_0 aB vB, k0_1 cI aB vB, k0_2 cI aB vB, k0_3 cI aB vB, k0_4 cI aB vB, k1_0 aT vT, k1_1 cJ aT vT, k1_2 cI aT vT, k1_3 cI aT vT, k1_4 cI aT vT, k1_5 cJ aT vT, k1_6 cJ aT vT, k1_7 cJ aT vT, k1_8 cJ aT vT, k1_9 cJ aT vT] s.heap := hP
  have hl := lv_entry ([.ref (a 0), .int i1, .int i2]) (n := 7) (Nat.le_of_ble_eq_true rfl)
  rw [lg_entry_eq]
  generalize (lg_sl ([.ref (a 0), .int i1, .int i2]) ++ List.replicate (7 - (lg_sl ([.ref (a 0), .int i1, .int i2])).length) Slot.unset).toArray = ls at hl ⊢
  have hl : lv_has ls 7 [(0, .ref (a 0)), (1, .int i1), (2, .int i2)] := hl
  have hiX3 : ∀ w ∈ u_ws RX3 TX3 8, w ∈ wsX3_leastLoad := by decide +kernel
  have hgX3_10 := hts (.fieldLink RX3 10 "SpringPlates" "laid" "LSpringPlates$Layout;") (by decide +kernel)
  have hc84 := hts (.constant RX3 84 (-1000001)) (by decide +kernel)
  have hgX3_16 := hts (.fieldLink RX3 16 "SpringPlates" "trial" "LSpringPlates$Layout;") (by decide +kernel)
  have hc101 := hts (.constant RX3 101 (-1000004)) (by decide +kernel)
  refine nameH (fun H locs hHe hLe => ?_)
  have hP : va_P (dC, dI) vwCl [k3_0 a aA aB aR aT aS vX, k0_0 aA vA, k0_1 cI aA vA, k0_2 cI aA vA, k0_3 cI aA vA, k0_4 cI aA vA, k0_0 aB vB, k0_1 cI aB vB, k0_2 cI aB vB, k0_3 cI aB vB, k0_4 cI aB vB, k1_0 aT vT, k1_1 cJ aT vT, k1_2 cI aT vT, k1_3 cI aT vT, k1_4 cI aT vT, k1_5 cJ aT vT, k1_6 cJ aT vT, k1_7 cJ aT vT, k1_8 cJ aT vT, k1_9 cJ aT vT] H := by rw [hHe]; exact hP
  have hS : va_S A s.heap H locs := by rw [hHe, hLe]; exact va_S.rf
  refine withW (fun WW hWW => ?_)
  have J105 : ∀ (k59 : BX3 → BX0 → BX0 → BX1 → Int32 → Int32 → Int32 → Int32 → Int32 → Option (Int32 × BX0 × BX1)) (hk59 : ∀ (vB : BX0) (vT : BX1) (x1 : Int32) (x2 : Int32) (x3 : Int32) (x4 : Int32) (x5 : Int32) (H : Heap) (locs : List Loc) (ls : Array Slot), va_P (dC, dI) vwCl [k3_0 a aA aB aR aT aS vX, k0_0 aA vA, k0_1 cI aA vA, k0_2 cI aA vA, k0_3 cI aA vA, k0_4 cI aA vA, k0_0 aB vB, k0_1 cI aB vB, k0_2 cI aB vB, k0_3 cI aB vB, k0_4 cI aB vB, k1_0 aT vT, k1_1 cJ aT vT, k1_2 cI aT vT, k1_3 cI aT vT, k1_4 cI aT vT, k1_5 cJ aT vT, k1_6 cJ aT vT, k1_7 cJ aT vT, k1_8 cJ aT vT, k1_9 cJ aT vT] H → va_D A [k3_0 a aA aB aR aT aS vX, k0_0 aA vA, k0_1 cI aA vA, k0_2 cI aA vA, k0_3 cI aA vA, k0_4 cI aA vA, k0_0 aB vB, k0_1 cI aB vB, k0_2 cI aB vB, k0_3 cI aB vB, k0_4 cI aB vB, k1_0 aT vT, k1_1 cJ aT vT, k1_2 cI aT vT, k1_3 cI aT vT, k1_4 cI aT vT, k1_5 cJ aT vT, k1_6 cJ aT vT, k1_7 cJ aT vT, k1_8 cJ aT vT, k1_9 cJ aT vT] → va_S A s.heap H locs → lv_has ls 7 [(0, .ref (a 0)), (1, .int x1), (2, .int x2), (3, .int x3), (4, .int x4), (5, .int x5)] → k59 vX vA vB vT x1 x2 x3 x4 x5 = some y → WW H locs 0 0 ls 59 []) (vB : BX0) (vT : BX1) (x1 : Int32) (x2 : Int32) (x3 : Int32) (x4 : Int32) (x5 : Int32) (H : Heap) (locs : List Loc) (ls : Array Slot), va_P (dC, dI) vwCl [k3_0 a aA aB aR aT aS vX, k0_0 aA vA, k0_1 cI aA vA, k0_2 cI aA vA, k0_3 cI aA vA, k0_4 cI aA vA, k0_0 aB vB, k0_1 cI aB vB, k0_2 cI aB vB, k0_3 cI aB vB, k0_4 cI aB vB, k1_0 aT vT, k1_1 cJ aT vT, k1_2 cI aT vT, k1_3 cI aT vT, k1_4 cI aT vT, k1_5 cJ aT vT, k1_6 cJ aT vT, k1_7 cJ aT vT, k1_8 cJ aT vT, k1_9 cJ aT vT] H → va_D A [k3_0 a aA aB aR aT aS vX, k0_0 aA vA, k0_1 cI aA vA, k0_2 cI aA vA, k0_3 cI aA vA, k0_4 cI aA vA, k0_0 aB vB, k0_1 cI aB vB, k0_2 cI aB vB, k0_3 cI aB vB, k0_4 cI aB vB, k1_0 aT vT, k1_1 cJ aT vT, k1_2 cI aT vT, k1_3 cI aT vT, k1_4 cI aT vT, k1_5 cJ aT vT, k1_6 cJ aT vT, k1_7 cJ aT vT, k1_8 cJ aT vT, k1_9 cJ aT vT] → va_S A s.heap H locs → lv_has ls 7 [(0, .ref (a 0)), (1, .int x1), (2, .int x2), (3, .int x3), (4, .int x4), (5, .int x5)] → fX3_leastLoad_105 k59 vX vA vB vT x1 x2 x3 x4 x5 = some y → WW H locs 0 0 ls 105 [] := by
    intro k59 hk59 vB vT x1 x2 x3 x4 x5 H locs ls hP hD hS hl hf
    unfold fX3_leastLoad_105 at hf
    refine (hWW _ _ _ _ _ _ _).2 ?_
    obtain ⟨z7, ez7, hf⟩ := elet_out hf
    refine lv_iinc (v := z7) (lv' := [(5, .int z7), (0, .ref (a 0)), (1, .int x1), (2, .int x2), (3, .int x3), (4, .int x4)]) hx hb dX3_leastLoad_105 hl (k := 5) rfl (by rw [ez7]; rfl) (by decide) rfl (fun ls hl => ?_)
    refine lv_goto (tgt := 59) hx hb dX3_leastLoad_108 (by decide) ?_
    exact (hWW _ _ _ _ _ _ _).1 (hk59 vB vT x1 x2 x3 x4 z7 H locs ls hP hD hS (lv_sub hl [1, 2, 3, 4, 5, 0] rfl) hf)
  have J111 : ∀ (vB : BX0) (vT : BX1) (x4 : Int32) (H : Heap) (locs : List Loc) (ls : Array Slot), va_P (dC, dI) vwCl [k3_0 a aA aB aR aT aS vX, k0_0 aA vA, k0_1 cI aA vA, k0_2 cI aA vA, k0_3 cI aA vA, k0_4 cI aA vA, k0_0 aB vB, k0_1 cI aB vB, k0_2 cI aB vB, k0_3 cI aB vB, k0_4 cI aB vB, k1_0 aT vT, k1_1 cJ aT vT, k1_2 cI aT vT, k1_3 cI aT vT, k1_4 cI aT vT, k1_5 cJ aT vT, k1_6 cJ aT vT, k1_7 cJ aT vT, k1_8 cJ aT vT, k1_9 cJ aT vT] H → va_D A [k3_0 a aA aB aR aT aS vX, k0_0 aA vA, k0_1 cI aA vA, k0_2 cI aA vA, k0_3 cI aA vA, k0_4 cI aA vA, k0_0 aB vB, k0_1 cI aB vB, k0_2 cI aB vB, k0_3 cI aB vB, k0_4 cI aB vB, k1_0 aT vT, k1_1 cJ aT vT, k1_2 cI aT vT, k1_3 cI aT vT, k1_4 cI aT vT, k1_5 cJ aT vT, k1_6 cJ aT vT, k1_7 cJ aT vT, k1_8 cJ aT vT, k1_9 cJ aT vT] → va_S A s.heap H locs → lv_has ls 7 [(4, .int x4)] → fX3_leastLoad_111 vX vA vB vT x4 = some y → WW H locs 0 0 ls 111 [] := by
    intro vB vT x4 H locs ls hP hD hS hl hf
    unfold fX3_leastLoad_111 at hf
    refine (hWW _ _ _ _ _ _ _).2 ?_
    refine lv_iload hx hb dX3_leastLoad_111 (lv_at hl 0 rfl) ?_
    refine lv_sipush (v := 1000) hx hb dX3_leastLoad_113 (by decide) ?_
    refine lv_iadd hx hb dX3_leastLoad_116 ?_
    obtain rfl := Option.some.inj hf
    exact W.iret (v := (x4 + (1000 : Int32))) hx hb hr (fun t ht hW => ⟨⟨(x4 + (1000 : Int32)), (), rfl, rfl, by rw [ht]; exact hP, hD⟩, hS.F ht⟩) hS.2.2 dX3_leastLoad_117
  have L59 : ∀ (n : Nat) (vB : BX0) (vT : BX1) (x1 : Int32) (x2 : Int32) (x3 : Int32) (x4 : Int32) (x5 : Int32) (H : Heap) (locs : List Loc) (ls : Array Slot), va_P (dC, dI) vwCl [k3_0 a aA aB aR aT aS vX, k0_0 aA vA, k0_1 cI aA vA, k0_2 cI aA vA, k0_3 cI aA vA, k0_4 cI aA vA, k0_0 aB vB, k0_1 cI aB vB, k0_2 cI aB vB, k0_3 cI aB vB, k0_4 cI aB vB, k1_0 aT vT, k1_1 cJ aT vT, k1_2 cI aT vT, k1_3 cI aT vT, k1_4 cI aT vT, k1_5 cJ aT vT, k1_6 cJ aT vT, k1_7 cJ aT vT, k1_8 cJ aT vT, k1_9 cJ aT vT] H → va_D A [k3_0 a aA aB aR aT aS vX, k0_0 aA vA, k0_1 cI aA vA, k0_2 cI aA vA, k0_3 cI aA vA, k0_4 cI aA vA, k0_0 aB vB, k0_1 cI aB vB, k0_2 cI aB vB, k0_3 cI aB vB, k0_4 cI aB vB, k1_0 aT vT, k1_1 cJ aT vT, k1_2 cI aT vT, k1_3 cI aT vT, k1_4 cI aT vT, k1_5 cJ aT vT, k1_6 cJ aT vT, k1_7 cJ aT vT, k1_8 cJ aT vT, k1_9 cJ aT vT] → va_S A s.heap H locs → lv_has ls 7 [(0, .ref (a 0)), (1, .int x1), (2, .int x2), (3, .int x3), (4, .int x4), (5, .int x5)] → fX3_leastLoad_59 n vX vA vB vT x1 x2 x3 x4 x5 = some y → WW H locs 0 0 ls 59 [] := by
    intro n
    induction n with
    | zero =>
      intro vB vT x1 x2 x3 x4 x5 H locs ls hP hD hS hl hf
      exact onone hf
    | succ n ih =>
      intro vB vT x1 x2 x3 x4 x5 H locs ls hP hD hS hl hf
      have hf : fX3_leastLoad_59_b (fX3_leastLoad_59 n) vX vA vB vT x1 x2 x3 x4 x5 = some y := hf
      generalize fX3_leastLoad_59 n = k59 at hf ih
      have hk59 := ih
      clear ih
      unfold fX3_leastLoad_59_b at hf
      refine (hWW _ _ _ _ _ _ _).2 ?_
      refine lv_iload hx hb dX3_leastLoad_59 (lv_at hl 5 rfl) ?_
      refine lv_bipush (v := 20) hx hb dX3_leastLoad_61 (by decide) ?_
      refine lv_icmp_ge (tgt := 111) hx hb dX3_leastLoad_63 (by decide) (fun c1 => ?_) (fun c1 => ?_)
      · have hf := oif_t c1 hf
        exact (hWW _ _ _ _ _ _ _).1 (J111 vB vT x4 H locs ls hP hD hS (lv_sub hl [4] rfl) hf)
      · have hf := oif_f c1 hf
        refine lv_iload_n hx hb dX3_leastLoad_66 rfl (lv_at hl 3 rfl) ?_
        refine lv_iload hx hb dX3_leastLoad_67 (lv_at hl 4 rfl) ?_
        refine lv_icmp_ge (tgt := 111) hx hb dX3_leastLoad_69 (by decide) (fun c2 => ?_) (fun c2 => ?_)
        · have hf := oif_t c2 hf
          exact (hWW _ _ _ _ _ _ _).1 (J111 vB vT x4 H locs ls hP hD hS (lv_sub hl [4] rfl) hf)
        · have hf := oif_f c2 hf
          refine lv_iload_n hx hb dX3_leastLoad_72 rfl (lv_at hl 3 rfl) ?_
          refine lv_iload hx hb dX3_leastLoad_73 (lv_at hl 4 rfl) ?_
          refine lv_iadd hx hb dX3_leastLoad_75 ?_
          refine lv_iconst (v := 2) hx hb dX3_leastLoad_76 (by decide) ?_
          obtain ⟨y3, hy3, hf⟩ := obind hf
          refine cg_i (ws := [k3_0 a aA aB aR aT aS vX, k0_0 aA vA, k0_1 cI aA vA, k0_2 cI aA vA, k0_3 cI aA vA, k0_4 cI aA vA, k0_0 aB vB, k0_1 cI aB vB, k0_2 cI aB vB, k0_3 cI aB vB, k0_4 cI aB vB, k1_0 aT vT, k1_1 cJ aT vT, k1_2 cI aT vT, k1_3 cI aT vT, k1_4 cI aT vT, k1_5 cJ aT vT, k1_6 cJ aT vT, k1_7 cJ aT vT, k1_8 cJ aT vT, k1_9 cJ aT vT]) (wc := []) (wr := [k3_0 a aA aB aR aT aS vX, k0_0 aA vA, k0_1 cI aA vA, k0_2 cI aA vA, k0_3 cI aA vA, k0_4 cI aA vA, k0_0 aB vB, k0_1 cI aB vB, k0_2 cI aB vB, k0_3 cI aB vB, k0_4 cI aB vB, k1_0 aT vT, k1_1 cJ aT vT, k1_2 cI aT vT, k1_3 cI aT vT, k1_4 cI aT vT, k1_5 cJ aT vT, k1_6 cJ aT vT, k1_7 cJ aT vT, k1_8 cJ aT vT, k1_9 cJ aT vT]) (w1 := []) (wo := [k3_0 a aA aB aR aT aS vX, k0_0 aA vA, k0_1 cI aA vA, k0_2 cI aA vA, k0_3 cI aA vA, k0_4 cI aA vA, k0_0 aB vB, k0_1 cI aB vB, k0_2 cI aB vB, k0_3 cI aB vB, k0_4 cI aB vB, k1_0 aT vT, k1_1 cJ aT vT, k1_2 cI aT vT, k1_3 cI aT vT, k1_4 cI aT vT, k1_5 cJ aT vT, k1_6 cJ aT vT, k1_7 cJ aT vT, k1_8 cJ aT vT, k1_9 cJ aT vT]) hP hD hS hA (va_runS (As := [.int (x3 + x4), .int 2]) (rest := []) ⟨hx, hb, hml, hown, hts⟩ (mJ9_floorDiv_7cf53 l dC dI cI cJ H.size (x3 + x4) 2 y3 hy3) (va_cwS 2 hts gX3_leastLoad_J9_floorDiv_7cf53 rfl rfl rfl (by decide +kernel) ⟨Nat.le_of_ble_eq_true rfl, Nat.le_of_ble_eq_true rfl⟩) ⟨cFB, cPre hK hN hS (va_free (wc := []) hD hS hA [] rfl) (hP.sub [] rfl) (hD.sub [] rfl rfl)⟩ rfl rfl hl.1 rfl (lv_room (Nat.le_of_ble_eq_true rfl)) dX3_leastLoad_77 ⟨Nat.le_of_ble_eq_true rfl, Nat.le_of_ble_eq_true rfl⟩) [] [0, 1, 2, 3, 4, 5, 6, 7, 8, 9, 10, 11, 12, 13, 14, 15, 16, 17, 18, 19, 20] [0, 1, 2, 3, 4, 5, 6, 7, 8, 9, 10, 11, 12, 13, 14, 15, 16, 17, 18, 19, 20] rfl rfl rfl (by decide +kernel) rfl rfl (fun H locs hP hD hS => ?_)
          refine lv_istore (lv' := [(6, .int y3), (0, .ref (a 0)), (1, .int x1), (2, .int x2), (3, .int x3), (4, .int x4), (5, .int x5)]) hx hb dX3_leastLoad_80 hl (by decide) rfl (fun ls hl => ?_)
          refine lv_aload_n hx hb dX3_leastLoad_82 rfl (lv_at hl 1 rfl) ?_
          refine lv_iload_n hx hb dX3_leastLoad_83 rfl (lv_at hl 2 rfl) ?_
          refine lv_iload hx hb dX3_leastLoad_84 (lv_at hl 0 rfl) ?_
          refine lv_iload_n hx hb dX3_leastLoad_86 rfl (lv_at hl 3 rfl) ?_
          obtain ⟨y4, hy4, hf⟩ := obind hf
          refine cg_i (ws := [k3_0 a aA aB aR aT aS vX, k0_0 aA vA, k0_1 cI aA vA, k0_2 cI aA vA, k0_3 cI aA vA, k0_4 cI aA vA, k0_0 aB vB, k0_1 cI aB vB, k0_2 cI aB vB, k0_3 cI aB vB, k0_4 cI aB vB, k1_0 aT vT, k1_1 cJ aT vT, k1_2 cI aT vT, k1_3 cI aT vT, k1_4 cI aT vT, k1_5 cJ aT vT, k1_6 cJ aT vT, k1_7 cJ aT vT, k1_8 cJ aT vT, k1_9 cJ aT vT]) (wc := [k3_0 a aA aB aR aT aS vX, k0_0 aB vB, k0_1 cI aB vB, k0_2 cI aB vB, k0_3 cI aB vB, k0_4 cI aB vB, k1_0 aT vT, k1_1 cJ aT vT, k1_2 cI aT vT, k1_3 cI aT vT, k1_4 cI aT vT, k1_5 cJ aT vT, k1_6 cJ aT vT, k1_7 cJ aT vT, k1_8 cJ aT vT, k1_9 cJ aT vT]) (wr := [k0_0 aA vA, k0_1 cI aA vA, k0_2 cI aA vA, k0_3 cI aA vA, k0_4 cI aA vA]) (w1 := [k3_0 a aA aB aR aT aS vX, k0_0 aB y4.2.1, k0_1 cI aB y4.2.1, k0_2 cI aB y4.2.1, k0_3 cI aB y4.2.1, k0_4 cI aB y4.2.1, k1_0 aT y4.2.2, k1_1 cJ aT y4.2.2, k1_2 cI aT y4.2.2, k1_3 cI aT y4.2.2, k1_4 cI aT y4.2.2, k1_5 cJ aT y4.2.2, k1_6 cJ aT y4.2.2, k1_7 cJ aT y4.2.2, k1_8 cJ aT y4.2.2, k1_9 cJ aT y4.2.2]) (wo := [k3_0 a aA aB aR aT aS vX, k0_0 aA vA, k0_1 cI aA vA, k0_2 cI aA vA, k0_3 cI aA vA, k0_4 cI aA vA, k0_0 aB y4.2.1, k0_1 cI aB y4.2.1, k0_2 cI aB y4.2.1, k0_3 cI aB y4.2.1, k0_4 cI aB y4.2.1, k1_0 aT y4.2.2, k1_1 cJ aT y4.2.2, k1_2 cI aT y4.2.2, k1_3 cI aT y4.2.2, k1_4 cI aT y4.2.2, k1_5 cJ aT y4.2.2, k1_6 cJ aT y4.2.2, k1_7 cJ aT y4.2.2, k1_8 cJ aT y4.2.2, k1_9 cJ aT y4.2.2]) hP hD hS hA (va_runV (As := [.int x1, .int y3, .int x2]) (rest := []) ⟨hx, hb, hml, hown, hts⟩ (mX3_trialReaches l dC dI cI cJ a aA aB aR aT aS H.size vX vB vT x1 y3 x2 y4 hy4) (cwV 3 hts gX3_leastLoad_X3_trialReaches rfl rfl rfl (by decide +kernel) ⟨Nat.le_of_ble_eq_true rfl, Nat.le_of_ble_eq_true rfl⟩) ⟨cFB, va_recv hK hP (ci := 3) (q0 := 0) rfl rfl, cPre hK hN hS (va_free (wc := [k3_0 a aA aB aR aT aS vX, k0_0 aB vB, k0_1 cI aB vB, k0_2 cI aB vB, k0_3 cI aB vB, k0_4 cI aB vB, k1_0 aT vT, k1_1 cJ aT vT, k1_2 cI aT vT, k1_3 cI aT vT, k1_4 cI aT vT, k1_5 cJ aT vT, k1_6 cJ aT vT, k1_7 cJ aT vT, k1_8 cJ aT vT, k1_9 cJ aT vT]) hD hS hA [0, 6, 7, 8, 9, 10, 11, 12, 13, 14, 15, 16, 17, 18, 19, 20] rfl) (hP.sub [0, 6, 7, 8, 9, 10, 11, 12, 13, 14, 15, 16, 17, 18, 19, 20] rfl) (hD.sub [0, 6, 7, 8, 9, 10, 11, 12, 13, 14, 15, 16, 17, 18, 19, 20] rfl rfl)⟩ rfl rfl hl.1 rfl (lv_room (Nat.le_of_ble_eq_true rfl)) dX3_leastLoad_87 ⟨Nat.le_of_ble_eq_true rfl, Nat.le_of_ble_eq_true rfl⟩) [0, 6, 7, 8, 9, 10, 11, 12, 13, 14, 15, 16, 17, 18, 19, 20] [1, 2, 3, 4, 5] [5, 0, 1, 2, 3, 4, 6, 7, 8, 9, 10, 11, 12, 13, 14, 15, 16, 17, 18, 19, 20] rfl rfl rfl (by decide +kernel) rfl rfl (fun H locs hP hD hS => ?_)
          refine lv_if_eq (tgt := 100) hx hb dX3_leastLoad_90 (by decide) (fun c5 => ?_) (fun c5 => ?_)
          · have hf := oif_t c5 hf
            refine lv_iload hx hb dX3_leastLoad_100 (lv_at hl 0 rfl) ?_
            refine lv_iconst (v := 1) hx hb dX3_leastLoad_102 (by decide) ?_
            refine lv_iadd hx hb dX3_leastLoad_103 ?_
            obtain ⟨z6, ez6, hf⟩ := elet_out hf
            refine lvn_i ez6 ?_
            refine lv_istore_n (lv' := [(3, .int z6), (6, .int y3), (0, .ref (a 0)), (1, .int x1), (2, .int x2), (4, .int x4), (5, .int x5)]) hx hb dX3_leastLoad_104 rfl hl (by decide) rfl (fun ls hl => ?_)
            exact (hWW _ _ _ _ _ _ _).1 (J105 k59 hk59 y4.2.1 y4.2.2 x1 x2 z6 x4 x5 H locs ls hP hD hS (lv_sub hl [2, 3, 4, 0, 5, 6] rfl) hf)
          · have hf := oif_f c5 hf
            refine lv_iload hx hb dX3_leastLoad_93 (lv_at hl 0 rfl) ?_
            refine lv_istore (lv' := [(4, .int y3), (6, .int y3), (0, .ref (a 0)), (1, .int x1), (2, .int x2), (3, .int x3), (5, .int x5)]) hx hb dX3_leastLoad_95 hl (by decide) rfl (fun ls hl => ?_)
            refine lv_goto (tgt := 105) hx hb dX3_leastLoad_97 (by decide) ?_
            exact (hWW _ _ _ _ _ _ _).1 (J105 k59 hk59 y4.2.1 y4.2.2 x1 x2 x3 y3 x5 H locs ls hP hD hS (lv_sub hl [2, 3, 4, 5, 0, 6] rfl) hf)
  refine (hWW _ _ _ _ _ _ _).2 ?_
  unfold fX3_leastLoad at hf
  refine lv_aload_n hx hb dX3_leastLoad_0 rfl (lv_at hl 0 rfl) ?_
  refine va_get (D := (dC, dI)) (ci := 3) (v := .ref (aA 0)) (C := RX3) (T := TX3) (N := 8) hx hb hts hiX3 hown hK hP 0 rfl rfl 0 (by decide) hgX3_10 (fun _ h9 => h9) rfl dX3_leastLoad_1 ?_
  refine lv_iload_n hx hb dX3_leastLoad_4 rfl (lv_at hl 1 rfl) ?_
  obtain ⟨y8, hy8, hf⟩ := obind hf
  refine cg_i (ws := [k3_0 a aA aB aR aT aS vX, k0_0 aA vA, k0_1 cI aA vA, k0_2 cI aA vA, k0_3 cI aA vA, k0_4 cI aA vA, k0_0 aB vB, k0_1 cI aB vB, k0_2 cI aB vB, k0_3 cI aB vB, k0_4 cI aB vB, k1_0 aT vT, k1_1 cJ aT vT, k1_2 cI aT vT, k1_3 cI aT vT, k1_4 cI aT vT, k1_5 cJ aT vT, k1_6 cJ aT vT, k1_7 cJ aT vT, k1_8 cJ aT vT, k1_9 cJ aT vT]) (wc := [k0_0 aA vA, k0_1 cI aA vA, k0_2 cI aA vA, k0_3 cI aA vA, k0_4 cI aA vA]) (wr := [k3_0 a aA aB aR aT aS vX, k0_0 aB vB, k0_1 cI aB vB, k0_2 cI aB vB, k0_3 cI aB vB, k0_4 cI aB vB, k1_0 aT vT, k1_1 cJ aT vT, k1_2 cI aT vT, k1_3 cI aT vT, k1_4 cI aT vT, k1_5 cJ aT vT, k1_6 cJ aT vT, k1_7 cJ aT vT, k1_8 cJ aT vT, k1_9 cJ aT vT]) (w1 := [k0_0 aA vA, k0_1 cI aA vA, k0_2 cI aA vA, k0_3 cI aA vA, k0_4 cI aA vA]) (wo := [k3_0 a aA aB aR aT aS vX, k0_0 aA vA, k0_1 cI aA vA, k0_2 cI aA vA, k0_3 cI aA vA, k0_4 cI aA vA, k0_0 aB vB, k0_1 cI aB vB, k0_2 cI aB vB, k0_3 cI aB vB, k0_4 cI aB vB, k1_0 aT vT, k1_1 cJ aT vT, k1_2 cI aT vT, k1_3 cI aT vT, k1_4 cI aT vT, k1_5 cJ aT vT, k1_6 cJ aT vT, k1_7 cJ aT vT, k1_8 cJ aT vT, k1_9 cJ aT vT]) hP hD hS hA (va_runV (As := [.int i1]) (rest := []) ⟨hx, hb, hml, hown, hts⟩ (mX0_hasPlate l dC dI cI cJ aA H.size vA i1 y8 hy8) (cwV 1 hts gX3_leastLoad_X0_hasPlate rfl rfl rfl (by decide +kernel) ⟨Nat.le_of_ble_eq_true rfl, Nat.le_of_ble_eq_true rfl⟩) ⟨cFB, va_recv hK hP (ci := 0) (q0 := 1) rfl rfl, cPre hK hN hS (va_free (wc := [k0_0 aA vA, k0_1 cI aA vA, k0_2 cI aA vA, k0_3 cI aA vA, k0_4 cI aA vA]) hD hS hA [1, 2, 3, 4, 5] rfl) (hP.sub [1, 2, 3, 4, 5] rfl) (hD.sub [1, 2, 3, 4, 5] rfl rfl)⟩ rfl rfl hl.1 rfl (lv_room (Nat.le_of_ble_eq_true rfl)) dX3_leastLoad_5 ⟨Nat.le_of_ble_eq_true rfl, Nat.le_of_ble_eq_true rfl⟩) [1, 2, 3, 4, 5] [0, 6, 7, 8, 9, 10, 11, 12, 13, 14, 15, 16, 17, 18, 19, 20] [0, 16, 17, 18, 19, 20, 1, 2, 3, 4, 5, 6, 7, 8, 9, 10, 11, 12, 13, 14, 15] rfl rfl rfl (by decide +kernel) rfl rfl (fun H locs hP hD hS => ?_)
  refine lv_if_eq (tgt := 21) hx hb dX3_leastLoad_8 (by decide) (fun c9 => ?_) (fun c9 => ?_)
  · have hf := oif_t c9 hf
    refine lv_ldc (v := (-1000001)) hx hb hown hc84 dX3_leastLoad_21 ?_
    obtain rfl := Option.some.inj hf
    exact W.iret (v := (-1000001)) hx hb hr (fun t ht hW => ⟨⟨(-1000001), (), rfl, rfl, by rw [ht]; exact hP, hD⟩, hS.F ht⟩) hS.2.2 dX3_leastLoad_23
  · have hf := oif_f c9 hf
    refine lv_iload_n hx hb dX3_leastLoad_11 rfl (lv_at hl 2 rfl) ?_
    refine lv_if_lt (tgt := 21) hx hb dX3_leastLoad_12 (by decide) (fun c10 => ?_) (fun c10 => ?_)
    · have hf := oif_t c10 hf
      refine lv_ldc (v := (-1000001)) hx hb hown hc84 dX3_leastLoad_21 ?_
      obtain rfl := Option.some.inj hf
      exact W.iret (v := (-1000001)) hx hb hr (fun t ht hW => ⟨⟨(-1000001), (), rfl, rfl, by rw [ht]; exact hP, hD⟩, hS.F ht⟩) hS.2.2 dX3_leastLoad_23
    · have hf := oif_f c10 hf
      refine lv_iload_n hx hb dX3_leastLoad_15 rfl (lv_at hl 2 rfl) ?_
      refine lv_bipush (v := 99) hx hb dX3_leastLoad_16 (by decide) ?_
      refine lv_icmp_le (tgt := 24) hx hb dX3_leastLoad_18 (by decide) (fun c11 => ?_) (fun c11 => ?_)
      · have hf := oif_t c11 hf
        refine lv_aload_n hx hb dX3_leastLoad_24 rfl (lv_at hl 0 rfl) ?_
        refine va_get (D := (dC, dI)) (ci := 3) (v := .ref (aB 0)) (C := RX3) (T := TX3) (N := 8) hx hb hts hiX3 hown hK hP 0 rfl rfl 1 (by decide) hgX3_16 (fun _ h9 => h9) rfl dX3_leastLoad_25 ?_
        refine lv_aload_n hx hb dX3_leastLoad_28 rfl (lv_at hl 0 rfl) ?_
        refine va_get (D := (dC, dI)) (ci := 3) (v := .ref (aA 0)) (C := RX3) (T := TX3) (N := 8) hx hb hts hiX3 hown hK hP 0 rfl rfl 0 (by decide) hgX3_10 (fun _ h9 => h9) rfl dX3_leastLoad_29 ?_
        obtain ⟨y12, hy12, hf⟩ := obind hf
        refine cg_v (ws := [k3_0 a aA aB aR aT aS vX, k0_0 aA vA, k0_1 cI aA vA, k0_2 cI aA vA, k0_3 cI aA vA, k0_4 cI aA vA, k0_0 aB vB, k0_1 cI aB vB, k0_2 cI aB vB, k0_3 cI aB vB, k0_4 cI aB vB, k1_0 aT vT, k1_1 cJ aT vT, k1_2 cI aT vT, k1_3 cI aT vT, k1_4 cI aT vT, k1_5 cJ aT vT, k1_6 cJ aT vT, k1_7 cJ aT vT, k1_8 cJ aT vT, k1_9 cJ aT vT]) (wc := [k0_0 aB vB, k0_1 cI aB vB, k0_2 cI aB vB, k0_3 cI aB vB, k0_4 cI aB vB, k0_0 aA vA, k0_1 cI aA vA, k0_2 cI aA vA, k0_3 cI aA vA, k0_4 cI aA vA]) (wr := [k3_0 a aA aB aR aT aS vX, k1_0 aT vT, k1_1 cJ aT vT, k1_2 cI aT vT, k1_3 cI aT vT, k1_4 cI aT vT, k1_5 cJ aT vT, k1_6 cJ aT vT, k1_7 cJ aT vT, k1_8 cJ aT vT, k1_9 cJ aT vT]) (w1 := [k0_0 aB y12, k0_1 cI aB y12, k0_2 cI aB y12, k0_3 cI aB y12, k0_4 cI aB y12, k0_0 aA vA, k0_1 cI aA vA, k0_2 cI aA vA, k0_3 cI aA vA, k0_4 cI aA vA]) (wo := [k3_0 a aA aB aR aT aS vX, k0_0 aA vA, k0_1 cI aA vA, k0_2 cI aA vA, k0_3 cI aA vA, k0_4 cI aA vA, k0_0 aB y12, k0_1 cI aB y12, k0_2 cI aB y12, k0_3 cI aB y12, k0_4 cI aB y12, k1_0 aT vT, k1_1 cJ aT vT, k1_2 cI aT vT, k1_3 cI aT vT, k1_4 cI aT vT, k1_5 cJ aT vT, k1_6 cJ aT vT, k1_7 cJ aT vT, k1_8 cJ aT vT, k1_9 cJ aT vT]) hP hD hS hA (va_runV (As := [.ref (aA 0)]) (rest := []) ⟨hx, hb, hml, hown, hts⟩ (mX0_copyFrom l dC dI cI cJ aB aA H.size vB vA y12 hy12) (cwV 1 hts gX3_leastLoad_X0_copyFrom rfl rfl rfl (by decide +kernel) ⟨Nat.le_of_ble_eq_true rfl, Nat.le_of_ble_eq_true rfl⟩) ⟨cFB, va_recv hK hP (ci := 0) (q0 := 6) rfl rfl, cPre hK hN hS (va_free (wc := [k0_0 aB vB, k0_1 cI aB vB, k0_2 cI aB vB, k0_3 cI aB vB, k0_4 cI aB vB, k0_0 aA vA, k0_1 cI aA vA, k0_2 cI aA vA, k0_3 cI aA vA, k0_4 cI aA vA]) hD hS hA [6, 7, 8, 9, 10, 1, 2, 3, 4, 5] rfl) (hP.sub [6, 7, 8, 9, 10, 1, 2, 3, 4, 5] rfl) (hD.sub [6, 7, 8, 9, 10, 1, 2, 3, 4, 5] rfl rfl)⟩ rfl rfl hl.1 rfl (lv_room (Nat.le_of_ble_eq_true rfl)) dX3_leastLoad_32 ⟨Nat.le_of_ble_eq_true rfl, Nat.le_of_ble_eq_true rfl⟩) [6, 7, 8, 9, 10, 1, 2, 3, 4, 5] [0, 11, 12, 13, 14, 15, 16, 17, 18, 19, 20] [0, 16, 17, 18, 19, 20, 11, 12, 13, 14, 15, 1, 2, 3, 4, 5, 6, 7, 8, 9, 10] rfl rfl rfl (by decide +kernel) rfl rfl (fun H locs hP hD hS => ?_)
        refine lv_aload_n hx hb dX3_leastLoad_35 rfl (lv_at hl 0 rfl) ?_
        refine lv_iload_n hx hb dX3_leastLoad_36 rfl (lv_at hl 1 rfl) ?_
        refine lv_bipush (v := 99) hx hb dX3_leastLoad_37 (by decide) ?_
        refine lv_iload_n hx hb dX3_leastLoad_39 rfl (lv_at hl 2 rfl) ?_
        obtain ⟨y13, hy13, hf⟩ := obind hf
        refine cg_i (ws := [k3_0 a aA aB aR aT aS vX, k0_0 aA vA, k0_1 cI aA vA, k0_2 cI aA vA, k0_3 cI aA vA, k0_4 cI aA vA, k0_0 aB y12, k0_1 cI aB y12, k0_2 cI aB y12, k0_3 cI aB y12, k0_4 cI aB y12, k1_0 aT vT, k1_1 cJ aT vT, k1_2 cI aT vT, k1_3 cI aT vT, k1_4 cI aT vT, k1_5 cJ aT vT, k1_6 cJ aT vT, k1_7 cJ aT vT, k1_8 cJ aT vT, k1_9 cJ aT vT]) (wc := [k3_0 a aA aB aR aT aS vX, k0_0 aB y12, k0_1 cI aB y12, k0_2 cI aB y12, k0_3 cI aB y12, k0_4 cI aB y12, k1_0 aT vT, k1_1 cJ aT vT, k1_2 cI aT vT, k1_3 cI aT vT, k1_4 cI aT vT, k1_5 cJ aT vT, k1_6 cJ aT vT, k1_7 cJ aT vT, k1_8 cJ aT vT, k1_9 cJ aT vT]) (wr := [k0_0 aA vA, k0_1 cI aA vA, k0_2 cI aA vA, k0_3 cI aA vA, k0_4 cI aA vA]) (w1 := [k3_0 a aA aB aR aT aS vX, k0_0 aB y13.2.1, k0_1 cI aB y13.2.1, k0_2 cI aB y13.2.1, k0_3 cI aB y13.2.1, k0_4 cI aB y13.2.1, k1_0 aT y13.2.2, k1_1 cJ aT y13.2.2, k1_2 cI aT y13.2.2, k1_3 cI aT y13.2.2, k1_4 cI aT y13.2.2, k1_5 cJ aT y13.2.2, k1_6 cJ aT y13.2.2, k1_7 cJ aT y13.2.2, k1_8 cJ aT y13.2.2, k1_9 cJ aT y13.2.2]) (wo := [k3_0 a aA aB aR aT aS vX, k0_0 aA vA, k0_1 cI aA vA, k0_2 cI aA vA, k0_3 cI aA vA, k0_4 cI aA vA, k0_0 aB y13.2.1, k0_1 cI aB y13.2.1, k0_2 cI aB y13.2.1, k0_3 cI aB y13.2.1, k0_4 cI aB y13.2.1, k1_0 aT y13.2.2, k1_1 cJ aT y13.2.2, k1_2 cI aT y13.2.2, k1_3 cI aT y13.2.2, k1_4 cI aT y13.2.2, k1_5 cJ aT y13.2.2, k1_6 cJ aT y13.2.2, k1_7 cJ aT y13.2.2, k1_8 cJ aT y13.2.2, k1_9 cJ aT y13.2.2]) hP hD hS hA (va_runV (As := [.int i1, .int 99, .int i2]) (rest := []) ⟨hx, hb, hml, hown, hts⟩ (mX3_trialReaches l dC dI cI cJ a aA aB aR aT aS H.size vX y12 vT i1 (99 : Int32) i2 y13 hy13) (cwV 3 hts gX3_leastLoad_X3_trialReaches rfl rfl rfl (by decide +kernel) ⟨Nat.le_of_ble_eq_true rfl, Nat.le_of_ble_eq_true rfl⟩) ⟨cFB, va_recv hK hP (ci := 3) (q0 := 0) rfl rfl, cPre hK hN hS (va_free (wc := [k3_0 a aA aB aR aT aS vX, k0_0 aB y12, k0_1 cI aB y12, k0_2 cI aB y12, k0_3 cI aB y12, k0_4 cI aB y12, k1_0 aT vT, k1_1 cJ aT vT, k1_2 cI aT vT, k1_3 cI aT vT, k1_4 cI aT vT, k1_5 cJ aT vT, k1_6 cJ aT vT, k1_7 cJ aT vT, k1_8 cJ aT vT, k1_9 cJ aT vT]) hD hS hA [0, 6, 7, 8, 9, 10, 11, 12, 13, 14, 15, 16, 17, 18, 19, 20] rfl) (hP.sub [0, 6, 7, 8, 9, 10, 11, 12, 13, 14, 15, 16, 17, 18, 19, 20] rfl) (hD.sub [0, 6, 7, 8, 9, 10, 11, 12, 13, 14, 15, 16, 17, 18, 19, 20] rfl rfl)⟩ rfl rfl hl.1 rfl (lv_room (Nat.le_of_ble_eq_true rfl)) dX3_leastLoad_40 ⟨Nat.le_of_ble_eq_true rfl, Nat.le_of_ble_eq_true rfl⟩) [0, 6, 7, 8, 9, 10, 11, 12, 13, 14, 15, 16, 17, 18, 19, 20] [1, 2, 3, 4, 5] [5, 0, 1, 2, 3, 4, 6, 7, 8, 9, 10, 11, 12, 13, 14, 15, 16, 17, 18, 19, 20] rfl rfl rfl (by decide +kernel) rfl rfl (fun H locs hP hD hS => ?_)
        refine lv_if_ne (tgt := 49) hx hb dX3_leastLoad_43 (by decide) (fun c14 => ?_) (fun c14 => ?_)
        · have hf := oif_f c14 hf
          refine lv_bipush (v := (-99)) hx hb dX3_leastLoad_49 (by decide) ?_
          refine lv_istore_n (lv' := [(3, .int (-99)), (0, .ref (a 0)), (1, .int i1), (2, .int i2)]) hx hb dX3_leastLoad_51 rfl hl (by decide) rfl (fun ls hl => ?_)
          refine lv_bipush (v := 99) hx hb dX3_leastLoad_52 (by decide) ?_
          refine lv_istore (lv' := [(4, .int 99), (3, .int (-99)), (0, .ref (a 0)), (1, .int i1), (2, .int i2)]) hx hb dX3_leastLoad_54 hl (by decide) rfl (fun ls hl => ?_)
          refine lv_iconst (v := 0) hx hb dX3_leastLoad_56 (by decide) ?_
          refine lv_istore (lv' := [(5, .int 0), (4, .int 99), (3, .int (-99)), (0, .ref (a 0)), (1, .int i1), (2, .int i2)]) hx hb dX3_leastLoad_57 hl (by decide) rfl (fun ls hl => ?_)
          exact (hWW _ _ _ _ _ _ _).1 (L59 FU y13.2.1 y13.2.2 i1 i2 (-99 : Int32) (99 : Int32) (0 : Int32) H locs ls hP hD hS (lv_sub hl [3, 4, 5, 2, 1, 0] rfl) hf)
        · have hf := oif_t c14 hf
          refine lv_ldc (v := (-1000004)) hx hb hown hc101 dX3_leastLoad_46 ?_
          obtain rfl := Option.some.inj hf
          exact W.iret (v := (-1000004)) hx hb hr (fun t ht hW => ⟨⟨(-1000004), (), rfl, rfl, by rw [ht]; exact hP, hD⟩, hS.F ht⟩) hS.2.2 dX3_leastLoad_48
      · have hf := oif_f c11 hf
        refine lv_ldc (v := (-1000001)) hx hb hown hc84 dX3_leastLoad_21 ?_
        obtain rfl := Option.some.inj hf
        exact W.iret (v := (-1000001)) hx hb hr (fun t ht hW => ⟨⟨(-1000001), (), rfl, rfl, by rw [ht]; exact hP, hD⟩, hS.F ht⟩) hS.2.2 dX3_leastLoad_23
def fX3_hardest_128 (k29 : BX3 → BX0 → BX0 → BX1 → BX1 → Int32 → Int32 → Int64 → Int64 → Int32 → Option (Int64 × BX3 × BX0 × BX1 × BX1)) (vX : BX3) (vA : BX0) (vB : BX0) (vR : BX1) (vT : BX1) (x1 : Int32) (x3 : Int32) (l4 : Int64) (l6 : Int64) (x8 : Int32) : Option (Int64 × BX3 × BX0 × BX1 × BX1) :=
  elet (x8 + 1) (fun z13 => k29 vX vA vB vR vT x1 x3 l4 l6 z13)
def fX3_hardest_112 (k29 : BX3 → BX0 → BX0 → BX1 → BX1 → Int32 → Int32 → Int64 → Int64 → Int32 → Option (Int64 × BX3 × BX0 × BX1 × BX1)) (vX : BX3) (vA : BX0) (vB : BX0) (vR : BX1) (vT : BX1) (x1 : Int32) (x8 : Int32) (l9 : Int64) : Option (Int64 × BX3 × BX0 × BX1 × BX1) :=
  elet (p1_lower vT) (fun z12 => fX3_hardest_128 k29 vX vA vB vR vT x1 x8 l9 z12 x8)
def fX3_hardest_29_b (k29 : BX3 → BX0 → BX0 → BX1 → BX1 → Int32 → Int32 → Int64 → Int64 → Int32 → Option (Int64 × BX3 × BX0 × BX1 × BX1)) (vX : BX3) (vA : BX0) (vB : BX0) (vR : BX1) (vT : BX1) (x1 : Int32) (x3 : Int32) (l4 : Int64) (l6 : Int64) (x8 : Int32) : Option (Int64 × BX3 × BX0 × BX1 × BX1) :=
  if ((2 : Int32) * (p0_plates vA)) ≤ x8 then (if 0 ≤ x3 then (if (2 : Int32) ≤ x1 then ((fX3_inLowestTerms l4 (l6 * (p1_lower vR)) (x1 - (2 : Int32))).bind (fun y4 => some (y4, vX, vB, vR, vT))) else (if x1 = 0 then (some (((x3 / (2 : Int32))).toInt64, vX, vB, vR, vT)) else (some (((x3 - x3 / (2 : Int32) * (2 : Int32))).toInt64, vX, vB, vR, vT)))) else (some ((-1000004), vX, vB, vR, vT))) else (if inB x8 8 = true then (if ((p0_stops vA) (x8).toNatClampNeg) = (-1 : Int32) then (fX3_hardest_128 k29 vX vA vB vR vT x1 x3 l4 l6 x8) else ((fX3_settleWithout vX vA vB vT (x8 / (2 : Int32)) (x8 - x8 / (2 : Int32) * (2 : Int32))).bind (fun y8 => (fX1_distanceFrom y8.2 vR (p0_plates vA)).bind (fun y9 => if x3 < 0 then (fX3_hardest_112 k29 vX vA y8.1 vR y8.2 x1 x8 y9) else (if (lg_cmp (y9 * l6) (l4 * (p1_lower y8.2))) ≤ 0 then (fX3_hardest_128 k29 vX vA y8.1 vR y8.2 x1 x3 l4 l6 x8) else (fX3_hardest_112 k29 vX vA y8.1 vR y8.2 x1 x8 y9)))))) else none)
def fX3_hardest_29 : Nat → BX3 → BX0 → BX0 → BX1 → BX1 → Int32 → Int32 → Int64 → Int64 → Int32 → Option (Int64 × BX3 × BX0 × BX1 × BX1)
  | 0 => fun _ _ _ _ _ _ _ _ _ _ => none
  | n + 1 => fX3_hardest_29_b (fX3_hardest_29 n)
def fX3_hardest (vX : BX3) (vA : BX0) (vB : BX0) (vR : BX1) (vT : BX1) (i1 : Int32) : Option (Int64 × BX3 × BX0 × BX1 × BX1) :=
  if i1 < 0 then (some ((-1000001), vX, vB, vR, vT)) else (if i1 ≤ (3 : Int32) then ((fX3_settled vX vA vR).bind (fun y16 => fX3_hardest_29 FU y16.1 vA vB y16.2 vT i1 (-1 : Int32) (0 : Int64) (1 : Int64) (0 : Int32))) else (some ((-1000001), vX, vB, vR, vT)))
set_option maxHeartbeats 8000000 in
set_option maxRecDepth 100000 in
theorem mX3_hardest (l : Launch) (dC : Nat → ClassId) (dI : Nat → Nat → Nat) (cI cJ : ClassId) (a : Nat → Nat) (aA : Nat → Nat) (aB : Nat → Nat) (aR : Nat → Nat) (aT : Nat → Nat) (aS : Nat → Nat) (sz : Nat) (vX : BX3) (vA : BX0) (vB : BX0) (vR : BX1) (vT : BX1) (i1 : Int32) (y : (Int64 × BX3 × BX0 × BX1 × BX1)) (hf : fX3_hardest vX vA vB vR vT i1 = some y) : Met l yX3_hardest wsX3_hardest ({ frames := 6, cells := 0, slots := 0, locals := 143 }) (cPc dC dI cI cJ [.ref (a 0), .int i1] [k3_0 a aA aB aR aT aS vX, k0_0 aA vA, k0_1 cI aA vA, k0_2 cI aA vA, k0_3 cI aA vA, k0_4 cI aA vA, k0_0 aB vB, k0_1 cI aB vB, k0_2 cI aB vB, k0_3 cI aB vB, k0_4 cI aB vB, k1_0 aR vR, k1_1 cJ aR vR, k1_2 cI aR vR, k1_3 cI aR vR, k1_4 cI aR vR, k1_5 cJ aR vR, k1_6 cJ aR vR, k1_7 cJ aR vR, k1_8 cJ aR vR, k1_9 cJ aR vR, k1_0 aT vT, k1_1 cJ aT vT, k1_2 cI aT vT, k1_3 cI aT vT, k1_4 cI aT vT, k1_5 cJ aT vT, k1_6 cJ aT vT, k1_7 cJ aT vT, k1_8 cJ aT vT, k1_9 cJ aT vT] sz) (va_Ql (fun r (_ : Unit) => r = y.1) (fun _ t => cB dC dI (va_A [k3_0 a aA aB aR aT aS vX, k0_0 aA vA, k0_1 cI aA vA, k0_2 cI aA vA, k0_3 cI aA vA, k0_4 cI aA vA, k0_0 aB vB, k0_1 cI aB vB, k0_2 cI aB vB, k0_3 cI aB vB, k0_4 cI aB vB, k1_0 aR vR, k1_1 cJ aR vR, k1_2 cI aR vR, k1_3 cI aR vR, k1_4 cI aR vR, k1_5 cJ aR vR, k1_6 cJ aR vR, k1_7 cJ aR vR, k1_8 cJ aR vR, k1_9 cJ aR vR, k1_0 aT vT, k1_1 cJ aT vT, k1_2 cI aT vT, k1_3 cI aT vT, k1_4 cI aT vT, k1_5 cJ aT vT, k1_6 cJ aT vT, k1_7 cJ aT vT, k1_8 cJ aT vT, k1_9 cJ aT vT] sz) [k3_0 a aA aB aR aT aS y.2.1, k0_0 aA vA, k0_1 cI aA vA, k0_2 cI aA vA, k0_3 cI aA vA, k0_4 cI aA vA, k0_0 aB y.2.2.1, k0_1 cI aB y.2.2.1, k0_2 cI aB y.2.2.1, k0_3 cI aB y.2.2.1, k0_4 cI aB y.2.2.1, k1_0 aR y.2.2.2.1, k1_1 cJ aR y.2.2.2.1, k1_2 cI aR y.2.2.2.1, k1_3 cI aR y.2.2.2.1, k1_4 cI aR y.2.2.2.1, k1_5 cJ aR y.2.2.2.1, k1_6 cJ aR y.2.2.2.1, k1_7 cJ aR y.2.2.2.1, k1_8 cJ aR y.2.2.2.1, k1_9 cJ aR y.2.2.2.1, k1_0 aT y.2.2.2.2, k1_1 cJ aT y.2.2.2.2, k1_2 cI aT y.2.2.2.2, k1_3 cI aT y.2.2.2.2, k1_4 cI aT y.2.2.2.2, k1_5 cJ aT y.2.2.2.2, k1_6 cJ aT y.2.2.2.2, k1_7 cJ aT y.2.2.2.2, k1_8 cJ aT y.2.2.2.2, k1_9 cJ aT y.2.2.2.2] t) (va_A [k3_0 a aA aB aR aT aS vX, k0_0 aA vA, k0_1 cI aA vA, k0_2 cI aA vA, k0_3 cI aA vA, k0_4 cI aA vA, k0_0 aB vB, k0_1 cI aB vB, k0_2 cI aB vB, k0_3 cI aB vB, k0_4 cI aB vB, k1_0 aR vR, k1_1 cJ aR vR, k1_2 cI aR vR, k1_3 cI aR vR, k1_4 cI aR vR, k1_5 cJ aR vR, k1_6 cJ aR vR, k1_7 cJ aR vR, k1_8 cJ aR vR, k1_9 cJ aR vR, k1_0 aT vT, k1_1 cJ aT vT, k1_2 cI aT vT, k1_3 cI aT vT, k1_4 cI aT vT, k1_5 cJ aT vT, k1_6 cJ aT vT, k1_7 cJ aT vT, k1_8 cJ aT vT, k1_9 cJ aT vT] sz)) 0 0 (va_A [k3_0 a aA aB aR aT aS vX, k0_0 aA vA, k0_1 cI aA vA, k0_2 cI aA vA, k0_3 cI aA vA, k0_4 cI aA vA, k0_0 aB vB, k0_1 cI aB vB, k0_2 cI aB vB, k0_3 cI aB vB, k0_4 cI aB vB, k1_0 aR vR, k1_1 cJ aR vR, k1_2 cI aR vR, k1_3 cI aR vR, k1_4 cI aR vR, k1_5 cJ aR vR, k1_6 cJ aR vR, k1_7 cJ aR vR, k1_8 cJ aR vR, k1_9 cJ aR vR, k1_0 aT vT, k1_1 cJ aT vT, k1_2 cI aT vT, k1_3 cI aT vT, k1_4 cI aT vT, k1_5 cJ aT vT, k1_6 cJ aT vT, k1_7 cJ aT vT, k1_8 cJ aT vT, k1_9 cJ aT vT] sz) := by
  refine Met.ofW (cc := cX3_hardest) (maxL := 11) (ret := (some .long)) (by decide) rfl ?_
  intro p e s m args below meth c s₁ B hml hv
  obtain ⟨rfl, hsz, hP, hK, hD0, hN⟩ := hv
  have hx := B.exec
  have hb := B.bytes
  have hr := B.returns
  have hts := atoms_spec (ws := wsX3_hardest) B.pre
  have hown : s.vm.findClass RX3 = some m.cls := findClass_of_methodNamed B.named
  have hlocks := B.notSynchronized
  subst hsz
  have hD := hD0.self (sz := s.heap.size)
  generalize hAe : va_A [k3_0 a aA aB aR aT aS vX, k0_0 aA vA, k0_1 cI aA vA, k0_2 cI aA vA, k0_3 cI aA vA, k0_4 cI aA vA, k0_0 aB vB, k0_1 cI aB vB, k0_2 cI aB vB, k0_3 cI aB vB, k0_4 cI aB vB, k1_0 aR vR, k1_1 cJ aR vR, k1_2 cI aR vR, k1_3 cI aR vR, k1_4 cI aR vR, k1_5 cJ aR vR, k1_6 cJ aR vR, k1_7 cJ aR vR, k1_8 cJ aR vR, k1_9 cJ aR vR, k1_0 aT vT, k1_1 cJ aT vT, k1_2 cI aT vT, k1_3 cI aT vT, k1_4 cI aT vT, k1_5 cJ aT vT, k1_6 cJ aT vT, k1_7 cJ aT vT, k1_8 cJ aT vT, k1_9 cJ aT vT] s.heap.size = A at hD hN ⊢
  have hA : ∀ q : Nat, s.heap.size ≤ q → A q := fun q h => by rw [← hAe]; exact Or.inr h
  have hP : va_P (dC, dI) vwCl [k3_0 a aA aB aR aT aS vX, k0_0 aA vA, k0_1 cI aA vA, k0_2 cI aA vA, k0_3 cI aA vA, k0_4 cI aA vA, k0_0 aB vB, k0_1 cI aB vB, k0_2 cI aB vB, k0_3 cI aB vB, k0_4 cI aB vB, k1_0 aR vR, k1_1 cJ aR vR, k1_2 cI aR vR, k1_3 cI aR vR, k1_4 cI aR vR, k1_5 cJ aR vR, k1_6 cJ aR vR, k1_7 cJ aR vR, k1_8 cJ aR vR, k1_9 cJ aR vR, k1_0 aT vT, k1_1 cJ aT vT, k1_2 cI aT vT, k1_3 cI aT vT, k1_4 cI aT vT, k1_5 cJ aT vT, k1_6 cJ aT vT, k1_7 cJ aT vT, k1_8 cJ aT vT, k1_9 cJ aT vT] s.heap := hP
  have hl := lv_entry ([.ref (a 0), .int i1]) (n := 11) (Nat.le_of_ble_eq_true rfl)
  rw [lg_entry_eq]
  generalize (lg_sl ([.ref (a 0), .int i1]) ++ List.replicate (11 - (lg_sl ([.ref (a 0), .int i1])).length) Slot.unset).toArray = ls at hl ⊢
  have hl : lv_has ls 11 [(0, .ref (a 0)), (1, .int i1)] := hl
  have hiX3 : ∀ w ∈ u_ws RX3 TX3 8, w ∈ wsX3_hardest := by decide +kernel
  have hgX3_10 := hts (.fieldLink RX3 10 "SpringPlates" "laid" "LSpringPlates$Layout;") (by decide +kernel)
  have hiX0 : ∀ w ∈ u_ws RX0 TX0 6, w ∈ wsX3_hardest := by decide +kernel
  have hgX0_152 := hts (.fieldLink RX3 152 "SpringPlates$Layout" "plates" "I") (by decide +kernel)
  have hiX1 : ∀ w ∈ u_ws RX1 TX1 10, w ∈ wsX3_hardest := by decide +kernel
  have hgX1_126 := hts (.fieldLink RX3 126 "SpringPlates$Rest" "lower" "J") (by decide +kernel)
  have hc210 := hts (.constantLong RX3 210 (-1000004)) (by decide +kernel)
  have hgX0_203 := hts (.fieldLink RX3 203 "SpringPlates$Layout" "stops" "[I") (by decide +kernel)
  have hgX3_38 := hts (.fieldLink RX3 38 "SpringPlates" "trialRest" "LSpringPlates$Rest;") (by decide +kernel)
  have hc201 := hts (.constantLong RX3 201 (-1000001)) (by decide +kernel)
  refine nameH (fun H locs hHe hLe => ?_)
  have hP : va_P (dC, dI) vwCl [k3_0 a aA aB aR aT aS vX, k0_0 aA vA, k0_1 cI aA vA, k0_2 cI aA vA, k0_3 cI aA vA, k0_4 cI aA vA, k0_0 aB vB, k0_1 cI aB vB, k0_2 cI aB vB, k0_3 cI aB vB, k0_4 cI aB vB, k1_0 aR vR, k1_1 cJ aR vR, k1_2 cI aR vR, k1_3 cI aR vR, k1_4 cI aR vR, k1_5 cJ aR vR, k1_6 cJ aR vR, k1_7 cJ aR vR, k1_8 cJ aR vR, k1_9 cJ aR vR, k1_0 aT vT, k1_1 cJ aT vT, k1_2 cI aT vT, k1_3 cI aT vT, k1_4 cI aT vT, k1_5 cJ aT vT, k1_6 cJ aT vT, k1_7 cJ aT vT, k1_8 cJ aT vT, k1_9 cJ aT vT] H := by rw [hHe]; exact hP
  have hS : va_S A s.heap H locs := by rw [hHe, hLe]; exact va_S.rf
  refine withW (fun WW hWW => ?_)
  have J128 : ∀ (k29 : BX3 → BX0 → BX0 → BX1 → BX1 → Int32 → Int32 → Int64 → Int64 → Int32 → Option (Int64 × BX3 × BX0 × BX1 × BX1)) (hk29 : ∀ (vX : BX3) (vB : BX0) (vR : BX1) (vT : BX1) (x1 : Int32) (x3 : Int32) (l4 : Int64) (l6 : Int64) (x8 : Int32) (H : Heap) (locs : List Loc) (ls : Array Slot), va_P (dC, dI) vwCl [k3_0 a aA aB aR aT aS vX, k0_0 aA vA, k0_1 cI aA vA, k0_2 cI aA vA, k0_3 cI aA vA, k0_4 cI aA vA, k0_0 aB vB, k0_1 cI aB vB, k0_2 cI aB vB, k0_3 cI aB vB, k0_4 cI aB vB, k1_0 aR vR, k1_1 cJ aR vR, k1_2 cI aR vR, k1_3 cI aR vR, k1_4 cI aR vR, k1_5 cJ aR vR, k1_6 cJ aR vR, k1_7 cJ aR vR, k1_8 cJ aR vR, k1_9 cJ aR vR, k1_0 aT vT, k1_1 cJ aT vT, k1_2 cI aT vT, k1_3 cI aT vT, k1_4 cI aT vT, k1_5 cJ aT vT, k1_6 cJ aT vT, k1_7 cJ aT vT, k1_8 cJ aT vT, k1_9 cJ aT vT] H → va_D A [k3_0 a aA aB aR aT aS vX, k0_0 aA vA, k0_1 cI aA vA, k0_2 cI aA vA, k0_3 cI aA vA, k0_4 cI aA vA, k0_0 aB vB, k0_1 cI aB vB, k0_2 cI aB vB, k0_3 cI aB vB, k0_4 cI aB vB, k1_0 aR vR, k1_1 cJ aR vR, k1_2 cI aR vR, k1_3 cI aR vR, k1_4 cI aR vR, k1_5 cJ aR vR, k1_6 cJ aR vR, k1_7 cJ aR vR, k1_8 cJ aR vR, k1_9 cJ aR vR, k1_0 aT vT, k1_1 cJ aT vT, k1_2 cI aT vT, k1_3 cI aT vT, k1_4 cI aT vT, k1_5 cJ aT vT, k1_6 cJ aT vT, k1_7 cJ aT vT, k1_8 cJ aT vT, k1_9 cJ aT vT] → va_S A s.heap H locs → lv_has ls 11 [(0, .ref (a 0)), (1, .int x1), (2, .ref (aR 0)), (3, .int x3), (4, .long l4), (6, .long l6), (8, .int x8)] → k29 vX vA vB vR vT x1 x3 l4 l6 x8 = some y → WW H locs 0 0 ls 29 []) (vX : BX3) (vB : BX0) (vR : BX1) (vT : BX1) (x1 : Int32) (x3 : Int32) (l4 : Int64) (l6 : Int64) (x8 : Int32) (H : Heap) (locs : List Loc) (ls : Array Slot), va_P (dC, dI) vwCl [k3_0 a aA aB aR aT aS vX, k0_0 aA vA, k0_1 cI aA vA, k0_2 cI aA vA, k0_3 cI aA vA, k0_4 cI aA vA, k0_0 aB vB, k0_1 cI aB vB, k0_2 cI aB vB, k0_3 cI aB vB, k0_4 cI aB vB, k1_0 aR vR, k1_1 cJ aR vR, k1_2 cI aR vR, k1_3 cI aR vR, k1_4 cI aR vR, k1_5 cJ aR vR, k1_6 cJ aR vR, k1_7 cJ aR vR, k1_8 cJ aR vR, k1_9 cJ aR vR, k1_0 aT vT, k1_1 cJ aT vT, k1_2 cI aT vT, k1_3 cI aT vT, k1_4 cI aT vT, k1_5 cJ aT vT, k1_6 cJ aT vT, k1_7 cJ aT vT, k1_8 cJ aT vT, k1_9 cJ aT vT] H → va_D A [k3_0 a aA aB aR aT aS vX, k0_0 aA vA, k0_1 cI aA vA, k0_2 cI aA vA, k0_3 cI aA vA, k0_4 cI aA vA, k0_0 aB vB, k0_1 cI aB vB, k0_2 cI aB vB, k0_3 cI aB vB, k0_4 cI aB vB, k1_0 aR vR, k1_1 cJ aR vR, k1_2 cI aR vR, k1_3 cI aR vR, k1_4 cI aR vR, k1_5 cJ aR vR, k1_6 cJ aR vR, k1_7 cJ aR vR, k1_8 cJ aR vR, k1_9 cJ aR vR, k1_0 aT vT, k1_1 cJ aT vT, k1_2 cI aT vT, k1_3 cI aT vT, k1_4 cI aT vT, k1_5 cJ aT vT, k1_6 cJ aT vT, k1_7 cJ aT vT, k1_8 cJ aT vT, k1_9 cJ aT vT] → va_S A s.heap H locs → lv_has ls 11 [(0, .ref (a 0)), (1, .int x1), (2, .ref (aR 0)), (3, .int x3), (4, .long l4), (6, .long l6), (8, .int x8)] → fX3_hardest_128 k29 vX vA vB vR vT x1 x3 l4 l6 x8 = some y → WW H locs 0 0 ls 128 [] := by
    intro k29 hk29 vX vB vR vT x1 x3 l4 l6 x8 H locs ls hP hD hS hl hf
    unfold fX3_hardest_128 at hf
    refine (hWW _ _ _ _ _ _ _).2 ?_
    obtain ⟨z13, ez13, hf⟩ := elet_out hf
    refine lv_iinc (v := z13) (lv' := [(8, .int z13), (0, .ref (a 0)), (1, .int x1), (2, .ref (aR 0)), (3, .int x3), (4, .long l4), (6, .long l6)]) hx hb dX3_hardest_128 hl (k := 6) rfl (by rw [ez13]; rfl) (by decide) rfl (fun ls hl => ?_)
    refine lv_goto (tgt := 29) hx hb dX3_hardest_131 (by decide) ?_
    exact (hWW _ _ _ _ _ _ _).1 (hk29 vX vB vR vT x1 x3 l4 l6 z13 H locs ls hP hD hS (lv_sub hl [1, 2, 3, 4, 5, 6, 0] rfl) hf)
  have J112 : ∀ (k29 : BX3 → BX0 → BX0 → BX1 → BX1 → Int32 → Int32 → Int64 → Int64 → Int32 → Option (Int64 × BX3 × BX0 × BX1 × BX1)) (hk29 : ∀ (vX : BX3) (vB : BX0) (vR : BX1) (vT : BX1) (x1 : Int32) (x3 : Int32) (l4 : Int64) (l6 : Int64) (x8 : Int32) (H : Heap) (locs : List Loc) (ls : Array Slot), va_P (dC, dI) vwCl [k3_0 a aA aB aR aT aS vX, k0_0 aA vA, k0_1 cI aA vA, k0_2 cI aA vA, k0_3 cI aA vA, k0_4 cI aA vA, k0_0 aB vB, k0_1 cI aB vB, k0_2 cI aB vB, k0_3 cI aB vB, k0_4 cI aB vB, k1_0 aR vR, k1_1 cJ aR vR, k1_2 cI aR vR, k1_3 cI aR vR, k1_4 cI aR vR, k1_5 cJ aR vR, k1_6 cJ aR vR, k1_7 cJ aR vR, k1_8 cJ aR vR, k1_9 cJ aR vR, k1_0 aT vT, k1_1 cJ aT vT, k1_2 cI aT vT, k1_3 cI aT vT, k1_4 cI aT vT, k1_5 cJ aT vT, k1_6 cJ aT vT, k1_7 cJ aT vT, k1_8 cJ aT vT, k1_9 cJ aT vT] H → va_D A [k3_0 a aA aB aR aT aS vX, k0_0 aA vA, k0_1 cI aA vA, k0_2 cI aA vA, k0_3 cI aA vA, k0_4 cI aA vA, k0_0 aB vB, k0_1 cI aB vB, k0_2 cI aB vB, k0_3 cI aB vB, k0_4 cI aB vB, k1_0 aR vR, k1_1 cJ aR vR, k1_2 cI aR vR, k1_3 cI aR vR, k1_4 cI aR vR, k1_5 cJ aR vR, k1_6 cJ aR vR, k1_7 cJ aR vR, k1_8 cJ aR vR, k1_9 cJ aR vR, k1_0 aT vT, k1_1 cJ aT vT, k1_2 cI aT vT, k1_3 cI aT vT, k1_4 cI aT vT, k1_5 cJ aT vT, k1_6 cJ aT vT, k1_7 cJ aT vT, k1_8 cJ aT vT, k1_9 cJ aT vT] → va_S A s.heap H locs → lv_has ls 11 [(0, .ref (a 0)), (1, .int x1), (2, .ref (aR 0)), (3, .int x3), (4, .long l4), (6, .long l6), (8, .int x8)] → k29 vX vA vB vR vT x1 x3 l4 l6 x8 = some y → WW H locs 0 0 ls 29 []) (vX : BX3) (vB : BX0) (vR : BX1) (vT : BX1) (x1 : Int32) (x8 : Int32) (l9 : Int64) (H : Heap) (locs : List Loc) (ls : Array Slot), va_P (dC, dI) vwCl [k3_0 a aA aB aR aT aS vX, k0_0 aA vA, k0_1 cI aA vA, k0_2 cI aA vA, k0_3 cI aA vA, k0_4 cI aA vA, k0_0 aB vB, k0_1 cI aB vB, k0_2 cI aB vB, k0_3 cI aB vB, k0_4 cI aB vB, k1_0 aR vR, k1_1 cJ aR vR, k1_2 cI aR vR, k1_3 cI aR vR, k1_4 cI aR vR, k1_5 cJ aR vR, k1_6 cJ aR vR, k1_7 cJ aR vR, k1_8 cJ aR vR, k1_9 cJ aR vR, k1_0 aT vT, k1_1 cJ aT vT, k1_2 cI aT vT, k1_3 cI aT vT, k1_4 cI aT vT, k1_5 cJ aT vT, k1_6 cJ aT vT, k1_7 cJ aT vT, k1_8 cJ aT vT, k1_9 cJ aT vT] H → va_D A [k3_0 a aA aB aR aT aS vX, k0_0 aA vA, k0_1 cI aA vA, k0_2 cI aA vA, k0_3 cI aA vA, k0_4 cI aA vA, k0_0 aB vB, k0_1 cI aB vB, k0_2 cI aB vB, k0_3 cI aB vB, k0_4 cI aB vB, k1_0 aR vR, k1_1 cJ aR vR, k1_2 cI aR vR, k1_3 cI aR vR, k1_4 cI aR vR, k1_5 cJ aR vR, k1_6 cJ aR vR, k1_7 cJ aR vR, k1_8 cJ aR vR, k1_9 cJ aR vR, k1_0 aT vT, k1_1 cJ aT vT, k1_2 cI aT vT, k1_3 cI aT vT, k1_4 cI aT vT, k1_5 cJ aT vT, k1_6 cJ aT vT, k1_7 cJ aT vT, k1_8 cJ aT vT, k1_9 cJ aT vT] → va_S A s.heap H locs → lv_has ls 11 [(0, .ref (a 0)), (1, .int x1), (2, .ref (aR 0)), (8, .int x8), (9, .long l9)] → fX3_hardest_112 k29 vX vA vB vR vT x1 x8 l9 = some y → WW H locs 0 0 ls 112 [] := by
    intro k29 hk29 vX vB vR vT x1 x8 l9 H locs ls hP hD hS hl hf
    unfold fX3_hardest_112 at hf
    refine (hWW _ _ _ _ _ _ _).2 ?_
    refine lv_iload hx hb dX3_hardest_112 (lv_at hl 3 rfl) ?_
    refine lv_istore_n (lv' := [(3, .int x8), (0, .ref (a 0)), (1, .int x1), (2, .ref (aR 0)), (8, .int x8), (9, .long l9)]) hx hb dX3_hardest_114 rfl hl (by decide) rfl (fun ls hl => ?_)
    refine lv_lload hx hb dX3_hardest_115 (lv_at hl 5 rfl) ?_
    refine lv_lstore (lv' := [(4, .long l9), (3, .int x8), (0, .ref (a 0)), (1, .int x1), (2, .ref (aR 0)), (8, .int x8), (9, .long l9)]) hx hb dX3_hardest_117 hl (by decide) rfl (fun ls hl => ?_)
    refine lv_aload_n hx hb dX3_hardest_119 rfl (lv_at hl 2 rfl) ?_
    refine va_get (D := (dC, dI)) (ci := 3) (v := .ref (aT 0)) (C := RX3) (T := TX3) (N := 8) hx hb hts hiX3 hown hK hP 0 rfl rfl 6 (by decide) hgX3_38 (fun _ h9 => h9) rfl dX3_hardest_120 ?_
    refine va_get (D := (dC, dI)) (ci := 1) (v := .long (p1_lower vT)) (C := RX1) (T := TX1) (N := 10) hx hb hts hiX1 hown hK hP 21 rfl rfl 1 (by decide) hgX1_126 (fun _ h9 => h9) rfl dX3_hardest_123 ?_
    obtain ⟨z12, ez12, hf⟩ := elet_out hf
    refine lvn_l ez12 ?_
    refine lv_lstore (lv' := [(6, .long z12), (4, .long l9), (3, .int x8), (0, .ref (a 0)), (1, .int x1), (2, .ref (aR 0)), (8, .int x8), (9, .long l9)]) hx hb dX3_hardest_126 hl (by decide) rfl (fun ls hl => ?_)
    exact (hWW _ _ _ _ _ _ _).1 (J128 k29 hk29 vX vB vR vT x1 x8 l9 z12 x8 H locs ls hP hD hS (lv_sub hl [3, 4, 5, 2, 1, 0, 6] rfl) hf)
  have L29 : ∀ (n : Nat) (vX : BX3) (vB : BX0) (vR : BX1) (vT : BX1) (x1 : Int32) (x3 : Int32) (l4 : Int64) (l6 : Int64) (x8 : Int32) (H : Heap) (locs : List Loc) (ls : Array Slot), va_P (dC, dI) vwCl [k3_0 a aA aB aR aT aS vX, k0_0 aA vA, k0_1 cI aA vA, k0_2 cI aA vA, k0_3 cI aA vA, k0_4 cI aA vA, k0_0 aB vB, k0_1 cI aB vB, k0_2 cI aB vB, k0_3 cI aB vB, k0_4 cI aB vB, k1_0 aR vR, k1_1 cJ aR vR, k1_2 cI aR vR, k1_3 cI aR vR, k1_4 cI aR vR, k1_5 cJ aR vR, k1_6 cJ aR vR, k1_7 cJ aR vR, k1_8 cJ aR vR, k1_9 cJ aR vR, k1_0 aT vT, k1_1 cJ aT vT, k1_2 cI aT vT, k1_3 cI aT vT, k1_4 cI aT vT, k1_5 cJ aT vT, k1_6 cJ aT vT, k1_7 cJ aT vT, k1_8 cJ aT vT, k1_9 cJ aT vT] H → va_D A [k3_0 a aA aB aR aT aS vX, k0_0 aA vA, k0_1 cI aA vA, k0_2 cI aA vA, k0_3 cI aA vA, k0_4 cI aA vA, k0_0 aB vB, k0_1 cI aB vB, k0_2 cI aB vB, k0_3 cI aB vB, k0_4 cI aB vB, k1_0 aR vR, k1_1 cJ aR vR, k1_2 cI aR vR, k1_3 cI aR vR, k1_4 cI aR vR, k1_5 cJ aR vR, k1_6 cJ aR vR, k1_7 cJ aR vR, k1_8 cJ aR vR, k1_9 cJ aR vR, k1_0 aT vT, k1_1 cJ aT vT, k1_2 cI aT vT, k1_3 cI aT vT, k1_4 cI aT vT, k1_5 cJ aT vT, k1_6 cJ aT vT, k1_7 cJ aT vT, k1_8 cJ aT vT, k1_9 cJ aT vT] → va_S A s.heap H locs → lv_has ls 11 [(0, .ref (a 0)), (1, .int x1), (2, .ref (aR 0)), (3, .int x3), (4, .long l4), (6, .long l6), (8, .int x8)] → fX3_hardest_29 n vX vA vB vR vT x1 x3 l4 l6 x8 = some y → WW H locs 0 0 ls 29 [] := by
    intro n
    induction n with
    | zero =>
      intro vX vB vR vT x1 x3 l4 l6 x8 H locs ls hP hD hS hl hf
      exact onone hf
    | succ n ih =>
      intro vX vB vR vT x1 x3 l4 l6 x8 H locs ls hP hD hS hl hf
      have hf : fX3_hardest_29_b (fX3_hardest_29 n) vX vA vB vR vT x1 x3 l4 l6 x8 = some y := hf
      generalize fX3_hardest_29 n = k29 at hf ih
      have hk29 := ih
      clear ih
      unfold fX3_hardest_29_b at hf
      refine (hWW _ _ _ _ _ _ _).2 ?_
      refine lv_iload hx hb dX3_hardest_29 (lv_at hl 6 rfl) ?_
      refine lv_iconst (v := 2) hx hb dX3_hardest_31 (by decide) ?_
      refine lv_aload_n hx hb dX3_hardest_32 rfl (lv_at hl 0 rfl) ?_
      refine va_get (D := (dC, dI)) (ci := 3) (v := .ref (aA 0)) (C := RX3) (T := TX3) (N := 8) hx hb hts hiX3 hown hK hP 0 rfl rfl 0 (by decide) hgX3_10 (fun _ h9 => h9) rfl dX3_hardest_33 ?_
      refine va_get (D := (dC, dI)) (ci := 0) (v := .int (p0_plates vA)) (C := RX0) (T := TX0) (N := 6) hx hb hts hiX0 hown hK hP 1 rfl rfl 1 (by decide) hgX0_152 (fun _ h9 => h9) rfl dX3_hardest_36 ?_
      refine lv_imul hx hb dX3_hardest_39 ?_
      refine lv_icmp_ge (tgt := 134) hx hb dX3_hardest_40 (by decide) (fun c1 => ?_) (fun c1 => ?_)
      · have hf := oif_t c1 hf
        refine lv_iload_n hx hb dX3_hardest_134 rfl (lv_at hl 3 rfl) ?_
        refine lv_if_ge (tgt := 142) hx hb dX3_hardest_135 (by decide) (fun c2 => ?_) (fun c2 => ?_)
        · have hf := oif_t c2 hf
          refine lv_iload_n hx hb dX3_hardest_142 rfl (lv_at hl 1 rfl) ?_
          refine lv_iconst (v := 2) hx hb dX3_hardest_143 (by decide) ?_
          refine lv_icmp_ge (tgt := 163) hx hb dX3_hardest_144 (by decide) (fun c3 => ?_) (fun c3 => ?_)
          · have hf := oif_t c3 hf
            refine lv_lload hx hb dX3_hardest_163 (lv_at hl 4 rfl) ?_
            refine lv_lload hx hb dX3_hardest_165 (lv_at hl 5 rfl) ?_
            refine lv_aload_n hx hb dX3_hardest_167 rfl (lv_at hl 2 rfl) ?_
            refine va_get (D := (dC, dI)) (ci := 1) (v := .long (p1_lower vR)) (C := RX1) (T := TX1) (N := 10) hx hb hts hiX1 hown hK hP 11 rfl rfl 1 (by decide) hgX1_126 (fun _ h9 => h9) rfl dX3_hardest_168 ?_
            refine lv_lmul hx hb dX3_hardest_171 ?_
            refine lv_iload_n hx hb dX3_hardest_172 rfl (lv_at hl 1 rfl) ?_
            refine lv_iconst (v := 2) hx hb dX3_hardest_173 (by decide) ?_
            refine lv_isub hx hb dX3_hardest_174 ?_
            obtain ⟨y4, hy4, hf⟩ := obind hf
            refine cg_l (ws := [k3_0 a aA aB aR aT aS vX, k0_0 aA vA, k0_1 cI aA vA, k0_2 cI aA vA, k0_3 cI aA vA, k0_4 cI aA vA, k0_0 aB vB, k0_1 cI aB vB, k0_2 cI aB vB, k0_3 cI aB vB, k0_4 cI aB vB, k1_0 aR vR, k1_1 cJ aR vR, k1_2 cI aR vR, k1_3 cI aR vR, k1_4 cI aR vR, k1_5 cJ aR vR, k1_6 cJ aR vR, k1_7 cJ aR vR, k1_8 cJ aR vR, k1_9 cJ aR vR, k1_0 aT vT, k1_1 cJ aT vT, k1_2 cI aT vT, k1_3 cI aT vT, k1_4 cI aT vT, k1_5 cJ aT vT, k1_6 cJ aT vT, k1_7 cJ aT vT, k1_8 cJ aT vT, k1_9 cJ aT vT]) (wc := []) (wr := [k3_0 a aA aB aR aT aS vX, k0_0 aA vA, k0_1 cI aA vA, k0_2 cI aA vA, k0_3 cI aA vA, k0_4 cI aA vA, k0_0 aB vB, k0_1 cI aB vB, k0_2 cI aB vB, k0_3 cI aB vB, k0_4 cI aB vB, k1_0 aR vR, k1_1 cJ aR vR, k1_2 cI aR vR, k1_3 cI aR vR, k1_4 cI aR vR, k1_5 cJ aR vR, k1_6 cJ aR vR, k1_7 cJ aR vR, k1_8 cJ aR vR, k1_9 cJ aR vR, k1_0 aT vT, k1_1 cJ aT vT, k1_2 cI aT vT, k1_3 cI aT vT, k1_4 cI aT vT, k1_5 cJ aT vT, k1_6 cJ aT vT, k1_7 cJ aT vT, k1_8 cJ aT vT, k1_9 cJ aT vT]) (w1 := []) (wo := [k3_0 a aA aB aR aT aS vX, k0_0 aA vA, k0_1 cI aA vA, k0_2 cI aA vA, k0_3 cI aA vA, k0_4 cI aA vA, k0_0 aB vB, k0_1 cI aB vB, k0_2 cI aB vB, k0_3 cI aB vB, k0_4 cI aB vB, k1_0 aR vR, k1_1 cJ aR vR, k1_2 cI aR vR, k1_3 cI aR vR, k1_4 cI aR vR, k1_5 cJ aR vR, k1_6 cJ aR vR, k1_7 cJ aR vR, k1_8 cJ aR vR, k1_9 cJ aR vR, k1_0 aT vT, k1_1 cJ aT vT, k1_2 cI aT vT, k1_3 cI aT vT, k1_4 cI aT vT, k1_5 cJ aT vT, k1_6 cJ aT vT, k1_7 cJ aT vT, k1_8 cJ aT vT, k1_9 cJ aT vT]) hP hD hS hA (va_runS (As := [.long l4, .long (l6 * (p1_lower vR)), .int (x1 - (2 : Int32))]) (rest := []) ⟨hx, hb, hml, hown, hts⟩ (mX3_inLowestTerms l dC dI cI cJ  H.size l4 (l6 * (p1_lower vR)) (x1 - (2 : Int32)) y4 hy4) (va_cwS 3 hts gX3_hardest_X3_inLowestTerms rfl rfl rfl (by decide +kernel) ⟨Nat.le_of_ble_eq_true rfl, Nat.le_of_ble_eq_true rfl⟩) ⟨cFB, cPre hK hN hS (va_free (wc := []) hD hS hA [] rfl) (hP.sub [] rfl) (hD.sub [] rfl rfl)⟩ rfl rfl hl.1 rfl (lv_room (Nat.le_of_ble_eq_true rfl)) dX3_hardest_175 ⟨Nat.le_of_ble_eq_true rfl, Nat.le_of_ble_eq_true rfl⟩) [] [0, 1, 2, 3, 4, 5, 6, 7, 8, 9, 10, 11, 12, 13, 14, 15, 16, 17, 18, 19, 20, 21, 22, 23, 24, 25, 26, 27, 28, 29, 30] [0, 1, 2, 3, 4, 5, 6, 7, 8, 9, 10, 11, 12, 13, 14, 15, 16, 17, 18, 19, 20, 21, 22, 23, 24, 25, 26, 27, 28, 29, 30] rfl rfl rfl (by decide +kernel) rfl rfl (fun H locs hP hD hS => ?_)
            obtain rfl := Option.some.inj hf
            exact W.lret (v := y4) hx hb hr (fun t ht hW => ⟨⟨y4, (), rfl, rfl, by rw [ht]; exact hP, hD⟩, hS.F ht⟩) hS.2.2 dX3_hardest_178
          · have hf := oif_f c3 hf
            refine lv_iload_n hx hb dX3_hardest_147 rfl (lv_at hl 1 rfl) ?_
            refine lv_if_ne (tgt := 158) hx hb dX3_hardest_148 (by decide) (fun c5 => ?_) (fun c5 => ?_)
            · have hf := oif_f c5 hf
              refine lv_iload_n hx hb dX3_hardest_158 rfl (lv_at hl 3 rfl) ?_
              refine lv_iconst (v := 2) hx hb dX3_hardest_159 (by decide) ?_
              refine lv_irem hx hb dX3_hardest_160 (by decide) ?_
              refine lv_i2l (v := ((x3 - x3 / (2 : Int32) * (2 : Int32))).toInt64) hx hb dX3_hardest_161 rfl ?_
              obtain rfl := Option.some.inj hf
              exact W.lret (v := ((x3 - x3 / (2 : Int32) * (2 : Int32))).toInt64) hx hb hr (fun t ht hW => ⟨⟨((x3 - x3 / (2 : Int32) * (2 : Int32))).toInt64, (), rfl, rfl, by rw [ht]; exact hP, hD⟩, hS.F ht⟩) hS.2.2 dX3_hardest_162
            · have hf := oif_t c5 hf
              refine lv_iload_n hx hb dX3_hardest_151 rfl (lv_at hl 3 rfl) ?_
              refine lv_iconst (v := 2) hx hb dX3_hardest_152 (by decide) ?_
              refine lv_idiv hx hb dX3_hardest_153 (by decide) ?_
              refine lv_i2l (v := ((x3 / (2 : Int32))).toInt64) hx hb dX3_hardest_154 rfl ?_
              refine lv_goto (tgt := 162) hx hb dX3_hardest_155 (by decide) ?_
              obtain rfl := Option.some.inj hf
              exact W.lret (v := ((x3 / (2 : Int32))).toInt64) hx hb hr (fun t ht hW => ⟨⟨((x3 / (2 : Int32))).toInt64, (), rfl, rfl, by rw [ht]; exact hP, hD⟩, hS.F ht⟩) hS.2.2 dX3_hardest_162
        · have hf := oif_f c2 hf
          refine lv_ldc2 (v := (-1000004)) hx hb hown hc210 dX3_hardest_138 ?_
          obtain rfl := Option.some.inj hf
          exact W.lret (v := (-1000004)) hx hb hr (fun t ht hW => ⟨⟨(-1000004), (), rfl, rfl, by rw [ht]; exact hP, hD⟩, hS.F ht⟩) hS.2.2 dX3_hardest_141
      · have hf := oif_f c1 hf
        refine lv_aload_n hx hb dX3_hardest_43 rfl (lv_at hl 0 rfl) ?_
        refine va_get (D := (dC, dI)) (ci := 3) (v := .ref (aA 0)) (C := RX3) (T := TX3) (N := 8) hx hb hts hiX3 hown hK hP 0 rfl rfl 0 (by decide) hgX3_10 (fun _ h9 => h9) rfl dX3_hardest_44 ?_
        refine va_get (D := (dC, dI)) (ci := 0) (v := .ref (aA 4)) (C := RX0) (T := TX0) (N := 6) hx hb hts hiX0 hown hK hP 1 rfl rfl 5 (by decide) hgX0_203 (fun _ h9 => h9) rfl dX3_hardest_47 ?_
        refine lv_iload hx hb dX3_hardest_50 (lv_at hl 6 rfl) ?_
        obtain ⟨hi6, hf⟩ := oinb rfl hf
        refine va_iald hx hb hK hP 5 0 rfl rfl hi6 dX3_hardest_52 ?_
        refine lv_iconst (v := (-1)) hx hb dX3_hardest_53 (by decide) ?_
        refine lv_icmp_ne (tgt := 60) hx hb dX3_hardest_54 (by decide) (fun c7 => ?_) (fun c7 => ?_)
        · have hf := oif_f c7 hf
          refine lv_aload_n hx hb dX3_hardest_60 rfl (lv_at hl 0 rfl) ?_
          refine lv_iload hx hb dX3_hardest_61 (lv_at hl 6 rfl) ?_
          refine lv_iconst (v := 2) hx hb dX3_hardest_63 (by decide) ?_
          refine lv_idiv hx hb dX3_hardest_64 (by decide) ?_
          refine lv_iload hx hb dX3_hardest_65 (lv_at hl 6 rfl) ?_
          refine lv_iconst (v := 2) hx hb dX3_hardest_67 (by decide) ?_
          refine lv_irem hx hb dX3_hardest_68 (by decide) ?_
          obtain ⟨y8, hy8, hf⟩ := obind hf
          refine cg_v (ws := [k3_0 a aA aB aR aT aS vX, k0_0 aA vA, k0_1 cI aA vA, k0_2 cI aA vA, k0_3 cI aA vA, k0_4 cI aA vA, k0_0 aB vB, k0_1 cI aB vB, k0_2 cI aB vB, k0_3 cI aB vB, k0_4 cI aB vB, k1_0 aR vR, k1_1 cJ aR vR, k1_2 cI aR vR, k1_3 cI aR vR, k1_4 cI aR vR, k1_5 cJ aR vR, k1_6 cJ aR vR, k1_7 cJ aR vR, k1_8 cJ aR vR, k1_9 cJ aR vR, k1_0 aT vT, k1_1 cJ aT vT, k1_2 cI aT vT, k1_3 cI aT vT, k1_4 cI aT vT, k1_5 cJ aT vT, k1_6 cJ aT vT, k1_7 cJ aT vT, k1_8 cJ aT vT, k1_9 cJ aT vT]) (wc := [k3_0 a aA aB aR aT aS vX, k0_0 aA vA, k0_1 cI aA vA, k0_2 cI aA vA, k0_3 cI aA vA, k0_4 cI aA vA, k0_0 aB vB, k0_1 cI aB vB, k0_2 cI aB vB, k0_3 cI aB vB, k0_4 cI aB vB, k1_0 aT vT, k1_1 cJ aT vT, k1_2 cI aT vT, k1_3 cI aT vT, k1_4 cI aT vT, k1_5 cJ aT vT, k1_6 cJ aT vT, k1_7 cJ aT vT, k1_8 cJ aT vT, k1_9 cJ aT vT]) (wr := [k1_0 aR vR, k1_1 cJ aR vR, k1_2 cI aR vR, k1_3 cI aR vR, k1_4 cI aR vR, k1_5 cJ aR vR, k1_6 cJ aR vR, k1_7 cJ aR vR, k1_8 cJ aR vR, k1_9 cJ aR vR]) (w1 := [k3_0 a aA aB aR aT aS vX, k0_0 aA vA, k0_1 cI aA vA, k0_2 cI aA vA, k0_3 cI aA vA, k0_4 cI aA vA, k0_0 aB y8.1, k0_1 cI aB y8.1, k0_2 cI aB y8.1, k0_3 cI aB y8.1, k0_4 cI aB y8.1, k1_0 aT y8.2, k1_1 cJ aT y8.2, k1_2 cI aT y8.2, k1_3 cI aT y8.2, k1_4 cI aT y8.2, k1_5 cJ aT y8.2, k1_6 cJ aT y8.2, k1_7 cJ aT y8.2, k1_8 cJ aT y8.2, k1_9 cJ aT y8.2]) (wo := [k3_0 a aA aB aR aT aS vX, k0_0 aA vA, k0_1 cI aA vA, k0_2 cI aA vA, k0_3 cI aA vA, k0_4 cI aA vA, k0_0 aB y8.1, k0_1 cI aB y8.1, k0_2 cI aB y8.1, k0_3 cI aB y8.1, k0_4 cI aB y8.1, k1_0 aR vR, k1_1 cJ aR vR, k1_2 cI aR vR, k1_3 cI aR vR, k1_4 cI aR vR, k1_5 cJ aR vR, k1_6 cJ aR vR, k1_7 cJ aR vR, k1_8 cJ aR vR, k1_9 cJ aR vR, k1_0 aT y8.2, k1_1 cJ aT y8.2, k1_2 cI aT y8.2, k1_3 cI aT y8.2, k1_4 cI aT y8.2, k1_5 cJ aT y8.2, k1_6 cJ aT y8.2, k1_7 cJ aT y8.2, k1_8 cJ aT y8.2, k1_9 cJ aT y8.2]) hP hD hS hA (va_runV (As := [.int (x8 / (2 : Int32)), .int (x8 - x8 / (2 : Int32) * (2 : Int32))]) (rest := []) ⟨hx, hb, hml, hown, hts⟩ (mX3_settleWithout l dC dI cI cJ a aA aB aR aT aS H.size vX vA vB vT (x8 / (2 : Int32)) (x8 - x8 / (2 : Int32) * (2 : Int32)) y8 hy8) (cwV 2 hts gX3_hardest_X3_settleWithout rfl rfl rfl (by decide +kernel) ⟨Nat.le_of_ble_eq_true rfl, Nat.le_of_ble_eq_true rfl⟩) ⟨cFB, va_recv hK hP (ci := 3) (q0 := 0) rfl rfl, cPre hK hN hS (va_free (wc := [k3_0 a aA aB aR aT aS vX, k0_0 aA vA, k0_1 cI aA vA, k0_2 cI aA vA, k0_3 cI aA vA, k0_4 cI aA vA, k0_0 aB vB, k0_1 cI aB vB, k0_2 cI aB vB, k0_3 cI aB vB, k0_4 cI aB vB, k1_0 aT vT, k1_1 cJ aT vT, k1_2 cI aT vT, k1_3 cI aT vT, k1_4 cI aT vT, k1_5 cJ aT vT, k1_6 cJ aT vT, k1_7 cJ aT vT, k1_8 cJ aT vT, k1_9 cJ aT vT]) hD hS hA [0, 1, 2, 3, 4, 5, 6, 7, 8, 9, 10, 21, 22, 23, 24, 25, 26, 27, 28, 29, 30] rfl) (hP.sub [0, 1, 2, 3, 4, 5, 6, 7, 8, 9, 10, 21, 22, 23, 24, 25, 26, 27, 28, 29, 30] rfl) (hD.sub [0, 1, 2, 3, 4, 5, 6, 7, 8, 9, 10, 21, 22, 23, 24, 25, 26, 27, 28, 29, 30] rfl rfl)⟩ rfl rfl hl.1 rfl (lv_room (Nat.le_of_ble_eq_true rfl)) dX3_hardest_69 ⟨Nat.le_of_ble_eq_true rfl, Nat.le_of_ble_eq_true rfl⟩) [0, 1, 2, 3, 4, 5, 6, 7, 8, 9, 10, 21, 22, 23, 24, 25, 26, 27, 28, 29, 30] [11, 12, 13, 14, 15, 16, 17, 18, 19, 20] [10, 11, 12, 13, 14, 15, 16, 17, 18, 19, 20, 0, 1, 2, 3, 4, 5, 6, 7, 8, 9, 21, 22, 23, 24, 25, 26, 27, 28, 29, 30] rfl rfl rfl (by decide +kernel) rfl rfl (fun H locs hP hD hS => ?_)
          refine lv_aload_n hx hb dX3_hardest_72 rfl (lv_at hl 0 rfl) ?_
          refine va_get (D := (dC, dI)) (ci := 3) (v := .ref (aT 0)) (C := RX3) (T := TX3) (N := 8) hx hb hts hiX3 hown hK hP 0 rfl rfl 6 (by decide) hgX3_38 (fun _ h9 => h9) rfl dX3_hardest_73 ?_
          refine lv_aload_n hx hb dX3_hardest_76 rfl (lv_at hl 2 rfl) ?_
          refine lv_aload_n hx hb dX3_hardest_77 rfl (lv_at hl 0 rfl) ?_
          refine va_get (D := (dC, dI)) (ci := 3) (v := .ref (aA 0)) (C := RX3) (T := TX3) (N := 8) hx hb hts hiX3 hown hK hP 0 rfl rfl 0 (by decide) hgX3_10 (fun _ h9 => h9) rfl dX3_hardest_78 ?_
          refine va_get (D := (dC, dI)) (ci := 0) (v := .int (p0_plates vA)) (C := RX0) (T := TX0) (N := 6) hx hb hts hiX0 hown hK hP 1 rfl rfl 1 (by decide) hgX0_152 (fun _ h9 => h9) rfl dX3_hardest_81 ?_
          obtain ⟨y9, hy9, hf⟩ := obind hf
          refine cg_l (ws := [k3_0 a aA aB aR aT aS vX, k0_0 aA vA, k0_1 cI aA vA, k0_2 cI aA vA, k0_3 cI aA vA, k0_4 cI aA vA, k0_0 aB y8.1, k0_1 cI aB y8.1, k0_2 cI aB y8.1, k0_3 cI aB y8.1, k0_4 cI aB y8.1, k1_0 aR vR, k1_1 cJ aR vR, k1_2 cI aR vR, k1_3 cI aR vR, k1_4 cI aR vR, k1_5 cJ aR vR, k1_6 cJ aR vR, k1_7 cJ aR vR, k1_8 cJ aR vR, k1_9 cJ aR vR, k1_0 aT y8.2, k1_1 cJ aT y8.2, k1_2 cI aT y8.2, k1_3 cI aT y8.2, k1_4 cI aT y8.2, k1_5 cJ aT y8.2, k1_6 cJ aT y8.2, k1_7 cJ aT y8.2, k1_8 cJ aT y8.2, k1_9 cJ aT y8.2]) (wc := [k1_0 aT y8.2, k1_1 cJ aT y8.2, k1_2 cI aT y8.2, k1_3 cI aT y8.2, k1_4 cI aT y8.2, k1_5 cJ aT y8.2, k1_6 cJ aT y8.2, k1_7 cJ aT y8.2, k1_8 cJ aT y8.2, k1_9 cJ aT y8.2, k1_0 aR vR, k1_1 cJ aR vR, k1_2 cI aR vR, k1_3 cI aR vR, k1_4 cI aR vR, k1_5 cJ aR vR, k1_6 cJ aR vR, k1_7 cJ aR vR, k1_8 cJ aR vR, k1_9 cJ aR vR]) (wr := [k3_0 a aA aB aR aT aS vX, k0_0 aA vA, k0_1 cI aA vA, k0_2 cI aA vA, k0_3 cI aA vA, k0_4 cI aA vA, k0_0 aB y8.1, k0_1 cI aB y8.1, k0_2 cI aB y8.1, k0_3 cI aB y8.1, k0_4 cI aB y8.1]) (w1 := [k1_0 aT y8.2, k1_1 cJ aT y8.2, k1_2 cI aT y8.2, k1_3 cI aT y8.2, k1_4 cI aT y8.2, k1_5 cJ aT y8.2, k1_6 cJ aT y8.2, k1_7 cJ aT y8.2, k1_8 cJ aT y8.2, k1_9 cJ aT y8.2, k1_0 aR vR, k1_1 cJ aR vR, k1_2 cI aR vR, k1_3 cI aR vR, k1_4 cI aR vR, k1_5 cJ aR vR, k1_6 cJ aR vR, k1_7 cJ aR vR, k1_8 cJ aR vR, k1_9 cJ aR vR]) (wo := [k3_0 a aA aB aR aT aS vX, k0_0 aA vA, k0_1 cI aA vA, k0_2 cI aA vA, k0_3 cI aA vA, k0_4 cI aA vA, k0_0 aB y8.1, k0_1 cI aB y8.1, k0_2 cI aB y8.1, k0_3 cI aB y8.1, k0_4 cI aB y8.1, k1_0 aR vR, k1_1 cJ aR vR, k1_2 cI aR vR, k1_3 cI aR vR, k1_4 cI aR vR, k1_5 cJ aR vR, k1_6 cJ aR vR, k1_7 cJ aR vR, k1_8 cJ aR vR, k1_9 cJ aR vR, k1_0 aT y8.2, k1_1 cJ aT y8.2, k1_2 cI aT y8.2, k1_3 cI aT y8.2, k1_4 cI aT y8.2, k1_5 cJ aT y8.2, k1_6 cJ aT y8.2, k1_7 cJ aT y8.2, k1_8 cJ aT y8.2, k1_9 cJ aT y8.2]) hP hD hS hA (va_runV (As := [.ref (aR 0), .int (p0_plates vA)]) (rest := []) ⟨hx, hb, hml, hown, hts⟩ (mX1_distanceFrom l dC dI cI cJ aT aR H.size y8.2 vR (p0_plates vA) y9 hy9) (cwV 2 hts gX3_hardest_X1_distanceFrom rfl rfl rfl (by decide +kernel) ⟨Nat.le_of_ble_eq_true rfl, Nat.le_of_ble_eq_true rfl⟩) ⟨cFB, va_recv hK hP (ci := 1) (q0 := 21) rfl rfl, cPre hK hN hS (va_free (wc := [k1_0 aT y8.2, k1_1 cJ aT y8.2, k1_2 cI aT y8.2, k1_3 cI aT y8.2, k1_4 cI aT y8.2, k1_5 cJ aT y8.2, k1_6 cJ aT y8.2, k1_7 cJ aT y8.2, k1_8 cJ aT y8.2, k1_9 cJ aT y8.2, k1_0 aR vR, k1_1 cJ aR vR, k1_2 cI aR vR, k1_3 cI aR vR, k1_4 cI aR vR, k1_5 cJ aR vR, k1_6 cJ aR vR, k1_7 cJ aR vR, k1_8 cJ aR vR, k1_9 cJ aR vR]) hD hS hA [21, 22, 23, 24, 25, 26, 27, 28, 29, 30, 11, 12, 13, 14, 15, 16, 17, 18, 19, 20] rfl) (hP.sub [21, 22, 23, 24, 25, 26, 27, 28, 29, 30, 11, 12, 13, 14, 15, 16, 17, 18, 19, 20] rfl) (hD.sub [21, 22, 23, 24, 25, 26, 27, 28, 29, 30, 11, 12, 13, 14, 15, 16, 17, 18, 19, 20] rfl rfl)⟩ rfl rfl hl.1 rfl (lv_room (Nat.le_of_ble_eq_true rfl)) dX3_hardest_84 ⟨Nat.le_of_ble_eq_true rfl, Nat.le_of_ble_eq_true rfl⟩) [21, 22, 23, 24, 25, 26, 27, 28, 29, 30, 11, 12, 13, 14, 15, 16, 17, 18, 19, 20] [0, 1, 2, 3, 4, 5, 6, 7, 8, 9, 10] [0, 1, 2, 3, 4, 5, 6, 7, 8, 9, 10, 21, 22, 23, 24, 25, 26, 27, 28, 29, 30, 11, 12, 13, 14, 15, 16, 17, 18, 19, 20] rfl rfl rfl (by decide +kernel) rfl rfl (fun H locs hP hD hS => ?_)
          refine lv_lstore (lv' := [(9, .long y9), (0, .ref (a 0)), (1, .int x1), (2, .ref (aR 0)), (3, .int x3), (4, .long l4), (6, .long l6), (8, .int x8)]) hx hb dX3_hardest_87 hl (by decide) rfl (fun ls hl => ?_)
          refine lv_iload_n hx hb dX3_hardest_89 rfl (lv_at hl 4 rfl) ?_
          refine lv_if_lt (tgt := 112) hx hb dX3_hardest_90 (by decide) (fun c10 => ?_) (fun c10 => ?_)
          · have hf := oif_t c10 hf
            exact (hWW _ _ _ _ _ _ _).1 (J112 k29 hk29 vX y8.1 vR y8.2 x1 x8 y9 H locs ls hP hD hS (lv_sub hl [1, 2, 3, 7, 0] rfl) hf)
          · have hf := oif_f c10 hf
            refine lv_lload hx hb dX3_hardest_93 (lv_at hl 0 rfl) ?_
            refine lv_lload hx hb dX3_hardest_95 (lv_at hl 6 rfl) ?_
            refine lv_lmul hx hb dX3_hardest_97 ?_
            refine lv_lload hx hb dX3_hardest_98 (lv_at hl 5 rfl) ?_
            refine lv_aload_n hx hb dX3_hardest_100 rfl (lv_at hl 1 rfl) ?_
            refine va_get (D := (dC, dI)) (ci := 3) (v := .ref (aT 0)) (C := RX3) (T := TX3) (N := 8) hx hb hts hiX3 hown hK hP 0 rfl rfl 6 (by decide) hgX3_38 (fun _ h9 => h9) rfl dX3_hardest_101 ?_
            refine va_get (D := (dC, dI)) (ci := 1) (v := .long (p1_lower y8.2)) (C := RX1) (T := TX1) (N := 10) hx hb hts hiX1 hown hK hP 21 rfl rfl 1 (by decide) hgX1_126 (fun _ h9 => h9) rfl dX3_hardest_104 ?_
            refine lv_lmul hx hb dX3_hardest_107 ?_
            refine W.lcmp hx hb dX3_hardest_108 ?_
            refine lv_if_le (tgt := 128) hx hb dX3_hardest_109 (by decide) (fun c11 => ?_) (fun c11 => ?_)
            · have hf := oif_t c11 hf
              exact (hWW _ _ _ _ _ _ _).1 (J128 k29 hk29 vX y8.1 vR y8.2 x1 x3 l4 l6 x8 H locs ls hP hD hS (lv_sub hl [1, 2, 3, 4, 5, 6, 7] rfl) hf)
            · have hf := oif_f c11 hf
              exact (hWW _ _ _ _ _ _ _).1 (J112 k29 hk29 vX y8.1 vR y8.2 x1 x8 y9 H locs ls hP hD hS (lv_sub hl [1, 2, 3, 7, 0] rfl) hf)
        · have hf := oif_t c7 hf
          refine lv_goto (tgt := 128) hx hb dX3_hardest_57 (by decide) ?_
          exact (hWW _ _ _ _ _ _ _).1 (J128 k29 hk29 vX vB vR vT x1 x3 l4 l6 x8 H locs ls hP hD hS (lv_sub hl [0, 1, 2, 3, 4, 5, 6] rfl) hf)
  refine (hWW _ _ _ _ _ _ _).2 ?_
  unfold fX3_hardest at hf
  refine lv_iload_n hx hb dX3_hardest_0 rfl (lv_at hl 1 rfl) ?_
  refine lv_if_lt (tgt := 9) hx hb dX3_hardest_1 (by decide) (fun c14 => ?_) (fun c14 => ?_)
  · have hf := oif_t c14 hf
    refine lv_ldc2 (v := (-1000001)) hx hb hown hc201 dX3_hardest_9 ?_
    obtain rfl := Option.some.inj hf
    exact W.lret (v := (-1000001)) hx hb hr (fun t ht hW => ⟨⟨(-1000001), (), rfl, rfl, by rw [ht]; exact hP, hD⟩, hS.F ht⟩) hS.2.2 dX3_hardest_12
  · have hf := oif_f c14 hf
    refine lv_iload_n hx hb dX3_hardest_4 rfl (lv_at hl 1 rfl) ?_
    refine lv_iconst (v := 3) hx hb dX3_hardest_5 (by decide) ?_
    refine lv_icmp_le (tgt := 13) hx hb dX3_hardest_6 (by decide) (fun c15 => ?_) (fun c15 => ?_)
    · have hf := oif_t c15 hf
      refine lv_aload_n hx hb dX3_hardest_13 rfl (lv_at hl 0 rfl) ?_
      obtain ⟨y16, hy16, hf⟩ := obind hf
      refine cg_r (ws := [k3_0 a aA aB aR aT aS vX, k0_0 aA vA, k0_1 cI aA vA, k0_2 cI aA vA, k0_3 cI aA vA, k0_4 cI aA vA, k0_0 aB vB, k0_1 cI aB vB, k0_2 cI aB vB, k0_3 cI aB vB, k0_4 cI aB vB, k1_0 aR vR, k1_1 cJ aR vR, k1_2 cI aR vR, k1_3 cI aR vR, k1_4 cI aR vR, k1_5 cJ aR vR, k1_6 cJ aR vR, k1_7 cJ aR vR, k1_8 cJ aR vR, k1_9 cJ aR vR, k1_0 aT vT, k1_1 cJ aT vT, k1_2 cI aT vT, k1_3 cI aT vT, k1_4 cI aT vT, k1_5 cJ aT vT, k1_6 cJ aT vT, k1_7 cJ aT vT, k1_8 cJ aT vT, k1_9 cJ aT vT]) (wc := [k3_0 a aA aB aR aT aS vX, k0_0 aA vA, k0_1 cI aA vA, k0_2 cI aA vA, k0_3 cI aA vA, k0_4 cI aA vA, k1_0 aR vR, k1_1 cJ aR vR, k1_2 cI aR vR, k1_3 cI aR vR, k1_4 cI aR vR, k1_5 cJ aR vR, k1_6 cJ aR vR, k1_7 cJ aR vR, k1_8 cJ aR vR, k1_9 cJ aR vR]) (wr := [k0_0 aB vB, k0_1 cI aB vB, k0_2 cI aB vB, k0_3 cI aB vB, k0_4 cI aB vB, k1_0 aT vT, k1_1 cJ aT vT, k1_2 cI aT vT, k1_3 cI aT vT, k1_4 cI aT vT, k1_5 cJ aT vT, k1_6 cJ aT vT, k1_7 cJ aT vT, k1_8 cJ aT vT, k1_9 cJ aT vT]) (w1 := [k3_0 a aA aB aR aT aS y16.1, k0_0 aA vA, k0_1 cI aA vA, k0_2 cI aA vA, k0_3 cI aA vA, k0_4 cI aA vA, k1_0 aR y16.2, k1_1 cJ aR y16.2, k1_2 cI aR y16.2, k1_3 cI aR y16.2, k1_4 cI aR y16.2, k1_5 cJ aR y16.2, k1_6 cJ aR y16.2, k1_7 cJ aR y16.2, k1_8 cJ aR y16.2, k1_9 cJ aR y16.2]) (wo := [k3_0 a aA aB aR aT aS y16.1, k0_0 aA vA, k0_1 cI aA vA, k0_2 cI aA vA, k0_3 cI aA vA, k0_4 cI aA vA, k0_0 aB vB, k0_1 cI aB vB, k0_2 cI aB vB, k0_3 cI aB vB, k0_4 cI aB vB, k1_0 aR y16.2, k1_1 cJ aR y16.2, k1_2 cI aR y16.2, k1_3 cI aR y16.2, k1_4 cI aR y16.2, k1_5 cJ aR y16.2, k1_6 cJ aR y16.2, k1_7 cJ aR y16.2, k1_8 cJ aR y16.2, k1_9 cJ aR y16.2, k1_0 aT vT, k1_1 cJ aT vT, k1_2 cI aT vT, k1_3 cI aT vT, k1_4 cI aT vT, k1_5 cJ aT vT, k1_6 cJ aT vT, k1_7 cJ aT vT, k1_8 cJ aT vT, k1_9 cJ aT vT]) hP hD hS hA (va_runV (As := []) (rest := []) ⟨hx, hb, hml, hown, hts⟩ (mX3_settled l dC dI cI cJ a aA aB aR aT aS H.size vX vA vR y16 hy16) (cwV 0 hts gX3_hardest_X3_settled rfl rfl rfl (by decide +kernel) ⟨Nat.le_of_ble_eq_true rfl, Nat.le_of_ble_eq_true rfl⟩) ⟨cFB, va_recv hK hP (ci := 3) (q0 := 0) rfl rfl, cPre hK hN hS (va_free (wc := [k3_0 a aA aB aR aT aS vX, k0_0 aA vA, k0_1 cI aA vA, k0_2 cI aA vA, k0_3 cI aA vA, k0_4 cI aA vA, k1_0 aR vR, k1_1 cJ aR vR, k1_2 cI aR vR, k1_3 cI aR vR, k1_4 cI aR vR, k1_5 cJ aR vR, k1_6 cJ aR vR, k1_7 cJ aR vR, k1_8 cJ aR vR, k1_9 cJ aR vR]) hD hS hA [0, 1, 2, 3, 4, 5, 11, 12, 13, 14, 15, 16, 17, 18, 19, 20] rfl) (hP.sub [0, 1, 2, 3, 4, 5, 11, 12, 13, 14, 15, 16, 17, 18, 19, 20] rfl) (hD.sub [0, 1, 2, 3, 4, 5, 11, 12, 13, 14, 15, 16, 17, 18, 19, 20] rfl rfl)⟩ rfl rfl hl.1 rfl (lv_room (Nat.le_of_ble_eq_true rfl)) dX3_hardest_14 ⟨Nat.le_of_ble_eq_true rfl, Nat.le_of_ble_eq_true rfl⟩) [0, 1, 2, 3, 4, 5, 11, 12, 13, 14, 15, 16, 17, 18, 19, 20] [6, 7, 8, 9, 10, 21, 22, 23, 24, 25, 26, 27, 28, 29, 30] [15, 16, 17, 18, 19, 20, 0, 1, 2, 3, 4, 21, 22, 23, 24, 25, 26, 27, 28, 29, 30, 5, 6, 7, 8, 9, 10, 11, 12, 13, 14] rfl rfl rfl (by decide +kernel) rfl rfl (fun H locs hP hD hS => ?_)
      refine lv_astore_n (lv' := [(2, .ref (aR 0)), (0, .ref (a 0)), (1, .int i1)]) hx hb dX3_hardest_17 rfl hl (by decide) rfl (fun ls hl => ?_)
      refine lv_iconst (v := (-1)) hx hb dX3_hardest_18 (by decide) ?_
      refine lv_istore_n (lv' := [(3, .int (-1)), (2, .ref (aR 0)), (0, .ref (a 0)), (1, .int i1)]) hx hb dX3_hardest_19 rfl hl (by decide) rfl (fun ls hl => ?_)
      refine lv_lconst (v := 0) hx hb dX3_hardest_20 (by decide) ?_
      refine lv_lstore (lv' := [(4, .long 0), (3, .int (-1)), (2, .ref (aR 0)), (0, .ref (a 0)), (1, .int i1)]) hx hb dX3_hardest_21 hl (by decide) rfl (fun ls hl => ?_)
      refine lv_lconst (v := 1) hx hb dX3_hardest_23 (by decide) ?_
      refine lv_lstore (lv' := [(6, .long 1), (4, .long 0), (3, .int (-1)), (2, .ref (aR 0)), (0, .ref (a 0)), (1, .int i1)]) hx hb dX3_hardest_24 hl (by decide) rfl (fun ls hl => ?_)
      refine lv_iconst (v := 0) hx hb dX3_hardest_26 (by decide) ?_
      refine lv_istore (lv' := [(8, .int 0), (6, .long 1), (4, .long 0), (3, .int (-1)), (2, .ref (aR 0)), (0, .ref (a 0)), (1, .int i1)]) hx hb dX3_hardest_27 hl (by decide) rfl (fun ls hl => ?_)
      exact (hWW _ _ _ _ _ _ _).1 (L29 FU y16.1 vB y16.2 vT i1 (-1 : Int32) (0 : Int64) (1 : Int64) (0 : Int32) H locs ls hP hD hS (lv_sub hl [5, 6, 4, 3, 2, 1, 0] rfl) hf)
    · have hf := oif_f c15 hf
      refine lv_ldc2 (v := (-1000001)) hx hb hown hc201 dX3_hardest_9 ?_
      obtain rfl := Option.some.inj hf
      exact W.lret (v := (-1000001)) hx hb hr (fun t ht hW => ⟨⟨(-1000001), (), rfl, rfl, by rw [ht]; exact hP, hD⟩, hS.F ht⟩) hS.2.2 dX3_hardest_12
def fX3_count (vX : BX3) (vA : BX0) (vS : BX2) (i1 : Int32) : Option Int32 :=
  if i1 = 0 then (some (p0_plates vA)) else (if i1 = 1 then (some (p0_width vA)) else (if i1 = 2 then ((fX0_countStops vA).bind (fun y4 => some y4)) else (if i1 = 3 then ((fX0_sumOfLoads vA (0 : Int32) ((p0_plates vA) - (1 : Int32))).bind (fun y6 => some (y6 + (1000 : Int32)))) else (if i1 = 4 then (some (p3_states vX)) else (if i1 = 5 then (some (p2_size vS)) else (some (-1000001)))))))
set_option maxHeartbeats 8000000 in
set_option maxRecDepth 100000 in
theorem mX3_count (l : Launch) (dC : Nat → ClassId) (dI : Nat → Nat → Nat) (cI cJ : ClassId) (a : Nat → Nat) (aA : Nat → Nat) (aB : Nat → Nat) (aR : Nat → Nat) (aT : Nat → Nat) (aS : Nat → Nat) (sz : Nat) (vX : BX3) (vA : BX0) (vS : BX2) (i1 : Int32) (y : Int32) (hf : fX3_count vX vA vS i1 = some y) : Met l yX3_count wsX3_count ({ frames := 1, cells := 0, slots := 0, locals := 24 }) (cPc dC dI cI cJ [.ref (a 0), .int i1] [k3_0 a aA aB aR aT aS vX, k0_0 aA vA, k0_1 cI aA vA, k0_2 cI aA vA, k0_3 cI aA vA, k0_4 cI aA vA, k2_0 aS vS, k2_1 cI aS vS, k2_2 cI aS vS] sz) (va_Qi (fun r (_ : Unit) => r = y) (fun _ t => cB dC dI (va_A [k3_0 a aA aB aR aT aS vX, k0_0 aA vA, k0_1 cI aA vA, k0_2 cI aA vA, k0_3 cI aA vA, k0_4 cI aA vA, k2_0 aS vS, k2_1 cI aS vS, k2_2 cI aS vS] sz) [k3_0 a aA aB aR aT aS vX, k0_0 aA vA, k0_1 cI aA vA, k0_2 cI aA vA, k0_3 cI aA vA, k0_4 cI aA vA, k2_0 aS vS, k2_1 cI aS vS, k2_2 cI aS vS] t) (va_A [k3_0 a aA aB aR aT aS vX, k0_0 aA vA, k0_1 cI aA vA, k0_2 cI aA vA, k0_3 cI aA vA, k0_4 cI aA vA, k2_0 aS vS, k2_1 cI aS vS, k2_2 cI aS vS] sz)) 0 0 (va_A [k3_0 a aA aB aR aT aS vX, k0_0 aA vA, k0_1 cI aA vA, k0_2 cI aA vA, k0_3 cI aA vA, k0_4 cI aA vA, k2_0 aS vS, k2_1 cI aS vS, k2_2 cI aS vS] sz) := by
  refine Met.ofW (cc := cX3_count) (maxL := 2) (ret := (some .int)) (by decide) rfl ?_
  intro p e s m args below meth c s₁ B hml hv
  obtain ⟨rfl, hsz, hP, hK, hD0, hN⟩ := hv
  have hx := B.exec
  have hb := B.bytes
  have hr := B.returns
  have hts := atoms_spec (ws := wsX3_count) B.pre
  have hown : s.vm.findClass RX3 = some m.cls := findClass_of_methodNamed B.named
  have hlocks := B.notSynchronized
  subst hsz
  have hD := hD0.self (sz := s.heap.size)
  generalize hAe : va_A [k3_0 a aA aB aR aT aS vX, k0_0 aA vA, k0_1 cI aA vA, k0_2 cI aA vA, k0_3 cI aA vA, k0_4 cI aA vA, k2_0 aS vS, k2_1 cI aS vS, k2_2 cI aS vS] s.heap.size = A at hD hN ⊢
  have hA : ∀ q : Nat, s.heap.size ≤ q → A q := fun q h => by rw [← hAe]; exact Or.inr h
  have hP : va_P (dC, dI) vwCl [k3_0 a aA aB aR aT aS vX, k0_0 aA vA, k0_1 cI aA vA, k0_2 cI aA vA, k0_3 cI aA vA, k0_4 cI aA vA, k2_0 aS vS, k2_1 cI aS vS, k2_2 cI aS vS] s.heap := hP
  have hl := lv_entry ([.ref (a 0), .int i1]) (n := 2) (Nat.le_of_ble_eq_true rfl)
  rw [lg_entry_eq]
  generalize (lg_sl ([.ref (a 0), .int i1]) ++ List.replicate (2 - (lg_sl ([.ref (a 0), .int i1])).length) Slot.unset).toArray = ls at hl ⊢
  have hl : lv_has ls 2 [(0, .ref (a 0)), (1, .int i1)] := hl
  have hiX3 : ∀ w ∈ u_ws RX3 TX3 8, w ∈ wsX3_count := by decide +kernel
  have hgX3_10 := hts (.fieldLink RX3 10 "SpringPlates" "laid" "LSpringPlates$Layout;") (by decide +kernel)
  have hiX0 : ∀ w ∈ u_ws RX0 TX0 6, w ∈ wsX3_count := by decide +kernel
  have hgX0_152 := hts (.fieldLink RX3 152 "SpringPlates$Layout" "plates" "I") (by decide +kernel)
  have hgX0_169 := hts (.fieldLink RX3 169 "SpringPlates$Layout" "width" "I") (by decide +kernel)
  have hgX3_23 := hts (.fieldLink RX3 23 "SpringPlates" "states" "I") (by decide +kernel)
  have hgX3_44 := hts (.fieldLink RX3 44 "SpringPlates" "script" "LSpringPlates$Script;") (by decide +kernel)
  have hiX2 : ∀ w ∈ u_ws RX2 TX2 9, w ∈ wsX3_count := by decide +kernel
  have hgX2_218 := hts (.fieldLink RX3 218 "SpringPlates$Script" "size" "I") (by decide +kernel)
  have hc84 := hts (.constant RX3 84 (-1000001)) (by decide +kernel)
  refine nameH (fun H locs hHe hLe => ?_)
  have hP : va_P (dC, dI) vwCl [k3_0 a aA aB aR aT aS vX, k0_0 aA vA, k0_1 cI aA vA, k0_2 cI aA vA, k0_3 cI aA vA, k0_4 cI aA vA, k2_0 aS vS, k2_1 cI aS vS, k2_2 cI aS vS] H := by rw [hHe]; exact hP
  have hS : va_S A s.heap H locs := by rw [hHe, hLe]; exact va_S.rf
  unfold fX3_count at hf
  refine lv_iload_n hx hb dX3_count_0 rfl (lv_at hl 1 rfl) ?_
  by_cases c1 : i1 = 0
  · have hf := oif_t c1 hf
    refine lv_tableIn (tgt := 40) hx hb dX3_count_1 (by rw [c1]; decide) (by rw [c1]; decide) (by rw [c1]; rfl) (by decide) ?_
    refine lv_aload_n hx hb dX3_count_40 rfl (lv_at hl 0 rfl) ?_
    refine va_get (D := (dC, dI)) (ci := 3) (v := .ref (aA 0)) (C := RX3) (T := TX3) (N := 8) hx hb hts hiX3 hown hK hP 0 rfl rfl 0 (by decide) hgX3_10 (fun _ h9 => h9) rfl dX3_count_41 ?_
    refine va_get (D := (dC, dI)) (ci := 0) (v := .int (p0_plates vA)) (C := RX0) (T := TX0) (N := 6) hx hb hts hiX0 hown hK hP 1 rfl rfl 1 (by decide) hgX0_152 (fun _ h9 => h9) rfl dX3_count_44 ?_
    obtain rfl := Option.some.inj hf
    exact W.iret (v := (p0_plates vA)) hx hb hr (fun t ht hW => ⟨⟨(p0_plates vA), (), rfl, rfl, by rw [ht]; exact hP, hD⟩, hS.F ht⟩) hS.2.2 dX3_count_47
  · have hf := oif_f c1 hf
    by_cases c2 : i1 = 1
    · have hf := oif_t c2 hf
      refine lv_tableIn (tgt := 48) hx hb dX3_count_1 (by rw [c2]; decide) (by rw [c2]; decide) (by rw [c2]; rfl) (by decide) ?_
      refine lv_aload_n hx hb dX3_count_48 rfl (lv_at hl 0 rfl) ?_
      refine va_get (D := (dC, dI)) (ci := 3) (v := .ref (aA 0)) (C := RX3) (T := TX3) (N := 8) hx hb hts hiX3 hown hK hP 0 rfl rfl 0 (by decide) hgX3_10 (fun _ h9 => h9) rfl dX3_count_49 ?_
      refine va_get (D := (dC, dI)) (ci := 0) (v := .int (p0_width vA)) (C := RX0) (T := TX0) (N := 6) hx hb hts hiX0 hown hK hP 1 rfl rfl 0 (by decide) hgX0_169 (fun _ h9 => h9) rfl dX3_count_52 ?_
      obtain rfl := Option.some.inj hf
      exact W.iret (v := (p0_width vA)) hx hb hr (fun t ht hW => ⟨⟨(p0_width vA), (), rfl, rfl, by rw [ht]; exact hP, hD⟩, hS.F ht⟩) hS.2.2 dX3_count_55
    · have hf := oif_f c2 hf
      by_cases c3 : i1 = 2
      · have hf := oif_t c3 hf
        refine lv_tableIn (tgt := 56) hx hb dX3_count_1 (by rw [c3]; decide) (by rw [c3]; decide) (by rw [c3]; rfl) (by decide) ?_
        refine lv_aload_n hx hb dX3_count_56 rfl (lv_at hl 0 rfl) ?_
        refine va_get (D := (dC, dI)) (ci := 3) (v := .ref (aA 0)) (C := RX3) (T := TX3) (N := 8) hx hb hts hiX3 hown hK hP 0 rfl rfl 0 (by decide) hgX3_10 (fun _ h9 => h9) rfl dX3_count_57 ?_
        obtain ⟨y4, hy4, hf⟩ := obind hf
        refine cg_i (ws := [k3_0 a aA aB aR aT aS vX, k0_0 aA vA, k0_1 cI aA vA, k0_2 cI aA vA, k0_3 cI aA vA, k0_4 cI aA vA, k2_0 aS vS, k2_1 cI aS vS, k2_2 cI aS vS]) (wc := [k0_0 aA vA, k0_1 cI aA vA, k0_2 cI aA vA, k0_3 cI aA vA, k0_4 cI aA vA]) (wr := [k3_0 a aA aB aR aT aS vX, k2_0 aS vS, k2_1 cI aS vS, k2_2 cI aS vS]) (w1 := [k0_0 aA vA, k0_1 cI aA vA, k0_2 cI aA vA, k0_3 cI aA vA, k0_4 cI aA vA]) (wo := [k3_0 a aA aB aR aT aS vX, k0_0 aA vA, k0_1 cI aA vA, k0_2 cI aA vA, k0_3 cI aA vA, k0_4 cI aA vA, k2_0 aS vS, k2_1 cI aS vS, k2_2 cI aS vS]) hP hD hS hA (va_runV (As := []) (rest := []) ⟨hx, hb, hml, hown, hts⟩ (mX0_countStops l dC dI cI cJ aA H.size vA y4 hy4) (cwV 0 hts gX3_count_X0_countStops rfl rfl rfl (by decide +kernel) ⟨Nat.le_of_ble_eq_true rfl, Nat.le_of_ble_eq_true rfl⟩) ⟨cFB, va_recv hK hP (ci := 0) (q0 := 1) rfl rfl, cPre hK hN hS (va_free (wc := [k0_0 aA vA, k0_1 cI aA vA, k0_2 cI aA vA, k0_3 cI aA vA, k0_4 cI aA vA]) hD hS hA [1, 2, 3, 4, 5] rfl) (hP.sub [1, 2, 3, 4, 5] rfl) (hD.sub [1, 2, 3, 4, 5] rfl rfl)⟩ rfl rfl hl.1 rfl (lv_room (Nat.le_of_ble_eq_true rfl)) dX3_count_60 ⟨Nat.le_of_ble_eq_true rfl, Nat.le_of_ble_eq_true rfl⟩) [1, 2, 3, 4, 5] [0, 6, 7, 8] [0, 4, 5, 6, 7, 8, 1, 2, 3] rfl rfl rfl (by decide +kernel) rfl rfl (fun H locs hP hD hS => ?_)
        obtain rfl := Option.some.inj hf
        exact W.iret (v := y4) hx hb hr (fun t ht hW => ⟨⟨y4, (), rfl, rfl, by rw [ht]; exact hP, hD⟩, hS.F ht⟩) hS.2.2 dX3_count_63
      · have hf := oif_f c3 hf
        by_cases c5 : i1 = 3
        · have hf := oif_t c5 hf
          refine lv_tableIn (tgt := 64) hx hb dX3_count_1 (by rw [c5]; decide) (by rw [c5]; decide) (by rw [c5]; rfl) (by decide) ?_
          refine lv_aload_n hx hb dX3_count_64 rfl (lv_at hl 0 rfl) ?_
          refine va_get (D := (dC, dI)) (ci := 3) (v := .ref (aA 0)) (C := RX3) (T := TX3) (N := 8) hx hb hts hiX3 hown hK hP 0 rfl rfl 0 (by decide) hgX3_10 (fun _ h9 => h9) rfl dX3_count_65 ?_
          refine lv_iconst (v := 0) hx hb dX3_count_68 (by decide) ?_
          refine lv_aload_n hx hb dX3_count_69 rfl (lv_at hl 0 rfl) ?_
          refine va_get (D := (dC, dI)) (ci := 3) (v := .ref (aA 0)) (C := RX3) (T := TX3) (N := 8) hx hb hts hiX3 hown hK hP 0 rfl rfl 0 (by decide) hgX3_10 (fun _ h9 => h9) rfl dX3_count_70 ?_
          refine va_get (D := (dC, dI)) (ci := 0) (v := .int (p0_plates vA)) (C := RX0) (T := TX0) (N := 6) hx hb hts hiX0 hown hK hP 1 rfl rfl 1 (by decide) hgX0_152 (fun _ h9 => h9) rfl dX3_count_73 ?_
          refine lv_iconst (v := 1) hx hb dX3_count_76 (by decide) ?_
          refine lv_isub hx hb dX3_count_77 ?_
          obtain ⟨y6, hy6, hf⟩ := obind hf
          refine cg_i (ws := [k3_0 a aA aB aR aT aS vX, k0_0 aA vA, k0_1 cI aA vA, k0_2 cI aA vA, k0_3 cI aA vA, k0_4 cI aA vA, k2_0 aS vS, k2_1 cI aS vS, k2_2 cI aS vS]) (wc := [k0_0 aA vA, k0_1 cI aA vA, k0_2 cI aA vA, k0_3 cI aA vA, k0_4 cI aA vA]) (wr := [k3_0 a aA aB aR aT aS vX, k2_0 aS vS, k2_1 cI aS vS, k2_2 cI aS vS]) (w1 := [k0_0 aA vA, k0_1 cI aA vA, k0_2 cI aA vA, k0_3 cI aA vA, k0_4 cI aA vA]) (wo := [k3_0 a aA aB aR aT aS vX, k0_0 aA vA, k0_1 cI aA vA, k0_2 cI aA vA, k0_3 cI aA vA, k0_4 cI aA vA, k2_0 aS vS, k2_1 cI aS vS, k2_2 cI aS vS]) hP hD hS hA (va_runV (As := [.int 0, .int ((p0_plates vA) - (1 : Int32))]) (rest := []) ⟨hx, hb, hml, hown, hts⟩ (mX0_sumOfLoads l dC dI cI cJ aA H.size vA (0 : Int32) ((p0_plates vA) - (1 : Int32)) y6 hy6) (cwV 2 hts gX3_count_X0_sumOfLoads rfl rfl rfl (by decide +kernel) ⟨Nat.le_of_ble_eq_true rfl, Nat.le_of_ble_eq_true rfl⟩) ⟨cFB, va_recv hK hP (ci := 0) (q0 := 1) rfl rfl, cPre hK hN hS (va_free (wc := [k0_0 aA vA, k0_1 cI aA vA, k0_2 cI aA vA, k0_3 cI aA vA, k0_4 cI aA vA]) hD hS hA [1, 2, 3, 4, 5] rfl) (hP.sub [1, 2, 3, 4, 5] rfl) (hD.sub [1, 2, 3, 4, 5] rfl rfl)⟩ rfl rfl hl.1 rfl (lv_room (Nat.le_of_ble_eq_true rfl)) dX3_count_78 ⟨Nat.le_of_ble_eq_true rfl, Nat.le_of_ble_eq_true rfl⟩) [1, 2, 3, 4, 5] [0, 6, 7, 8] [0, 4, 5, 6, 7, 8, 1, 2, 3] rfl rfl rfl (by decide +kernel) rfl rfl (fun H locs hP hD hS => ?_)
          refine lv_sipush (v := 1000) hx hb dX3_count_81 (by decide) ?_
          refine lv_iadd hx hb dX3_count_84 ?_
          obtain rfl := Option.some.inj hf
          exact W.iret (v := (y6 + (1000 : Int32))) hx hb hr (fun t ht hW => ⟨⟨(y6 + (1000 : Int32)), (), rfl, rfl, by rw [ht]; exact hP, hD⟩, hS.F ht⟩) hS.2.2 dX3_count_85
        · have hf := oif_f c5 hf
          by_cases c7 : i1 = 4
          · have hf := oif_t c7 hf
            refine lv_tableIn (tgt := 86) hx hb dX3_count_1 (by rw [c7]; decide) (by rw [c7]; decide) (by rw [c7]; rfl) (by decide) ?_
            refine lv_aload_n hx hb dX3_count_86 rfl (lv_at hl 0 rfl) ?_
            refine va_get (D := (dC, dI)) (ci := 3) (v := .int (p3_states vX)) (C := RX3) (T := TX3) (N := 8) hx hb hts hiX3 hown hK hP 0 rfl rfl 3 (by decide) hgX3_23 (fun _ h9 => h9) rfl dX3_count_87 ?_
            obtain rfl := Option.some.inj hf
            exact W.iret (v := (p3_states vX)) hx hb hr (fun t ht hW => ⟨⟨(p3_states vX), (), rfl, rfl, by rw [ht]; exact hP, hD⟩, hS.F ht⟩) hS.2.2 dX3_count_90
          · have hf := oif_f c7 hf
            by_cases c8 : i1 = 5
            · have hf := oif_t c8 hf
              refine lv_tableIn (tgt := 91) hx hb dX3_count_1 (by rw [c8]; decide) (by rw [c8]; decide) (by rw [c8]; rfl) (by decide) ?_
              refine lv_aload_n hx hb dX3_count_91 rfl (lv_at hl 0 rfl) ?_
              refine va_get (D := (dC, dI)) (ci := 3) (v := .ref (aS 0)) (C := RX3) (T := TX3) (N := 8) hx hb hts hiX3 hown hK hP 0 rfl rfl 7 (by decide) hgX3_44 (fun _ h9 => h9) rfl dX3_count_92 ?_
              refine va_get (D := (dC, dI)) (ci := 2) (v := .int (p2_size vS)) (C := RX2) (T := TX2) (N := 9) hx hb hts hiX2 hown hK hP 6 rfl rfl 1 (by decide) hgX2_218 (fun _ h9 => h9) rfl dX3_count_95 ?_
              obtain rfl := Option.some.inj hf
              exact W.iret (v := (p2_size vS)) hx hb hr (fun t ht hW => ⟨⟨(p2_size vS), (), rfl, rfl, by rw [ht]; exact hP, hD⟩, hS.F ht⟩) hS.2.2 dX3_count_98
            · have hf := oif_f c8 hf
              refine lv_tableOut (tgt := 99) hx hb dX3_count_1 (by have t0 := toInt_ne (n := 0) rfl c1; have t1 := toInt_ne (n := 1) rfl c2; have t2 := toInt_ne (n := 2) rfl c3; have t3 := toInt_ne (n := 3) rfl c5; have t4 := toInt_ne (n := 4) rfl c7; have t5 := toInt_ne (n := 5) rfl c8; omega) (by decide) ?_
              refine lv_ldc (v := (-1000001)) hx hb hown hc84 dX3_count_99 ?_
              obtain rfl := Option.some.inj hf
              exact W.iret (v := (-1000001)) hx hb hr (fun t ht hW => ⟨⟨(-1000001), (), rfl, rfl, by rw [ht]; exact hP, hD⟩, hS.F ht⟩) hS.2.2 dX3_count_101
def fX3_type (vX : BX3) (vS : BX2) (i1 : Int32) : Option (Int32 × BX2) :=
  (fX2_append vS i1).bind (fun y1 => some (y1.1, y1.2))
set_option maxHeartbeats 8000000 in
set_option maxRecDepth 100000 in
theorem mX3_type (l : Launch) (dC : Nat → ClassId) (dI : Nat → Nat → Nat) (cI cJ : ClassId) (a : Nat → Nat) (aA : Nat → Nat) (aB : Nat → Nat) (aR : Nat → Nat) (aT : Nat → Nat) (aS : Nat → Nat) (sz : Nat) (vX : BX3) (vS : BX2) (i1 : Int32) (y : (Int32 × BX2)) (hf : fX3_type vX vS i1 = some y) : Met l yX3_type wsX3_type ({ frames := 1, cells := 0, slots := 0, locals := 21 }) (cPc dC dI cI cJ [.ref (a 0), .int i1] [k3_0 a aA aB aR aT aS vX, k2_0 aS vS, k2_1 cI aS vS, k2_2 cI aS vS] sz) (va_Qi (fun r (_ : Unit) => r = y.1) (fun _ t => cB dC dI (va_A [k3_0 a aA aB aR aT aS vX, k2_0 aS vS, k2_1 cI aS vS, k2_2 cI aS vS] sz) [k3_0 a aA aB aR aT aS vX, k2_0 aS y.2, k2_1 cI aS y.2, k2_2 cI aS y.2] t) (va_A [k3_0 a aA aB aR aT aS vX, k2_0 aS vS, k2_1 cI aS vS, k2_2 cI aS vS] sz)) 0 0 (va_A [k3_0 a aA aB aR aT aS vX, k2_0 aS vS, k2_1 cI aS vS, k2_2 cI aS vS] sz) := by
  refine Met.ofW (cc := cX3_type) (maxL := 2) (ret := (some .int)) (by decide) rfl ?_
  intro p e s m args below meth c s₁ B hml hv
  obtain ⟨rfl, hsz, hP, hK, hD0, hN⟩ := hv
  have hx := B.exec
  have hb := B.bytes
  have hr := B.returns
  have hts := atoms_spec (ws := wsX3_type) B.pre
  have hown : s.vm.findClass RX3 = some m.cls := findClass_of_methodNamed B.named
  have hlocks := B.notSynchronized
  subst hsz
  have hD := hD0.self (sz := s.heap.size)
  generalize hAe : va_A [k3_0 a aA aB aR aT aS vX, k2_0 aS vS, k2_1 cI aS vS, k2_2 cI aS vS] s.heap.size = A at hD hN ⊢
  have hA : ∀ q : Nat, s.heap.size ≤ q → A q := fun q h => by rw [← hAe]; exact Or.inr h
  have hP : va_P (dC, dI) vwCl [k3_0 a aA aB aR aT aS vX, k2_0 aS vS, k2_1 cI aS vS, k2_2 cI aS vS] s.heap := hP
  have hl := lv_entry ([.ref (a 0), .int i1]) (n := 2) (Nat.le_of_ble_eq_true rfl)
  rw [lg_entry_eq]
  generalize (lg_sl ([.ref (a 0), .int i1]) ++ List.replicate (2 - (lg_sl ([.ref (a 0), .int i1])).length) Slot.unset).toArray = ls at hl ⊢
  have hl : lv_has ls 2 [(0, .ref (a 0)), (1, .int i1)] := hl
  have hiX3 : ∀ w ∈ u_ws RX3 TX3 8, w ∈ wsX3_type := by decide +kernel
  have hgX3_44 := hts (.fieldLink RX3 44 "SpringPlates" "script" "LSpringPlates$Script;") (by decide +kernel)
  refine nameH (fun H locs hHe hLe => ?_)
  have hP : va_P (dC, dI) vwCl [k3_0 a aA aB aR aT aS vX, k2_0 aS vS, k2_1 cI aS vS, k2_2 cI aS vS] H := by rw [hHe]; exact hP
  have hS : va_S A s.heap H locs := by rw [hHe, hLe]; exact va_S.rf
  unfold fX3_type at hf
  refine lv_aload_n hx hb dX3_type_0 rfl (lv_at hl 0 rfl) ?_
  refine va_get (D := (dC, dI)) (ci := 3) (v := .ref (aS 0)) (C := RX3) (T := TX3) (N := 8) hx hb hts hiX3 hown hK hP 0 rfl rfl 7 (by decide) hgX3_44 (fun _ h9 => h9) rfl dX3_type_1 ?_
  refine lv_iload_n hx hb dX3_type_4 rfl (lv_at hl 1 rfl) ?_
  obtain ⟨y1, hy1, hf⟩ := obind hf
  refine cg_i (ws := [k3_0 a aA aB aR aT aS vX, k2_0 aS vS, k2_1 cI aS vS, k2_2 cI aS vS]) (wc := [k2_0 aS vS, k2_1 cI aS vS, k2_2 cI aS vS]) (wr := [k3_0 a aA aB aR aT aS vX]) (w1 := [k2_0 aS y1.2, k2_1 cI aS y1.2, k2_2 cI aS y1.2]) (wo := [k3_0 a aA aB aR aT aS vX, k2_0 aS y1.2, k2_1 cI aS y1.2, k2_2 cI aS y1.2]) hP hD hS hA (va_runV (As := [.int i1]) (rest := []) ⟨hx, hb, hml, hown, hts⟩ (mX2_append l dC dI cI cJ aS H.size vS i1 y1 hy1) (cwV 1 hts gX3_type_X2_append rfl rfl rfl (by decide +kernel) ⟨Nat.le_of_ble_eq_true rfl, Nat.le_of_ble_eq_true rfl⟩) ⟨cFB, va_recv hK hP (ci := 2) (q0 := 1) rfl rfl, cPre hK hN hS (va_free (wc := [k2_0 aS vS, k2_1 cI aS vS, k2_2 cI aS vS]) hD hS hA [1, 2, 3] rfl) (hP.sub [1, 2, 3] rfl) (hD.sub [1, 2, 3] rfl rfl)⟩ rfl rfl hl.1 rfl (lv_room (Nat.le_of_ble_eq_true rfl)) dX3_type_5 ⟨Nat.le_of_ble_eq_true rfl, Nat.le_of_ble_eq_true rfl⟩) [1, 2, 3] [0] [0, 1, 2, 3] rfl rfl rfl (by decide +kernel) rfl rfl (fun H locs hP hD hS => ?_)
  obtain rfl := Option.some.inj hf
  exact W.iret (v := y1.1) hx hb hr (fun t ht hW => ⟨⟨y1.1, (), rfl, rfl, by rw [ht]; exact hP, hD⟩, hS.F ht⟩) hS.2.2 dX3_type_8
def fX3_clearText (vX : BX3) (vS : BX2) : Option (Int32 × BX2) :=
  elet (p2_size vS) (fun z1 => elet (s2_size vS 0) (fun b2 => some (z1, b2)))
set_option maxHeartbeats 8000000 in
set_option maxRecDepth 100000 in
theorem mX3_clearText (l : Launch) (dC : Nat → ClassId) (dI : Nat → Nat → Nat) (cI cJ : ClassId) (a : Nat → Nat) (aA : Nat → Nat) (aB : Nat → Nat) (aR : Nat → Nat) (aT : Nat → Nat) (aS : Nat → Nat) (sz : Nat) (vX : BX3) (vS : BX2) (y : (Int32 × BX2)) (hf : fX3_clearText vX vS = some y) : Met l yX3_clearText wsX3_clearText ({ frames := 0, cells := 0, slots := 0, locals := 0 }) (cPc dC dI cI cJ [.ref (a 0)] [k3_0 a aA aB aR aT aS vX, k2_0 aS vS, k2_1 cI aS vS, k2_2 cI aS vS] sz) (va_Qi (fun r (_ : Unit) => r = y.1) (fun _ t => cB dC dI (va_A [k3_0 a aA aB aR aT aS vX, k2_0 aS vS, k2_1 cI aS vS, k2_2 cI aS vS] sz) [k3_0 a aA aB aR aT aS vX, k2_0 aS y.2, k2_1 cI aS y.2, k2_2 cI aS y.2] t) (va_A [k3_0 a aA aB aR aT aS vX, k2_0 aS vS, k2_1 cI aS vS, k2_2 cI aS vS] sz)) 0 0 (va_A [k3_0 a aA aB aR aT aS vX, k2_0 aS vS, k2_1 cI aS vS, k2_2 cI aS vS] sz) := by
  refine Met.ofW (cc := cX3_clearText) (maxL := 2) (ret := (some .int)) (by decide) rfl ?_
  intro p e s m args below meth c s₁ B hml hv
  obtain ⟨rfl, hsz, hP, hK, hD0, hN⟩ := hv
  have hx := B.exec
  have hb := B.bytes
  have hr := B.returns
  have hts := atoms_spec (ws := wsX3_clearText) B.pre
  have hown : s.vm.findClass RX3 = some m.cls := findClass_of_methodNamed B.named
  have hlocks := B.notSynchronized
  subst hsz
  have hD := hD0.self (sz := s.heap.size)
  generalize hAe : va_A [k3_0 a aA aB aR aT aS vX, k2_0 aS vS, k2_1 cI aS vS, k2_2 cI aS vS] s.heap.size = A at hD hN ⊢
  have hA : ∀ q : Nat, s.heap.size ≤ q → A q := fun q h => by rw [← hAe]; exact Or.inr h
  have hP : va_P (dC, dI) vwCl [k3_0 a aA aB aR aT aS vX, k2_0 aS vS, k2_1 cI aS vS, k2_2 cI aS vS] s.heap := hP
  have hl := lv_entry ([.ref (a 0)]) (n := 2) (Nat.le_of_ble_eq_true rfl)
  rw [lg_entry_eq]
  generalize (lg_sl ([.ref (a 0)]) ++ List.replicate (2 - (lg_sl ([.ref (a 0)])).length) Slot.unset).toArray = ls at hl ⊢
  have hl : lv_has ls 2 [(0, .ref (a 0))] := hl
  have hiX3 : ∀ w ∈ u_ws RX3 TX3 8, w ∈ wsX3_clearText := by decide +kernel
  have hgX3_44 := hts (.fieldLink RX3 44 "SpringPlates" "script" "LSpringPlates$Script;") (by decide +kernel)
  have hiX2 : ∀ w ∈ u_ws RX2 TX2 9, w ∈ wsX3_clearText := by decide +kernel
  have hgX2_218 := hts (.fieldLink RX3 218 "SpringPlates$Script" "size" "I") (by decide +kernel)
  refine nameH (fun H locs hHe hLe => ?_)
  have hP : va_P (dC, dI) vwCl [k3_0 a aA aB aR aT aS vX, k2_0 aS vS, k2_1 cI aS vS, k2_2 cI aS vS] H := by rw [hHe]; exact hP
  have hS : va_S A s.heap H locs := by rw [hHe, hLe]; exact va_S.rf
  unfold fX3_clearText at hf
  refine lv_aload_n hx hb dX3_clearText_0 rfl (lv_at hl 0 rfl) ?_
  refine va_get (D := (dC, dI)) (ci := 3) (v := .ref (aS 0)) (C := RX3) (T := TX3) (N := 8) hx hb hts hiX3 hown hK hP 0 rfl rfl 7 (by decide) hgX3_44 (fun _ h9 => h9) rfl dX3_clearText_1 ?_
  refine va_get (D := (dC, dI)) (ci := 2) (v := .int (p2_size vS)) (C := RX2) (T := TX2) (N := 9) hx hb hts hiX2 hown hK hP 1 rfl rfl 1 (by decide) hgX2_218 (fun _ h9 => h9) rfl dX3_clearText_4 ?_
  obtain ⟨z1, ez1, hf⟩ := elet_out hf
  refine lvn_i ez1 ?_
  refine lv_istore_n (lv' := [(1, .int z1), (0, .ref (a 0))]) hx hb dX3_clearText_7 rfl hl (by decide) rfl (fun ls hl => ?_)
  refine lv_aload_n hx hb dX3_clearText_8 rfl (lv_at hl 1 rfl) ?_
  refine va_get (D := (dC, dI)) (ci := 3) (v := .ref (aS 0)) (C := RX3) (T := TX3) (N := 8) hx hb hts hiX3 hown hK hP 0 rfl rfl 7 (by decide) hgX3_44 (fun _ h9 => h9) rfl dX3_clearText_9 ?_
  refine lv_iconst (v := 0) hx hb dX3_clearText_12 (by decide) ?_
  obtain ⟨b2, eb2, hf⟩ := elet_out hf
  refine va_put (D := (dC, dI)) (ci := 2) (v := .int 0) (ty := .int) (C := RX2) (T := TX2) (N := 9) hx hb hts hiX2 tyX2 tyX2_ok nmX2 hown hK hP hD hS 1 rfl rfl 1 (by decide) hgX2_218 (fun _ h9 => h9) rfl (by decide +kernel) rfl rfl (Nat.le_of_ble_eq_true rfl) dX3_clearText_13 (fun H locs hP hD hS => ?_)
  have hP : va_P (dC, dI) vwCl [k3_0 a aA aB aR aT aS vX, k2_0 aS b2, k2_1 cI aS b2, k2_2 cI aS b2] H := by rw [eb2]; exact hP
  have hD : va_D A [k3_0 a aA aB aR aT aS vX, k2_0 aS b2, k2_1 cI aS b2, k2_2 cI aS b2] := by rw [eb2]; exact hD
  refine lv_iload_n hx hb dX3_clearText_16 rfl (lv_at hl 0 rfl) ?_
  obtain rfl := Option.some.inj hf
  exact W.iret (v := z1) hx hb hr (fun t ht hW => ⟨⟨z1, (), rfl, rfl, by rw [ht]; exact hP, hD⟩, hS.F ht⟩) hS.2.2 dX3_clearText_17
