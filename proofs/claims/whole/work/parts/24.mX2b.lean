
theorem vp_lt {i : Nat} (hi : i < 6) {k : Int32} (h : vp_in k (lenT.getD i 0)) : k < nI (lenT.getD i 0) := by
  have hL : ∀ i, i < 6 → lenT.getD i 0 < 2 ^ 31 := by decide +kernel
  obtain ⟨j, hj, rfl⟩ := vp_in_of h (hL i hi)
  exact nI_lt hj (hL i hi)
def fX2_isOfForm_38_b (sx : Nat) (k38 : BX2 → Int32 → Option (Int32 × BX2)) (vS : BX2) (x2 : Int32) : Option (Int32 × BX2) :=
  if (nI (lenT.getD sx 0)) ≤ x2 then (some (1, vS)) else (if inB x2 (lenT.getD sx 0) = true then ((fX2_readPart vS (scC sx x2)).bind (fun y3 => if y3.1 = 0 then (some (0, y3.2)) else (elet (x2 + 1) (fun z5 => k38 y3.2 z5)))) else none)
def fX2_isOfForm_38 (sx : Nat) : Nat → BX2 → Int32 → Option (Int32 × BX2)
  | 0 => fun _ _ => none
  | n + 1 => fX2_isOfForm_38_b sx (fX2_isOfForm_38 sx n)
def fX2_isOfForm (vS : BX2) : Option (Int32 × BX2) :=
  elet (s2_numberCount vS 0) (fun b6 => (fX2_characterAt b6 (p2_start b6)).bind (fun y7 => elet (fA y7) (fun sx => if (isE sx) = 0 then (elet (s2_next b6 ((p2_start b6) + (1 : Int32))) (fun b9 => fX2_isOfForm_38 sx FU b9 (0 : Int32))) else (some (0, b6)))))
set_option maxHeartbeats 8000000 in
set_option maxRecDepth 100000 in
theorem mX2_isOfForm (l : Launch) (dC : Nat → ClassId) (dI : Nat → Nat → Nat) (cI cJ : ClassId) (aS : Nat → Nat) (sz : Nat) (vS : BX2) (y : (Int32 × BX2)) (hf : fX2_isOfForm vS = some y) : Met l yX2_isOfForm wsX2_isOfForm ({ frames := 5, cells := 0, slots := 0, locals := 105 }) (cPc dC dI cI cJ [.ref (aS 0)] [k2_0 aS vS, k2_1 cI aS vS, k2_2 cI aS vS] sz) (va_Qi (fun r (_ : Unit) => r = y.1) (fun _ t => cB dC dI (va_A [k2_0 aS vS, k2_1 cI aS vS, k2_2 cI aS vS] sz) [k2_0 aS y.2, k2_1 cI aS y.2, k2_2 cI aS y.2] t) (va_A [k2_0 aS vS, k2_1 cI aS vS, k2_2 cI aS vS] sz)) 0 0 (va_A [k2_0 aS vS, k2_1 cI aS vS, k2_2 cI aS vS] sz) := by
  refine Met.ofW (cc := cX2_isOfForm) (maxL := 3) (ret := (some .boolean)) (by decide) rfl ?_
  intro p e s m args below meth c s₁ B hml hv
  obtain ⟨rfl, hsz, hP, hK, hD0, hN⟩ := hv
  have hx := B.exec
  have hb := B.bytes
  have hr := B.returns
  have hts := atoms_spec (ws := wsX2_isOfForm) B.pre
  have hown : s.vm.findClass RX2 = some m.cls := findClass_of_methodNamed B.named
  have hlocks := B.notSynchronized
  subst hsz
  have hD := hD0.self (sz := s.heap.size)
  generalize hAe : va_A [k2_0 aS vS, k2_1 cI aS vS, k2_2 cI aS vS] s.heap.size = A at hD hN ⊢
  have hA : ∀ q : Nat, s.heap.size ≤ q → A q := fun q h => by rw [← hAe]; exact Or.inr h
  have hP : va_P (dC, dI) vwCl [k2_0 aS vS, k2_1 cI aS vS, k2_2 cI aS vS] s.heap := hP
  have hl := lv_entry ([.ref (aS 0)]) (n := 3) (Nat.le_of_ble_eq_true rfl)
  rw [lg_entry_eq]
  generalize (lg_sl ([.ref (aS 0)]) ++ List.replicate (3 - (lg_sl ([.ref (aS 0)])).length) Slot.unset).toArray = ls at hl ⊢
  have hl : lv_has ls 3 [(0, .ref (aS 0))] := hl
  have hiX2 : ∀ w ∈ u_ws RX2 TX2 9, w ∈ wsX2_isOfForm := by decide +kernel
  have hgX2_37 := hts (.fieldLink RX2 37 "SpringPlates$Script" "numberCount" "I") (by decide +kernel)
  have hgX2_28 := hts (.fieldLink RX2 28 "SpringPlates$Script" "start" "I") (by decide +kernel)
  have hgX2_31 := hts (.fieldLink RX2 31 "SpringPlates$Script" "next" "I") (by decide +kernel)
  obtain ⟨adK, adV, hE⟩ : ∃ adK adV : Nat → Nat, SXe adK adV A s s.heap := hN.2
  refine nameH (fun H locs hHe hLe => ?_)
  have hP : va_P (dC, dI) vwCl [k2_0 aS vS, k2_1 cI aS vS, k2_2 cI aS vS] H := by rw [hHe]; exact hP
  have hS : va_S A s.heap H locs := by rw [hHe, hLe]; exact va_S.rf
  refine withW (fun WW hWW => ?_)
  refine (hWW _ _ _ _ _ _ _).2 ?_
  unfold fX2_isOfForm at hf
  refine lv_aload_n hx hb dX2_isOfForm_0 rfl (lv_at hl 0 rfl) ?_
  refine lv_iconst (v := 0) hx hb dX2_isOfForm_1 (by decide) ?_
  obtain ⟨b6, eb6, hf⟩ := elet_out hf
  refine va_put (D := (dC, dI)) (ci := 2) (v := .int 0) (ty := .int) (C := RX2) (T := TX2) (N := 9) hx hb hts hiX2 tyX2 tyX2_ok nmX2 hown hK hP hD hS 0 rfl rfl 8 (by decide) hgX2_37 (fun _ h9 => h9) rfl (by decide +kernel) rfl rfl (Nat.le_of_ble_eq_true rfl) dX2_isOfForm_2 (fun H locs hP hD hS => ?_)
  have hP : va_P (dC, dI) vwCl [k2_0 aS b6, k2_1 cI aS b6, k2_2 cI aS b6] H := by rw [eb6]; exact hP
  have hD : va_D A [k2_0 aS b6, k2_1 cI aS b6, k2_2 cI aS b6] := by rw [eb6]; exact hD
  refine lv_aload_n hx hb dX2_isOfForm_5 rfl (lv_at hl 0 rfl) ?_
  refine lv_aload_n hx hb dX2_isOfForm_6 rfl (lv_at hl 0 rfl) ?_
  refine va_get (D := (dC, dI)) (ci := 2) (v := .int (p2_start b6)) (C := RX2) (T := TX2) (N := 9) hx hb hts hiX2 hown hK hP 0 rfl rfl 5 (by decide) hgX2_28 (fun _ h9 => h9) rfl dX2_isOfForm_7 ?_
  obtain ⟨y7, hy7, hf⟩ := obind hf
  refine cg_i (ws := [k2_0 aS b6, k2_1 cI aS b6, k2_2 cI aS b6]) (wc := [k2_0 aS b6, k2_1 cI aS b6, k2_2 cI aS b6]) (wr := []) (w1 := [k2_0 aS b6, k2_1 cI aS b6, k2_2 cI aS b6]) (wo := [k2_0 aS b6, k2_1 cI aS b6, k2_2 cI aS b6]) hP hD hS hA (va_runV (As := [.int (p2_start b6)]) (rest := []) ⟨hx, hb, hml, hown, hts⟩ (mX2_characterAt l dC dI cI cJ aS H.size b6 (p2_start b6) y7 hy7) (cwV 1 hts gX2_isOfForm_X2_characterAt rfl rfl rfl (by decide +kernel) ⟨Nat.le_of_ble_eq_true rfl, Nat.le_of_ble_eq_true rfl⟩) ⟨cFB, va_recv hK hP (ci := 2) (q0 := 0) rfl rfl, cPre hK hN hS (va_free (wc := [k2_0 aS b6, k2_1 cI aS b6, k2_2 cI aS b6]) hD hS hA [0, 1, 2] rfl) (hP.sub [0, 1, 2] rfl) (hD.sub [0, 1, 2] rfl rfl)⟩ rfl rfl hl.1 rfl (lv_room (Nat.le_of_ble_eq_true rfl)) dX2_isOfForm_10 ⟨Nat.le_of_ble_eq_true rfl, Nat.le_of_ble_eq_true rfl⟩) [0, 1, 2] [] [0, 1, 2] rfl rfl rfl (by decide +kernel) rfl rfl (fun H locs hP hD hS => ?_)
  obtain ⟨sx, esx, hf⟩ := elet_out hf
  have hi : sx < 6 := by rw [esx]; exact fA_lt _
  refine cg_r (ws := [k2_0 aS b6, k2_1 cI aS b6, k2_2 cI aS b6]) (wc := []) (wr := [k2_0 aS b6, k2_1 cI aS b6, k2_2 cI aS b6]) (w1 := []) (wo := [k2_0 aS b6, k2_1 cI aS b6, k2_2 cI aS b6]) hP hD hS hA (va_runS (As := [.int y7]) (rest := []) ⟨hx, hb, hml, hown, hts⟩ (mX2_formAfter l dC dI adK adV H.size y7) (va_cwS 1 hts gX2_isOfForm_X2_formAfter rfl rfl rfl (by decide +kernel) ⟨Nat.le_of_ble_eq_true rfl, Nat.le_of_ble_eq_true rfl⟩) ⟨cFBS, cPreS hE hS (va_free (wc := []) hD hS hA [] rfl)⟩ rfl rfl hl.1 rfl (lv_room (Nat.le_of_ble_eq_true rfl)) dX2_isOfForm_13 ⟨Nat.le_of_ble_eq_true rfl, Nat.le_of_ble_eq_true rfl⟩) [] [0, 1, 2] [0, 1, 2] rfl rfl rfl (by decide +kernel) rfl rfl (fun H locs hP hD hS => ?_)
  refine lvn_v (y := .ref (adK sx)) (by rw [esx]) ?_
  have L38 : ∀ (n : Nat) (vS : BX2) (x2 : Int32) (H : Heap) (locs : List Loc) (ls : Array Slot), va_P (dC, dI) vwCl [k2_0 aS vS, k2_1 cI aS vS, k2_2 cI aS vS] H → va_D A [k2_0 aS vS, k2_1 cI aS vS, k2_2 cI aS vS] → va_S A s.heap H locs → lv_has ls 3 [(0, .ref (aS 0)), (1, .ref (adK sx)), (2, .int x2)] → fX2_isOfForm_38 sx n vS x2 = some y → WW H locs 0 0 ls 38 [] := by
    intro n
    induction n with
    | zero =>
      intro vS x2 H locs ls hP hD hS hl hf
      exact onone hf
    | succ n ih =>
      intro vS x2 H locs ls hP hD hS hl hf
      have hf : fX2_isOfForm_38_b sx (fX2_isOfForm_38 sx n) vS x2 = some y := hf
      generalize fX2_isOfForm_38 sx n = k38 at hf ih
      have hk38 := ih
      clear ih
      unfold fX2_isOfForm_38_b at hf
      refine (hWW _ _ _ _ _ _ _).2 ?_
      refine lv_iload_n hx hb dX2_isOfForm_38 rfl (lv_at hl 2 rfl) ?_
      refine lv_aload_n hx hb dX2_isOfForm_39 rfl (lv_at hl 1 rfl) ?_
      refine cg_i (ws := [k2_0 aS vS, k2_1 cI aS vS, k2_2 cI aS vS]) (wc := []) (wr := [k2_0 aS vS, k2_1 cI aS vS, k2_2 cI aS vS]) (w1 := []) (wo := [k2_0 aS vS, k2_1 cI aS vS, k2_2 cI aS vS]) hP hD hS hA (va_runV (As := []) (rest := [.int x2]) ⟨hx, hb, hml, hown, hts⟩ (mJ0_length_8abf5 l dC dI adK adV H.size sx hi) (cwV 0 hts gX2_isOfForm_J0_length_8abf5 rfl rfl rfl (by decide +kernel) ⟨Nat.le_of_ble_eq_true rfl, Nat.le_of_ble_eq_true rfl⟩) ⟨cFBS, vk_recv hE.1 hi hS, cPreS hE hS (va_free (wc := []) hD hS hA [] rfl)⟩ rfl rfl hl.1 rfl (lv_room (Nat.le_of_ble_eq_true rfl)) dX2_isOfForm_40 ⟨Nat.le_of_ble_eq_true rfl, Nat.le_of_ble_eq_true rfl⟩) [] [0, 1, 2] [0, 1, 2] rfl rfl rfl (by decide +kernel) rfl rfl (fun H locs hP hD hS => ?_)
      refine lv_icmp_ge (tgt := 66) hx hb dX2_isOfForm_43 (by decide) (fun c1 => ?_) (fun c1 => ?_)
      · have hf := oif_t c1 hf
        refine lv_iconst (v := 1) hx hb dX2_isOfForm_66 (by decide) ?_
        obtain rfl := Option.some.inj hf
        exact W.zret (v := 1) hx hb hr rfl (fun t ht hW => ⟨⟨1, (), rfl, rfl, by rw [ht]; exact hP, hD⟩, hS.F ht⟩) hS.2.2 dX2_isOfForm_67
      · have hf := oif_f c1 hf
        refine lv_aload_n hx hb dX2_isOfForm_46 rfl (lv_at hl 0 rfl) ?_
        refine lv_aload_n hx hb dX2_isOfForm_47 rfl (lv_at hl 1 rfl) ?_
        refine lv_iload_n hx hb dX2_isOfForm_48 rfl (lv_at hl 2 rfl) ?_
        obtain ⟨hi2, hf⟩ := oinb rfl hf
        refine cg_i (ws := [k2_0 aS vS, k2_1 cI aS vS, k2_2 cI aS vS]) (wc := []) (wr := [k2_0 aS vS, k2_1 cI aS vS, k2_2 cI aS vS]) (w1 := []) (wo := [k2_0 aS vS, k2_1 cI aS vS, k2_2 cI aS vS]) hP hD hS hA (va_runV (As := [.int x2]) (rest := [.ref (aS 0)]) ⟨hx, hb, hml, hown, hts⟩ (mJ0_charAt_5068e l dC dI adK adV H.size sx hi x2 hi2 (fun q => hi2 (Or.inl q)) (vp_lt hi hi2)) (cwV 1 hts gX2_isOfForm_J0_charAt_5068e rfl rfl rfl (by decide +kernel) ⟨Nat.le_of_ble_eq_true rfl, Nat.le_of_ble_eq_true rfl⟩) ⟨cFBS, vk_recv hE.1 hi hS, cPreS hE hS (va_free (wc := []) hD hS hA [] rfl)⟩ rfl rfl hl.1 rfl (lv_room (Nat.le_of_ble_eq_true rfl)) dX2_isOfForm_49 ⟨Nat.le_of_ble_eq_true rfl, Nat.le_of_ble_eq_true rfl⟩) [] [0, 1, 2] [0, 1, 2] rfl rfl rfl (by decide +kernel) rfl rfl (fun H locs hP hD hS => ?_)
        obtain ⟨y3, hy3, hf⟩ := obind hf
        refine cg_i (ws := [k2_0 aS vS, k2_1 cI aS vS, k2_2 cI aS vS]) (wc := [k2_0 aS vS, k2_1 cI aS vS, k2_2 cI aS vS]) (wr := []) (w1 := [k2_0 aS y3.2, k2_1 cI aS y3.2, k2_2 cI aS y3.2]) (wo := [k2_0 aS y3.2, k2_1 cI aS y3.2, k2_2 cI aS y3.2]) hP hD hS hA (va_runV (As := [.int (scC sx x2)]) (rest := []) ⟨hx, hb, hml, hown, hts⟩ (mX2_readPart l dC dI cI cJ aS H.size vS (scC sx x2) y3 hy3) (cwV 1 hts gX2_isOfForm_X2_readPart rfl rfl rfl (by decide +kernel) ⟨Nat.le_of_ble_eq_true rfl, Nat.le_of_ble_eq_true rfl⟩) ⟨cFB, va_recv hK hP (ci := 2) (q0 := 0) rfl rfl, cPre hK hN hS (va_free (wc := [k2_0 aS vS, k2_1 cI aS vS, k2_2 cI aS vS]) hD hS hA [0, 1, 2] rfl) (hP.sub [0, 1, 2] rfl) (hD.sub [0, 1, 2] rfl rfl)⟩ rfl rfl hl.1 rfl (lv_room (Nat.le_of_ble_eq_true rfl)) dX2_isOfForm_52 ⟨Nat.le_of_ble_eq_true rfl, Nat.le_of_ble_eq_true rfl⟩) [0, 1, 2] [] [0, 1, 2] rfl rfl rfl (by decide +kernel) rfl rfl (fun H locs hP hD hS => ?_)
        refine lv_if_ne (tgt := 60) hx hb dX2_isOfForm_55 (by decide) (fun c4 => ?_) (fun c4 => ?_)
        · have hf := oif_f c4 hf
          obtain ⟨z5, ez5, hf⟩ := elet_out hf
          refine lv_iinc (v := z5) (lv' := [(2, .int z5), (0, .ref (aS 0)), (1, .ref (adK sx))]) hx hb dX2_isOfForm_60 hl (k := 2) rfl (by rw [ez5]; rfl) (by decide) rfl (fun ls hl => ?_)
          refine lv_goto (tgt := 38) hx hb dX2_isOfForm_63 (by decide) ?_
          exact (hWW _ _ _ _ _ _ _).1 (hk38 y3.2 z5 H locs ls hP hD hS (lv_sub hl [1, 2, 0] rfl) hf)
        · have hf := oif_t c4 hf
          refine lv_iconst (v := 0) hx hb dX2_isOfForm_58 (by decide) ?_
          obtain rfl := Option.some.inj hf
          exact W.zret (v := 0) hx hb hr rfl (fun t ht hW => ⟨⟨0, (), rfl, rfl, by rw [ht]; exact hP, hD⟩, hS.F ht⟩) hS.2.2 dX2_isOfForm_59
  refine lv_astore_n (lv' := [(1, .ref (adK sx)), (0, .ref (aS 0))]) hx hb dX2_isOfForm_16 rfl hl (by decide) rfl (fun ls hl => ?_)
  refine lv_aload_n hx hb dX2_isOfForm_17 rfl (lv_at hl 0 rfl) ?_
  refine cg_i (ws := [k2_0 aS b6, k2_1 cI aS b6, k2_2 cI aS b6]) (wc := []) (wr := [k2_0 aS b6, k2_1 cI aS b6, k2_2 cI aS b6]) (w1 := []) (wo := [k2_0 aS b6, k2_1 cI aS b6, k2_2 cI aS b6]) hP hD hS hA (va_runV (As := []) (rest := []) ⟨hx, hb, hml, hown, hts⟩ (mJ0_isEmpty_aae02 l dC dI adK adV H.size sx hi) (cwV 0 hts gX2_isOfForm_J0_isEmpty_aae02 rfl rfl rfl (by decide +kernel) ⟨Nat.le_of_ble_eq_true rfl, Nat.le_of_ble_eq_true rfl⟩) ⟨cFBS, vk_recv hE.1 hi hS, cPreS hE hS (va_free (wc := []) hD hS hA [] rfl)⟩ rfl rfl hl.1 rfl (lv_room (Nat.le_of_ble_eq_true rfl)) dX2_isOfForm_18 ⟨Nat.le_of_ble_eq_true rfl, Nat.le_of_ble_eq_true rfl⟩) [] [0, 1, 2] [0, 1, 2] rfl rfl rfl (by decide +kernel) rfl rfl (fun H locs hP hD hS => ?_)
  refine lv_if_eq (tgt := 26) hx hb dX2_isOfForm_21 (by decide) (fun c8 => ?_) (fun c8 => ?_)
  · have hf := oif_t c8 hf
    refine lv_aload_n hx hb dX2_isOfForm_26 rfl (lv_at hl 1 rfl) ?_
    refine lv_aload_n hx hb dX2_isOfForm_27 rfl (lv_at hl 1 rfl) ?_
    refine va_get (D := (dC, dI)) (ci := 2) (v := .int (p2_start b6)) (C := RX2) (T := TX2) (N := 9) hx hb hts hiX2 hown hK hP 0 rfl rfl 5 (by decide) hgX2_28 (fun _ h9 => h9) rfl dX2_isOfForm_28 ?_
    refine lv_iconst (v := 1) hx hb dX2_isOfForm_31 (by decide) ?_
    refine lv_iadd hx hb dX2_isOfForm_32 ?_
    obtain ⟨b9, eb9, hf⟩ := elet_out hf
    refine va_put (D := (dC, dI)) (ci := 2) (v := .int ((p2_start b6) + (1 : Int32))) (ty := .int) (C := RX2) (T := TX2) (N := 9) hx hb hts hiX2 tyX2 tyX2_ok nmX2 hown hK hP hD hS 0 rfl rfl 6 (by decide) hgX2_31 (fun _ h9 => h9) rfl (by decide +kernel) rfl rfl (Nat.le_of_ble_eq_true rfl) dX2_isOfForm_33 (fun H locs hP hD hS => ?_)
    have hP : va_P (dC, dI) vwCl [k2_0 aS b9, k2_1 cI aS b9, k2_2 cI aS b9] H := by rw [eb9]; exact hP
    have hD : va_D A [k2_0 aS b9, k2_1 cI aS b9, k2_2 cI aS b9] := by rw [eb9]; exact hD
    refine lv_iconst (v := 0) hx hb dX2_isOfForm_36 (by decide) ?_
    refine lv_istore_n (lv' := [(2, .int 0), (1, .ref (adK sx)), (0, .ref (aS 0))]) hx hb dX2_isOfForm_37 rfl hl (by decide) rfl (fun ls hl => ?_)
    exact (hWW _ _ _ _ _ _ _).1 (L38 FU b9 (0 : Int32) H locs ls hP hD hS (lv_sub hl [2, 1, 0] rfl) hf)
  · have hf := oif_f c8 hf
    refine lv_iconst (v := 0) hx hb dX2_isOfForm_24 (by decide) ?_
    obtain rfl := Option.some.inj hf
    exact W.zret (v := 0) hx hb hr rfl (fun t ht hW => ⟨⟨0, (), rfl, rfl, by rw [ht]; exact hP, hD⟩, hS.F ht⟩) hS.2.2 dX2_isOfForm_25

def fX2_isPossible (vL : BX0) (vS : BX2) : Option (Int32 × BX0 × BX2) :=
  (fX2_isOfForm vS).bind (fun y1 => if y1.1 = 0 then (elet (s2_reason y1.2 1) (fun b11 => elet (s2_cause b11 ((p2_next b11) - (p2_start b11))) (fun b12 => some (0, vL, b12)))) else ((fX2_numberOutOfRange vL y1.2).bind (fun y3 => if y3 = (-1 : Int32) then ((fX2_doSetting vL y1.2).bind (fun y5 => (fX3_isError y5.1).bind (fun y6 => if y6 = 0 then (some (1, y5.2, y1.2)) else (elet (s2_reason y1.2 3) (fun b8 => some (0, y5.2, b8)))))) else (elet (s2_reason y1.2 2) (fun b9 => elet (s2_cause b9 y3) (fun b10 => some (0, vL, b10)))))))
set_option maxHeartbeats 8000000 in
set_option maxRecDepth 100000 in
theorem mX2_isPossible (l : Launch) (dC : Nat → ClassId) (dI : Nat → Nat → Nat) (cI cJ : ClassId) (aL : Nat → Nat) (aS : Nat → Nat) (sz : Nat) (vL : BX0) (vS : BX2) (y : (Int32 × BX0 × BX2)) (hf : fX2_isPossible vL vS = some y) : Met l yX2_isPossible wsX2_isPossible ({ frames := 6, cells := 0, slots := 0, locals := 127 }) (cPc dC dI cI cJ [.ref (aS 0), .ref (aL 0)] [k0_0 aL vL, k0_1 cI aL vL, k0_2 cI aL vL, k0_3 cI aL vL, k0_4 cI aL vL, k2_0 aS vS, k2_1 cI aS vS, k2_2 cI aS vS] sz) (va_Qi (fun r (_ : Unit) => r = y.1) (fun _ t => cB dC dI (va_A [k0_0 aL vL, k0_1 cI aL vL, k0_2 cI aL vL, k0_3 cI aL vL, k0_4 cI aL vL, k2_0 aS vS, k2_1 cI aS vS, k2_2 cI aS vS] sz) [k0_0 aL y.2.1, k0_1 cI aL y.2.1, k0_2 cI aL y.2.1, k0_3 cI aL y.2.1, k0_4 cI aL y.2.1, k2_0 aS y.2.2, k2_1 cI aS y.2.2, k2_2 cI aS y.2.2] t) (va_A [k0_0 aL vL, k0_1 cI aL vL, k0_2 cI aL vL, k0_3 cI aL vL, k0_4 cI aL vL, k2_0 aS vS, k2_1 cI aS vS, k2_2 cI aS vS] sz)) 0 0 (va_A [k0_0 aL vL, k0_1 cI aL vL, k0_2 cI aL vL, k0_3 cI aL vL, k0_4 cI aL vL, k2_0 aS vS, k2_1 cI aS vS, k2_2 cI aS vS] sz) := by
  refine Met.ofW (cc := cX2_isPossible) (maxL := 3) (ret := (some .boolean)) (by decide) rfl ?_
  intro p e s m args below meth c s₁ B hml hv
  obtain ⟨rfl, hsz, hP, hK, hD0, hN⟩ := hv
  have hx := B.exec
  have hb := B.bytes
  have hr := B.returns
  have hts := atoms_spec (ws := wsX2_isPossible) B.pre
  have hown : s.vm.findClass RX2 = some m.cls := findClass_of_methodNamed B.named
  have hlocks := B.notSynchronized
  subst hsz
  have hD := hD0.self (sz := s.heap.size)
  generalize hAe : va_A [k0_0 aL vL, k0_1 cI aL vL, k0_2 cI aL vL, k0_3 cI aL vL, k0_4 cI aL vL, k2_0 aS vS, k2_1 cI aS vS, k2_2 cI aS vS] s.heap.size = A at hD hN ⊢
  have hA : ∀ q : Nat, s.heap.size ≤ q → A q := fun q h => by rw [← hAe]; exact Or.inr h
  have hP : va_P (dC, dI) vwCl [k0_0 aL vL, k0_1 cI aL vL, k0_2 cI aL vL, k0_3 cI aL vL, k0_4 cI aL vL, k2_0 aS vS, k2_1 cI aS vS, k2_2 cI aS vS] s.heap := hP
  have hl := lv_entry ([.ref (aS 0), .ref (aL 0)]) (n := 3) (Nat.le_of_ble_eq_true rfl)
  rw [lg_entry_eq]
  generalize (lg_sl ([.ref (aS 0), .ref (aL 0)]) ++ List.replicate (3 - (lg_sl ([.ref (aS 0), .ref (aL 0)])).length) Slot.unset).toArray = ls at hl ⊢
  have hl : lv_has ls 3 [(0, .ref (aS 0)), (1, .ref (aL 0))] := hl
  have hiX2 : ∀ w ∈ u_ws RX2 TX2 9, w ∈ wsX2_isPossible := by decide +kernel
  have hgX2_22 := hts (.fieldLink RX2 22 "SpringPlates$Script" "reason" "I") (by decide +kernel)
  have hgX2_25 := hts (.fieldLink RX2 25 "SpringPlates$Script" "cause" "I") (by decide +kernel)
  have hgX2_31 := hts (.fieldLink RX2 31 "SpringPlates$Script" "next" "I") (by decide +kernel)
  have hgX2_28 := hts (.fieldLink RX2 28 "SpringPlates$Script" "start" "I") (by decide +kernel)
  refine nameH (fun H locs hHe hLe => ?_)
  have hP : va_P (dC, dI) vwCl [k0_0 aL vL, k0_1 cI aL vL, k0_2 cI aL vL, k0_3 cI aL vL, k0_4 cI aL vL, k2_0 aS vS, k2_1 cI aS vS, k2_2 cI aS vS] H := by rw [hHe]; exact hP
  have hS : va_S A s.heap H locs := by rw [hHe, hLe]; exact va_S.rf
  unfold fX2_isPossible at hf
  refine lv_aload_n hx hb dX2_isPossible_0 rfl (lv_at hl 0 rfl) ?_
  obtain ⟨y1, hy1, hf⟩ := obind hf
  refine cg_i (ws := [k0_0 aL vL, k0_1 cI aL vL, k0_2 cI aL vL, k0_3 cI aL vL, k0_4 cI aL vL, k2_0 aS vS, k2_1 cI aS vS, k2_2 cI aS vS]) (wc := [k2_0 aS vS, k2_1 cI aS vS, k2_2 cI aS vS]) (wr := [k0_0 aL vL, k0_1 cI aL vL, k0_2 cI aL vL, k0_3 cI aL vL, k0_4 cI aL vL]) (w1 := [k2_0 aS y1.2, k2_1 cI aS y1.2, k2_2 cI aS y1.2]) (wo := [k0_0 aL vL, k0_1 cI aL vL, k0_2 cI aL vL, k0_3 cI aL vL, k0_4 cI aL vL, k2_0 aS y1.2, k2_1 cI aS y1.2, k2_2 cI aS y1.2]) hP hD hS hA (va_runV (As := []) (rest := []) ⟨hx, hb, hml, hown, hts⟩ (mX2_isOfForm l dC dI cI cJ aS H.size vS y1 hy1) (cwV 0 hts gX2_isPossible_X2_isOfForm rfl rfl rfl (by decide +kernel) ⟨Nat.le_of_ble_eq_true rfl, Nat.le_of_ble_eq_true rfl⟩) ⟨cFB, va_recv hK hP (ci := 2) (q0 := 5) rfl rfl, cPre hK hN hS (va_free (wc := [k2_0 aS vS, k2_1 cI aS vS, k2_2 cI aS vS]) hD hS hA [5, 6, 7] rfl) (hP.sub [5, 6, 7] rfl) (hD.sub [5, 6, 7] rfl rfl)⟩ rfl rfl hl.1 rfl (lv_room (Nat.le_of_ble_eq_true rfl)) dX2_isPossible_1 ⟨Nat.le_of_ble_eq_true rfl, Nat.le_of_ble_eq_true rfl⟩) [5, 6, 7] [0, 1, 2, 3, 4] [0, 1, 2, 3, 4, 5, 6, 7] rfl rfl rfl (by decide +kernel) rfl rfl (fun H locs hP hD hS => ?_)
  refine lv_if_ne (tgt := 27) hx hb dX2_isPossible_4 (by decide) (fun c2 => ?_) (fun c2 => ?_)
  · have hf := oif_f c2 hf
    refine lv_aload_n hx hb dX2_isPossible_27 rfl (lv_at hl 0 rfl) ?_
    refine lv_aload_n hx hb dX2_isPossible_28 rfl (lv_at hl 1 rfl) ?_
    obtain ⟨y3, hy3, hf⟩ := obind hf
    refine cg_i (ws := [k0_0 aL vL, k0_1 cI aL vL, k0_2 cI aL vL, k0_3 cI aL vL, k0_4 cI aL vL, k2_0 aS y1.2, k2_1 cI aS y1.2, k2_2 cI aS y1.2]) (wc := [k0_0 aL vL, k0_1 cI aL vL, k0_2 cI aL vL, k0_3 cI aL vL, k0_4 cI aL vL, k2_0 aS y1.2, k2_1 cI aS y1.2, k2_2 cI aS y1.2]) (wr := []) (w1 := [k0_0 aL vL, k0_1 cI aL vL, k0_2 cI aL vL, k0_3 cI aL vL, k0_4 cI aL vL, k2_0 aS y1.2, k2_1 cI aS y1.2, k2_2 cI aS y1.2]) (wo := [k0_0 aL vL, k0_1 cI aL vL, k0_2 cI aL vL, k0_3 cI aL vL, k0_4 cI aL vL, k2_0 aS y1.2, k2_1 cI aS y1.2, k2_2 cI aS y1.2]) hP hD hS hA (va_runV (As := [.ref (aL 0)]) (rest := []) ⟨hx, hb, hml, hown, hts⟩ (mX2_numberOutOfRange l dC dI cI cJ aL aS H.size vL y1.2 y3 hy3) (cwV 1 hts gX2_isPossible_X2_numberOutOfRange rfl rfl rfl (by decide +kernel) ⟨Nat.le_of_ble_eq_true rfl, Nat.le_of_ble_eq_true rfl⟩) ⟨cFB, va_recv hK hP (ci := 2) (q0 := 5) rfl rfl, cPre hK hN hS (va_free (wc := [k0_0 aL vL, k0_1 cI aL vL, k0_2 cI aL vL, k0_3 cI aL vL, k0_4 cI aL vL, k2_0 aS y1.2, k2_1 cI aS y1.2, k2_2 cI aS y1.2]) hD hS hA [0, 1, 2, 3, 4, 5, 6, 7] rfl) (hP.sub [0, 1, 2, 3, 4, 5, 6, 7] rfl) (hD.sub [0, 1, 2, 3, 4, 5, 6, 7] rfl rfl)⟩ rfl rfl hl.1 rfl (lv_room (Nat.le_of_ble_eq_true rfl)) dX2_isPossible_29 ⟨Nat.le_of_ble_eq_true rfl, Nat.le_of_ble_eq_true rfl⟩) [0, 1, 2, 3, 4, 5, 6, 7] [] [0, 1, 2, 3, 4, 5, 6, 7] rfl rfl rfl (by decide +kernel) rfl rfl (fun H locs hP hD hS => ?_)
    refine lv_istore_n (lv' := [(2, .int y3), (0, .ref (aS 0)), (1, .ref (aL 0))]) hx hb dX2_isPossible_32 rfl hl (by decide) rfl (fun ls hl => ?_)
    refine lv_iload_n hx hb dX2_isPossible_33 rfl (lv_at hl 0 rfl) ?_
    refine lv_iconst (v := (-1)) hx hb dX2_isPossible_34 (by decide) ?_
    refine lv_icmp_eq (tgt := 50) hx hb dX2_isPossible_35 (by decide) (fun c4 => ?_) (fun c4 => ?_)
    · have hf := oif_t c4 hf
      refine lv_aload_n hx hb dX2_isPossible_50 rfl (lv_at hl 1 rfl) ?_
      refine lv_aload_n hx hb dX2_isPossible_51 rfl (lv_at hl 2 rfl) ?_
      obtain ⟨y5, hy5, hf⟩ := obind hf
      refine cg_i (ws := [k0_0 aL vL, k0_1 cI aL vL, k0_2 cI aL vL, k0_3 cI aL vL, k0_4 cI aL vL, k2_0 aS y1.2, k2_1 cI aS y1.2, k2_2 cI aS y1.2]) (wc := [k0_0 aL vL, k0_1 cI aL vL, k0_2 cI aL vL, k0_3 cI aL vL, k0_4 cI aL vL, k2_0 aS y1.2, k2_1 cI aS y1.2, k2_2 cI aS y1.2]) (wr := []) (w1 := [k0_0 aL y5.2, k0_1 cI aL y5.2, k0_2 cI aL y5.2, k0_3 cI aL y5.2, k0_4 cI aL y5.2, k2_0 aS y1.2, k2_1 cI aS y1.2, k2_2 cI aS y1.2]) (wo := [k0_0 aL y5.2, k0_1 cI aL y5.2, k0_2 cI aL y5.2, k0_3 cI aL y5.2, k0_4 cI aL y5.2, k2_0 aS y1.2, k2_1 cI aS y1.2, k2_2 cI aS y1.2]) hP hD hS hA (va_runV (As := [.ref (aL 0)]) (rest := []) ⟨hx, hb, hml, hown, hts⟩ (mX2_doSetting l dC dI cI cJ aL aS H.size vL y1.2 y5 hy5) (cwV 1 hts gX2_isPossible_X2_doSetting rfl rfl rfl (by decide +kernel) ⟨Nat.le_of_ble_eq_true rfl, Nat.le_of_ble_eq_true rfl⟩) ⟨cFB, va_recv hK hP (ci := 2) (q0 := 5) rfl rfl, cPre hK hN hS (va_free (wc := [k0_0 aL vL, k0_1 cI aL vL, k0_2 cI aL vL, k0_3 cI aL vL, k0_4 cI aL vL, k2_0 aS y1.2, k2_1 cI aS y1.2, k2_2 cI aS y1.2]) hD hS hA [0, 1, 2, 3, 4, 5, 6, 7] rfl) (hP.sub [0, 1, 2, 3, 4, 5, 6, 7] rfl) (hD.sub [0, 1, 2, 3, 4, 5, 6, 7] rfl rfl)⟩ rfl rfl hl.1 rfl (lv_room (Nat.le_of_ble_eq_true rfl)) dX2_isPossible_52 ⟨Nat.le_of_ble_eq_true rfl, Nat.le_of_ble_eq_true rfl⟩) [0, 1, 2, 3, 4, 5, 6, 7] [] [0, 1, 2, 3, 4, 5, 6, 7] rfl rfl rfl (by decide +kernel) rfl rfl (fun H locs hP hD hS => ?_)
      obtain ⟨y6, hy6, hf⟩ := obind hf
      refine cg_i (ws := [k0_0 aL y5.2, k0_1 cI aL y5.2, k0_2 cI aL y5.2, k0_3 cI aL y5.2, k0_4 cI aL y5.2, k2_0 aS y1.2, k2_1 cI aS y1.2, k2_2 cI aS y1.2]) (wc := []) (wr := [k0_0 aL y5.2, k0_1 cI aL y5.2, k0_2 cI aL y5.2, k0_3 cI aL y5.2, k0_4 cI aL y5.2, k2_0 aS y1.2, k2_1 cI aS y1.2, k2_2 cI aS y1.2]) (w1 := []) (wo := [k0_0 aL y5.2, k0_1 cI aL y5.2, k0_2 cI aL y5.2, k0_3 cI aL y5.2, k0_4 cI aL y5.2, k2_0 aS y1.2, k2_1 cI aS y1.2, k2_2 cI aS y1.2]) hP hD hS hA (va_runSN (As := [.int y5.1]) (rest := []) ⟨hx, hb, hml, hown, hts⟩ (mX3_isError l dC dI cI cJ  H.size y5.1 y6 hy6) ⟨va_cnB 1 hts gX2_isPossible_X3_isError_n57 rfl rfl rfl hN.1.2.2.2.2 (hts (.initialized RX3) (by decide +kernel)) (by decide +kernel) ⟨Nat.le_of_ble_eq_true rfl, Nat.le_of_ble_eq_true rfl⟩, hts (.static yX3_isError) (by decide +kernel), trivial⟩ ⟨cFB, cPre hK hN hS (va_free (wc := []) hD hS hA [] rfl) (hP.sub [] rfl) (hD.sub [] rfl rfl)⟩ rfl rfl hl.1 rfl (lv_room (Nat.le_of_ble_eq_true rfl)) dX2_isPossible_55 ⟨Nat.le_of_ble_eq_true rfl, Nat.le_of_ble_eq_true rfl⟩) [] [0, 1, 2, 3, 4, 5, 6, 7] [0, 1, 2, 3, 4, 5, 6, 7] rfl rfl rfl (by decide +kernel) rfl rfl (fun H locs hP hD hS => ?_)
      refine lv_if_eq (tgt := 68) hx hb dX2_isPossible_58 (by decide) (fun c7 => ?_) (fun c7 => ?_)
      · have hf := oif_t c7 hf
        refine lv_iconst (v := 1) hx hb dX2_isPossible_68 (by decide) ?_
        obtain rfl := Option.some.inj hf
        exact W.zret (v := 1) hx hb hr rfl (fun t ht hW => ⟨⟨1, (), rfl, rfl, by rw [ht]; exact hP, hD⟩, hS.F ht⟩) hS.2.2 dX2_isPossible_69
      · have hf := oif_f c7 hf
        refine lv_aload_n hx hb dX2_isPossible_61 rfl (lv_at hl 1 rfl) ?_
        refine lv_iconst (v := 3) hx hb dX2_isPossible_62 (by decide) ?_
        obtain ⟨b8, eb8, hf⟩ := elet_out hf
        refine va_put (D := (dC, dI)) (ci := 2) (v := .int 3) (ty := .int) (C := RX2) (T := TX2) (N := 9) hx hb hts hiX2 tyX2 tyX2_ok nmX2 hown hK hP hD hS 5 rfl rfl 3 (by decide) hgX2_22 (fun _ h9 => h9) rfl (by decide +kernel) rfl rfl (Nat.le_of_ble_eq_true rfl) dX2_isPossible_63 (fun H locs hP hD hS => ?_)
        have hP : va_P (dC, dI) vwCl [k0_0 aL y5.2, k0_1 cI aL y5.2, k0_2 cI aL y5.2, k0_3 cI aL y5.2, k0_4 cI aL y5.2, k2_0 aS b8, k2_1 cI aS b8, k2_2 cI aS b8] H := by rw [eb8]; exact hP
        have hD : va_D A [k0_0 aL y5.2, k0_1 cI aL y5.2, k0_2 cI aL y5.2, k0_3 cI aL y5.2, k0_4 cI aL y5.2, k2_0 aS b8, k2_1 cI aS b8, k2_2 cI aS b8] := by rw [eb8]; exact hD
        refine lv_iconst (v := 0) hx hb dX2_isPossible_66 (by decide) ?_
        obtain rfl := Option.some.inj hf
        exact W.zret (v := 0) hx hb hr rfl (fun t ht hW => ⟨⟨0, (), rfl, rfl, by rw [ht]; exact hP, hD⟩, hS.F ht⟩) hS.2.2 dX2_isPossible_67
    · have hf := oif_f c4 hf
      refine lv_aload_n hx hb dX2_isPossible_38 rfl (lv_at hl 1 rfl) ?_
      refine lv_iconst (v := 2) hx hb dX2_isPossible_39 (by decide) ?_
      obtain ⟨b9, eb9, hf⟩ := elet_out hf
      refine va_put (D := (dC, dI)) (ci := 2) (v := .int 2) (ty := .int) (C := RX2) (T := TX2) (N := 9) hx hb hts hiX2 tyX2 tyX2_ok nmX2 hown hK hP hD hS 5 rfl rfl 3 (by decide) hgX2_22 (fun _ h9 => h9) rfl (by decide +kernel) rfl rfl (Nat.le_of_ble_eq_true rfl) dX2_isPossible_40 (fun H locs hP hD hS => ?_)
      have hP : va_P (dC, dI) vwCl [k0_0 aL vL, k0_1 cI aL vL, k0_2 cI aL vL, k0_3 cI aL vL, k0_4 cI aL vL, k2_0 aS b9, k2_1 cI aS b9, k2_2 cI aS b9] H := by rw [eb9]; exact hP
      have hD : va_D A [k0_0 aL vL, k0_1 cI aL vL, k0_2 cI aL vL, k0_3 cI aL vL, k0_4 cI aL vL, k2_0 aS b9, k2_1 cI aS b9, k2_2 cI aS b9] := by rw [eb9]; exact hD
      refine lv_aload_n hx hb dX2_isPossible_43 rfl (lv_at hl 1 rfl) ?_
      refine lv_iload_n hx hb dX2_isPossible_44 rfl (lv_at hl 0 rfl) ?_
      obtain ⟨b10, eb10, hf⟩ := elet_out hf
      refine va_put (D := (dC, dI)) (ci := 2) (v := .int y3) (ty := .int) (C := RX2) (T := TX2) (N := 9) hx hb hts hiX2 tyX2 tyX2_ok nmX2 hown hK hP hD hS 5 rfl rfl 4 (by decide) hgX2_25 (fun _ h9 => h9) rfl (by decide +kernel) rfl rfl (Nat.le_of_ble_eq_true rfl) dX2_isPossible_45 (fun H locs hP hD hS => ?_)
      have hP : va_P (dC, dI) vwCl [k0_0 aL vL, k0_1 cI aL vL, k0_2 cI aL vL, k0_3 cI aL vL, k0_4 cI aL vL, k2_0 aS b10, k2_1 cI aS b10, k2_2 cI aS b10] H := by rw [eb10]; exact hP
      have hD : va_D A [k0_0 aL vL, k0_1 cI aL vL, k0_2 cI aL vL, k0_3 cI aL vL, k0_4 cI aL vL, k2_0 aS b10, k2_1 cI aS b10, k2_2 cI aS b10] := by rw [eb10]; exact hD
      refine lv_iconst (v := 0) hx hb dX2_isPossible_48 (by decide) ?_
      obtain rfl := Option.some.inj hf
      exact W.zret (v := 0) hx hb hr rfl (fun t ht hW => ⟨⟨0, (), rfl, rfl, by rw [ht]; exact hP, hD⟩, hS.F ht⟩) hS.2.2 dX2_isPossible_49
  · have hf := oif_t c2 hf
    refine lv_aload_n hx hb dX2_isPossible_7 rfl (lv_at hl 0 rfl) ?_
    refine lv_iconst (v := 1) hx hb dX2_isPossible_8 (by decide) ?_
    obtain ⟨b11, eb11, hf⟩ := elet_out hf
    refine va_put (D := (dC, dI)) (ci := 2) (v := .int 1) (ty := .int) (C := RX2) (T := TX2) (N := 9) hx hb hts hiX2 tyX2 tyX2_ok nmX2 hown hK hP hD hS 5 rfl rfl 3 (by decide) hgX2_22 (fun _ h9 => h9) rfl (by decide +kernel) rfl rfl (Nat.le_of_ble_eq_true rfl) dX2_isPossible_9 (fun H locs hP hD hS => ?_)
    have hP : va_P (dC, dI) vwCl [k0_0 aL vL, k0_1 cI aL vL, k0_2 cI aL vL, k0_3 cI aL vL, k0_4 cI aL vL, k2_0 aS b11, k2_1 cI aS b11, k2_2 cI aS b11] H := by rw [eb11]; exact hP
    have hD : va_D A [k0_0 aL vL, k0_1 cI aL vL, k0_2 cI aL vL, k0_3 cI aL vL, k0_4 cI aL vL, k2_0 aS b11, k2_1 cI aS b11, k2_2 cI aS b11] := by rw [eb11]; exact hD
    refine lv_aload_n hx hb dX2_isPossible_12 rfl (lv_at hl 0 rfl) ?_
    refine lv_aload_n hx hb dX2_isPossible_13 rfl (lv_at hl 0 rfl) ?_
    refine va_get (D := (dC, dI)) (ci := 2) (v := .int (p2_next b11)) (C := RX2) (T := TX2) (N := 9) hx hb hts hiX2 hown hK hP 5 rfl rfl 6 (by decide) hgX2_31 (fun _ h9 => h9) rfl dX2_isPossible_14 ?_
    refine lv_aload_n hx hb dX2_isPossible_17 rfl (lv_at hl 0 rfl) ?_
    refine va_get (D := (dC, dI)) (ci := 2) (v := .int (p2_start b11)) (C := RX2) (T := TX2) (N := 9) hx hb hts hiX2 hown hK hP 5 rfl rfl 5 (by decide) hgX2_28 (fun _ h9 => h9) rfl dX2_isPossible_18 ?_
    refine lv_isub hx hb dX2_isPossible_21 ?_
    obtain ⟨b12, eb12, hf⟩ := elet_out hf
    refine va_put (D := (dC, dI)) (ci := 2) (v := .int ((p2_next b11) - (p2_start b11))) (ty := .int) (C := RX2) (T := TX2) (N := 9) hx hb hts hiX2 tyX2 tyX2_ok nmX2 hown hK hP hD hS 5 rfl rfl 4 (by decide) hgX2_25 (fun _ h9 => h9) rfl (by decide +kernel) rfl rfl (Nat.le_of_ble_eq_true rfl) dX2_isPossible_22 (fun H locs hP hD hS => ?_)
    have hP : va_P (dC, dI) vwCl [k0_0 aL vL, k0_1 cI aL vL, k0_2 cI aL vL, k0_3 cI aL vL, k0_4 cI aL vL, k2_0 aS b12, k2_1 cI aS b12, k2_2 cI aS b12] H := by rw [eb12]; exact hP
    have hD : va_D A [k0_0 aL vL, k0_1 cI aL vL, k0_2 cI aL vL, k0_3 cI aL vL, k0_4 cI aL vL, k2_0 aS b12, k2_1 cI aS b12, k2_2 cI aS b12] := by rw [eb12]; exact hD
    refine lv_iconst (v := 0) hx hb dX2_isPossible_25 (by decide) ?_
    obtain rfl := Option.some.inj hf
    exact W.zret (v := 0) hx hb hr rfl (fun t ht hW => ⟨⟨0, (), rfl, rfl, by rw [ht]; exact hP, hD⟩, hS.F ht⟩) hS.2.2 dX2_isPossible_26
def fX2_playOn_10_b (k10 : BX0 → BX2 → Option (Int32 × BX0 × BX2)) (vL : BX0) (vS : BX2) : Option (Int32 × BX0 × BX2) :=
  if (60 : Int32) ≤ (p2_settings vS) then (some (1, vL, vS)) else (if (p2_size vS) ≤ (p2_next vS) then (some (1, vL, vS)) else (elet (s2_start vS (p2_next vS)) (fun b3 => (fX2_isPossible vL b3).bind (fun y4 => if y4.1 = 0 then (some (0, y4.2.1, y4.2.2)) else (elet (s2_settings y4.2.2 ((p2_settings y4.2.2) + (1 : Int32))) (fun b6 => k10 y4.2.1 b6))))))
def fX2_playOn_10 : Nat → BX0 → BX2 → Option (Int32 × BX0 × BX2)
  | 0 => fun _ _ => none
  | n + 1 => fX2_playOn_10_b (fX2_playOn_10 n)
def fX2_playOn (vL : BX0) (vS : BX2) : Option (Int32 × BX0 × BX2) :=
  elet (s2_settings vS 0) (fun b7 => elet (s2_next b7 0) (fun b8 => fX2_playOn_10 FU vL b8))
set_option maxHeartbeats 8000000 in
set_option maxRecDepth 100000 in
theorem mX2_playOn (l : Launch) (dC : Nat → ClassId) (dI : Nat → Nat → Nat) (cI cJ : ClassId) (aL : Nat → Nat) (aS : Nat → Nat) (sz : Nat) (vL : BX0) (vS : BX2) (y : (Int32 × BX0 × BX2)) (hf : fX2_playOn vL vS = some y) : Met l yX2_playOn wsX2_playOn ({ frames := 7, cells := 0, slots := 0, locals := 149 }) (cPc dC dI cI cJ [.ref (aS 0), .ref (aL 0)] [k0_0 aL vL, k0_1 cI aL vL, k0_2 cI aL vL, k0_3 cI aL vL, k0_4 cI aL vL, k2_0 aS vS, k2_1 cI aS vS, k2_2 cI aS vS] sz) (va_Qi (fun r (_ : Unit) => r = y.1) (fun _ t => cB dC dI (va_A [k0_0 aL vL, k0_1 cI aL vL, k0_2 cI aL vL, k0_3 cI aL vL, k0_4 cI aL vL, k2_0 aS vS, k2_1 cI aS vS, k2_2 cI aS vS] sz) [k0_0 aL y.2.1, k0_1 cI aL y.2.1, k0_2 cI aL y.2.1, k0_3 cI aL y.2.1, k0_4 cI aL y.2.1, k2_0 aS y.2.2, k2_1 cI aS y.2.2, k2_2 cI aS y.2.2] t) (va_A [k0_0 aL vL, k0_1 cI aL vL, k0_2 cI aL vL, k0_3 cI aL vL, k0_4 cI aL vL, k2_0 aS vS, k2_1 cI aS vS, k2_2 cI aS vS] sz)) 0 0 (va_A [k0_0 aL vL, k0_1 cI aL vL, k0_2 cI aL vL, k0_3 cI aL vL, k0_4 cI aL vL, k2_0 aS vS, k2_1 cI aS vS, k2_2 cI aS vS] sz) := by
  refine Met.ofW (cc := cX2_playOn) (maxL := 2) (ret := (some .boolean)) (by decide) rfl ?_
  intro p e s m args below meth c s₁ B hml hv
  obtain ⟨rfl, hsz, hP, hK, hD0, hN⟩ := hv
  have hx := B.exec
  have hb := B.bytes
  have hr := B.returns
  have hts := atoms_spec (ws := wsX2_playOn) B.pre
  have hown : s.vm.findClass RX2 = some m.cls := findClass_of_methodNamed B.named
  have hlocks := B.notSynchronized
  subst hsz
  have hD := hD0.self (sz := s.heap.size)
  generalize hAe : va_A [k0_0 aL vL, k0_1 cI aL vL, k0_2 cI aL vL, k0_3 cI aL vL, k0_4 cI aL vL, k2_0 aS vS, k2_1 cI aS vS, k2_2 cI aS vS] s.heap.size = A at hD hN ⊢
  have hA : ∀ q : Nat, s.heap.size ≤ q → A q := fun q h => by rw [← hAe]; exact Or.inr h
  have hP : va_P (dC, dI) vwCl [k0_0 aL vL, k0_1 cI aL vL, k0_2 cI aL vL, k0_3 cI aL vL, k0_4 cI aL vL, k2_0 aS vS, k2_1 cI aS vS, k2_2 cI aS vS] s.heap := hP
  have hl := lv_entry ([.ref (aS 0), .ref (aL 0)]) (n := 2) (Nat.le_of_ble_eq_true rfl)
  rw [lg_entry_eq]
  generalize (lg_sl ([.ref (aS 0), .ref (aL 0)]) ++ List.replicate (2 - (lg_sl ([.ref (aS 0), .ref (aL 0)])).length) Slot.unset).toArray = ls at hl ⊢
  have hl : lv_has ls 2 [(0, .ref (aS 0)), (1, .ref (aL 0))] := hl
  have hiX2 : ∀ w ∈ u_ws RX2 TX2 9, w ∈ wsX2_playOn := by decide +kernel
  have hgX2_19 := hts (.fieldLink RX2 19 "SpringPlates$Script" "settings" "I") (by decide +kernel)
  have hgX2_31 := hts (.fieldLink RX2 31 "SpringPlates$Script" "next" "I") (by decide +kernel)
  have hgX2_15 := hts (.fieldLink RX2 15 "SpringPlates$Script" "size" "I") (by decide +kernel)
  have hgX2_28 := hts (.fieldLink RX2 28 "SpringPlates$Script" "start" "I") (by decide +kernel)
  refine nameH (fun H locs hHe hLe => ?_)
  have hP : va_P (dC, dI) vwCl [k0_0 aL vL, k0_1 cI aL vL, k0_2 cI aL vL, k0_3 cI aL vL, k0_4 cI aL vL, k2_0 aS vS, k2_1 cI aS vS, k2_2 cI aS vS] H := by rw [hHe]; exact hP
  have hS : va_S A s.heap H locs := by rw [hHe, hLe]; exact va_S.rf
  refine withW (fun WW hWW => ?_)
  have L10 : ∀ (n : Nat) (vL : BX0) (vS : BX2) (H : Heap) (locs : List Loc) (ls : Array Slot), va_P (dC, dI) vwCl [k0_0 aL vL, k0_1 cI aL vL, k0_2 cI aL vL, k0_3 cI aL vL, k0_4 cI aL vL, k2_0 aS vS, k2_1 cI aS vS, k2_2 cI aS vS] H → va_D A [k0_0 aL vL, k0_1 cI aL vL, k0_2 cI aL vL, k0_3 cI aL vL, k0_4 cI aL vL, k2_0 aS vS, k2_1 cI aS vS, k2_2 cI aS vS] → va_S A s.heap H locs → lv_has ls 2 [(0, .ref (aS 0)), (1, .ref (aL 0))] → fX2_playOn_10 n vL vS = some y → WW H locs 0 0 ls 10 [] := by
    intro n
    induction n with
    | zero =>
      intro vL vS H locs ls hP hD hS hl hf
      exact onone hf
    | succ n ih =>
      intro vL vS H locs ls hP hD hS hl hf
      have hf : fX2_playOn_10_b (fX2_playOn_10 n) vL vS = some y := hf
      generalize fX2_playOn_10 n = k10 at hf ih
      have hk10 := ih
      clear ih
      unfold fX2_playOn_10_b at hf
      refine (hWW _ _ _ _ _ _ _).2 ?_
      refine lv_aload_n hx hb dX2_playOn_10 rfl (lv_at hl 0 rfl) ?_
      refine va_get (D := (dC, dI)) (ci := 2) (v := .int (p2_settings vS)) (C := RX2) (T := TX2) (N := 9) hx hb hts hiX2 hown hK hP 5 rfl rfl 2 (by decide) hgX2_19 (fun _ h9 => h9) rfl dX2_playOn_11 ?_
      refine lv_bipush (v := 60) hx hb dX2_playOn_14 (by decide) ?_
      refine lv_icmp_ge (tgt := 61) hx hb dX2_playOn_16 (by decide) (fun c1 => ?_) (fun c1 => ?_)
      · have hf := oif_t c1 hf
        refine lv_iconst (v := 1) hx hb dX2_playOn_61 (by decide) ?_
        obtain rfl := Option.some.inj hf
        exact W.zret (v := 1) hx hb hr rfl (fun t ht hW => ⟨⟨1, (), rfl, rfl, by rw [ht]; exact hP, hD⟩, hS.F ht⟩) hS.2.2 dX2_playOn_62
      · have hf := oif_f c1 hf
        refine lv_aload_n hx hb dX2_playOn_19 rfl (lv_at hl 0 rfl) ?_
        refine va_get (D := (dC, dI)) (ci := 2) (v := .int (p2_next vS)) (C := RX2) (T := TX2) (N := 9) hx hb hts hiX2 hown hK hP 5 rfl rfl 6 (by decide) hgX2_31 (fun _ h9 => h9) rfl dX2_playOn_20 ?_
        refine lv_aload_n hx hb dX2_playOn_23 rfl (lv_at hl 0 rfl) ?_
        refine va_get (D := (dC, dI)) (ci := 2) (v := .int (p2_size vS)) (C := RX2) (T := TX2) (N := 9) hx hb hts hiX2 hown hK hP 5 rfl rfl 1 (by decide) hgX2_15 (fun _ h9 => h9) rfl dX2_playOn_24 ?_
        refine lv_icmp_ge (tgt := 61) hx hb dX2_playOn_27 (by decide) (fun c2 => ?_) (fun c2 => ?_)
        · have hf := oif_t c2 hf
          refine lv_iconst (v := 1) hx hb dX2_playOn_61 (by decide) ?_
          obtain rfl := Option.some.inj hf
          exact W.zret (v := 1) hx hb hr rfl (fun t ht hW => ⟨⟨1, (), rfl, rfl, by rw [ht]; exact hP, hD⟩, hS.F ht⟩) hS.2.2 dX2_playOn_62
        · have hf := oif_f c2 hf
          refine lv_aload_n hx hb dX2_playOn_30 rfl (lv_at hl 0 rfl) ?_
          refine lv_aload_n hx hb dX2_playOn_31 rfl (lv_at hl 0 rfl) ?_
          refine va_get (D := (dC, dI)) (ci := 2) (v := .int (p2_next vS)) (C := RX2) (T := TX2) (N := 9) hx hb hts hiX2 hown hK hP 5 rfl rfl 6 (by decide) hgX2_31 (fun _ h9 => h9) rfl dX2_playOn_32 ?_
          obtain ⟨b3, eb3, hf⟩ := elet_out hf
          refine va_put (D := (dC, dI)) (ci := 2) (v := .int (p2_next vS)) (ty := .int) (C := RX2) (T := TX2) (N := 9) hx hb hts hiX2 tyX2 tyX2_ok nmX2 hown hK hP hD hS 5 rfl rfl 5 (by decide) hgX2_28 (fun _ h9 => h9) rfl (by decide +kernel) rfl rfl (Nat.le_of_ble_eq_true rfl) dX2_playOn_35 (fun H locs hP hD hS => ?_)
          have hP : va_P (dC, dI) vwCl [k0_0 aL vL, k0_1 cI aL vL, k0_2 cI aL vL, k0_3 cI aL vL, k0_4 cI aL vL, k2_0 aS b3, k2_1 cI aS b3, k2_2 cI aS b3] H := by rw [eb3]; exact hP
          have hD : va_D A [k0_0 aL vL, k0_1 cI aL vL, k0_2 cI aL vL, k0_3 cI aL vL, k0_4 cI aL vL, k2_0 aS b3, k2_1 cI aS b3, k2_2 cI aS b3] := by rw [eb3]; exact hD
          refine lv_aload_n hx hb dX2_playOn_38 rfl (lv_at hl 0 rfl) ?_
          refine lv_aload_n hx hb dX2_playOn_39 rfl (lv_at hl 1 rfl) ?_
          obtain ⟨y4, hy4, hf⟩ := obind hf
          refine cg_i (ws := [k0_0 aL vL, k0_1 cI aL vL, k0_2 cI aL vL, k0_3 cI aL vL, k0_4 cI aL vL, k2_0 aS b3, k2_1 cI aS b3, k2_2 cI aS b3]) (wc := [k0_0 aL vL, k0_1 cI aL vL, k0_2 cI aL vL, k0_3 cI aL vL, k0_4 cI aL vL, k2_0 aS b3, k2_1 cI aS b3, k2_2 cI aS b3]) (wr := []) (w1 := [k0_0 aL y4.2.1, k0_1 cI aL y4.2.1, k0_2 cI aL y4.2.1, k0_3 cI aL y4.2.1, k0_4 cI aL y4.2.1, k2_0 aS y4.2.2, k2_1 cI aS y4.2.2, k2_2 cI aS y4.2.2]) (wo := [k0_0 aL y4.2.1, k0_1 cI aL y4.2.1, k0_2 cI aL y4.2.1, k0_3 cI aL y4.2.1, k0_4 cI aL y4.2.1, k2_0 aS y4.2.2, k2_1 cI aS y4.2.2, k2_2 cI aS y4.2.2]) hP hD hS hA (va_runV (As := [.ref (aL 0)]) (rest := []) ⟨hx, hb, hml, hown, hts⟩ (mX2_isPossible l dC dI cI cJ aL aS H.size vL b3 y4 hy4) (cwV 1 hts gX2_playOn_X2_isPossible rfl rfl rfl (by decide +kernel) ⟨Nat.le_of_ble_eq_true rfl, Nat.le_of_ble_eq_true rfl⟩) ⟨cFB, va_recv hK hP (ci := 2) (q0 := 5) rfl rfl, cPre hK hN hS (va_free (wc := [k0_0 aL vL, k0_1 cI aL vL, k0_2 cI aL vL, k0_3 cI aL vL, k0_4 cI aL vL, k2_0 aS b3, k2_1 cI aS b3, k2_2 cI aS b3]) hD hS hA [0, 1, 2, 3, 4, 5, 6, 7] rfl) (hP.sub [0, 1, 2, 3, 4, 5, 6, 7] rfl) (hD.sub [0, 1, 2, 3, 4, 5, 6, 7] rfl rfl)⟩ rfl rfl hl.1 rfl (lv_room (Nat.le_of_ble_eq_true rfl)) dX2_playOn_40 ⟨Nat.le_of_ble_eq_true rfl, Nat.le_of_ble_eq_true rfl⟩) [0, 1, 2, 3, 4, 5, 6, 7] [] [0, 1, 2, 3, 4, 5, 6, 7] rfl rfl rfl (by decide +kernel) rfl rfl (fun H locs hP hD hS => ?_)
          refine lv_if_ne (tgt := 48) hx hb dX2_playOn_43 (by decide) (fun c5 => ?_) (fun c5 => ?_)
          · have hf := oif_f c5 hf
            refine lv_aload_n hx hb dX2_playOn_48 rfl (lv_at hl 0 rfl) ?_
            refine lv_dup hx hb dX2_playOn_49 rfl ?_
            refine va_get (D := (dC, dI)) (ci := 2) (v := .int (p2_settings y4.2.2)) (C := RX2) (T := TX2) (N := 9) hx hb hts hiX2 hown hK hP 5 rfl rfl 2 (by decide) hgX2_19 (fun _ h9 => h9) rfl dX2_playOn_50 ?_
            refine lv_iconst (v := 1) hx hb dX2_playOn_53 (by decide) ?_
            refine lv_iadd hx hb dX2_playOn_54 ?_
            obtain ⟨b6, eb6, hf⟩ := elet_out hf
            refine va_put (D := (dC, dI)) (ci := 2) (v := .int ((p2_settings y4.2.2) + (1 : Int32))) (ty := .int) (C := RX2) (T := TX2) (N := 9) hx hb hts hiX2 tyX2 tyX2_ok nmX2 hown hK hP hD hS 5 rfl rfl 2 (by decide) hgX2_19 (fun _ h9 => h9) rfl (by decide +kernel) rfl rfl (Nat.le_of_ble_eq_true rfl) dX2_playOn_55 (fun H locs hP hD hS => ?_)
            have hP : va_P (dC, dI) vwCl [k0_0 aL y4.2.1, k0_1 cI aL y4.2.1, k0_2 cI aL y4.2.1, k0_3 cI aL y4.2.1, k0_4 cI aL y4.2.1, k2_0 aS b6, k2_1 cI aS b6, k2_2 cI aS b6] H := by rw [eb6]; exact hP
            have hD : va_D A [k0_0 aL y4.2.1, k0_1 cI aL y4.2.1, k0_2 cI aL y4.2.1, k0_3 cI aL y4.2.1, k0_4 cI aL y4.2.1, k2_0 aS b6, k2_1 cI aS b6, k2_2 cI aS b6] := by rw [eb6]; exact hD
            refine lv_goto (tgt := 10) hx hb dX2_playOn_58 (by decide) ?_
            exact (hWW _ _ _ _ _ _ _).1 (hk10 y4.2.1 b6 H locs ls hP hD hS (lv_sub hl [0, 1] rfl) hf)
          · have hf := oif_t c5 hf
            refine lv_iconst (v := 0) hx hb dX2_playOn_46 (by decide) ?_
            obtain rfl := Option.some.inj hf
            exact W.zret (v := 0) hx hb hr rfl (fun t ht hW => ⟨⟨0, (), rfl, rfl, by rw [ht]; exact hP, hD⟩, hS.F ht⟩) hS.2.2 dX2_playOn_47
  refine (hWW _ _ _ _ _ _ _).2 ?_
  unfold fX2_playOn at hf
  refine lv_aload_n hx hb dX2_playOn_0 rfl (lv_at hl 0 rfl) ?_
  refine lv_iconst (v := 0) hx hb dX2_playOn_1 (by decide) ?_
  obtain ⟨b7, eb7, hf⟩ := elet_out hf
  refine va_put (D := (dC, dI)) (ci := 2) (v := .int 0) (ty := .int) (C := RX2) (T := TX2) (N := 9) hx hb hts hiX2 tyX2 tyX2_ok nmX2 hown hK hP hD hS 5 rfl rfl 2 (by decide) hgX2_19 (fun _ h9 => h9) rfl (by decide +kernel) rfl rfl (Nat.le_of_ble_eq_true rfl) dX2_playOn_2 (fun H locs hP hD hS => ?_)
  have hP : va_P (dC, dI) vwCl [k0_0 aL vL, k0_1 cI aL vL, k0_2 cI aL vL, k0_3 cI aL vL, k0_4 cI aL vL, k2_0 aS b7, k2_1 cI aS b7, k2_2 cI aS b7] H := by rw [eb7]; exact hP
  have hD : va_D A [k0_0 aL vL, k0_1 cI aL vL, k0_2 cI aL vL, k0_3 cI aL vL, k0_4 cI aL vL, k2_0 aS b7, k2_1 cI aS b7, k2_2 cI aS b7] := by rw [eb7]; exact hD
  refine lv_aload_n hx hb dX2_playOn_5 rfl (lv_at hl 0 rfl) ?_
  refine lv_iconst (v := 0) hx hb dX2_playOn_6 (by decide) ?_
  obtain ⟨b8, eb8, hf⟩ := elet_out hf
  refine va_put (D := (dC, dI)) (ci := 2) (v := .int 0) (ty := .int) (C := RX2) (T := TX2) (N := 9) hx hb hts hiX2 tyX2 tyX2_ok nmX2 hown hK hP hD hS 5 rfl rfl 6 (by decide) hgX2_31 (fun _ h9 => h9) rfl (by decide +kernel) rfl rfl (Nat.le_of_ble_eq_true rfl) dX2_playOn_7 (fun H locs hP hD hS => ?_)
  have hP : va_P (dC, dI) vwCl [k0_0 aL vL, k0_1 cI aL vL, k0_2 cI aL vL, k0_3 cI aL vL, k0_4 cI aL vL, k2_0 aS b8, k2_1 cI aS b8, k2_2 cI aS b8] H := by rw [eb8]; exact hP
  have hD : va_D A [k0_0 aL vL, k0_1 cI aL vL, k0_2 cI aL vL, k0_3 cI aL vL, k0_4 cI aL vL, k2_0 aS b8, k2_1 cI aS b8, k2_2 cI aS b8] := by rw [eb8]; exact hD
  exact (hWW _ _ _ _ _ _ _).1 (L10 FU vL b8 H locs ls hP hD hS (lv_sub hl [0, 1] rfl) hf)
def fX3_fault (vX : BX3) (vA : BX0) (vB : BX0) (vS : BX2) (i1 : Int32) : Option (Int32 × BX0 × BX2) :=
  if i1 < 0 then (some ((-1000001), vB, vS)) else (if i1 ≤ (2 : Int32) then ((fX3_freshTrial vX vA vB).bind (fun y3 => (fX2_playOn y3 vS).bind (fun y4 => if y4.1 = 0 then (if i1 = 0 then (some ((p2_start y4.2.2), y4.2.1, y4.2.2)) else (if i1 = (1 : Int32) then (some ((p2_reason y4.2.2), y4.2.1, y4.2.2)) else (if (p2_reason y4.2.2) = (3 : Int32) then (some ((-1000004), y4.2.1, y4.2.2)) else (some ((p2_cause y4.2.2), y4.2.1, y4.2.2))))) else (some ((-1000004), y4.2.1, y4.2.2))))) else (some ((-1000001), vB, vS)))
set_option maxHeartbeats 8000000 in
set_option maxRecDepth 100000 in
theorem mX3_fault (l : Launch) (dC : Nat → ClassId) (dI : Nat → Nat → Nat) (cI cJ : ClassId) (a : Nat → Nat) (aA : Nat → Nat) (aB : Nat → Nat) (aR : Nat → Nat) (aT : Nat → Nat) (aS : Nat → Nat) (sz : Nat) (vX : BX3) (vA : BX0) (vB : BX0) (vS : BX2) (i1 : Int32) (y : (Int32 × BX0 × BX2)) (hf : fX3_fault vX vA vB vS i1 = some y) : Met l yX3_fault wsX3_fault ({ frames := 8, cells := 0, slots := 0, locals := 170 }) (cPc dC dI cI cJ [.ref (a 0), .int i1] [k3_0 a aA aB aR aT aS vX, k0_0 aA vA, k0_1 cI aA vA, k0_2 cI aA vA, k0_3 cI aA vA, k0_4 cI aA vA, k0_0 aB vB, k0_1 cI aB vB, k0_2 cI aB vB, k0_3 cI aB vB, k0_4 cI aB vB, k2_0 aS vS, k2_1 cI aS vS, k2_2 cI aS vS] sz) (va_Qi (fun r (_ : Unit) => r = y.1) (fun _ t => cB dC dI (va_A [k3_0 a aA aB aR aT aS vX, k0_0 aA vA, k0_1 cI aA vA, k0_2 cI aA vA, k0_3 cI aA vA, k0_4 cI aA vA, k0_0 aB vB, k0_1 cI aB vB, k0_2 cI aB vB, k0_3 cI aB vB, k0_4 cI aB vB, k2_0 aS vS, k2_1 cI aS vS, k2_2 cI aS vS] sz) [k3_0 a aA aB aR aT aS vX, k0_0 aA vA, k0_1 cI aA vA, k0_2 cI aA vA, k0_3 cI aA vA, k0_4 cI aA vA, k0_0 aB y.2.1, k0_1 cI aB y.2.1, k0_2 cI aB y.2.1, k0_3 cI aB y.2.1, k0_4 cI aB y.2.1, k2_0 aS y.2.2, k2_1 cI aS y.2.2, k2_2 cI aS y.2.2] t) (va_A [k3_0 a aA aB aR aT aS vX, k0_0 aA vA, k0_1 cI aA vA, k0_2 cI aA vA, k0_3 cI aA vA, k0_4 cI aA vA, k0_0 aB vB, k0_1 cI aB vB, k0_2 cI aB vB, k0_3 cI aB vB, k0_4 cI aB vB, k2_0 aS vS, k2_1 cI aS vS, k2_2 cI aS vS] sz)) 0 0 (va_A [k3_0 a aA aB aR aT aS vX, k0_0 aA vA, k0_1 cI aA vA, k0_2 cI aA vA, k0_3 cI aA vA, k0_4 cI aA vA, k0_0 aB vB, k0_1 cI aB vB, k0_2 cI aB vB, k0_3 cI aB vB, k0_4 cI aB vB, k2_0 aS vS, k2_1 cI aS vS, k2_2 cI aS vS] sz) := by
  refine Met.ofW (cc := cX3_fault) (maxL := 2) (ret := (some .int)) (by decide) rfl ?_
  intro p e s m args below meth c s₁ B hml hv
  obtain ⟨rfl, hsz, hP, hK, hD0, hN⟩ := hv
  have hx := B.exec
  have hb := B.bytes
  have hr := B.returns
  have hts := atoms_spec (ws := wsX3_fault) B.pre
  have hown : s.vm.findClass RX3 = some m.cls := findClass_of_methodNamed B.named
  have hlocks := B.notSynchronized
  subst hsz
  have hD := hD0.self (sz := s.heap.size)
  generalize hAe : va_A [k3_0 a aA aB aR aT aS vX, k0_0 aA vA, k0_1 cI aA vA, k0_2 cI aA vA, k0_3 cI aA vA, k0_4 cI aA vA, k0_0 aB vB, k0_1 cI aB vB, k0_2 cI aB vB, k0_3 cI aB vB, k0_4 cI aB vB, k2_0 aS vS, k2_1 cI aS vS, k2_2 cI aS vS] s.heap.size = A at hD hN ⊢
  have hA : ∀ q : Nat, s.heap.size ≤ q → A q := fun q h => by rw [← hAe]; exact Or.inr h
  have hP : va_P (dC, dI) vwCl [k3_0 a aA aB aR aT aS vX, k0_0 aA vA, k0_1 cI aA vA, k0_2 cI aA vA, k0_3 cI aA vA, k0_4 cI aA vA, k0_0 aB vB, k0_1 cI aB vB, k0_2 cI aB vB, k0_3 cI aB vB, k0_4 cI aB vB, k2_0 aS vS, k2_1 cI aS vS, k2_2 cI aS vS] s.heap := hP
  have hl := lv_entry ([.ref (a 0), .int i1]) (n := 2) (Nat.le_of_ble_eq_true rfl)
  rw [lg_entry_eq]
  generalize (lg_sl ([.ref (a 0), .int i1]) ++ List.replicate (2 - (lg_sl ([.ref (a 0), .int i1])).length) Slot.unset).toArray = ls at hl ⊢
  have hl : lv_has ls 2 [(0, .ref (a 0)), (1, .int i1)] := hl
  have hc84 := hts (.constant RX3 84 (-1000001)) (by decide +kernel)
  have hiX3 : ∀ w ∈ u_ws RX3 TX3 8, w ∈ wsX3_fault := by decide +kernel
  have hgX3_44 := hts (.fieldLink RX3 44 "SpringPlates" "script" "LSpringPlates$Script;") (by decide +kernel)
  have hiX2 : ∀ w ∈ u_ws RX2 TX2 9, w ∈ wsX3_fault := by decide +kernel
  have hgX2_231 := hts (.fieldLink RX3 231 "SpringPlates$Script" "reason" "I") (by decide +kernel)
  have hgX2_234 := hts (.fieldLink RX3 234 "SpringPlates$Script" "cause" "I") (by decide +kernel)
  have hc101 := hts (.constant RX3 101 (-1000004)) (by decide +kernel)
  have hgX2_228 := hts (.fieldLink RX3 228 "SpringPlates$Script" "start" "I") (by decide +kernel)
  refine nameH (fun H locs hHe hLe => ?_)
  have hP : va_P (dC, dI) vwCl [k3_0 a aA aB aR aT aS vX, k0_0 aA vA, k0_1 cI aA vA, k0_2 cI aA vA, k0_3 cI aA vA, k0_4 cI aA vA, k0_0 aB vB, k0_1 cI aB vB, k0_2 cI aB vB, k0_3 cI aB vB, k0_4 cI aB vB, k2_0 aS vS, k2_1 cI aS vS, k2_2 cI aS vS] H := by rw [hHe]; exact hP
  have hS : va_S A s.heap H locs := by rw [hHe, hLe]; exact va_S.rf
  unfold fX3_fault at hf
  refine lv_iload_n hx hb dX3_fault_0 rfl (lv_at hl 1 rfl) ?_
  refine lv_if_lt (tgt := 9) hx hb dX3_fault_1 (by decide) (fun c1 => ?_) (fun c1 => ?_)
  · have hf := oif_t c1 hf
    refine lv_ldc (v := (-1000001)) hx hb hown hc84 dX3_fault_9 ?_
    obtain rfl := Option.some.inj hf
    exact W.iret (v := (-1000001)) hx hb hr (fun t ht hW => ⟨⟨(-1000001), (), rfl, rfl, by rw [ht]; exact hP, hD⟩, hS.F ht⟩) hS.2.2 dX3_fault_11
  · have hf := oif_f c1 hf
    refine lv_iload_n hx hb dX3_fault_4 rfl (lv_at hl 1 rfl) ?_
    refine lv_iconst (v := 2) hx hb dX3_fault_5 (by decide) ?_
    refine lv_icmp_le (tgt := 12) hx hb dX3_fault_6 (by decide) (fun c2 => ?_) (fun c2 => ?_)
    · have hf := oif_t c2 hf
      refine lv_aload_n hx hb dX3_fault_12 rfl (lv_at hl 0 rfl) ?_
      refine va_get (D := (dC, dI)) (ci := 3) (v := .ref (aS 0)) (C := RX3) (T := TX3) (N := 8) hx hb hts hiX3 hown hK hP 0 rfl rfl 7 (by decide) hgX3_44 (fun _ h9 => h9) rfl dX3_fault_13 ?_
      refine lv_aload_n hx hb dX3_fault_16 rfl (lv_at hl 0 rfl) ?_
      obtain ⟨y3, hy3, hf⟩ := obind hf
      refine cg_r (ws := [k3_0 a aA aB aR aT aS vX, k0_0 aA vA, k0_1 cI aA vA, k0_2 cI aA vA, k0_3 cI aA vA, k0_4 cI aA vA, k0_0 aB vB, k0_1 cI aB vB, k0_2 cI aB vB, k0_3 cI aB vB, k0_4 cI aB vB, k2_0 aS vS, k2_1 cI aS vS, k2_2 cI aS vS]) (wc := [k3_0 a aA aB aR aT aS vX, k0_0 aA vA, k0_1 cI aA vA, k0_2 cI aA vA, k0_3 cI aA vA, k0_4 cI aA vA, k0_0 aB vB, k0_1 cI aB vB, k0_2 cI aB vB, k0_3 cI aB vB, k0_4 cI aB vB]) (wr := [k2_0 aS vS, k2_1 cI aS vS, k2_2 cI aS vS]) (w1 := [k3_0 a aA aB aR aT aS vX, k0_0 aA vA, k0_1 cI aA vA, k0_2 cI aA vA, k0_3 cI aA vA, k0_4 cI aA vA, k0_0 aB y3, k0_1 cI aB y3, k0_2 cI aB y3, k0_3 cI aB y3, k0_4 cI aB y3]) (wo := [k3_0 a aA aB aR aT aS vX, k0_0 aA vA, k0_1 cI aA vA, k0_2 cI aA vA, k0_3 cI aA vA, k0_4 cI aA vA, k0_0 aB y3, k0_1 cI aB y3, k0_2 cI aB y3, k0_3 cI aB y3, k0_4 cI aB y3, k2_0 aS vS, k2_1 cI aS vS, k2_2 cI aS vS]) hP hD hS hA (va_runV (As := []) (rest := [.ref (aS 0)]) ⟨hx, hb, hml, hown, hts⟩ (mX3_freshTrial l dC dI cI cJ a aA aB aR aT aS H.size vX vA vB y3 hy3) (cwV 0 hts gX3_fault_X3_freshTrial rfl rfl rfl (by decide +kernel) ⟨Nat.le_of_ble_eq_true rfl, Nat.le_of_ble_eq_true rfl⟩) ⟨cFB, va_recv hK hP (ci := 3) (q0 := 0) rfl rfl, cPre hK hN hS (va_free (wc := [k3_0 a aA aB aR aT aS vX, k0_0 aA vA, k0_1 cI aA vA, k0_2 cI aA vA, k0_3 cI aA vA, k0_4 cI aA vA, k0_0 aB vB, k0_1 cI aB vB, k0_2 cI aB vB, k0_3 cI aB vB, k0_4 cI aB vB]) hD hS hA [0, 1, 2, 3, 4, 5, 6, 7, 8, 9, 10] rfl) (hP.sub [0, 1, 2, 3, 4, 5, 6, 7, 8, 9, 10] rfl) (hD.sub [0, 1, 2, 3, 4, 5, 6, 7, 8, 9, 10] rfl rfl)⟩ rfl rfl hl.1 rfl (lv_room (Nat.le_of_ble_eq_true rfl)) dX3_fault_17 ⟨Nat.le_of_ble_eq_true rfl, Nat.le_of_ble_eq_true rfl⟩) [0, 1, 2, 3, 4, 5, 6, 7, 8, 9, 10] [11, 12, 13] [3, 4, 5, 6, 7, 8, 9, 10, 11, 12, 13, 0, 1, 2] rfl rfl rfl (by decide +kernel) rfl rfl (fun H locs hP hD hS => ?_)
      obtain ⟨y4, hy4, hf⟩ := obind hf
      refine cg_i (ws := [k3_0 a aA aB aR aT aS vX, k0_0 aA vA, k0_1 cI aA vA, k0_2 cI aA vA, k0_3 cI aA vA, k0_4 cI aA vA, k0_0 aB y3, k0_1 cI aB y3, k0_2 cI aB y3, k0_3 cI aB y3, k0_4 cI aB y3, k2_0 aS vS, k2_1 cI aS vS, k2_2 cI aS vS]) (wc := [k0_0 aB y3, k0_1 cI aB y3, k0_2 cI aB y3, k0_3 cI aB y3, k0_4 cI aB y3, k2_0 aS vS, k2_1 cI aS vS, k2_2 cI aS vS]) (wr := [k3_0 a aA aB aR aT aS vX, k0_0 aA vA, k0_1 cI aA vA, k0_2 cI aA vA, k0_3 cI aA vA, k0_4 cI aA vA]) (w1 := [k0_0 aB y4.2.1, k0_1 cI aB y4.2.1, k0_2 cI aB y4.2.1, k0_3 cI aB y4.2.1, k0_4 cI aB y4.2.1, k2_0 aS y4.2.2, k2_1 cI aS y4.2.2, k2_2 cI aS y4.2.2]) (wo := [k3_0 a aA aB aR aT aS vX, k0_0 aA vA, k0_1 cI aA vA, k0_2 cI aA vA, k0_3 cI aA vA, k0_4 cI aA vA, k0_0 aB y4.2.1, k0_1 cI aB y4.2.1, k0_2 cI aB y4.2.1, k0_3 cI aB y4.2.1, k0_4 cI aB y4.2.1, k2_0 aS y4.2.2, k2_1 cI aS y4.2.2, k2_2 cI aS y4.2.2]) hP hD hS hA (va_runV (As := [.ref (aB 0)]) (rest := []) ⟨hx, hb, hml, hown, hts⟩ (mX2_playOn l dC dI cI cJ aB aS H.size y3 vS y4 hy4) (cwV 1 hts gX3_fault_X2_playOn rfl rfl rfl (by decide +kernel) ⟨Nat.le_of_ble_eq_true rfl, Nat.le_of_ble_eq_true rfl⟩) ⟨cFB, va_recv hK hP (ci := 2) (q0 := 11) rfl rfl, cPre hK hN hS (va_free (wc := [k0_0 aB y3, k0_1 cI aB y3, k0_2 cI aB y3, k0_3 cI aB y3, k0_4 cI aB y3, k2_0 aS vS, k2_1 cI aS vS, k2_2 cI aS vS]) hD hS hA [6, 7, 8, 9, 10, 11, 12, 13] rfl) (hP.sub [6, 7, 8, 9, 10, 11, 12, 13] rfl) (hD.sub [6, 7, 8, 9, 10, 11, 12, 13] rfl rfl)⟩ rfl rfl hl.1 rfl (lv_room (Nat.le_of_ble_eq_true rfl)) dX3_fault_20 ⟨Nat.le_of_ble_eq_true rfl, Nat.le_of_ble_eq_true rfl⟩) [6, 7, 8, 9, 10, 11, 12, 13] [0, 1, 2, 3, 4, 5] [0, 1, 2, 3, 4, 5, 6, 7, 8, 9, 10, 11, 12, 13] rfl rfl rfl (by decide +kernel) rfl rfl (fun H locs hP hD hS => ?_)
      refine lv_if_eq (tgt := 29) hx hb dX3_fault_23 (by decide) (fun c5 => ?_) (fun c5 => ?_)
      · have hf := oif_t c5 hf
        refine lv_iload_n hx hb dX3_fault_29 rfl (lv_at hl 1 rfl) ?_
        refine lv_if_ne (tgt := 41) hx hb dX3_fault_30 (by decide) (fun c6 => ?_) (fun c6 => ?_)
        · have hf := oif_f c6 hf
          refine lv_iload_n hx hb dX3_fault_41 rfl (lv_at hl 1 rfl) ?_
          refine lv_iconst (v := 1) hx hb dX3_fault_42 (by decide) ?_
          refine lv_icmp_ne (tgt := 54) hx hb dX3_fault_43 (by decide) (fun c7 => ?_) (fun c7 => ?_)
          · have hf := oif_f c7 hf
            refine lv_aload_n hx hb dX3_fault_54 rfl (lv_at hl 0 rfl) ?_
            refine va_get (D := (dC, dI)) (ci := 3) (v := .ref (aS 0)) (C := RX3) (T := TX3) (N := 8) hx hb hts hiX3 hown hK hP 0 rfl rfl 7 (by decide) hgX3_44 (fun _ h9 => h9) rfl dX3_fault_55 ?_
            refine va_get (D := (dC, dI)) (ci := 2) (v := .int (p2_reason y4.2.2)) (C := RX2) (T := TX2) (N := 9) hx hb hts hiX2 hown hK hP 11 rfl rfl 3 (by decide) hgX2_231 (fun _ h9 => h9) rfl dX3_fault_58 ?_
            refine lv_iconst (v := 3) hx hb dX3_fault_61 (by decide) ?_
            refine lv_icmp_ne (tgt := 70) hx hb dX3_fault_62 (by decide) (fun c8 => ?_) (fun c8 => ?_)
            · have hf := oif_f c8 hf
              refine lv_aload_n hx hb dX3_fault_70 rfl (lv_at hl 0 rfl) ?_
              refine va_get (D := (dC, dI)) (ci := 3) (v := .ref (aS 0)) (C := RX3) (T := TX3) (N := 8) hx hb hts hiX3 hown hK hP 0 rfl rfl 7 (by decide) hgX3_44 (fun _ h9 => h9) rfl dX3_fault_71 ?_
              refine va_get (D := (dC, dI)) (ci := 2) (v := .int (p2_cause y4.2.2)) (C := RX2) (T := TX2) (N := 9) hx hb hts hiX2 hown hK hP 11 rfl rfl 4 (by decide) hgX2_234 (fun _ h9 => h9) rfl dX3_fault_74 ?_
              obtain rfl := Option.some.inj hf
              exact W.iret (v := (p2_cause y4.2.2)) hx hb hr (fun t ht hW => ⟨⟨(p2_cause y4.2.2), (), rfl, rfl, by rw [ht]; exact hP, hD⟩, hS.F ht⟩) hS.2.2 dX3_fault_77
            · have hf := oif_t c8 hf
              refine lv_ldc (v := (-1000004)) hx hb hown hc101 dX3_fault_65 ?_
              refine lv_goto (tgt := 77) hx hb dX3_fault_67 (by decide) ?_
              obtain rfl := Option.some.inj hf
              exact W.iret (v := (-1000004)) hx hb hr (fun t ht hW => ⟨⟨(-1000004), (), rfl, rfl, by rw [ht]; exact hP, hD⟩, hS.F ht⟩) hS.2.2 dX3_fault_77
          · have hf := oif_t c7 hf
            refine lv_aload_n hx hb dX3_fault_46 rfl (lv_at hl 0 rfl) ?_
            refine va_get (D := (dC, dI)) (ci := 3) (v := .ref (aS 0)) (C := RX3) (T := TX3) (N := 8) hx hb hts hiX3 hown hK hP 0 rfl rfl 7 (by decide) hgX3_44 (fun _ h9 => h9) rfl dX3_fault_47 ?_
            refine va_get (D := (dC, dI)) (ci := 2) (v := .int (p2_reason y4.2.2)) (C := RX2) (T := TX2) (N := 9) hx hb hts hiX2 hown hK hP 11 rfl rfl 3 (by decide) hgX2_231 (fun _ h9 => h9) rfl dX3_fault_50 ?_
            obtain rfl := Option.some.inj hf
            exact W.iret (v := (p2_reason y4.2.2)) hx hb hr (fun t ht hW => ⟨⟨(p2_reason y4.2.2), (), rfl, rfl, by rw [ht]; exact hP, hD⟩, hS.F ht⟩) hS.2.2 dX3_fault_53
        · have hf := oif_t c6 hf
          refine lv_aload_n hx hb dX3_fault_33 rfl (lv_at hl 0 rfl) ?_
          refine va_get (D := (dC, dI)) (ci := 3) (v := .ref (aS 0)) (C := RX3) (T := TX3) (N := 8) hx hb hts hiX3 hown hK hP 0 rfl rfl 7 (by decide) hgX3_44 (fun _ h9 => h9) rfl dX3_fault_34 ?_
          refine va_get (D := (dC, dI)) (ci := 2) (v := .int (p2_start y4.2.2)) (C := RX2) (T := TX2) (N := 9) hx hb hts hiX2 hown hK hP 11 rfl rfl 5 (by decide) hgX2_228 (fun _ h9 => h9) rfl dX3_fault_37 ?_
          obtain rfl := Option.some.inj hf
          exact W.iret (v := (p2_start y4.2.2)) hx hb hr (fun t ht hW => ⟨⟨(p2_start y4.2.2), (), rfl, rfl, by rw [ht]; exact hP, hD⟩, hS.F ht⟩) hS.2.2 dX3_fault_40
      · have hf := oif_f c5 hf
        refine lv_ldc (v := (-1000004)) hx hb hown hc101 dX3_fault_26 ?_
        obtain rfl := Option.some.inj hf
        exact W.iret (v := (-1000004)) hx hb hr (fun t ht hW => ⟨⟨(-1000004), (), rfl, rfl, by rw [ht]; exact hP, hD⟩, hS.F ht⟩) hS.2.2 dX3_fault_28
    · have hf := oif_f c2 hf
      refine lv_ldc (v := (-1000001)) hx hb hown hc84 dX3_fault_9 ?_
      obtain rfl := Option.some.inj hf
      exact W.iret (v := (-1000001)) hx hb hr (fun t ht hW => ⟨⟨(-1000001), (), rfl, rfl, by rw [ht]; exact hP, hD⟩, hS.F ht⟩) hS.2.2 dX3_fault_11
