def fL_rests_12_b (k12 : BX3 → BX0 → BX1 → (Nat → Int64) → (Nat → Int64) → (Nat → Int64) → Int32 → Int32 → Option (Int64 × BX3 × BX1 × (Nat → Int64))) (vX : BX3) (vA : BX0) (vR : BX1) (vu : (Nat → Int64)) (vp : (Nat → Int64)) (vw : (Nat → Int64)) (x1 : Int32) (x5 : Int32) : Option (Int64 × BX3 × BX1 × (Nat → Int64)) :=
  if x1 ≤ x5 then ((fL_common vu vp vw x1).bind (fun y2 => some (y2.1, vX, vR, y2.2))) else ((fX3_place vX vA vR x5 (0 : Int32)).bind (fun y3 => if inB x5 4 = true then (elet (vp_updL vp (x5).toNatClampNeg ((y3.1).toInt64)) (fun b5 => (fX3_place y3.2.1 vA y3.2.2 x5 (1 : Int32)).bind (fun y6 => if inB x5 4 = true then (elet (vp_updL vw (x5).toNatClampNeg ((y6.1).toInt64)) (fun b8 => elet (x5 + 1) (fun z9 => k12 y6.2.1 vA y6.2.2 vu b5 b8 x1 z9))) else none))) else none))
def fL_rests_12 : Nat → BX3 → BX0 → BX1 → (Nat → Int64) → (Nat → Int64) → (Nat → Int64) → Int32 → Int32 → Option (Int64 × BX3 × BX1 × (Nat → Int64))
  | 0 => fun _ _ _ _ _ _ _ _ => none
  | n + 1 => fL_rests_12_b (fL_rests_12 n)
def fL_rests (vX : BX3) (vA : BX0) (vR : BX1) (vu : (Nat → Int64)) (i1 : Int32) : Option (Int64 × BX3 × BX1 × (Nat → Int64)) :=
  elet (fun _ => (0 : Int64)) (fun b10 => elet (fun _ => (0 : Int64)) (fun b11 => fL_rests_12 FU vX vA vR vu b10 b11 i1 (0 : Int32)))
set_option maxHeartbeats 8000000 in
set_option maxRecDepth 100000 in
theorem mL_rests (l : Launch) (dC : Nat → ClassId) (dI : Nat → Nat → Nat) (cI cJ : ClassId) (a : Nat → Nat) (aA : Nat → Nat) (aB : Nat → Nat) (aR : Nat → Nat) (aT : Nat → Nat) (aS : Nat → Nat) (au : Nat) (sz : Nat) (vX : BX3) (vA : BX0) (vR : BX1) (vu : (Nat → Int64)) (i1 : Int32) (y : (Int64 × BX3 × BX1 × (Nat → Int64))) (hf : fL_rests vX vA vR vu i1 = some y) : Met l yL_rests wsL_rests ({ frames := 7, cells := 2, slots := 8, locals := 164 }) (cPc dC dI cI cJ [.ref (a 0), .int i1, .ref au] [k3_0 a aA aB aR aT aS vX, k0_0 aA vA, k0_1 cI aA vA, k0_2 cI aA vA, k0_3 cI aA vA, k0_4 cI aA vA, k1_0 aR vR, k1_1 cJ aR vR, k1_2 cI aR vR, k1_3 cI aR vR, k1_4 cI aR vR, k1_5 cJ aR vR, k1_6 cJ aR vR, k1_7 cJ aR vR, k1_8 cJ aR vR, k1_9 cJ aR vR, kA2 cJ au 4 vu] sz) (va_Ql (fun r (_ : Unit) => r = y.1) (fun _ t => cB dC dI (va_A [k3_0 a aA aB aR aT aS vX, k0_0 aA vA, k0_1 cI aA vA, k0_2 cI aA vA, k0_3 cI aA vA, k0_4 cI aA vA, k1_0 aR vR, k1_1 cJ aR vR, k1_2 cI aR vR, k1_3 cI aR vR, k1_4 cI aR vR, k1_5 cJ aR vR, k1_6 cJ aR vR, k1_7 cJ aR vR, k1_8 cJ aR vR, k1_9 cJ aR vR, kA2 cJ au 4 vu] sz) [k3_0 a aA aB aR aT aS y.2.1, k0_0 aA vA, k0_1 cI aA vA, k0_2 cI aA vA, k0_3 cI aA vA, k0_4 cI aA vA, k1_0 aR y.2.2.1, k1_1 cJ aR y.2.2.1, k1_2 cI aR y.2.2.1, k1_3 cI aR y.2.2.1, k1_4 cI aR y.2.2.1, k1_5 cJ aR y.2.2.1, k1_6 cJ aR y.2.2.1, k1_7 cJ aR y.2.2.1, k1_8 cJ aR y.2.2.1, k1_9 cJ aR y.2.2.1, kA2 cJ au 4 y.2.2.2] t) (va_A [k3_0 a aA aB aR aT aS vX, k0_0 aA vA, k0_1 cI aA vA, k0_2 cI aA vA, k0_3 cI aA vA, k0_4 cI aA vA, k1_0 aR vR, k1_1 cJ aR vR, k1_2 cI aR vR, k1_3 cI aR vR, k1_4 cI aR vR, k1_5 cJ aR vR, k1_6 cJ aR vR, k1_7 cJ aR vR, k1_8 cJ aR vR, k1_9 cJ aR vR, kA2 cJ au 4 vu] sz)) 2 8 (va_A [k3_0 a aA aB aR aT aS vX, k0_0 aA vA, k0_1 cI aA vA, k0_2 cI aA vA, k0_3 cI aA vA, k0_4 cI aA vA, k1_0 aR vR, k1_1 cJ aR vR, k1_2 cI aR vR, k1_3 cI aR vR, k1_4 cI aR vR, k1_5 cJ aR vR, k1_6 cJ aR vR, k1_7 cJ aR vR, k1_8 cJ aR vR, k1_9 cJ aR vR, kA2 cJ au 4 vu] sz) := by
  refine Met.ofW (cc := cL_rests) (maxL := 6) (ret := (some .long)) (by decide) rfl ?_
  intro p e s m args below meth c s₁ B hml hv
  obtain ⟨rfl, hsz, hP, hK, hD0, hN⟩ := hv
  have hx := B.exec
  have hb := B.bytes
  have hr := B.returns
  have hts := atoms_spec (ws := wsL_rests) B.pre
  have hown : s.vm.findClass RL = some m.cls := findClass_of_methodNamed B.named
  have hlocks := B.notSynchronized
  subst hsz
  have hD := hD0.self (sz := s.heap.size)
  generalize hAe : va_A [k3_0 a aA aB aR aT aS vX, k0_0 aA vA, k0_1 cI aA vA, k0_2 cI aA vA, k0_3 cI aA vA, k0_4 cI aA vA, k1_0 aR vR, k1_1 cJ aR vR, k1_2 cI aR vR, k1_3 cI aR vR, k1_4 cI aR vR, k1_5 cJ aR vR, k1_6 cJ aR vR, k1_7 cJ aR vR, k1_8 cJ aR vR, k1_9 cJ aR vR, kA2 cJ au 4 vu] s.heap.size = A at hD hN ⊢
  have hA : ∀ q : Nat, s.heap.size ≤ q → A q := fun q h => by rw [← hAe]; exact Or.inr h
  have hP : va_P (dC, dI) vwCl [k3_0 a aA aB aR aT aS vX, k0_0 aA vA, k0_1 cI aA vA, k0_2 cI aA vA, k0_3 cI aA vA, k0_4 cI aA vA, k1_0 aR vR, k1_1 cJ aR vR, k1_2 cI aR vR, k1_3 cI aR vR, k1_4 cI aR vR, k1_5 cJ aR vR, k1_6 cJ aR vR, k1_7 cJ aR vR, k1_8 cJ aR vR, k1_9 cJ aR vR, kA2 cJ au 4 vu] s.heap := hP
  have hl := lv_entry ([.ref (a 0), .int i1, .ref au]) (n := 6) (Nat.le_of_ble_eq_true rfl)
  rw [lg_entry_eq]
  generalize (lg_sl ([.ref (a 0), .int i1, .ref au]) ++ List.replicate (6 - (lg_sl ([.ref (a 0), .int i1, .ref au])).length) Slot.unset).toArray = ls at hl ⊢
  have hl : lv_has ls 6 [(0, .ref (a 0)), (1, .int i1), (2, .ref au)] := hl
  have haclong := hts (.arrayClass .long) (by decide +kernel)
  refine nameH (fun H locs hHe hLe => ?_)
  have hP : va_P (dC, dI) vwCl [k3_0 a aA aB aR aT aS vX, k0_0 aA vA, k0_1 cI aA vA, k0_2 cI aA vA, k0_3 cI aA vA, k0_4 cI aA vA, k1_0 aR vR, k1_1 cJ aR vR, k1_2 cI aR vR, k1_3 cI aR vR, k1_4 cI aR vR, k1_5 cJ aR vR, k1_6 cJ aR vR, k1_7 cJ aR vR, k1_8 cJ aR vR, k1_9 cJ aR vR, kA2 cJ au 4 vu] H := by rw [hHe]; exact hP
  have hS : va_S A s.heap H locs := by rw [hHe, hLe]; exact va_S.rf
  refine withW (fun WW hWW => ?_)
  have L12 : ∀ (ap aw : Nat), ∀ (n : Nat) (vX : BX3) (vR : BX1) (vu : (Nat → Int64)) (vp : (Nat → Int64)) (vw : (Nat → Int64)) (x1 : Int32) (x5 : Int32) (H : Heap) (locs : List Loc) (ls : Array Slot), va_P (dC, dI) vwCl [k3_0 a aA aB aR aT aS vX, k0_0 aA vA, k0_1 cI aA vA, k0_2 cI aA vA, k0_3 cI aA vA, k0_4 cI aA vA, k1_0 aR vR, k1_1 cJ aR vR, k1_2 cI aR vR, k1_3 cI aR vR, k1_4 cI aR vR, k1_5 cJ aR vR, k1_6 cJ aR vR, k1_7 cJ aR vR, k1_8 cJ aR vR, k1_9 cJ aR vR, kA2 cJ au 4 vu, kA2 cJ ap 4 vp, kA2 cJ aw 4 vw] H → va_D A [k3_0 a aA aB aR aT aS vX, k0_0 aA vA, k0_1 cI aA vA, k0_2 cI aA vA, k0_3 cI aA vA, k0_4 cI aA vA, k1_0 aR vR, k1_1 cJ aR vR, k1_2 cI aR vR, k1_3 cI aR vR, k1_4 cI aR vR, k1_5 cJ aR vR, k1_6 cJ aR vR, k1_7 cJ aR vR, k1_8 cJ aR vR, k1_9 cJ aR vR, kA2 cJ au 4 vu, kA2 cJ ap 4 vp, kA2 cJ aw 4 vw] → va_S A s.heap H locs → lv_has ls 6 [(0, .ref (a 0)), (1, .int x1), (2, .ref au), (3, .ref ap), (4, .ref aw), (5, .int x5)] → fL_rests_12 n vX vA vR vu vp vw x1 x5 = some y → WW H locs 2 8 ls 12 [] := by
    intro ap aw n
    induction n with
    | zero =>
      intro vX vR vu vp vw x1 x5 H locs ls hP hD hS hl hf
      exact onone hf
    | succ n ih =>
      intro vX vR vu vp vw x1 x5 H locs ls hP hD hS hl hf
      have hf : fL_rests_12_b (fL_rests_12 n) vX vA vR vu vp vw x1 x5 = some y := hf
      generalize fL_rests_12 n = k12 at hf ih
      have hk12 := ih
      clear ih
      unfold fL_rests_12_b at hf
      refine (hWW _ _ _ _ _ _ _).2 ?_
      refine lv_iload hx hb dL_rests_12 (lv_at hl 5 rfl) ?_
      refine lv_iload_n hx hb dL_rests_14 rfl (lv_at hl 1 rfl) ?_
      refine lv_icmp_ge (tgt := 49) hx hb dL_rests_15 (by decide) (fun c1 => ?_) (fun c1 => ?_)
      · have hf := oif_t c1 hf
        refine lv_iload_n hx hb dL_rests_49 rfl (lv_at hl 1 rfl) ?_
        refine lv_aload_n hx hb dL_rests_50 rfl (lv_at hl 3 rfl) ?_
        refine lv_aload hx hb dL_rests_51 (lv_at hl 4 rfl) ?_
        refine lv_aload_n hx hb dL_rests_53 rfl (lv_at hl 2 rfl) ?_
        obtain ⟨y2, hy2, hf⟩ := obind hf
        refine cg_l (ws := [k3_0 a aA aB aR aT aS vX, k0_0 aA vA, k0_1 cI aA vA, k0_2 cI aA vA, k0_3 cI aA vA, k0_4 cI aA vA, k1_0 aR vR, k1_1 cJ aR vR, k1_2 cI aR vR, k1_3 cI aR vR, k1_4 cI aR vR, k1_5 cJ aR vR, k1_6 cJ aR vR, k1_7 cJ aR vR, k1_8 cJ aR vR, k1_9 cJ aR vR, kA2 cJ au 4 vu, kA2 cJ ap 4 vp, kA2 cJ aw 4 vw]) (wc := [kA2 cJ au 4 vu, kA2 cJ ap 4 vp, kA2 cJ aw 4 vw]) (wr := [k3_0 a aA aB aR aT aS vX, k0_0 aA vA, k0_1 cI aA vA, k0_2 cI aA vA, k0_3 cI aA vA, k0_4 cI aA vA, k1_0 aR vR, k1_1 cJ aR vR, k1_2 cI aR vR, k1_3 cI aR vR, k1_4 cI aR vR, k1_5 cJ aR vR, k1_6 cJ aR vR, k1_7 cJ aR vR, k1_8 cJ aR vR, k1_9 cJ aR vR]) (w1 := [kA2 cJ au 4 y2.2, kA2 cJ ap 4 vp, kA2 cJ aw 4 vw]) (wo := [k3_0 a aA aB aR aT aS vX, k0_0 aA vA, k0_1 cI aA vA, k0_2 cI aA vA, k0_3 cI aA vA, k0_4 cI aA vA, k1_0 aR vR, k1_1 cJ aR vR, k1_2 cI aR vR, k1_3 cI aR vR, k1_4 cI aR vR, k1_5 cJ aR vR, k1_6 cJ aR vR, k1_7 cJ aR vR, k1_8 cJ aR vR, k1_9 cJ aR vR, kA2 cJ au 4 y2.2, kA2 cJ ap 4 vp, kA2 cJ aw 4 vw]) hP hD hS hA (va_runS (As := [.int x1, .ref ap, .ref aw, .ref au]) (rest := []) ⟨hx, hb, hml, hown, hts⟩ (mL_common l dC dI cI cJ au ap aw H.size vu vp vw x1 y2 hy2) (va_cwS 4 hts gL_rests_L_common rfl rfl rfl (by decide +kernel) ⟨Nat.le_of_ble_eq_true rfl, Nat.le_of_ble_eq_true rfl⟩) ⟨cFB, cPre hK hN hS (va_free (wc := [kA2 cJ au 4 vu, kA2 cJ ap 4 vp, kA2 cJ aw 4 vw]) hD hS hA [16, 17, 18] rfl) (hP.sub [16, 17, 18] rfl) (hD.sub [16, 17, 18] rfl rfl)⟩ rfl rfl hl.1 rfl (lv_room (Nat.le_of_ble_eq_true rfl)) dL_rests_54 ⟨Nat.le_of_ble_eq_true rfl, Nat.le_of_ble_eq_true rfl⟩) [16, 17, 18] [0, 1, 2, 3, 4, 5, 6, 7, 8, 9, 10, 11, 12, 13, 14, 15] [0, 1, 2, 3, 4, 5, 6, 7, 8, 9, 10, 11, 12, 13, 14, 15, 16, 17, 18] rfl rfl rfl (by decide +kernel) rfl rfl (fun H locs hP hD hS => ?_)
        obtain rfl := Option.some.inj hf
        have hP := hP.sub (ws' := [k3_0 a aA aB aR aT aS vX, k0_0 aA vA, k0_1 cI aA vA, k0_2 cI aA vA, k0_3 cI aA vA, k0_4 cI aA vA, k1_0 aR vR, k1_1 cJ aR vR, k1_2 cI aR vR, k1_3 cI aR vR, k1_4 cI aR vR, k1_5 cJ aR vR, k1_6 cJ aR vR, k1_7 cJ aR vR, k1_8 cJ aR vR, k1_9 cJ aR vR, kA2 cJ au 4 y2.2]) [0, 1, 2, 3, 4, 5, 6, 7, 8, 9, 10, 11, 12, 13, 14, 15, 16] rfl
        have hD := hD.sub (ws' := [k3_0 a aA aB aR aT aS vX, k0_0 aA vA, k0_1 cI aA vA, k0_2 cI aA vA, k0_3 cI aA vA, k0_4 cI aA vA, k1_0 aR vR, k1_1 cJ aR vR, k1_2 cI aR vR, k1_3 cI aR vR, k1_4 cI aR vR, k1_5 cJ aR vR, k1_6 cJ aR vR, k1_7 cJ aR vR, k1_8 cJ aR vR, k1_9 cJ aR vR, kA2 cJ au 4 y2.2]) [0, 1, 2, 3, 4, 5, 6, 7, 8, 9, 10, 11, 12, 13, 14, 15, 16] rfl rfl
        exact W.lret (v := y2.1) hx hb hr (fun t ht hW => ⟨⟨y2.1, (), rfl, rfl, by rw [ht]; exact hP, hD⟩, hS.F ht⟩) hS.2.2 dL_rests_57
      · have hf := oif_f c1 hf
        refine lv_aload_n hx hb dL_rests_18 rfl (lv_at hl 3 rfl) ?_
        refine lv_iload hx hb dL_rests_19 (lv_at hl 5 rfl) ?_
        refine lv_aload_n hx hb dL_rests_21 rfl (lv_at hl 0 rfl) ?_
        refine lv_iload hx hb dL_rests_22 (lv_at hl 5 rfl) ?_
        refine lv_iconst (v := 0) hx hb dL_rests_24 (by decide) ?_
        obtain ⟨y3, hy3, hf⟩ := obind hf
        refine cg_i (ws := [k3_0 a aA aB aR aT aS vX, k0_0 aA vA, k0_1 cI aA vA, k0_2 cI aA vA, k0_3 cI aA vA, k0_4 cI aA vA, k1_0 aR vR, k1_1 cJ aR vR, k1_2 cI aR vR, k1_3 cI aR vR, k1_4 cI aR vR, k1_5 cJ aR vR, k1_6 cJ aR vR, k1_7 cJ aR vR, k1_8 cJ aR vR, k1_9 cJ aR vR, kA2 cJ au 4 vu, kA2 cJ ap 4 vp, kA2 cJ aw 4 vw]) (wc := [k3_0 a aA aB aR aT aS vX, k0_0 aA vA, k0_1 cI aA vA, k0_2 cI aA vA, k0_3 cI aA vA, k0_4 cI aA vA, k1_0 aR vR, k1_1 cJ aR vR, k1_2 cI aR vR, k1_3 cI aR vR, k1_4 cI aR vR, k1_5 cJ aR vR, k1_6 cJ aR vR, k1_7 cJ aR vR, k1_8 cJ aR vR, k1_9 cJ aR vR]) (wr := [kA2 cJ au 4 vu, kA2 cJ ap 4 vp, kA2 cJ aw 4 vw]) (w1 := [k3_0 a aA aB aR aT aS y3.2.1, k0_0 aA vA, k0_1 cI aA vA, k0_2 cI aA vA, k0_3 cI aA vA, k0_4 cI aA vA, k1_0 aR y3.2.2, k1_1 cJ aR y3.2.2, k1_2 cI aR y3.2.2, k1_3 cI aR y3.2.2, k1_4 cI aR y3.2.2, k1_5 cJ aR y3.2.2, k1_6 cJ aR y3.2.2, k1_7 cJ aR y3.2.2, k1_8 cJ aR y3.2.2, k1_9 cJ aR y3.2.2]) (wo := [k3_0 a aA aB aR aT aS y3.2.1, k0_0 aA vA, k0_1 cI aA vA, k0_2 cI aA vA, k0_3 cI aA vA, k0_4 cI aA vA, k1_0 aR y3.2.2, k1_1 cJ aR y3.2.2, k1_2 cI aR y3.2.2, k1_3 cI aR y3.2.2, k1_4 cI aR y3.2.2, k1_5 cJ aR y3.2.2, k1_6 cJ aR y3.2.2, k1_7 cJ aR y3.2.2, k1_8 cJ aR y3.2.2, k1_9 cJ aR y3.2.2, kA2 cJ au 4 vu, kA2 cJ ap 4 vp, kA2 cJ aw 4 vw]) hP hD hS hA (va_runV (As := [.int x5, .int 0]) (rest := [.int x5, .ref ap]) ⟨hx, hb, hml, hown, hts⟩ (mX3_place l dC dI cI cJ a aA aB aR aT aS H.size vX vA vR x5 (0 : Int32) y3 hy3) (cwV 2 hts gL_rests_X3_place rfl rfl rfl (by decide +kernel) ⟨Nat.le_of_ble_eq_true rfl, Nat.le_of_ble_eq_true rfl⟩) ⟨cFB, va_recv hK hP (ci := 3) (q0 := 0) rfl rfl, cPre hK hN hS (va_free (wc := [k3_0 a aA aB aR aT aS vX, k0_0 aA vA, k0_1 cI aA vA, k0_2 cI aA vA, k0_3 cI aA vA, k0_4 cI aA vA, k1_0 aR vR, k1_1 cJ aR vR, k1_2 cI aR vR, k1_3 cI aR vR, k1_4 cI aR vR, k1_5 cJ aR vR, k1_6 cJ aR vR, k1_7 cJ aR vR, k1_8 cJ aR vR, k1_9 cJ aR vR]) hD hS hA [0, 1, 2, 3, 4, 5, 6, 7, 8, 9, 10, 11, 12, 13, 14, 15] rfl) (hP.sub [0, 1, 2, 3, 4, 5, 6, 7, 8, 9, 10, 11, 12, 13, 14, 15] rfl) (hD.sub [0, 1, 2, 3, 4, 5, 6, 7, 8, 9, 10, 11, 12, 13, 14, 15] rfl rfl)⟩ rfl rfl hl.1 rfl (lv_room (Nat.le_of_ble_eq_true rfl)) dL_rests_25 ⟨Nat.le_of_ble_eq_true rfl, Nat.le_of_ble_eq_true rfl⟩) [0, 1, 2, 3, 4, 5, 6, 7, 8, 9, 10, 11, 12, 13, 14, 15] [16, 17, 18] [3, 4, 5, 6, 7, 8, 9, 10, 11, 12, 13, 14, 15, 16, 17, 18, 0, 1, 2] rfl rfl rfl (by decide +kernel) rfl rfl (fun H locs hP hD hS => ?_)
        refine lv_i2l (v := (y3.1).toInt64) hx hb dL_rests_28 rfl ?_
        obtain ⟨hi4, hf⟩ := oinb rfl hf
        obtain ⟨b5, eb5, hf⟩ := elet_out hf
        refine va_last hx hb hK hP hD hS 17 1 rfl rfl hi4 dL_rests_29 (fun H locs hP hD hS => ?_)
        have hP : va_P (dC, dI) vwCl [k3_0 a aA aB aR aT aS y3.2.1, k0_0 aA vA, k0_1 cI aA vA, k0_2 cI aA vA, k0_3 cI aA vA, k0_4 cI aA vA, k1_0 aR y3.2.2, k1_1 cJ aR y3.2.2, k1_2 cI aR y3.2.2, k1_3 cI aR y3.2.2, k1_4 cI aR y3.2.2, k1_5 cJ aR y3.2.2, k1_6 cJ aR y3.2.2, k1_7 cJ aR y3.2.2, k1_8 cJ aR y3.2.2, k1_9 cJ aR y3.2.2, kA2 cJ au 4 vu, kA2 cJ ap 4 b5, kA2 cJ aw 4 vw] H := by rw [eb5]; exact hP
        have hD : va_D A [k3_0 a aA aB aR aT aS y3.2.1, k0_0 aA vA, k0_1 cI aA vA, k0_2 cI aA vA, k0_3 cI aA vA, k0_4 cI aA vA, k1_0 aR y3.2.2, k1_1 cJ aR y3.2.2, k1_2 cI aR y3.2.2, k1_3 cI aR y3.2.2, k1_4 cI aR y3.2.2, k1_5 cJ aR y3.2.2, k1_6 cJ aR y3.2.2, k1_7 cJ aR y3.2.2, k1_8 cJ aR y3.2.2, k1_9 cJ aR y3.2.2, kA2 cJ au 4 vu, kA2 cJ ap 4 b5, kA2 cJ aw 4 vw] := by rw [eb5]; exact hD
        refine lv_aload hx hb dL_rests_30 (lv_at hl 4 rfl) ?_
        refine lv_iload hx hb dL_rests_32 (lv_at hl 5 rfl) ?_
        refine lv_aload_n hx hb dL_rests_34 rfl (lv_at hl 0 rfl) ?_
        refine lv_iload hx hb dL_rests_35 (lv_at hl 5 rfl) ?_
        refine lv_iconst (v := 1) hx hb dL_rests_37 (by decide) ?_
        obtain ⟨y6, hy6, hf⟩ := obind hf
        refine cg_i (ws := [k3_0 a aA aB aR aT aS y3.2.1, k0_0 aA vA, k0_1 cI aA vA, k0_2 cI aA vA, k0_3 cI aA vA, k0_4 cI aA vA, k1_0 aR y3.2.2, k1_1 cJ aR y3.2.2, k1_2 cI aR y3.2.2, k1_3 cI aR y3.2.2, k1_4 cI aR y3.2.2, k1_5 cJ aR y3.2.2, k1_6 cJ aR y3.2.2, k1_7 cJ aR y3.2.2, k1_8 cJ aR y3.2.2, k1_9 cJ aR y3.2.2, kA2 cJ au 4 vu, kA2 cJ ap 4 b5, kA2 cJ aw 4 vw]) (wc := [k3_0 a aA aB aR aT aS y3.2.1, k0_0 aA vA, k0_1 cI aA vA, k0_2 cI aA vA, k0_3 cI aA vA, k0_4 cI aA vA, k1_0 aR y3.2.2, k1_1 cJ aR y3.2.2, k1_2 cI aR y3.2.2, k1_3 cI aR y3.2.2, k1_4 cI aR y3.2.2, k1_5 cJ aR y3.2.2, k1_6 cJ aR y3.2.2, k1_7 cJ aR y3.2.2, k1_8 cJ aR y3.2.2, k1_9 cJ aR y3.2.2]) (wr := [kA2 cJ au 4 vu, kA2 cJ ap 4 b5, kA2 cJ aw 4 vw]) (w1 := [k3_0 a aA aB aR aT aS y6.2.1, k0_0 aA vA, k0_1 cI aA vA, k0_2 cI aA vA, k0_3 cI aA vA, k0_4 cI aA vA, k1_0 aR y6.2.2, k1_1 cJ aR y6.2.2, k1_2 cI aR y6.2.2, k1_3 cI aR y6.2.2, k1_4 cI aR y6.2.2, k1_5 cJ aR y6.2.2, k1_6 cJ aR y6.2.2, k1_7 cJ aR y6.2.2, k1_8 cJ aR y6.2.2, k1_9 cJ aR y6.2.2]) (wo := [k3_0 a aA aB aR aT aS y6.2.1, k0_0 aA vA, k0_1 cI aA vA, k0_2 cI aA vA, k0_3 cI aA vA, k0_4 cI aA vA, k1_0 aR y6.2.2, k1_1 cJ aR y6.2.2, k1_2 cI aR y6.2.2, k1_3 cI aR y6.2.2, k1_4 cI aR y6.2.2, k1_5 cJ aR y6.2.2, k1_6 cJ aR y6.2.2, k1_7 cJ aR y6.2.2, k1_8 cJ aR y6.2.2, k1_9 cJ aR y6.2.2, kA2 cJ au 4 vu, kA2 cJ ap 4 b5, kA2 cJ aw 4 vw]) hP hD hS hA (va_runV (As := [.int x5, .int 1]) (rest := [.int x5, .ref aw]) ⟨hx, hb, hml, hown, hts⟩ (mX3_place l dC dI cI cJ a aA aB aR aT aS H.size y3.2.1 vA y3.2.2 x5 (1 : Int32) y6 hy6) (cwV 2 hts gL_rests_X3_place rfl rfl rfl (by decide +kernel) ⟨Nat.le_of_ble_eq_true rfl, Nat.le_of_ble_eq_true rfl⟩) ⟨cFB, va_recv hK hP (ci := 3) (q0 := 0) rfl rfl, cPre hK hN hS (va_free (wc := [k3_0 a aA aB aR aT aS y3.2.1, k0_0 aA vA, k0_1 cI aA vA, k0_2 cI aA vA, k0_3 cI aA vA, k0_4 cI aA vA, k1_0 aR y3.2.2, k1_1 cJ aR y3.2.2, k1_2 cI aR y3.2.2, k1_3 cI aR y3.2.2, k1_4 cI aR y3.2.2, k1_5 cJ aR y3.2.2, k1_6 cJ aR y3.2.2, k1_7 cJ aR y3.2.2, k1_8 cJ aR y3.2.2, k1_9 cJ aR y3.2.2]) hD hS hA [0, 1, 2, 3, 4, 5, 6, 7, 8, 9, 10, 11, 12, 13, 14, 15] rfl) (hP.sub [0, 1, 2, 3, 4, 5, 6, 7, 8, 9, 10, 11, 12, 13, 14, 15] rfl) (hD.sub [0, 1, 2, 3, 4, 5, 6, 7, 8, 9, 10, 11, 12, 13, 14, 15] rfl rfl)⟩ rfl rfl hl.1 rfl (lv_room (Nat.le_of_ble_eq_true rfl)) dL_rests_38 ⟨Nat.le_of_ble_eq_true rfl, Nat.le_of_ble_eq_true rfl⟩) [0, 1, 2, 3, 4, 5, 6, 7, 8, 9, 10, 11, 12, 13, 14, 15] [16, 17, 18] [3, 4, 5, 6, 7, 8, 9, 10, 11, 12, 13, 14, 15, 16, 17, 18, 0, 1, 2] rfl rfl rfl (by decide +kernel) rfl rfl (fun H locs hP hD hS => ?_)
        refine lv_i2l (v := (y6.1).toInt64) hx hb dL_rests_41 rfl ?_
        obtain ⟨hi7, hf⟩ := oinb rfl hf
        obtain ⟨b8, eb8, hf⟩ := elet_out hf
        refine va_last hx hb hK hP hD hS 18 1 rfl rfl hi7 dL_rests_42 (fun H locs hP hD hS => ?_)
        have hP : va_P (dC, dI) vwCl [k3_0 a aA aB aR aT aS y6.2.1, k0_0 aA vA, k0_1 cI aA vA, k0_2 cI aA vA, k0_3 cI aA vA, k0_4 cI aA vA, k1_0 aR y6.2.2, k1_1 cJ aR y6.2.2, k1_2 cI aR y6.2.2, k1_3 cI aR y6.2.2, k1_4 cI aR y6.2.2, k1_5 cJ aR y6.2.2, k1_6 cJ aR y6.2.2, k1_7 cJ aR y6.2.2, k1_8 cJ aR y6.2.2, k1_9 cJ aR y6.2.2, kA2 cJ au 4 vu, kA2 cJ ap 4 b5, kA2 cJ aw 4 b8] H := by rw [eb8]; exact hP
        have hD : va_D A [k3_0 a aA aB aR aT aS y6.2.1, k0_0 aA vA, k0_1 cI aA vA, k0_2 cI aA vA, k0_3 cI aA vA, k0_4 cI aA vA, k1_0 aR y6.2.2, k1_1 cJ aR y6.2.2, k1_2 cI aR y6.2.2, k1_3 cI aR y6.2.2, k1_4 cI aR y6.2.2, k1_5 cJ aR y6.2.2, k1_6 cJ aR y6.2.2, k1_7 cJ aR y6.2.2, k1_8 cJ aR y6.2.2, k1_9 cJ aR y6.2.2, kA2 cJ au 4 vu, kA2 cJ ap 4 b5, kA2 cJ aw 4 b8] := by rw [eb8]; exact hD
        obtain ⟨z9, ez9, hf⟩ := elet_out hf
        refine lv_iinc (v := z9) (lv' := [(5, .int z9), (0, .ref (a 0)), (1, .int x1), (2, .ref au), (3, .ref ap), (4, .ref aw)]) hx hb dL_rests_43 hl (k := 5) rfl (by rw [ez9]; rfl) (by decide) rfl (fun ls hl => ?_)
        refine lv_goto (tgt := 12) hx hb dL_rests_46 (by decide) ?_
        exact (hWW _ _ _ _ _ _ _).1 (hk12 y6.2.1 y6.2.2 vu b5 b8 x1 z9 H locs ls hP hD hS (lv_sub hl [1, 2, 3, 4, 5, 0] rfl) hf)
  refine (hWW _ _ _ _ _ _ _).2 ?_
  unfold fL_rests at hf
  refine lv_iconst (v := 4) hx hb dL_rests_0 (by decide) ?_
  refine va_newa (atype := .long) (a0 := (4, .inr (.inl (fun _ => 0)))) (N' := 4) hx hb haclong rfl hK hP hD hS hA (fun cA => rfl) (by decide) rfl (Nat.le_of_ble_eq_true rfl) (Nat.le_of_ble_eq_true rfl) (Nat.le_of_ble_eq_true rfl) dL_rests_1 (fun ap cA H hK2 hP hD hS => ?_)
  obtain ⟨ecA, hK⟩ := vaK_l hK2
  subst ecA; clear hK2
  obtain ⟨b10, eb10, hf⟩ := elet_out hf
  have hP : va_P (dC, dI) vwCl [k3_0 a aA aB aR aT aS vX, k0_0 aA vA, k0_1 cI aA vA, k0_2 cI aA vA, k0_3 cI aA vA, k0_4 cI aA vA, k1_0 aR vR, k1_1 cJ aR vR, k1_2 cI aR vR, k1_3 cI aR vR, k1_4 cI aR vR, k1_5 cJ aR vR, k1_6 cJ aR vR, k1_7 cJ aR vR, k1_8 cJ aR vR, k1_9 cJ aR vR, kA2 cJ au 4 vu, kA2 cJ ap 4 b10] H := by rw [eb10]; exact hP
  have hD : va_D A [k3_0 a aA aB aR aT aS vX, k0_0 aA vA, k0_1 cI aA vA, k0_2 cI aA vA, k0_3 cI aA vA, k0_4 cI aA vA, k1_0 aR vR, k1_1 cJ aR vR, k1_2 cI aR vR, k1_3 cI aR vR, k1_4 cI aR vR, k1_5 cJ aR vR, k1_6 cJ aR vR, k1_7 cJ aR vR, k1_8 cJ aR vR, k1_9 cJ aR vR, kA2 cJ au 4 vu, kA2 cJ ap 4 b10] := by rw [eb10]; exact hD
  refine W.widen (k := 1) (n := 4) (Nat.le_of_ble_eq_true rfl) (Nat.le_of_ble_eq_true rfl) ?_
  refine lv_astore_n (lv' := [(3, .ref ap), (0, .ref (a 0)), (1, .int i1), (2, .ref au)]) hx hb dL_rests_3 rfl hl (by decide) rfl (fun ls hl => ?_)
  refine lv_iconst (v := 4) hx hb dL_rests_4 (by decide) ?_
  refine va_newa (atype := .long) (a0 := (4, .inr (.inl (fun _ => 0)))) (N' := 4) hx hb haclong rfl hK hP hD hS hA (fun cA => rfl) (by decide) rfl (Nat.le_of_ble_eq_true rfl) (Nat.le_of_ble_eq_true rfl) (Nat.le_of_ble_eq_true rfl) dL_rests_5 (fun aw cA H hK2 hP hD hS => ?_)
  obtain ⟨ecA, hK⟩ := vaK_l hK2
  subst ecA; clear hK2
  obtain ⟨b11, eb11, hf⟩ := elet_out hf
  have hP : va_P (dC, dI) vwCl [k3_0 a aA aB aR aT aS vX, k0_0 aA vA, k0_1 cI aA vA, k0_2 cI aA vA, k0_3 cI aA vA, k0_4 cI aA vA, k1_0 aR vR, k1_1 cJ aR vR, k1_2 cI aR vR, k1_3 cI aR vR, k1_4 cI aR vR, k1_5 cJ aR vR, k1_6 cJ aR vR, k1_7 cJ aR vR, k1_8 cJ aR vR, k1_9 cJ aR vR, kA2 cJ au 4 vu, kA2 cJ ap 4 b10, kA2 cJ aw 4 b11] H := by rw [eb11]; exact hP
  have hD : va_D A [k3_0 a aA aB aR aT aS vX, k0_0 aA vA, k0_1 cI aA vA, k0_2 cI aA vA, k0_3 cI aA vA, k0_4 cI aA vA, k1_0 aR vR, k1_1 cJ aR vR, k1_2 cI aR vR, k1_3 cI aR vR, k1_4 cI aR vR, k1_5 cJ aR vR, k1_6 cJ aR vR, k1_7 cJ aR vR, k1_8 cJ aR vR, k1_9 cJ aR vR, kA2 cJ au 4 vu, kA2 cJ ap 4 b10, kA2 cJ aw 4 b11] := by rw [eb11]; exact hD
  refine W.widen (k := 2) (n := 8) (Nat.le_of_ble_eq_true rfl) (Nat.le_of_ble_eq_true rfl) ?_
  refine lv_astore (lv' := [(4, .ref aw), (3, .ref ap), (0, .ref (a 0)), (1, .int i1), (2, .ref au)]) hx hb dL_rests_7 hl (by decide) rfl (fun ls hl => ?_)
  refine lv_iconst (v := 0) hx hb dL_rests_9 (by decide) ?_
  refine lv_istore (lv' := [(5, .int 0), (4, .ref aw), (3, .ref ap), (0, .ref (a 0)), (1, .int i1), (2, .ref au)]) hx hb dL_rests_10 hl (by decide) rfl (fun ls hl => ?_)
  exact (hWW _ _ _ _ _ _ _).1 (L12 ap aw FU vX vR vu b10 b11 i1 (0 : Int32) H locs ls hP hD hS (lv_sub hl [3, 4, 5, 2, 1, 0] rfl) hf)
