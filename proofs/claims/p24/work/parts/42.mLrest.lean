def fL_rest_88 (k16 : (Nat → Int32) → (Nat → Int32) → (Nat → Int64) → Int64 → Int32 → Int32 → Option Int32) (vg : (Nat → Int32)) (vk : (Nat → Int32)) (vu : (Nat → Int64)) (l3 : Int64) (x6 : Int32) (st0 : Int32) : Option Int32 :=
  elet (x6 + 1) (fun z13 => k16 vg vk vu l3 st0 z13)
def fL_rest_83 (k16 : (Nat → Int32) → (Nat → Int32) → (Nat → Int64) → Int64 → Int32 → Int32 → Option Int32) (vg : (Nat → Int32)) (vk : (Nat → Int32)) (vu : (Nat → Int64)) (l3 : Int64) (x6 : Int32) : Option Int32 :=
  fL_rest_88 k16 vg vk vu l3 x6 (1 : Int32)
def fL_rest_87 (k16 : (Nat → Int32) → (Nat → Int32) → (Nat → Int64) → Int64 → Int32 → Int32 → Option Int32) (vg : (Nat → Int32)) (vk : (Nat → Int32)) (vu : (Nat → Int64)) (l3 : Int64) (x6 : Int32) : Option Int32 :=
  fL_rest_88 k16 vg vk vu l3 x6 (0 : Int32)
def fL_rest_290 (k99 : (Nat → Int32) → (Nat → Int32) → (Nat → Int64) → Int64 → Int32 → Int32 → Option Int32) (k111 : (Nat → Int32) → (Nat → Int32) → (Nat → Int64) → Int64 → Int32 → Int32 → Int32 → Option Int32) (k212 : (Nat → Int32) → (Nat → Int32) → (Nat → Int64) → Int64 → Int32 → Int32 → Int32 → Int32 → Int32 → Int64 → Int32 → Option Int32) (vg : (Nat → Int32)) (vk : (Nat → Int32)) (vu : (Nat → Int64)) (l3 : Int64) (x5 : Int32) (x6 : Int32) (x7 : Int32) (x9 : Int32) (l11 : Int64) (x13 : Int32) (st0 : Int32) : Option Int32 :=
  elet (x13 + 1) (fun z45 => k212 vg vk vu l3 x5 x6 x7 x9 st0 l11 z45)
def fL_rest_289 (k99 : (Nat → Int32) → (Nat → Int32) → (Nat → Int64) → Int64 → Int32 → Int32 → Option Int32) (k111 : (Nat → Int32) → (Nat → Int32) → (Nat → Int64) → Int64 → Int32 → Int32 → Int32 → Option Int32) (k212 : (Nat → Int32) → (Nat → Int32) → (Nat → Int64) → Int64 → Int32 → Int32 → Int32 → Int32 → Int32 → Int64 → Int32 → Option Int32) (vg : (Nat → Int32)) (vk : (Nat → Int32)) (vu : (Nat → Int64)) (l3 : Int64) (x5 : Int32) (x6 : Int32) (x7 : Int32) (x9 : Int32) (l11 : Int64) (x13 : Int32) : Option Int32 :=
  fL_rest_290 k99 k111 k212 vg vk vu l3 x5 x6 x7 x9 l11 x13 (0 : Int32)
def fL_rest_261 (k99 : (Nat → Int32) → (Nat → Int32) → (Nat → Int64) → Int64 → Int32 → Int32 → Option Int32) (k111 : (Nat → Int32) → (Nat → Int32) → (Nat → Int64) → Int64 → Int32 → Int32 → Int32 → Option Int32) (k212 : (Nat → Int32) → (Nat → Int32) → (Nat → Int64) → Int64 → Int32 → Int32 → Int32 → Int32 → Int32 → Int64 → Int32 → Option Int32) (vg : (Nat → Int32)) (vk : (Nat → Int32)) (vu : (Nat → Int64)) (l3 : Int64) (x5 : Int32) (x6 : Int32) (x7 : Int32) (x10 : Int32) (l11 : Int64) (x13 : Int32) (st0 : Int32) : Option Int32 :=
  if x10 = 0 then (fL_rest_289 k99 k111 k212 vg vk vu l3 x5 x6 x7 st0 l11 x13) else (if inB x13 4 = true then ((fL_least vk x13).bind (fun y43 => if (lg_cmp (vu (x13).toNatClampNeg) ((y43).toInt64 * l3)) ≤ 0 then (fL_rest_289 k99 k111 k212 vg vk vu l3 x5 x6 x7 st0 l11 x13) else (fL_rest_290 k99 k111 k212 vg vk vu l3 x5 x6 x7 st0 l11 x13 (1 : Int32)))) else none)
def fL_rest_260 (k99 : (Nat → Int32) → (Nat → Int32) → (Nat → Int64) → Int64 → Int32 → Int32 → Option Int32) (k111 : (Nat → Int32) → (Nat → Int32) → (Nat → Int64) → Int64 → Int32 → Int32 → Int32 → Option Int32) (k212 : (Nat → Int32) → (Nat → Int32) → (Nat → Int64) → Int64 → Int32 → Int32 → Int32 → Int32 → Int32 → Int64 → Int32 → Option Int32) (vg : (Nat → Int32)) (vk : (Nat → Int32)) (vu : (Nat → Int64)) (l3 : Int64) (x5 : Int32) (x6 : Int32) (x7 : Int32) (x10 : Int32) (l11 : Int64) (x13 : Int32) : Option Int32 :=
  fL_rest_261 k99 k111 k212 vg vk vu l3 x5 x6 x7 x10 l11 x13 (0 : Int32)
def fL_rest_332 (k99 : (Nat → Int32) → (Nat → Int32) → (Nat → Int64) → Int64 → Int32 → Int32 → Option Int32) (k111 : (Nat → Int32) → (Nat → Int32) → (Nat → Int64) → Int64 → Int32 → Int32 → Int32 → Option Int32) (vg : (Nat → Int32)) (vk : (Nat → Int32)) (vu : (Nat → Int64)) (l3 : Int64) (x6 : Int32) (x7 : Int32) (st0 : Int32) : Option Int32 :=
  elet (x7 + 1) (fun z48 => k111 vg vk vu l3 st0 x6 z48)
def fL_rest_327 (k99 : (Nat → Int32) → (Nat → Int32) → (Nat → Int64) → Int64 → Int32 → Int32 → Option Int32) (k111 : (Nat → Int32) → (Nat → Int32) → (Nat → Int64) → Int64 → Int32 → Int32 → Int32 → Option Int32) (vg : (Nat → Int32)) (vk : (Nat → Int32)) (vu : (Nat → Int64)) (l3 : Int64) (x6 : Int32) (x7 : Int32) : Option Int32 :=
  fL_rest_332 k99 k111 vg vk vu l3 x6 x7 (1 : Int32)
def fL_rest_331 (k99 : (Nat → Int32) → (Nat → Int32) → (Nat → Int64) → Int64 → Int32 → Int32 → Option Int32) (k111 : (Nat → Int32) → (Nat → Int32) → (Nat → Int64) → Int64 → Int32 → Int32 → Int32 → Option Int32) (vg : (Nat → Int32)) (vk : (Nat → Int32)) (vu : (Nat → Int64)) (l3 : Int64) (x6 : Int32) (x7 : Int32) : Option Int32 :=
  fL_rest_332 k99 k111 vg vk vu l3 x6 x7 (0 : Int32)
def fL_rest_315 (k99 : (Nat → Int32) → (Nat → Int32) → (Nat → Int64) → Int64 → Int32 → Int32 → Option Int32) (k111 : (Nat → Int32) → (Nat → Int32) → (Nat → Int64) → Int64 → Int32 → Int32 → Int32 → Option Int32) (vg : (Nat → Int32)) (vk : (Nat → Int32)) (vu : (Nat → Int64)) (l3 : Int64) (x6 : Int32) (x7 : Int32) (x10 : Int32) (l11 : Int64) : Option Int32 :=
  if x10 = 0 then (fL_rest_327 k99 k111 vg vk vu l3 x6 x7) else (if (lg_cmp l11 (0 : Int64)) < 0 then (fL_rest_331 k99 k111 vg vk vu l3 x6 x7) else (fL_rest_327 k99 k111 vg vk vu l3 x6 x7))
def fL_rest_212_b (k99 : (Nat → Int32) → (Nat → Int32) → (Nat → Int64) → Int64 → Int32 → Int32 → Option Int32) (k111 : (Nat → Int32) → (Nat → Int32) → (Nat → Int64) → Int64 → Int32 → Int32 → Int32 → Option Int32) (k212 : (Nat → Int32) → (Nat → Int32) → (Nat → Int64) → Int64 → Int32 → Int32 → Int32 → Int32 → Int32 → Int64 → Int32 → Option Int32) (vg : (Nat → Int32)) (vk : (Nat → Int32)) (vu : (Nat → Int64)) (l3 : Int64) (x5 : Int32) (x6 : Int32) (x7 : Int32) (x9 : Int32) (x10 : Int32) (l11 : Int64) (x13 : Int32) : Option Int32 :=
  if x7 < x13 then (if x5 = 0 then (fL_rest_331 k99 k111 vg vk vu l3 x6 x7) else (if x9 = 0 then (fL_rest_315 k99 k111 vg vk vu l3 x6 x7 x10 l11) else (if 0 < (lg_cmp l11 (0 : Int64)) then (fL_rest_331 k99 k111 vg vk vu l3 x6 x7) else (fL_rest_315 k99 k111 vg vk vu l3 x6 x7 x10 l11)))) else ((fL_force vg vk vu l3 x13).bind (fun y35 => elet (l11 + y35) (fun z36 => if x9 = 0 then (fL_rest_260 k99 k111 k212 vg vk vu l3 x5 x6 x7 x10 z36 x13) else (if inB x13 4 = true then ((fL_most vg vk x13).bind (fun y39 => if 0 ≤ (lg_cmp (vu (x13).toNatClampNeg) ((y39).toInt64 * l3)) then (fL_rest_260 k99 k111 k212 vg vk vu l3 x5 x6 x7 x10 z36 x13) else (fL_rest_261 k99 k111 k212 vg vk vu l3 x5 x6 x7 x10 z36 x13 (1 : Int32)))) else none))))
def fL_rest_212 (k99 : (Nat → Int32) → (Nat → Int32) → (Nat → Int64) → Int64 → Int32 → Int32 → Option Int32) (k111 : (Nat → Int32) → (Nat → Int32) → (Nat → Int64) → Int64 → Int32 → Int32 → Int32 → Option Int32) : Nat → (Nat → Int32) → (Nat → Int32) → (Nat → Int64) → Int64 → Int32 → Int32 → Int32 → Int32 → Int32 → Int64 → Int32 → Option Int32
  | 0 => fun _ _ _ _ _ _ _ _ _ _ _ => none
  | n + 1 => fL_rest_212_b k99 k111 (fL_rest_212 k99 k111 n)
def fL_rest_203 (k99 : (Nat → Int32) → (Nat → Int32) → (Nat → Int64) → Int64 → Int32 → Int32 → Option Int32) (k111 : (Nat → Int32) → (Nat → Int32) → (Nat → Int64) → Int64 → Int32 → Int32 → Int32 → Option Int32) (vg : (Nat → Int32)) (vk : (Nat → Int32)) (vu : (Nat → Int64)) (l3 : Int64) (x5 : Int32) (x6 : Int32) (x7 : Int32) (x9 : Int32) (st0 : Int32) : Option Int32 :=
  fL_rest_212 k99 k111 FU vg vk vu l3 x5 x6 x7 x9 st0 (0 : Int64) x6
def fL_rest_198 (k99 : (Nat → Int32) → (Nat → Int32) → (Nat → Int64) → Int64 → Int32 → Int32 → Option Int32) (k111 : (Nat → Int32) → (Nat → Int32) → (Nat → Int64) → Int64 → Int32 → Int32 → Int32 → Option Int32) (vg : (Nat → Int32)) (vk : (Nat → Int32)) (vu : (Nat → Int64)) (l3 : Int64) (x5 : Int32) (x6 : Int32) (x7 : Int32) (x9 : Int32) : Option Int32 :=
  fL_rest_203 k99 k111 vg vk vu l3 x5 x6 x7 x9 (1 : Int32)
def fL_rest_202 (k99 : (Nat → Int32) → (Nat → Int32) → (Nat → Int64) → Int64 → Int32 → Int32 → Option Int32) (k111 : (Nat → Int32) → (Nat → Int32) → (Nat → Int64) → Int64 → Int32 → Int32 → Int32 → Option Int32) (vg : (Nat → Int32)) (vk : (Nat → Int32)) (vu : (Nat → Int64)) (l3 : Int64) (x5 : Int32) (x6 : Int32) (x7 : Int32) (x9 : Int32) : Option Int32 :=
  fL_rest_203 k99 k111 vg vk vu l3 x5 x6 x7 x9 (0 : Int32)
def fL_rest_172 (k99 : (Nat → Int32) → (Nat → Int32) → (Nat → Int64) → Int64 → Int32 → Int32 → Option Int32) (k111 : (Nat → Int32) → (Nat → Int32) → (Nat → Int64) → Int64 → Int32 → Int32 → Int32 → Option Int32) (vg : (Nat → Int32)) (vk : (Nat → Int32)) (vu : (Nat → Int64)) (l3 : Int64) (x5 : Int32) (x6 : Int32) (x7 : Int32) (x8 : Int32) (st0 : Int32) : Option Int32 :=
  if x8 = 0 then (fL_rest_202 k99 k111 vg vk vu l3 x5 x6 x7 st0) else (if x6 = 0 then (fL_rest_198 k99 k111 vg vk vu l3 x5 x6 x7 st0) else (if inB (x6 - (1 : Int32)) 4 = true then (if inB x6 4 = true then (if 0 ≤ (lg_cmp (vu ((x6 - (1 : Int32))).toNatClampNeg) (vu (x6).toNatClampNeg)) then (fL_rest_202 k99 k111 vg vk vu l3 x5 x6 x7 st0) else (fL_rest_198 k99 k111 vg vk vu l3 x5 x6 x7 st0)) else none) else none))
def fL_rest_167 (k99 : (Nat → Int32) → (Nat → Int32) → (Nat → Int64) → Int64 → Int32 → Int32 → Option Int32) (k111 : (Nat → Int32) → (Nat → Int32) → (Nat → Int64) → Int64 → Int32 → Int32 → Int32 → Option Int32) (vg : (Nat → Int32)) (vk : (Nat → Int32)) (vu : (Nat → Int64)) (l3 : Int64) (x5 : Int32) (x6 : Int32) (x7 : Int32) (x8 : Int32) : Option Int32 :=
  fL_rest_172 k99 k111 vg vk vu l3 x5 x6 x7 x8 (1 : Int32)
def fL_rest_171 (k99 : (Nat → Int32) → (Nat → Int32) → (Nat → Int64) → Int64 → Int32 → Int32 → Option Int32) (k111 : (Nat → Int32) → (Nat → Int32) → (Nat → Int64) → Int64 → Int32 → Int32 → Int32 → Option Int32) (vg : (Nat → Int32)) (vk : (Nat → Int32)) (vu : (Nat → Int64)) (l3 : Int64) (x5 : Int32) (x6 : Int32) (x7 : Int32) (x8 : Int32) : Option Int32 :=
  fL_rest_172 k99 k111 vg vk vu l3 x5 x6 x7 x8 (0 : Int32)
def fL_rest_136 (k99 : (Nat → Int32) → (Nat → Int32) → (Nat → Int64) → Int64 → Int32 → Int32 → Option Int32) (k111 : (Nat → Int32) → (Nat → Int32) → (Nat → Int64) → Int64 → Int32 → Int32 → Int32 → Option Int32) (vg : (Nat → Int32)) (vk : (Nat → Int32)) (vu : (Nat → Int64)) (l3 : Int64) (x5 : Int32) (x6 : Int32) (x7 : Int32) (st0 : Int32) : Option Int32 :=
  if st0 = 0 then (fL_rest_171 k99 k111 vg vk vu l3 x5 x6 x7 st0) else (if x7 = ((vg ((1 : Int32)).toNatClampNeg) - (1 : Int32)) then (fL_rest_167 k99 k111 vg vk vu l3 x5 x6 x7 st0) else (if inB (x7 + (1 : Int32)) 4 = true then (if inB x7 4 = true then (if (lg_cmp (vu ((x7 + (1 : Int32))).toNatClampNeg) (vu (x7).toNatClampNeg)) ≤ 0 then (fL_rest_171 k99 k111 vg vk vu l3 x5 x6 x7 st0) else (fL_rest_167 k99 k111 vg vk vu l3 x5 x6 x7 st0)) else none) else none))
def fL_rest_111_b (k99 : (Nat → Int32) → (Nat → Int32) → (Nat → Int64) → Int64 → Int32 → Int32 → Option Int32) (k111 : (Nat → Int32) → (Nat → Int32) → (Nat → Int64) → Int64 → Int32 → Int32 → Int32 → Option Int32) (vg : (Nat → Int32)) (vk : (Nat → Int32)) (vu : (Nat → Int64)) (l3 : Int64) (x5 : Int32) (x6 : Int32) (x7 : Int32) : Option Int32 :=
  if (vg ((1 : Int32)).toNatClampNeg) ≤ x7 then (elet (x6 + 1) (fun z17 => k99 vg vk vu l3 x5 z17)) else (if inB x6 4 = true then (if inB x7 4 = true then (if (lg_cmp (vu (x6).toNatClampNeg) (vu (x7).toNatClampNeg)) = 0 then (fL_rest_136 k99 k111 vg vk vu l3 x5 x6 x7 (1 : Int32)) else (fL_rest_136 k99 k111 vg vk vu l3 x5 x6 x7 (0 : Int32))) else none) else none)
def fL_rest_111 (k99 : (Nat → Int32) → (Nat → Int32) → (Nat → Int64) → Int64 → Int32 → Int32 → Option Int32) : Nat → (Nat → Int32) → (Nat → Int32) → (Nat → Int64) → Int64 → Int32 → Int32 → Int32 → Option Int32
  | 0 => fun _ _ _ _ _ _ _ => none
  | n + 1 => fL_rest_111_b k99 (fL_rest_111 k99 n)
def fL_rest_99_b (k99 : (Nat → Int32) → (Nat → Int32) → (Nat → Int64) → Int64 → Int32 → Int32 → Option Int32) (vg : (Nat → Int32)) (vk : (Nat → Int32)) (vu : (Nat → Int64)) (l3 : Int64) (x5 : Int32) (x6 : Int32) : Option Int32 :=
  if (vg ((1 : Int32)).toNatClampNeg) ≤ x6 then (if zB x5 = true then (some x5) else none) else (fL_rest_111 k99 FU vg vk vu l3 x5 x6 x6)
def fL_rest_99 : Nat → (Nat → Int32) → (Nat → Int32) → (Nat → Int64) → Int64 → Int32 → Int32 → Option Int32
  | 0 => fun _ _ _ _ _ _ => none
  | n + 1 => fL_rest_99_b (fL_rest_99 n)
def fL_rest_16_b (k16 : (Nat → Int32) → (Nat → Int32) → (Nat → Int64) → Int64 → Int32 → Int32 → Option Int32) (vg : (Nat → Int32)) (vk : (Nat → Int32)) (vu : (Nat → Int64)) (l3 : Int64) (x5 : Int32) (x6 : Int32) : Option Int32 :=
  if (vg ((1 : Int32)).toNatClampNeg) ≤ x6 then (fL_rest_99 FU vg vk vu l3 x5 (0 : Int32)) else (if x5 = 0 then (fL_rest_87 k16 vg vk vu l3 x6) else (if inB x6 4 = true then ((fL_least vk x6).bind (fun y4 => if (lg_cmp (vu (x6).toNatClampNeg) ((y4).toInt64 * l3)) < 0 then (fL_rest_87 k16 vg vk vu l3 x6) else (if inB x6 4 = true then ((fL_most vg vk x6).bind (fun y7 => if 0 < (lg_cmp (vu (x6).toNatClampNeg) ((y7).toInt64 * l3)) then (fL_rest_87 k16 vg vk vu l3 x6) else (if x6 = 0 then (fL_rest_83 k16 vg vk vu l3 x6) else (if inB x6 4 = true then (if inB (x6 - (1 : Int32)) 4 = true then (if (lg_cmp (vu (x6).toNatClampNeg) (vu ((x6 - (1 : Int32))).toNatClampNeg)) < 0 then (fL_rest_87 k16 vg vk vu l3 x6) else (fL_rest_83 k16 vg vk vu l3 x6)) else none) else none)))) else none))) else none))
def fL_rest_16 : Nat → (Nat → Int32) → (Nat → Int32) → (Nat → Int64) → Int64 → Int32 → Int32 → Option Int32
  | 0 => fun _ _ _ _ _ _ => none
  | n + 1 => fL_rest_16_b (fL_rest_16 n)
def fL_rest_11 (vg : (Nat → Int32)) (vk : (Nat → Int32)) (vu : (Nat → Int64)) (l3 : Int64) (st0 : Int32) : Option Int32 :=
  fL_rest_16 FU vg vk vu l3 st0 (0 : Int32)
def fL_rest (vg : (Nat → Int32)) (vk : (Nat → Int32)) (vu : (Nat → Int64)) (j3 : Int64) : Option Int32 :=
  if (lg_cmp j3 (0 : Int64)) ≤ 0 then (fL_rest_11 vg vk vu j3 (0 : Int32)) else (fL_rest_11 vg vk vu j3 (1 : Int32))
set_option maxHeartbeats 8000000 in
set_option maxRecDepth 100000 in
theorem mL_rest (l : Launch) (dC : Nat → ClassId) (dI : Nat → Nat → Nat) (cI cJ : ClassId) (ag : Nat) (ak : Nat) (au : Nat) (sz : Nat) (vg : (Nat → Int32)) (vk : (Nat → Int32)) (vu : (Nat → Int64)) (j3 : Int64) (y : Int32) (hf : fL_rest vg vk vu j3 = some y) : Met l yL_rest wsL_rest ({ frames := 3, cells := 0, slots := 0, locals := 74 }) (cPc dC dI cI cJ [.ref ag, .ref ak, .ref au, .long j3] [kA1 cI ag 2 vg, kA1 cI ak 23 vk, kA2 cJ au 4 vu] sz) (va_Qi (fun r (_ : Unit) => r = y) (fun _ t => cB dC dI (va_A [kA1 cI ag 2 vg, kA1 cI ak 23 vk, kA2 cJ au 4 vu] sz) [kA1 cI ag 2 vg, kA1 cI ak 23 vk, kA2 cJ au 4 vu] t) (va_A [kA1 cI ag 2 vg, kA1 cI ak 23 vk, kA2 cJ au 4 vu] sz)) 0 0 (va_A [kA1 cI ag 2 vg, kA1 cI ak 23 vk, kA2 cJ au 4 vu] sz) := by
  refine Met.ofW (cc := cL_rest) (maxL := 14) (ret := (some .boolean)) (by decide) rfl ?_
  intro p e s m args below meth c s₁ B hml hv
  obtain ⟨rfl, hsz, hP, hK, hD0, hN⟩ := hv
  have hx := B.exec
  have hb := B.bytes
  have hr := B.returns
  have hts := atoms_spec (ws := wsL_rest) B.pre
  have hown : s.vm.findClass RL = some m.cls := findClass_of_methodNamed B.named
  have hlocks := B.notSynchronized
  subst hsz
  have hD := hD0.self (sz := s.heap.size)
  generalize hAe : va_A [kA1 cI ag 2 vg, kA1 cI ak 23 vk, kA2 cJ au 4 vu] s.heap.size = A at hD hN ⊢
  have hA : ∀ q : Nat, s.heap.size ≤ q → A q := fun q h => by rw [← hAe]; exact Or.inr h
  have hP : va_P (dC, dI) vwCl [kA1 cI ag 2 vg, kA1 cI ak 23 vk, kA2 cJ au 4 vu] s.heap := hP
  have hl := lv_entry ([.ref ag, .ref ak, .ref au, .long j3]) (n := 14) (Nat.le_of_ble_eq_true rfl)
  rw [lg_entry_eq]
  generalize (lg_sl ([.ref ag, .ref ak, .ref au, .long j3]) ++ List.replicate (14 - (lg_sl ([.ref ag, .ref ak, .ref au, .long j3])).length) Slot.unset).toArray = ls at hl ⊢
  have hl : lv_has ls 14 [(0, .ref ag), (1, .ref ak), (2, .ref au), (3, .long j3)] := hl
  refine nameH (fun H locs hHe hLe => ?_)
  have hP : va_P (dC, dI) vwCl [kA1 cI ag 2 vg, kA1 cI ak 23 vk, kA2 cJ au 4 vu] H := by rw [hHe]; exact hP
  have hS : va_S A s.heap H locs := by rw [hHe, hLe]; exact va_S.rf
  refine withW (fun WW hWW => ?_)
  have J88 : ∀ (k16 : (Nat → Int32) → (Nat → Int32) → (Nat → Int64) → Int64 → Int32 → Int32 → Option Int32) (hk16 : ∀ (l3 : Int64) (x5 : Int32) (x6 : Int32) (H : Heap) (locs : List Loc) (ls : Array Slot), va_P (dC, dI) vwCl [kA1 cI ag 2 vg, kA1 cI ak 23 vk, kA2 cJ au 4 vu] H → va_D A [kA1 cI ag 2 vg, kA1 cI ak 23 vk, kA2 cJ au 4 vu] → va_S A s.heap H locs → lv_has ls 14 [(0, .ref ag), (1, .ref ak), (2, .ref au), (3, .long l3), (5, .int x5), (6, .int x6)] → k16 vg vk vu l3 x5 x6 = some y → WW H locs 0 0 ls 16 []) (l3 : Int64) (x6 : Int32) (st0 : Int32) (H : Heap) (locs : List Loc) (ls : Array Slot), va_P (dC, dI) vwCl [kA1 cI ag 2 vg, kA1 cI ak 23 vk, kA2 cJ au 4 vu] H → va_D A [kA1 cI ag 2 vg, kA1 cI ak 23 vk, kA2 cJ au 4 vu] → va_S A s.heap H locs → lv_has ls 14 [(0, .ref ag), (1, .ref ak), (2, .ref au), (3, .long l3), (6, .int x6)] → fL_rest_88 k16 vg vk vu l3 x6 st0 = some y → WW H locs 0 0 ls 88 [.int st0] := by
    intro k16 hk16 l3 x6 st0 H locs ls hP hD hS hl hf
    unfold fL_rest_88 at hf
    refine (hWW _ _ _ _ _ _ _).2 ?_
    refine lv_istore (lv' := [(5, .int st0), (0, .ref ag), (1, .ref ak), (2, .ref au), (3, .long l3), (6, .int x6)]) hx hb dL_rest_88 hl (by decide) rfl (fun ls hl => ?_)
    obtain ⟨z13, ez13, hf⟩ := elet_out hf
    refine lv_iinc (v := z13) (lv' := [(6, .int z13), (5, .int st0), (0, .ref ag), (1, .ref ak), (2, .ref au), (3, .long l3)]) hx hb dL_rest_90 hl (k := 5) rfl (by rw [ez13]; rfl) (by decide) rfl (fun ls hl => ?_)
    refine lv_goto (tgt := 16) hx hb dL_rest_93 (by decide) ?_
    exact (hWW _ _ _ _ _ _ _).1 (hk16 l3 st0 z13 H locs ls hP hD hS (lv_sub hl [2, 3, 4, 5, 1, 0] rfl) hf)
  have J83 : ∀ (k16 : (Nat → Int32) → (Nat → Int32) → (Nat → Int64) → Int64 → Int32 → Int32 → Option Int32) (hk16 : ∀ (l3 : Int64) (x5 : Int32) (x6 : Int32) (H : Heap) (locs : List Loc) (ls : Array Slot), va_P (dC, dI) vwCl [kA1 cI ag 2 vg, kA1 cI ak 23 vk, kA2 cJ au 4 vu] H → va_D A [kA1 cI ag 2 vg, kA1 cI ak 23 vk, kA2 cJ au 4 vu] → va_S A s.heap H locs → lv_has ls 14 [(0, .ref ag), (1, .ref ak), (2, .ref au), (3, .long l3), (5, .int x5), (6, .int x6)] → k16 vg vk vu l3 x5 x6 = some y → WW H locs 0 0 ls 16 []) (l3 : Int64) (x6 : Int32) (H : Heap) (locs : List Loc) (ls : Array Slot), va_P (dC, dI) vwCl [kA1 cI ag 2 vg, kA1 cI ak 23 vk, kA2 cJ au 4 vu] H → va_D A [kA1 cI ag 2 vg, kA1 cI ak 23 vk, kA2 cJ au 4 vu] → va_S A s.heap H locs → lv_has ls 14 [(0, .ref ag), (1, .ref ak), (2, .ref au), (3, .long l3), (6, .int x6)] → fL_rest_83 k16 vg vk vu l3 x6 = some y → WW H locs 0 0 ls 83 [] := by
    intro k16 hk16 l3 x6 H locs ls hP hD hS hl hf
    unfold fL_rest_83 at hf
    refine (hWW _ _ _ _ _ _ _).2 ?_
    refine lv_iconst (v := 1) hx hb dL_rest_83 (by decide) ?_
    refine lv_goto (tgt := 88) hx hb dL_rest_84 (by decide) ?_
    exact (hWW _ _ _ _ _ _ _).1 (J88 k16 hk16 l3 x6 (1 : Int32) H locs ls hP hD hS (lv_sub hl [0, 1, 2, 3, 4] rfl) hf)
  have J87 : ∀ (k16 : (Nat → Int32) → (Nat → Int32) → (Nat → Int64) → Int64 → Int32 → Int32 → Option Int32) (hk16 : ∀ (l3 : Int64) (x5 : Int32) (x6 : Int32) (H : Heap) (locs : List Loc) (ls : Array Slot), va_P (dC, dI) vwCl [kA1 cI ag 2 vg, kA1 cI ak 23 vk, kA2 cJ au 4 vu] H → va_D A [kA1 cI ag 2 vg, kA1 cI ak 23 vk, kA2 cJ au 4 vu] → va_S A s.heap H locs → lv_has ls 14 [(0, .ref ag), (1, .ref ak), (2, .ref au), (3, .long l3), (5, .int x5), (6, .int x6)] → k16 vg vk vu l3 x5 x6 = some y → WW H locs 0 0 ls 16 []) (l3 : Int64) (x6 : Int32) (H : Heap) (locs : List Loc) (ls : Array Slot), va_P (dC, dI) vwCl [kA1 cI ag 2 vg, kA1 cI ak 23 vk, kA2 cJ au 4 vu] H → va_D A [kA1 cI ag 2 vg, kA1 cI ak 23 vk, kA2 cJ au 4 vu] → va_S A s.heap H locs → lv_has ls 14 [(0, .ref ag), (1, .ref ak), (2, .ref au), (3, .long l3), (6, .int x6)] → fL_rest_87 k16 vg vk vu l3 x6 = some y → WW H locs 0 0 ls 87 [] := by
    intro k16 hk16 l3 x6 H locs ls hP hD hS hl hf
    unfold fL_rest_87 at hf
    refine (hWW _ _ _ _ _ _ _).2 ?_
    refine lv_iconst (v := 0) hx hb dL_rest_87 (by decide) ?_
    exact (hWW _ _ _ _ _ _ _).1 (J88 k16 hk16 l3 x6 (0 : Int32) H locs ls hP hD hS (lv_sub hl [0, 1, 2, 3, 4] rfl) hf)
  have J290 : ∀ (k99 : (Nat → Int32) → (Nat → Int32) → (Nat → Int64) → Int64 → Int32 → Int32 → Option Int32) (hk99 : ∀ (l3 : Int64) (x5 : Int32) (x6 : Int32) (H : Heap) (locs : List Loc) (ls : Array Slot), va_P (dC, dI) vwCl [kA1 cI ag 2 vg, kA1 cI ak 23 vk, kA2 cJ au 4 vu] H → va_D A [kA1 cI ag 2 vg, kA1 cI ak 23 vk, kA2 cJ au 4 vu] → va_S A s.heap H locs → lv_has ls 14 [(0, .ref ag), (1, .ref ak), (2, .ref au), (3, .long l3), (5, .int x5), (6, .int x6)] → k99 vg vk vu l3 x5 x6 = some y → WW H locs 0 0 ls 99 []) (k111 : (Nat → Int32) → (Nat → Int32) → (Nat → Int64) → Int64 → Int32 → Int32 → Int32 → Option Int32) (hk111 : ∀ (l3 : Int64) (x5 : Int32) (x6 : Int32) (x7 : Int32) (H : Heap) (locs : List Loc) (ls : Array Slot), va_P (dC, dI) vwCl [kA1 cI ag 2 vg, kA1 cI ak 23 vk, kA2 cJ au 4 vu] H → va_D A [kA1 cI ag 2 vg, kA1 cI ak 23 vk, kA2 cJ au 4 vu] → va_S A s.heap H locs → lv_has ls 14 [(0, .ref ag), (1, .ref ak), (2, .ref au), (3, .long l3), (5, .int x5), (6, .int x6), (7, .int x7)] → k111 vg vk vu l3 x5 x6 x7 = some y → WW H locs 0 0 ls 111 []) (k212 : (Nat → Int32) → (Nat → Int32) → (Nat → Int64) → Int64 → Int32 → Int32 → Int32 → Int32 → Int32 → Int64 → Int32 → Option Int32) (hk212 : ∀ (l3 : Int64) (x5 : Int32) (x6 : Int32) (x7 : Int32) (x9 : Int32) (x10 : Int32) (l11 : Int64) (x13 : Int32) (H : Heap) (locs : List Loc) (ls : Array Slot), va_P (dC, dI) vwCl [kA1 cI ag 2 vg, kA1 cI ak 23 vk, kA2 cJ au 4 vu] H → va_D A [kA1 cI ag 2 vg, kA1 cI ak 23 vk, kA2 cJ au 4 vu] → va_S A s.heap H locs → lv_has ls 14 [(0, .ref ag), (1, .ref ak), (2, .ref au), (3, .long l3), (5, .int x5), (6, .int x6), (7, .int x7), (9, .int x9), (10, .int x10), (11, .long l11), (13, .int x13)] → k212 vg vk vu l3 x5 x6 x7 x9 x10 l11 x13 = some y → WW H locs 0 0 ls 212 []) (l3 : Int64) (x5 : Int32) (x6 : Int32) (x7 : Int32) (x9 : Int32) (l11 : Int64) (x13 : Int32) (st0 : Int32) (H : Heap) (locs : List Loc) (ls : Array Slot), va_P (dC, dI) vwCl [kA1 cI ag 2 vg, kA1 cI ak 23 vk, kA2 cJ au 4 vu] H → va_D A [kA1 cI ag 2 vg, kA1 cI ak 23 vk, kA2 cJ au 4 vu] → va_S A s.heap H locs → lv_has ls 14 [(0, .ref ag), (1, .ref ak), (2, .ref au), (3, .long l3), (5, .int x5), (6, .int x6), (7, .int x7), (9, .int x9), (11, .long l11), (13, .int x13)] → fL_rest_290 k99 k111 k212 vg vk vu l3 x5 x6 x7 x9 l11 x13 st0 = some y → WW H locs 0 0 ls 290 [.int st0] := by
    intro k99 hk99 k111 hk111 k212 hk212 l3 x5 x6 x7 x9 l11 x13 st0 H locs ls hP hD hS hl hf
    unfold fL_rest_290 at hf
    refine (hWW _ _ _ _ _ _ _).2 ?_
    refine lv_istore (lv' := [(10, .int st0), (0, .ref ag), (1, .ref ak), (2, .ref au), (3, .long l3), (5, .int x5), (6, .int x6), (7, .int x7), (9, .int x9), (11, .long l11), (13, .int x13)]) hx hb dL_rest_290 hl (by decide) rfl (fun ls hl => ?_)
    obtain ⟨z45, ez45, hf⟩ := elet_out hf
    refine lv_iinc (v := z45) (lv' := [(13, .int z45), (10, .int st0), (0, .ref ag), (1, .ref ak), (2, .ref au), (3, .long l3), (5, .int x5), (6, .int x6), (7, .int x7), (9, .int x9), (11, .long l11)]) hx hb dL_rest_292 hl (k := 10) rfl (by rw [ez45]; rfl) (by decide) rfl (fun ls hl => ?_)
    refine lv_goto (tgt := 212) hx hb dL_rest_295 (by decide) ?_
    exact (hWW _ _ _ _ _ _ _).1 (hk212 l3 x5 x6 x7 x9 st0 l11 z45 H locs ls hP hD hS (lv_sub hl [2, 3, 4, 5, 6, 7, 8, 9, 1, 10, 0] rfl) hf)
  have J289 : ∀ (k99 : (Nat → Int32) → (Nat → Int32) → (Nat → Int64) → Int64 → Int32 → Int32 → Option Int32) (hk99 : ∀ (l3 : Int64) (x5 : Int32) (x6 : Int32) (H : Heap) (locs : List Loc) (ls : Array Slot), va_P (dC, dI) vwCl [kA1 cI ag 2 vg, kA1 cI ak 23 vk, kA2 cJ au 4 vu] H → va_D A [kA1 cI ag 2 vg, kA1 cI ak 23 vk, kA2 cJ au 4 vu] → va_S A s.heap H locs → lv_has ls 14 [(0, .ref ag), (1, .ref ak), (2, .ref au), (3, .long l3), (5, .int x5), (6, .int x6)] → k99 vg vk vu l3 x5 x6 = some y → WW H locs 0 0 ls 99 []) (k111 : (Nat → Int32) → (Nat → Int32) → (Nat → Int64) → Int64 → Int32 → Int32 → Int32 → Option Int32) (hk111 : ∀ (l3 : Int64) (x5 : Int32) (x6 : Int32) (x7 : Int32) (H : Heap) (locs : List Loc) (ls : Array Slot), va_P (dC, dI) vwCl [kA1 cI ag 2 vg, kA1 cI ak 23 vk, kA2 cJ au 4 vu] H → va_D A [kA1 cI ag 2 vg, kA1 cI ak 23 vk, kA2 cJ au 4 vu] → va_S A s.heap H locs → lv_has ls 14 [(0, .ref ag), (1, .ref ak), (2, .ref au), (3, .long l3), (5, .int x5), (6, .int x6), (7, .int x7)] → k111 vg vk vu l3 x5 x6 x7 = some y → WW H locs 0 0 ls 111 []) (k212 : (Nat → Int32) → (Nat → Int32) → (Nat → Int64) → Int64 → Int32 → Int32 → Int32 → Int32 → Int32 → Int64 → Int32 → Option Int32) (hk212 : ∀ (l3 : Int64) (x5 : Int32) (x6 : Int32) (x7 : Int32) (x9 : Int32) (x10 : Int32) (l11 : Int64) (x13 : Int32) (H : Heap) (locs : List Loc) (ls : Array Slot), va_P (dC, dI) vwCl [kA1 cI ag 2 vg, kA1 cI ak 23 vk, kA2 cJ au 4 vu] H → va_D A [kA1 cI ag 2 vg, kA1 cI ak 23 vk, kA2 cJ au 4 vu] → va_S A s.heap H locs → lv_has ls 14 [(0, .ref ag), (1, .ref ak), (2, .ref au), (3, .long l3), (5, .int x5), (6, .int x6), (7, .int x7), (9, .int x9), (10, .int x10), (11, .long l11), (13, .int x13)] → k212 vg vk vu l3 x5 x6 x7 x9 x10 l11 x13 = some y → WW H locs 0 0 ls 212 []) (l3 : Int64) (x5 : Int32) (x6 : Int32) (x7 : Int32) (x9 : Int32) (l11 : Int64) (x13 : Int32) (H : Heap) (locs : List Loc) (ls : Array Slot), va_P (dC, dI) vwCl [kA1 cI ag 2 vg, kA1 cI ak 23 vk, kA2 cJ au 4 vu] H → va_D A [kA1 cI ag 2 vg, kA1 cI ak 23 vk, kA2 cJ au 4 vu] → va_S A s.heap H locs → lv_has ls 14 [(0, .ref ag), (1, .ref ak), (2, .ref au), (3, .long l3), (5, .int x5), (6, .int x6), (7, .int x7), (9, .int x9), (11, .long l11), (13, .int x13)] → fL_rest_289 k99 k111 k212 vg vk vu l3 x5 x6 x7 x9 l11 x13 = some y → WW H locs 0 0 ls 289 [] := by
    intro k99 hk99 k111 hk111 k212 hk212 l3 x5 x6 x7 x9 l11 x13 H locs ls hP hD hS hl hf
    unfold fL_rest_289 at hf
    refine (hWW _ _ _ _ _ _ _).2 ?_
    refine lv_iconst (v := 0) hx hb dL_rest_289 (by decide) ?_
    exact (hWW _ _ _ _ _ _ _).1 (J290 k99 hk99 k111 hk111 k212 hk212 l3 x5 x6 x7 x9 l11 x13 (0 : Int32) H locs ls hP hD hS (lv_sub hl [0, 1, 2, 3, 4, 5, 6, 7, 8, 9] rfl) hf)
  have J261 : ∀ (k99 : (Nat → Int32) → (Nat → Int32) → (Nat → Int64) → Int64 → Int32 → Int32 → Option Int32) (hk99 : ∀ (l3 : Int64) (x5 : Int32) (x6 : Int32) (H : Heap) (locs : List Loc) (ls : Array Slot), va_P (dC, dI) vwCl [kA1 cI ag 2 vg, kA1 cI ak 23 vk, kA2 cJ au 4 vu] H → va_D A [kA1 cI ag 2 vg, kA1 cI ak 23 vk, kA2 cJ au 4 vu] → va_S A s.heap H locs → lv_has ls 14 [(0, .ref ag), (1, .ref ak), (2, .ref au), (3, .long l3), (5, .int x5), (6, .int x6)] → k99 vg vk vu l3 x5 x6 = some y → WW H locs 0 0 ls 99 []) (k111 : (Nat → Int32) → (Nat → Int32) → (Nat → Int64) → Int64 → Int32 → Int32 → Int32 → Option Int32) (hk111 : ∀ (l3 : Int64) (x5 : Int32) (x6 : Int32) (x7 : Int32) (H : Heap) (locs : List Loc) (ls : Array Slot), va_P (dC, dI) vwCl [kA1 cI ag 2 vg, kA1 cI ak 23 vk, kA2 cJ au 4 vu] H → va_D A [kA1 cI ag 2 vg, kA1 cI ak 23 vk, kA2 cJ au 4 vu] → va_S A s.heap H locs → lv_has ls 14 [(0, .ref ag), (1, .ref ak), (2, .ref au), (3, .long l3), (5, .int x5), (6, .int x6), (7, .int x7)] → k111 vg vk vu l3 x5 x6 x7 = some y → WW H locs 0 0 ls 111 []) (k212 : (Nat → Int32) → (Nat → Int32) → (Nat → Int64) → Int64 → Int32 → Int32 → Int32 → Int32 → Int32 → Int64 → Int32 → Option Int32) (hk212 : ∀ (l3 : Int64) (x5 : Int32) (x6 : Int32) (x7 : Int32) (x9 : Int32) (x10 : Int32) (l11 : Int64) (x13 : Int32) (H : Heap) (locs : List Loc) (ls : Array Slot), va_P (dC, dI) vwCl [kA1 cI ag 2 vg, kA1 cI ak 23 vk, kA2 cJ au 4 vu] H → va_D A [kA1 cI ag 2 vg, kA1 cI ak 23 vk, kA2 cJ au 4 vu] → va_S A s.heap H locs → lv_has ls 14 [(0, .ref ag), (1, .ref ak), (2, .ref au), (3, .long l3), (5, .int x5), (6, .int x6), (7, .int x7), (9, .int x9), (10, .int x10), (11, .long l11), (13, .int x13)] → k212 vg vk vu l3 x5 x6 x7 x9 x10 l11 x13 = some y → WW H locs 0 0 ls 212 []) (l3 : Int64) (x5 : Int32) (x6 : Int32) (x7 : Int32) (x10 : Int32) (l11 : Int64) (x13 : Int32) (st0 : Int32) (H : Heap) (locs : List Loc) (ls : Array Slot), va_P (dC, dI) vwCl [kA1 cI ag 2 vg, kA1 cI ak 23 vk, kA2 cJ au 4 vu] H → va_D A [kA1 cI ag 2 vg, kA1 cI ak 23 vk, kA2 cJ au 4 vu] → va_S A s.heap H locs → lv_has ls 14 [(0, .ref ag), (1, .ref ak), (2, .ref au), (3, .long l3), (5, .int x5), (6, .int x6), (7, .int x7), (10, .int x10), (11, .long l11), (13, .int x13)] → fL_rest_261 k99 k111 k212 vg vk vu l3 x5 x6 x7 x10 l11 x13 st0 = some y → WW H locs 0 0 ls 261 [.int st0] := by
    intro k99 hk99 k111 hk111 k212 hk212 l3 x5 x6 x7 x10 l11 x13 st0 H locs ls hP hD hS hl hf
    unfold fL_rest_261 at hf
    refine (hWW _ _ _ _ _ _ _).2 ?_
    refine lv_istore (lv' := [(9, .int st0), (0, .ref ag), (1, .ref ak), (2, .ref au), (3, .long l3), (5, .int x5), (6, .int x6), (7, .int x7), (10, .int x10), (11, .long l11), (13, .int x13)]) hx hb dL_rest_261 hl (by decide) rfl (fun ls hl => ?_)
    refine lv_iload hx hb dL_rest_263 (lv_at hl 8 rfl) ?_
    refine lv_if_eq (tgt := 289) hx hb dL_rest_265 (by decide) (fun c41 => ?_) (fun c41 => ?_)
    · have hf := oif_t c41 hf
      exact (hWW _ _ _ _ _ _ _).1 (J289 k99 hk99 k111 hk111 k212 hk212 l3 x5 x6 x7 st0 l11 x13 H locs ls hP hD hS (lv_sub hl [1, 2, 3, 4, 5, 6, 7, 0, 9, 10] rfl) hf)
    · have hf := oif_f c41 hf
      refine lv_aload_n hx hb dL_rest_268 rfl (lv_at hl 3 rfl) ?_
      refine lv_iload hx hb dL_rest_269 (lv_at hl 10 rfl) ?_
      obtain ⟨hi42, hf⟩ := oinb rfl hf
      refine va_lald hx hb hK hP 2 1 rfl rfl hi42 dL_rest_271 ?_
      refine lv_aload_n hx hb dL_rest_272 rfl (lv_at hl 2 rfl) ?_
      refine lv_iload hx hb dL_rest_273 (lv_at hl 10 rfl) ?_
      obtain ⟨y43, hy43, hf⟩ := obind hf
      refine cg_i (ws := [kA1 cI ag 2 vg, kA1 cI ak 23 vk, kA2 cJ au 4 vu]) (wc := [kA1 cI ak 23 vk]) (wr := [kA1 cI ag 2 vg, kA2 cJ au 4 vu]) (w1 := [kA1 cI ak 23 vk]) (wo := [kA1 cI ag 2 vg, kA1 cI ak 23 vk, kA2 cJ au 4 vu]) hP hD hS hA (va_runS (As := [.ref ak, .int x13]) (rest := [.long (vu (x13).toNatClampNeg)]) ⟨hx, hb, hml, hown, hts⟩ (mL_least l dC dI cI cJ ak H.size vk x13 y43 hy43) (va_cwS 2 hts gL_rest_L_least rfl rfl rfl (by decide +kernel) ⟨Nat.le_of_ble_eq_true rfl, Nat.le_of_ble_eq_true rfl⟩) ⟨cFB, cPre hK hN hS (va_free (wc := [kA1 cI ak 23 vk]) hD hS hA [1] rfl) (hP.sub [1] rfl) (hD.sub [1] rfl rfl)⟩ rfl rfl hl.1 rfl (lv_room (Nat.le_of_ble_eq_true rfl)) dL_rest_275 ⟨Nat.le_of_ble_eq_true rfl, Nat.le_of_ble_eq_true rfl⟩) [1] [0, 2] [0, 2, 1] rfl rfl rfl (by decide +kernel) rfl rfl (fun H locs hP hD hS => ?_)
      refine lv_i2l (v := (y43).toInt64) hx hb dL_rest_278 rfl ?_
      refine lv_lload_n hx hb dL_rest_279 rfl (lv_at hl 4 rfl) ?_
      refine lv_lmul hx hb dL_rest_280 ?_
      refine W.lcmp hx hb dL_rest_281 ?_
      refine lv_if_le (tgt := 289) hx hb dL_rest_282 (by decide) (fun c44 => ?_) (fun c44 => ?_)
      · have hf := oif_t c44 hf
        exact (hWW _ _ _ _ _ _ _).1 (J289 k99 hk99 k111 hk111 k212 hk212 l3 x5 x6 x7 st0 l11 x13 H locs ls hP hD hS (lv_sub hl [1, 2, 3, 4, 5, 6, 7, 0, 9, 10] rfl) hf)
      · have hf := oif_f c44 hf
        refine lv_iconst (v := 1) hx hb dL_rest_285 (by decide) ?_
        refine lv_goto (tgt := 290) hx hb dL_rest_286 (by decide) ?_
        exact (hWW _ _ _ _ _ _ _).1 (J290 k99 hk99 k111 hk111 k212 hk212 l3 x5 x6 x7 st0 l11 x13 (1 : Int32) H locs ls hP hD hS (lv_sub hl [1, 2, 3, 4, 5, 6, 7, 0, 9, 10] rfl) hf)
  have J260 : ∀ (k99 : (Nat → Int32) → (Nat → Int32) → (Nat → Int64) → Int64 → Int32 → Int32 → Option Int32) (hk99 : ∀ (l3 : Int64) (x5 : Int32) (x6 : Int32) (H : Heap) (locs : List Loc) (ls : Array Slot), va_P (dC, dI) vwCl [kA1 cI ag 2 vg, kA1 cI ak 23 vk, kA2 cJ au 4 vu] H → va_D A [kA1 cI ag 2 vg, kA1 cI ak 23 vk, kA2 cJ au 4 vu] → va_S A s.heap H locs → lv_has ls 14 [(0, .ref ag), (1, .ref ak), (2, .ref au), (3, .long l3), (5, .int x5), (6, .int x6)] → k99 vg vk vu l3 x5 x6 = some y → WW H locs 0 0 ls 99 []) (k111 : (Nat → Int32) → (Nat → Int32) → (Nat → Int64) → Int64 → Int32 → Int32 → Int32 → Option Int32) (hk111 : ∀ (l3 : Int64) (x5 : Int32) (x6 : Int32) (x7 : Int32) (H : Heap) (locs : List Loc) (ls : Array Slot), va_P (dC, dI) vwCl [kA1 cI ag 2 vg, kA1 cI ak 23 vk, kA2 cJ au 4 vu] H → va_D A [kA1 cI ag 2 vg, kA1 cI ak 23 vk, kA2 cJ au 4 vu] → va_S A s.heap H locs → lv_has ls 14 [(0, .ref ag), (1, .ref ak), (2, .ref au), (3, .long l3), (5, .int x5), (6, .int x6), (7, .int x7)] → k111 vg vk vu l3 x5 x6 x7 = some y → WW H locs 0 0 ls 111 []) (k212 : (Nat → Int32) → (Nat → Int32) → (Nat → Int64) → Int64 → Int32 → Int32 → Int32 → Int32 → Int32 → Int64 → Int32 → Option Int32) (hk212 : ∀ (l3 : Int64) (x5 : Int32) (x6 : Int32) (x7 : Int32) (x9 : Int32) (x10 : Int32) (l11 : Int64) (x13 : Int32) (H : Heap) (locs : List Loc) (ls : Array Slot), va_P (dC, dI) vwCl [kA1 cI ag 2 vg, kA1 cI ak 23 vk, kA2 cJ au 4 vu] H → va_D A [kA1 cI ag 2 vg, kA1 cI ak 23 vk, kA2 cJ au 4 vu] → va_S A s.heap H locs → lv_has ls 14 [(0, .ref ag), (1, .ref ak), (2, .ref au), (3, .long l3), (5, .int x5), (6, .int x6), (7, .int x7), (9, .int x9), (10, .int x10), (11, .long l11), (13, .int x13)] → k212 vg vk vu l3 x5 x6 x7 x9 x10 l11 x13 = some y → WW H locs 0 0 ls 212 []) (l3 : Int64) (x5 : Int32) (x6 : Int32) (x7 : Int32) (x10 : Int32) (l11 : Int64) (x13 : Int32) (H : Heap) (locs : List Loc) (ls : Array Slot), va_P (dC, dI) vwCl [kA1 cI ag 2 vg, kA1 cI ak 23 vk, kA2 cJ au 4 vu] H → va_D A [kA1 cI ag 2 vg, kA1 cI ak 23 vk, kA2 cJ au 4 vu] → va_S A s.heap H locs → lv_has ls 14 [(0, .ref ag), (1, .ref ak), (2, .ref au), (3, .long l3), (5, .int x5), (6, .int x6), (7, .int x7), (10, .int x10), (11, .long l11), (13, .int x13)] → fL_rest_260 k99 k111 k212 vg vk vu l3 x5 x6 x7 x10 l11 x13 = some y → WW H locs 0 0 ls 260 [] := by
    intro k99 hk99 k111 hk111 k212 hk212 l3 x5 x6 x7 x10 l11 x13 H locs ls hP hD hS hl hf
    unfold fL_rest_260 at hf
    refine (hWW _ _ _ _ _ _ _).2 ?_
    refine lv_iconst (v := 0) hx hb dL_rest_260 (by decide) ?_
    exact (hWW _ _ _ _ _ _ _).1 (J261 k99 hk99 k111 hk111 k212 hk212 l3 x5 x6 x7 x10 l11 x13 (0 : Int32) H locs ls hP hD hS (lv_sub hl [0, 1, 2, 3, 4, 5, 6, 7, 8, 9] rfl) hf)
  have J332 : ∀ (k99 : (Nat → Int32) → (Nat → Int32) → (Nat → Int64) → Int64 → Int32 → Int32 → Option Int32) (hk99 : ∀ (l3 : Int64) (x5 : Int32) (x6 : Int32) (H : Heap) (locs : List Loc) (ls : Array Slot), va_P (dC, dI) vwCl [kA1 cI ag 2 vg, kA1 cI ak 23 vk, kA2 cJ au 4 vu] H → va_D A [kA1 cI ag 2 vg, kA1 cI ak 23 vk, kA2 cJ au 4 vu] → va_S A s.heap H locs → lv_has ls 14 [(0, .ref ag), (1, .ref ak), (2, .ref au), (3, .long l3), (5, .int x5), (6, .int x6)] → k99 vg vk vu l3 x5 x6 = some y → WW H locs 0 0 ls 99 []) (k111 : (Nat → Int32) → (Nat → Int32) → (Nat → Int64) → Int64 → Int32 → Int32 → Int32 → Option Int32) (hk111 : ∀ (l3 : Int64) (x5 : Int32) (x6 : Int32) (x7 : Int32) (H : Heap) (locs : List Loc) (ls : Array Slot), va_P (dC, dI) vwCl [kA1 cI ag 2 vg, kA1 cI ak 23 vk, kA2 cJ au 4 vu] H → va_D A [kA1 cI ag 2 vg, kA1 cI ak 23 vk, kA2 cJ au 4 vu] → va_S A s.heap H locs → lv_has ls 14 [(0, .ref ag), (1, .ref ak), (2, .ref au), (3, .long l3), (5, .int x5), (6, .int x6), (7, .int x7)] → k111 vg vk vu l3 x5 x6 x7 = some y → WW H locs 0 0 ls 111 []) (l3 : Int64) (x6 : Int32) (x7 : Int32) (st0 : Int32) (H : Heap) (locs : List Loc) (ls : Array Slot), va_P (dC, dI) vwCl [kA1 cI ag 2 vg, kA1 cI ak 23 vk, kA2 cJ au 4 vu] H → va_D A [kA1 cI ag 2 vg, kA1 cI ak 23 vk, kA2 cJ au 4 vu] → va_S A s.heap H locs → lv_has ls 14 [(0, .ref ag), (1, .ref ak), (2, .ref au), (3, .long l3), (6, .int x6), (7, .int x7)] → fL_rest_332 k99 k111 vg vk vu l3 x6 x7 st0 = some y → WW H locs 0 0 ls 332 [.int st0] := by
    intro k99 hk99 k111 hk111 l3 x6 x7 st0 H locs ls hP hD hS hl hf
    unfold fL_rest_332 at hf
    refine (hWW _ _ _ _ _ _ _).2 ?_
    refine lv_istore (lv' := [(5, .int st0), (0, .ref ag), (1, .ref ak), (2, .ref au), (3, .long l3), (6, .int x6), (7, .int x7)]) hx hb dL_rest_332 hl (by decide) rfl (fun ls hl => ?_)
    obtain ⟨z48, ez48, hf⟩ := elet_out hf
    refine lv_iinc (v := z48) (lv' := [(7, .int z48), (5, .int st0), (0, .ref ag), (1, .ref ak), (2, .ref au), (3, .long l3), (6, .int x6)]) hx hb dL_rest_334 hl (k := 6) rfl (by rw [ez48]; rfl) (by decide) rfl (fun ls hl => ?_)
    refine lv_goto (tgt := 111) hx hb dL_rest_337 (by decide) ?_
    exact (hWW _ _ _ _ _ _ _).1 (hk111 l3 st0 x6 z48 H locs ls hP hD hS (lv_sub hl [2, 3, 4, 5, 1, 6, 0] rfl) hf)
  have J327 : ∀ (k99 : (Nat → Int32) → (Nat → Int32) → (Nat → Int64) → Int64 → Int32 → Int32 → Option Int32) (hk99 : ∀ (l3 : Int64) (x5 : Int32) (x6 : Int32) (H : Heap) (locs : List Loc) (ls : Array Slot), va_P (dC, dI) vwCl [kA1 cI ag 2 vg, kA1 cI ak 23 vk, kA2 cJ au 4 vu] H → va_D A [kA1 cI ag 2 vg, kA1 cI ak 23 vk, kA2 cJ au 4 vu] → va_S A s.heap H locs → lv_has ls 14 [(0, .ref ag), (1, .ref ak), (2, .ref au), (3, .long l3), (5, .int x5), (6, .int x6)] → k99 vg vk vu l3 x5 x6 = some y → WW H locs 0 0 ls 99 []) (k111 : (Nat → Int32) → (Nat → Int32) → (Nat → Int64) → Int64 → Int32 → Int32 → Int32 → Option Int32) (hk111 : ∀ (l3 : Int64) (x5 : Int32) (x6 : Int32) (x7 : Int32) (H : Heap) (locs : List Loc) (ls : Array Slot), va_P (dC, dI) vwCl [kA1 cI ag 2 vg, kA1 cI ak 23 vk, kA2 cJ au 4 vu] H → va_D A [kA1 cI ag 2 vg, kA1 cI ak 23 vk, kA2 cJ au 4 vu] → va_S A s.heap H locs → lv_has ls 14 [(0, .ref ag), (1, .ref ak), (2, .ref au), (3, .long l3), (5, .int x5), (6, .int x6), (7, .int x7)] → k111 vg vk vu l3 x5 x6 x7 = some y → WW H locs 0 0 ls 111 []) (l3 : Int64) (x6 : Int32) (x7 : Int32) (H : Heap) (locs : List Loc) (ls : Array Slot), va_P (dC, dI) vwCl [kA1 cI ag 2 vg, kA1 cI ak 23 vk, kA2 cJ au 4 vu] H → va_D A [kA1 cI ag 2 vg, kA1 cI ak 23 vk, kA2 cJ au 4 vu] → va_S A s.heap H locs → lv_has ls 14 [(0, .ref ag), (1, .ref ak), (2, .ref au), (3, .long l3), (6, .int x6), (7, .int x7)] → fL_rest_327 k99 k111 vg vk vu l3 x6 x7 = some y → WW H locs 0 0 ls 327 [] := by
    intro k99 hk99 k111 hk111 l3 x6 x7 H locs ls hP hD hS hl hf
    unfold fL_rest_327 at hf
    refine (hWW _ _ _ _ _ _ _).2 ?_
    refine lv_iconst (v := 1) hx hb dL_rest_327 (by decide) ?_
    refine lv_goto (tgt := 332) hx hb dL_rest_328 (by decide) ?_
    exact (hWW _ _ _ _ _ _ _).1 (J332 k99 hk99 k111 hk111 l3 x6 x7 (1 : Int32) H locs ls hP hD hS (lv_sub hl [0, 1, 2, 3, 4, 5] rfl) hf)
  have J331 : ∀ (k99 : (Nat → Int32) → (Nat → Int32) → (Nat → Int64) → Int64 → Int32 → Int32 → Option Int32) (hk99 : ∀ (l3 : Int64) (x5 : Int32) (x6 : Int32) (H : Heap) (locs : List Loc) (ls : Array Slot), va_P (dC, dI) vwCl [kA1 cI ag 2 vg, kA1 cI ak 23 vk, kA2 cJ au 4 vu] H → va_D A [kA1 cI ag 2 vg, kA1 cI ak 23 vk, kA2 cJ au 4 vu] → va_S A s.heap H locs → lv_has ls 14 [(0, .ref ag), (1, .ref ak), (2, .ref au), (3, .long l3), (5, .int x5), (6, .int x6)] → k99 vg vk vu l3 x5 x6 = some y → WW H locs 0 0 ls 99 []) (k111 : (Nat → Int32) → (Nat → Int32) → (Nat → Int64) → Int64 → Int32 → Int32 → Int32 → Option Int32) (hk111 : ∀ (l3 : Int64) (x5 : Int32) (x6 : Int32) (x7 : Int32) (H : Heap) (locs : List Loc) (ls : Array Slot), va_P (dC, dI) vwCl [kA1 cI ag 2 vg, kA1 cI ak 23 vk, kA2 cJ au 4 vu] H → va_D A [kA1 cI ag 2 vg, kA1 cI ak 23 vk, kA2 cJ au 4 vu] → va_S A s.heap H locs → lv_has ls 14 [(0, .ref ag), (1, .ref ak), (2, .ref au), (3, .long l3), (5, .int x5), (6, .int x6), (7, .int x7)] → k111 vg vk vu l3 x5 x6 x7 = some y → WW H locs 0 0 ls 111 []) (l3 : Int64) (x6 : Int32) (x7 : Int32) (H : Heap) (locs : List Loc) (ls : Array Slot), va_P (dC, dI) vwCl [kA1 cI ag 2 vg, kA1 cI ak 23 vk, kA2 cJ au 4 vu] H → va_D A [kA1 cI ag 2 vg, kA1 cI ak 23 vk, kA2 cJ au 4 vu] → va_S A s.heap H locs → lv_has ls 14 [(0, .ref ag), (1, .ref ak), (2, .ref au), (3, .long l3), (6, .int x6), (7, .int x7)] → fL_rest_331 k99 k111 vg vk vu l3 x6 x7 = some y → WW H locs 0 0 ls 331 [] := by
    intro k99 hk99 k111 hk111 l3 x6 x7 H locs ls hP hD hS hl hf
    unfold fL_rest_331 at hf
    refine (hWW _ _ _ _ _ _ _).2 ?_
    refine lv_iconst (v := 0) hx hb dL_rest_331 (by decide) ?_
    exact (hWW _ _ _ _ _ _ _).1 (J332 k99 hk99 k111 hk111 l3 x6 x7 (0 : Int32) H locs ls hP hD hS (lv_sub hl [0, 1, 2, 3, 4, 5] rfl) hf)
  have J315 : ∀ (k99 : (Nat → Int32) → (Nat → Int32) → (Nat → Int64) → Int64 → Int32 → Int32 → Option Int32) (hk99 : ∀ (l3 : Int64) (x5 : Int32) (x6 : Int32) (H : Heap) (locs : List Loc) (ls : Array Slot), va_P (dC, dI) vwCl [kA1 cI ag 2 vg, kA1 cI ak 23 vk, kA2 cJ au 4 vu] H → va_D A [kA1 cI ag 2 vg, kA1 cI ak 23 vk, kA2 cJ au 4 vu] → va_S A s.heap H locs → lv_has ls 14 [(0, .ref ag), (1, .ref ak), (2, .ref au), (3, .long l3), (5, .int x5), (6, .int x6)] → k99 vg vk vu l3 x5 x6 = some y → WW H locs 0 0 ls 99 []) (k111 : (Nat → Int32) → (Nat → Int32) → (Nat → Int64) → Int64 → Int32 → Int32 → Int32 → Option Int32) (hk111 : ∀ (l3 : Int64) (x5 : Int32) (x6 : Int32) (x7 : Int32) (H : Heap) (locs : List Loc) (ls : Array Slot), va_P (dC, dI) vwCl [kA1 cI ag 2 vg, kA1 cI ak 23 vk, kA2 cJ au 4 vu] H → va_D A [kA1 cI ag 2 vg, kA1 cI ak 23 vk, kA2 cJ au 4 vu] → va_S A s.heap H locs → lv_has ls 14 [(0, .ref ag), (1, .ref ak), (2, .ref au), (3, .long l3), (5, .int x5), (6, .int x6), (7, .int x7)] → k111 vg vk vu l3 x5 x6 x7 = some y → WW H locs 0 0 ls 111 []) (l3 : Int64) (x6 : Int32) (x7 : Int32) (x10 : Int32) (l11 : Int64) (H : Heap) (locs : List Loc) (ls : Array Slot), va_P (dC, dI) vwCl [kA1 cI ag 2 vg, kA1 cI ak 23 vk, kA2 cJ au 4 vu] H → va_D A [kA1 cI ag 2 vg, kA1 cI ak 23 vk, kA2 cJ au 4 vu] → va_S A s.heap H locs → lv_has ls 14 [(0, .ref ag), (1, .ref ak), (2, .ref au), (3, .long l3), (6, .int x6), (7, .int x7), (10, .int x10), (11, .long l11)] → fL_rest_315 k99 k111 vg vk vu l3 x6 x7 x10 l11 = some y → WW H locs 0 0 ls 315 [] := by
    intro k99 hk99 k111 hk111 l3 x6 x7 x10 l11 H locs ls hP hD hS hl hf
    unfold fL_rest_315 at hf
    refine (hWW _ _ _ _ _ _ _).2 ?_
    refine lv_iload hx hb dL_rest_315 (lv_at hl 6 rfl) ?_
    refine lv_if_eq (tgt := 327) hx hb dL_rest_317 (by decide) (fun c46 => ?_) (fun c46 => ?_)
    · have hf := oif_t c46 hf
      exact (hWW _ _ _ _ _ _ _).1 (J327 k99 hk99 k111 hk111 l3 x6 x7 H locs ls hP hD hS (lv_sub hl [0, 1, 2, 3, 4, 5] rfl) hf)
    · have hf := oif_f c46 hf
      refine lv_lload hx hb dL_rest_320 (lv_at hl 7 rfl) ?_
      refine lv_lconst (v := 0) hx hb dL_rest_322 (by decide) ?_
      refine W.lcmp hx hb dL_rest_323 ?_
      refine lv_if_lt (tgt := 331) hx hb dL_rest_324 (by decide) (fun c47 => ?_) (fun c47 => ?_)
      · have hf := oif_t c47 hf
        exact (hWW _ _ _ _ _ _ _).1 (J331 k99 hk99 k111 hk111 l3 x6 x7 H locs ls hP hD hS (lv_sub hl [0, 1, 2, 3, 4, 5] rfl) hf)
      · have hf := oif_f c47 hf
        exact (hWW _ _ _ _ _ _ _).1 (J327 k99 hk99 k111 hk111 l3 x6 x7 H locs ls hP hD hS (lv_sub hl [0, 1, 2, 3, 4, 5] rfl) hf)
  have L212 : ∀ (k99 : (Nat → Int32) → (Nat → Int32) → (Nat → Int64) → Int64 → Int32 → Int32 → Option Int32) (hk99 : ∀ (l3 : Int64) (x5 : Int32) (x6 : Int32) (H : Heap) (locs : List Loc) (ls : Array Slot), va_P (dC, dI) vwCl [kA1 cI ag 2 vg, kA1 cI ak 23 vk, kA2 cJ au 4 vu] H → va_D A [kA1 cI ag 2 vg, kA1 cI ak 23 vk, kA2 cJ au 4 vu] → va_S A s.heap H locs → lv_has ls 14 [(0, .ref ag), (1, .ref ak), (2, .ref au), (3, .long l3), (5, .int x5), (6, .int x6)] → k99 vg vk vu l3 x5 x6 = some y → WW H locs 0 0 ls 99 []) (k111 : (Nat → Int32) → (Nat → Int32) → (Nat → Int64) → Int64 → Int32 → Int32 → Int32 → Option Int32) (hk111 : ∀ (l3 : Int64) (x5 : Int32) (x6 : Int32) (x7 : Int32) (H : Heap) (locs : List Loc) (ls : Array Slot), va_P (dC, dI) vwCl [kA1 cI ag 2 vg, kA1 cI ak 23 vk, kA2 cJ au 4 vu] H → va_D A [kA1 cI ag 2 vg, kA1 cI ak 23 vk, kA2 cJ au 4 vu] → va_S A s.heap H locs → lv_has ls 14 [(0, .ref ag), (1, .ref ak), (2, .ref au), (3, .long l3), (5, .int x5), (6, .int x6), (7, .int x7)] → k111 vg vk vu l3 x5 x6 x7 = some y → WW H locs 0 0 ls 111 []) (n : Nat) (l3 : Int64) (x5 : Int32) (x6 : Int32) (x7 : Int32) (x9 : Int32) (x10 : Int32) (l11 : Int64) (x13 : Int32) (H : Heap) (locs : List Loc) (ls : Array Slot), va_P (dC, dI) vwCl [kA1 cI ag 2 vg, kA1 cI ak 23 vk, kA2 cJ au 4 vu] H → va_D A [kA1 cI ag 2 vg, kA1 cI ak 23 vk, kA2 cJ au 4 vu] → va_S A s.heap H locs → lv_has ls 14 [(0, .ref ag), (1, .ref ak), (2, .ref au), (3, .long l3), (5, .int x5), (6, .int x6), (7, .int x7), (9, .int x9), (10, .int x10), (11, .long l11), (13, .int x13)] → fL_rest_212 k99 k111 n vg vk vu l3 x5 x6 x7 x9 x10 l11 x13 = some y → WW H locs 0 0 ls 212 [] := by
    intro k99 hk99 k111 hk111 n
    induction n with
    | zero =>
      intro l3 x5 x6 x7 x9 x10 l11 x13 H locs ls hP hD hS hl hf
      exact onone hf
    | succ n ih =>
      intro l3 x5 x6 x7 x9 x10 l11 x13 H locs ls hP hD hS hl hf
      have hf : fL_rest_212_b k99 k111 (fL_rest_212 k99 k111 n) vg vk vu l3 x5 x6 x7 x9 x10 l11 x13 = some y := hf
      generalize fL_rest_212 k99 k111 n = k212 at hf ih
      have hk212 := ih
      clear ih
      unfold fL_rest_212_b at hf
      refine (hWW _ _ _ _ _ _ _).2 ?_
      refine lv_iload hx hb dL_rest_212 (lv_at hl 10 rfl) ?_
      refine lv_iload hx hb dL_rest_214 (lv_at hl 6 rfl) ?_
      refine lv_icmp_gt (tgt := 298) hx hb dL_rest_216 (by decide) (fun c31 => ?_) (fun c31 => ?_)
      · have hf := oif_t c31 hf
        refine lv_iload hx hb dL_rest_298 (lv_at hl 4 rfl) ?_
        refine lv_if_eq (tgt := 331) hx hb dL_rest_300 (by decide) (fun c32 => ?_) (fun c32 => ?_)
        · have hf := oif_t c32 hf
          exact (hWW _ _ _ _ _ _ _).1 (J331 k99 hk99 k111 hk111 l3 x6 x7 H locs ls hP hD hS (lv_sub hl [0, 1, 2, 3, 5, 6] rfl) hf)
        · have hf := oif_f c32 hf
          refine lv_iload hx hb dL_rest_303 (lv_at hl 7 rfl) ?_
          refine lv_if_eq (tgt := 315) hx hb dL_rest_305 (by decide) (fun c33 => ?_) (fun c33 => ?_)
          · have hf := oif_t c33 hf
            exact (hWW _ _ _ _ _ _ _).1 (J315 k99 hk99 k111 hk111 l3 x6 x7 x10 l11 H locs ls hP hD hS (lv_sub hl [0, 1, 2, 3, 5, 6, 8, 9] rfl) hf)
          · have hf := oif_f c33 hf
            refine lv_lload hx hb dL_rest_308 (lv_at hl 9 rfl) ?_
            refine lv_lconst (v := 0) hx hb dL_rest_310 (by decide) ?_
            refine W.lcmp hx hb dL_rest_311 ?_
            refine lv_if_gt (tgt := 331) hx hb dL_rest_312 (by decide) (fun c34 => ?_) (fun c34 => ?_)
            · have hf := oif_t c34 hf
              exact (hWW _ _ _ _ _ _ _).1 (J331 k99 hk99 k111 hk111 l3 x6 x7 H locs ls hP hD hS (lv_sub hl [0, 1, 2, 3, 5, 6] rfl) hf)
            · have hf := oif_f c34 hf
              exact (hWW _ _ _ _ _ _ _).1 (J315 k99 hk99 k111 hk111 l3 x6 x7 x10 l11 H locs ls hP hD hS (lv_sub hl [0, 1, 2, 3, 5, 6, 8, 9] rfl) hf)
      · have hf := oif_f c31 hf
        refine lv_lload hx hb dL_rest_219 (lv_at hl 9 rfl) ?_
        refine lv_aload_n hx hb dL_rest_221 rfl (lv_at hl 0 rfl) ?_
        refine lv_aload_n hx hb dL_rest_222 rfl (lv_at hl 1 rfl) ?_
        refine lv_aload_n hx hb dL_rest_223 rfl (lv_at hl 2 rfl) ?_
        refine lv_lload_n hx hb dL_rest_224 rfl (lv_at hl 3 rfl) ?_
        refine lv_iload hx hb dL_rest_225 (lv_at hl 10 rfl) ?_
        obtain ⟨y35, hy35, hf⟩ := obind hf
        refine cg_l (ws := [kA1 cI ag 2 vg, kA1 cI ak 23 vk, kA2 cJ au 4 vu]) (wc := [kA1 cI ag 2 vg, kA1 cI ak 23 vk, kA2 cJ au 4 vu]) (wr := []) (w1 := [kA1 cI ag 2 vg, kA1 cI ak 23 vk, kA2 cJ au 4 vu]) (wo := [kA1 cI ag 2 vg, kA1 cI ak 23 vk, kA2 cJ au 4 vu]) hP hD hS hA (va_runS (As := [.ref ag, .ref ak, .ref au, .long l3, .int x13]) (rest := [.long l11]) ⟨hx, hb, hml, hown, hts⟩ (mL_force l dC dI cI cJ ag ak au H.size vg vk vu l3 x13 y35 hy35) (va_cwS 5 hts gL_rest_L_force rfl rfl rfl (by decide +kernel) ⟨Nat.le_of_ble_eq_true rfl, Nat.le_of_ble_eq_true rfl⟩) ⟨cFB, cPre hK hN hS (va_free (wc := [kA1 cI ag 2 vg, kA1 cI ak 23 vk, kA2 cJ au 4 vu]) hD hS hA [0, 1, 2] rfl) (hP.sub [0, 1, 2] rfl) (hD.sub [0, 1, 2] rfl rfl)⟩ rfl rfl hl.1 rfl (lv_room (Nat.le_of_ble_eq_true rfl)) dL_rest_227 ⟨Nat.le_of_ble_eq_true rfl, Nat.le_of_ble_eq_true rfl⟩) [0, 1, 2] [] [0, 1, 2] rfl rfl rfl (by decide +kernel) rfl rfl (fun H locs hP hD hS => ?_)
        refine lv_ladd hx hb dL_rest_230 ?_
        obtain ⟨z36, ez36, hf⟩ := elet_out hf
        refine lvn_l ez36 ?_
        refine lv_lstore (lv' := [(11, .long z36), (0, .ref ag), (1, .ref ak), (2, .ref au), (3, .long l3), (5, .int x5), (6, .int x6), (7, .int x7), (9, .int x9), (10, .int x10), (13, .int x13)]) hx hb dL_rest_231 hl (by decide) rfl (fun ls hl => ?_)
        refine lv_iload hx hb dL_rest_233 (lv_at hl 8 rfl) ?_
        refine lv_if_eq (tgt := 260) hx hb dL_rest_235 (by decide) (fun c37 => ?_) (fun c37 => ?_)
        · have hf := oif_t c37 hf
          exact (hWW _ _ _ _ _ _ _).1 (J260 k99 hk99 k111 hk111 k212 hk212 l3 x5 x6 x7 x10 z36 x13 H locs ls hP hD hS (lv_sub hl [1, 2, 3, 4, 5, 6, 7, 9, 0, 10] rfl) hf)
        · have hf := oif_f c37 hf
          refine lv_aload_n hx hb dL_rest_238 rfl (lv_at hl 3 rfl) ?_
          refine lv_iload hx hb dL_rest_239 (lv_at hl 10 rfl) ?_
          obtain ⟨hi38, hf⟩ := oinb rfl hf
          refine va_lald hx hb hK hP 2 1 rfl rfl hi38 dL_rest_241 ?_
          refine lv_aload_n hx hb dL_rest_242 rfl (lv_at hl 1 rfl) ?_
          refine lv_aload_n hx hb dL_rest_243 rfl (lv_at hl 2 rfl) ?_
          refine lv_iload hx hb dL_rest_244 (lv_at hl 10 rfl) ?_
          obtain ⟨y39, hy39, hf⟩ := obind hf
          refine cg_i (ws := [kA1 cI ag 2 vg, kA1 cI ak 23 vk, kA2 cJ au 4 vu]) (wc := [kA1 cI ag 2 vg, kA1 cI ak 23 vk]) (wr := [kA2 cJ au 4 vu]) (w1 := [kA1 cI ag 2 vg, kA1 cI ak 23 vk]) (wo := [kA1 cI ag 2 vg, kA1 cI ak 23 vk, kA2 cJ au 4 vu]) hP hD hS hA (va_runS (As := [.ref ag, .ref ak, .int x13]) (rest := [.long (vu (x13).toNatClampNeg)]) ⟨hx, hb, hml, hown, hts⟩ (mL_most l dC dI cI cJ ag ak H.size vg vk x13 y39 hy39) (va_cwS 3 hts gL_rest_L_most rfl rfl rfl (by decide +kernel) ⟨Nat.le_of_ble_eq_true rfl, Nat.le_of_ble_eq_true rfl⟩) ⟨cFB, cPre hK hN hS (va_free (wc := [kA1 cI ag 2 vg, kA1 cI ak 23 vk]) hD hS hA [0, 1] rfl) (hP.sub [0, 1] rfl) (hD.sub [0, 1] rfl rfl)⟩ rfl rfl hl.1 rfl (lv_room (Nat.le_of_ble_eq_true rfl)) dL_rest_246 ⟨Nat.le_of_ble_eq_true rfl, Nat.le_of_ble_eq_true rfl⟩) [0, 1] [2] [1, 2, 0] rfl rfl rfl (by decide +kernel) rfl rfl (fun H locs hP hD hS => ?_)
          refine lv_i2l (v := (y39).toInt64) hx hb dL_rest_249 rfl ?_
          refine lv_lload_n hx hb dL_rest_250 rfl (lv_at hl 4 rfl) ?_
          refine lv_lmul hx hb dL_rest_251 ?_
          refine W.lcmp hx hb dL_rest_252 ?_
          refine lv_if_ge (tgt := 260) hx hb dL_rest_253 (by decide) (fun c40 => ?_) (fun c40 => ?_)
          · have hf := oif_t c40 hf
            exact (hWW _ _ _ _ _ _ _).1 (J260 k99 hk99 k111 hk111 k212 hk212 l3 x5 x6 x7 x10 z36 x13 H locs ls hP hD hS (lv_sub hl [1, 2, 3, 4, 5, 6, 7, 9, 0, 10] rfl) hf)
          · have hf := oif_f c40 hf
            refine lv_iconst (v := 1) hx hb dL_rest_256 (by decide) ?_
            refine lv_goto (tgt := 261) hx hb dL_rest_257 (by decide) ?_
            exact (hWW _ _ _ _ _ _ _).1 (J261 k99 hk99 k111 hk111 k212 hk212 l3 x5 x6 x7 x10 z36 x13 (1 : Int32) H locs ls hP hD hS (lv_sub hl [1, 2, 3, 4, 5, 6, 7, 9, 0, 10] rfl) hf)
  have J203 : ∀ (k99 : (Nat → Int32) → (Nat → Int32) → (Nat → Int64) → Int64 → Int32 → Int32 → Option Int32) (hk99 : ∀ (l3 : Int64) (x5 : Int32) (x6 : Int32) (H : Heap) (locs : List Loc) (ls : Array Slot), va_P (dC, dI) vwCl [kA1 cI ag 2 vg, kA1 cI ak 23 vk, kA2 cJ au 4 vu] H → va_D A [kA1 cI ag 2 vg, kA1 cI ak 23 vk, kA2 cJ au 4 vu] → va_S A s.heap H locs → lv_has ls 14 [(0, .ref ag), (1, .ref ak), (2, .ref au), (3, .long l3), (5, .int x5), (6, .int x6)] → k99 vg vk vu l3 x5 x6 = some y → WW H locs 0 0 ls 99 []) (k111 : (Nat → Int32) → (Nat → Int32) → (Nat → Int64) → Int64 → Int32 → Int32 → Int32 → Option Int32) (hk111 : ∀ (l3 : Int64) (x5 : Int32) (x6 : Int32) (x7 : Int32) (H : Heap) (locs : List Loc) (ls : Array Slot), va_P (dC, dI) vwCl [kA1 cI ag 2 vg, kA1 cI ak 23 vk, kA2 cJ au 4 vu] H → va_D A [kA1 cI ag 2 vg, kA1 cI ak 23 vk, kA2 cJ au 4 vu] → va_S A s.heap H locs → lv_has ls 14 [(0, .ref ag), (1, .ref ak), (2, .ref au), (3, .long l3), (5, .int x5), (6, .int x6), (7, .int x7)] → k111 vg vk vu l3 x5 x6 x7 = some y → WW H locs 0 0 ls 111 []) (l3 : Int64) (x5 : Int32) (x6 : Int32) (x7 : Int32) (x9 : Int32) (st0 : Int32) (H : Heap) (locs : List Loc) (ls : Array Slot), va_P (dC, dI) vwCl [kA1 cI ag 2 vg, kA1 cI ak 23 vk, kA2 cJ au 4 vu] H → va_D A [kA1 cI ag 2 vg, kA1 cI ak 23 vk, kA2 cJ au 4 vu] → va_S A s.heap H locs → lv_has ls 14 [(0, .ref ag), (1, .ref ak), (2, .ref au), (3, .long l3), (5, .int x5), (6, .int x6), (7, .int x7), (9, .int x9)] → fL_rest_203 k99 k111 vg vk vu l3 x5 x6 x7 x9 st0 = some y → WW H locs 0 0 ls 203 [.int st0] := by
    intro k99 hk99 k111 hk111 l3 x5 x6 x7 x9 st0 H locs ls hP hD hS hl hf
    unfold fL_rest_203 at hf
    refine (hWW _ _ _ _ _ _ _).2 ?_
    refine lv_istore (lv' := [(10, .int st0), (0, .ref ag), (1, .ref ak), (2, .ref au), (3, .long l3), (5, .int x5), (6, .int x6), (7, .int x7), (9, .int x9)]) hx hb dL_rest_203 hl (by decide) rfl (fun ls hl => ?_)
    refine lv_lconst (v := 0) hx hb dL_rest_205 (by decide) ?_
    refine lv_lstore (lv' := [(11, .long 0), (10, .int st0), (0, .ref ag), (1, .ref ak), (2, .ref au), (3, .long l3), (5, .int x5), (6, .int x6), (7, .int x7), (9, .int x9)]) hx hb dL_rest_206 hl (by decide) rfl (fun ls hl => ?_)
    refine lv_iload hx hb dL_rest_208 (lv_at hl 7 rfl) ?_
    refine lv_istore (lv' := [(13, .int x6), (11, .long 0), (10, .int st0), (0, .ref ag), (1, .ref ak), (2, .ref au), (3, .long l3), (5, .int x5), (6, .int x6), (7, .int x7), (9, .int x9)]) hx hb dL_rest_210 hl (by decide) rfl (fun ls hl => ?_)
    exact (hWW _ _ _ _ _ _ _).1 (L212 k99 hk99 k111 hk111 FU l3 x5 x6 x7 x9 st0 (0 : Int64) x6 H locs ls hP hD hS (lv_sub hl [3, 4, 5, 6, 7, 8, 9, 10, 2, 1, 0] rfl) hf)
  have J198 : ∀ (k99 : (Nat → Int32) → (Nat → Int32) → (Nat → Int64) → Int64 → Int32 → Int32 → Option Int32) (hk99 : ∀ (l3 : Int64) (x5 : Int32) (x6 : Int32) (H : Heap) (locs : List Loc) (ls : Array Slot), va_P (dC, dI) vwCl [kA1 cI ag 2 vg, kA1 cI ak 23 vk, kA2 cJ au 4 vu] H → va_D A [kA1 cI ag 2 vg, kA1 cI ak 23 vk, kA2 cJ au 4 vu] → va_S A s.heap H locs → lv_has ls 14 [(0, .ref ag), (1, .ref ak), (2, .ref au), (3, .long l3), (5, .int x5), (6, .int x6)] → k99 vg vk vu l3 x5 x6 = some y → WW H locs 0 0 ls 99 []) (k111 : (Nat → Int32) → (Nat → Int32) → (Nat → Int64) → Int64 → Int32 → Int32 → Int32 → Option Int32) (hk111 : ∀ (l3 : Int64) (x5 : Int32) (x6 : Int32) (x7 : Int32) (H : Heap) (locs : List Loc) (ls : Array Slot), va_P (dC, dI) vwCl [kA1 cI ag 2 vg, kA1 cI ak 23 vk, kA2 cJ au 4 vu] H → va_D A [kA1 cI ag 2 vg, kA1 cI ak 23 vk, kA2 cJ au 4 vu] → va_S A s.heap H locs → lv_has ls 14 [(0, .ref ag), (1, .ref ak), (2, .ref au), (3, .long l3), (5, .int x5), (6, .int x6), (7, .int x7)] → k111 vg vk vu l3 x5 x6 x7 = some y → WW H locs 0 0 ls 111 []) (l3 : Int64) (x5 : Int32) (x6 : Int32) (x7 : Int32) (x9 : Int32) (H : Heap) (locs : List Loc) (ls : Array Slot), va_P (dC, dI) vwCl [kA1 cI ag 2 vg, kA1 cI ak 23 vk, kA2 cJ au 4 vu] H → va_D A [kA1 cI ag 2 vg, kA1 cI ak 23 vk, kA2 cJ au 4 vu] → va_S A s.heap H locs → lv_has ls 14 [(0, .ref ag), (1, .ref ak), (2, .ref au), (3, .long l3), (5, .int x5), (6, .int x6), (7, .int x7), (9, .int x9)] → fL_rest_198 k99 k111 vg vk vu l3 x5 x6 x7 x9 = some y → WW H locs 0 0 ls 198 [] := by
    intro k99 hk99 k111 hk111 l3 x5 x6 x7 x9 H locs ls hP hD hS hl hf
    unfold fL_rest_198 at hf
    refine (hWW _ _ _ _ _ _ _).2 ?_
    refine lv_iconst (v := 1) hx hb dL_rest_198 (by decide) ?_
    refine lv_goto (tgt := 203) hx hb dL_rest_199 (by decide) ?_
    exact (hWW _ _ _ _ _ _ _).1 (J203 k99 hk99 k111 hk111 l3 x5 x6 x7 x9 (1 : Int32) H locs ls hP hD hS (lv_sub hl [0, 1, 2, 3, 4, 5, 6, 7] rfl) hf)
  have J202 : ∀ (k99 : (Nat → Int32) → (Nat → Int32) → (Nat → Int64) → Int64 → Int32 → Int32 → Option Int32) (hk99 : ∀ (l3 : Int64) (x5 : Int32) (x6 : Int32) (H : Heap) (locs : List Loc) (ls : Array Slot), va_P (dC, dI) vwCl [kA1 cI ag 2 vg, kA1 cI ak 23 vk, kA2 cJ au 4 vu] H → va_D A [kA1 cI ag 2 vg, kA1 cI ak 23 vk, kA2 cJ au 4 vu] → va_S A s.heap H locs → lv_has ls 14 [(0, .ref ag), (1, .ref ak), (2, .ref au), (3, .long l3), (5, .int x5), (6, .int x6)] → k99 vg vk vu l3 x5 x6 = some y → WW H locs 0 0 ls 99 []) (k111 : (Nat → Int32) → (Nat → Int32) → (Nat → Int64) → Int64 → Int32 → Int32 → Int32 → Option Int32) (hk111 : ∀ (l3 : Int64) (x5 : Int32) (x6 : Int32) (x7 : Int32) (H : Heap) (locs : List Loc) (ls : Array Slot), va_P (dC, dI) vwCl [kA1 cI ag 2 vg, kA1 cI ak 23 vk, kA2 cJ au 4 vu] H → va_D A [kA1 cI ag 2 vg, kA1 cI ak 23 vk, kA2 cJ au 4 vu] → va_S A s.heap H locs → lv_has ls 14 [(0, .ref ag), (1, .ref ak), (2, .ref au), (3, .long l3), (5, .int x5), (6, .int x6), (7, .int x7)] → k111 vg vk vu l3 x5 x6 x7 = some y → WW H locs 0 0 ls 111 []) (l3 : Int64) (x5 : Int32) (x6 : Int32) (x7 : Int32) (x9 : Int32) (H : Heap) (locs : List Loc) (ls : Array Slot), va_P (dC, dI) vwCl [kA1 cI ag 2 vg, kA1 cI ak 23 vk, kA2 cJ au 4 vu] H → va_D A [kA1 cI ag 2 vg, kA1 cI ak 23 vk, kA2 cJ au 4 vu] → va_S A s.heap H locs → lv_has ls 14 [(0, .ref ag), (1, .ref ak), (2, .ref au), (3, .long l3), (5, .int x5), (6, .int x6), (7, .int x7), (9, .int x9)] → fL_rest_202 k99 k111 vg vk vu l3 x5 x6 x7 x9 = some y → WW H locs 0 0 ls 202 [] := by
    intro k99 hk99 k111 hk111 l3 x5 x6 x7 x9 H locs ls hP hD hS hl hf
    unfold fL_rest_202 at hf
    refine (hWW _ _ _ _ _ _ _).2 ?_
    refine lv_iconst (v := 0) hx hb dL_rest_202 (by decide) ?_
    exact (hWW _ _ _ _ _ _ _).1 (J203 k99 hk99 k111 hk111 l3 x5 x6 x7 x9 (0 : Int32) H locs ls hP hD hS (lv_sub hl [0, 1, 2, 3, 4, 5, 6, 7] rfl) hf)
  have J172 : ∀ (k99 : (Nat → Int32) → (Nat → Int32) → (Nat → Int64) → Int64 → Int32 → Int32 → Option Int32) (hk99 : ∀ (l3 : Int64) (x5 : Int32) (x6 : Int32) (H : Heap) (locs : List Loc) (ls : Array Slot), va_P (dC, dI) vwCl [kA1 cI ag 2 vg, kA1 cI ak 23 vk, kA2 cJ au 4 vu] H → va_D A [kA1 cI ag 2 vg, kA1 cI ak 23 vk, kA2 cJ au 4 vu] → va_S A s.heap H locs → lv_has ls 14 [(0, .ref ag), (1, .ref ak), (2, .ref au), (3, .long l3), (5, .int x5), (6, .int x6)] → k99 vg vk vu l3 x5 x6 = some y → WW H locs 0 0 ls 99 []) (k111 : (Nat → Int32) → (Nat → Int32) → (Nat → Int64) → Int64 → Int32 → Int32 → Int32 → Option Int32) (hk111 : ∀ (l3 : Int64) (x5 : Int32) (x6 : Int32) (x7 : Int32) (H : Heap) (locs : List Loc) (ls : Array Slot), va_P (dC, dI) vwCl [kA1 cI ag 2 vg, kA1 cI ak 23 vk, kA2 cJ au 4 vu] H → va_D A [kA1 cI ag 2 vg, kA1 cI ak 23 vk, kA2 cJ au 4 vu] → va_S A s.heap H locs → lv_has ls 14 [(0, .ref ag), (1, .ref ak), (2, .ref au), (3, .long l3), (5, .int x5), (6, .int x6), (7, .int x7)] → k111 vg vk vu l3 x5 x6 x7 = some y → WW H locs 0 0 ls 111 []) (l3 : Int64) (x5 : Int32) (x6 : Int32) (x7 : Int32) (x8 : Int32) (st0 : Int32) (H : Heap) (locs : List Loc) (ls : Array Slot), va_P (dC, dI) vwCl [kA1 cI ag 2 vg, kA1 cI ak 23 vk, kA2 cJ au 4 vu] H → va_D A [kA1 cI ag 2 vg, kA1 cI ak 23 vk, kA2 cJ au 4 vu] → va_S A s.heap H locs → lv_has ls 14 [(0, .ref ag), (1, .ref ak), (2, .ref au), (3, .long l3), (5, .int x5), (6, .int x6), (7, .int x7), (8, .int x8)] → fL_rest_172 k99 k111 vg vk vu l3 x5 x6 x7 x8 st0 = some y → WW H locs 0 0 ls 172 [.int st0] := by
    intro k99 hk99 k111 hk111 l3 x5 x6 x7 x8 st0 H locs ls hP hD hS hl hf
    unfold fL_rest_172 at hf
    refine (hWW _ _ _ _ _ _ _).2 ?_
    refine lv_istore (lv' := [(9, .int st0), (0, .ref ag), (1, .ref ak), (2, .ref au), (3, .long l3), (5, .int x5), (6, .int x6), (7, .int x7), (8, .int x8)]) hx hb dL_rest_172 hl (by decide) rfl (fun ls hl => ?_)
    refine lv_iload hx hb dL_rest_174 (lv_at hl 8 rfl) ?_
    refine lv_if_eq (tgt := 202) hx hb dL_rest_176 (by decide) (fun c26 => ?_) (fun c26 => ?_)
    · have hf := oif_t c26 hf
      exact (hWW _ _ _ _ _ _ _).1 (J202 k99 hk99 k111 hk111 l3 x5 x6 x7 st0 H locs ls hP hD hS (lv_sub hl [1, 2, 3, 4, 5, 6, 7, 0] rfl) hf)
    · have hf := oif_f c26 hf
      refine lv_iload hx hb dL_rest_179 (lv_at hl 6 rfl) ?_
      refine lv_if_eq (tgt := 198) hx hb dL_rest_181 (by decide) (fun c27 => ?_) (fun c27 => ?_)
      · have hf := oif_t c27 hf
        exact (hWW _ _ _ _ _ _ _).1 (J198 k99 hk99 k111 hk111 l3 x5 x6 x7 st0 H locs ls hP hD hS (lv_sub hl [1, 2, 3, 4, 5, 6, 7, 0] rfl) hf)
      · have hf := oif_f c27 hf
        refine lv_aload_n hx hb dL_rest_184 rfl (lv_at hl 3 rfl) ?_
        refine lv_iload hx hb dL_rest_185 (lv_at hl 6 rfl) ?_
        refine lv_iconst (v := 1) hx hb dL_rest_187 (by decide) ?_
        refine lv_isub hx hb dL_rest_188 ?_
        obtain ⟨hi28, hf⟩ := oinb rfl hf
        refine va_lald hx hb hK hP 2 1 rfl rfl hi28 dL_rest_189 ?_
        refine lv_aload_n hx hb dL_rest_190 rfl (lv_at hl 3 rfl) ?_
        refine lv_iload hx hb dL_rest_191 (lv_at hl 6 rfl) ?_
        obtain ⟨hi29, hf⟩ := oinb rfl hf
        refine va_lald hx hb hK hP 2 1 rfl rfl hi29 dL_rest_193 ?_
        refine W.lcmp hx hb dL_rest_194 ?_
        refine lv_if_ge (tgt := 202) hx hb dL_rest_195 (by decide) (fun c30 => ?_) (fun c30 => ?_)
        · have hf := oif_t c30 hf
          exact (hWW _ _ _ _ _ _ _).1 (J202 k99 hk99 k111 hk111 l3 x5 x6 x7 st0 H locs ls hP hD hS (lv_sub hl [1, 2, 3, 4, 5, 6, 7, 0] rfl) hf)
        · have hf := oif_f c30 hf
          exact (hWW _ _ _ _ _ _ _).1 (J198 k99 hk99 k111 hk111 l3 x5 x6 x7 st0 H locs ls hP hD hS (lv_sub hl [1, 2, 3, 4, 5, 6, 7, 0] rfl) hf)
  have J167 : ∀ (k99 : (Nat → Int32) → (Nat → Int32) → (Nat → Int64) → Int64 → Int32 → Int32 → Option Int32) (hk99 : ∀ (l3 : Int64) (x5 : Int32) (x6 : Int32) (H : Heap) (locs : List Loc) (ls : Array Slot), va_P (dC, dI) vwCl [kA1 cI ag 2 vg, kA1 cI ak 23 vk, kA2 cJ au 4 vu] H → va_D A [kA1 cI ag 2 vg, kA1 cI ak 23 vk, kA2 cJ au 4 vu] → va_S A s.heap H locs → lv_has ls 14 [(0, .ref ag), (1, .ref ak), (2, .ref au), (3, .long l3), (5, .int x5), (6, .int x6)] → k99 vg vk vu l3 x5 x6 = some y → WW H locs 0 0 ls 99 []) (k111 : (Nat → Int32) → (Nat → Int32) → (Nat → Int64) → Int64 → Int32 → Int32 → Int32 → Option Int32) (hk111 : ∀ (l3 : Int64) (x5 : Int32) (x6 : Int32) (x7 : Int32) (H : Heap) (locs : List Loc) (ls : Array Slot), va_P (dC, dI) vwCl [kA1 cI ag 2 vg, kA1 cI ak 23 vk, kA2 cJ au 4 vu] H → va_D A [kA1 cI ag 2 vg, kA1 cI ak 23 vk, kA2 cJ au 4 vu] → va_S A s.heap H locs → lv_has ls 14 [(0, .ref ag), (1, .ref ak), (2, .ref au), (3, .long l3), (5, .int x5), (6, .int x6), (7, .int x7)] → k111 vg vk vu l3 x5 x6 x7 = some y → WW H locs 0 0 ls 111 []) (l3 : Int64) (x5 : Int32) (x6 : Int32) (x7 : Int32) (x8 : Int32) (H : Heap) (locs : List Loc) (ls : Array Slot), va_P (dC, dI) vwCl [kA1 cI ag 2 vg, kA1 cI ak 23 vk, kA2 cJ au 4 vu] H → va_D A [kA1 cI ag 2 vg, kA1 cI ak 23 vk, kA2 cJ au 4 vu] → va_S A s.heap H locs → lv_has ls 14 [(0, .ref ag), (1, .ref ak), (2, .ref au), (3, .long l3), (5, .int x5), (6, .int x6), (7, .int x7), (8, .int x8)] → fL_rest_167 k99 k111 vg vk vu l3 x5 x6 x7 x8 = some y → WW H locs 0 0 ls 167 [] := by
    intro k99 hk99 k111 hk111 l3 x5 x6 x7 x8 H locs ls hP hD hS hl hf
    unfold fL_rest_167 at hf
    refine (hWW _ _ _ _ _ _ _).2 ?_
    refine lv_iconst (v := 1) hx hb dL_rest_167 (by decide) ?_
    refine lv_goto (tgt := 172) hx hb dL_rest_168 (by decide) ?_
    exact (hWW _ _ _ _ _ _ _).1 (J172 k99 hk99 k111 hk111 l3 x5 x6 x7 x8 (1 : Int32) H locs ls hP hD hS (lv_sub hl [0, 1, 2, 3, 4, 5, 6, 7] rfl) hf)
  have J171 : ∀ (k99 : (Nat → Int32) → (Nat → Int32) → (Nat → Int64) → Int64 → Int32 → Int32 → Option Int32) (hk99 : ∀ (l3 : Int64) (x5 : Int32) (x6 : Int32) (H : Heap) (locs : List Loc) (ls : Array Slot), va_P (dC, dI) vwCl [kA1 cI ag 2 vg, kA1 cI ak 23 vk, kA2 cJ au 4 vu] H → va_D A [kA1 cI ag 2 vg, kA1 cI ak 23 vk, kA2 cJ au 4 vu] → va_S A s.heap H locs → lv_has ls 14 [(0, .ref ag), (1, .ref ak), (2, .ref au), (3, .long l3), (5, .int x5), (6, .int x6)] → k99 vg vk vu l3 x5 x6 = some y → WW H locs 0 0 ls 99 []) (k111 : (Nat → Int32) → (Nat → Int32) → (Nat → Int64) → Int64 → Int32 → Int32 → Int32 → Option Int32) (hk111 : ∀ (l3 : Int64) (x5 : Int32) (x6 : Int32) (x7 : Int32) (H : Heap) (locs : List Loc) (ls : Array Slot), va_P (dC, dI) vwCl [kA1 cI ag 2 vg, kA1 cI ak 23 vk, kA2 cJ au 4 vu] H → va_D A [kA1 cI ag 2 vg, kA1 cI ak 23 vk, kA2 cJ au 4 vu] → va_S A s.heap H locs → lv_has ls 14 [(0, .ref ag), (1, .ref ak), (2, .ref au), (3, .long l3), (5, .int x5), (6, .int x6), (7, .int x7)] → k111 vg vk vu l3 x5 x6 x7 = some y → WW H locs 0 0 ls 111 []) (l3 : Int64) (x5 : Int32) (x6 : Int32) (x7 : Int32) (x8 : Int32) (H : Heap) (locs : List Loc) (ls : Array Slot), va_P (dC, dI) vwCl [kA1 cI ag 2 vg, kA1 cI ak 23 vk, kA2 cJ au 4 vu] H → va_D A [kA1 cI ag 2 vg, kA1 cI ak 23 vk, kA2 cJ au 4 vu] → va_S A s.heap H locs → lv_has ls 14 [(0, .ref ag), (1, .ref ak), (2, .ref au), (3, .long l3), (5, .int x5), (6, .int x6), (7, .int x7), (8, .int x8)] → fL_rest_171 k99 k111 vg vk vu l3 x5 x6 x7 x8 = some y → WW H locs 0 0 ls 171 [] := by
    intro k99 hk99 k111 hk111 l3 x5 x6 x7 x8 H locs ls hP hD hS hl hf
    unfold fL_rest_171 at hf
    refine (hWW _ _ _ _ _ _ _).2 ?_
    refine lv_iconst (v := 0) hx hb dL_rest_171 (by decide) ?_
    exact (hWW _ _ _ _ _ _ _).1 (J172 k99 hk99 k111 hk111 l3 x5 x6 x7 x8 (0 : Int32) H locs ls hP hD hS (lv_sub hl [0, 1, 2, 3, 4, 5, 6, 7] rfl) hf)
  have J136 : ∀ (k99 : (Nat → Int32) → (Nat → Int32) → (Nat → Int64) → Int64 → Int32 → Int32 → Option Int32) (hk99 : ∀ (l3 : Int64) (x5 : Int32) (x6 : Int32) (H : Heap) (locs : List Loc) (ls : Array Slot), va_P (dC, dI) vwCl [kA1 cI ag 2 vg, kA1 cI ak 23 vk, kA2 cJ au 4 vu] H → va_D A [kA1 cI ag 2 vg, kA1 cI ak 23 vk, kA2 cJ au 4 vu] → va_S A s.heap H locs → lv_has ls 14 [(0, .ref ag), (1, .ref ak), (2, .ref au), (3, .long l3), (5, .int x5), (6, .int x6)] → k99 vg vk vu l3 x5 x6 = some y → WW H locs 0 0 ls 99 []) (k111 : (Nat → Int32) → (Nat → Int32) → (Nat → Int64) → Int64 → Int32 → Int32 → Int32 → Option Int32) (hk111 : ∀ (l3 : Int64) (x5 : Int32) (x6 : Int32) (x7 : Int32) (H : Heap) (locs : List Loc) (ls : Array Slot), va_P (dC, dI) vwCl [kA1 cI ag 2 vg, kA1 cI ak 23 vk, kA2 cJ au 4 vu] H → va_D A [kA1 cI ag 2 vg, kA1 cI ak 23 vk, kA2 cJ au 4 vu] → va_S A s.heap H locs → lv_has ls 14 [(0, .ref ag), (1, .ref ak), (2, .ref au), (3, .long l3), (5, .int x5), (6, .int x6), (7, .int x7)] → k111 vg vk vu l3 x5 x6 x7 = some y → WW H locs 0 0 ls 111 []) (l3 : Int64) (x5 : Int32) (x6 : Int32) (x7 : Int32) (st0 : Int32) (H : Heap) (locs : List Loc) (ls : Array Slot), va_P (dC, dI) vwCl [kA1 cI ag 2 vg, kA1 cI ak 23 vk, kA2 cJ au 4 vu] H → va_D A [kA1 cI ag 2 vg, kA1 cI ak 23 vk, kA2 cJ au 4 vu] → va_S A s.heap H locs → lv_has ls 14 [(0, .ref ag), (1, .ref ak), (2, .ref au), (3, .long l3), (5, .int x5), (6, .int x6), (7, .int x7)] → fL_rest_136 k99 k111 vg vk vu l3 x5 x6 x7 st0 = some y → WW H locs 0 0 ls 136 [.int st0] := by
    intro k99 hk99 k111 hk111 l3 x5 x6 x7 st0 H locs ls hP hD hS hl hf
    unfold fL_rest_136 at hf
    refine (hWW _ _ _ _ _ _ _).2 ?_
    refine lv_istore (lv' := [(8, .int st0), (0, .ref ag), (1, .ref ak), (2, .ref au), (3, .long l3), (5, .int x5), (6, .int x6), (7, .int x7)]) hx hb dL_rest_136 hl (by decide) rfl (fun ls hl => ?_)
    refine lv_iload hx hb dL_rest_138 (lv_at hl 0 rfl) ?_
    refine lv_if_eq (tgt := 171) hx hb dL_rest_140 (by decide) (fun c21 => ?_) (fun c21 => ?_)
    · have hf := oif_t c21 hf
      exact (hWW _ _ _ _ _ _ _).1 (J171 k99 hk99 k111 hk111 l3 x5 x6 x7 st0 H locs ls hP hD hS (lv_sub hl [1, 2, 3, 4, 5, 6, 7, 0] rfl) hf)
    · have hf := oif_f c21 hf
      refine lv_iload hx hb dL_rest_143 (lv_at hl 7 rfl) ?_
      refine lv_aload_n hx hb dL_rest_145 rfl (lv_at hl 1 rfl) ?_
      refine lv_iconst (v := 1) hx hb dL_rest_146 (by decide) ?_
      refine va_iald hx hb hK hP 0 0 rfl rfl (vpc rfl) dL_rest_147 ?_
      refine lv_iconst (v := 1) hx hb dL_rest_148 (by decide) ?_
      refine lv_isub hx hb dL_rest_149 ?_
      refine lv_icmp_eq (tgt := 167) hx hb dL_rest_150 (by decide) (fun c22 => ?_) (fun c22 => ?_)
      · have hf := oif_t c22 hf
        exact (hWW _ _ _ _ _ _ _).1 (J167 k99 hk99 k111 hk111 l3 x5 x6 x7 st0 H locs ls hP hD hS (lv_sub hl [1, 2, 3, 4, 5, 6, 7, 0] rfl) hf)
      · have hf := oif_f c22 hf
        refine lv_aload_n hx hb dL_rest_153 rfl (lv_at hl 3 rfl) ?_
        refine lv_iload hx hb dL_rest_154 (lv_at hl 7 rfl) ?_
        refine lv_iconst (v := 1) hx hb dL_rest_156 (by decide) ?_
        refine lv_iadd hx hb dL_rest_157 ?_
        obtain ⟨hi23, hf⟩ := oinb rfl hf
        refine va_lald hx hb hK hP 2 1 rfl rfl hi23 dL_rest_158 ?_
        refine lv_aload_n hx hb dL_rest_159 rfl (lv_at hl 3 rfl) ?_
        refine lv_iload hx hb dL_rest_160 (lv_at hl 7 rfl) ?_
        obtain ⟨hi24, hf⟩ := oinb rfl hf
        refine va_lald hx hb hK hP 2 1 rfl rfl hi24 dL_rest_162 ?_
        refine W.lcmp hx hb dL_rest_163 ?_
        refine lv_if_le (tgt := 171) hx hb dL_rest_164 (by decide) (fun c25 => ?_) (fun c25 => ?_)
        · have hf := oif_t c25 hf
          exact (hWW _ _ _ _ _ _ _).1 (J171 k99 hk99 k111 hk111 l3 x5 x6 x7 st0 H locs ls hP hD hS (lv_sub hl [1, 2, 3, 4, 5, 6, 7, 0] rfl) hf)
        · have hf := oif_f c25 hf
          exact (hWW _ _ _ _ _ _ _).1 (J167 k99 hk99 k111 hk111 l3 x5 x6 x7 st0 H locs ls hP hD hS (lv_sub hl [1, 2, 3, 4, 5, 6, 7, 0] rfl) hf)
  have L111 : ∀ (k99 : (Nat → Int32) → (Nat → Int32) → (Nat → Int64) → Int64 → Int32 → Int32 → Option Int32) (hk99 : ∀ (l3 : Int64) (x5 : Int32) (x6 : Int32) (H : Heap) (locs : List Loc) (ls : Array Slot), va_P (dC, dI) vwCl [kA1 cI ag 2 vg, kA1 cI ak 23 vk, kA2 cJ au 4 vu] H → va_D A [kA1 cI ag 2 vg, kA1 cI ak 23 vk, kA2 cJ au 4 vu] → va_S A s.heap H locs → lv_has ls 14 [(0, .ref ag), (1, .ref ak), (2, .ref au), (3, .long l3), (5, .int x5), (6, .int x6)] → k99 vg vk vu l3 x5 x6 = some y → WW H locs 0 0 ls 99 []) (n : Nat) (l3 : Int64) (x5 : Int32) (x6 : Int32) (x7 : Int32) (H : Heap) (locs : List Loc) (ls : Array Slot), va_P (dC, dI) vwCl [kA1 cI ag 2 vg, kA1 cI ak 23 vk, kA2 cJ au 4 vu] H → va_D A [kA1 cI ag 2 vg, kA1 cI ak 23 vk, kA2 cJ au 4 vu] → va_S A s.heap H locs → lv_has ls 14 [(0, .ref ag), (1, .ref ak), (2, .ref au), (3, .long l3), (5, .int x5), (6, .int x6), (7, .int x7)] → fL_rest_111 k99 n vg vk vu l3 x5 x6 x7 = some y → WW H locs 0 0 ls 111 [] := by
    intro k99 hk99 n
    induction n with
    | zero =>
      intro l3 x5 x6 x7 H locs ls hP hD hS hl hf
      exact onone hf
    | succ n ih =>
      intro l3 x5 x6 x7 H locs ls hP hD hS hl hf
      have hf : fL_rest_111_b k99 (fL_rest_111 k99 n) vg vk vu l3 x5 x6 x7 = some y := hf
      generalize fL_rest_111 k99 n = k111 at hf ih
      have hk111 := ih
      clear ih
      unfold fL_rest_111_b at hf
      refine (hWW _ _ _ _ _ _ _).2 ?_
      refine lv_iload hx hb dL_rest_111 (lv_at hl 6 rfl) ?_
      refine lv_aload_n hx hb dL_rest_113 rfl (lv_at hl 0 rfl) ?_
      refine lv_iconst (v := 1) hx hb dL_rest_114 (by decide) ?_
      refine va_iald hx hb hK hP 0 0 rfl rfl (vpc rfl) dL_rest_115 ?_
      refine lv_icmp_ge (tgt := 340) hx hb dL_rest_116 (by decide) (fun c16 => ?_) (fun c16 => ?_)
      · have hf := oif_t c16 hf
        obtain ⟨z17, ez17, hf⟩ := elet_out hf
        refine lv_iinc (v := z17) (lv' := [(6, .int z17), (0, .ref ag), (1, .ref ak), (2, .ref au), (3, .long l3), (5, .int x5), (7, .int x7)]) hx hb dL_rest_340 hl (k := 5) rfl (by rw [ez17]; rfl) (by decide) rfl (fun ls hl => ?_)
        refine lv_goto (tgt := 99) hx hb dL_rest_343 (by decide) ?_
        exact (hWW _ _ _ _ _ _ _).1 (hk99 l3 x5 z17 H locs ls hP hD hS (lv_sub hl [1, 2, 3, 4, 5, 0] rfl) hf)
      · have hf := oif_f c16 hf
        refine lv_aload_n hx hb dL_rest_119 rfl (lv_at hl 2 rfl) ?_
        refine lv_iload hx hb dL_rest_120 (lv_at hl 5 rfl) ?_
        obtain ⟨hi18, hf⟩ := oinb rfl hf
        refine va_lald hx hb hK hP 2 1 rfl rfl hi18 dL_rest_122 ?_
        refine lv_aload_n hx hb dL_rest_123 rfl (lv_at hl 2 rfl) ?_
        refine lv_iload hx hb dL_rest_124 (lv_at hl 6 rfl) ?_
        obtain ⟨hi19, hf⟩ := oinb rfl hf
        refine va_lald hx hb hK hP 2 1 rfl rfl hi19 dL_rest_126 ?_
        refine W.lcmp hx hb dL_rest_127 ?_
        refine lv_if_ne (tgt := 135) hx hb dL_rest_128 (by decide) (fun c20 => ?_) (fun c20 => ?_)
        · have hf := oif_f c20 hf
          refine lv_iconst (v := 0) hx hb dL_rest_135 (by decide) ?_
          exact (hWW _ _ _ _ _ _ _).1 (J136 k99 hk99 k111 hk111 l3 x5 x6 x7 (0 : Int32) H locs ls hP hD hS (lv_sub hl [0, 1, 2, 3, 4, 5, 6] rfl) hf)
        · have hf := oif_t c20 hf
          refine lv_iconst (v := 1) hx hb dL_rest_131 (by decide) ?_
          refine lv_goto (tgt := 136) hx hb dL_rest_132 (by decide) ?_
          exact (hWW _ _ _ _ _ _ _).1 (J136 k99 hk99 k111 hk111 l3 x5 x6 x7 (1 : Int32) H locs ls hP hD hS (lv_sub hl [0, 1, 2, 3, 4, 5, 6] rfl) hf)
  have L99 : ∀ (n : Nat) (l3 : Int64) (x5 : Int32) (x6 : Int32) (H : Heap) (locs : List Loc) (ls : Array Slot), va_P (dC, dI) vwCl [kA1 cI ag 2 vg, kA1 cI ak 23 vk, kA2 cJ au 4 vu] H → va_D A [kA1 cI ag 2 vg, kA1 cI ak 23 vk, kA2 cJ au 4 vu] → va_S A s.heap H locs → lv_has ls 14 [(0, .ref ag), (1, .ref ak), (2, .ref au), (3, .long l3), (5, .int x5), (6, .int x6)] → fL_rest_99 n vg vk vu l3 x5 x6 = some y → WW H locs 0 0 ls 99 [] := by
    intro n
    induction n with
    | zero =>
      intro l3 x5 x6 H locs ls hP hD hS hl hf
      exact onone hf
    | succ n ih =>
      intro l3 x5 x6 H locs ls hP hD hS hl hf
      have hf : fL_rest_99_b (fL_rest_99 n) vg vk vu l3 x5 x6 = some y := hf
      generalize fL_rest_99 n = k99 at hf ih
      have hk99 := ih
      clear ih
      unfold fL_rest_99_b at hf
      refine (hWW _ _ _ _ _ _ _).2 ?_
      refine lv_iload hx hb dL_rest_99 (lv_at hl 5 rfl) ?_
      refine lv_aload_n hx hb dL_rest_101 rfl (lv_at hl 0 rfl) ?_
      refine lv_iconst (v := 1) hx hb dL_rest_102 (by decide) ?_
      refine va_iald hx hb hK hP 0 0 rfl rfl (vpc rfl) dL_rest_103 ?_
      refine lv_icmp_ge (tgt := 346) hx hb dL_rest_104 (by decide) (fun c14 => ?_) (fun c14 => ?_)
      · have hf := oif_t c14 hf
        refine lv_iload hx hb dL_rest_346 (lv_at hl 4 rfl) ?_
        obtain ⟨hz15, hf⟩ := ozb hf
        obtain rfl := Option.some.inj hf
        exact W.zret (v := x5) hx hb hr hz15 (fun t ht hW => ⟨⟨x5, (), rfl, rfl, by rw [ht]; exact hP, hD⟩, hS.F ht⟩) hS.2.2 dL_rest_348
      · have hf := oif_f c14 hf
        refine lv_iload hx hb dL_rest_107 (lv_at hl 5 rfl) ?_
        refine lv_istore (lv' := [(7, .int x6), (0, .ref ag), (1, .ref ak), (2, .ref au), (3, .long l3), (5, .int x5), (6, .int x6)]) hx hb dL_rest_109 hl (by decide) rfl (fun ls hl => ?_)
        exact (hWW _ _ _ _ _ _ _).1 (L111 k99 hk99 FU l3 x5 x6 x6 H locs ls hP hD hS (lv_sub hl [1, 2, 3, 4, 5, 6, 0] rfl) hf)
  have L16 : ∀ (n : Nat) (l3 : Int64) (x5 : Int32) (x6 : Int32) (H : Heap) (locs : List Loc) (ls : Array Slot), va_P (dC, dI) vwCl [kA1 cI ag 2 vg, kA1 cI ak 23 vk, kA2 cJ au 4 vu] H → va_D A [kA1 cI ag 2 vg, kA1 cI ak 23 vk, kA2 cJ au 4 vu] → va_S A s.heap H locs → lv_has ls 14 [(0, .ref ag), (1, .ref ak), (2, .ref au), (3, .long l3), (5, .int x5), (6, .int x6)] → fL_rest_16 n vg vk vu l3 x5 x6 = some y → WW H locs 0 0 ls 16 [] := by
    intro n
    induction n with
    | zero =>
      intro l3 x5 x6 H locs ls hP hD hS hl hf
      exact onone hf
    | succ n ih =>
      intro l3 x5 x6 H locs ls hP hD hS hl hf
      have hf : fL_rest_16_b (fL_rest_16 n) vg vk vu l3 x5 x6 = some y := hf
      generalize fL_rest_16 n = k16 at hf ih
      have hk16 := ih
      clear ih
      unfold fL_rest_16_b at hf
      refine (hWW _ _ _ _ _ _ _).2 ?_
      refine lv_iload hx hb dL_rest_16 (lv_at hl 5 rfl) ?_
      refine lv_aload_n hx hb dL_rest_18 rfl (lv_at hl 0 rfl) ?_
      refine lv_iconst (v := 1) hx hb dL_rest_19 (by decide) ?_
      refine va_iald hx hb hK hP 0 0 rfl rfl (vpc rfl) dL_rest_20 ?_
      refine lv_icmp_ge (tgt := 96) hx hb dL_rest_21 (by decide) (fun c1 => ?_) (fun c1 => ?_)
      · have hf := oif_t c1 hf
        refine lv_iconst (v := 0) hx hb dL_rest_96 (by decide) ?_
        refine lv_istore (lv' := [(6, .int 0), (0, .ref ag), (1, .ref ak), (2, .ref au), (3, .long l3), (5, .int x5)]) hx hb dL_rest_97 hl (by decide) rfl (fun ls hl => ?_)
        exact (hWW _ _ _ _ _ _ _).1 (L99 FU l3 x5 (0 : Int32) H locs ls hP hD hS (lv_sub hl [1, 2, 3, 4, 5, 0] rfl) hf)
      · have hf := oif_f c1 hf
        refine lv_iload hx hb dL_rest_24 (lv_at hl 4 rfl) ?_
        refine lv_if_eq (tgt := 87) hx hb dL_rest_26 (by decide) (fun c2 => ?_) (fun c2 => ?_)
        · have hf := oif_t c2 hf
          exact (hWW _ _ _ _ _ _ _).1 (J87 k16 hk16 l3 x6 H locs ls hP hD hS (lv_sub hl [0, 1, 2, 3, 5] rfl) hf)
        · have hf := oif_f c2 hf
          refine lv_aload_n hx hb dL_rest_29 rfl (lv_at hl 2 rfl) ?_
          refine lv_iload hx hb dL_rest_30 (lv_at hl 5 rfl) ?_
          obtain ⟨hi3, hf⟩ := oinb rfl hf
          refine va_lald hx hb hK hP 2 1 rfl rfl hi3 dL_rest_32 ?_
          refine lv_aload_n hx hb dL_rest_33 rfl (lv_at hl 1 rfl) ?_
          refine lv_iload hx hb dL_rest_34 (lv_at hl 5 rfl) ?_
          obtain ⟨y4, hy4, hf⟩ := obind hf
          refine cg_i (ws := [kA1 cI ag 2 vg, kA1 cI ak 23 vk, kA2 cJ au 4 vu]) (wc := [kA1 cI ak 23 vk]) (wr := [kA1 cI ag 2 vg, kA2 cJ au 4 vu]) (w1 := [kA1 cI ak 23 vk]) (wo := [kA1 cI ag 2 vg, kA1 cI ak 23 vk, kA2 cJ au 4 vu]) hP hD hS hA (va_runS (As := [.ref ak, .int x6]) (rest := [.long (vu (x6).toNatClampNeg)]) ⟨hx, hb, hml, hown, hts⟩ (mL_least l dC dI cI cJ ak H.size vk x6 y4 hy4) (va_cwS 2 hts gL_rest_L_least rfl rfl rfl (by decide +kernel) ⟨Nat.le_of_ble_eq_true rfl, Nat.le_of_ble_eq_true rfl⟩) ⟨cFB, cPre hK hN hS (va_free (wc := [kA1 cI ak 23 vk]) hD hS hA [1] rfl) (hP.sub [1] rfl) (hD.sub [1] rfl rfl)⟩ rfl rfl hl.1 rfl (lv_room (Nat.le_of_ble_eq_true rfl)) dL_rest_36 ⟨Nat.le_of_ble_eq_true rfl, Nat.le_of_ble_eq_true rfl⟩) [1] [0, 2] [0, 2, 1] rfl rfl rfl (by decide +kernel) rfl rfl (fun H locs hP hD hS => ?_)
          refine lv_i2l (v := (y4).toInt64) hx hb dL_rest_39 rfl ?_
          refine lv_lload_n hx hb dL_rest_40 rfl (lv_at hl 3 rfl) ?_
          refine lv_lmul hx hb dL_rest_41 ?_
          refine W.lcmp hx hb dL_rest_42 ?_
          refine lv_if_lt (tgt := 87) hx hb dL_rest_43 (by decide) (fun c5 => ?_) (fun c5 => ?_)
          · have hf := oif_t c5 hf
            exact (hWW _ _ _ _ _ _ _).1 (J87 k16 hk16 l3 x6 H locs ls hP hD hS (lv_sub hl [0, 1, 2, 3, 5] rfl) hf)
          · have hf := oif_f c5 hf
            refine lv_aload_n hx hb dL_rest_46 rfl (lv_at hl 2 rfl) ?_
            refine lv_iload hx hb dL_rest_47 (lv_at hl 5 rfl) ?_
            obtain ⟨hi6, hf⟩ := oinb rfl hf
            refine va_lald hx hb hK hP 2 1 rfl rfl hi6 dL_rest_49 ?_
            refine lv_aload_n hx hb dL_rest_50 rfl (lv_at hl 0 rfl) ?_
            refine lv_aload_n hx hb dL_rest_51 rfl (lv_at hl 1 rfl) ?_
            refine lv_iload hx hb dL_rest_52 (lv_at hl 5 rfl) ?_
            obtain ⟨y7, hy7, hf⟩ := obind hf
            refine cg_i (ws := [kA1 cI ag 2 vg, kA1 cI ak 23 vk, kA2 cJ au 4 vu]) (wc := [kA1 cI ag 2 vg, kA1 cI ak 23 vk]) (wr := [kA2 cJ au 4 vu]) (w1 := [kA1 cI ag 2 vg, kA1 cI ak 23 vk]) (wo := [kA1 cI ag 2 vg, kA1 cI ak 23 vk, kA2 cJ au 4 vu]) hP hD hS hA (va_runS (As := [.ref ag, .ref ak, .int x6]) (rest := [.long (vu (x6).toNatClampNeg)]) ⟨hx, hb, hml, hown, hts⟩ (mL_most l dC dI cI cJ ag ak H.size vg vk x6 y7 hy7) (va_cwS 3 hts gL_rest_L_most rfl rfl rfl (by decide +kernel) ⟨Nat.le_of_ble_eq_true rfl, Nat.le_of_ble_eq_true rfl⟩) ⟨cFB, cPre hK hN hS (va_free (wc := [kA1 cI ag 2 vg, kA1 cI ak 23 vk]) hD hS hA [0, 1] rfl) (hP.sub [0, 1] rfl) (hD.sub [0, 1] rfl rfl)⟩ rfl rfl hl.1 rfl (lv_room (Nat.le_of_ble_eq_true rfl)) dL_rest_54 ⟨Nat.le_of_ble_eq_true rfl, Nat.le_of_ble_eq_true rfl⟩) [0, 1] [2] [1, 2, 0] rfl rfl rfl (by decide +kernel) rfl rfl (fun H locs hP hD hS => ?_)
            refine lv_i2l (v := (y7).toInt64) hx hb dL_rest_57 rfl ?_
            refine lv_lload_n hx hb dL_rest_58 rfl (lv_at hl 3 rfl) ?_
            refine lv_lmul hx hb dL_rest_59 ?_
            refine W.lcmp hx hb dL_rest_60 ?_
            refine lv_if_gt (tgt := 87) hx hb dL_rest_61 (by decide) (fun c8 => ?_) (fun c8 => ?_)
            · have hf := oif_t c8 hf
              exact (hWW _ _ _ _ _ _ _).1 (J87 k16 hk16 l3 x6 H locs ls hP hD hS (lv_sub hl [0, 1, 2, 3, 5] rfl) hf)
            · have hf := oif_f c8 hf
              refine lv_iload hx hb dL_rest_64 (lv_at hl 5 rfl) ?_
              refine lv_if_eq (tgt := 83) hx hb dL_rest_66 (by decide) (fun c9 => ?_) (fun c9 => ?_)
              · have hf := oif_t c9 hf
                exact (hWW _ _ _ _ _ _ _).1 (J83 k16 hk16 l3 x6 H locs ls hP hD hS (lv_sub hl [0, 1, 2, 3, 5] rfl) hf)
              · have hf := oif_f c9 hf
                refine lv_aload_n hx hb dL_rest_69 rfl (lv_at hl 2 rfl) ?_
                refine lv_iload hx hb dL_rest_70 (lv_at hl 5 rfl) ?_
                obtain ⟨hi10, hf⟩ := oinb rfl hf
                refine va_lald hx hb hK hP 2 1 rfl rfl hi10 dL_rest_72 ?_
                refine lv_aload_n hx hb dL_rest_73 rfl (lv_at hl 2 rfl) ?_
                refine lv_iload hx hb dL_rest_74 (lv_at hl 5 rfl) ?_
                refine lv_iconst (v := 1) hx hb dL_rest_76 (by decide) ?_
                refine lv_isub hx hb dL_rest_77 ?_
                obtain ⟨hi11, hf⟩ := oinb rfl hf
                refine va_lald hx hb hK hP 2 1 rfl rfl hi11 dL_rest_78 ?_
                refine W.lcmp hx hb dL_rest_79 ?_
                refine lv_if_lt (tgt := 87) hx hb dL_rest_80 (by decide) (fun c12 => ?_) (fun c12 => ?_)
                · have hf := oif_t c12 hf
                  exact (hWW _ _ _ _ _ _ _).1 (J87 k16 hk16 l3 x6 H locs ls hP hD hS (lv_sub hl [0, 1, 2, 3, 5] rfl) hf)
                · have hf := oif_f c12 hf
                  exact (hWW _ _ _ _ _ _ _).1 (J83 k16 hk16 l3 x6 H locs ls hP hD hS (lv_sub hl [0, 1, 2, 3, 5] rfl) hf)
  have J11 : ∀ (l3 : Int64) (st0 : Int32) (H : Heap) (locs : List Loc) (ls : Array Slot), va_P (dC, dI) vwCl [kA1 cI ag 2 vg, kA1 cI ak 23 vk, kA2 cJ au 4 vu] H → va_D A [kA1 cI ag 2 vg, kA1 cI ak 23 vk, kA2 cJ au 4 vu] → va_S A s.heap H locs → lv_has ls 14 [(0, .ref ag), (1, .ref ak), (2, .ref au), (3, .long l3)] → fL_rest_11 vg vk vu l3 st0 = some y → WW H locs 0 0 ls 11 [.int st0] := by
    intro l3 st0 H locs ls hP hD hS hl hf
    unfold fL_rest_11 at hf
    refine (hWW _ _ _ _ _ _ _).2 ?_
    refine lv_istore (lv' := [(5, .int st0), (0, .ref ag), (1, .ref ak), (2, .ref au), (3, .long l3)]) hx hb dL_rest_11 hl (by decide) rfl (fun ls hl => ?_)
    refine lv_iconst (v := 0) hx hb dL_rest_13 (by decide) ?_
    refine lv_istore (lv' := [(6, .int 0), (5, .int st0), (0, .ref ag), (1, .ref ak), (2, .ref au), (3, .long l3)]) hx hb dL_rest_14 hl (by decide) rfl (fun ls hl => ?_)
    exact (hWW _ _ _ _ _ _ _).1 (L16 FU l3 st0 (0 : Int32) H locs ls hP hD hS (lv_sub hl [2, 3, 4, 5, 1, 0] rfl) hf)
  refine (hWW _ _ _ _ _ _ _).2 ?_
  unfold fL_rest at hf
  refine lv_lload_n hx hb dL_rest_0 rfl (lv_at hl 3 rfl) ?_
  refine lv_lconst (v := 0) hx hb dL_rest_1 (by decide) ?_
  refine W.lcmp hx hb dL_rest_2 ?_
  refine lv_if_le (tgt := 10) hx hb dL_rest_3 (by decide) (fun c49 => ?_) (fun c49 => ?_)
  · have hf := oif_t c49 hf
    refine lv_iconst (v := 0) hx hb dL_rest_10 (by decide) ?_
    exact (hWW _ _ _ _ _ _ _).1 (J11 j3 (0 : Int32) H locs ls hP hD hS (lv_sub hl [0, 1, 2, 3] rfl) hf)
  · have hf := oif_f c49 hf
    refine lv_iconst (v := 1) hx hb dL_rest_6 (by decide) ?_
    refine lv_goto (tgt := 11) hx hb dL_rest_7 (by decide) ?_
    exact (hWW _ _ _ _ _ _ _).1 (J11 j3 (1 : Int32) H locs ls hP hD hS (lv_sub hl [0, 1, 2, 3] rfl) hf)
