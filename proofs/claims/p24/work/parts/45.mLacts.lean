theorem ogd {α : Type} {c : Prop} [Decidable c] {A : Option α} {y : α} (e : (if c then A else none) = some y) : c ∧ A = some y := by
  by_cases h : c
  · rw [if_pos h] at e; exact ⟨h, e⟩
  · rw [if_neg h] at e; cases e
def fL_acts_40 (vX : BX3) (nh : Nat) (pv : Nat → BX0) (vA : BX0) (vB : BX0) (vg : (Nat → Int32)) (vk : (Nat → Int32)) (x6 : Int32) : Option (Int32 × BX3 × Nat × (Nat → BX0) × BX0 × BX0 × (Nat → Int32) × (Nat → Int32)) :=
  if x6 = (4 : Int32) then ((fX3_plate vX nh pv vA vB).bind (fun y15 => if y15.2.2.1 ≤ 4 then (if y15.1 = (-1000003 : Int32) then (some (1, y15.2.1, (y15.2.2.1), (y15.2.2.2.1), y15.2.2.2.2.1, y15.2.2.2.2.2, vg, vk)) else (some (0, y15.2.1, (y15.2.2.1), (y15.2.2.2.1), y15.2.2.2.2.1, y15.2.2.2.2.2, vg, vk))) else none)) else (if inB (x6 + (1 : Int32)) 23 = true then (elet (upd vk ((x6 + (1 : Int32))).toNatClampNeg 1) (fun b3 => if inB ((6 : Int32) + x6) 23 = true then (elet (upd b3 (((6 : Int32) + x6)).toNatClampNeg 10) (fun b5 => if inB ((10 : Int32) + x6) 23 = true then (elet (upd b5 (((10 : Int32) + x6)).toNatClampNeg 0) (fun b7 => if inB ((14 : Int32) + x6) 23 = true then (elet (upd b7 (((14 : Int32) + x6)).toNatClampNeg (-1)) (fun b9 => if inB ((18 : Int32) + x6) 23 = true then (elet (upd b9 (((18 : Int32) + x6)).toNatClampNeg (-1)) (fun b11 => elet (upd vg ((1 : Int32)).toNatClampNeg ((vg ((1 : Int32)).toNatClampNeg) + (1 : Int32))) (fun b12 => (fX3_plate vX nh pv vA vB).bind (fun y13 => if y13.2.2.1 ≤ 4 then (if y13.1 = x6 then (some (1, y13.2.1, (y13.2.2.1), (y13.2.2.2.1), y13.2.2.2.2.1, y13.2.2.2.2.2, b12, b11)) else (some (0, y13.2.1, (y13.2.2.1), (y13.2.2.2.1), y13.2.2.2.2.1, y13.2.2.2.2.2, b12, b11))) else none)))) else none)) else none)) else none)) else none)) else none)
def fL_acts_191 (vX : BX3) (nh : Nat) (pv : Nat → BX0) (vA : BX0) (vB : BX0) (vg : (Nat → Int32)) (vk : (Nat → Int32)) (x7 : Int32) (x8 : Int32) (st1 : Int32) (st2 : Int32) (st3 : Int32) : Option (Int32 × BX3 × Nat × (Nat → BX0) × BX0 × BX0 × (Nat → Int32) × (Nat → Int32)) :=
  if st3 = 0 then none else (if inB st1 23 = true then (elet (upd vk (st1).toNatClampNeg (st2 - st2 / st3 * st3)) (fun b75 => if inB x7 23 = true then (if inB ((5 : Int32) + x7) 23 = true then ((fX3_spring vX nh pv vA vB x7 (b75 (x7).toNatClampNeg) (b75 (((5 : Int32) + x7)).toNatClampNeg)).bind (fun y78 => if y78.2.2.1 ≤ 4 then (if y78.1 = x8 then (some (1, y78.2.1, (y78.2.2.1), (y78.2.2.2.1), y78.2.2.2.2.1, y78.2.2.2.2.2, vg, b75)) else (some (0, y78.2.1, (y78.2.2.1), (y78.2.2.2.1), y78.2.2.2.2.1, y78.2.2.2.2.2, vg, b75))) else none)) else none) else none)) else none)
def fL_acts_283 (k242 : BX3 → Nat → (Nat → BX0) → BX0 → BX0 → (Nat → Int32) → (Nat → Int32) → Int32 → Int32 → Int32 → Int32 → Option (Int32 × BX3 × Nat × (Nat → BX0) × BX0 × BX0 × (Nat → Int32) × (Nat → Int32))) (vX : BX3) (nh : Nat) (pv : Nat → BX0) (vA : BX0) (vB : BX0) (vg : (Nat → Int32)) (vk : (Nat → Int32)) (x6 : Int32) (x7 : Int32) (x9 : Int32) (st0 : Int32) : Option (Int32 × BX3 × Nat × (Nat → BX0) × BX0 × BX0 × (Nat → Int32) × (Nat → Int32)) :=
  elet (x9 + 1) (fun z88 => k242 vX nh pv vA vB vg vk x6 x7 st0 z88)
def fL_acts_282 (k242 : BX3 → Nat → (Nat → BX0) → BX0 → BX0 → (Nat → Int32) → (Nat → Int32) → Int32 → Int32 → Int32 → Int32 → Option (Int32 × BX3 × Nat × (Nat → BX0) × BX0 × BX0 × (Nat → Int32) × (Nat → Int32))) (vX : BX3) (nh : Nat) (pv : Nat → BX0) (vA : BX0) (vB : BX0) (vg : (Nat → Int32)) (vk : (Nat → Int32)) (x6 : Int32) (x7 : Int32) (x9 : Int32) : Option (Int32 × BX3 × Nat × (Nat → BX0) × BX0 × BX0 × (Nat → Int32) × (Nat → Int32)) :=
  fL_acts_283 k242 vX nh pv vA vB vg vk x6 x7 x9 (0 : Int32)
def fL_acts_310 (vX : BX3) (nh : Nat) (pv : Nat → BX0) (vA : BX0) (vB : BX0) (vg : (Nat → Int32)) (vk : (Nat → Int32)) (x7 : Int32) (x8 : Int32) (x9 : Int32) (st1 : Int32) (st2 : Int32) : Option (Int32 × BX3 × Nat × (Nat → BX0) × BX0 × BX0 × (Nat → Int32) × (Nat → Int32)) :=
  if inB st1 2 = true then (elet (upd vg (st1).toNatClampNeg st2) (fun b90 => (fX3_width vX nh pv vA vB x7).bind (fun y91 => if y91.2.2.1 ≤ 4 then (if x8 = 0 then (if y91.1 = (-1000002 : Int32) then (some (1, y91.2.1, (y91.2.2.1), (y91.2.2.2.1), y91.2.2.2.2.1, y91.2.2.2.2.2, b90, vk)) else (some (0, y91.2.1, (y91.2.2.1), (y91.2.2.2.1), y91.2.2.2.2.1, y91.2.2.2.2.2, b90, vk))) else (if y91.1 = x9 then (some (1, y91.2.1, (y91.2.2.1), (y91.2.2.2.1), y91.2.2.2.2.1, y91.2.2.2.2.2, b90, vk)) else (some (0, y91.2.1, (y91.2.2.1), (y91.2.2.2.1), y91.2.2.2.2.1, y91.2.2.2.2.2, b90, vk)))) else none))) else none
def fL_acts_242_b (k242 : BX3 → Nat → (Nat → BX0) → BX0 → BX0 → (Nat → Int32) → (Nat → Int32) → Int32 → Int32 → Int32 → Int32 → Option (Int32 × BX3 × Nat × (Nat → BX0) × BX0 × BX0 × (Nat → Int32) × (Nat → Int32))) (vX : BX3) (nh : Nat) (pv : Nat → BX0) (vA : BX0) (vB : BX0) (vg : (Nat → Int32)) (vk : (Nat → Int32)) (x6 : Int32) (x7 : Int32) (x8 : Int32) (x9 : Int32) : Option (Int32 × BX3 × Nat × (Nat → BX0) × BX0 × BX0 × (Nat → Int32) × (Nat → Int32)) :=
  if x6 ≤ x9 then (elet (vg ((0 : Int32)).toNatClampNeg) (fun z81 => if x8 = 0 then (fL_acts_310 vX nh pv vA vB vg vk x7 x8 z81 (0 : Int32) z81) else (fL_acts_310 vX nh pv vA vB vg vk x7 x8 z81 (0 : Int32) x7))) else (if x8 = 0 then (fL_acts_282 k242 vX nh pv vA vB vg vk x6 x7 x9) else (if inB ((14 : Int32) + x9) 23 = true then (if x7 < (vk (((14 : Int32) + x9)).toNatClampNeg) then (fL_acts_282 k242 vX nh pv vA vB vg vk x6 x7 x9) else (if inB ((18 : Int32) + x9) 23 = true then (if x7 < (vk (((18 : Int32) + x9)).toNatClampNeg) then (fL_acts_282 k242 vX nh pv vA vB vg vk x6 x7 x9) else (fL_acts_283 k242 vX nh pv vA vB vg vk x6 x7 x9 (1 : Int32))) else none)) else none))
def fL_acts_242 : Nat → BX3 → Nat → (Nat → BX0) → BX0 → BX0 → (Nat → Int32) → (Nat → Int32) → Int32 → Int32 → Int32 → Int32 → Option (Int32 × BX3 × Nat × (Nat → BX0) × BX0 × BX0 × (Nat → Int32) × (Nat → Int32))
  | 0 => fun _ _ _ _ _ _ _ _ _ _ _ => none
  | n + 1 => fL_acts_242_b (fL_acts_242 n)
def fL_acts_466 (vX : BX3) (nh : Nat) (pv : Nat → BX0) (vA : BX0) (vB : BX0) (vg : (Nat → Int32)) (vk : (Nat → Int32)) (x7 : Int32) (x8 : Int32) (st1 : Int32) (st2 : Int32) : Option (Int32 × BX3 × Nat × (Nat → BX0) × BX0 × BX0 × (Nat → Int32) × (Nat → Int32)) :=
  if inB st1 23 = true then (elet (upd vk (st1).toNatClampNeg st2) (fun b96 => if inB ((10 : Int32) + x7) 23 = true then ((fX3_load vX nh pv vA vB x7 (b96 (((10 : Int32) + x7)).toNatClampNeg)).bind (fun y98 => if y98.2.2.1 ≤ 4 then (if y98.1 = ((1000 : Int32) + x8) then (some (1, y98.2.1, (y98.2.2.1), (y98.2.2.2.1), y98.2.2.2.2.1, y98.2.2.2.2.2, vg, b96)) else (some (0, y98.2.1, (y98.2.2.1), (y98.2.2.2.1), y98.2.2.2.2.1, y98.2.2.2.2.2, vg, b96))) else none)) else none)) else none
def fL_acts_571 (vX : BX3) (nh : Nat) (pv : Nat → BX0) (vA : BX0) (vB : BX0) (vg : (Nat → Int32)) (vk : (Nat → Int32)) (x7 : Int32) (x8 : Int32) (x10 : Int32) (x11 : Int32) (x12 : Int32) (st1 : Int32) (st2 : Int32) : Option (Int32 × BX3 × Nat × (Nat → BX0) × BX0 × BX0 × (Nat → Int32) × (Nat → Int32)) :=
  if inB st1 23 = true then (elet (upd vk (st1).toNatClampNeg st2) (fun b101 => (fX3_stop vX nh pv vA vB x7 x8 x12).bind (fun y102 => if y102.2.2.1 ≤ 4 then (if x11 = 0 then (if y102.1 = (-1000002 : Int32) then (some (1, y102.2.1, (y102.2.2.1), (y102.2.2.2.1), y102.2.2.2.2.1, y102.2.2.2.2.2, vg, b101)) else (some (0, y102.2.1, (y102.2.2.1), (y102.2.2.2.1), y102.2.2.2.2.1, y102.2.2.2.2.2, vg, b101))) else (if y102.1 = x10 then (some (1, y102.2.1, (y102.2.2.1), (y102.2.2.2.1), y102.2.2.2.2.1, y102.2.2.2.2.2, vg, b101)) else (some (0, y102.2.1, (y102.2.2.1), (y102.2.2.2.1), y102.2.2.2.2.1, y102.2.2.2.2.2, vg, b101)))) else none))) else none
def fL_acts_696_b (k696 : BX3 → Nat → (Nat → BX0) → BX0 → BX0 → (Nat → Int32) → (Nat → Int32) → Int32 → Int32 → Option (Int32 × BX3 × Nat × (Nat → BX0) × BX0 × BX0 × (Nat → Int32) × (Nat → Int32))) (vX : BX3) (nh : Nat) (pv : Nat → BX0) (vA : BX0) (vB : BX0) (vg : (Nat → Int32)) (vk : (Nat → Int32)) (x7 : Int32) (x10 : Int32) : Option (Int32 × BX3 × Nat × (Nat → BX0) × BX0 × BX0 × (Nat → Int32) × (Nat → Int32)) :=
  if (3 : Int32) ≤ x10 then (elet (upd vg ((1 : Int32)).toNatClampNeg ((vg ((1 : Int32)).toNatClampNeg) - (1 : Int32))) (fun b107 => (fX3_drop vX nh pv vA vB x7).bind (fun y108 => if y108.2.2.1 ≤ 4 then (if y108.1 = (b107 ((1 : Int32)).toNatClampNeg) then (some (1, y108.2.1, (y108.2.2.1), (y108.2.2.2.1), y108.2.2.2.2.1, y108.2.2.2.2.2, b107, vk)) else (some (0, y108.2.1, (y108.2.2.1), (y108.2.2.2.1), y108.2.2.2.2.1, y108.2.2.2.2.2, b107, vk))) else none))) else (if inB (x10 + (2 : Int32)) 23 = true then (if inB (x10 + (1 : Int32)) 23 = true then (elet (upd vk ((x10 + (1 : Int32))).toNatClampNeg (vk ((x10 + (2 : Int32))).toNatClampNeg)) (fun b112 => if inB ((7 : Int32) + x10) 23 = true then (if inB ((6 : Int32) + x10) 23 = true then (elet (upd b112 (((6 : Int32) + x10)).toNatClampNeg (b112 (((7 : Int32) + x10)).toNatClampNeg)) (fun b115 => if inB ((11 : Int32) + x10) 23 = true then (if inB ((10 : Int32) + x10) 23 = true then (elet (upd b115 (((10 : Int32) + x10)).toNatClampNeg (b115 (((11 : Int32) + x10)).toNatClampNeg)) (fun b118 => if inB ((15 : Int32) + x10) 23 = true then (if inB ((14 : Int32) + x10) 23 = true then (elet (upd b118 (((14 : Int32) + x10)).toNatClampNeg (b118 (((15 : Int32) + x10)).toNatClampNeg)) (fun b121 => if inB ((19 : Int32) + x10) 23 = true then (if inB ((18 : Int32) + x10) 23 = true then (elet (upd b121 (((18 : Int32) + x10)).toNatClampNeg (b121 (((19 : Int32) + x10)).toNatClampNeg)) (fun b124 => elet (x10 + 1) (fun z125 => k696 vX nh pv vA vB vg b124 x7 z125))) else none) else none)) else none) else none)) else none) else none)) else none) else none)) else none) else none)
def fL_acts_696 : Nat → BX3 → Nat → (Nat → BX0) → BX0 → BX0 → (Nat → Int32) → (Nat → Int32) → Int32 → Int32 → Option (Int32 × BX3 × Nat × (Nat → BX0) × BX0 × BX0 × (Nat → Int32) × (Nat → Int32))
  | 0 => fun _ _ _ _ _ _ _ _ _ => none
  | n + 1 => fL_acts_696_b (fL_acts_696 n)
def fL_acts_123 (vX : BX3) (nh : Nat) (pv : Nat → BX0) (vA : BX0) (vB : BX0) (vg : (Nat → Int32)) (vk : (Nat → Int32)) (x4 : Int32) (x5 : Int32) (x6 : Int32) : Option (Int32 × BX3 × Nat × (Nat → BX0) × BX0 × BX0 × (Nat → Int32) × (Nat → Int32)) :=
  if (4 : Int32) ≤ x5 then (if x5 = (4 : Int32) then (elet ((10 : Int32) + (x4 - x4 / (90 : Int32) * (90 : Int32))) (fun z64 => fL_acts_242 FU vX nh pv vA vB vg vk x6 z64 (1 : Int32) (0 : Int32))) else (if x6 = 0 then ((fX3_load vX nh pv vA vB (0 : Int32) (0 : Int32)).bind (fun y56 => if y56.2.2.1 ≤ 4 then (if y56.1 = (-1000001 : Int32) then ((fX3_stop y56.2.1 (y56.2.2.1) (y56.2.2.2.1) y56.2.2.2.2.1 y56.2.2.2.2.2 (0 : Int32) (0 : Int32) (0 : Int32)).bind (fun y58 => if y58.2.2.1 ≤ 4 then (if y58.1 = (-1000001 : Int32) then ((fX3_unstop y58.2.1 (y58.2.2.1) (y58.2.2.2.1) y58.2.2.2.2.1 y58.2.2.2.2.2 (0 : Int32) (0 : Int32)).bind (fun y60 => if y60.2.2.1 ≤ 4 then (if y60.1 = (-1000001 : Int32) then ((fX3_drop y60.2.1 (y60.2.2.1) (y60.2.2.2.1) y60.2.2.2.2.1 y60.2.2.2.2.2 (0 : Int32)).bind (fun y62 => if y62.2.2.1 ≤ 4 then (if y62.1 = (-1000001 : Int32) then (some (1, y62.2.1, (y62.2.2.1), (y62.2.2.2.1), y62.2.2.2.2.1, y62.2.2.2.2.2, vg, vk)) else (some (0, y62.2.1, (y62.2.2.1), (y62.2.2.2.1), y62.2.2.2.2.1, y62.2.2.2.2.2, vg, vk))) else none)) else (some (0, y60.2.1, (y60.2.2.1), (y60.2.2.2.1), y60.2.2.2.2.1, y60.2.2.2.2.2, vg, vk))) else none)) else (some (0, y58.2.1, (y58.2.2.1), (y58.2.2.2.1), y58.2.2.2.2.1, y58.2.2.2.2.2, vg, vk))) else none)) else (some (0, y56.2.1, (y56.2.2.1), (y56.2.2.2.1), y56.2.2.2.2.1, y56.2.2.2.2.2, vg, vk))) else none)) else (if x6 = 0 then none else (elet (x4 - x4 / x6 * x6) (fun z21 => if (11 : Int32) ≤ x5 then (elet ((x4 / (4 : Int32)) - (x4 / (4 : Int32)) / (2 : Int32) * (2 : Int32)) (fun z23 => elet (((14 : Int32) + ((4 : Int32) * z23)) + z21) (fun z24 => if (20 : Int32) ≤ x5 then (if (23 : Int32) ≤ x5 then (if ((x4 / (8 : Int32)) - (x4 / (8 : Int32)) / (3 : Int32) * (3 : Int32)) ≤ 0 then (fL_acts_696 FU vX nh pv vA vB vg vk z21 z21) else ((fX3_load vX nh pv vA vB (4 : Int32) (0 : Int32)).bind (fun y28 => if y28.2.2.1 ≤ 4 then (if y28.1 = (-1000001 : Int32) then ((fX3_spring y28.2.1 (y28.2.2.1) (y28.2.2.2.1) y28.2.2.2.2.1 y28.2.2.2.2.2 (x6 + (1 : Int32)) (1 : Int32) (1 : Int32)).bind (fun y30 => if y30.2.2.1 ≤ 4 then (if y30.1 = (-1000001 : Int32) then (some (1, y30.2.1, (y30.2.2.1), (y30.2.2.2.1), y30.2.2.2.2.1, y30.2.2.2.2.2, vg, vk)) else (some (0, y30.2.1, (y30.2.2.1), (y30.2.2.2.1), y30.2.2.2.2.1, y30.2.2.2.2.2, vg, vk))) else none)) else (some (0, y28.2.1, (y28.2.2.1), (y28.2.2.2.1), y28.2.2.2.2.1, y28.2.2.2.2.2, vg, vk))) else none))) else (if inB z24 23 = true then (elet (vk (z24).toNatClampNeg) (fun z33 => if inB z24 23 = true then (elet (upd vk (z24).toNatClampNeg (-1)) (fun b35 => (fX3_unstop vX nh pv vA vB z21 z23).bind (fun y36 => if y36.2.2.1 ≤ 4 then (if 0 ≤ z33 then (if y36.1 = z33 then (some (1, y36.2.1, (y36.2.2.1), (y36.2.2.2.1), y36.2.2.2.2.1, y36.2.2.2.2.2, vg, b35)) else (some (0, y36.2.1, (y36.2.2.1), (y36.2.2.2.1), y36.2.2.2.2.1, y36.2.2.2.2.2, vg, b35))) else (if y36.1 = (-1000002 : Int32) then (some (1, y36.2.1, (y36.2.2.1), (y36.2.2.2.1), y36.2.2.2.2.1, y36.2.2.2.2.2, vg, b35)) else (some (0, y36.2.1, (y36.2.2.1), (y36.2.2.2.1), y36.2.2.2.2.1, y36.2.2.2.2.2, vg, b35)))) else none))) else none)) else none)) else (if inB z24 23 = true then (elet (vk (z24).toNatClampNeg) (fun z41 => if ((vg ((0 : Int32)).toNatClampNeg) + (1 : Int32)) = 0 then none else (if inB z24 23 = true then (elet (upd vk (z24).toNatClampNeg ((x4 / (8 : Int32)) - (x4 / (8 : Int32)) / ((vg ((0 : Int32)).toNatClampNeg) + (1 : Int32)) * ((vg ((0 : Int32)).toNatClampNeg) + (1 : Int32)))) (fun b44 => (fL_allowed vg b44).bind (fun y45 => if inB z24 23 = true then (elet (b44 (z24).toNatClampNeg) (fun z47 => if y45 = 0 then (fL_acts_571 vX nh pv vA vB vg b44 z21 z23 z41 y45 z47 z24 z41) else (fL_acts_571 vX nh pv vA vB vg b44 z21 z23 z41 y45 z47 z24 z47))) else none))) else none))) else none)))) else (if inB ((10 : Int32) + z21) 23 = true then (elet (vk (((10 : Int32) + z21)).toNatClampNeg) (fun z50 => if inB ((10 : Int32) + z21) 23 = true then (elet (upd vk (((10 : Int32) + z21)).toNatClampNeg (((x4 / (4 : Int32)) - (x4 / (4 : Int32)) / (199 : Int32) * (199 : Int32)) - (99 : Int32))) (fun b52 => if (x4 - x4 / (3 : Int32) * (3 : Int32)) = 0 then (if inB ((10 : Int32) + z21) 23 = true then (fL_acts_466 vX nh pv vA vB vg b52 z21 z50 ((10 : Int32) + z21) (b52 (((10 : Int32) + z21)).toNatClampNeg)) else none) else (if inB ((10 : Int32) + z21) 23 = true then (fL_acts_466 vX nh pv vA vB vg b52 z21 z50 ((10 : Int32) + z21) ((b52 (((10 : Int32) + z21)).toNatClampNeg) / (5 : Int32))) else none))) else none)) else none)))))) else (if (x6 + (1 : Int32)) = 0 then none else (elet (x4 - x4 / (x6 + (1 : Int32)) * (x6 + (1 : Int32))) (fun z66 => if inB z66 23 = true then (if inB ((5 : Int32) + z66) 23 = true then (elet (((100 : Int32) * (vk (z66).toNatClampNeg)) + (vk (((5 : Int32) + z66)).toNatClampNeg)) (fun z69 => if inB z66 23 = true then (elet (upd vk (z66).toNatClampNeg ((1 : Int32) + ((x4 / (5 : Int32)) - (x4 / (5 : Int32)) / (9 : Int32) * (9 : Int32)))) (fun b71 => if (x4 - x4 / (3 : Int32) * (3 : Int32)) = 0 then (fL_acts_191 vX nh pv vA vB vg b71 z66 z69 ((5 : Int32) + z66) (x4 / (45 : Int32)) (51 : Int32)) else (fL_acts_191 vX nh pv vA vB vg b71 z66 z69 ((5 : Int32) + z66) (x4 / (45 : Int32)) (25 : Int32)))) else none)) else none) else none)))
def fL_acts (vX : BX3) (nh : Nat) (pv : Nat → BX0) (vA : BX0) (vB : BX0) (vg : (Nat → Int32)) (vk : (Nat → Int32)) (i3 : Int32) : Option (Int32 × BX3 × Nat × (Nat → BX0) × BX0 × BX0 × (Nat → Int32) × (Nat → Int32)) :=
  (fL_low (i3 >>> ((5 : Int32) &&& 31)) (10000000 : Int32)).bind (fun y126 => (fL_low i3 (24 : Int32)).bind (fun y127 => elet (vg ((1 : Int32)).toNatClampNeg) (fun z128 => if y127 = 0 then (fL_acts_40 vX nh pv vA vB vg vk z128) else (if z128 = 0 then (if (8 : Int32) ≤ y127 then (fL_acts_123 vX nh pv vA vB vg vk y126 y127 z128) else (fL_acts_40 vX nh pv vA vB vg vk z128)) else (fL_acts_123 vX nh pv vA vB vg vk y126 y127 z128)))))
set_option maxHeartbeats 8000000 in
set_option maxRecDepth 100000 in
theorem mL_acts (l : Launch) (dC : Nat → ClassId) (dI : Nat → Nat → Nat) (cI cJ cL : ClassId) (a aA aB aR aT aS : Nat → Nat) (ad : Nat → Nat → Nat) (ag ak : Nat) (sz : Nat) (vX : BX3) (nh : Nat) (pv : Nat → BX0) (vA vB : BX0) (vg vk : Nat → Int32) (i3 : Int32) (hn : nh ≤ 4) (y : (Int32 × BX3 × Nat × (Nat → BX0) × BX0 × BX0 × (Nat → Int32) × (Nat → Int32))) (hf : fL_acts vX nh pv vA vB vg vk i3 = some y) : Met l yL_acts wsL_acts ({ frames := 6, cells := 20, slots := 112, locals := 145 }) (cPc3 dC dI cI cJ cL [.ref (a 0), .ref ag, .ref ak, .int i3] ([k3_0 a aA aB aR aT aS vX, kPast cL a (pastF nh ad), k0_0 aA vA, k0_1 cI aA vA, k0_2 cI aA vA, k0_3 cI aA vA, k0_4 cI aA vA, k0_0 aB vB, k0_1 cI aB vB, k0_2 cI aB vB, k0_3 cI aB vB, k0_4 cI aB vB, kA1 cI ag 2 vg, kA1 cI ak 23 vk] ++ kPool cI nh ad pv) sz) (va_Qi (fun r (_ : Nat → Nat → Nat) => r = y.1) (fun ad' t => cB dC dI (va_A ([k3_0 a aA aB aR aT aS vX, kPast cL a (pastF nh ad), k0_0 aA vA, k0_1 cI aA vA, k0_2 cI aA vA, k0_3 cI aA vA, k0_4 cI aA vA, k0_0 aB vB, k0_1 cI aB vB, k0_2 cI aB vB, k0_3 cI aB vB, k0_4 cI aB vB, kA1 cI ag 2 vg, kA1 cI ak 23 vk] ++ kPool cI nh ad pv) sz) ([k3_0 a aA aB aR aT aS y.2.1, kPast cL a (pastF (y.2.2.1) ad'), k0_0 aA y.2.2.2.2.1, k0_1 cI aA y.2.2.2.2.1, k0_2 cI aA y.2.2.2.2.1, k0_3 cI aA y.2.2.2.2.1, k0_4 cI aA y.2.2.2.2.1, k0_0 aB y.2.2.2.2.2.1, k0_1 cI aB y.2.2.2.2.2.1, k0_2 cI aB y.2.2.2.2.2.1, k0_3 cI aB y.2.2.2.2.2.1, k0_4 cI aB y.2.2.2.2.2.1, kA1 cI ag 2 y.2.2.2.2.2.2.1, kA1 cI ak 23 y.2.2.2.2.2.2.2] ++ kPool cI (y.2.2.1) ad' (y.2.2.2.1)) t) (va_A ([k3_0 a aA aB aR aT aS vX, kPast cL a (pastF nh ad), k0_0 aA vA, k0_1 cI aA vA, k0_2 cI aA vA, k0_3 cI aA vA, k0_4 cI aA vA, k0_0 aB vB, k0_1 cI aB vB, k0_2 cI aB vB, k0_3 cI aB vB, k0_4 cI aB vB, kA1 cI ag 2 vg, kA1 cI ak 23 vk] ++ kPool cI nh ad pv) sz)) 20 112 (va_A ([k3_0 a aA aB aR aT aS vX, kPast cL a (pastF nh ad), k0_0 aA vA, k0_1 cI aA vA, k0_2 cI aA vA, k0_3 cI aA vA, k0_4 cI aA vA, k0_0 aB vB, k0_1 cI aB vB, k0_2 cI aB vB, k0_3 cI aB vB, k0_4 cI aB vB, kA1 cI ag 2 vg, kA1 cI ak 23 vk] ++ kPool cI nh ad pv) sz) := by
  refine Met.ofW (cc := cL_acts) (maxL := 13) (ret := (some .boolean)) (by decide) rfl ?_
  intro p e s m args below meth c s₁ B hml hv
  obtain ⟨rfl, hsz, hP, hK3, hD0, hN⟩ := hv
  have hK := hK3.sub (tys' := [(cI, .int), (cJ, .long)]) [0, 1] rfl
  have hx := B.exec
  have hb := B.bytes
  have hr := B.returns
  have hts := atoms_spec (ws := wsL_acts) B.pre
  have hown : s.vm.findClass RL = some m.cls := findClass_of_methodNamed B.named
  have hlocks := B.notSynchronized
  subst hsz
  have hD := hD0.self (sz := s.heap.size)
  generalize hAe : va_A ([k3_0 a aA aB aR aT aS vX, kPast cL a (pastF nh ad), k0_0 aA vA, k0_1 cI aA vA, k0_2 cI aA vA, k0_3 cI aA vA, k0_4 cI aA vA, k0_0 aB vB, k0_1 cI aB vB, k0_2 cI aB vB, k0_3 cI aB vB, k0_4 cI aB vB, kA1 cI ag 2 vg, kA1 cI ak 23 vk] ++ kPool cI nh ad pv) s.heap.size = A at hD hN ⊢
  have hA : ∀ q : Nat, s.heap.size ≤ q → A q := fun q h => by rw [← hAe]; exact Or.inr h
  have hP : va_P (dC, dI) vwCl ([k3_0 a aA aB aR aT aS vX, kPast cL a (pastF nh ad), k0_0 aA vA, k0_1 cI aA vA, k0_2 cI aA vA, k0_3 cI aA vA, k0_4 cI aA vA, k0_0 aB vB, k0_1 cI aB vB, k0_2 cI aB vB, k0_3 cI aB vB, k0_4 cI aB vB, kA1 cI ag 2 vg, kA1 cI ak 23 vk] ++ kPool cI nh ad pv) s.heap := hP
  have hl := lv_entry ([.ref (a 0), .ref ag, .ref ak, .int i3]) (n := 13) (Nat.le_of_ble_eq_true rfl)
  rw [lg_entry_eq]
  generalize (lg_sl ([.ref (a 0), .ref ag, .ref ak, .int i3]) ++ List.replicate (13 - (lg_sl ([.ref (a 0), .ref ag, .ref ak, .int i3])).length) Slot.unset).toArray = ls at hl ⊢
  have hl : lv_has ls 13 [(0, .ref (a 0)), (1, .ref ag), (2, .ref ak), (3, .int i3)] := hl
  have hc51 := hts (.constant RL 51 (-1000003)) (by decide +kernel)
  have hc64 := hts (.constant RL 64 (-1000001)) (by decide +kernel)
  have hc60 := hts (.constant RL 60 (-1000002)) (by decide +kernel)
  have hc43 := hts (.constant RL 43 10000000) (by decide +kernel)
  refine nameH (fun H locs hHe hLe => ?_)
  have hP : va_P (dC, dI) vwCl ([k3_0 a aA aB aR aT aS vX, kPast cL a (pastF nh ad), k0_0 aA vA, k0_1 cI aA vA, k0_2 cI aA vA, k0_3 cI aA vA, k0_4 cI aA vA, k0_0 aB vB, k0_1 cI aB vB, k0_2 cI aB vB, k0_3 cI aB vB, k0_4 cI aB vB, kA1 cI ag 2 vg, kA1 cI ak 23 vk] ++ kPool cI nh ad pv) H := by rw [hHe]; exact hP
  have hS : va_S A s.heap H locs := by rw [hHe, hLe]; exact va_S.rf
  refine withW (fun WW hWW => ?_)
  have J40 : ∀ (vX : BX3) (vA : BX0) (vB : BX0) (vg : (Nat → Int32)) (vk : (Nat → Int32)) (x6 : Int32) (H : Heap) (locs : List Loc) (ls : Array Slot), va_P (dC, dI) vwCl ([k3_0 a aA aB aR aT aS vX, kPast cL a (pastF nh ad), k0_0 aA vA, k0_1 cI aA vA, k0_2 cI aA vA, k0_3 cI aA vA, k0_4 cI aA vA, k0_0 aB vB, k0_1 cI aB vB, k0_2 cI aB vB, k0_3 cI aB vB, k0_4 cI aB vB, kA1 cI ag 2 vg, kA1 cI ak 23 vk] ++ kPool cI nh ad pv) H → va_D A ([k3_0 a aA aB aR aT aS vX, kPast cL a (pastF nh ad), k0_0 aA vA, k0_1 cI aA vA, k0_2 cI aA vA, k0_3 cI aA vA, k0_4 cI aA vA, k0_0 aB vB, k0_1 cI aB vB, k0_2 cI aB vB, k0_3 cI aB vB, k0_4 cI aB vB, kA1 cI ag 2 vg, kA1 cI ak 23 vk] ++ kPool cI nh ad pv) → va_S A s.heap H locs → lv_has ls 13 [(0, .ref (a 0)), (1, .ref ag), (2, .ref ak), (6, .int x6)] → fL_acts_40 vX nh pv vA vB vg vk x6 = some y → WW H locs 0 0 ls 40 [] := by
    intro vX vA vB vg vk x6 H locs ls hP hD hS hl hf
    unfold fL_acts_40 at hf
    refine (hWW _ _ _ _ _ _ _).2 ?_
    refine lv_iload hx hb dL_acts_40 (lv_at hl 3 rfl) ?_
    refine lv_iconst (v := 4) hx hb dL_acts_42 (by decide) ?_
    refine lv_icmp_ne (tgt := 61) hx hb dL_acts_43 (by decide) (fun c1 => ?_) (fun c1 => ?_)
    · have hf := oif_f c1 hf
      refine lv_aload_n hx hb dL_acts_61 rfl (lv_at hl 2 rfl) ?_
      refine lv_iload hx hb dL_acts_62 (lv_at hl 3 rfl) ?_
      refine lv_iconst (v := 1) hx hb dL_acts_64 (by decide) ?_
      refine lv_iadd hx hb dL_acts_65 ?_
      refine lv_iconst (v := 1) hx hb dL_acts_66 (by decide) ?_
      obtain ⟨hi2, hf⟩ := oinb rfl hf
      obtain ⟨b3, eb3, hf⟩ := elet_out hf
      refine va_iast hx hb hK hP hD hS 13 0 rfl rfl hi2 dL_acts_67 (fun H locs hP hD hS => ?_)
      have hP : va_P (dC, dI) vwCl ([k3_0 a aA aB aR aT aS vX, kPast cL a (pastF nh ad), k0_0 aA vA, k0_1 cI aA vA, k0_2 cI aA vA, k0_3 cI aA vA, k0_4 cI aA vA, k0_0 aB vB, k0_1 cI aB vB, k0_2 cI aB vB, k0_3 cI aB vB, k0_4 cI aB vB, kA1 cI ag 2 vg, kA1 cI ak 23 b3] ++ kPool cI nh ad pv) H := by rw [eb3]; exact hP
      have hD : va_D A ([k3_0 a aA aB aR aT aS vX, kPast cL a (pastF nh ad), k0_0 aA vA, k0_1 cI aA vA, k0_2 cI aA vA, k0_3 cI aA vA, k0_4 cI aA vA, k0_0 aB vB, k0_1 cI aB vB, k0_2 cI aB vB, k0_3 cI aB vB, k0_4 cI aB vB, kA1 cI ag 2 vg, kA1 cI ak 23 b3] ++ kPool cI nh ad pv) := by rw [eb3]; exact hD
      refine lv_aload_n hx hb dL_acts_68 rfl (lv_at hl 2 rfl) ?_
      refine lv_bipush (v := 6) hx hb dL_acts_69 (by decide) ?_
      refine lv_iload hx hb dL_acts_71 (lv_at hl 3 rfl) ?_
      refine lv_iadd hx hb dL_acts_73 ?_
      refine lv_bipush (v := 10) hx hb dL_acts_74 (by decide) ?_
      obtain ⟨hi4, hf⟩ := oinb rfl hf
      obtain ⟨b5, eb5, hf⟩ := elet_out hf
      refine va_iast hx hb hK hP hD hS 13 0 rfl rfl hi4 dL_acts_76 (fun H locs hP hD hS => ?_)
      have hP : va_P (dC, dI) vwCl ([k3_0 a aA aB aR aT aS vX, kPast cL a (pastF nh ad), k0_0 aA vA, k0_1 cI aA vA, k0_2 cI aA vA, k0_3 cI aA vA, k0_4 cI aA vA, k0_0 aB vB, k0_1 cI aB vB, k0_2 cI aB vB, k0_3 cI aB vB, k0_4 cI aB vB, kA1 cI ag 2 vg, kA1 cI ak 23 b5] ++ kPool cI nh ad pv) H := by rw [eb5]; exact hP
      have hD : va_D A ([k3_0 a aA aB aR aT aS vX, kPast cL a (pastF nh ad), k0_0 aA vA, k0_1 cI aA vA, k0_2 cI aA vA, k0_3 cI aA vA, k0_4 cI aA vA, k0_0 aB vB, k0_1 cI aB vB, k0_2 cI aB vB, k0_3 cI aB vB, k0_4 cI aB vB, kA1 cI ag 2 vg, kA1 cI ak 23 b5] ++ kPool cI nh ad pv) := by rw [eb5]; exact hD
      refine lv_aload_n hx hb dL_acts_77 rfl (lv_at hl 2 rfl) ?_
      refine lv_bipush (v := 10) hx hb dL_acts_78 (by decide) ?_
      refine lv_iload hx hb dL_acts_80 (lv_at hl 3 rfl) ?_
      refine lv_iadd hx hb dL_acts_82 ?_
      refine lv_iconst (v := 0) hx hb dL_acts_83 (by decide) ?_
      obtain ⟨hi6, hf⟩ := oinb rfl hf
      obtain ⟨b7, eb7, hf⟩ := elet_out hf
      refine va_iast hx hb hK hP hD hS 13 0 rfl rfl hi6 dL_acts_84 (fun H locs hP hD hS => ?_)
      have hP : va_P (dC, dI) vwCl ([k3_0 a aA aB aR aT aS vX, kPast cL a (pastF nh ad), k0_0 aA vA, k0_1 cI aA vA, k0_2 cI aA vA, k0_3 cI aA vA, k0_4 cI aA vA, k0_0 aB vB, k0_1 cI aB vB, k0_2 cI aB vB, k0_3 cI aB vB, k0_4 cI aB vB, kA1 cI ag 2 vg, kA1 cI ak 23 b7] ++ kPool cI nh ad pv) H := by rw [eb7]; exact hP
      have hD : va_D A ([k3_0 a aA aB aR aT aS vX, kPast cL a (pastF nh ad), k0_0 aA vA, k0_1 cI aA vA, k0_2 cI aA vA, k0_3 cI aA vA, k0_4 cI aA vA, k0_0 aB vB, k0_1 cI aB vB, k0_2 cI aB vB, k0_3 cI aB vB, k0_4 cI aB vB, kA1 cI ag 2 vg, kA1 cI ak 23 b7] ++ kPool cI nh ad pv) := by rw [eb7]; exact hD
      refine lv_aload_n hx hb dL_acts_85 rfl (lv_at hl 2 rfl) ?_
      refine lv_bipush (v := 14) hx hb dL_acts_86 (by decide) ?_
      refine lv_iload hx hb dL_acts_88 (lv_at hl 3 rfl) ?_
      refine lv_iadd hx hb dL_acts_90 ?_
      refine lv_iconst (v := (-1)) hx hb dL_acts_91 (by decide) ?_
      obtain ⟨hi8, hf⟩ := oinb rfl hf
      obtain ⟨b9, eb9, hf⟩ := elet_out hf
      refine va_iast hx hb hK hP hD hS 13 0 rfl rfl hi8 dL_acts_92 (fun H locs hP hD hS => ?_)
      have hP : va_P (dC, dI) vwCl ([k3_0 a aA aB aR aT aS vX, kPast cL a (pastF nh ad), k0_0 aA vA, k0_1 cI aA vA, k0_2 cI aA vA, k0_3 cI aA vA, k0_4 cI aA vA, k0_0 aB vB, k0_1 cI aB vB, k0_2 cI aB vB, k0_3 cI aB vB, k0_4 cI aB vB, kA1 cI ag 2 vg, kA1 cI ak 23 b9] ++ kPool cI nh ad pv) H := by rw [eb9]; exact hP
      have hD : va_D A ([k3_0 a aA aB aR aT aS vX, kPast cL a (pastF nh ad), k0_0 aA vA, k0_1 cI aA vA, k0_2 cI aA vA, k0_3 cI aA vA, k0_4 cI aA vA, k0_0 aB vB, k0_1 cI aB vB, k0_2 cI aB vB, k0_3 cI aB vB, k0_4 cI aB vB, kA1 cI ag 2 vg, kA1 cI ak 23 b9] ++ kPool cI nh ad pv) := by rw [eb9]; exact hD
      refine lv_aload_n hx hb dL_acts_93 rfl (lv_at hl 2 rfl) ?_
      refine lv_bipush (v := 18) hx hb dL_acts_94 (by decide) ?_
      refine lv_iload hx hb dL_acts_96 (lv_at hl 3 rfl) ?_
      refine lv_iadd hx hb dL_acts_98 ?_
      refine lv_iconst (v := (-1)) hx hb dL_acts_99 (by decide) ?_
      obtain ⟨hi10, hf⟩ := oinb rfl hf
      obtain ⟨b11, eb11, hf⟩ := elet_out hf
      refine va_iast hx hb hK hP hD hS 13 0 rfl rfl hi10 dL_acts_100 (fun H locs hP hD hS => ?_)
      have hP : va_P (dC, dI) vwCl ([k3_0 a aA aB aR aT aS vX, kPast cL a (pastF nh ad), k0_0 aA vA, k0_1 cI aA vA, k0_2 cI aA vA, k0_3 cI aA vA, k0_4 cI aA vA, k0_0 aB vB, k0_1 cI aB vB, k0_2 cI aB vB, k0_3 cI aB vB, k0_4 cI aB vB, kA1 cI ag 2 vg, kA1 cI ak 23 b11] ++ kPool cI nh ad pv) H := by rw [eb11]; exact hP
      have hD : va_D A ([k3_0 a aA aB aR aT aS vX, kPast cL a (pastF nh ad), k0_0 aA vA, k0_1 cI aA vA, k0_2 cI aA vA, k0_3 cI aA vA, k0_4 cI aA vA, k0_0 aB vB, k0_1 cI aB vB, k0_2 cI aB vB, k0_3 cI aB vB, k0_4 cI aB vB, kA1 cI ag 2 vg, kA1 cI ak 23 b11] ++ kPool cI nh ad pv) := by rw [eb11]; exact hD
      refine lv_aload_n hx hb dL_acts_101 rfl (lv_at hl 1 rfl) ?_
      refine lv_iconst (v := 1) hx hb dL_acts_102 (by decide) ?_
      refine lv_dup2_11 hx hb dL_acts_103 rfl rfl ?_
      refine va_iald hx hb hK hP 12 0 rfl rfl (vpc rfl) dL_acts_104 ?_
      refine lv_iconst (v := 1) hx hb dL_acts_105 (by decide) ?_
      refine lv_iadd hx hb dL_acts_106 ?_
      obtain ⟨b12, eb12, hf⟩ := elet_out hf
      refine va_iast hx hb hK hP hD hS 12 0 rfl rfl (vpc rfl) dL_acts_107 (fun H locs hP hD hS => ?_)
      have hP : va_P (dC, dI) vwCl ([k3_0 a aA aB aR aT aS vX, kPast cL a (pastF nh ad), k0_0 aA vA, k0_1 cI aA vA, k0_2 cI aA vA, k0_3 cI aA vA, k0_4 cI aA vA, k0_0 aB vB, k0_1 cI aB vB, k0_2 cI aB vB, k0_3 cI aB vB, k0_4 cI aB vB, kA1 cI ag 2 b12, kA1 cI ak 23 b11] ++ kPool cI nh ad pv) H := by rw [eb12]; exact hP
      have hD : va_D A ([k3_0 a aA aB aR aT aS vX, kPast cL a (pastF nh ad), k0_0 aA vA, k0_1 cI aA vA, k0_2 cI aA vA, k0_3 cI aA vA, k0_4 cI aA vA, k0_0 aB vB, k0_1 cI aB vB, k0_2 cI aB vB, k0_3 cI aB vB, k0_4 cI aB vB, kA1 cI ag 2 b12, kA1 cI ak 23 b11] ++ kPool cI nh ad pv) := by rw [eb12]; exact hD
      refine lv_aload_n hx hb dL_acts_108 rfl (lv_at hl 0 rfl) ?_
      obtain ⟨y13, hy13, hf⟩ := obind hf
      obtain ⟨hny13, hf⟩ := ogd hf
      refine cgC_i (S := Nat → Nat → Nat) (ws := [k3_0 a aA aB aR aT aS vX, kPast cL a (pastF nh ad), k0_0 aA vA, k0_1 cI aA vA, k0_2 cI aA vA, k0_3 cI aA vA, k0_4 cI aA vA, k0_0 aB vB, k0_1 cI aB vB, k0_2 cI aB vB, k0_3 cI aB vB, k0_4 cI aB vB, kA1 cI ag 2 b12, kA1 cI ak 23 b11]) (pool := (kPool cI nh ad pv)) (wc := [k3_0 a aA aB aR aT aS vX, kPast cL a (pastF nh ad), k0_0 aA vA, k0_1 cI aA vA, k0_2 cI aA vA, k0_3 cI aA vA, k0_4 cI aA vA, k0_0 aB vB, k0_1 cI aB vB, k0_2 cI aB vB, k0_3 cI aB vB, k0_4 cI aB vB]) (wr := [kA1 cI ag 2 b12, kA1 cI ak 23 b11]) (w1 := fun u9 => [k3_0 a aA aB aR aT aS y13.2.1, kPast cL a (pastF (y13.2.2.1) u9), k0_0 aA y13.2.2.2.2.1, k0_1 cI aA y13.2.2.2.2.1, k0_2 cI aA y13.2.2.2.2.1, k0_3 cI aA y13.2.2.2.2.1, k0_4 cI aA y13.2.2.2.2.1, k0_0 aB y13.2.2.2.2.2, k0_1 cI aB y13.2.2.2.2.2, k0_2 cI aB y13.2.2.2.2.2, k0_3 cI aB y13.2.2.2.2.2, k0_4 cI aB y13.2.2.2.2.2]) (pool1 := fun u9 => kPool cI (y13.2.2.1) u9 (y13.2.2.2.1)) (wo := fun u9 => [k3_0 a aA aB aR aT aS y13.2.1, kPast cL a (pastF (y13.2.2.1) u9), k0_0 aA y13.2.2.2.2.1, k0_1 cI aA y13.2.2.2.2.1, k0_2 cI aA y13.2.2.2.2.1, k0_3 cI aA y13.2.2.2.2.1, k0_4 cI aA y13.2.2.2.2.1, k0_0 aB y13.2.2.2.2.2, k0_1 cI aB y13.2.2.2.2.2, k0_2 cI aB y13.2.2.2.2.2, k0_3 cI aB y13.2.2.2.2.2, k0_4 cI aB y13.2.2.2.2.2, kA1 cI ag 2 b12, kA1 cI ak 23 b11]) hP hD hS hA (va_runV (As := []) (rest := []) ⟨hx, hb, hml, hown, hts⟩ (mX3_plate l dC dI cI cJ cL a aA aB aR aT aS ad H.size vX nh pv vA vB  hn y13 hy13) (cwV 0 hts gL_acts_X3_plate rfl rfl rfl (by decide +kernel) ⟨Nat.le_of_ble_eq_true rfl, Nat.le_of_ble_eq_true rfl⟩) ⟨cFB3, va_recv hK3 hP (ci := 3) (q0 := 0) rfl rfl, cPre3 hK3 hN hS (free_tail (wc := [k3_0 a aA aB aR aT aS vX, kPast cL a (pastF nh ad), k0_0 aA vA, k0_1 cI aA vA, k0_2 cI aA vA, k0_3 cI aA vA, k0_4 cI aA vA, k0_0 aB vB, k0_1 cI aB vB, k0_2 cI aB vB, k0_3 cI aB vB, k0_4 cI aB vB]) hD hS hA [0, 1, 2, 3, 4, 5, 6, 7, 8, 9, 10, 11] rfl) (subP_tail hP [0, 1, 2, 3, 4, 5, 6, 7, 8, 9, 10, 11] rfl) (subD_tail hD [0, 1, 2, 3, 4, 5, 6, 7, 8, 9, 10, 11] rfl rfl)⟩ rfl rfl hl.1 rfl (lv_room (Nat.le_of_ble_eq_true rfl)) dL_acts_109 ⟨Nat.le_of_ble_eq_true rfl, Nat.le_of_ble_eq_true rfl⟩) [0, 1, 2, 3, 4, 5, 6, 7, 8, 9, 10, 11] [12, 13] [2, 3, 4, 5, 6, 7, 8, 9, 10, 11, 12, 13, 0, 1] rfl rfl rfl (by decide +kernel) rfl (fun u9 => rfl) (fun uy13 H locs hP hD hS => ?_)
      refine W.widen (k := 5) (n := 28) (Nat.le_of_ble_eq_true rfl) (Nat.le_of_ble_eq_true rfl) ?_
      refine lv_iload hx hb dL_acts_112 (lv_at hl 3 rfl) ?_
      refine lv_icmp_ne (tgt := 121) hx hb dL_acts_114 (by decide) (fun c14 => ?_) (fun c14 => ?_)
      · have hf := oif_f c14 hf
        refine lv_iconst (v := 0) hx hb dL_acts_121 (by decide) ?_
        obtain rfl := Option.some.inj hf
        refine W.widen (k := 20) (n := 112) (Nat.le_of_ble_eq_true rfl) (Nat.le_of_ble_eq_true rfl) ?_
        exact W.zret (v := 0) hx hb hr rfl (fun t ht hW => ⟨⟨0, uy13, rfl, rfl, by rw [ht]; exact hP, hD⟩, hS.F ht⟩) hS.2.2 dL_acts_122
      · have hf := oif_t c14 hf
        refine lv_iconst (v := 1) hx hb dL_acts_117 (by decide) ?_
        refine lv_goto (tgt := 122) hx hb dL_acts_118 (by decide) ?_
        obtain rfl := Option.some.inj hf
        refine W.widen (k := 20) (n := 112) (Nat.le_of_ble_eq_true rfl) (Nat.le_of_ble_eq_true rfl) ?_
        exact W.zret (v := 1) hx hb hr rfl (fun t ht hW => ⟨⟨1, uy13, rfl, rfl, by rw [ht]; exact hP, hD⟩, hS.F ht⟩) hS.2.2 dL_acts_122
    · have hf := oif_t c1 hf
      refine lv_aload_n hx hb dL_acts_46 rfl (lv_at hl 0 rfl) ?_
      obtain ⟨y15, hy15, hf⟩ := obind hf
      obtain ⟨hny15, hf⟩ := ogd hf
      refine cgC_i (S := Nat → Nat → Nat) (ws := [k3_0 a aA aB aR aT aS vX, kPast cL a (pastF nh ad), k0_0 aA vA, k0_1 cI aA vA, k0_2 cI aA vA, k0_3 cI aA vA, k0_4 cI aA vA, k0_0 aB vB, k0_1 cI aB vB, k0_2 cI aB vB, k0_3 cI aB vB, k0_4 cI aB vB, kA1 cI ag 2 vg, kA1 cI ak 23 vk]) (pool := (kPool cI nh ad pv)) (wc := [k3_0 a aA aB aR aT aS vX, kPast cL a (pastF nh ad), k0_0 aA vA, k0_1 cI aA vA, k0_2 cI aA vA, k0_3 cI aA vA, k0_4 cI aA vA, k0_0 aB vB, k0_1 cI aB vB, k0_2 cI aB vB, k0_3 cI aB vB, k0_4 cI aB vB]) (wr := [kA1 cI ag 2 vg, kA1 cI ak 23 vk]) (w1 := fun u9 => [k3_0 a aA aB aR aT aS y15.2.1, kPast cL a (pastF (y15.2.2.1) u9), k0_0 aA y15.2.2.2.2.1, k0_1 cI aA y15.2.2.2.2.1, k0_2 cI aA y15.2.2.2.2.1, k0_3 cI aA y15.2.2.2.2.1, k0_4 cI aA y15.2.2.2.2.1, k0_0 aB y15.2.2.2.2.2, k0_1 cI aB y15.2.2.2.2.2, k0_2 cI aB y15.2.2.2.2.2, k0_3 cI aB y15.2.2.2.2.2, k0_4 cI aB y15.2.2.2.2.2]) (pool1 := fun u9 => kPool cI (y15.2.2.1) u9 (y15.2.2.2.1)) (wo := fun u9 => [k3_0 a aA aB aR aT aS y15.2.1, kPast cL a (pastF (y15.2.2.1) u9), k0_0 aA y15.2.2.2.2.1, k0_1 cI aA y15.2.2.2.2.1, k0_2 cI aA y15.2.2.2.2.1, k0_3 cI aA y15.2.2.2.2.1, k0_4 cI aA y15.2.2.2.2.1, k0_0 aB y15.2.2.2.2.2, k0_1 cI aB y15.2.2.2.2.2, k0_2 cI aB y15.2.2.2.2.2, k0_3 cI aB y15.2.2.2.2.2, k0_4 cI aB y15.2.2.2.2.2, kA1 cI ag 2 vg, kA1 cI ak 23 vk]) hP hD hS hA (va_runV (As := []) (rest := []) ⟨hx, hb, hml, hown, hts⟩ (mX3_plate l dC dI cI cJ cL a aA aB aR aT aS ad H.size vX nh pv vA vB  hn y15 hy15) (cwV 0 hts gL_acts_X3_plate rfl rfl rfl (by decide +kernel) ⟨Nat.le_of_ble_eq_true rfl, Nat.le_of_ble_eq_true rfl⟩) ⟨cFB3, va_recv hK3 hP (ci := 3) (q0 := 0) rfl rfl, cPre3 hK3 hN hS (free_tail (wc := [k3_0 a aA aB aR aT aS vX, kPast cL a (pastF nh ad), k0_0 aA vA, k0_1 cI aA vA, k0_2 cI aA vA, k0_3 cI aA vA, k0_4 cI aA vA, k0_0 aB vB, k0_1 cI aB vB, k0_2 cI aB vB, k0_3 cI aB vB, k0_4 cI aB vB]) hD hS hA [0, 1, 2, 3, 4, 5, 6, 7, 8, 9, 10, 11] rfl) (subP_tail hP [0, 1, 2, 3, 4, 5, 6, 7, 8, 9, 10, 11] rfl) (subD_tail hD [0, 1, 2, 3, 4, 5, 6, 7, 8, 9, 10, 11] rfl rfl)⟩ rfl rfl hl.1 rfl (lv_room (Nat.le_of_ble_eq_true rfl)) dL_acts_47 ⟨Nat.le_of_ble_eq_true rfl, Nat.le_of_ble_eq_true rfl⟩) [0, 1, 2, 3, 4, 5, 6, 7, 8, 9, 10, 11] [12, 13] [2, 3, 4, 5, 6, 7, 8, 9, 10, 11, 12, 13, 0, 1] rfl rfl rfl (by decide +kernel) rfl (fun u9 => rfl) (fun uy15 H locs hP hD hS => ?_)
      refine W.widen (k := 5) (n := 28) (Nat.le_of_ble_eq_true rfl) (Nat.le_of_ble_eq_true rfl) ?_
      refine lv_ldc (v := (-1000003)) hx hb hown hc51 dL_acts_50 ?_
      refine lv_icmp_ne (tgt := 59) hx hb dL_acts_52 (by decide) (fun c16 => ?_) (fun c16 => ?_)
      · have hf := oif_f c16 hf
        refine lv_iconst (v := 0) hx hb dL_acts_59 (by decide) ?_
        obtain rfl := Option.some.inj hf
        refine W.widen (k := 20) (n := 112) (Nat.le_of_ble_eq_true rfl) (Nat.le_of_ble_eq_true rfl) ?_
        exact W.zret (v := 0) hx hb hr rfl (fun t ht hW => ⟨⟨0, uy15, rfl, rfl, by rw [ht]; exact hP, hD⟩, hS.F ht⟩) hS.2.2 dL_acts_60
      · have hf := oif_t c16 hf
        refine lv_iconst (v := 1) hx hb dL_acts_55 (by decide) ?_
        refine lv_goto (tgt := 60) hx hb dL_acts_56 (by decide) ?_
        obtain rfl := Option.some.inj hf
        refine W.widen (k := 20) (n := 112) (Nat.le_of_ble_eq_true rfl) (Nat.le_of_ble_eq_true rfl) ?_
        exact W.zret (v := 1) hx hb hr rfl (fun t ht hW => ⟨⟨1, uy15, rfl, rfl, by rw [ht]; exact hP, hD⟩, hS.F ht⟩) hS.2.2 dL_acts_60
  have J191 : ∀ (vX : BX3) (vA : BX0) (vB : BX0) (vg : (Nat → Int32)) (vk : (Nat → Int32)) (x7 : Int32) (x8 : Int32) (st1 : Int32) (st2 : Int32) (st3 : Int32) (H : Heap) (locs : List Loc) (ls : Array Slot), va_P (dC, dI) vwCl ([k3_0 a aA aB aR aT aS vX, kPast cL a (pastF nh ad), k0_0 aA vA, k0_1 cI aA vA, k0_2 cI aA vA, k0_3 cI aA vA, k0_4 cI aA vA, k0_0 aB vB, k0_1 cI aB vB, k0_2 cI aB vB, k0_3 cI aB vB, k0_4 cI aB vB, kA1 cI ag 2 vg, kA1 cI ak 23 vk] ++ kPool cI nh ad pv) H → va_D A ([k3_0 a aA aB aR aT aS vX, kPast cL a (pastF nh ad), k0_0 aA vA, k0_1 cI aA vA, k0_2 cI aA vA, k0_3 cI aA vA, k0_4 cI aA vA, k0_0 aB vB, k0_1 cI aB vB, k0_2 cI aB vB, k0_3 cI aB vB, k0_4 cI aB vB, kA1 cI ag 2 vg, kA1 cI ak 23 vk] ++ kPool cI nh ad pv) → va_S A s.heap H locs → lv_has ls 13 [(0, .ref (a 0)), (2, .ref ak), (7, .int x7), (8, .int x8)] → fL_acts_191 vX nh pv vA vB vg vk x7 x8 st1 st2 st3 = some y → WW H locs 0 0 ls 191 [.int st3, .int st2, .int st1, .ref ak] := by
    intro vX vA vB vg vk x7 x8 st1 st2 st3 H locs ls hP hD hS hl hf
    unfold fL_acts_191 at hf
    refine (hWW _ _ _ _ _ _ _).2 ?_
    obtain ⟨hd73, hf⟩ := odiv hf
    refine lv_irem hx hb dL_acts_191 hd73 ?_
    obtain ⟨hi74, hf⟩ := oinb rfl hf
    obtain ⟨b75, eb75, hf⟩ := elet_out hf
    refine va_iast hx hb hK hP hD hS 13 0 rfl rfl hi74 dL_acts_192 (fun H locs hP hD hS => ?_)
    have hP : va_P (dC, dI) vwCl ([k3_0 a aA aB aR aT aS vX, kPast cL a (pastF nh ad), k0_0 aA vA, k0_1 cI aA vA, k0_2 cI aA vA, k0_3 cI aA vA, k0_4 cI aA vA, k0_0 aB vB, k0_1 cI aB vB, k0_2 cI aB vB, k0_3 cI aB vB, k0_4 cI aB vB, kA1 cI ag 2 vg, kA1 cI ak 23 b75] ++ kPool cI nh ad pv) H := by rw [eb75]; exact hP
    have hD : va_D A ([k3_0 a aA aB aR aT aS vX, kPast cL a (pastF nh ad), k0_0 aA vA, k0_1 cI aA vA, k0_2 cI aA vA, k0_3 cI aA vA, k0_4 cI aA vA, k0_0 aB vB, k0_1 cI aB vB, k0_2 cI aB vB, k0_3 cI aB vB, k0_4 cI aB vB, kA1 cI ag 2 vg, kA1 cI ak 23 b75] ++ kPool cI nh ad pv) := by rw [eb75]; exact hD
    refine lv_aload_n hx hb dL_acts_193 rfl (lv_at hl 0 rfl) ?_
    refine lv_iload hx hb dL_acts_194 (lv_at hl 2 rfl) ?_
    refine lv_aload_n hx hb dL_acts_196 rfl (lv_at hl 1 rfl) ?_
    refine lv_iload hx hb dL_acts_197 (lv_at hl 2 rfl) ?_
    obtain ⟨hi76, hf⟩ := oinb rfl hf
    refine va_iald hx hb hK hP 13 0 rfl rfl hi76 dL_acts_199 ?_
    refine lv_aload_n hx hb dL_acts_200 rfl (lv_at hl 1 rfl) ?_
    refine lv_iconst (v := 5) hx hb dL_acts_201 (by decide) ?_
    refine lv_iload hx hb dL_acts_202 (lv_at hl 2 rfl) ?_
    refine lv_iadd hx hb dL_acts_204 ?_
    obtain ⟨hi77, hf⟩ := oinb rfl hf
    refine va_iald hx hb hK hP 13 0 rfl rfl hi77 dL_acts_205 ?_
    obtain ⟨y78, hy78, hf⟩ := obind hf
    obtain ⟨hny78, hf⟩ := ogd hf
    refine cgC_i (S := Nat → Nat → Nat) (ws := [k3_0 a aA aB aR aT aS vX, kPast cL a (pastF nh ad), k0_0 aA vA, k0_1 cI aA vA, k0_2 cI aA vA, k0_3 cI aA vA, k0_4 cI aA vA, k0_0 aB vB, k0_1 cI aB vB, k0_2 cI aB vB, k0_3 cI aB vB, k0_4 cI aB vB, kA1 cI ag 2 vg, kA1 cI ak 23 b75]) (pool := (kPool cI nh ad pv)) (wc := [k3_0 a aA aB aR aT aS vX, kPast cL a (pastF nh ad), k0_0 aA vA, k0_1 cI aA vA, k0_2 cI aA vA, k0_3 cI aA vA, k0_4 cI aA vA, k0_0 aB vB, k0_1 cI aB vB, k0_2 cI aB vB, k0_3 cI aB vB, k0_4 cI aB vB]) (wr := [kA1 cI ag 2 vg, kA1 cI ak 23 b75]) (w1 := fun u9 => [k3_0 a aA aB aR aT aS y78.2.1, kPast cL a (pastF (y78.2.2.1) u9), k0_0 aA y78.2.2.2.2.1, k0_1 cI aA y78.2.2.2.2.1, k0_2 cI aA y78.2.2.2.2.1, k0_3 cI aA y78.2.2.2.2.1, k0_4 cI aA y78.2.2.2.2.1, k0_0 aB y78.2.2.2.2.2, k0_1 cI aB y78.2.2.2.2.2, k0_2 cI aB y78.2.2.2.2.2, k0_3 cI aB y78.2.2.2.2.2, k0_4 cI aB y78.2.2.2.2.2]) (pool1 := fun u9 => kPool cI (y78.2.2.1) u9 (y78.2.2.2.1)) (wo := fun u9 => [k3_0 a aA aB aR aT aS y78.2.1, kPast cL a (pastF (y78.2.2.1) u9), k0_0 aA y78.2.2.2.2.1, k0_1 cI aA y78.2.2.2.2.1, k0_2 cI aA y78.2.2.2.2.1, k0_3 cI aA y78.2.2.2.2.1, k0_4 cI aA y78.2.2.2.2.1, k0_0 aB y78.2.2.2.2.2, k0_1 cI aB y78.2.2.2.2.2, k0_2 cI aB y78.2.2.2.2.2, k0_3 cI aB y78.2.2.2.2.2, k0_4 cI aB y78.2.2.2.2.2, kA1 cI ag 2 vg, kA1 cI ak 23 b75]) hP hD hS hA (va_runV (As := [.int x7, .int (b75 (x7).toNatClampNeg), .int (b75 (((5 : Int32) + x7)).toNatClampNeg)]) (rest := []) ⟨hx, hb, hml, hown, hts⟩ (mX3_spring l dC dI cI cJ cL a aA aB aR aT aS ad H.size vX nh pv vA vB x7 (b75 (x7).toNatClampNeg) (b75 (((5 : Int32) + x7)).toNatClampNeg) hn y78 hy78) (cwV 3 hts gL_acts_X3_spring rfl rfl rfl (by decide +kernel) ⟨Nat.le_of_ble_eq_true rfl, Nat.le_of_ble_eq_true rfl⟩) ⟨cFB3, va_recv hK3 hP (ci := 3) (q0 := 0) rfl rfl, cPre3 hK3 hN hS (free_tail (wc := [k3_0 a aA aB aR aT aS vX, kPast cL a (pastF nh ad), k0_0 aA vA, k0_1 cI aA vA, k0_2 cI aA vA, k0_3 cI aA vA, k0_4 cI aA vA, k0_0 aB vB, k0_1 cI aB vB, k0_2 cI aB vB, k0_3 cI aB vB, k0_4 cI aB vB]) hD hS hA [0, 1, 2, 3, 4, 5, 6, 7, 8, 9, 10, 11] rfl) (subP_tail hP [0, 1, 2, 3, 4, 5, 6, 7, 8, 9, 10, 11] rfl) (subD_tail hD [0, 1, 2, 3, 4, 5, 6, 7, 8, 9, 10, 11] rfl rfl)⟩ rfl rfl hl.1 rfl (lv_room (Nat.le_of_ble_eq_true rfl)) dL_acts_206 ⟨Nat.le_of_ble_eq_true rfl, Nat.le_of_ble_eq_true rfl⟩) [0, 1, 2, 3, 4, 5, 6, 7, 8, 9, 10, 11] [12, 13] [2, 3, 4, 5, 6, 7, 8, 9, 10, 11, 12, 13, 0, 1] rfl rfl rfl (by decide +kernel) rfl (fun u9 => rfl) (fun uy78 H locs hP hD hS => ?_)
    refine W.widen (k := 5) (n := 28) (Nat.le_of_ble_eq_true rfl) (Nat.le_of_ble_eq_true rfl) ?_
    refine lv_iload hx hb dL_acts_209 (lv_at hl 3 rfl) ?_
    refine lv_icmp_ne (tgt := 218) hx hb dL_acts_211 (by decide) (fun c79 => ?_) (fun c79 => ?_)
    · have hf := oif_f c79 hf
      refine lv_iconst (v := 0) hx hb dL_acts_218 (by decide) ?_
      obtain rfl := Option.some.inj hf
      refine W.widen (k := 20) (n := 112) (Nat.le_of_ble_eq_true rfl) (Nat.le_of_ble_eq_true rfl) ?_
      exact W.zret (v := 0) hx hb hr rfl (fun t ht hW => ⟨⟨0, uy78, rfl, rfl, by rw [ht]; exact hP, hD⟩, hS.F ht⟩) hS.2.2 dL_acts_219
    · have hf := oif_t c79 hf
      refine lv_iconst (v := 1) hx hb dL_acts_214 (by decide) ?_
      refine lv_goto (tgt := 219) hx hb dL_acts_215 (by decide) ?_
      obtain rfl := Option.some.inj hf
      refine W.widen (k := 20) (n := 112) (Nat.le_of_ble_eq_true rfl) (Nat.le_of_ble_eq_true rfl) ?_
      exact W.zret (v := 1) hx hb hr rfl (fun t ht hW => ⟨⟨1, uy78, rfl, rfl, by rw [ht]; exact hP, hD⟩, hS.F ht⟩) hS.2.2 dL_acts_219
  have J283 : ∀ (k242 : BX3 → Nat → (Nat → BX0) → BX0 → BX0 → (Nat → Int32) → (Nat → Int32) → Int32 → Int32 → Int32 → Int32 → Option (Int32 × BX3 × Nat × (Nat → BX0) × BX0 × BX0 × (Nat → Int32) × (Nat → Int32))) (hk242 : ∀ (vX : BX3) (vA : BX0) (vB : BX0) (vg : (Nat → Int32)) (vk : (Nat → Int32)) (x6 : Int32) (x7 : Int32) (x8 : Int32) (x9 : Int32) (H : Heap) (locs : List Loc) (ls : Array Slot), va_P (dC, dI) vwCl ([k3_0 a aA aB aR aT aS vX, kPast cL a (pastF nh ad), k0_0 aA vA, k0_1 cI aA vA, k0_2 cI aA vA, k0_3 cI aA vA, k0_4 cI aA vA, k0_0 aB vB, k0_1 cI aB vB, k0_2 cI aB vB, k0_3 cI aB vB, k0_4 cI aB vB, kA1 cI ag 2 vg, kA1 cI ak 23 vk] ++ kPool cI nh ad pv) H → va_D A ([k3_0 a aA aB aR aT aS vX, kPast cL a (pastF nh ad), k0_0 aA vA, k0_1 cI aA vA, k0_2 cI aA vA, k0_3 cI aA vA, k0_4 cI aA vA, k0_0 aB vB, k0_1 cI aB vB, k0_2 cI aB vB, k0_3 cI aB vB, k0_4 cI aB vB, kA1 cI ag 2 vg, kA1 cI ak 23 vk] ++ kPool cI nh ad pv) → va_S A s.heap H locs → lv_has ls 13 [(0, .ref (a 0)), (1, .ref ag), (2, .ref ak), (6, .int x6), (7, .int x7), (8, .int x8), (9, .int x9)] → k242 vX nh pv vA vB vg vk x6 x7 x8 x9 = some y → WW H locs 0 0 ls 242 []) (vX : BX3) (vA : BX0) (vB : BX0) (vg : (Nat → Int32)) (vk : (Nat → Int32)) (x6 : Int32) (x7 : Int32) (x9 : Int32) (st0 : Int32) (H : Heap) (locs : List Loc) (ls : Array Slot), va_P (dC, dI) vwCl ([k3_0 a aA aB aR aT aS vX, kPast cL a (pastF nh ad), k0_0 aA vA, k0_1 cI aA vA, k0_2 cI aA vA, k0_3 cI aA vA, k0_4 cI aA vA, k0_0 aB vB, k0_1 cI aB vB, k0_2 cI aB vB, k0_3 cI aB vB, k0_4 cI aB vB, kA1 cI ag 2 vg, kA1 cI ak 23 vk] ++ kPool cI nh ad pv) H → va_D A ([k3_0 a aA aB aR aT aS vX, kPast cL a (pastF nh ad), k0_0 aA vA, k0_1 cI aA vA, k0_2 cI aA vA, k0_3 cI aA vA, k0_4 cI aA vA, k0_0 aB vB, k0_1 cI aB vB, k0_2 cI aB vB, k0_3 cI aB vB, k0_4 cI aB vB, kA1 cI ag 2 vg, kA1 cI ak 23 vk] ++ kPool cI nh ad pv) → va_S A s.heap H locs → lv_has ls 13 [(0, .ref (a 0)), (1, .ref ag), (2, .ref ak), (6, .int x6), (7, .int x7), (9, .int x9)] → fL_acts_283 k242 vX nh pv vA vB vg vk x6 x7 x9 st0 = some y → WW H locs 0 0 ls 283 [.int st0] := by
    intro k242 hk242 vX vA vB vg vk x6 x7 x9 st0 H locs ls hP hD hS hl hf
    unfold fL_acts_283 at hf
    refine (hWW _ _ _ _ _ _ _).2 ?_
    refine lv_istore (lv' := [(8, .int st0), (0, .ref (a 0)), (1, .ref ag), (2, .ref ak), (6, .int x6), (7, .int x7), (9, .int x9)]) hx hb dL_acts_283 hl (by decide) rfl (fun ls hl => ?_)
    obtain ⟨z88, ez88, hf⟩ := elet_out hf
    refine lv_iinc (v := z88) (lv' := [(9, .int z88), (8, .int st0), (0, .ref (a 0)), (1, .ref ag), (2, .ref ak), (6, .int x6), (7, .int x7)]) hx hb dL_acts_285 hl (k := 6) rfl (by rw [ez88]; rfl) (by decide) rfl (fun ls hl => ?_)
    refine lv_goto (tgt := 242) hx hb dL_acts_288 (by decide) ?_
    exact (hWW _ _ _ _ _ _ _).1 (hk242 vX vA vB vg vk x6 x7 st0 z88 H locs ls hP hD hS (lv_sub hl [2, 3, 4, 5, 6, 1, 0] rfl) hf)
  have J282 : ∀ (k242 : BX3 → Nat → (Nat → BX0) → BX0 → BX0 → (Nat → Int32) → (Nat → Int32) → Int32 → Int32 → Int32 → Int32 → Option (Int32 × BX3 × Nat × (Nat → BX0) × BX0 × BX0 × (Nat → Int32) × (Nat → Int32))) (hk242 : ∀ (vX : BX3) (vA : BX0) (vB : BX0) (vg : (Nat → Int32)) (vk : (Nat → Int32)) (x6 : Int32) (x7 : Int32) (x8 : Int32) (x9 : Int32) (H : Heap) (locs : List Loc) (ls : Array Slot), va_P (dC, dI) vwCl ([k3_0 a aA aB aR aT aS vX, kPast cL a (pastF nh ad), k0_0 aA vA, k0_1 cI aA vA, k0_2 cI aA vA, k0_3 cI aA vA, k0_4 cI aA vA, k0_0 aB vB, k0_1 cI aB vB, k0_2 cI aB vB, k0_3 cI aB vB, k0_4 cI aB vB, kA1 cI ag 2 vg, kA1 cI ak 23 vk] ++ kPool cI nh ad pv) H → va_D A ([k3_0 a aA aB aR aT aS vX, kPast cL a (pastF nh ad), k0_0 aA vA, k0_1 cI aA vA, k0_2 cI aA vA, k0_3 cI aA vA, k0_4 cI aA vA, k0_0 aB vB, k0_1 cI aB vB, k0_2 cI aB vB, k0_3 cI aB vB, k0_4 cI aB vB, kA1 cI ag 2 vg, kA1 cI ak 23 vk] ++ kPool cI nh ad pv) → va_S A s.heap H locs → lv_has ls 13 [(0, .ref (a 0)), (1, .ref ag), (2, .ref ak), (6, .int x6), (7, .int x7), (8, .int x8), (9, .int x9)] → k242 vX nh pv vA vB vg vk x6 x7 x8 x9 = some y → WW H locs 0 0 ls 242 []) (vX : BX3) (vA : BX0) (vB : BX0) (vg : (Nat → Int32)) (vk : (Nat → Int32)) (x6 : Int32) (x7 : Int32) (x9 : Int32) (H : Heap) (locs : List Loc) (ls : Array Slot), va_P (dC, dI) vwCl ([k3_0 a aA aB aR aT aS vX, kPast cL a (pastF nh ad), k0_0 aA vA, k0_1 cI aA vA, k0_2 cI aA vA, k0_3 cI aA vA, k0_4 cI aA vA, k0_0 aB vB, k0_1 cI aB vB, k0_2 cI aB vB, k0_3 cI aB vB, k0_4 cI aB vB, kA1 cI ag 2 vg, kA1 cI ak 23 vk] ++ kPool cI nh ad pv) H → va_D A ([k3_0 a aA aB aR aT aS vX, kPast cL a (pastF nh ad), k0_0 aA vA, k0_1 cI aA vA, k0_2 cI aA vA, k0_3 cI aA vA, k0_4 cI aA vA, k0_0 aB vB, k0_1 cI aB vB, k0_2 cI aB vB, k0_3 cI aB vB, k0_4 cI aB vB, kA1 cI ag 2 vg, kA1 cI ak 23 vk] ++ kPool cI nh ad pv) → va_S A s.heap H locs → lv_has ls 13 [(0, .ref (a 0)), (1, .ref ag), (2, .ref ak), (6, .int x6), (7, .int x7), (9, .int x9)] → fL_acts_282 k242 vX nh pv vA vB vg vk x6 x7 x9 = some y → WW H locs 0 0 ls 282 [] := by
    intro k242 hk242 vX vA vB vg vk x6 x7 x9 H locs ls hP hD hS hl hf
    unfold fL_acts_282 at hf
    refine (hWW _ _ _ _ _ _ _).2 ?_
    refine lv_iconst (v := 0) hx hb dL_acts_282 (by decide) ?_
    exact (hWW _ _ _ _ _ _ _).1 (J283 k242 hk242 vX vA vB vg vk x6 x7 x9 (0 : Int32) H locs ls hP hD hS (lv_sub hl [0, 1, 2, 3, 4, 5] rfl) hf)
  have J310 : ∀ (vX : BX3) (vA : BX0) (vB : BX0) (vg : (Nat → Int32)) (vk : (Nat → Int32)) (x7 : Int32) (x8 : Int32) (x9 : Int32) (st1 : Int32) (st2 : Int32) (H : Heap) (locs : List Loc) (ls : Array Slot), va_P (dC, dI) vwCl ([k3_0 a aA aB aR aT aS vX, kPast cL a (pastF nh ad), k0_0 aA vA, k0_1 cI aA vA, k0_2 cI aA vA, k0_3 cI aA vA, k0_4 cI aA vA, k0_0 aB vB, k0_1 cI aB vB, k0_2 cI aB vB, k0_3 cI aB vB, k0_4 cI aB vB, kA1 cI ag 2 vg, kA1 cI ak 23 vk] ++ kPool cI nh ad pv) H → va_D A ([k3_0 a aA aB aR aT aS vX, kPast cL a (pastF nh ad), k0_0 aA vA, k0_1 cI aA vA, k0_2 cI aA vA, k0_3 cI aA vA, k0_4 cI aA vA, k0_0 aB vB, k0_1 cI aB vB, k0_2 cI aB vB, k0_3 cI aB vB, k0_4 cI aB vB, kA1 cI ag 2 vg, kA1 cI ak 23 vk] ++ kPool cI nh ad pv) → va_S A s.heap H locs → lv_has ls 13 [(0, .ref (a 0)), (7, .int x7), (8, .int x8), (9, .int x9)] → fL_acts_310 vX nh pv vA vB vg vk x7 x8 x9 st1 st2 = some y → WW H locs 0 0 ls 310 [.int st2, .int st1, .ref ag] := by
    intro vX vA vB vg vk x7 x8 x9 st1 st2 H locs ls hP hD hS hl hf
    unfold fL_acts_310 at hf
    refine (hWW _ _ _ _ _ _ _).2 ?_
    obtain ⟨hi89, hf⟩ := oinb rfl hf
    obtain ⟨b90, eb90, hf⟩ := elet_out hf
    refine va_iast hx hb hK hP hD hS 12 0 rfl rfl hi89 dL_acts_310 (fun H locs hP hD hS => ?_)
    have hP : va_P (dC, dI) vwCl ([k3_0 a aA aB aR aT aS vX, kPast cL a (pastF nh ad), k0_0 aA vA, k0_1 cI aA vA, k0_2 cI aA vA, k0_3 cI aA vA, k0_4 cI aA vA, k0_0 aB vB, k0_1 cI aB vB, k0_2 cI aB vB, k0_3 cI aB vB, k0_4 cI aB vB, kA1 cI ag 2 b90, kA1 cI ak 23 vk] ++ kPool cI nh ad pv) H := by rw [eb90]; exact hP
    have hD : va_D A ([k3_0 a aA aB aR aT aS vX, kPast cL a (pastF nh ad), k0_0 aA vA, k0_1 cI aA vA, k0_2 cI aA vA, k0_3 cI aA vA, k0_4 cI aA vA, k0_0 aB vB, k0_1 cI aB vB, k0_2 cI aB vB, k0_3 cI aB vB, k0_4 cI aB vB, kA1 cI ag 2 b90, kA1 cI ak 23 vk] ++ kPool cI nh ad pv) := by rw [eb90]; exact hD
    refine lv_aload_n hx hb dL_acts_311 rfl (lv_at hl 0 rfl) ?_
    refine lv_iload hx hb dL_acts_312 (lv_at hl 1 rfl) ?_
    obtain ⟨y91, hy91, hf⟩ := obind hf
    obtain ⟨hny91, hf⟩ := ogd hf
    refine cgC_i (S := Nat → Nat → Nat) (ws := [k3_0 a aA aB aR aT aS vX, kPast cL a (pastF nh ad), k0_0 aA vA, k0_1 cI aA vA, k0_2 cI aA vA, k0_3 cI aA vA, k0_4 cI aA vA, k0_0 aB vB, k0_1 cI aB vB, k0_2 cI aB vB, k0_3 cI aB vB, k0_4 cI aB vB, kA1 cI ag 2 b90, kA1 cI ak 23 vk]) (pool := (kPool cI nh ad pv)) (wc := [k3_0 a aA aB aR aT aS vX, kPast cL a (pastF nh ad), k0_0 aA vA, k0_1 cI aA vA, k0_2 cI aA vA, k0_3 cI aA vA, k0_4 cI aA vA, k0_0 aB vB, k0_1 cI aB vB, k0_2 cI aB vB, k0_3 cI aB vB, k0_4 cI aB vB]) (wr := [kA1 cI ag 2 b90, kA1 cI ak 23 vk]) (w1 := fun u9 => [k3_0 a aA aB aR aT aS y91.2.1, kPast cL a (pastF (y91.2.2.1) u9), k0_0 aA y91.2.2.2.2.1, k0_1 cI aA y91.2.2.2.2.1, k0_2 cI aA y91.2.2.2.2.1, k0_3 cI aA y91.2.2.2.2.1, k0_4 cI aA y91.2.2.2.2.1, k0_0 aB y91.2.2.2.2.2, k0_1 cI aB y91.2.2.2.2.2, k0_2 cI aB y91.2.2.2.2.2, k0_3 cI aB y91.2.2.2.2.2, k0_4 cI aB y91.2.2.2.2.2]) (pool1 := fun u9 => kPool cI (y91.2.2.1) u9 (y91.2.2.2.1)) (wo := fun u9 => [k3_0 a aA aB aR aT aS y91.2.1, kPast cL a (pastF (y91.2.2.1) u9), k0_0 aA y91.2.2.2.2.1, k0_1 cI aA y91.2.2.2.2.1, k0_2 cI aA y91.2.2.2.2.1, k0_3 cI aA y91.2.2.2.2.1, k0_4 cI aA y91.2.2.2.2.1, k0_0 aB y91.2.2.2.2.2, k0_1 cI aB y91.2.2.2.2.2, k0_2 cI aB y91.2.2.2.2.2, k0_3 cI aB y91.2.2.2.2.2, k0_4 cI aB y91.2.2.2.2.2, kA1 cI ag 2 b90, kA1 cI ak 23 vk]) hP hD hS hA (va_runV (As := [.int x7]) (rest := []) ⟨hx, hb, hml, hown, hts⟩ (mX3_width l dC dI cI cJ cL a aA aB aR aT aS ad H.size vX nh pv vA vB x7 hn y91 hy91) (cwV 1 hts gL_acts_X3_width rfl rfl rfl (by decide +kernel) ⟨Nat.le_of_ble_eq_true rfl, Nat.le_of_ble_eq_true rfl⟩) ⟨cFB3, va_recv hK3 hP (ci := 3) (q0 := 0) rfl rfl, cPre3 hK3 hN hS (free_tail (wc := [k3_0 a aA aB aR aT aS vX, kPast cL a (pastF nh ad), k0_0 aA vA, k0_1 cI aA vA, k0_2 cI aA vA, k0_3 cI aA vA, k0_4 cI aA vA, k0_0 aB vB, k0_1 cI aB vB, k0_2 cI aB vB, k0_3 cI aB vB, k0_4 cI aB vB]) hD hS hA [0, 1, 2, 3, 4, 5, 6, 7, 8, 9, 10, 11] rfl) (subP_tail hP [0, 1, 2, 3, 4, 5, 6, 7, 8, 9, 10, 11] rfl) (subD_tail hD [0, 1, 2, 3, 4, 5, 6, 7, 8, 9, 10, 11] rfl rfl)⟩ rfl rfl hl.1 rfl (lv_room (Nat.le_of_ble_eq_true rfl)) dL_acts_314 ⟨Nat.le_of_ble_eq_true rfl, Nat.le_of_ble_eq_true rfl⟩) [0, 1, 2, 3, 4, 5, 6, 7, 8, 9, 10, 11] [12, 13] [2, 3, 4, 5, 6, 7, 8, 9, 10, 11, 12, 13, 0, 1] rfl rfl rfl (by decide +kernel) rfl (fun u9 => rfl) (fun uy91 H locs hP hD hS => ?_)
    refine W.widen (k := 5) (n := 28) (Nat.le_of_ble_eq_true rfl) (Nat.le_of_ble_eq_true rfl) ?_
    refine lv_iload hx hb dL_acts_317 (lv_at hl 2 rfl) ?_
    refine lv_if_eq (tgt := 327) hx hb dL_acts_319 (by decide) (fun c92 => ?_) (fun c92 => ?_)
    · have hf := oif_t c92 hf
      refine lv_ldc (v := (-1000002)) hx hb hown hc60 dL_acts_327 ?_
      refine lv_icmp_ne (tgt := 336) hx hb dL_acts_329 (by decide) (fun c93 => ?_) (fun c93 => ?_)
      · have hf := oif_f c93 hf
        refine lv_iconst (v := 0) hx hb dL_acts_336 (by decide) ?_
        obtain rfl := Option.some.inj hf
        refine W.widen (k := 20) (n := 112) (Nat.le_of_ble_eq_true rfl) (Nat.le_of_ble_eq_true rfl) ?_
        exact W.zret (v := 0) hx hb hr rfl (fun t ht hW => ⟨⟨0, uy91, rfl, rfl, by rw [ht]; exact hP, hD⟩, hS.F ht⟩) hS.2.2 dL_acts_337
      · have hf := oif_t c93 hf
        refine lv_iconst (v := 1) hx hb dL_acts_332 (by decide) ?_
        refine lv_goto (tgt := 337) hx hb dL_acts_333 (by decide) ?_
        obtain rfl := Option.some.inj hf
        refine W.widen (k := 20) (n := 112) (Nat.le_of_ble_eq_true rfl) (Nat.le_of_ble_eq_true rfl) ?_
        exact W.zret (v := 1) hx hb hr rfl (fun t ht hW => ⟨⟨1, uy91, rfl, rfl, by rw [ht]; exact hP, hD⟩, hS.F ht⟩) hS.2.2 dL_acts_337
    · have hf := oif_f c92 hf
      refine lv_iload hx hb dL_acts_322 (lv_at hl 3 rfl) ?_
      refine lv_goto (tgt := 329) hx hb dL_acts_324 (by decide) ?_
      refine lv_icmp_ne (tgt := 336) hx hb dL_acts_329 (by decide) (fun c94 => ?_) (fun c94 => ?_)
      · have hf := oif_f c94 hf
        refine lv_iconst (v := 0) hx hb dL_acts_336 (by decide) ?_
        obtain rfl := Option.some.inj hf
        refine W.widen (k := 20) (n := 112) (Nat.le_of_ble_eq_true rfl) (Nat.le_of_ble_eq_true rfl) ?_
        exact W.zret (v := 0) hx hb hr rfl (fun t ht hW => ⟨⟨0, uy91, rfl, rfl, by rw [ht]; exact hP, hD⟩, hS.F ht⟩) hS.2.2 dL_acts_337
      · have hf := oif_t c94 hf
        refine lv_iconst (v := 1) hx hb dL_acts_332 (by decide) ?_
        refine lv_goto (tgt := 337) hx hb dL_acts_333 (by decide) ?_
        obtain rfl := Option.some.inj hf
        refine W.widen (k := 20) (n := 112) (Nat.le_of_ble_eq_true rfl) (Nat.le_of_ble_eq_true rfl) ?_
        exact W.zret (v := 1) hx hb hr rfl (fun t ht hW => ⟨⟨1, uy91, rfl, rfl, by rw [ht]; exact hP, hD⟩, hS.F ht⟩) hS.2.2 dL_acts_337
  have L242 : ∀ (n : Nat) (vX : BX3) (vA : BX0) (vB : BX0) (vg : (Nat → Int32)) (vk : (Nat → Int32)) (x6 : Int32) (x7 : Int32) (x8 : Int32) (x9 : Int32) (H : Heap) (locs : List Loc) (ls : Array Slot), va_P (dC, dI) vwCl ([k3_0 a aA aB aR aT aS vX, kPast cL a (pastF nh ad), k0_0 aA vA, k0_1 cI aA vA, k0_2 cI aA vA, k0_3 cI aA vA, k0_4 cI aA vA, k0_0 aB vB, k0_1 cI aB vB, k0_2 cI aB vB, k0_3 cI aB vB, k0_4 cI aB vB, kA1 cI ag 2 vg, kA1 cI ak 23 vk] ++ kPool cI nh ad pv) H → va_D A ([k3_0 a aA aB aR aT aS vX, kPast cL a (pastF nh ad), k0_0 aA vA, k0_1 cI aA vA, k0_2 cI aA vA, k0_3 cI aA vA, k0_4 cI aA vA, k0_0 aB vB, k0_1 cI aB vB, k0_2 cI aB vB, k0_3 cI aB vB, k0_4 cI aB vB, kA1 cI ag 2 vg, kA1 cI ak 23 vk] ++ kPool cI nh ad pv) → va_S A s.heap H locs → lv_has ls 13 [(0, .ref (a 0)), (1, .ref ag), (2, .ref ak), (6, .int x6), (7, .int x7), (8, .int x8), (9, .int x9)] → fL_acts_242 n vX nh pv vA vB vg vk x6 x7 x8 x9 = some y → WW H locs 0 0 ls 242 [] := by
    intro n
    induction n with
    | zero =>
      intro vX vA vB vg vk x6 x7 x8 x9 H locs ls hP hD hS hl hf
      exact onone hf
    | succ n ih =>
      intro vX vA vB vg vk x6 x7 x8 x9 H locs ls hP hD hS hl hf
      have hf : fL_acts_242_b (fL_acts_242 n) vX nh pv vA vB vg vk x6 x7 x8 x9 = some y := hf
      generalize fL_acts_242 n = k242 at hf ih
      have hk242 := ih
      clear ih
      unfold fL_acts_242_b at hf
      refine (hWW _ _ _ _ _ _ _).2 ?_
      refine lv_iload hx hb dL_acts_242 (lv_at hl 6 rfl) ?_
      refine lv_iload hx hb dL_acts_244 (lv_at hl 3 rfl) ?_
      refine lv_icmp_ge (tgt := 291) hx hb dL_acts_246 (by decide) (fun c80 => ?_) (fun c80 => ?_)
      · have hf := oif_t c80 hf
        refine lv_aload_n hx hb dL_acts_291 rfl (lv_at hl 1 rfl) ?_
        refine lv_iconst (v := 0) hx hb dL_acts_292 (by decide) ?_
        refine va_iald hx hb hK hP 12 0 rfl rfl (vpc rfl) dL_acts_293 ?_
        obtain ⟨z81, ez81, hf⟩ := elet_out hf
        refine lvn_i ez81 ?_
        refine lv_istore (lv' := [(9, .int z81), (0, .ref (a 0)), (1, .ref ag), (2, .ref ak), (6, .int x6), (7, .int x7), (8, .int x8)]) hx hb dL_acts_294 hl (by decide) rfl (fun ls hl => ?_)
        refine lv_aload_n hx hb dL_acts_296 rfl (lv_at hl 2 rfl) ?_
        refine lv_iconst (v := 0) hx hb dL_acts_297 (by decide) ?_
        refine lv_iload hx hb dL_acts_298 (lv_at hl 6 rfl) ?_
        refine lv_if_eq (tgt := 308) hx hb dL_acts_300 (by decide) (fun c82 => ?_) (fun c82 => ?_)
        · have hf := oif_t c82 hf
          refine lv_iload hx hb dL_acts_308 (lv_at hl 0 rfl) ?_
          exact (hWW _ _ _ _ _ _ _).1 (J310 vX vA vB vg vk x7 x8 z81 (0 : Int32) z81 H locs ls hP hD hS (lv_sub hl [1, 5, 6, 0] rfl) hf)
        · have hf := oif_f c82 hf
          refine lv_iload hx hb dL_acts_303 (lv_at hl 5 rfl) ?_
          refine lv_goto (tgt := 310) hx hb dL_acts_305 (by decide) ?_
          exact (hWW _ _ _ _ _ _ _).1 (J310 vX vA vB vg vk x7 x8 z81 (0 : Int32) x7 H locs ls hP hD hS (lv_sub hl [1, 5, 6, 0] rfl) hf)
      · have hf := oif_f c80 hf
        refine lv_iload hx hb dL_acts_249 (lv_at hl 5 rfl) ?_
        refine lv_if_eq (tgt := 282) hx hb dL_acts_251 (by decide) (fun c83 => ?_) (fun c83 => ?_)
        · have hf := oif_t c83 hf
          exact (hWW _ _ _ _ _ _ _).1 (J282 k242 hk242 vX vA vB vg vk x6 x7 x9 H locs ls hP hD hS (lv_sub hl [0, 1, 2, 3, 4, 6] rfl) hf)
        · have hf := oif_f c83 hf
          refine lv_aload_n hx hb dL_acts_254 rfl (lv_at hl 2 rfl) ?_
          refine lv_bipush (v := 14) hx hb dL_acts_255 (by decide) ?_
          refine lv_iload hx hb dL_acts_257 (lv_at hl 6 rfl) ?_
          refine lv_iadd hx hb dL_acts_259 ?_
          obtain ⟨hi84, hf⟩ := oinb rfl hf
          refine va_iald hx hb hK hP 13 0 rfl rfl hi84 dL_acts_260 ?_
          refine lv_iload hx hb dL_acts_261 (lv_at hl 4 rfl) ?_
          refine lv_icmp_gt (tgt := 282) hx hb dL_acts_263 (by decide) (fun c85 => ?_) (fun c85 => ?_)
          · have hf := oif_t c85 hf
            exact (hWW _ _ _ _ _ _ _).1 (J282 k242 hk242 vX vA vB vg vk x6 x7 x9 H locs ls hP hD hS (lv_sub hl [0, 1, 2, 3, 4, 6] rfl) hf)
          · have hf := oif_f c85 hf
            refine lv_aload_n hx hb dL_acts_266 rfl (lv_at hl 2 rfl) ?_
            refine lv_bipush (v := 18) hx hb dL_acts_267 (by decide) ?_
            refine lv_iload hx hb dL_acts_269 (lv_at hl 6 rfl) ?_
            refine lv_iadd hx hb dL_acts_271 ?_
            obtain ⟨hi86, hf⟩ := oinb rfl hf
            refine va_iald hx hb hK hP 13 0 rfl rfl hi86 dL_acts_272 ?_
            refine lv_iload hx hb dL_acts_273 (lv_at hl 4 rfl) ?_
            refine lv_icmp_gt (tgt := 282) hx hb dL_acts_275 (by decide) (fun c87 => ?_) (fun c87 => ?_)
            · have hf := oif_t c87 hf
              exact (hWW _ _ _ _ _ _ _).1 (J282 k242 hk242 vX vA vB vg vk x6 x7 x9 H locs ls hP hD hS (lv_sub hl [0, 1, 2, 3, 4, 6] rfl) hf)
            · have hf := oif_f c87 hf
              refine lv_iconst (v := 1) hx hb dL_acts_278 (by decide) ?_
              refine lv_goto (tgt := 283) hx hb dL_acts_279 (by decide) ?_
              exact (hWW _ _ _ _ _ _ _).1 (J283 k242 hk242 vX vA vB vg vk x6 x7 x9 (1 : Int32) H locs ls hP hD hS (lv_sub hl [0, 1, 2, 3, 4, 6] rfl) hf)
  have J466 : ∀ (vX : BX3) (vA : BX0) (vB : BX0) (vg : (Nat → Int32)) (vk : (Nat → Int32)) (x7 : Int32) (x8 : Int32) (st1 : Int32) (st2 : Int32) (H : Heap) (locs : List Loc) (ls : Array Slot), va_P (dC, dI) vwCl ([k3_0 a aA aB aR aT aS vX, kPast cL a (pastF nh ad), k0_0 aA vA, k0_1 cI aA vA, k0_2 cI aA vA, k0_3 cI aA vA, k0_4 cI aA vA, k0_0 aB vB, k0_1 cI aB vB, k0_2 cI aB vB, k0_3 cI aB vB, k0_4 cI aB vB, kA1 cI ag 2 vg, kA1 cI ak 23 vk] ++ kPool cI nh ad pv) H → va_D A ([k3_0 a aA aB aR aT aS vX, kPast cL a (pastF nh ad), k0_0 aA vA, k0_1 cI aA vA, k0_2 cI aA vA, k0_3 cI aA vA, k0_4 cI aA vA, k0_0 aB vB, k0_1 cI aB vB, k0_2 cI aB vB, k0_3 cI aB vB, k0_4 cI aB vB, kA1 cI ag 2 vg, kA1 cI ak 23 vk] ++ kPool cI nh ad pv) → va_S A s.heap H locs → lv_has ls 13 [(0, .ref (a 0)), (2, .ref ak), (7, .int x7), (8, .int x8)] → fL_acts_466 vX nh pv vA vB vg vk x7 x8 st1 st2 = some y → WW H locs 0 0 ls 466 [.int st2, .int st1, .ref ak] := by
    intro vX vA vB vg vk x7 x8 st1 st2 H locs ls hP hD hS hl hf
    unfold fL_acts_466 at hf
    refine (hWW _ _ _ _ _ _ _).2 ?_
    obtain ⟨hi95, hf⟩ := oinb rfl hf
    obtain ⟨b96, eb96, hf⟩ := elet_out hf
    refine va_iast hx hb hK hP hD hS 13 0 rfl rfl hi95 dL_acts_466 (fun H locs hP hD hS => ?_)
    have hP : va_P (dC, dI) vwCl ([k3_0 a aA aB aR aT aS vX, kPast cL a (pastF nh ad), k0_0 aA vA, k0_1 cI aA vA, k0_2 cI aA vA, k0_3 cI aA vA, k0_4 cI aA vA, k0_0 aB vB, k0_1 cI aB vB, k0_2 cI aB vB, k0_3 cI aB vB, k0_4 cI aB vB, kA1 cI ag 2 vg, kA1 cI ak 23 b96] ++ kPool cI nh ad pv) H := by rw [eb96]; exact hP
    have hD : va_D A ([k3_0 a aA aB aR aT aS vX, kPast cL a (pastF nh ad), k0_0 aA vA, k0_1 cI aA vA, k0_2 cI aA vA, k0_3 cI aA vA, k0_4 cI aA vA, k0_0 aB vB, k0_1 cI aB vB, k0_2 cI aB vB, k0_3 cI aB vB, k0_4 cI aB vB, kA1 cI ag 2 vg, kA1 cI ak 23 b96] ++ kPool cI nh ad pv) := by rw [eb96]; exact hD
    refine lv_aload_n hx hb dL_acts_467 rfl (lv_at hl 0 rfl) ?_
    refine lv_iload hx hb dL_acts_468 (lv_at hl 2 rfl) ?_
    refine lv_aload_n hx hb dL_acts_470 rfl (lv_at hl 1 rfl) ?_
    refine lv_bipush (v := 10) hx hb dL_acts_471 (by decide) ?_
    refine lv_iload hx hb dL_acts_473 (lv_at hl 2 rfl) ?_
    refine lv_iadd hx hb dL_acts_475 ?_
    obtain ⟨hi97, hf⟩ := oinb rfl hf
    refine va_iald hx hb hK hP 13 0 rfl rfl hi97 dL_acts_476 ?_
    obtain ⟨y98, hy98, hf⟩ := obind hf
    obtain ⟨hny98, hf⟩ := ogd hf
    refine cgC_i (S := Nat → Nat → Nat) (ws := [k3_0 a aA aB aR aT aS vX, kPast cL a (pastF nh ad), k0_0 aA vA, k0_1 cI aA vA, k0_2 cI aA vA, k0_3 cI aA vA, k0_4 cI aA vA, k0_0 aB vB, k0_1 cI aB vB, k0_2 cI aB vB, k0_3 cI aB vB, k0_4 cI aB vB, kA1 cI ag 2 vg, kA1 cI ak 23 b96]) (pool := (kPool cI nh ad pv)) (wc := [k3_0 a aA aB aR aT aS vX, kPast cL a (pastF nh ad), k0_0 aA vA, k0_1 cI aA vA, k0_2 cI aA vA, k0_3 cI aA vA, k0_4 cI aA vA, k0_0 aB vB, k0_1 cI aB vB, k0_2 cI aB vB, k0_3 cI aB vB, k0_4 cI aB vB]) (wr := [kA1 cI ag 2 vg, kA1 cI ak 23 b96]) (w1 := fun u9 => [k3_0 a aA aB aR aT aS y98.2.1, kPast cL a (pastF (y98.2.2.1) u9), k0_0 aA y98.2.2.2.2.1, k0_1 cI aA y98.2.2.2.2.1, k0_2 cI aA y98.2.2.2.2.1, k0_3 cI aA y98.2.2.2.2.1, k0_4 cI aA y98.2.2.2.2.1, k0_0 aB y98.2.2.2.2.2, k0_1 cI aB y98.2.2.2.2.2, k0_2 cI aB y98.2.2.2.2.2, k0_3 cI aB y98.2.2.2.2.2, k0_4 cI aB y98.2.2.2.2.2]) (pool1 := fun u9 => kPool cI (y98.2.2.1) u9 (y98.2.2.2.1)) (wo := fun u9 => [k3_0 a aA aB aR aT aS y98.2.1, kPast cL a (pastF (y98.2.2.1) u9), k0_0 aA y98.2.2.2.2.1, k0_1 cI aA y98.2.2.2.2.1, k0_2 cI aA y98.2.2.2.2.1, k0_3 cI aA y98.2.2.2.2.1, k0_4 cI aA y98.2.2.2.2.1, k0_0 aB y98.2.2.2.2.2, k0_1 cI aB y98.2.2.2.2.2, k0_2 cI aB y98.2.2.2.2.2, k0_3 cI aB y98.2.2.2.2.2, k0_4 cI aB y98.2.2.2.2.2, kA1 cI ag 2 vg, kA1 cI ak 23 b96]) hP hD hS hA (va_runV (As := [.int x7, .int (b96 (((10 : Int32) + x7)).toNatClampNeg)]) (rest := []) ⟨hx, hb, hml, hown, hts⟩ (mX3_load l dC dI cI cJ cL a aA aB aR aT aS ad H.size vX nh pv vA vB x7 (b96 (((10 : Int32) + x7)).toNatClampNeg) hn y98 hy98) (cwV 2 hts gL_acts_X3_load rfl rfl rfl (by decide +kernel) ⟨Nat.le_of_ble_eq_true rfl, Nat.le_of_ble_eq_true rfl⟩) ⟨cFB3, va_recv hK3 hP (ci := 3) (q0 := 0) rfl rfl, cPre3 hK3 hN hS (free_tail (wc := [k3_0 a aA aB aR aT aS vX, kPast cL a (pastF nh ad), k0_0 aA vA, k0_1 cI aA vA, k0_2 cI aA vA, k0_3 cI aA vA, k0_4 cI aA vA, k0_0 aB vB, k0_1 cI aB vB, k0_2 cI aB vB, k0_3 cI aB vB, k0_4 cI aB vB]) hD hS hA [0, 1, 2, 3, 4, 5, 6, 7, 8, 9, 10, 11] rfl) (subP_tail hP [0, 1, 2, 3, 4, 5, 6, 7, 8, 9, 10, 11] rfl) (subD_tail hD [0, 1, 2, 3, 4, 5, 6, 7, 8, 9, 10, 11] rfl rfl)⟩ rfl rfl hl.1 rfl (lv_room (Nat.le_of_ble_eq_true rfl)) dL_acts_477 ⟨Nat.le_of_ble_eq_true rfl, Nat.le_of_ble_eq_true rfl⟩) [0, 1, 2, 3, 4, 5, 6, 7, 8, 9, 10, 11] [12, 13] [2, 3, 4, 5, 6, 7, 8, 9, 10, 11, 12, 13, 0, 1] rfl rfl rfl (by decide +kernel) rfl (fun u9 => rfl) (fun uy98 H locs hP hD hS => ?_)
    refine W.widen (k := 5) (n := 28) (Nat.le_of_ble_eq_true rfl) (Nat.le_of_ble_eq_true rfl) ?_
    refine lv_sipush (v := 1000) hx hb dL_acts_480 (by decide) ?_
    refine lv_iload hx hb dL_acts_483 (lv_at hl 3 rfl) ?_
    refine lv_iadd hx hb dL_acts_485 ?_
    refine lv_icmp_ne (tgt := 493) hx hb dL_acts_486 (by decide) (fun c99 => ?_) (fun c99 => ?_)
    · have hf := oif_f c99 hf
      refine lv_iconst (v := 0) hx hb dL_acts_493 (by decide) ?_
      obtain rfl := Option.some.inj hf
      refine W.widen (k := 20) (n := 112) (Nat.le_of_ble_eq_true rfl) (Nat.le_of_ble_eq_true rfl) ?_
      exact W.zret (v := 0) hx hb hr rfl (fun t ht hW => ⟨⟨0, uy98, rfl, rfl, by rw [ht]; exact hP, hD⟩, hS.F ht⟩) hS.2.2 dL_acts_494
    · have hf := oif_t c99 hf
      refine lv_iconst (v := 1) hx hb dL_acts_489 (by decide) ?_
      refine lv_goto (tgt := 494) hx hb dL_acts_490 (by decide) ?_
      obtain rfl := Option.some.inj hf
      refine W.widen (k := 20) (n := 112) (Nat.le_of_ble_eq_true rfl) (Nat.le_of_ble_eq_true rfl) ?_
      exact W.zret (v := 1) hx hb hr rfl (fun t ht hW => ⟨⟨1, uy98, rfl, rfl, by rw [ht]; exact hP, hD⟩, hS.F ht⟩) hS.2.2 dL_acts_494
  have J571 : ∀ (vX : BX3) (vA : BX0) (vB : BX0) (vg : (Nat → Int32)) (vk : (Nat → Int32)) (x7 : Int32) (x8 : Int32) (x10 : Int32) (x11 : Int32) (x12 : Int32) (st1 : Int32) (st2 : Int32) (H : Heap) (locs : List Loc) (ls : Array Slot), va_P (dC, dI) vwCl ([k3_0 a aA aB aR aT aS vX, kPast cL a (pastF nh ad), k0_0 aA vA, k0_1 cI aA vA, k0_2 cI aA vA, k0_3 cI aA vA, k0_4 cI aA vA, k0_0 aB vB, k0_1 cI aB vB, k0_2 cI aB vB, k0_3 cI aB vB, k0_4 cI aB vB, kA1 cI ag 2 vg, kA1 cI ak 23 vk] ++ kPool cI nh ad pv) H → va_D A ([k3_0 a aA aB aR aT aS vX, kPast cL a (pastF nh ad), k0_0 aA vA, k0_1 cI aA vA, k0_2 cI aA vA, k0_3 cI aA vA, k0_4 cI aA vA, k0_0 aB vB, k0_1 cI aB vB, k0_2 cI aB vB, k0_3 cI aB vB, k0_4 cI aB vB, kA1 cI ag 2 vg, kA1 cI ak 23 vk] ++ kPool cI nh ad pv) → va_S A s.heap H locs → lv_has ls 13 [(0, .ref (a 0)), (7, .int x7), (8, .int x8), (10, .int x10), (11, .int x11), (12, .int x12)] → fL_acts_571 vX nh pv vA vB vg vk x7 x8 x10 x11 x12 st1 st2 = some y → WW H locs 0 0 ls 571 [.int st2, .int st1, .ref ak] := by
    intro vX vA vB vg vk x7 x8 x10 x11 x12 st1 st2 H locs ls hP hD hS hl hf
    unfold fL_acts_571 at hf
    refine (hWW _ _ _ _ _ _ _).2 ?_
    obtain ⟨hi100, hf⟩ := oinb rfl hf
    obtain ⟨b101, eb101, hf⟩ := elet_out hf
    refine va_iast hx hb hK hP hD hS 13 0 rfl rfl hi100 dL_acts_571 (fun H locs hP hD hS => ?_)
    have hP : va_P (dC, dI) vwCl ([k3_0 a aA aB aR aT aS vX, kPast cL a (pastF nh ad), k0_0 aA vA, k0_1 cI aA vA, k0_2 cI aA vA, k0_3 cI aA vA, k0_4 cI aA vA, k0_0 aB vB, k0_1 cI aB vB, k0_2 cI aB vB, k0_3 cI aB vB, k0_4 cI aB vB, kA1 cI ag 2 vg, kA1 cI ak 23 b101] ++ kPool cI nh ad pv) H := by rw [eb101]; exact hP
    have hD : va_D A ([k3_0 a aA aB aR aT aS vX, kPast cL a (pastF nh ad), k0_0 aA vA, k0_1 cI aA vA, k0_2 cI aA vA, k0_3 cI aA vA, k0_4 cI aA vA, k0_0 aB vB, k0_1 cI aB vB, k0_2 cI aB vB, k0_3 cI aB vB, k0_4 cI aB vB, kA1 cI ag 2 vg, kA1 cI ak 23 b101] ++ kPool cI nh ad pv) := by rw [eb101]; exact hD
    refine lv_aload_n hx hb dL_acts_572 rfl (lv_at hl 0 rfl) ?_
    refine lv_iload hx hb dL_acts_573 (lv_at hl 1 rfl) ?_
    refine lv_iload hx hb dL_acts_575 (lv_at hl 2 rfl) ?_
    refine lv_iload hx hb dL_acts_577 (lv_at hl 5 rfl) ?_
    obtain ⟨y102, hy102, hf⟩ := obind hf
    obtain ⟨hny102, hf⟩ := ogd hf
    refine cgC_i (S := Nat → Nat → Nat) (ws := [k3_0 a aA aB aR aT aS vX, kPast cL a (pastF nh ad), k0_0 aA vA, k0_1 cI aA vA, k0_2 cI aA vA, k0_3 cI aA vA, k0_4 cI aA vA, k0_0 aB vB, k0_1 cI aB vB, k0_2 cI aB vB, k0_3 cI aB vB, k0_4 cI aB vB, kA1 cI ag 2 vg, kA1 cI ak 23 b101]) (pool := (kPool cI nh ad pv)) (wc := [k3_0 a aA aB aR aT aS vX, kPast cL a (pastF nh ad), k0_0 aA vA, k0_1 cI aA vA, k0_2 cI aA vA, k0_3 cI aA vA, k0_4 cI aA vA, k0_0 aB vB, k0_1 cI aB vB, k0_2 cI aB vB, k0_3 cI aB vB, k0_4 cI aB vB]) (wr := [kA1 cI ag 2 vg, kA1 cI ak 23 b101]) (w1 := fun u9 => [k3_0 a aA aB aR aT aS y102.2.1, kPast cL a (pastF (y102.2.2.1) u9), k0_0 aA y102.2.2.2.2.1, k0_1 cI aA y102.2.2.2.2.1, k0_2 cI aA y102.2.2.2.2.1, k0_3 cI aA y102.2.2.2.2.1, k0_4 cI aA y102.2.2.2.2.1, k0_0 aB y102.2.2.2.2.2, k0_1 cI aB y102.2.2.2.2.2, k0_2 cI aB y102.2.2.2.2.2, k0_3 cI aB y102.2.2.2.2.2, k0_4 cI aB y102.2.2.2.2.2]) (pool1 := fun u9 => kPool cI (y102.2.2.1) u9 (y102.2.2.2.1)) (wo := fun u9 => [k3_0 a aA aB aR aT aS y102.2.1, kPast cL a (pastF (y102.2.2.1) u9), k0_0 aA y102.2.2.2.2.1, k0_1 cI aA y102.2.2.2.2.1, k0_2 cI aA y102.2.2.2.2.1, k0_3 cI aA y102.2.2.2.2.1, k0_4 cI aA y102.2.2.2.2.1, k0_0 aB y102.2.2.2.2.2, k0_1 cI aB y102.2.2.2.2.2, k0_2 cI aB y102.2.2.2.2.2, k0_3 cI aB y102.2.2.2.2.2, k0_4 cI aB y102.2.2.2.2.2, kA1 cI ag 2 vg, kA1 cI ak 23 b101]) hP hD hS hA (va_runV (As := [.int x7, .int x8, .int x12]) (rest := []) ⟨hx, hb, hml, hown, hts⟩ (mX3_stop l dC dI cI cJ cL a aA aB aR aT aS ad H.size vX nh pv vA vB x7 x8 x12 hn y102 hy102) (cwV 3 hts gL_acts_X3_stop rfl rfl rfl (by decide +kernel) ⟨Nat.le_of_ble_eq_true rfl, Nat.le_of_ble_eq_true rfl⟩) ⟨cFB3, va_recv hK3 hP (ci := 3) (q0 := 0) rfl rfl, cPre3 hK3 hN hS (free_tail (wc := [k3_0 a aA aB aR aT aS vX, kPast cL a (pastF nh ad), k0_0 aA vA, k0_1 cI aA vA, k0_2 cI aA vA, k0_3 cI aA vA, k0_4 cI aA vA, k0_0 aB vB, k0_1 cI aB vB, k0_2 cI aB vB, k0_3 cI aB vB, k0_4 cI aB vB]) hD hS hA [0, 1, 2, 3, 4, 5, 6, 7, 8, 9, 10, 11] rfl) (subP_tail hP [0, 1, 2, 3, 4, 5, 6, 7, 8, 9, 10, 11] rfl) (subD_tail hD [0, 1, 2, 3, 4, 5, 6, 7, 8, 9, 10, 11] rfl rfl)⟩ rfl rfl hl.1 rfl (lv_room (Nat.le_of_ble_eq_true rfl)) dL_acts_579 ⟨Nat.le_of_ble_eq_true rfl, Nat.le_of_ble_eq_true rfl⟩) [0, 1, 2, 3, 4, 5, 6, 7, 8, 9, 10, 11] [12, 13] [2, 3, 4, 5, 6, 7, 8, 9, 10, 11, 12, 13, 0, 1] rfl rfl rfl (by decide +kernel) rfl (fun u9 => rfl) (fun uy102 H locs hP hD hS => ?_)
    refine W.widen (k := 5) (n := 28) (Nat.le_of_ble_eq_true rfl) (Nat.le_of_ble_eq_true rfl) ?_
    refine lv_iload hx hb dL_acts_582 (lv_at hl 4 rfl) ?_
    refine lv_if_eq (tgt := 592) hx hb dL_acts_584 (by decide) (fun c103 => ?_) (fun c103 => ?_)
    · have hf := oif_t c103 hf
      refine lv_ldc (v := (-1000002)) hx hb hown hc60 dL_acts_592 ?_
      refine lv_icmp_ne (tgt := 601) hx hb dL_acts_594 (by decide) (fun c104 => ?_) (fun c104 => ?_)
      · have hf := oif_f c104 hf
        refine lv_iconst (v := 0) hx hb dL_acts_601 (by decide) ?_
        obtain rfl := Option.some.inj hf
        refine W.widen (k := 20) (n := 112) (Nat.le_of_ble_eq_true rfl) (Nat.le_of_ble_eq_true rfl) ?_
        exact W.zret (v := 0) hx hb hr rfl (fun t ht hW => ⟨⟨0, uy102, rfl, rfl, by rw [ht]; exact hP, hD⟩, hS.F ht⟩) hS.2.2 dL_acts_602
      · have hf := oif_t c104 hf
        refine lv_iconst (v := 1) hx hb dL_acts_597 (by decide) ?_
        refine lv_goto (tgt := 602) hx hb dL_acts_598 (by decide) ?_
        obtain rfl := Option.some.inj hf
        refine W.widen (k := 20) (n := 112) (Nat.le_of_ble_eq_true rfl) (Nat.le_of_ble_eq_true rfl) ?_
        exact W.zret (v := 1) hx hb hr rfl (fun t ht hW => ⟨⟨1, uy102, rfl, rfl, by rw [ht]; exact hP, hD⟩, hS.F ht⟩) hS.2.2 dL_acts_602
    · have hf := oif_f c103 hf
      refine lv_iload hx hb dL_acts_587 (lv_at hl 3 rfl) ?_
      refine lv_goto (tgt := 594) hx hb dL_acts_589 (by decide) ?_
      refine lv_icmp_ne (tgt := 601) hx hb dL_acts_594 (by decide) (fun c105 => ?_) (fun c105 => ?_)
      · have hf := oif_f c105 hf
        refine lv_iconst (v := 0) hx hb dL_acts_601 (by decide) ?_
        obtain rfl := Option.some.inj hf
        refine W.widen (k := 20) (n := 112) (Nat.le_of_ble_eq_true rfl) (Nat.le_of_ble_eq_true rfl) ?_
        exact W.zret (v := 0) hx hb hr rfl (fun t ht hW => ⟨⟨0, uy102, rfl, rfl, by rw [ht]; exact hP, hD⟩, hS.F ht⟩) hS.2.2 dL_acts_602
      · have hf := oif_t c105 hf
        refine lv_iconst (v := 1) hx hb dL_acts_597 (by decide) ?_
        refine lv_goto (tgt := 602) hx hb dL_acts_598 (by decide) ?_
        obtain rfl := Option.some.inj hf
        refine W.widen (k := 20) (n := 112) (Nat.le_of_ble_eq_true rfl) (Nat.le_of_ble_eq_true rfl) ?_
        exact W.zret (v := 1) hx hb hr rfl (fun t ht hW => ⟨⟨1, uy102, rfl, rfl, by rw [ht]; exact hP, hD⟩, hS.F ht⟩) hS.2.2 dL_acts_602
  have L696 : ∀ (n : Nat) (vX : BX3) (vA : BX0) (vB : BX0) (vg : (Nat → Int32)) (vk : (Nat → Int32)) (x7 : Int32) (x10 : Int32) (H : Heap) (locs : List Loc) (ls : Array Slot), va_P (dC, dI) vwCl ([k3_0 a aA aB aR aT aS vX, kPast cL a (pastF nh ad), k0_0 aA vA, k0_1 cI aA vA, k0_2 cI aA vA, k0_3 cI aA vA, k0_4 cI aA vA, k0_0 aB vB, k0_1 cI aB vB, k0_2 cI aB vB, k0_3 cI aB vB, k0_4 cI aB vB, kA1 cI ag 2 vg, kA1 cI ak 23 vk] ++ kPool cI nh ad pv) H → va_D A ([k3_0 a aA aB aR aT aS vX, kPast cL a (pastF nh ad), k0_0 aA vA, k0_1 cI aA vA, k0_2 cI aA vA, k0_3 cI aA vA, k0_4 cI aA vA, k0_0 aB vB, k0_1 cI aB vB, k0_2 cI aB vB, k0_3 cI aB vB, k0_4 cI aB vB, kA1 cI ag 2 vg, kA1 cI ak 23 vk] ++ kPool cI nh ad pv) → va_S A s.heap H locs → lv_has ls 13 [(0, .ref (a 0)), (1, .ref ag), (2, .ref ak), (7, .int x7), (10, .int x10)] → fL_acts_696 n vX nh pv vA vB vg vk x7 x10 = some y → WW H locs 0 0 ls 696 [] := by
    intro n
    induction n with
    | zero =>
      intro vX vA vB vg vk x7 x10 H locs ls hP hD hS hl hf
      exact onone hf
    | succ n ih =>
      intro vX vA vB vg vk x7 x10 H locs ls hP hD hS hl hf
      have hf : fL_acts_696_b (fL_acts_696 n) vX nh pv vA vB vg vk x7 x10 = some y := hf
      generalize fL_acts_696 n = k696 at hf ih
      have hk696 := ih
      clear ih
      unfold fL_acts_696_b at hf
      refine (hWW _ _ _ _ _ _ _).2 ?_
      refine lv_iload hx hb dL_acts_696 (lv_at hl 4 rfl) ?_
      refine lv_iconst (v := 3) hx hb dL_acts_698 (by decide) ?_
      refine lv_icmp_ge (tgt := 776) hx hb dL_acts_699 (by decide) (fun c106 => ?_) (fun c106 => ?_)
      · have hf := oif_t c106 hf
        refine lv_aload_n hx hb dL_acts_776 rfl (lv_at hl 1 rfl) ?_
        refine lv_iconst (v := 1) hx hb dL_acts_777 (by decide) ?_
        refine lv_dup2_11 hx hb dL_acts_778 rfl rfl ?_
        refine va_iald hx hb hK hP 12 0 rfl rfl (vpc rfl) dL_acts_779 ?_
        refine lv_iconst (v := 1) hx hb dL_acts_780 (by decide) ?_
        refine lv_isub hx hb dL_acts_781 ?_
        obtain ⟨b107, eb107, hf⟩ := elet_out hf
        refine va_iast hx hb hK hP hD hS 12 0 rfl rfl (vpc rfl) dL_acts_782 (fun H locs hP hD hS => ?_)
        have hP : va_P (dC, dI) vwCl ([k3_0 a aA aB aR aT aS vX, kPast cL a (pastF nh ad), k0_0 aA vA, k0_1 cI aA vA, k0_2 cI aA vA, k0_3 cI aA vA, k0_4 cI aA vA, k0_0 aB vB, k0_1 cI aB vB, k0_2 cI aB vB, k0_3 cI aB vB, k0_4 cI aB vB, kA1 cI ag 2 b107, kA1 cI ak 23 vk] ++ kPool cI nh ad pv) H := by rw [eb107]; exact hP
        have hD : va_D A ([k3_0 a aA aB aR aT aS vX, kPast cL a (pastF nh ad), k0_0 aA vA, k0_1 cI aA vA, k0_2 cI aA vA, k0_3 cI aA vA, k0_4 cI aA vA, k0_0 aB vB, k0_1 cI aB vB, k0_2 cI aB vB, k0_3 cI aB vB, k0_4 cI aB vB, kA1 cI ag 2 b107, kA1 cI ak 23 vk] ++ kPool cI nh ad pv) := by rw [eb107]; exact hD
        refine lv_aload_n hx hb dL_acts_783 rfl (lv_at hl 0 rfl) ?_
        refine lv_iload hx hb dL_acts_784 (lv_at hl 3 rfl) ?_
        obtain ⟨y108, hy108, hf⟩ := obind hf
        obtain ⟨hny108, hf⟩ := ogd hf
        refine cgC_i (S := Nat → Nat → Nat) (ws := [k3_0 a aA aB aR aT aS vX, kPast cL a (pastF nh ad), k0_0 aA vA, k0_1 cI aA vA, k0_2 cI aA vA, k0_3 cI aA vA, k0_4 cI aA vA, k0_0 aB vB, k0_1 cI aB vB, k0_2 cI aB vB, k0_3 cI aB vB, k0_4 cI aB vB, kA1 cI ag 2 b107, kA1 cI ak 23 vk]) (pool := (kPool cI nh ad pv)) (wc := [k3_0 a aA aB aR aT aS vX, kPast cL a (pastF nh ad), k0_0 aA vA, k0_1 cI aA vA, k0_2 cI aA vA, k0_3 cI aA vA, k0_4 cI aA vA, k0_0 aB vB, k0_1 cI aB vB, k0_2 cI aB vB, k0_3 cI aB vB, k0_4 cI aB vB]) (wr := [kA1 cI ag 2 b107, kA1 cI ak 23 vk]) (w1 := fun u9 => [k3_0 a aA aB aR aT aS y108.2.1, kPast cL a (pastF (y108.2.2.1) u9), k0_0 aA y108.2.2.2.2.1, k0_1 cI aA y108.2.2.2.2.1, k0_2 cI aA y108.2.2.2.2.1, k0_3 cI aA y108.2.2.2.2.1, k0_4 cI aA y108.2.2.2.2.1, k0_0 aB y108.2.2.2.2.2, k0_1 cI aB y108.2.2.2.2.2, k0_2 cI aB y108.2.2.2.2.2, k0_3 cI aB y108.2.2.2.2.2, k0_4 cI aB y108.2.2.2.2.2]) (pool1 := fun u9 => kPool cI (y108.2.2.1) u9 (y108.2.2.2.1)) (wo := fun u9 => [k3_0 a aA aB aR aT aS y108.2.1, kPast cL a (pastF (y108.2.2.1) u9), k0_0 aA y108.2.2.2.2.1, k0_1 cI aA y108.2.2.2.2.1, k0_2 cI aA y108.2.2.2.2.1, k0_3 cI aA y108.2.2.2.2.1, k0_4 cI aA y108.2.2.2.2.1, k0_0 aB y108.2.2.2.2.2, k0_1 cI aB y108.2.2.2.2.2, k0_2 cI aB y108.2.2.2.2.2, k0_3 cI aB y108.2.2.2.2.2, k0_4 cI aB y108.2.2.2.2.2, kA1 cI ag 2 b107, kA1 cI ak 23 vk]) hP hD hS hA (va_runV (As := [.int x7]) (rest := []) ⟨hx, hb, hml, hown, hts⟩ (mX3_drop l dC dI cI cJ cL a aA aB aR aT aS ad H.size vX nh pv vA vB x7 hn y108 hy108) (cwV 1 hts gL_acts_X3_drop rfl rfl rfl (by decide +kernel) ⟨Nat.le_of_ble_eq_true rfl, Nat.le_of_ble_eq_true rfl⟩) ⟨cFB3, va_recv hK3 hP (ci := 3) (q0 := 0) rfl rfl, cPre3 hK3 hN hS (free_tail (wc := [k3_0 a aA aB aR aT aS vX, kPast cL a (pastF nh ad), k0_0 aA vA, k0_1 cI aA vA, k0_2 cI aA vA, k0_3 cI aA vA, k0_4 cI aA vA, k0_0 aB vB, k0_1 cI aB vB, k0_2 cI aB vB, k0_3 cI aB vB, k0_4 cI aB vB]) hD hS hA [0, 1, 2, 3, 4, 5, 6, 7, 8, 9, 10, 11] rfl) (subP_tail hP [0, 1, 2, 3, 4, 5, 6, 7, 8, 9, 10, 11] rfl) (subD_tail hD [0, 1, 2, 3, 4, 5, 6, 7, 8, 9, 10, 11] rfl rfl)⟩ rfl rfl hl.1 rfl (lv_room (Nat.le_of_ble_eq_true rfl)) dL_acts_786 ⟨Nat.le_of_ble_eq_true rfl, Nat.le_of_ble_eq_true rfl⟩) [0, 1, 2, 3, 4, 5, 6, 7, 8, 9, 10, 11] [12, 13] [2, 3, 4, 5, 6, 7, 8, 9, 10, 11, 12, 13, 0, 1] rfl rfl rfl (by decide +kernel) rfl (fun u9 => rfl) (fun uy108 H locs hP hD hS => ?_)
        refine W.widen (k := 5) (n := 28) (Nat.le_of_ble_eq_true rfl) (Nat.le_of_ble_eq_true rfl) ?_
        refine lv_aload_n hx hb dL_acts_789 rfl (lv_at hl 1 rfl) ?_
        refine lv_iconst (v := 1) hx hb dL_acts_790 (by decide) ?_
        refine va_iald hx hb hK hP 12 0 rfl rfl (vpc rfl) dL_acts_791 ?_
        refine lv_icmp_ne (tgt := 799) hx hb dL_acts_792 (by decide) (fun c109 => ?_) (fun c109 => ?_)
        · have hf := oif_f c109 hf
          refine lv_iconst (v := 0) hx hb dL_acts_799 (by decide) ?_
          obtain rfl := Option.some.inj hf
          refine W.widen (k := 20) (n := 112) (Nat.le_of_ble_eq_true rfl) (Nat.le_of_ble_eq_true rfl) ?_
          exact W.zret (v := 0) hx hb hr rfl (fun t ht hW => ⟨⟨0, uy108, rfl, rfl, by rw [ht]; exact hP, hD⟩, hS.F ht⟩) hS.2.2 dL_acts_800
        · have hf := oif_t c109 hf
          refine lv_iconst (v := 1) hx hb dL_acts_795 (by decide) ?_
          refine lv_goto (tgt := 800) hx hb dL_acts_796 (by decide) ?_
          obtain rfl := Option.some.inj hf
          refine W.widen (k := 20) (n := 112) (Nat.le_of_ble_eq_true rfl) (Nat.le_of_ble_eq_true rfl) ?_
          exact W.zret (v := 1) hx hb hr rfl (fun t ht hW => ⟨⟨1, uy108, rfl, rfl, by rw [ht]; exact hP, hD⟩, hS.F ht⟩) hS.2.2 dL_acts_800
      · have hf := oif_f c106 hf
        refine lv_aload_n hx hb dL_acts_702 rfl (lv_at hl 2 rfl) ?_
        refine lv_iload hx hb dL_acts_703 (lv_at hl 4 rfl) ?_
        refine lv_iconst (v := 1) hx hb dL_acts_705 (by decide) ?_
        refine lv_iadd hx hb dL_acts_706 ?_
        refine lv_aload_n hx hb dL_acts_707 rfl (lv_at hl 2 rfl) ?_
        refine lv_iload hx hb dL_acts_708 (lv_at hl 4 rfl) ?_
        refine lv_iconst (v := 2) hx hb dL_acts_710 (by decide) ?_
        refine lv_iadd hx hb dL_acts_711 ?_
        obtain ⟨hi110, hf⟩ := oinb rfl hf
        refine va_iald hx hb hK hP 13 0 rfl rfl hi110 dL_acts_712 ?_
        obtain ⟨hi111, hf⟩ := oinb rfl hf
        obtain ⟨b112, eb112, hf⟩ := elet_out hf
        refine va_iast hx hb hK hP hD hS 13 0 rfl rfl hi111 dL_acts_713 (fun H locs hP hD hS => ?_)
        have hP : va_P (dC, dI) vwCl ([k3_0 a aA aB aR aT aS vX, kPast cL a (pastF nh ad), k0_0 aA vA, k0_1 cI aA vA, k0_2 cI aA vA, k0_3 cI aA vA, k0_4 cI aA vA, k0_0 aB vB, k0_1 cI aB vB, k0_2 cI aB vB, k0_3 cI aB vB, k0_4 cI aB vB, kA1 cI ag 2 vg, kA1 cI ak 23 b112] ++ kPool cI nh ad pv) H := by rw [eb112]; exact hP
        have hD : va_D A ([k3_0 a aA aB aR aT aS vX, kPast cL a (pastF nh ad), k0_0 aA vA, k0_1 cI aA vA, k0_2 cI aA vA, k0_3 cI aA vA, k0_4 cI aA vA, k0_0 aB vB, k0_1 cI aB vB, k0_2 cI aB vB, k0_3 cI aB vB, k0_4 cI aB vB, kA1 cI ag 2 vg, kA1 cI ak 23 b112] ++ kPool cI nh ad pv) := by rw [eb112]; exact hD
        refine lv_aload_n hx hb dL_acts_714 rfl (lv_at hl 2 rfl) ?_
        refine lv_bipush (v := 6) hx hb dL_acts_715 (by decide) ?_
        refine lv_iload hx hb dL_acts_717 (lv_at hl 4 rfl) ?_
        refine lv_iadd hx hb dL_acts_719 ?_
        refine lv_aload_n hx hb dL_acts_720 rfl (lv_at hl 2 rfl) ?_
        refine lv_bipush (v := 7) hx hb dL_acts_721 (by decide) ?_
        refine lv_iload hx hb dL_acts_723 (lv_at hl 4 rfl) ?_
        refine lv_iadd hx hb dL_acts_725 ?_
        obtain ⟨hi113, hf⟩ := oinb rfl hf
        refine va_iald hx hb hK hP 13 0 rfl rfl hi113 dL_acts_726 ?_
        obtain ⟨hi114, hf⟩ := oinb rfl hf
        obtain ⟨b115, eb115, hf⟩ := elet_out hf
        refine va_iast hx hb hK hP hD hS 13 0 rfl rfl hi114 dL_acts_727 (fun H locs hP hD hS => ?_)
        have hP : va_P (dC, dI) vwCl ([k3_0 a aA aB aR aT aS vX, kPast cL a (pastF nh ad), k0_0 aA vA, k0_1 cI aA vA, k0_2 cI aA vA, k0_3 cI aA vA, k0_4 cI aA vA, k0_0 aB vB, k0_1 cI aB vB, k0_2 cI aB vB, k0_3 cI aB vB, k0_4 cI aB vB, kA1 cI ag 2 vg, kA1 cI ak 23 b115] ++ kPool cI nh ad pv) H := by rw [eb115]; exact hP
        have hD : va_D A ([k3_0 a aA aB aR aT aS vX, kPast cL a (pastF nh ad), k0_0 aA vA, k0_1 cI aA vA, k0_2 cI aA vA, k0_3 cI aA vA, k0_4 cI aA vA, k0_0 aB vB, k0_1 cI aB vB, k0_2 cI aB vB, k0_3 cI aB vB, k0_4 cI aB vB, kA1 cI ag 2 vg, kA1 cI ak 23 b115] ++ kPool cI nh ad pv) := by rw [eb115]; exact hD
        refine lv_aload_n hx hb dL_acts_728 rfl (lv_at hl 2 rfl) ?_
        refine lv_bipush (v := 10) hx hb dL_acts_729 (by decide) ?_
        refine lv_iload hx hb dL_acts_731 (lv_at hl 4 rfl) ?_
        refine lv_iadd hx hb dL_acts_733 ?_
        refine lv_aload_n hx hb dL_acts_734 rfl (lv_at hl 2 rfl) ?_
        refine lv_bipush (v := 11) hx hb dL_acts_735 (by decide) ?_
        refine lv_iload hx hb dL_acts_737 (lv_at hl 4 rfl) ?_
        refine lv_iadd hx hb dL_acts_739 ?_
        obtain ⟨hi116, hf⟩ := oinb rfl hf
        refine va_iald hx hb hK hP 13 0 rfl rfl hi116 dL_acts_740 ?_
        obtain ⟨hi117, hf⟩ := oinb rfl hf
        obtain ⟨b118, eb118, hf⟩ := elet_out hf
        refine va_iast hx hb hK hP hD hS 13 0 rfl rfl hi117 dL_acts_741 (fun H locs hP hD hS => ?_)
        have hP : va_P (dC, dI) vwCl ([k3_0 a aA aB aR aT aS vX, kPast cL a (pastF nh ad), k0_0 aA vA, k0_1 cI aA vA, k0_2 cI aA vA, k0_3 cI aA vA, k0_4 cI aA vA, k0_0 aB vB, k0_1 cI aB vB, k0_2 cI aB vB, k0_3 cI aB vB, k0_4 cI aB vB, kA1 cI ag 2 vg, kA1 cI ak 23 b118] ++ kPool cI nh ad pv) H := by rw [eb118]; exact hP
        have hD : va_D A ([k3_0 a aA aB aR aT aS vX, kPast cL a (pastF nh ad), k0_0 aA vA, k0_1 cI aA vA, k0_2 cI aA vA, k0_3 cI aA vA, k0_4 cI aA vA, k0_0 aB vB, k0_1 cI aB vB, k0_2 cI aB vB, k0_3 cI aB vB, k0_4 cI aB vB, kA1 cI ag 2 vg, kA1 cI ak 23 b118] ++ kPool cI nh ad pv) := by rw [eb118]; exact hD
        refine lv_aload_n hx hb dL_acts_742 rfl (lv_at hl 2 rfl) ?_
        refine lv_bipush (v := 14) hx hb dL_acts_743 (by decide) ?_
        refine lv_iload hx hb dL_acts_745 (lv_at hl 4 rfl) ?_
        refine lv_iadd hx hb dL_acts_747 ?_
        refine lv_aload_n hx hb dL_acts_748 rfl (lv_at hl 2 rfl) ?_
        refine lv_bipush (v := 15) hx hb dL_acts_749 (by decide) ?_
        refine lv_iload hx hb dL_acts_751 (lv_at hl 4 rfl) ?_
        refine lv_iadd hx hb dL_acts_753 ?_
        obtain ⟨hi119, hf⟩ := oinb rfl hf
        refine va_iald hx hb hK hP 13 0 rfl rfl hi119 dL_acts_754 ?_
        obtain ⟨hi120, hf⟩ := oinb rfl hf
        obtain ⟨b121, eb121, hf⟩ := elet_out hf
        refine va_iast hx hb hK hP hD hS 13 0 rfl rfl hi120 dL_acts_755 (fun H locs hP hD hS => ?_)
        have hP : va_P (dC, dI) vwCl ([k3_0 a aA aB aR aT aS vX, kPast cL a (pastF nh ad), k0_0 aA vA, k0_1 cI aA vA, k0_2 cI aA vA, k0_3 cI aA vA, k0_4 cI aA vA, k0_0 aB vB, k0_1 cI aB vB, k0_2 cI aB vB, k0_3 cI aB vB, k0_4 cI aB vB, kA1 cI ag 2 vg, kA1 cI ak 23 b121] ++ kPool cI nh ad pv) H := by rw [eb121]; exact hP
        have hD : va_D A ([k3_0 a aA aB aR aT aS vX, kPast cL a (pastF nh ad), k0_0 aA vA, k0_1 cI aA vA, k0_2 cI aA vA, k0_3 cI aA vA, k0_4 cI aA vA, k0_0 aB vB, k0_1 cI aB vB, k0_2 cI aB vB, k0_3 cI aB vB, k0_4 cI aB vB, kA1 cI ag 2 vg, kA1 cI ak 23 b121] ++ kPool cI nh ad pv) := by rw [eb121]; exact hD
        refine lv_aload_n hx hb dL_acts_756 rfl (lv_at hl 2 rfl) ?_
        refine lv_bipush (v := 18) hx hb dL_acts_757 (by decide) ?_
        refine lv_iload hx hb dL_acts_759 (lv_at hl 4 rfl) ?_
        refine lv_iadd hx hb dL_acts_761 ?_
        refine lv_aload_n hx hb dL_acts_762 rfl (lv_at hl 2 rfl) ?_
        refine lv_bipush (v := 19) hx hb dL_acts_763 (by decide) ?_
        refine lv_iload hx hb dL_acts_765 (lv_at hl 4 rfl) ?_
        refine lv_iadd hx hb dL_acts_767 ?_
        obtain ⟨hi122, hf⟩ := oinb rfl hf
        refine va_iald hx hb hK hP 13 0 rfl rfl hi122 dL_acts_768 ?_
        obtain ⟨hi123, hf⟩ := oinb rfl hf
        obtain ⟨b124, eb124, hf⟩ := elet_out hf
        refine va_iast hx hb hK hP hD hS 13 0 rfl rfl hi123 dL_acts_769 (fun H locs hP hD hS => ?_)
        have hP : va_P (dC, dI) vwCl ([k3_0 a aA aB aR aT aS vX, kPast cL a (pastF nh ad), k0_0 aA vA, k0_1 cI aA vA, k0_2 cI aA vA, k0_3 cI aA vA, k0_4 cI aA vA, k0_0 aB vB, k0_1 cI aB vB, k0_2 cI aB vB, k0_3 cI aB vB, k0_4 cI aB vB, kA1 cI ag 2 vg, kA1 cI ak 23 b124] ++ kPool cI nh ad pv) H := by rw [eb124]; exact hP
        have hD : va_D A ([k3_0 a aA aB aR aT aS vX, kPast cL a (pastF nh ad), k0_0 aA vA, k0_1 cI aA vA, k0_2 cI aA vA, k0_3 cI aA vA, k0_4 cI aA vA, k0_0 aB vB, k0_1 cI aB vB, k0_2 cI aB vB, k0_3 cI aB vB, k0_4 cI aB vB, kA1 cI ag 2 vg, kA1 cI ak 23 b124] ++ kPool cI nh ad pv) := by rw [eb124]; exact hD
        obtain ⟨z125, ez125, hf⟩ := elet_out hf
        refine lv_iinc (v := z125) (lv' := [(10, .int z125), (0, .ref (a 0)), (1, .ref ag), (2, .ref ak), (7, .int x7)]) hx hb dL_acts_770 hl (k := 4) rfl (by rw [ez125]; rfl) (by decide) rfl (fun ls hl => ?_)
        refine lv_goto (tgt := 696) hx hb dL_acts_773 (by decide) ?_
        exact (hWW _ _ _ _ _ _ _).1 (hk696 vX vA vB vg b124 x7 z125 H locs ls hP hD hS (lv_sub hl [1, 2, 3, 4, 0] rfl) hf)
  have J123 : ∀ (vX : BX3) (vA : BX0) (vB : BX0) (vg : (Nat → Int32)) (vk : (Nat → Int32)) (x4 : Int32) (x5 : Int32) (x6 : Int32) (H : Heap) (locs : List Loc) (ls : Array Slot), va_P (dC, dI) vwCl ([k3_0 a aA aB aR aT aS vX, kPast cL a (pastF nh ad), k0_0 aA vA, k0_1 cI aA vA, k0_2 cI aA vA, k0_3 cI aA vA, k0_4 cI aA vA, k0_0 aB vB, k0_1 cI aB vB, k0_2 cI aB vB, k0_3 cI aB vB, k0_4 cI aB vB, kA1 cI ag 2 vg, kA1 cI ak 23 vk] ++ kPool cI nh ad pv) H → va_D A ([k3_0 a aA aB aR aT aS vX, kPast cL a (pastF nh ad), k0_0 aA vA, k0_1 cI aA vA, k0_2 cI aA vA, k0_3 cI aA vA, k0_4 cI aA vA, k0_0 aB vB, k0_1 cI aB vB, k0_2 cI aB vB, k0_3 cI aB vB, k0_4 cI aB vB, kA1 cI ag 2 vg, kA1 cI ak 23 vk] ++ kPool cI nh ad pv) → va_S A s.heap H locs → lv_has ls 13 [(0, .ref (a 0)), (1, .ref ag), (2, .ref ak), (4, .int x4), (5, .int x5), (6, .int x6)] → fL_acts_123 vX nh pv vA vB vg vk x4 x5 x6 = some y → WW H locs 0 0 ls 123 [] := by
    intro vX vA vB vg vk x4 x5 x6 H locs ls hP hD hS hl hf
    unfold fL_acts_123 at hf
    refine (hWW _ _ _ _ _ _ _).2 ?_
    refine lv_iload hx hb dL_acts_123 (lv_at hl 4 rfl) ?_
    refine lv_iconst (v := 4) hx hb dL_acts_125 (by decide) ?_
    refine lv_icmp_ge (tgt := 220) hx hb dL_acts_126 (by decide) (fun c17 => ?_) (fun c17 => ?_)
    · have hf := oif_t c17 hf
      refine lv_iload hx hb dL_acts_220 (lv_at hl 4 rfl) ?_
      refine lv_iconst (v := 4) hx hb dL_acts_222 (by decide) ?_
      refine lv_icmp_ne (tgt := 338) hx hb dL_acts_223 (by decide) (fun c18 => ?_) (fun c18 => ?_)
      · have hf := oif_f c18 hf
        refine lv_iload hx hb dL_acts_338 (lv_at hl 5 rfl) ?_
        refine lv_if_ne (tgt := 393) hx hb dL_acts_340 (by decide) (fun c19 => ?_) (fun c19 => ?_)
        · have hf := oif_f c19 hf
          refine lv_iload hx hb dL_acts_393 (lv_at hl 3 rfl) ?_
          refine lv_iload hx hb dL_acts_395 (lv_at hl 5 rfl) ?_
          obtain ⟨hd20, hf⟩ := odiv hf
          refine lv_irem hx hb dL_acts_397 hd20 ?_
          obtain ⟨z21, ez21, hf⟩ := elet_out hf
          refine lvn_i ez21 ?_
          refine lv_istore (lv' := [(7, .int z21), (0, .ref (a 0)), (1, .ref ag), (2, .ref ak), (4, .int x4), (5, .int x5), (6, .int x6)]) hx hb dL_acts_398 hl (by decide) rfl (fun ls hl => ?_)
          refine lv_iload hx hb dL_acts_400 (lv_at hl 5 rfl) ?_
          refine lv_bipush (v := 11) hx hb dL_acts_402 (by decide) ?_
          refine lv_icmp_ge (tgt := 495) hx hb dL_acts_404 (by decide) (fun c22 => ?_) (fun c22 => ?_)
          · have hf := oif_t c22 hf
            refine lv_iload hx hb dL_acts_495 (lv_at hl 4 rfl) ?_
            refine lv_iconst (v := 4) hx hb dL_acts_497 (by decide) ?_
            refine lv_idiv hx hb dL_acts_498 (by decide) ?_
            refine lv_iconst (v := 2) hx hb dL_acts_499 (by decide) ?_
            refine lv_irem hx hb dL_acts_500 (by decide) ?_
            obtain ⟨z23, ez23, hf⟩ := elet_out hf
            refine lvn_i ez23 ?_
            refine lv_istore (lv' := [(8, .int z23), (7, .int z21), (0, .ref (a 0)), (1, .ref ag), (2, .ref ak), (4, .int x4), (5, .int x5), (6, .int x6)]) hx hb dL_acts_501 hl (by decide) rfl (fun ls hl => ?_)
            refine lv_bipush (v := 14) hx hb dL_acts_503 (by decide) ?_
            refine lv_iconst (v := 4) hx hb dL_acts_505 (by decide) ?_
            refine lv_iload hx hb dL_acts_506 (lv_at hl 0 rfl) ?_
            refine lv_imul hx hb dL_acts_508 ?_
            refine lv_iadd hx hb dL_acts_509 ?_
            refine lv_iload hx hb dL_acts_510 (lv_at hl 1 rfl) ?_
            refine lv_iadd hx hb dL_acts_512 ?_
            obtain ⟨z24, ez24, hf⟩ := elet_out hf
            refine lvn_i ez24 ?_
            refine lv_istore (lv' := [(9, .int z24), (8, .int z23), (7, .int z21), (0, .ref (a 0)), (1, .ref ag), (2, .ref ak), (4, .int x4), (5, .int x5), (6, .int x6)]) hx hb dL_acts_513 hl (by decide) rfl (fun ls hl => ?_)
            refine lv_iload hx hb dL_acts_515 (lv_at hl 7 rfl) ?_
            refine lv_bipush (v := 20) hx hb dL_acts_517 (by decide) ?_
            refine lv_icmp_ge (tgt := 603) hx hb dL_acts_519 (by decide) (fun c25 => ?_) (fun c25 => ?_)
            · have hf := oif_t c25 hf
              refine lv_iload hx hb dL_acts_603 (lv_at hl 7 rfl) ?_
              refine lv_bipush (v := 23) hx hb dL_acts_605 (by decide) ?_
              refine lv_icmp_ge (tgt := 650) hx hb dL_acts_607 (by decide) (fun c26 => ?_) (fun c26 => ?_)
              · have hf := oif_t c26 hf
                refine lv_iload hx hb dL_acts_650 (lv_at hl 6 rfl) ?_
                refine lv_bipush (v := 8) hx hb dL_acts_652 (by decide) ?_
                refine lv_idiv hx hb dL_acts_654 (by decide) ?_
                refine lv_iconst (v := 3) hx hb dL_acts_655 (by decide) ?_
                refine lv_irem hx hb dL_acts_656 (by decide) ?_
                refine lv_if_le (tgt := 692) hx hb dL_acts_657 (by decide) (fun c27 => ?_) (fun c27 => ?_)
                · have hf := oif_t c27 hf
                  refine lv_iload hx hb dL_acts_692 (lv_at hl 2 rfl) ?_
                  refine lv_istore (lv' := [(10, .int z21), (9, .int z24), (8, .int z23), (7, .int z21), (0, .ref (a 0)), (1, .ref ag), (2, .ref ak), (4, .int x4), (5, .int x5), (6, .int x6)]) hx hb dL_acts_694 hl (by decide) rfl (fun ls hl => ?_)
                  exact (hWW _ _ _ _ _ _ _).1 (L696 FU vX vA vB vg vk z21 z21 H locs ls hP hD hS (lv_sub hl [4, 5, 6, 3, 0] rfl) hf)
                · have hf := oif_f c27 hf
                  refine lv_aload_n hx hb dL_acts_660 rfl (lv_at hl 3 rfl) ?_
                  refine lv_iconst (v := 4) hx hb dL_acts_661 (by decide) ?_
                  refine lv_iconst (v := 0) hx hb dL_acts_662 (by decide) ?_
                  obtain ⟨y28, hy28, hf⟩ := obind hf
                  obtain ⟨hny28, hf⟩ := ogd hf
                  refine cgC_i (S := Nat → Nat → Nat) (ws := [k3_0 a aA aB aR aT aS vX, kPast cL a (pastF nh ad), k0_0 aA vA, k0_1 cI aA vA, k0_2 cI aA vA, k0_3 cI aA vA, k0_4 cI aA vA, k0_0 aB vB, k0_1 cI aB vB, k0_2 cI aB vB, k0_3 cI aB vB, k0_4 cI aB vB, kA1 cI ag 2 vg, kA1 cI ak 23 vk]) (pool := (kPool cI nh ad pv)) (wc := [k3_0 a aA aB aR aT aS vX, kPast cL a (pastF nh ad), k0_0 aA vA, k0_1 cI aA vA, k0_2 cI aA vA, k0_3 cI aA vA, k0_4 cI aA vA, k0_0 aB vB, k0_1 cI aB vB, k0_2 cI aB vB, k0_3 cI aB vB, k0_4 cI aB vB]) (wr := [kA1 cI ag 2 vg, kA1 cI ak 23 vk]) (w1 := fun u9 => [k3_0 a aA aB aR aT aS y28.2.1, kPast cL a (pastF (y28.2.2.1) u9), k0_0 aA y28.2.2.2.2.1, k0_1 cI aA y28.2.2.2.2.1, k0_2 cI aA y28.2.2.2.2.1, k0_3 cI aA y28.2.2.2.2.1, k0_4 cI aA y28.2.2.2.2.1, k0_0 aB y28.2.2.2.2.2, k0_1 cI aB y28.2.2.2.2.2, k0_2 cI aB y28.2.2.2.2.2, k0_3 cI aB y28.2.2.2.2.2, k0_4 cI aB y28.2.2.2.2.2]) (pool1 := fun u9 => kPool cI (y28.2.2.1) u9 (y28.2.2.2.1)) (wo := fun u9 => [k3_0 a aA aB aR aT aS y28.2.1, kPast cL a (pastF (y28.2.2.1) u9), k0_0 aA y28.2.2.2.2.1, k0_1 cI aA y28.2.2.2.2.1, k0_2 cI aA y28.2.2.2.2.1, k0_3 cI aA y28.2.2.2.2.1, k0_4 cI aA y28.2.2.2.2.1, k0_0 aB y28.2.2.2.2.2, k0_1 cI aB y28.2.2.2.2.2, k0_2 cI aB y28.2.2.2.2.2, k0_3 cI aB y28.2.2.2.2.2, k0_4 cI aB y28.2.2.2.2.2, kA1 cI ag 2 vg, kA1 cI ak 23 vk]) hP hD hS hA (va_runV (As := [.int 4, .int 0]) (rest := []) ⟨hx, hb, hml, hown, hts⟩ (mX3_load l dC dI cI cJ cL a aA aB aR aT aS ad H.size vX nh pv vA vB (4 : Int32) (0 : Int32) hn y28 hy28) (cwV 2 hts gL_acts_X3_load rfl rfl rfl (by decide +kernel) ⟨Nat.le_of_ble_eq_true rfl, Nat.le_of_ble_eq_true rfl⟩) ⟨cFB3, va_recv hK3 hP (ci := 3) (q0 := 0) rfl rfl, cPre3 hK3 hN hS (free_tail (wc := [k3_0 a aA aB aR aT aS vX, kPast cL a (pastF nh ad), k0_0 aA vA, k0_1 cI aA vA, k0_2 cI aA vA, k0_3 cI aA vA, k0_4 cI aA vA, k0_0 aB vB, k0_1 cI aB vB, k0_2 cI aB vB, k0_3 cI aB vB, k0_4 cI aB vB]) hD hS hA [0, 1, 2, 3, 4, 5, 6, 7, 8, 9, 10, 11] rfl) (subP_tail hP [0, 1, 2, 3, 4, 5, 6, 7, 8, 9, 10, 11] rfl) (subD_tail hD [0, 1, 2, 3, 4, 5, 6, 7, 8, 9, 10, 11] rfl rfl)⟩ rfl rfl hl.1 rfl (lv_room (Nat.le_of_ble_eq_true rfl)) dL_acts_663 ⟨Nat.le_of_ble_eq_true rfl, Nat.le_of_ble_eq_true rfl⟩) [0, 1, 2, 3, 4, 5, 6, 7, 8, 9, 10, 11] [12, 13] [2, 3, 4, 5, 6, 7, 8, 9, 10, 11, 12, 13, 0, 1] rfl rfl rfl (by decide +kernel) rfl (fun u9 => rfl) (fun uy28 H locs hP hD hS => ?_)
                  refine W.widen (k := 5) (n := 28) (Nat.le_of_ble_eq_true rfl) (Nat.le_of_ble_eq_true rfl) ?_
                  refine lv_ldc (v := (-1000001)) hx hb hown hc64 dL_acts_666 ?_
                  refine lv_icmp_ne (tgt := 690) hx hb dL_acts_668 (by decide) (fun c29 => ?_) (fun c29 => ?_)
                  · have hf := oif_f c29 hf
                    refine lv_iconst (v := 0) hx hb dL_acts_690 (by decide) ?_
                    obtain rfl := Option.some.inj hf
                    refine W.widen (k := 20) (n := 112) (Nat.le_of_ble_eq_true rfl) (Nat.le_of_ble_eq_true rfl) ?_
                    exact W.zret (v := 0) hx hb hr rfl (fun t ht hW => ⟨⟨0, uy28, rfl, rfl, by rw [ht]; exact hP, hD⟩, hS.F ht⟩) hS.2.2 dL_acts_691
                  · have hf := oif_t c29 hf
                    refine lv_aload_n hx hb dL_acts_671 rfl (lv_at hl 3 rfl) ?_
                    refine lv_iload hx hb dL_acts_672 (lv_at hl 8 rfl) ?_
                    refine lv_iconst (v := 1) hx hb dL_acts_674 (by decide) ?_
                    refine lv_iadd hx hb dL_acts_675 ?_
                    refine lv_iconst (v := 1) hx hb dL_acts_676 (by decide) ?_
                    refine lv_iconst (v := 1) hx hb dL_acts_677 (by decide) ?_
                    obtain ⟨y30, hy30, hf⟩ := obind hf
                    obtain ⟨hny30, hf⟩ := ogd hf
                    refine cgC_i (S := Nat → Nat → Nat) (ws := [k3_0 a aA aB aR aT aS y28.2.1, kPast cL a (pastF (y28.2.2.1) uy28), k0_0 aA y28.2.2.2.2.1, k0_1 cI aA y28.2.2.2.2.1, k0_2 cI aA y28.2.2.2.2.1, k0_3 cI aA y28.2.2.2.2.1, k0_4 cI aA y28.2.2.2.2.1, k0_0 aB y28.2.2.2.2.2, k0_1 cI aB y28.2.2.2.2.2, k0_2 cI aB y28.2.2.2.2.2, k0_3 cI aB y28.2.2.2.2.2, k0_4 cI aB y28.2.2.2.2.2, kA1 cI ag 2 vg, kA1 cI ak 23 vk]) (pool := (kPool cI (y28.2.2.1) uy28 (y28.2.2.2.1))) (wc := [k3_0 a aA aB aR aT aS y28.2.1, kPast cL a (pastF (y28.2.2.1) uy28), k0_0 aA y28.2.2.2.2.1, k0_1 cI aA y28.2.2.2.2.1, k0_2 cI aA y28.2.2.2.2.1, k0_3 cI aA y28.2.2.2.2.1, k0_4 cI aA y28.2.2.2.2.1, k0_0 aB y28.2.2.2.2.2, k0_1 cI aB y28.2.2.2.2.2, k0_2 cI aB y28.2.2.2.2.2, k0_3 cI aB y28.2.2.2.2.2, k0_4 cI aB y28.2.2.2.2.2]) (wr := [kA1 cI ag 2 vg, kA1 cI ak 23 vk]) (w1 := fun u9 => [k3_0 a aA aB aR aT aS y30.2.1, kPast cL a (pastF (y30.2.2.1) u9), k0_0 aA y30.2.2.2.2.1, k0_1 cI aA y30.2.2.2.2.1, k0_2 cI aA y30.2.2.2.2.1, k0_3 cI aA y30.2.2.2.2.1, k0_4 cI aA y30.2.2.2.2.1, k0_0 aB y30.2.2.2.2.2, k0_1 cI aB y30.2.2.2.2.2, k0_2 cI aB y30.2.2.2.2.2, k0_3 cI aB y30.2.2.2.2.2, k0_4 cI aB y30.2.2.2.2.2]) (pool1 := fun u9 => kPool cI (y30.2.2.1) u9 (y30.2.2.2.1)) (wo := fun u9 => [k3_0 a aA aB aR aT aS y30.2.1, kPast cL a (pastF (y30.2.2.1) u9), k0_0 aA y30.2.2.2.2.1, k0_1 cI aA y30.2.2.2.2.1, k0_2 cI aA y30.2.2.2.2.1, k0_3 cI aA y30.2.2.2.2.1, k0_4 cI aA y30.2.2.2.2.1, k0_0 aB y30.2.2.2.2.2, k0_1 cI aB y30.2.2.2.2.2, k0_2 cI aB y30.2.2.2.2.2, k0_3 cI aB y30.2.2.2.2.2, k0_4 cI aB y30.2.2.2.2.2, kA1 cI ag 2 vg, kA1 cI ak 23 vk]) hP hD hS hA (va_runV (As := [.int (x6 + (1 : Int32)), .int 1, .int 1]) (rest := []) ⟨hx, hb, hml, hown, hts⟩ (mX3_spring l dC dI cI cJ cL a aA aB aR aT aS uy28 H.size y28.2.1 (y28.2.2.1) (y28.2.2.2.1) y28.2.2.2.2.1 y28.2.2.2.2.2 (x6 + (1 : Int32)) (1 : Int32) (1 : Int32) hny28 y30 hy30) (cwV 3 hts gL_acts_X3_spring rfl rfl rfl (by decide +kernel) ⟨Nat.le_of_ble_eq_true rfl, Nat.le_of_ble_eq_true rfl⟩) ⟨cFB3, va_recv hK3 hP (ci := 3) (q0 := 0) rfl rfl, cPre3 hK3 hN hS (free_tail (wc := [k3_0 a aA aB aR aT aS y28.2.1, kPast cL a (pastF (y28.2.2.1) uy28), k0_0 aA y28.2.2.2.2.1, k0_1 cI aA y28.2.2.2.2.1, k0_2 cI aA y28.2.2.2.2.1, k0_3 cI aA y28.2.2.2.2.1, k0_4 cI aA y28.2.2.2.2.1, k0_0 aB y28.2.2.2.2.2, k0_1 cI aB y28.2.2.2.2.2, k0_2 cI aB y28.2.2.2.2.2, k0_3 cI aB y28.2.2.2.2.2, k0_4 cI aB y28.2.2.2.2.2]) hD hS hA [0, 1, 2, 3, 4, 5, 6, 7, 8, 9, 10, 11] rfl) (subP_tail hP [0, 1, 2, 3, 4, 5, 6, 7, 8, 9, 10, 11] rfl) (subD_tail hD [0, 1, 2, 3, 4, 5, 6, 7, 8, 9, 10, 11] rfl rfl)⟩ rfl rfl hl.1 rfl (lv_room (Nat.le_of_ble_eq_true rfl)) dL_acts_678 ⟨Nat.le_of_ble_eq_true rfl, Nat.le_of_ble_eq_true rfl⟩) [0, 1, 2, 3, 4, 5, 6, 7, 8, 9, 10, 11] [12, 13] [2, 3, 4, 5, 6, 7, 8, 9, 10, 11, 12, 13, 0, 1] rfl rfl rfl (by decide +kernel) rfl (fun u9 => rfl) (fun uy30 H locs hP hD hS => ?_)
                    refine W.widen (k := 10) (n := 56) (Nat.le_of_ble_eq_true rfl) (Nat.le_of_ble_eq_true rfl) ?_
                    refine lv_ldc (v := (-1000001)) hx hb hown hc64 dL_acts_681 ?_
                    refine lv_icmp_ne (tgt := 690) hx hb dL_acts_683 (by decide) (fun c31 => ?_) (fun c31 => ?_)
                    · have hf := oif_f c31 hf
                      refine lv_iconst (v := 0) hx hb dL_acts_690 (by decide) ?_
                      obtain rfl := Option.some.inj hf
                      refine W.widen (k := 20) (n := 112) (Nat.le_of_ble_eq_true rfl) (Nat.le_of_ble_eq_true rfl) ?_
                      exact W.zret (v := 0) hx hb hr rfl (fun t ht hW => ⟨⟨0, uy30, rfl, rfl, by rw [ht]; exact hP, hD⟩, hS.F ht⟩) hS.2.2 dL_acts_691
                    · have hf := oif_t c31 hf
                      refine lv_iconst (v := 1) hx hb dL_acts_686 (by decide) ?_
                      refine lv_goto (tgt := 691) hx hb dL_acts_687 (by decide) ?_
                      obtain rfl := Option.some.inj hf
                      refine W.widen (k := 20) (n := 112) (Nat.le_of_ble_eq_true rfl) (Nat.le_of_ble_eq_true rfl) ?_
                      exact W.zret (v := 1) hx hb hr rfl (fun t ht hW => ⟨⟨1, uy30, rfl, rfl, by rw [ht]; exact hP, hD⟩, hS.F ht⟩) hS.2.2 dL_acts_691
              · have hf := oif_f c26 hf
                refine lv_aload_n hx hb dL_acts_610 rfl (lv_at hl 5 rfl) ?_
                refine lv_iload hx hb dL_acts_611 (lv_at hl 0 rfl) ?_
                obtain ⟨hi32, hf⟩ := oinb rfl hf
                refine va_iald hx hb hK hP 13 0 rfl rfl hi32 dL_acts_613 ?_
                obtain ⟨z33, ez33, hf⟩ := elet_out hf
                refine lvn_i ez33 ?_
                refine lv_istore (lv' := [(10, .int z33), (9, .int z24), (8, .int z23), (7, .int z21), (0, .ref (a 0)), (1, .ref ag), (2, .ref ak), (4, .int x4), (5, .int x5), (6, .int x6)]) hx hb dL_acts_614 hl (by decide) rfl (fun ls hl => ?_)
                refine lv_aload_n hx hb dL_acts_616 rfl (lv_at hl 6 rfl) ?_
                refine lv_iload hx hb dL_acts_617 (lv_at hl 1 rfl) ?_
                refine lv_iconst (v := (-1)) hx hb dL_acts_619 (by decide) ?_
                obtain ⟨hi34, hf⟩ := oinb rfl hf
                obtain ⟨b35, eb35, hf⟩ := elet_out hf
                refine va_iast hx hb hK hP hD hS 13 0 rfl rfl hi34 dL_acts_620 (fun H locs hP hD hS => ?_)
                have hP : va_P (dC, dI) vwCl ([k3_0 a aA aB aR aT aS vX, kPast cL a (pastF nh ad), k0_0 aA vA, k0_1 cI aA vA, k0_2 cI aA vA, k0_3 cI aA vA, k0_4 cI aA vA, k0_0 aB vB, k0_1 cI aB vB, k0_2 cI aB vB, k0_3 cI aB vB, k0_4 cI aB vB, kA1 cI ag 2 vg, kA1 cI ak 23 b35] ++ kPool cI nh ad pv) H := by rw [eb35]; exact hP
                have hD : va_D A ([k3_0 a aA aB aR aT aS vX, kPast cL a (pastF nh ad), k0_0 aA vA, k0_1 cI aA vA, k0_2 cI aA vA, k0_3 cI aA vA, k0_4 cI aA vA, k0_0 aB vB, k0_1 cI aB vB, k0_2 cI aB vB, k0_3 cI aB vB, k0_4 cI aB vB, kA1 cI ag 2 vg, kA1 cI ak 23 b35] ++ kPool cI nh ad pv) := by rw [eb35]; exact hD
                refine lv_aload_n hx hb dL_acts_621 rfl (lv_at hl 4 rfl) ?_
                refine lv_iload hx hb dL_acts_622 (lv_at hl 3 rfl) ?_
                refine lv_iload hx hb dL_acts_624 (lv_at hl 2 rfl) ?_
                obtain ⟨y36, hy36, hf⟩ := obind hf
                obtain ⟨hny36, hf⟩ := ogd hf
                refine cgC_i (S := Nat → Nat → Nat) (ws := [k3_0 a aA aB aR aT aS vX, kPast cL a (pastF nh ad), k0_0 aA vA, k0_1 cI aA vA, k0_2 cI aA vA, k0_3 cI aA vA, k0_4 cI aA vA, k0_0 aB vB, k0_1 cI aB vB, k0_2 cI aB vB, k0_3 cI aB vB, k0_4 cI aB vB, kA1 cI ag 2 vg, kA1 cI ak 23 b35]) (pool := (kPool cI nh ad pv)) (wc := [k3_0 a aA aB aR aT aS vX, kPast cL a (pastF nh ad), k0_0 aA vA, k0_1 cI aA vA, k0_2 cI aA vA, k0_3 cI aA vA, k0_4 cI aA vA, k0_0 aB vB, k0_1 cI aB vB, k0_2 cI aB vB, k0_3 cI aB vB, k0_4 cI aB vB]) (wr := [kA1 cI ag 2 vg, kA1 cI ak 23 b35]) (w1 := fun u9 => [k3_0 a aA aB aR aT aS y36.2.1, kPast cL a (pastF (y36.2.2.1) u9), k0_0 aA y36.2.2.2.2.1, k0_1 cI aA y36.2.2.2.2.1, k0_2 cI aA y36.2.2.2.2.1, k0_3 cI aA y36.2.2.2.2.1, k0_4 cI aA y36.2.2.2.2.1, k0_0 aB y36.2.2.2.2.2, k0_1 cI aB y36.2.2.2.2.2, k0_2 cI aB y36.2.2.2.2.2, k0_3 cI aB y36.2.2.2.2.2, k0_4 cI aB y36.2.2.2.2.2]) (pool1 := fun u9 => kPool cI (y36.2.2.1) u9 (y36.2.2.2.1)) (wo := fun u9 => [k3_0 a aA aB aR aT aS y36.2.1, kPast cL a (pastF (y36.2.2.1) u9), k0_0 aA y36.2.2.2.2.1, k0_1 cI aA y36.2.2.2.2.1, k0_2 cI aA y36.2.2.2.2.1, k0_3 cI aA y36.2.2.2.2.1, k0_4 cI aA y36.2.2.2.2.1, k0_0 aB y36.2.2.2.2.2, k0_1 cI aB y36.2.2.2.2.2, k0_2 cI aB y36.2.2.2.2.2, k0_3 cI aB y36.2.2.2.2.2, k0_4 cI aB y36.2.2.2.2.2, kA1 cI ag 2 vg, kA1 cI ak 23 b35]) hP hD hS hA (va_runV (As := [.int z21, .int z23]) (rest := []) ⟨hx, hb, hml, hown, hts⟩ (mX3_unstop l dC dI cI cJ cL a aA aB aR aT aS ad H.size vX nh pv vA vB z21 z23 hn y36 hy36) (cwV 2 hts gL_acts_X3_unstop rfl rfl rfl (by decide +kernel) ⟨Nat.le_of_ble_eq_true rfl, Nat.le_of_ble_eq_true rfl⟩) ⟨cFB3, va_recv hK3 hP (ci := 3) (q0 := 0) rfl rfl, cPre3 hK3 hN hS (free_tail (wc := [k3_0 a aA aB aR aT aS vX, kPast cL a (pastF nh ad), k0_0 aA vA, k0_1 cI aA vA, k0_2 cI aA vA, k0_3 cI aA vA, k0_4 cI aA vA, k0_0 aB vB, k0_1 cI aB vB, k0_2 cI aB vB, k0_3 cI aB vB, k0_4 cI aB vB]) hD hS hA [0, 1, 2, 3, 4, 5, 6, 7, 8, 9, 10, 11] rfl) (subP_tail hP [0, 1, 2, 3, 4, 5, 6, 7, 8, 9, 10, 11] rfl) (subD_tail hD [0, 1, 2, 3, 4, 5, 6, 7, 8, 9, 10, 11] rfl rfl)⟩ rfl rfl hl.1 rfl (lv_room (Nat.le_of_ble_eq_true rfl)) dL_acts_626 ⟨Nat.le_of_ble_eq_true rfl, Nat.le_of_ble_eq_true rfl⟩) [0, 1, 2, 3, 4, 5, 6, 7, 8, 9, 10, 11] [12, 13] [2, 3, 4, 5, 6, 7, 8, 9, 10, 11, 12, 13, 0, 1] rfl rfl rfl (by decide +kernel) rfl (fun u9 => rfl) (fun uy36 H locs hP hD hS => ?_)
                refine W.widen (k := 5) (n := 28) (Nat.le_of_ble_eq_true rfl) (Nat.le_of_ble_eq_true rfl) ?_
                refine lv_iload hx hb dL_acts_629 (lv_at hl 0 rfl) ?_
                refine lv_if_ge (tgt := 639) hx hb dL_acts_631 (by decide) (fun c37 => ?_) (fun c37 => ?_)
                · have hf := oif_t c37 hf
                  refine lv_iload hx hb dL_acts_639 (lv_at hl 0 rfl) ?_
                  refine lv_icmp_ne (tgt := 648) hx hb dL_acts_641 (by decide) (fun c38 => ?_) (fun c38 => ?_)
                  · have hf := oif_f c38 hf
                    refine lv_iconst (v := 0) hx hb dL_acts_648 (by decide) ?_
                    obtain rfl := Option.some.inj hf
                    refine W.widen (k := 20) (n := 112) (Nat.le_of_ble_eq_true rfl) (Nat.le_of_ble_eq_true rfl) ?_
                    exact W.zret (v := 0) hx hb hr rfl (fun t ht hW => ⟨⟨0, uy36, rfl, rfl, by rw [ht]; exact hP, hD⟩, hS.F ht⟩) hS.2.2 dL_acts_649
                  · have hf := oif_t c38 hf
                    refine lv_iconst (v := 1) hx hb dL_acts_644 (by decide) ?_
                    refine lv_goto (tgt := 649) hx hb dL_acts_645 (by decide) ?_
                    obtain rfl := Option.some.inj hf
                    refine W.widen (k := 20) (n := 112) (Nat.le_of_ble_eq_true rfl) (Nat.le_of_ble_eq_true rfl) ?_
                    exact W.zret (v := 1) hx hb hr rfl (fun t ht hW => ⟨⟨1, uy36, rfl, rfl, by rw [ht]; exact hP, hD⟩, hS.F ht⟩) hS.2.2 dL_acts_649
                · have hf := oif_f c37 hf
                  refine lv_ldc (v := (-1000002)) hx hb hown hc60 dL_acts_634 ?_
                  refine lv_goto (tgt := 641) hx hb dL_acts_636 (by decide) ?_
                  refine lv_icmp_ne (tgt := 648) hx hb dL_acts_641 (by decide) (fun c39 => ?_) (fun c39 => ?_)
                  · have hf := oif_f c39 hf
                    refine lv_iconst (v := 0) hx hb dL_acts_648 (by decide) ?_
                    obtain rfl := Option.some.inj hf
                    refine W.widen (k := 20) (n := 112) (Nat.le_of_ble_eq_true rfl) (Nat.le_of_ble_eq_true rfl) ?_
                    exact W.zret (v := 0) hx hb hr rfl (fun t ht hW => ⟨⟨0, uy36, rfl, rfl, by rw [ht]; exact hP, hD⟩, hS.F ht⟩) hS.2.2 dL_acts_649
                  · have hf := oif_t c39 hf
                    refine lv_iconst (v := 1) hx hb dL_acts_644 (by decide) ?_
                    refine lv_goto (tgt := 649) hx hb dL_acts_645 (by decide) ?_
                    obtain rfl := Option.some.inj hf
                    refine W.widen (k := 20) (n := 112) (Nat.le_of_ble_eq_true rfl) (Nat.le_of_ble_eq_true rfl) ?_
                    exact W.zret (v := 1) hx hb hr rfl (fun t ht hW => ⟨⟨1, uy36, rfl, rfl, by rw [ht]; exact hP, hD⟩, hS.F ht⟩) hS.2.2 dL_acts_649
            · have hf := oif_f c25 hf
              refine lv_aload_n hx hb dL_acts_522 rfl (lv_at hl 5 rfl) ?_
              refine lv_iload hx hb dL_acts_523 (lv_at hl 0 rfl) ?_
              obtain ⟨hi40, hf⟩ := oinb rfl hf
              refine va_iald hx hb hK hP 13 0 rfl rfl hi40 dL_acts_525 ?_
              obtain ⟨z41, ez41, hf⟩ := elet_out hf
              refine lvn_i ez41 ?_
              refine lv_istore (lv' := [(10, .int z41), (9, .int z24), (8, .int z23), (7, .int z21), (0, .ref (a 0)), (1, .ref ag), (2, .ref ak), (4, .int x4), (5, .int x5), (6, .int x6)]) hx hb dL_acts_526 hl (by decide) rfl (fun ls hl => ?_)
              refine lv_aload_n hx hb dL_acts_528 rfl (lv_at hl 6 rfl) ?_
              refine lv_iload hx hb dL_acts_529 (lv_at hl 1 rfl) ?_
              refine lv_iload hx hb dL_acts_531 (lv_at hl 7 rfl) ?_
              refine lv_bipush (v := 8) hx hb dL_acts_533 (by decide) ?_
              refine lv_idiv hx hb dL_acts_535 (by decide) ?_
              refine lv_aload_n hx hb dL_acts_536 rfl (lv_at hl 5 rfl) ?_
              refine lv_iconst (v := 0) hx hb dL_acts_537 (by decide) ?_
              refine va_iald hx hb hK hP 12 0 rfl rfl (vpc rfl) dL_acts_538 ?_
              refine lv_iconst (v := 1) hx hb dL_acts_539 (by decide) ?_
              refine lv_iadd hx hb dL_acts_540 ?_
              obtain ⟨hd42, hf⟩ := odiv hf
              refine lv_irem hx hb dL_acts_541 hd42 ?_
              obtain ⟨hi43, hf⟩ := oinb rfl hf
              obtain ⟨b44, eb44, hf⟩ := elet_out hf
              refine va_iast hx hb hK hP hD hS 13 0 rfl rfl hi43 dL_acts_542 (fun H locs hP hD hS => ?_)
              have hP : va_P (dC, dI) vwCl ([k3_0 a aA aB aR aT aS vX, kPast cL a (pastF nh ad), k0_0 aA vA, k0_1 cI aA vA, k0_2 cI aA vA, k0_3 cI aA vA, k0_4 cI aA vA, k0_0 aB vB, k0_1 cI aB vB, k0_2 cI aB vB, k0_3 cI aB vB, k0_4 cI aB vB, kA1 cI ag 2 vg, kA1 cI ak 23 b44] ++ kPool cI nh ad pv) H := by rw [eb44]; exact hP
              have hD : va_D A ([k3_0 a aA aB aR aT aS vX, kPast cL a (pastF nh ad), k0_0 aA vA, k0_1 cI aA vA, k0_2 cI aA vA, k0_3 cI aA vA, k0_4 cI aA vA, k0_0 aB vB, k0_1 cI aB vB, k0_2 cI aB vB, k0_3 cI aB vB, k0_4 cI aB vB, kA1 cI ag 2 vg, kA1 cI ak 23 b44] ++ kPool cI nh ad pv) := by rw [eb44]; exact hD
              refine lv_aload_n hx hb dL_acts_543 rfl (lv_at hl 5 rfl) ?_
              refine lv_aload_n hx hb dL_acts_544 rfl (lv_at hl 6 rfl) ?_
              obtain ⟨y45, hy45, hf⟩ := obind hf
              refine cgT_i (ws := [k3_0 a aA aB aR aT aS vX, kPast cL a (pastF nh ad), k0_0 aA vA, k0_1 cI aA vA, k0_2 cI aA vA, k0_3 cI aA vA, k0_4 cI aA vA, k0_0 aB vB, k0_1 cI aB vB, k0_2 cI aB vB, k0_3 cI aB vB, k0_4 cI aB vB, kA1 cI ag 2 vg, kA1 cI ak 23 b44]) (pool := (kPool cI nh ad pv)) (wc := [kA1 cI ag 2 vg, kA1 cI ak 23 b44]) (wr := [k3_0 a aA aB aR aT aS vX, kPast cL a (pastF nh ad), k0_0 aA vA, k0_1 cI aA vA, k0_2 cI aA vA, k0_3 cI aA vA, k0_4 cI aA vA, k0_0 aB vB, k0_1 cI aB vB, k0_2 cI aB vB, k0_3 cI aB vB, k0_4 cI aB vB]) (w1 := [kA1 cI ag 2 vg, kA1 cI ak 23 b44]) (wo := [k3_0 a aA aB aR aT aS vX, kPast cL a (pastF nh ad), k0_0 aA vA, k0_1 cI aA vA, k0_2 cI aA vA, k0_3 cI aA vA, k0_4 cI aA vA, k0_0 aB vB, k0_1 cI aB vB, k0_2 cI aB vB, k0_3 cI aB vB, k0_4 cI aB vB, kA1 cI ag 2 vg, kA1 cI ak 23 b44]) hP hD hS hA (va_runS (As := [.ref ag, .ref ak]) (rest := []) ⟨hx, hb, hml, hown, hts⟩ (mL_allowed l dC dI cI cJ ag ak H.size vg b44 y45 hy45) (va_cwS 2 hts gL_acts_L_allowed rfl rfl rfl (by decide +kernel) ⟨Nat.le_of_ble_eq_true rfl, Nat.le_of_ble_eq_true rfl⟩) ⟨cFB, cPre hK hN hS (va_free (wc := [kA1 cI ag 2 vg, kA1 cI ak 23 b44]) (tD_l hD) hS hA [12, 13] rfl) ((tP_l hP).sub [12, 13] rfl) ((tD_l hD).sub [12, 13] rfl rfl)⟩ rfl rfl hl.1 rfl (lv_room (Nat.le_of_ble_eq_true rfl)) dL_acts_545 ⟨Nat.le_of_ble_eq_true rfl, Nat.le_of_ble_eq_true rfl⟩) [12, 13] [0, 1, 2, 3, 4, 5, 6, 7, 8, 9, 10, 11] [0, 1, 2, 3, 4, 5, 6, 7, 8, 9, 10, 11, 12, 13] rfl rfl rfl (by decide +kernel) rfl rfl (fun H locs hP hD hS => ?_)
              refine lv_istore (lv' := [(11, .int y45), (10, .int z41), (9, .int z24), (8, .int z23), (7, .int z21), (0, .ref (a 0)), (1, .ref ag), (2, .ref ak), (4, .int x4), (5, .int x5), (6, .int x6)]) hx hb dL_acts_548 hl (by decide) rfl (fun ls hl => ?_)
              refine lv_aload_n hx hb dL_acts_550 rfl (lv_at hl 7 rfl) ?_
              refine lv_iload hx hb dL_acts_551 (lv_at hl 2 rfl) ?_
              obtain ⟨hi46, hf⟩ := oinb rfl hf
              refine va_iald hx hb hK hP 13 0 rfl rfl hi46 dL_acts_553 ?_
              obtain ⟨z47, ez47, hf⟩ := elet_out hf
              refine lvn_i ez47 ?_
              refine lv_istore (lv' := [(12, .int z47), (11, .int y45), (10, .int z41), (9, .int z24), (8, .int z23), (7, .int z21), (0, .ref (a 0)), (1, .ref ag), (2, .ref ak), (4, .int x4), (5, .int x5), (6, .int x6)]) hx hb dL_acts_554 hl (by decide) rfl (fun ls hl => ?_)
              refine lv_aload_n hx hb dL_acts_556 rfl (lv_at hl 8 rfl) ?_
              refine lv_iload hx hb dL_acts_557 (lv_at hl 3 rfl) ?_
              refine lv_iload hx hb dL_acts_559 (lv_at hl 1 rfl) ?_
              refine lv_if_eq (tgt := 569) hx hb dL_acts_561 (by decide) (fun c48 => ?_) (fun c48 => ?_)
              · have hf := oif_t c48 hf
                refine lv_iload hx hb dL_acts_569 (lv_at hl 2 rfl) ?_
                exact (hWW _ _ _ _ _ _ _).1 (J571 vX vA vB vg b44 z21 z23 z41 y45 z47 z24 z41 H locs ls hP hD hS (lv_sub hl [6, 5, 4, 2, 1, 0] rfl) hf)
              · have hf := oif_f c48 hf
                refine lv_iload hx hb dL_acts_564 (lv_at hl 0 rfl) ?_
                refine lv_goto (tgt := 571) hx hb dL_acts_566 (by decide) ?_
                exact (hWW _ _ _ _ _ _ _).1 (J571 vX vA vB vg b44 z21 z23 z41 y45 z47 z24 z47 H locs ls hP hD hS (lv_sub hl [6, 5, 4, 2, 1, 0] rfl) hf)
          · have hf := oif_f c22 hf
            refine lv_aload_n hx hb dL_acts_407 rfl (lv_at hl 3 rfl) ?_
            refine lv_bipush (v := 10) hx hb dL_acts_408 (by decide) ?_
            refine lv_iload hx hb dL_acts_410 (lv_at hl 0 rfl) ?_
            refine lv_iadd hx hb dL_acts_412 ?_
            obtain ⟨hi49, hf⟩ := oinb rfl hf
            refine va_iald hx hb hK hP 13 0 rfl rfl hi49 dL_acts_413 ?_
            obtain ⟨z50, ez50, hf⟩ := elet_out hf
            refine lvn_i ez50 ?_
            refine lv_istore (lv' := [(8, .int z50), (7, .int z21), (0, .ref (a 0)), (1, .ref ag), (2, .ref ak), (4, .int x4), (5, .int x5), (6, .int x6)]) hx hb dL_acts_414 hl (by decide) rfl (fun ls hl => ?_)
            refine lv_aload_n hx hb dL_acts_416 rfl (lv_at hl 4 rfl) ?_
            refine lv_bipush (v := 10) hx hb dL_acts_417 (by decide) ?_
            refine lv_iload hx hb dL_acts_419 (lv_at hl 1 rfl) ?_
            refine lv_iadd hx hb dL_acts_421 ?_
            refine lv_iload hx hb dL_acts_422 (lv_at hl 5 rfl) ?_
            refine lv_iconst (v := 4) hx hb dL_acts_424 (by decide) ?_
            refine lv_idiv hx hb dL_acts_425 (by decide) ?_
            refine lv_sipush (v := 199) hx hb dL_acts_426 (by decide) ?_
            refine lv_irem hx hb dL_acts_429 (by decide) ?_
            refine lv_bipush (v := 99) hx hb dL_acts_430 (by decide) ?_
            refine lv_isub hx hb dL_acts_432 ?_
            obtain ⟨hi51, hf⟩ := oinb rfl hf
            obtain ⟨b52, eb52, hf⟩ := elet_out hf
            refine va_iast hx hb hK hP hD hS 13 0 rfl rfl hi51 dL_acts_433 (fun H locs hP hD hS => ?_)
            have hP : va_P (dC, dI) vwCl ([k3_0 a aA aB aR aT aS vX, kPast cL a (pastF nh ad), k0_0 aA vA, k0_1 cI aA vA, k0_2 cI aA vA, k0_3 cI aA vA, k0_4 cI aA vA, k0_0 aB vB, k0_1 cI aB vB, k0_2 cI aB vB, k0_3 cI aB vB, k0_4 cI aB vB, kA1 cI ag 2 vg, kA1 cI ak 23 b52] ++ kPool cI nh ad pv) H := by rw [eb52]; exact hP
            have hD : va_D A ([k3_0 a aA aB aR aT aS vX, kPast cL a (pastF nh ad), k0_0 aA vA, k0_1 cI aA vA, k0_2 cI aA vA, k0_3 cI aA vA, k0_4 cI aA vA, k0_0 aB vB, k0_1 cI aB vB, k0_2 cI aB vB, k0_3 cI aB vB, k0_4 cI aB vB, kA1 cI ag 2 vg, kA1 cI ak 23 b52] ++ kPool cI nh ad pv) := by rw [eb52]; exact hD
            refine lv_aload_n hx hb dL_acts_434 rfl (lv_at hl 4 rfl) ?_
            refine lv_bipush (v := 10) hx hb dL_acts_435 (by decide) ?_
            refine lv_iload hx hb dL_acts_437 (lv_at hl 1 rfl) ?_
            refine lv_iadd hx hb dL_acts_439 ?_
            refine lv_iload hx hb dL_acts_440 (lv_at hl 5 rfl) ?_
            refine lv_iconst (v := 3) hx hb dL_acts_442 (by decide) ?_
            refine lv_irem hx hb dL_acts_443 (by decide) ?_
            refine lv_if_ne (tgt := 457) hx hb dL_acts_444 (by decide) (fun c53 => ?_) (fun c53 => ?_)
            · have hf := oif_f c53 hf
              refine lv_aload_n hx hb dL_acts_457 rfl (lv_at hl 4 rfl) ?_
              refine lv_bipush (v := 10) hx hb dL_acts_458 (by decide) ?_
              refine lv_iload hx hb dL_acts_460 (lv_at hl 1 rfl) ?_
              refine lv_iadd hx hb dL_acts_462 ?_
              obtain ⟨hi54, hf⟩ := oinb rfl hf
              refine va_iald hx hb hK hP 13 0 rfl rfl hi54 dL_acts_463 ?_
              refine lv_iconst (v := 5) hx hb dL_acts_464 (by decide) ?_
              refine lv_idiv hx hb dL_acts_465 (by decide) ?_
              exact (hWW _ _ _ _ _ _ _).1 (J466 vX vA vB vg b52 z21 z50 ((10 : Int32) + z21) ((b52 (((10 : Int32) + z21)).toNatClampNeg) / (5 : Int32)) H locs ls hP hD hS (lv_sub hl [2, 4, 1, 0] rfl) hf)
            · have hf := oif_t c53 hf
              refine lv_aload_n hx hb dL_acts_447 rfl (lv_at hl 4 rfl) ?_
              refine lv_bipush (v := 10) hx hb dL_acts_448 (by decide) ?_
              refine lv_iload hx hb dL_acts_450 (lv_at hl 1 rfl) ?_
              refine lv_iadd hx hb dL_acts_452 ?_
              obtain ⟨hi55, hf⟩ := oinb rfl hf
              refine va_iald hx hb hK hP 13 0 rfl rfl hi55 dL_acts_453 ?_
              refine lv_goto (tgt := 466) hx hb dL_acts_454 (by decide) ?_
              exact (hWW _ _ _ _ _ _ _).1 (J466 vX vA vB vg b52 z21 z50 ((10 : Int32) + z21) (b52 (((10 : Int32) + z21)).toNatClampNeg) H locs ls hP hD hS (lv_sub hl [2, 4, 1, 0] rfl) hf)
        · have hf := oif_t c19 hf
          refine lv_aload_n hx hb dL_acts_343 rfl (lv_at hl 0 rfl) ?_
          refine lv_iconst (v := 0) hx hb dL_acts_344 (by decide) ?_
          refine lv_iconst (v := 0) hx hb dL_acts_345 (by decide) ?_
          obtain ⟨y56, hy56, hf⟩ := obind hf
          obtain ⟨hny56, hf⟩ := ogd hf
          refine cgC_i (S := Nat → Nat → Nat) (ws := [k3_0 a aA aB aR aT aS vX, kPast cL a (pastF nh ad), k0_0 aA vA, k0_1 cI aA vA, k0_2 cI aA vA, k0_3 cI aA vA, k0_4 cI aA vA, k0_0 aB vB, k0_1 cI aB vB, k0_2 cI aB vB, k0_3 cI aB vB, k0_4 cI aB vB, kA1 cI ag 2 vg, kA1 cI ak 23 vk]) (pool := (kPool cI nh ad pv)) (wc := [k3_0 a aA aB aR aT aS vX, kPast cL a (pastF nh ad), k0_0 aA vA, k0_1 cI aA vA, k0_2 cI aA vA, k0_3 cI aA vA, k0_4 cI aA vA, k0_0 aB vB, k0_1 cI aB vB, k0_2 cI aB vB, k0_3 cI aB vB, k0_4 cI aB vB]) (wr := [kA1 cI ag 2 vg, kA1 cI ak 23 vk]) (w1 := fun u9 => [k3_0 a aA aB aR aT aS y56.2.1, kPast cL a (pastF (y56.2.2.1) u9), k0_0 aA y56.2.2.2.2.1, k0_1 cI aA y56.2.2.2.2.1, k0_2 cI aA y56.2.2.2.2.1, k0_3 cI aA y56.2.2.2.2.1, k0_4 cI aA y56.2.2.2.2.1, k0_0 aB y56.2.2.2.2.2, k0_1 cI aB y56.2.2.2.2.2, k0_2 cI aB y56.2.2.2.2.2, k0_3 cI aB y56.2.2.2.2.2, k0_4 cI aB y56.2.2.2.2.2]) (pool1 := fun u9 => kPool cI (y56.2.2.1) u9 (y56.2.2.2.1)) (wo := fun u9 => [k3_0 a aA aB aR aT aS y56.2.1, kPast cL a (pastF (y56.2.2.1) u9), k0_0 aA y56.2.2.2.2.1, k0_1 cI aA y56.2.2.2.2.1, k0_2 cI aA y56.2.2.2.2.1, k0_3 cI aA y56.2.2.2.2.1, k0_4 cI aA y56.2.2.2.2.1, k0_0 aB y56.2.2.2.2.2, k0_1 cI aB y56.2.2.2.2.2, k0_2 cI aB y56.2.2.2.2.2, k0_3 cI aB y56.2.2.2.2.2, k0_4 cI aB y56.2.2.2.2.2, kA1 cI ag 2 vg, kA1 cI ak 23 vk]) hP hD hS hA (va_runV (As := [.int 0, .int 0]) (rest := []) ⟨hx, hb, hml, hown, hts⟩ (mX3_load l dC dI cI cJ cL a aA aB aR aT aS ad H.size vX nh pv vA vB (0 : Int32) (0 : Int32) hn y56 hy56) (cwV 2 hts gL_acts_X3_load rfl rfl rfl (by decide +kernel) ⟨Nat.le_of_ble_eq_true rfl, Nat.le_of_ble_eq_true rfl⟩) ⟨cFB3, va_recv hK3 hP (ci := 3) (q0 := 0) rfl rfl, cPre3 hK3 hN hS (free_tail (wc := [k3_0 a aA aB aR aT aS vX, kPast cL a (pastF nh ad), k0_0 aA vA, k0_1 cI aA vA, k0_2 cI aA vA, k0_3 cI aA vA, k0_4 cI aA vA, k0_0 aB vB, k0_1 cI aB vB, k0_2 cI aB vB, k0_3 cI aB vB, k0_4 cI aB vB]) hD hS hA [0, 1, 2, 3, 4, 5, 6, 7, 8, 9, 10, 11] rfl) (subP_tail hP [0, 1, 2, 3, 4, 5, 6, 7, 8, 9, 10, 11] rfl) (subD_tail hD [0, 1, 2, 3, 4, 5, 6, 7, 8, 9, 10, 11] rfl rfl)⟩ rfl rfl hl.1 rfl (lv_room (Nat.le_of_ble_eq_true rfl)) dL_acts_346 ⟨Nat.le_of_ble_eq_true rfl, Nat.le_of_ble_eq_true rfl⟩) [0, 1, 2, 3, 4, 5, 6, 7, 8, 9, 10, 11] [12, 13] [2, 3, 4, 5, 6, 7, 8, 9, 10, 11, 12, 13, 0, 1] rfl rfl rfl (by decide +kernel) rfl (fun u9 => rfl) (fun uy56 H locs hP hD hS => ?_)
          refine W.widen (k := 5) (n := 28) (Nat.le_of_ble_eq_true rfl) (Nat.le_of_ble_eq_true rfl) ?_
          refine lv_ldc (v := (-1000001)) hx hb hown hc64 dL_acts_349 ?_
          refine lv_icmp_ne (tgt := 391) hx hb dL_acts_351 (by decide) (fun c57 => ?_) (fun c57 => ?_)
          · have hf := oif_f c57 hf
            refine lv_iconst (v := 0) hx hb dL_acts_391 (by decide) ?_
            obtain rfl := Option.some.inj hf
            refine W.widen (k := 20) (n := 112) (Nat.le_of_ble_eq_true rfl) (Nat.le_of_ble_eq_true rfl) ?_
            exact W.zret (v := 0) hx hb hr rfl (fun t ht hW => ⟨⟨0, uy56, rfl, rfl, by rw [ht]; exact hP, hD⟩, hS.F ht⟩) hS.2.2 dL_acts_392
          · have hf := oif_t c57 hf
            refine lv_aload_n hx hb dL_acts_354 rfl (lv_at hl 0 rfl) ?_
            refine lv_iconst (v := 0) hx hb dL_acts_355 (by decide) ?_
            refine lv_iconst (v := 0) hx hb dL_acts_356 (by decide) ?_
            refine lv_iconst (v := 0) hx hb dL_acts_357 (by decide) ?_
            obtain ⟨y58, hy58, hf⟩ := obind hf
            obtain ⟨hny58, hf⟩ := ogd hf
            refine cgC_i (S := Nat → Nat → Nat) (ws := [k3_0 a aA aB aR aT aS y56.2.1, kPast cL a (pastF (y56.2.2.1) uy56), k0_0 aA y56.2.2.2.2.1, k0_1 cI aA y56.2.2.2.2.1, k0_2 cI aA y56.2.2.2.2.1, k0_3 cI aA y56.2.2.2.2.1, k0_4 cI aA y56.2.2.2.2.1, k0_0 aB y56.2.2.2.2.2, k0_1 cI aB y56.2.2.2.2.2, k0_2 cI aB y56.2.2.2.2.2, k0_3 cI aB y56.2.2.2.2.2, k0_4 cI aB y56.2.2.2.2.2, kA1 cI ag 2 vg, kA1 cI ak 23 vk]) (pool := (kPool cI (y56.2.2.1) uy56 (y56.2.2.2.1))) (wc := [k3_0 a aA aB aR aT aS y56.2.1, kPast cL a (pastF (y56.2.2.1) uy56), k0_0 aA y56.2.2.2.2.1, k0_1 cI aA y56.2.2.2.2.1, k0_2 cI aA y56.2.2.2.2.1, k0_3 cI aA y56.2.2.2.2.1, k0_4 cI aA y56.2.2.2.2.1, k0_0 aB y56.2.2.2.2.2, k0_1 cI aB y56.2.2.2.2.2, k0_2 cI aB y56.2.2.2.2.2, k0_3 cI aB y56.2.2.2.2.2, k0_4 cI aB y56.2.2.2.2.2]) (wr := [kA1 cI ag 2 vg, kA1 cI ak 23 vk]) (w1 := fun u9 => [k3_0 a aA aB aR aT aS y58.2.1, kPast cL a (pastF (y58.2.2.1) u9), k0_0 aA y58.2.2.2.2.1, k0_1 cI aA y58.2.2.2.2.1, k0_2 cI aA y58.2.2.2.2.1, k0_3 cI aA y58.2.2.2.2.1, k0_4 cI aA y58.2.2.2.2.1, k0_0 aB y58.2.2.2.2.2, k0_1 cI aB y58.2.2.2.2.2, k0_2 cI aB y58.2.2.2.2.2, k0_3 cI aB y58.2.2.2.2.2, k0_4 cI aB y58.2.2.2.2.2]) (pool1 := fun u9 => kPool cI (y58.2.2.1) u9 (y58.2.2.2.1)) (wo := fun u9 => [k3_0 a aA aB aR aT aS y58.2.1, kPast cL a (pastF (y58.2.2.1) u9), k0_0 aA y58.2.2.2.2.1, k0_1 cI aA y58.2.2.2.2.1, k0_2 cI aA y58.2.2.2.2.1, k0_3 cI aA y58.2.2.2.2.1, k0_4 cI aA y58.2.2.2.2.1, k0_0 aB y58.2.2.2.2.2, k0_1 cI aB y58.2.2.2.2.2, k0_2 cI aB y58.2.2.2.2.2, k0_3 cI aB y58.2.2.2.2.2, k0_4 cI aB y58.2.2.2.2.2, kA1 cI ag 2 vg, kA1 cI ak 23 vk]) hP hD hS hA (va_runV (As := [.int 0, .int 0, .int 0]) (rest := []) ⟨hx, hb, hml, hown, hts⟩ (mX3_stop l dC dI cI cJ cL a aA aB aR aT aS uy56 H.size y56.2.1 (y56.2.2.1) (y56.2.2.2.1) y56.2.2.2.2.1 y56.2.2.2.2.2 (0 : Int32) (0 : Int32) (0 : Int32) hny56 y58 hy58) (cwV 3 hts gL_acts_X3_stop rfl rfl rfl (by decide +kernel) ⟨Nat.le_of_ble_eq_true rfl, Nat.le_of_ble_eq_true rfl⟩) ⟨cFB3, va_recv hK3 hP (ci := 3) (q0 := 0) rfl rfl, cPre3 hK3 hN hS (free_tail (wc := [k3_0 a aA aB aR aT aS y56.2.1, kPast cL a (pastF (y56.2.2.1) uy56), k0_0 aA y56.2.2.2.2.1, k0_1 cI aA y56.2.2.2.2.1, k0_2 cI aA y56.2.2.2.2.1, k0_3 cI aA y56.2.2.2.2.1, k0_4 cI aA y56.2.2.2.2.1, k0_0 aB y56.2.2.2.2.2, k0_1 cI aB y56.2.2.2.2.2, k0_2 cI aB y56.2.2.2.2.2, k0_3 cI aB y56.2.2.2.2.2, k0_4 cI aB y56.2.2.2.2.2]) hD hS hA [0, 1, 2, 3, 4, 5, 6, 7, 8, 9, 10, 11] rfl) (subP_tail hP [0, 1, 2, 3, 4, 5, 6, 7, 8, 9, 10, 11] rfl) (subD_tail hD [0, 1, 2, 3, 4, 5, 6, 7, 8, 9, 10, 11] rfl rfl)⟩ rfl rfl hl.1 rfl (lv_room (Nat.le_of_ble_eq_true rfl)) dL_acts_358 ⟨Nat.le_of_ble_eq_true rfl, Nat.le_of_ble_eq_true rfl⟩) [0, 1, 2, 3, 4, 5, 6, 7, 8, 9, 10, 11] [12, 13] [2, 3, 4, 5, 6, 7, 8, 9, 10, 11, 12, 13, 0, 1] rfl rfl rfl (by decide +kernel) rfl (fun u9 => rfl) (fun uy58 H locs hP hD hS => ?_)
            refine W.widen (k := 10) (n := 56) (Nat.le_of_ble_eq_true rfl) (Nat.le_of_ble_eq_true rfl) ?_
            refine lv_ldc (v := (-1000001)) hx hb hown hc64 dL_acts_361 ?_
            refine lv_icmp_ne (tgt := 391) hx hb dL_acts_363 (by decide) (fun c59 => ?_) (fun c59 => ?_)
            · have hf := oif_f c59 hf
              refine lv_iconst (v := 0) hx hb dL_acts_391 (by decide) ?_
              obtain rfl := Option.some.inj hf
              refine W.widen (k := 20) (n := 112) (Nat.le_of_ble_eq_true rfl) (Nat.le_of_ble_eq_true rfl) ?_
              exact W.zret (v := 0) hx hb hr rfl (fun t ht hW => ⟨⟨0, uy58, rfl, rfl, by rw [ht]; exact hP, hD⟩, hS.F ht⟩) hS.2.2 dL_acts_392
            · have hf := oif_t c59 hf
              refine lv_aload_n hx hb dL_acts_366 rfl (lv_at hl 0 rfl) ?_
              refine lv_iconst (v := 0) hx hb dL_acts_367 (by decide) ?_
              refine lv_iconst (v := 0) hx hb dL_acts_368 (by decide) ?_
              obtain ⟨y60, hy60, hf⟩ := obind hf
              obtain ⟨hny60, hf⟩ := ogd hf
              refine cgC_i (S := Nat → Nat → Nat) (ws := [k3_0 a aA aB aR aT aS y58.2.1, kPast cL a (pastF (y58.2.2.1) uy58), k0_0 aA y58.2.2.2.2.1, k0_1 cI aA y58.2.2.2.2.1, k0_2 cI aA y58.2.2.2.2.1, k0_3 cI aA y58.2.2.2.2.1, k0_4 cI aA y58.2.2.2.2.1, k0_0 aB y58.2.2.2.2.2, k0_1 cI aB y58.2.2.2.2.2, k0_2 cI aB y58.2.2.2.2.2, k0_3 cI aB y58.2.2.2.2.2, k0_4 cI aB y58.2.2.2.2.2, kA1 cI ag 2 vg, kA1 cI ak 23 vk]) (pool := (kPool cI (y58.2.2.1) uy58 (y58.2.2.2.1))) (wc := [k3_0 a aA aB aR aT aS y58.2.1, kPast cL a (pastF (y58.2.2.1) uy58), k0_0 aA y58.2.2.2.2.1, k0_1 cI aA y58.2.2.2.2.1, k0_2 cI aA y58.2.2.2.2.1, k0_3 cI aA y58.2.2.2.2.1, k0_4 cI aA y58.2.2.2.2.1, k0_0 aB y58.2.2.2.2.2, k0_1 cI aB y58.2.2.2.2.2, k0_2 cI aB y58.2.2.2.2.2, k0_3 cI aB y58.2.2.2.2.2, k0_4 cI aB y58.2.2.2.2.2]) (wr := [kA1 cI ag 2 vg, kA1 cI ak 23 vk]) (w1 := fun u9 => [k3_0 a aA aB aR aT aS y60.2.1, kPast cL a (pastF (y60.2.2.1) u9), k0_0 aA y60.2.2.2.2.1, k0_1 cI aA y60.2.2.2.2.1, k0_2 cI aA y60.2.2.2.2.1, k0_3 cI aA y60.2.2.2.2.1, k0_4 cI aA y60.2.2.2.2.1, k0_0 aB y60.2.2.2.2.2, k0_1 cI aB y60.2.2.2.2.2, k0_2 cI aB y60.2.2.2.2.2, k0_3 cI aB y60.2.2.2.2.2, k0_4 cI aB y60.2.2.2.2.2]) (pool1 := fun u9 => kPool cI (y60.2.2.1) u9 (y60.2.2.2.1)) (wo := fun u9 => [k3_0 a aA aB aR aT aS y60.2.1, kPast cL a (pastF (y60.2.2.1) u9), k0_0 aA y60.2.2.2.2.1, k0_1 cI aA y60.2.2.2.2.1, k0_2 cI aA y60.2.2.2.2.1, k0_3 cI aA y60.2.2.2.2.1, k0_4 cI aA y60.2.2.2.2.1, k0_0 aB y60.2.2.2.2.2, k0_1 cI aB y60.2.2.2.2.2, k0_2 cI aB y60.2.2.2.2.2, k0_3 cI aB y60.2.2.2.2.2, k0_4 cI aB y60.2.2.2.2.2, kA1 cI ag 2 vg, kA1 cI ak 23 vk]) hP hD hS hA (va_runV (As := [.int 0, .int 0]) (rest := []) ⟨hx, hb, hml, hown, hts⟩ (mX3_unstop l dC dI cI cJ cL a aA aB aR aT aS uy58 H.size y58.2.1 (y58.2.2.1) (y58.2.2.2.1) y58.2.2.2.2.1 y58.2.2.2.2.2 (0 : Int32) (0 : Int32) hny58 y60 hy60) (cwV 2 hts gL_acts_X3_unstop rfl rfl rfl (by decide +kernel) ⟨Nat.le_of_ble_eq_true rfl, Nat.le_of_ble_eq_true rfl⟩) ⟨cFB3, va_recv hK3 hP (ci := 3) (q0 := 0) rfl rfl, cPre3 hK3 hN hS (free_tail (wc := [k3_0 a aA aB aR aT aS y58.2.1, kPast cL a (pastF (y58.2.2.1) uy58), k0_0 aA y58.2.2.2.2.1, k0_1 cI aA y58.2.2.2.2.1, k0_2 cI aA y58.2.2.2.2.1, k0_3 cI aA y58.2.2.2.2.1, k0_4 cI aA y58.2.2.2.2.1, k0_0 aB y58.2.2.2.2.2, k0_1 cI aB y58.2.2.2.2.2, k0_2 cI aB y58.2.2.2.2.2, k0_3 cI aB y58.2.2.2.2.2, k0_4 cI aB y58.2.2.2.2.2]) hD hS hA [0, 1, 2, 3, 4, 5, 6, 7, 8, 9, 10, 11] rfl) (subP_tail hP [0, 1, 2, 3, 4, 5, 6, 7, 8, 9, 10, 11] rfl) (subD_tail hD [0, 1, 2, 3, 4, 5, 6, 7, 8, 9, 10, 11] rfl rfl)⟩ rfl rfl hl.1 rfl (lv_room (Nat.le_of_ble_eq_true rfl)) dL_acts_369 ⟨Nat.le_of_ble_eq_true rfl, Nat.le_of_ble_eq_true rfl⟩) [0, 1, 2, 3, 4, 5, 6, 7, 8, 9, 10, 11] [12, 13] [2, 3, 4, 5, 6, 7, 8, 9, 10, 11, 12, 13, 0, 1] rfl rfl rfl (by decide +kernel) rfl (fun u9 => rfl) (fun uy60 H locs hP hD hS => ?_)
              refine W.widen (k := 15) (n := 84) (Nat.le_of_ble_eq_true rfl) (Nat.le_of_ble_eq_true rfl) ?_
              refine lv_ldc (v := (-1000001)) hx hb hown hc64 dL_acts_372 ?_
              refine lv_icmp_ne (tgt := 391) hx hb dL_acts_374 (by decide) (fun c61 => ?_) (fun c61 => ?_)
              · have hf := oif_f c61 hf
                refine lv_iconst (v := 0) hx hb dL_acts_391 (by decide) ?_
                obtain rfl := Option.some.inj hf
                refine W.widen (k := 20) (n := 112) (Nat.le_of_ble_eq_true rfl) (Nat.le_of_ble_eq_true rfl) ?_
                exact W.zret (v := 0) hx hb hr rfl (fun t ht hW => ⟨⟨0, uy60, rfl, rfl, by rw [ht]; exact hP, hD⟩, hS.F ht⟩) hS.2.2 dL_acts_392
              · have hf := oif_t c61 hf
                refine lv_aload_n hx hb dL_acts_377 rfl (lv_at hl 0 rfl) ?_
                refine lv_iconst (v := 0) hx hb dL_acts_378 (by decide) ?_
                obtain ⟨y62, hy62, hf⟩ := obind hf
                obtain ⟨hny62, hf⟩ := ogd hf
                refine cgC_i (S := Nat → Nat → Nat) (ws := [k3_0 a aA aB aR aT aS y60.2.1, kPast cL a (pastF (y60.2.2.1) uy60), k0_0 aA y60.2.2.2.2.1, k0_1 cI aA y60.2.2.2.2.1, k0_2 cI aA y60.2.2.2.2.1, k0_3 cI aA y60.2.2.2.2.1, k0_4 cI aA y60.2.2.2.2.1, k0_0 aB y60.2.2.2.2.2, k0_1 cI aB y60.2.2.2.2.2, k0_2 cI aB y60.2.2.2.2.2, k0_3 cI aB y60.2.2.2.2.2, k0_4 cI aB y60.2.2.2.2.2, kA1 cI ag 2 vg, kA1 cI ak 23 vk]) (pool := (kPool cI (y60.2.2.1) uy60 (y60.2.2.2.1))) (wc := [k3_0 a aA aB aR aT aS y60.2.1, kPast cL a (pastF (y60.2.2.1) uy60), k0_0 aA y60.2.2.2.2.1, k0_1 cI aA y60.2.2.2.2.1, k0_2 cI aA y60.2.2.2.2.1, k0_3 cI aA y60.2.2.2.2.1, k0_4 cI aA y60.2.2.2.2.1, k0_0 aB y60.2.2.2.2.2, k0_1 cI aB y60.2.2.2.2.2, k0_2 cI aB y60.2.2.2.2.2, k0_3 cI aB y60.2.2.2.2.2, k0_4 cI aB y60.2.2.2.2.2]) (wr := [kA1 cI ag 2 vg, kA1 cI ak 23 vk]) (w1 := fun u9 => [k3_0 a aA aB aR aT aS y62.2.1, kPast cL a (pastF (y62.2.2.1) u9), k0_0 aA y62.2.2.2.2.1, k0_1 cI aA y62.2.2.2.2.1, k0_2 cI aA y62.2.2.2.2.1, k0_3 cI aA y62.2.2.2.2.1, k0_4 cI aA y62.2.2.2.2.1, k0_0 aB y62.2.2.2.2.2, k0_1 cI aB y62.2.2.2.2.2, k0_2 cI aB y62.2.2.2.2.2, k0_3 cI aB y62.2.2.2.2.2, k0_4 cI aB y62.2.2.2.2.2]) (pool1 := fun u9 => kPool cI (y62.2.2.1) u9 (y62.2.2.2.1)) (wo := fun u9 => [k3_0 a aA aB aR aT aS y62.2.1, kPast cL a (pastF (y62.2.2.1) u9), k0_0 aA y62.2.2.2.2.1, k0_1 cI aA y62.2.2.2.2.1, k0_2 cI aA y62.2.2.2.2.1, k0_3 cI aA y62.2.2.2.2.1, k0_4 cI aA y62.2.2.2.2.1, k0_0 aB y62.2.2.2.2.2, k0_1 cI aB y62.2.2.2.2.2, k0_2 cI aB y62.2.2.2.2.2, k0_3 cI aB y62.2.2.2.2.2, k0_4 cI aB y62.2.2.2.2.2, kA1 cI ag 2 vg, kA1 cI ak 23 vk]) hP hD hS hA (va_runV (As := [.int 0]) (rest := []) ⟨hx, hb, hml, hown, hts⟩ (mX3_drop l dC dI cI cJ cL a aA aB aR aT aS uy60 H.size y60.2.1 (y60.2.2.1) (y60.2.2.2.1) y60.2.2.2.2.1 y60.2.2.2.2.2 (0 : Int32) hny60 y62 hy62) (cwV 1 hts gL_acts_X3_drop rfl rfl rfl (by decide +kernel) ⟨Nat.le_of_ble_eq_true rfl, Nat.le_of_ble_eq_true rfl⟩) ⟨cFB3, va_recv hK3 hP (ci := 3) (q0 := 0) rfl rfl, cPre3 hK3 hN hS (free_tail (wc := [k3_0 a aA aB aR aT aS y60.2.1, kPast cL a (pastF (y60.2.2.1) uy60), k0_0 aA y60.2.2.2.2.1, k0_1 cI aA y60.2.2.2.2.1, k0_2 cI aA y60.2.2.2.2.1, k0_3 cI aA y60.2.2.2.2.1, k0_4 cI aA y60.2.2.2.2.1, k0_0 aB y60.2.2.2.2.2, k0_1 cI aB y60.2.2.2.2.2, k0_2 cI aB y60.2.2.2.2.2, k0_3 cI aB y60.2.2.2.2.2, k0_4 cI aB y60.2.2.2.2.2]) hD hS hA [0, 1, 2, 3, 4, 5, 6, 7, 8, 9, 10, 11] rfl) (subP_tail hP [0, 1, 2, 3, 4, 5, 6, 7, 8, 9, 10, 11] rfl) (subD_tail hD [0, 1, 2, 3, 4, 5, 6, 7, 8, 9, 10, 11] rfl rfl)⟩ rfl rfl hl.1 rfl (lv_room (Nat.le_of_ble_eq_true rfl)) dL_acts_379 ⟨Nat.le_of_ble_eq_true rfl, Nat.le_of_ble_eq_true rfl⟩) [0, 1, 2, 3, 4, 5, 6, 7, 8, 9, 10, 11] [12, 13] [2, 3, 4, 5, 6, 7, 8, 9, 10, 11, 12, 13, 0, 1] rfl rfl rfl (by decide +kernel) rfl (fun u9 => rfl) (fun uy62 H locs hP hD hS => ?_)
                refine W.widen (k := 20) (n := 112) (Nat.le_of_ble_eq_true rfl) (Nat.le_of_ble_eq_true rfl) ?_
                refine lv_ldc (v := (-1000001)) hx hb hown hc64 dL_acts_382 ?_
                refine lv_icmp_ne (tgt := 391) hx hb dL_acts_384 (by decide) (fun c63 => ?_) (fun c63 => ?_)
                · have hf := oif_f c63 hf
                  refine lv_iconst (v := 0) hx hb dL_acts_391 (by decide) ?_
                  obtain rfl := Option.some.inj hf
                  exact W.zret (v := 0) hx hb hr rfl (fun t ht hW => ⟨⟨0, uy62, rfl, rfl, by rw [ht]; exact hP, hD⟩, hS.F ht⟩) hS.2.2 dL_acts_392
                · have hf := oif_t c63 hf
                  refine lv_iconst (v := 1) hx hb dL_acts_387 (by decide) ?_
                  refine lv_goto (tgt := 392) hx hb dL_acts_388 (by decide) ?_
                  obtain rfl := Option.some.inj hf
                  exact W.zret (v := 1) hx hb hr rfl (fun t ht hW => ⟨⟨1, uy62, rfl, rfl, by rw [ht]; exact hP, hD⟩, hS.F ht⟩) hS.2.2 dL_acts_392
      · have hf := oif_t c18 hf
        refine lv_bipush (v := 10) hx hb dL_acts_226 (by decide) ?_
        refine lv_iload hx hb dL_acts_228 (lv_at hl 3 rfl) ?_
        refine lv_bipush (v := 90) hx hb dL_acts_230 (by decide) ?_
        refine lv_irem hx hb dL_acts_232 (by decide) ?_
        refine lv_iadd hx hb dL_acts_233 ?_
        obtain ⟨z64, ez64, hf⟩ := elet_out hf
        refine lvn_i ez64 ?_
        refine lv_istore (lv' := [(7, .int z64), (0, .ref (a 0)), (1, .ref ag), (2, .ref ak), (4, .int x4), (5, .int x5), (6, .int x6)]) hx hb dL_acts_234 hl (by decide) rfl (fun ls hl => ?_)
        refine lv_iconst (v := 1) hx hb dL_acts_236 (by decide) ?_
        refine lv_istore (lv' := [(8, .int 1), (7, .int z64), (0, .ref (a 0)), (1, .ref ag), (2, .ref ak), (4, .int x4), (5, .int x5), (6, .int x6)]) hx hb dL_acts_237 hl (by decide) rfl (fun ls hl => ?_)
        refine lv_iconst (v := 0) hx hb dL_acts_239 (by decide) ?_
        refine lv_istore (lv' := [(9, .int 0), (8, .int 1), (7, .int z64), (0, .ref (a 0)), (1, .ref ag), (2, .ref ak), (4, .int x4), (5, .int x5), (6, .int x6)]) hx hb dL_acts_240 hl (by decide) rfl (fun ls hl => ?_)
        exact (hWW _ _ _ _ _ _ _).1 (L242 FU vX vA vB vg vk x6 z64 (1 : Int32) (0 : Int32) H locs ls hP hD hS (lv_sub hl [3, 4, 5, 8, 2, 1, 0] rfl) hf)
    · have hf := oif_f c17 hf
      refine lv_iload hx hb dL_acts_129 (lv_at hl 3 rfl) ?_
      refine lv_iload hx hb dL_acts_131 (lv_at hl 5 rfl) ?_
      refine lv_iconst (v := 1) hx hb dL_acts_133 (by decide) ?_
      refine lv_iadd hx hb dL_acts_134 ?_
      obtain ⟨hd65, hf⟩ := odiv hf
      refine lv_irem hx hb dL_acts_135 hd65 ?_
      obtain ⟨z66, ez66, hf⟩ := elet_out hf
      refine lvn_i ez66 ?_
      refine lv_istore (lv' := [(7, .int z66), (0, .ref (a 0)), (1, .ref ag), (2, .ref ak), (4, .int x4), (5, .int x5), (6, .int x6)]) hx hb dL_acts_136 hl (by decide) rfl (fun ls hl => ?_)
      refine lv_bipush (v := 100) hx hb dL_acts_138 (by decide) ?_
      refine lv_aload_n hx hb dL_acts_140 rfl (lv_at hl 3 rfl) ?_
      refine lv_iload hx hb dL_acts_141 (lv_at hl 0 rfl) ?_
      obtain ⟨hi67, hf⟩ := oinb rfl hf
      refine va_iald hx hb hK hP 13 0 rfl rfl hi67 dL_acts_143 ?_
      refine lv_imul hx hb dL_acts_144 ?_
      refine lv_aload_n hx hb dL_acts_145 rfl (lv_at hl 3 rfl) ?_
      refine lv_iconst (v := 5) hx hb dL_acts_146 (by decide) ?_
      refine lv_iload hx hb dL_acts_147 (lv_at hl 0 rfl) ?_
      refine lv_iadd hx hb dL_acts_149 ?_
      obtain ⟨hi68, hf⟩ := oinb rfl hf
      refine va_iald hx hb hK hP 13 0 rfl rfl hi68 dL_acts_150 ?_
      refine lv_iadd hx hb dL_acts_151 ?_
      obtain ⟨z69, ez69, hf⟩ := elet_out hf
      refine lvn_i ez69 ?_
      refine lv_istore (lv' := [(8, .int z69), (7, .int z66), (0, .ref (a 0)), (1, .ref ag), (2, .ref ak), (4, .int x4), (5, .int x5), (6, .int x6)]) hx hb dL_acts_152 hl (by decide) rfl (fun ls hl => ?_)
      refine lv_aload_n hx hb dL_acts_154 rfl (lv_at hl 4 rfl) ?_
      refine lv_iload hx hb dL_acts_155 (lv_at hl 1 rfl) ?_
      refine lv_iconst (v := 1) hx hb dL_acts_157 (by decide) ?_
      refine lv_iload hx hb dL_acts_158 (lv_at hl 5 rfl) ?_
      refine lv_iconst (v := 5) hx hb dL_acts_160 (by decide) ?_
      refine lv_idiv hx hb dL_acts_161 (by decide) ?_
      refine lv_bipush (v := 9) hx hb dL_acts_162 (by decide) ?_
      refine lv_irem hx hb dL_acts_164 (by decide) ?_
      refine lv_iadd hx hb dL_acts_165 ?_
      obtain ⟨hi70, hf⟩ := oinb rfl hf
      obtain ⟨b71, eb71, hf⟩ := elet_out hf
      refine va_iast hx hb hK hP hD hS 13 0 rfl rfl hi70 dL_acts_166 (fun H locs hP hD hS => ?_)
      have hP : va_P (dC, dI) vwCl ([k3_0 a aA aB aR aT aS vX, kPast cL a (pastF nh ad), k0_0 aA vA, k0_1 cI aA vA, k0_2 cI aA vA, k0_3 cI aA vA, k0_4 cI aA vA, k0_0 aB vB, k0_1 cI aB vB, k0_2 cI aB vB, k0_3 cI aB vB, k0_4 cI aB vB, kA1 cI ag 2 vg, kA1 cI ak 23 b71] ++ kPool cI nh ad pv) H := by rw [eb71]; exact hP
      have hD : va_D A ([k3_0 a aA aB aR aT aS vX, kPast cL a (pastF nh ad), k0_0 aA vA, k0_1 cI aA vA, k0_2 cI aA vA, k0_3 cI aA vA, k0_4 cI aA vA, k0_0 aB vB, k0_1 cI aB vB, k0_2 cI aB vB, k0_3 cI aB vB, k0_4 cI aB vB, kA1 cI ag 2 vg, kA1 cI ak 23 b71] ++ kPool cI nh ad pv) := by rw [eb71]; exact hD
      refine lv_aload_n hx hb dL_acts_167 rfl (lv_at hl 4 rfl) ?_
      refine lv_iconst (v := 5) hx hb dL_acts_168 (by decide) ?_
      refine lv_iload hx hb dL_acts_169 (lv_at hl 1 rfl) ?_
      refine lv_iadd hx hb dL_acts_171 ?_
      refine lv_iload hx hb dL_acts_172 (lv_at hl 5 rfl) ?_
      refine lv_bipush (v := 45) hx hb dL_acts_174 (by decide) ?_
      refine lv_idiv hx hb dL_acts_176 (by decide) ?_
      refine lv_iload hx hb dL_acts_177 (lv_at hl 5 rfl) ?_
      refine lv_iconst (v := 3) hx hb dL_acts_179 (by decide) ?_
      refine lv_irem hx hb dL_acts_180 (by decide) ?_
      refine lv_if_ne (tgt := 189) hx hb dL_acts_181 (by decide) (fun c72 => ?_) (fun c72 => ?_)
      · have hf := oif_f c72 hf
        refine lv_bipush (v := 25) hx hb dL_acts_189 (by decide) ?_
        exact (hWW _ _ _ _ _ _ _).1 (J191 vX vA vB vg b71 z66 z69 ((5 : Int32) + z66) (x4 / (45 : Int32)) (25 : Int32) H locs ls hP hD hS (lv_sub hl [2, 4, 1, 0] rfl) hf)
      · have hf := oif_t c72 hf
        refine lv_bipush (v := 51) hx hb dL_acts_184 (by decide) ?_
        refine lv_goto (tgt := 191) hx hb dL_acts_186 (by decide) ?_
        exact (hWW _ _ _ _ _ _ _).1 (J191 vX vA vB vg b71 z66 z69 ((5 : Int32) + z66) (x4 / (45 : Int32)) (51 : Int32) H locs ls hP hD hS (lv_sub hl [2, 4, 1, 0] rfl) hf)
  refine (hWW _ _ _ _ _ _ _).2 ?_
  unfold fL_acts at hf
  refine lv_iload_n hx hb dL_acts_0 rfl (lv_at hl 3 rfl) ?_
  refine lv_iconst (v := 5) hx hb dL_acts_1 (by decide) ?_
  refine lv_ishr hx hb dL_acts_2 ?_
  refine lv_ldc (v := 10000000) hx hb hown hc43 dL_acts_3 ?_
  obtain ⟨y126, hy126, hf⟩ := obind hf
  refine cgT_i (ws := [k3_0 a aA aB aR aT aS vX, kPast cL a (pastF nh ad), k0_0 aA vA, k0_1 cI aA vA, k0_2 cI aA vA, k0_3 cI aA vA, k0_4 cI aA vA, k0_0 aB vB, k0_1 cI aB vB, k0_2 cI aB vB, k0_3 cI aB vB, k0_4 cI aB vB, kA1 cI ag 2 vg, kA1 cI ak 23 vk]) (pool := (kPool cI nh ad pv)) (wc := []) (wr := [k3_0 a aA aB aR aT aS vX, kPast cL a (pastF nh ad), k0_0 aA vA, k0_1 cI aA vA, k0_2 cI aA vA, k0_3 cI aA vA, k0_4 cI aA vA, k0_0 aB vB, k0_1 cI aB vB, k0_2 cI aB vB, k0_3 cI aB vB, k0_4 cI aB vB, kA1 cI ag 2 vg, kA1 cI ak 23 vk]) (w1 := []) (wo := [k3_0 a aA aB aR aT aS vX, kPast cL a (pastF nh ad), k0_0 aA vA, k0_1 cI aA vA, k0_2 cI aA vA, k0_3 cI aA vA, k0_4 cI aA vA, k0_0 aB vB, k0_1 cI aB vB, k0_2 cI aB vB, k0_3 cI aB vB, k0_4 cI aB vB, kA1 cI ag 2 vg, kA1 cI ak 23 vk]) hP hD hS hA (va_runS (As := [.int (i3 >>> ((5 : Int32) &&& 31)), .int 10000000]) (rest := []) ⟨hx, hb, hml, hown, hts⟩ (mL_low l dC dI cI cJ  H.size (i3 >>> ((5 : Int32) &&& 31)) (10000000 : Int32) y126 hy126) (va_cwS 2 hts gL_acts_L_low rfl rfl rfl (by decide +kernel) ⟨Nat.le_of_ble_eq_true rfl, Nat.le_of_ble_eq_true rfl⟩) ⟨cFB, cPre hK hN hS (va_free (wc := []) (tD_l hD) hS hA [] rfl) ((tP_l hP).sub [] rfl) ((tD_l hD).sub [] rfl rfl)⟩ rfl rfl hl.1 rfl (lv_room (Nat.le_of_ble_eq_true rfl)) dL_acts_5 ⟨Nat.le_of_ble_eq_true rfl, Nat.le_of_ble_eq_true rfl⟩) [] [0, 1, 2, 3, 4, 5, 6, 7, 8, 9, 10, 11, 12, 13] [0, 1, 2, 3, 4, 5, 6, 7, 8, 9, 10, 11, 12, 13] rfl rfl rfl (by decide +kernel) rfl rfl (fun H locs hP hD hS => ?_)
  refine lv_istore (lv' := [(4, .int y126), (0, .ref (a 0)), (1, .ref ag), (2, .ref ak), (3, .int i3)]) hx hb dL_acts_8 hl (by decide) rfl (fun ls hl => ?_)
  refine lv_iload_n hx hb dL_acts_10 rfl (lv_at hl 4 rfl) ?_
  refine lv_bipush (v := 24) hx hb dL_acts_11 (by decide) ?_
  obtain ⟨y127, hy127, hf⟩ := obind hf
  refine cgT_i (ws := [k3_0 a aA aB aR aT aS vX, kPast cL a (pastF nh ad), k0_0 aA vA, k0_1 cI aA vA, k0_2 cI aA vA, k0_3 cI aA vA, k0_4 cI aA vA, k0_0 aB vB, k0_1 cI aB vB, k0_2 cI aB vB, k0_3 cI aB vB, k0_4 cI aB vB, kA1 cI ag 2 vg, kA1 cI ak 23 vk]) (pool := (kPool cI nh ad pv)) (wc := []) (wr := [k3_0 a aA aB aR aT aS vX, kPast cL a (pastF nh ad), k0_0 aA vA, k0_1 cI aA vA, k0_2 cI aA vA, k0_3 cI aA vA, k0_4 cI aA vA, k0_0 aB vB, k0_1 cI aB vB, k0_2 cI aB vB, k0_3 cI aB vB, k0_4 cI aB vB, kA1 cI ag 2 vg, kA1 cI ak 23 vk]) (w1 := []) (wo := [k3_0 a aA aB aR aT aS vX, kPast cL a (pastF nh ad), k0_0 aA vA, k0_1 cI aA vA, k0_2 cI aA vA, k0_3 cI aA vA, k0_4 cI aA vA, k0_0 aB vB, k0_1 cI aB vB, k0_2 cI aB vB, k0_3 cI aB vB, k0_4 cI aB vB, kA1 cI ag 2 vg, kA1 cI ak 23 vk]) hP hD hS hA (va_runS (As := [.int i3, .int 24]) (rest := []) ⟨hx, hb, hml, hown, hts⟩ (mL_low l dC dI cI cJ  H.size i3 (24 : Int32) y127 hy127) (va_cwS 2 hts gL_acts_L_low rfl rfl rfl (by decide +kernel) ⟨Nat.le_of_ble_eq_true rfl, Nat.le_of_ble_eq_true rfl⟩) ⟨cFB, cPre hK hN hS (va_free (wc := []) (tD_l hD) hS hA [] rfl) ((tP_l hP).sub [] rfl) ((tD_l hD).sub [] rfl rfl)⟩ rfl rfl hl.1 rfl (lv_room (Nat.le_of_ble_eq_true rfl)) dL_acts_13 ⟨Nat.le_of_ble_eq_true rfl, Nat.le_of_ble_eq_true rfl⟩) [] [0, 1, 2, 3, 4, 5, 6, 7, 8, 9, 10, 11, 12, 13] [0, 1, 2, 3, 4, 5, 6, 7, 8, 9, 10, 11, 12, 13] rfl rfl rfl (by decide +kernel) rfl rfl (fun H locs hP hD hS => ?_)
  refine lv_istore (lv' := [(5, .int y127), (4, .int y126), (0, .ref (a 0)), (1, .ref ag), (2, .ref ak), (3, .int i3)]) hx hb dL_acts_16 hl (by decide) rfl (fun ls hl => ?_)
  refine lv_aload_n hx hb dL_acts_18 rfl (lv_at hl 3 rfl) ?_
  refine lv_iconst (v := 1) hx hb dL_acts_19 (by decide) ?_
  refine va_iald hx hb hK hP 12 0 rfl rfl (vpc rfl) dL_acts_20 ?_
  obtain ⟨z128, ez128, hf⟩ := elet_out hf
  refine lvn_i ez128 ?_
  refine lv_istore (lv' := [(6, .int z128), (5, .int y127), (4, .int y126), (0, .ref (a 0)), (1, .ref ag), (2, .ref ak), (3, .int i3)]) hx hb dL_acts_21 hl (by decide) rfl (fun ls hl => ?_)
  refine lv_iload hx hb dL_acts_23 (lv_at hl 1 rfl) ?_
  refine lv_if_eq (tgt := 40) hx hb dL_acts_25 (by decide) (fun c129 => ?_) (fun c129 => ?_)
  · have hf := oif_t c129 hf
    exact (hWW _ _ _ _ _ _ _).1 (J40 vX vA vB vg vk z128 H locs ls hP hD hS (lv_sub hl [3, 4, 5, 0] rfl) hf)
  · have hf := oif_f c129 hf
    refine lv_iload hx hb dL_acts_28 (lv_at hl 0 rfl) ?_
    refine lv_if_ne (tgt := 123) hx hb dL_acts_30 (by decide) (fun c130 => ?_) (fun c130 => ?_)
    · have hf := oif_f c130 hf
      exact (hWW _ _ _ _ _ _ _).1 (J123 vX vA vB vg vk y126 y127 z128 H locs ls hP hD hS (lv_sub hl [3, 4, 5, 2, 1, 0] rfl) hf)
    · have hf := oif_t c130 hf
      refine lv_iload hx hb dL_acts_33 (lv_at hl 1 rfl) ?_
      refine lv_bipush (v := 8) hx hb dL_acts_35 (by decide) ?_
      refine lv_icmp_ge (tgt := 123) hx hb dL_acts_37 (by decide) (fun c131 => ?_) (fun c131 => ?_)
      · have hf := oif_t c131 hf
        exact (hWW _ _ _ _ _ _ _).1 (J123 vX vA vB vg vk y126 y127 z128 H locs ls hP hD hS (lv_sub hl [3, 4, 5, 2, 1, 0] rfl) hf)
      · have hf := oif_f c131 hf
        exact (hWW _ _ _ _ _ _ _).1 (J40 vX vA vB vg vk z128 H locs ls hP hD hS (lv_sub hl [3, 4, 5, 0] rfl) hf)
