/-! THE CLAIM OUT OF ONE WALK OF THE LAW'S BODY. Your part is whole_start (and what it stands on); all else here is the same for every law, but numbers. -/
def R_law : String := "SpringPlatesLaw"
def lw_P (b : Addr) (xs : List Int32) (args : Array Value) (s : State) : Prop := args = #[.ref b] ∧ s.IntsAt b xs ∧ xs.length ≤ 260 ∧ (Jvm.Cond.and given_1 narrow_1).before args s = true
def lw_Q (_ : Array Value) (s : State) (o : Outcome) (t : State) : Prop := o = .returned (some (.int 1)) ∧ Framed s o t [] 604043 7290120
def lw_Z (below : List Frame) (a : Array Value) (s : State) : State → Prop := fun t => ∃ o, t.status = .running ∧ Ended t below o ∧ lw_Q a s o t
/-- the law's own end, with 1 on the stack, nothing written that was there before, its room as the claim has it -/
theorem lw_ret {p : Program} {l : Launch} {e : Env} {s : State} {m : MethodId} {below : List Frame} {meth : Method} {c : Code} {b : Nat} (hx : p.tables.exec = Jvm.exec) (hb : c.code = code) (hr : meth.sig.returnType = ret) (hlocks : meth.locks = false) {pc : Nat} {H : Heap} {ls : Array Slot} (hdg : decode code pc = .ok (.ireturn, 1)) : W p l e room_1 s m #[Value.ref b] below meth c H [] 604043 7290120 (lw_Z below #[Value.ref b] s) (F0 m pc ls [.int 1]) := by
  intro T hT X
  obtain ⟨fs, hret, hrun, hended, hW, hframe⟩ := X.leave (v := some (.int 1)) (hlocks := hlocks) (fun h => by rw [hr] at h; cases h)
  have hmeth' : T.vm.method? m = some meth := X.method'
  refine ⟨T.setFrames fs, ?_, .returned (some (.int 1)), hrun, hended, rfl, ⟨_, rfl⟩, hW, hframe⟩
  jvm_step X.here [X.here.top, hx, hb, hdg, hmeth', hr, ret, narrow_b1]
  (try refine ⟨rfl, ?_⟩); (try refine ⟨rfl, ?_⟩)
  first | (intro acts; rw [hret _ acts rfl rfl rfl]) | rw [hret _ _ rfl rfl rfl]
  exact Steps.refl _
/-- what holds at the law's entry: the machine, the code, the tables' words (any of lw_tbl by 'hts w (by decide +kernel)'), the script of L ints xs at the cell b, what the Statement gives of the start (any of its parts by flat_of_before) -/
def lw_At (p : Program) (s : State) (m : MethodId) (meth : Method) (c : Code) (b L : Nat) (xs : Nat → Int32) : Prop :=
  p.tables.exec = Jvm.exec ∧ c.code = code ∧ meth.sig.returnType = ret ∧ c.maxLocals = 7 ∧ s.vm.findClass R_law = some m.cls ∧ (∀ w ∈ lw_tbl, w.before #[Value.ref b] s = true) ∧ va_X b L xs s s.heap ∧ b < s.heap.size ∧ meth.locks = false ∧ (Jvm.Cond.and given_1 narrow_1).before #[Value.ref b] s = true
theorem arrK {args : Array Value} {s : State} {ty : FieldType} (h : (Cond.arrayClass ty).before args s = true) : ∃ cA : ClassId, ArrOfT s cA ty ∧ s.vm.findClass ("[" ++ ty.toString) = some cA := by
  obtain ⟨cA, kA, comp, h1, h2, h3⟩ := Cond.arrayClass_spec h
  exact ⟨cA, fun n z => ⟨fun k h => (by cases h), kA, h2, comp, h3⟩, h1⟩
section CI
variable {p : Program} {l : Launch} {e : Env} {R : Room} {s : State} {m : MethodId} {args : Array Value} {below : List Frame} {meth : Method} {c : Code} {H : Heap} {locs : List Loc} {cells slots : Nat} {Q : State → Prop}
variable {pc : Nat} {ls : Array Slot} {rest st0 : List Value} {a : Array Value} {A : Nat → Prop} {mc ms : Nat} {dC : Nat → ClassId} {dI : Nat → Nat → Nat} {ws wc wr : va_W}
theorem cgI_v {S : Type} {pst : S → Prop} {w1 wo : S → va_W} {tys : S → List (ClassId × FieldType)} (hP : va_P (dC, dI) vwCl ws H) (hD : va_D A ws) (hS : va_S A s.heap H locs) (hA : ∀ q, s.heap.size ≤ q → A q) (hr : va_Run p l e R s m args below meth c H locs cells slots mc ms (F0 m pc ls st0) rest (va_Qv (fun (u : S) => pst u) (fun u t => cB dC dI (va_A wc H.size) (w1 u) t ∧ va_K (dC, dI) vwCl (tys u) t) (va_A wc H.size) a) (va_A wc H.size))
    (isC isR isO : List Nat) (hC : isC.map (fun i => ws[i]?) = wc.map some) (hR : isR.map (fun i => ws[i]?) = wr.map some) (hn : va_nd isR = true) (hdis : ∀ i ∈ isR, i ∉ isC) (hnO : va_nd isO = true) (hO : ∀ u, isO.map (fun i => (wr ++ w1 u)[i]?) = (wo u).map some)
    (kk : ∀ (u : S) (H1 : Heap) (locs1 : List Loc), pst u → va_K (dC, dI) vwCl (tys u) s → va_P (dC, dI) vwCl (wo u) H1 → va_D A (wo u) → va_S A s.heap H1 locs1 → W p l e R s m args below meth c H1 locs1 (cells + mc) (slots + ms) Q (F0 m (pc + 3) ls rest)) : W p l e R s m args below meth c H locs cells slots Q (F0 m pc ls st0) := by
  have hF := va_free (wc := wc) hD hS hA isC hC
  refine va_callv hr hS (fun q _ h => hF q h) hF (fun u t H1 locs1 ht hvm hw hB hz hk hS1 => ?_)
  obtain ⟨⟨hP1, hD1⟩, hK1⟩ := hB
  rw [ht] at hP1
  obtain ⟨g1, g2⟩ := cg_join hP hD isC isR isO hC hR hn hdis hnO (hO u) hk hF hP1 hD1
  exact kk u H1 locs1 hw (va_K.moved hvm.symm hK1) g1 g2 hS1
end CI
theorem tb_in {w : Cond} (h : w ∈ tables_1) : w ∈ lw_tbl := List.mem_append_right _ h
theorem tb_n1 : (.methodLinkNest RX3 29 yX1_init "SpringPlates" : Cond) ∈ lw_tbl := tb_in (List.mem_of_getElem? (i := 56) (by decide +kernel))
theorem tb_n2 : (.methodLinkNest RX3 43 yX2_init "SpringPlates" : Cond) ∈ lw_tbl := tb_in (List.mem_of_getElem? (i := 95) (by decide +kernel))
theorem tb_n3 : (.methodLinkNest RX0 68 yX3_isSide "SpringPlates" : Cond) ∈ lw_tbl := tb_in (List.mem_of_getElem? (i := 263) (by decide +kernel))
theorem tb_n4 : (.methodLinkNest RX1 115 yX3_greatestDivisor "SpringPlates" : Cond) ∈ lw_tbl := tb_in (List.mem_of_getElem? (i := 356) (by decide +kernel))
theorem tb_ao : (.arrayOver (.object RX0) : Cond) ∈ lw_tbl := tb_in (List.mem_of_getElem? (i := 53) (by decide +kernel))
theorem tb_ai : (.arrayClass .int : Cond) ∈ lw_tbl := tb_in (List.mem_of_getElem? (i := 52) (by decide +kernel))
theorem tb_al : (.arrayClass .long : Cond) ∈ lw_tbl := tb_in (List.mem_of_getElem? (i := 92) (by decide +kernel))
theorem tb_i0 : (.instantiable RX0 6 : Cond) ∈ lw_tbl := tb_in (List.mem_of_getElem? (i := 15) (by decide +kernel))
theorem tb_i1 : (.instantiable RX1 10 : Cond) ∈ lw_tbl := tb_in (List.mem_of_getElem? (i := 55) (by decide +kernel))
theorem tb_i2 : (.instantiable RX2 9 : Cond) ∈ lw_tbl := tb_in (List.mem_of_getElem? (i := 94) (by decide +kernel))
theorem tb_i3 : (.instantiable RX3 8 : Cond) ∈ lw_tbl := tb_in (List.mem_of_getElem? (i := 7) (by decide +kernel))
theorem tb_cl : (.classLink RL 35 RX3 : Cond) ∈ lw_tbl := tb_in (List.mem_of_getElem? (i := 6) (by decide +kernel))
theorem tb_ii : (.initialized RX3 : Cond) ∈ lw_tbl := tb_in (List.mem_of_getElem? (i := 1) (by decide +kernel))
theorem tb_ml : (.methodLink RL 107 yX3_init : Cond) ∈ lw_tbl := tb_in (List.mem_of_getElem? (i := 8) (by decide +kernel))
theorem tb_im : (.instanceMethod yX3_init : Cond) ∈ lw_tbl := tb_in (List.mem_of_getElem? (i := 9) (by decide +kernel))
theorem tb_c8 : (.constant RL 8 2147483647 : Cond) ∈ lw_tbl := tb_in (List.mem_of_getElem? (i := 173) (by decide +kernel))
theorem tb_c64 : (.constant RL 64 (-1000001) : Cond) ∈ lw_tbl := tb_in (List.mem_of_getElem? (i := 254) (by decide +kernel))
theorem law_NX {s : State} {b : Addr} (hts : ∀ w ∈ lw_tbl, w.before #[Value.ref b] s = true) : NX (fun q : Nat => s.heap.size ≤ q) s :=
  ⟨⟨va_Nw.of rfl (hts _ tb_n1), va_Nw.of rfl (hts _ tb_n2), va_Nw.of rfl (hts _ tb_n3), va_Nw.of rfl (hts _ tb_n4)⟩, fun _ _ => Or.inl trivial⟩
/-! cell: the script's own -/
def fL_cell (L : Nat) (xs : Nat → Int32) (i : Int32) : Option Int32 := if Int32.ofNat L ≤ i then some (40503 * (i + 3)) else (if inB i L = true then some (xs i.toNatClampNeg) else none)
abbrev cPcS (b L : Nat) (xs : Nat → Int32) (dC : Nat → ClassId) (dI : Nat → Nat → Nat) (cI cJ : ClassId) (av : List Value) (sz : Nat) : Array Value → State → Prop := va_Pc av (fun U => U.heap.size = sz ∧ va_P (dC, dI) vwCl [] U.heap ∧ va_K (dC, dI) vwCl [(cI, .int), (cJ, .long)] U ∧ va_D (fun _ => True) ([] : va_W) ∧ va_X b L xs U U.heap ∧ b < sz)
theorem cFBS {b L : Nat} {xs : Nat → Int32} {dC : Nat → ClassId} {dI : Nat → Nat → Nat} {cI cJ : ClassId} {av : List Value} {sz : Nat} : FrameBlind (cPcS b L xs dC dI cI cJ av sz) := fun a U g mk q => by
  obtain ⟨q0, q1, qP, qK, qD, qX, qb⟩ := q
  exact ⟨q0, q1, qP, va_K.moved (u := U) (U := U.calling g mk a) (Vm.Alike.refl U.vm) qK, qD, va_X.moved (u := U) (U := U.calling g mk a) (Vm.Alike.refl U.vm) qX, qb⟩
set_option maxHeartbeats 8000000 in
set_option maxRecDepth 100000 in
theorem mL_cell (l : Launch) (dC : Nat → ClassId) (dI : Nat → Nat → Nat) (cI cJ : ClassId) (b L : Nat) (xs : Nat → Int32) (sz : Nat) (i1 : Int32) (y : Int32) (hf : fL_cell L xs i1 = some y) : Met l yL_cell wsL_cell ({ frames := 0, cells := 0, slots := 0, locals := 0 }) (cPcS b L xs dC dI cI cJ [.ref b, .int i1] sz) (va_Qi (fun r (_ : Unit) => r = y) (fun _ t => cB dC dI (va_A [] sz) [] t) (va_A [] sz)) 0 0 (va_A [] sz) := by
  refine Met.ofW (cc := cL_cell) (maxL := 2) (ret := (some .int)) (by decide) rfl ?_
  intro p e s m args below meth c s₁ B hml hv
  obtain ⟨rfl, hsz, hP, hK, hD0, hX, hbl⟩ := hv
  have hx := B.exec
  have hb := B.bytes
  have hr := B.returns
  have hts := atoms_spec (ws := wsL_cell) B.pre
  have hown : s.vm.findClass RL = some m.cls := findClass_of_methodNamed B.named
  have hlocks := B.notSynchronized
  subst hsz
  have hD := hD0.self (sz := s.heap.size)
  have hbA : ¬ va_A ([] : va_W) s.heap.size b := fun h => h.elim (fun ⟨k, e, h⟩ => by simp at h) (fun h => Nat.lt_irrefl _ (Nat.lt_of_lt_of_le hbl h))
  generalize hAe : va_A ([] : va_W) s.heap.size = A at hD hbA ⊢
  have hA : ∀ q : Nat, s.heap.size ≤ q → A q := fun q h => by rw [← hAe]; exact Or.inr h
  have hl := lv_entry ([.ref b, .int i1]) (n := 2) (Nat.le_of_ble_eq_true rfl)
  rw [lg_entry_eq]
  generalize (lg_sl ([.ref b, .int i1]) ++ List.replicate (2 - (lg_sl ([.ref b, .int i1])).length) Slot.unset).toArray = ls at hl ⊢
  have hl : lv_has ls 2 [(0, .ref b), (1, .int i1)] := hl
  have hc7 := hts (.constant RL 7 40503) (by decide +kernel)
  refine nameH (fun H locs hHe hLe => ?_)
  have hP : va_P (dC, dI) vwCl [] H := by rw [hHe]; exact hP
  have hS : va_S A s.heap H locs := by rw [hHe, hLe]; exact va_S.rf
  unfold fL_cell at hf
  refine lv_iload_n hx hb dL_cell_0 rfl (lv_at hl 1 rfl) ?_
  refine lv_aload_n hx hb dL_cell_1 rfl (lv_at hl 0 rfl) ?_
  refine va_slen hx hb hX hbl hbA hS dL_cell_2 ?_
  refine lv_icmp_ge (tgt := 12) hx hb dL_cell_3 (by decide) (fun c1 => ?_) (fun c1 => ?_)
  · have hf := oif_t c1 hf
    refine lv_ldc (v := 40503) hx hb hown hc7 dL_cell_12 ?_
    refine lv_iload_n hx hb dL_cell_14 rfl (lv_at hl 1 rfl) ?_
    refine lv_iconst (v := 3) hx hb dL_cell_15 (by decide) ?_
    refine lv_iadd hx hb dL_cell_16 ?_
    refine lv_imul hx hb dL_cell_17 ?_
    obtain rfl := Option.some.inj hf
    exact W.iret (v := (40503 * (i1 + 3))) hx hb hr (fun t ht hW => ⟨⟨(40503 * (i1 + 3)), (), rfl, rfl, by rw [ht]; exact hP, hD⟩, hS.F ht⟩) hS.2.2 dL_cell_18
  · have hf := oif_f c1 hf
    refine lv_aload_n hx hb dL_cell_6 rfl (lv_at hl 0 rfl) ?_
    refine lv_iload_n hx hb dL_cell_7 rfl (lv_at hl 1 rfl) ?_
    obtain ⟨hi, hf⟩ := oinb rfl hf
    refine va_sld hx hb hX hbl hbA hS hi dL_cell_8 ?_
    refine lv_goto (tgt := 18) hx hb dL_cell_9 (by decide) ?_
    obtain rfl := Option.some.inj hf
    exact W.iret (v := (xs i1.toNatClampNeg)) hx hb hr (fun t ht hW => ⟨⟨(xs i1.toNatClampNeg), (), rfl, rfl, by rw [ht]; exact hP, hD⟩, hS.F ht⟩) hS.2.2 dL_cell_18
/-- cell always answers at an index that isn't below 0 -/
theorem cell_some (L : Nat) (xs : Nat → Int32) (i : Int32) (hL : L < 2 ^ 31) (hi : ¬ i < 0) : ∃ y, fL_cell L xs i = some y := by
  unfold fL_cell
  by_cases h : Int32.ofNat L ≤ i
  · exact ⟨_, if_pos h⟩
  · rw [if_neg h]
    obtain ⟨k, hk, rfl⟩ := nI_of hi
    have h2 : k < L := by
      rcases Nat.lt_or_ge k L with q | q
      · exact q
      · exact absurd (nI_le q hk) h
    have h3 : inB (nI k) L = true := by
      have h1 : ¬ nI k < 0 := nI_pos hk
      have h2' : (nI k).toNatClampNeg = k := nI_clamp hk
      simp [inB, h1, h2', h2]
    exact ⟨_, if_pos h3⟩
abbrev SimT : Type := BX3 → Nat → (Nat → BX0) → BX0 → BX0 → BX1 → BX2 → (Nat → Int32) → (Nat → Int32) → Prop
def St_acts (Sim : SimT) : Prop := ∀ (vX : BX3) (nh : Nat) (pv : Nat → BX0) (vA vB : BX0) (vR : BX1) (vS : BX2) (vg vk : Nat → Int32) (i : Int32), Sim vX nh pv vA vB vR vS vg vk → ∃ y, fL_acts vX nh pv vA vB vg vk i = some y ∧ y.1 = 1 ∧ Sim y.2.1 (y.2.2.1) (y.2.2.2.1) y.2.2.2.2.1 y.2.2.2.2.2.1 vR vS y.2.2.2.2.2.2.1 y.2.2.2.2.2.2.2
def St_isSo (Sim : SimT) : Prop := ∀ (vX : BX3) (nh : Nat) (pv : Nat → BX0) (vA vB : BX0) (vR : BX1) (vS : BX2) (vg vk : Nat → Int32), Sim vX nh pv vA vB vR vS vg vk → ∃ y, fL_isSo vX vA vR vS vg vk = some y ∧ y.1 = 1 ∧ Sim y.2.1 nh pv vA vB y.2.2 vS vg vk
def St_count (Sim : SimT) : Prop := ∀ (vX : BX3) (nh : Nat) (pv : Nat → BX0) (vA vB : BX0) (vR : BX1) (vS : BX2) (vg vk : Nat → Int32), Sim vX nh pv vA vB vR vS vg vk → fX3_count vX vA vS 6 = some (-1000001) ∧ fX3_count vX vA vS (-1) = some (-1000001)
def St_low : Prop := ∀ v : Int32, ∃ k : Nat, k < 40 ∧ fL_low v 40 = some (nI k)
theorem room_c {x y : Nat} (h : x + y ≤ 604043) : x + y ≤ room_1.cells := h
theorem room_s {x y : Nat} (h : x + y ≤ 7290120) : x + y ≤ room_1.slots := h
