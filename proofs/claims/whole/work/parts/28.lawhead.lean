/-! THE CLAIM OUT OF ONE WALK OF THE LAW'S BODY. Your part is whole_start (and what it stands on); all else here is the same for every law, but numbers. -/
def R_law : String := "SpringPlatesLaw"
def lw_P (b : Addr) (xs : List Int32) (args : Array Value) (s : State) : Prop := args = #[.ref b] ∧ s.IntsAt b xs ∧ xs.length ≤ 2560 ∧ (Jvm.Cond.and given_1 narrow_1).before args s = true
def lw_Q (_ : Array Value) (s : State) (o : Outcome) (t : State) : Prop := o = .returned (some (.int 1)) ∧ Framed s o t [] 668351 7097195
def lw_Z (below : List Frame) (a : Array Value) (s : State) : State → Prop := fun t => ∃ o, t.status = .running ∧ Ended t below o ∧ lw_Q a s o t
/-- the law's own end, with 1 on the stack, nothing written that was there before, its room as the claim has it -/
theorem lw_ret {p : Program} {l : Launch} {e : Env} {s : State} {m : MethodId} {below : List Frame} {meth : Method} {c : Code} {b : Nat} (hx : p.tables.exec = Jvm.exec) (hb : c.code = code) (hr : meth.sig.returnType = ret) (hlocks : meth.locks = false) {pc : Nat} {H : Heap} {ls : Array Slot} (hdg : decode code pc = .ok (.ireturn, 1)) : W p l e room_1 s m #[Value.ref b] below meth c H [] 668351 7097195 (lw_Z below #[Value.ref b] s) (F0 m pc ls [.int 1]) := by
  intro T hT X
  obtain ⟨fs, hret, hrun, hended, hW, hframe⟩ := X.leave (v := some (.int 1)) (hlocks := hlocks) (fun h => by rw [hr] at h; cases h)
  have hmeth' : T.vm.method? m = some meth := X.method'
  refine ⟨T.setFrames fs, ?_, .returned (some (.int 1)), hrun, hended, rfl, ⟨_, rfl⟩, hW, hframe⟩
  jvm_step X.here [X.here.top, hx, hb, hdg, hmeth', hr, ret, narrow_b1]
  (try refine ⟨rfl, ?_⟩); (try refine ⟨rfl, ?_⟩)
  first | (intro acts; rw [hret _ acts rfl rfl rfl]) | rw [hret _ _ rfl rfl rfl]
  exact Steps.refl _
/-- what holds at the law's entry: the machine, the code, the tables' words (any of lw_tbl by 'hts w (by decide +kernel)'), the script of L ints xs at the cell b, what the Statement gives of the start (any of its parts by flat_of_before) -/
def lw_At (p : Program) (s : State) (m : MethodId) (meth : Method) (c : Code) (b L : Nat) (xs : Nat → Int32) : Prop :=
  p.tables.exec = Jvm.exec ∧ c.code = code ∧ meth.sig.returnType = ret ∧ c.maxLocals = 4 ∧ s.vm.findClass R_law = some m.cls ∧ (∀ w ∈ lw_tbl, w.before #[Value.ref b] s = true) ∧ va_X b L xs s s.heap ∧ b < s.heap.size ∧ meth.locks = false ∧ (Jvm.Cond.and given_1 narrow_1).before #[Value.ref b] s = true
abbrev SimT : Type := BX3 → Nat → (Nat → BX0) → BX0 → BX0 → BX1 → BX1 → BX2 → BX4 → Prop
def St_width (Sim : SimT) : Prop := ∀ (vX : BX3) (n : Nat) (pv : Nat → BX0) (vA vB : BX0) (vR vT : BX1) (vS : BX2) (vM : BX4) (i1 : Int32), Sim vX n pv vA vB vR vT vS vM → ∃ y z, fX3_width vX n pv vA vB i1 = some y ∧ fX4_width vM i1 = some z ∧ y.1 = z.1 ∧ Sim y.2.1 (y.2.2.1) (y.2.2.2.1) y.2.2.2.2.1 y.2.2.2.2.2 vR vT vS z.2
def St_plate (Sim : SimT) : Prop := ∀ (vX : BX3) (n : Nat) (pv : Nat → BX0) (vA vB : BX0) (vR vT : BX1) (vS : BX2) (vM : BX4), Sim vX n pv vA vB vR vT vS vM → ∃ y z, fX3_plate vX n pv vA vB  = some y ∧ fX4_plate vM = some z ∧ y.1 = z.1 ∧ Sim y.2.1 (y.2.2.1) (y.2.2.2.1) y.2.2.2.2.1 y.2.2.2.2.2 vR vT vS z.2
def St_drop (Sim : SimT) : Prop := ∀ (vX : BX3) (n : Nat) (pv : Nat → BX0) (vA vB : BX0) (vR vT : BX1) (vS : BX2) (vM : BX4) (i1 : Int32), Sim vX n pv vA vB vR vT vS vM → ∃ y z, fX3_drop vX n pv vA vB i1 = some y ∧ fX4_drop vM i1 = some z ∧ y.1 = z.1 ∧ Sim y.2.1 (y.2.2.1) (y.2.2.2.1) y.2.2.2.2.1 y.2.2.2.2.2 vR vT vS z.2
def St_spring (Sim : SimT) : Prop := ∀ (vX : BX3) (n : Nat) (pv : Nat → BX0) (vA vB : BX0) (vR vT : BX1) (vS : BX2) (vM : BX4) (i1 i2 i3 : Int32), Sim vX n pv vA vB vR vT vS vM → ∃ y z, fX3_spring vX n pv vA vB i1 i2 i3 = some y ∧ fX4_spring vM i1 i2 i3 = some z ∧ y.1 = z.1 ∧ Sim y.2.1 (y.2.2.1) (y.2.2.2.1) y.2.2.2.2.1 y.2.2.2.2.2 vR vT vS z.2
def St_load (Sim : SimT) : Prop := ∀ (vX : BX3) (n : Nat) (pv : Nat → BX0) (vA vB : BX0) (vR vT : BX1) (vS : BX2) (vM : BX4) (i1 i2 : Int32), Sim vX n pv vA vB vR vT vS vM → ∃ y z, fX3_load vX n pv vA vB i1 i2 = some y ∧ fX4_load vM i1 i2 = some z ∧ y.1 = z.1 ∧ Sim y.2.1 (y.2.2.1) (y.2.2.2.1) y.2.2.2.2.1 y.2.2.2.2.2 vR vT vS z.2
def St_stop (Sim : SimT) : Prop := ∀ (vX : BX3) (n : Nat) (pv : Nat → BX0) (vA vB : BX0) (vR vT : BX1) (vS : BX2) (vM : BX4) (i1 i2 i3 : Int32), Sim vX n pv vA vB vR vT vS vM → ∃ y z, fX3_stop vX n pv vA vB i1 i2 i3 = some y ∧ fX4_stop vM i1 i2 i3 = some z ∧ y.1 = z.1 ∧ Sim y.2.1 (y.2.2.1) (y.2.2.2.1) y.2.2.2.2.1 y.2.2.2.2.2 vR vT vS z.2
def St_unstop (Sim : SimT) : Prop := ∀ (vX : BX3) (n : Nat) (pv : Nat → BX0) (vA vB : BX0) (vR vT : BX1) (vS : BX2) (vM : BX4) (i1 i2 : Int32), Sim vX n pv vA vB vR vT vS vM → ∃ y z, fX3_unstop vX n pv vA vB i1 i2 = some y ∧ fX4_unstop vM i1 i2 = some z ∧ y.1 = z.1 ∧ Sim y.2.1 (y.2.2.1) (y.2.2.2.1) y.2.2.2.2.1 y.2.2.2.2.2 vR vT vS z.2
def St_plateOf (Sim : SimT) : Prop := ∀ (vX : BX3) (n : Nat) (pv : Nat → BX0) (vA vB : BX0) (vR vT : BX1) (vS : BX2) (vM : BX4) (i1 i2 : Int32), Sim vX n pv vA vB vR vT vS vM → ∃ y z, fX3_plateOf vX vA i1 i2 = some y ∧ fX4_plateOf vM i1 i2 = some z ∧ y = z ∧ Sim vX n pv vA vB vR vT vS vM
def St_place (Sim : SimT) : Prop := ∀ (vX : BX3) (n : Nat) (pv : Nat → BX0) (vA vB : BX0) (vR vT : BX1) (vS : BX2) (vM : BX4) (i1 i2 : Int32), Sim vX n pv vA vB vR vT vS vM → ∃ y z, fX3_place vX vA vR i1 i2 = some y ∧ fX4_place vM i1 i2 = some z ∧ y.1 = z.1 ∧ Sim y.2.1 n pv vA vB y.2.2 vT vS z.2
def St_pull (Sim : SimT) : Prop := ∀ (vX : BX3) (n : Nat) (pv : Nat → BX0) (vA vB : BX0) (vR vT : BX1) (vS : BX2) (vM : BX4) (i1 i2 : Int32), Sim vX n pv vA vB vR vT vS vM → ∃ y z, fX3_pull vX vA vR i1 i2 = some y ∧ fX4_pull vM i1 i2 = some z ∧ y.1 = z.1 ∧ Sim y.2.1 n pv vA vB y.2.2 vT vS z.2
def St_push (Sim : SimT) : Prop := ∀ (vX : BX3) (n : Nat) (pv : Nat → BX0) (vA vB : BX0) (vR vT : BX1) (vS : BX2) (vM : BX4) (i1 i2 : Int32), Sim vX n pv vA vB vR vT vS vM → ∃ y z, fX3_push vX vA vR i1 i2 = some y ∧ fX4_push vM i1 i2 = some z ∧ y.1 = z.1 ∧ Sim y.2.1 n pv vA vB y.2.2 vT vS z.2
def St_plates (Sim : SimT) : Prop := ∀ (vX : BX3) (n : Nat) (pv : Nat → BX0) (vA vB : BX0) (vR vT : BX1) (vS : BX2) (vM : BX4) (i1 : Int32), Sim vX n pv vA vB vR vT vS vM → ∃ y z, fX3_plates vX vA vR i1 = some y ∧ fX4_plates vM i1 = some z ∧ y.1 = z.1 ∧ Sim y.2.1 n pv vA vB y.2.2 vT vS z.2
def St_without (Sim : SimT) : Prop := ∀ (vX : BX3) (n : Nat) (pv : Nat → BX0) (vA vB : BX0) (vR vT : BX1) (vS : BX2) (vM : BX4) (i1 i2 i3 i4 : Int32), Sim vX n pv vA vB vR vT vS vM → ∃ y z, fX3_without vX vA vB vT i1 i2 i3 i4 = some y ∧ fX4_without vM i1 i2 i3 i4 = some z ∧ y.1 = z.1 ∧ Sim vX n pv vA y.2.1 vR y.2.2 vS z.2
def St_leastLoad (Sim : SimT) : Prop := ∀ (vX : BX3) (n : Nat) (pv : Nat → BX0) (vA vB : BX0) (vR vT : BX1) (vS : BX2) (vM : BX4) (i1 i2 : Int32), Sim vX n pv vA vB vR vT vS vM → ∃ y z, fX3_leastLoad vX vA vB vT i1 i2 = some y ∧ fX4_leastLoad vM i1 i2 = some z ∧ y.1 = z.1 ∧ Sim vX n pv vA y.2.1 vR y.2.2 vS z.2
def St_hardest (Sim : SimT) : Prop := ∀ (vX : BX3) (n : Nat) (pv : Nat → BX0) (vA vB : BX0) (vR vT : BX1) (vS : BX2) (vM : BX4) (i1 : Int32), Sim vX n pv vA vB vR vT vS vM → ∃ y z, fX3_hardest vX vA vB vR vT i1 = some y ∧ fX4_hardest vM i1 = some z ∧ y.1 = z.1 ∧ Sim y.2.1 n pv vA y.2.2.1 y.2.2.2.1 y.2.2.2.2 vS z.2
def St_count (Sim : SimT) : Prop := ∀ (vX : BX3) (n : Nat) (pv : Nat → BX0) (vA vB : BX0) (vR vT : BX1) (vS : BX2) (vM : BX4) (i1 : Int32), Sim vX n pv vA vB vR vT vS vM → ∃ y z, fX3_count vX vA vS i1 = some y ∧ fX4_count vM i1 = some z ∧ y = z ∧ Sim vX n pv vA vB vR vT vS vM
def St_undo (Sim : SimT) : Prop := ∀ (vX : BX3) (n : Nat) (pv : Nat → BX0) (vA vB : BX0) (vR vT : BX1) (vS : BX2) (vM : BX4), Sim vX n pv vA vB vR vT vS vM → ∃ y z, fX3_undo vX n pv vA = some y ∧ fX4_undo vM = some z ∧ y.1 = z.1 ∧ Sim y.2.1 n pv y.2.2 vB vR vT vS z.2
def St_type (Sim : SimT) : Prop := ∀ (vX : BX3) (n : Nat) (pv : Nat → BX0) (vA vB : BX0) (vR vT : BX1) (vS : BX2) (vM : BX4) (i1 : Int32), Sim vX n pv vA vB vR vT vS vM → ∃ y z, fX3_type vX vS i1 = some y ∧ fX4_type vM i1 = some z ∧ y.1 = z.1 ∧ Sim vX n pv vA vB vR vT y.2 z.2
def St_clearText (Sim : SimT) : Prop := ∀ (vX : BX3) (n : Nat) (pv : Nat → BX0) (vA vB : BX0) (vR vT : BX1) (vS : BX2) (vM : BX4), Sim vX n pv vA vB vR vT vS vM → ∃ y z, fX3_clearText vX vS = some y ∧ fX4_clearText vM = some z ∧ y.1 = z.1 ∧ Sim vX n pv vA vB vR vT y.2 z.2
def St_fault (Sim : SimT) : Prop := ∀ (vX : BX3) (n : Nat) (pv : Nat → BX0) (vA vB : BX0) (vR vT : BX1) (vS : BX2) (vM : BX4) (i1 : Int32), Sim vX n pv vA vB vR vT vS vM → ∃ y z, fX3_fault vX vA vB vS i1 = some y ∧ fX4_fault vM i1 = some z ∧ y.1 = z.1 ∧ Sim vX n pv vA y.2.1 vR vT y.2.2 z.2
def St_play (Sim : SimT) : Prop := ∀ (vX : BX3) (n : Nat) (pv : Nat → BX0) (vA vB : BX0) (vR vT : BX1) (vS : BX2) (vM : BX4), Sim vX n pv vA vB vR vT vS vM → ∃ y z, fX3_play vX n pv vA vB vS  = some y ∧ fX4_play vM = some z ∧ y.1 = z.1 ∧ Sim y.2.1 (y.2.2.1) (y.2.2.2.1) y.2.2.2.2.1 y.2.2.2.2.2.1 vR vT y.2.2.2.2.2.2 z.2

theorem law_x {t L : Nat} (ht : t ≤ 512) (hL : L ≤ 2560) : nI L - 5 < nI (5 * t) ∨ 5 * t + 5 ≤ L := by
  by_cases h : 5 * t + 5 ≤ L
  · exact Or.inr h
  · refine Or.inl (Int32.lt_iff_toInt_lt.mpr ?_)
    have e : (nI L - nI 5).toInt = (L : Int) - 5 := pk_sub_toInt (by omega) (by omega)
    show (nI L - nI 5).toInt < _
    rw [e, nI_toInt (by omega)]
    omega
theorem law_ix {t L k : Nat} (hk : k < 5) (h : 5 * t + 5 ≤ L) (hL : L ≤ 2560) : vp_in (nI (5 * t) + nI k) L := by
  rw [nI_add]
  exact vp_in_nI (by omega) (by omega)
theorem arrK {args : Array Value} {s : State} {ty : FieldType} (h : (Cond.arrayClass ty).before args s = true) : ∃ cA : ClassId, ArrOfT s cA ty ∧ s.vm.findClass ("[" ++ ty.toString) = some cA := by
  obtain ⟨cA, kA, comp, h1, h2, h3⟩ := Cond.arrayClass_spec h
  exact ⟨cA, fun n z => ⟨fun k h => (by cases h), kA, h2, comp, h3⟩, h1⟩
section CL
variable {p : Program} {l : Launch} {e : Env} {R : Room} {s : State} {m : MethodId} {args : Array Value} {below : List Frame} {meth : Method} {c : Code} {H : Heap} {locs : List Loc} {cells slots : Nat} {Q : State → Prop}
variable {pc : Nat} {ls : Array Slot} {rest st0 : List Value} {a : Array Value} {A : Nat → Prop} {mc ms : Nat} {dC : Nat → ClassId} {dI : Nat → Nat → Nat} {ws wc wr w1 wo pool : va_W}
theorem cgT_l {rv : Int64} (hP : va_P (dC, dI) vwCl (ws ++ pool) H) (hD : va_D A (ws ++ pool)) (hS : va_S A s.heap H locs) (hA : ∀ q, s.heap.size ≤ q → A q) (hr : va_Run p l e R s m args below meth c H locs cells slots mc ms (F0 m pc ls st0) rest (va_Ql (fun r (_ : Unit) => r = rv) (fun _ t => cB dC dI (va_A wc H.size) w1 t) (va_A wc H.size) a) (va_A wc H.size))
    (isC isR isO : List Nat) (hC : isC.map (fun i => ws[i]?) = wc.map some) (hR : isR.map (fun i => ws[i]?) = wr.map some) (hn : va_nd isR = true) (hdis : ∀ i ∈ isR, i ∉ isC) (hnO : va_nd isO = true) (hO : isO.map (fun i => (wr ++ w1)[i]?) = wo.map some)
    (kk : ∀ (H1 : Heap) (locs1 : List Loc), va_P (dC, dI) vwCl (wo ++ pool) H1 → va_D A (wo ++ pool) → va_S A s.heap H1 locs1 → W p l e R s m args below meth c H1 locs1 (cells + mc) (slots + ms) Q (F0 m (pc + 3) ls (.long rv :: rest))) : W p l e R s m args below meth c H locs cells slots Q (F0 m pc ls st0) := by
  have hF := va_free (wc := wc) (tD_l hD) hS hA isC hC
  refine va_calll hr hS (fun q _ h => hF q h) hF (fun r u t H1 locs1 ht hvm hw hB hz hk hS1 => ?_)
  obtain ⟨hP1, hD1⟩ := hB
  rw [ht] at hP1
  obtain ⟨g1, g2⟩ := cg_tail hP hD isC isR isO hC hR hn hdis hnO hO hk hF hP1 hD1
  have hw : r = rv := hw
  subst hw
  exact kk H1 locs1 g1 g2 hS1
end CL
section CI
variable {p : Program} {l : Launch} {e : Env} {R : Room} {s : State} {m : MethodId} {args : Array Value} {below : List Frame} {meth : Method} {c : Code} {H : Heap} {locs : List Loc} {cells slots : Nat} {Q : State → Prop}
variable {pc : Nat} {ls : Array Slot} {rest st0 : List Value} {a : Array Value} {A : Nat → Prop} {mc ms : Nat} {dC : Nat → ClassId} {dI : Nat → Nat → Nat} {ws wc wr : va_W}
theorem cgI_v {S : Type} {pst : S → Prop} {w1 wo : S → va_W} {tys : S → List (ClassId × FieldType)} (hP : va_P (dC, dI) vwCl ws H) (hD : va_D A ws) (hS : va_S A s.heap H locs) (hA : ∀ q, s.heap.size ≤ q → A q) (hr : va_Run p l e R s m args below meth c H locs cells slots mc ms (F0 m pc ls st0) rest (va_Qv (fun (u : S) => pst u) (fun u t => cB dC dI (va_A wc H.size) (w1 u) t ∧ va_K (dC, dI) vwCl (tys u) t) (va_A wc H.size) a) (va_A wc H.size))
    (isC isR isO : List Nat) (hC : isC.map (fun i => ws[i]?) = wc.map some) (hR : isR.map (fun i => ws[i]?) = wr.map some) (hn : va_nd isR = true) (hdis : ∀ i ∈ isR, i ∉ isC) (hnO : va_nd isO = true) (hO : ∀ u, isO.map (fun i => (wr ++ w1 u)[i]?) = (wo u).map some)
    (kk : ∀ (u : S) (H1 : Heap) (locs1 : List Loc), pst u → va_K (dC, dI) vwCl (tys u) s → va_P (dC, dI) vwCl (wo u) H1 → va_D A (wo u) → va_S A s.heap H1 locs1 → W p l e R s m args below meth c H1 locs1 (cells + mc) (slots + ms) Q (F0 m (pc + 3) ls rest)) : W p l e R s m args below meth c H locs cells slots Q (F0 m pc ls st0) := by
  have hF := va_free (wc := wc) hD hS hA isC hC
  refine va_callv hr hS (fun q _ h => hF q h) hF (fun u t H1 locs1 ht hvm hw hB hz hk hS1 => ?_)
  obtain ⟨⟨hP1, hD1⟩, hK1⟩ := hB
  rw [ht] at hP1
  obtain ⟨g1, g2⟩ := cg_join hP hD isC isR isO hC hR hn hdis hnO (hO u) hk hF hP1 hD1
  exact kk u H1 locs1 hw (va_K.moved hvm.symm hK1) g1 g2 hS1
end CI
theorem lg_cmp_self (x : Int64) : lg_cmp x x = 0 := by unfold lg_cmp; rw [if_neg (by simp), if_pos rfl]
