
/-! texts: the literals of formAfter by their places 0 to 5 -/
def SXe (adK adV : Nat → Nat) (A : Nat → Prop) (U : State) (H : Heap) : Prop := vk_S 6 lenT bytT adK adV A U H ∧ (vk_R RX2 61 "0;" (adK 0) U ∧ vk_R RX2 63 ";" (adK 1) U ∧ vk_R RX2 65 "0,0,0;" (adK 2) U ∧ vk_R RX2 67 "0,-;" (adK 3) U ∧ vk_R RX2 69 "0,0;" (adK 4) U ∧ vk_R RX2 71 "" (adK 5) U) ∧ va_Z "java/lang/String" "COMPACT_STRINGS" "Z" (.int 1) A U H ∧ va_Zq "jdk/internal/util/Preconditions" "SIOOBE_FORMATTER" "Ljava/util/function/BiFunction;" A U H
theorem SXe.same {k v : Nat → Nat} {A : Nat → Prop} {u U : State} {H : Heap} (hvm : U.vm = u.vm) (h : SXe k v A u H) : SXe k v A U H := by
  obtain ⟨h1, ⟨r0, r1, r2, r3, r4, r5⟩, h3, h4⟩ := h
  have ha : u.vm.Alike U.vm := by rw [hvm]; exact Vm.Alike.refl _
  exact ⟨vk_S.moved ha h1, ⟨r0.same hvm, r1.same hvm, r2.same hvm, r3.same hvm, r4.same hvm, r5.same hvm⟩, va_Z.moved ha h3, va_Zq.moved ha h4⟩
theorem SXe.warm {k v : Nat → Nat} {A B : Nat → Prop} {s U : State} {H H1 : Heap} (hW : s.WarmedH U.vm) (hq : ∀ a : Nat, a < H.size → ¬ A a → H1[a]? = H[a]?) (hF : ∀ q, B q → A q) (h : SXe k v A s H) : SXe k v B U H1 := by
  obtain ⟨h1, ⟨r0, r1, r2, r3, r4, r5⟩, h3, h4⟩ := h
  have ha := hW.alike
  exact ⟨((vk_S.moved ha h1).kept hq).narrow hF, ⟨r0.warm hW, r1.warm hW, r2.warm hW, r3.warm hW, r4.warm hW, r5.warm hW⟩, ((va_Z.moved ha h3).kept hq).narrow hF, ((va_Zq.moved ha h4).kept hq).narrow hF⟩
abbrev cPcS (adK adV : Nat → Nat) (av : List Value) (sz : Nat) : Array Value → State → Prop := va_Pc av (fun U => U.heap.size = sz ∧ SXe adK adV (va_A [] sz) U U.heap)
theorem cFBS {adK adV : Nat → Nat} {av : List Value} {sz : Nat} : FrameBlind (cPcS adK adV av sz) := fun a U g mk q => by
  obtain ⟨q0, q1, qX⟩ := q
  exact ⟨q0, q1, SXe.same (u := U) rfl qX⟩
theorem cPreS {s : State} {H : Heap} {A : Nat → Prop} {locs : List Loc} {adK adV : Nat → Nat} {av : List Value} (hE : SXe adK adV A s s.heap) (hS : va_S A s.heap H locs) (hF : ∀ q, va_A [] H.size q → A q) : ∀ U : State, U.heap = H → s.WarmedH U.vm → cPcS adK adV av H.size av.toArray U :=
  fun U hU hW => ⟨rfl, by rw [hU], by rw [hU]; exact hE.warm hW hS.2.1 hF⟩
theorem tP0 {D : va_G} {cl : List vw_C} {H : Heap} : va_P D cl [] H := fun k q h => by simp at h
theorem tD0 {A : Nat → Prop} : va_D A [] := ⟨fun i j p q h => by simp at h, fun k q h => by simp at h⟩
def isE (i : Nat) : Int32 := if nI (lenT.getD i 0) = 0 then 1 else 0
def scC (i : Nat) (k : Int32) : Int32 := ((((bytT.getD i []).getD k.toNatClampNeg 0) &&& 255).toUInt32 % 65536).toInt32
def fA (x : Int32) : Nat := if x = 102 then 3 else (if x = 107 then 2 else (if x = 108 then 4 else (if x = 112 then 1 else (if x = 114 then 4 else (if x = 119 then 0 else (if x = 120 then 0 else 5))))))
theorem fA_lt (x : Int32) : fA x < 6 := by unfold fA; (repeat' split) <;> decide
theorem len_sh : ∀ i, i < 6 → nI (lenT.getD i 0) >>> ((0 : Int32) &&& 31) = nI (lenT.getD i 0) := by decide +kernel
set_option maxHeartbeats 8000000 in
set_option maxRecDepth 100000 in
theorem mJ0_isEmpty_aae02 (l : Launch) (dC : Nat → ClassId) (dI : Nat → Nat → Nat) (adK adV : Nat → Nat) (sz : Nat) (i : Nat) (hi : i < 6) : Met l yJ0_isEmpty_aae02 wsJ0_isEmpty_aae02 ({ frames := 0, cells := 0, slots := 0, locals := 0 }) (cPcS adK adV [.ref (adK i)] sz) (va_Qi (fun r (_ : Unit) => r = isE i) (fun _ t => cB dC dI (va_A [] sz) [] t) (va_A [] sz)) 0 0 (va_A [] sz) := by
  refine va_MetF (cc := cJ0_isEmpty_aae02) (maxL := 1) (ret := (some .boolean)) (by decide +kernel) rfl ?_
  intro p e s m args below meth c s₁ B hml hv
  obtain ⟨rfl, hsz, hE⟩ := hv
  have hx := B.exec
  have hb := B.bytes
  have hr := B.returns
  have hts := atoms_spec (ws := wsJ0_isEmpty_aae02) B.pre
  have hown : s.vm.findClass RJ0 = some m.cls := findClass_of_methodNamed B.named
  have hlocks := B.notSynchronized
  subst hsz
  generalize hAe : va_A [] s.heap.size = A at hE ⊢
  have hA : ∀ q : Nat, s.heap.size ≤ q → A q := fun q h => by rw [← hAe]; exact Or.inr h
  have hl := lv_entry ([.ref (adK i)]) (n := 1) (Nat.le_of_ble_eq_true rfl)
  rw [lg_entry_eq]
  generalize (lg_sl ([.ref (adK i)]) ++ List.replicate (1 - (lg_sl ([.ref (adK i)])).length) Slot.unset).toArray = ls at hl ⊢
  have hl : lv_has ls 1 [(0, .ref (adK i))] := hl
  have hV := hts (.fieldLink RJ0 9 "java/lang/String" "value" "[B") (by decide +kernel)
  refine nameH (fun H locs hHe hLe => ?_)
  have hS : va_S A s.heap H locs := by rw [hHe, hLe]; exact va_S.rf
  refine lv_aload_n hx hb dJ0_isEmpty_aae02_0 rfl (lv_at hl 0 rfl) ?_
  refine vk_getf hx hb (hE.1.1 i hi).2.2.1 hS hown hV (fun _ h9 => h9) dJ0_isEmpty_aae02_1 ?_
  refine va_tlen (ty := .byte) (v := nI (lenT.getD i 0)) hx hb (hE.1.1 i hi).2.2.2 hS rfl dJ0_isEmpty_aae02_4 ?_
  refine lv_if_ne (tgt := 12) hx hb dJ0_isEmpty_aae02_5 (by decide) (fun c1 => ?_) (fun c1 => ?_)
  · refine lv_iconst (v := 0) hx hb dJ0_isEmpty_aae02_12 (by decide) ?_
    exact W.zret (v := 0) hx hb hr rfl (fun t ht hW => ⟨⟨0, (), rfl, (by unfold isE; rw [if_neg c1]), tP0, tD0⟩, hS.F ht⟩) hS.2.2 dJ0_isEmpty_aae02_13
  · refine lv_iconst (v := 1) hx hb dJ0_isEmpty_aae02_8 (by decide) ?_
    refine lv_goto (tgt := 13) hx hb dJ0_isEmpty_aae02_9 (by decide) ?_
    exact W.zret (v := 1) hx hb hr rfl (fun t ht hW => ⟨⟨1, (), rfl, (by unfold isE; rw [if_pos c1]), tP0, tD0⟩, hS.F ht⟩) hS.2.2 dJ0_isEmpty_aae02_13
set_option maxHeartbeats 8000000 in
set_option maxRecDepth 100000 in
theorem mJ0_coder_7d493 (l : Launch) (dC : Nat → ClassId) (dI : Nat → Nat → Nat) (adK adV : Nat → Nat) (sz : Nat) (i : Nat) (hi : i < 6) : Met l yJ0_coder_7d493 wsJ0_coder_7d493 ({ frames := 0, cells := 0, slots := 0, locals := 0 }) (cPcS adK adV [.ref (adK i)] sz) (va_Qi (fun r (_ : Unit) => r = 0) (fun _ t => cB dC dI (va_A [] sz) [] t) (va_A [] sz)) 0 0 (va_A [] sz) := by
  refine va_MetF (cc := cJ0_coder_7d493) (maxL := 1) (ret := (some .byte)) (by decide +kernel) rfl ?_
  intro p e s m args below meth c s₁ B hml hv
  obtain ⟨rfl, hsz, hE⟩ := hv
  have hx := B.exec
  have hb := B.bytes
  have hr := B.returns
  have hts := atoms_spec (ws := wsJ0_coder_7d493) B.pre
  have hown : s.vm.findClass RJ0 = some m.cls := findClass_of_methodNamed B.named
  have hlocks := B.notSynchronized
  subst hsz
  generalize hAe : va_A [] s.heap.size = A at hE ⊢
  have hA : ∀ q : Nat, s.heap.size ≤ q → A q := fun q h => by rw [← hAe]; exact Or.inr h
  have hl := lv_entry ([.ref (adK i)]) (n := 1) (Nat.le_of_ble_eq_true rfl)
  rw [lg_entry_eq]
  generalize (lg_sl ([.ref (adK i)]) ++ List.replicate (1 - (lg_sl ([.ref (adK i)])).length) Slot.unset).toArray = ls at hl ⊢
  have hl : lv_has ls 1 [(0, .ref (adK i))] := hl
  have hV := hts (.fieldLink RJ0 15 "java/lang/String" "coder" "B") (by decide +kernel)
  have hCS := hts (.fieldLink RJ0 38 "java/lang/String" "COMPACT_STRINGS" "Z") (by decide +kernel)
  refine nameH (fun H locs hHe hLe => ?_)
  have hS : va_S A s.heap H locs := by rw [hHe, hLe]; exact va_S.rf
  refine va_gets hx hb hE.2.2.1 hS hown hCS (fun _ h9 => h9) dJ0_coder_7d493_0 ?_
  refine lv_if_eq (tgt := 13) hx hb dJ0_coder_7d493_3 (by decide) (fun c1 => absurd c1 (by decide)) (fun c1 => ?_)
  refine lv_aload_n hx hb dJ0_coder_7d493_6 rfl (lv_at hl 0 rfl) ?_
  refine vk_getf hx hb (hE.1.1 i hi).2.1 hS hown hV (fun _ h9 => h9) dJ0_coder_7d493_7 ?_
  refine lv_goto (tgt := 14) hx hb dJ0_coder_7d493_10 (by decide) ?_
  exact W.zret (v := 0) hx hb hr rfl (fun t ht hW => ⟨⟨0, (), rfl, rfl, tP0, tD0⟩, hS.F ht⟩) hS.2.2 dJ0_coder_7d493_14
set_option maxHeartbeats 8000000 in
set_option maxRecDepth 100000 in
theorem mJ0_length_8abf5 (l : Launch) (dC : Nat → ClassId) (dI : Nat → Nat → Nat) (adK adV : Nat → Nat) (sz : Nat) (i : Nat) (hi : i < 6) : Met l yJ0_length_8abf5 wsJ0_length_8abf5 ({ frames := 1, cells := 0, slots := 0, locals := 20 }) (cPcS adK adV [.ref (adK i)] sz) (va_Qi (fun r (_ : Unit) => r = nI (lenT.getD i 0)) (fun _ t => cB dC dI (va_A [] sz) [] t) (va_A [] sz)) 0 0 (va_A [] sz) := by
  refine va_MetF (cc := cJ0_length_8abf5) (maxL := 1) (ret := (some .int)) (by decide +kernel) rfl ?_
  intro p e s m args below meth c s₁ B hml hv
  obtain ⟨rfl, hsz, hE⟩ := hv
  have hx := B.exec
  have hb := B.bytes
  have hr := B.returns
  have hts := atoms_spec (ws := wsJ0_length_8abf5) B.pre
  have hown : s.vm.findClass RJ0 = some m.cls := findClass_of_methodNamed B.named
  have hlocks := B.notSynchronized
  subst hsz
  generalize hAe : va_A [] s.heap.size = A at hE ⊢
  have hA : ∀ q : Nat, s.heap.size ≤ q → A q := fun q h => by rw [← hAe]; exact Or.inr h
  have hl := lv_entry ([.ref (adK i)]) (n := 1) (Nat.le_of_ble_eq_true rfl)
  rw [lg_entry_eq]
  generalize (lg_sl ([.ref (adK i)]) ++ List.replicate (1 - (lg_sl ([.ref (adK i)])).length) Slot.unset).toArray = ls at hl ⊢
  have hl : lv_has ls 1 [(0, .ref (adK i))] := hl
  have hV := hts (.fieldLink RJ0 9 "java/lang/String" "value" "[B") (by decide +kernel)
  refine nameH (fun H locs hHe hLe => ?_)
  have hS : va_S A s.heap H locs := by rw [hHe, hLe]; exact va_S.rf
  refine lv_aload_n hx hb dJ0_length_8abf5_0 rfl (lv_at hl 0 rfl) ?_
  refine vk_getf hx hb (hE.1.1 i hi).2.2.1 hS hown hV (fun _ h9 => h9) dJ0_length_8abf5_1 ?_
  refine va_tlen (ty := .byte) (v := nI (lenT.getD i 0)) hx hb (hE.1.1 i hi).2.2.2 hS rfl dJ0_length_8abf5_4 ?_
  refine lv_aload_n hx hb dJ0_length_8abf5_5 rfl (lv_at hl 0 rfl) ?_
  refine cg_i (ws := []) (wc := []) (wr := []) (w1 := []) (wo := []) tP0 tD0 hS hA (va_runV (As := []) (rest := [.int (nI (lenT.getD i 0))]) ⟨hx, hb, hml, hown, hts⟩ (mJ0_coder_7d493 l dC dI adK adV H.size i hi) (cwV 0 hts gJ0_length_8abf5_J0_coder_7d493 rfl rfl rfl (by decide +kernel) ⟨Nat.le_of_ble_eq_true rfl, Nat.le_of_ble_eq_true rfl⟩) ⟨cFBS, vk_recv hE.1 hi hS, cPreS hE hS (va_free (wc := []) (tD0 (A := A)) hS hA [] rfl)⟩ rfl rfl hl.1 rfl (lv_room (Nat.le_of_ble_eq_true rfl)) dJ0_length_8abf5_6 ⟨Nat.le_of_ble_eq_true rfl, Nat.le_of_ble_eq_true rfl⟩) [] [] [] rfl rfl rfl (by decide +kernel) rfl rfl (fun H locs _ _ hS => ?_)
  refine lv_ishr hx hb dJ0_length_8abf5_9 ?_
  rw [len_sh i hi]
  exact W.iret (v := nI (lenT.getD i 0)) hx hb hr (fun t ht hW => ⟨⟨nI (lenT.getD i 0), (), rfl, rfl, tP0, tD0⟩, hS.F ht⟩) hS.2.2 dJ0_length_8abf5_10
set_option maxHeartbeats 8000000 in
set_option maxRecDepth 100000 in
theorem mJ0_isLatin1_aae02 (l : Launch) (dC : Nat → ClassId) (dI : Nat → Nat → Nat) (adK adV : Nat → Nat) (sz : Nat) (i : Nat) (hi : i < 6) : Met l yJ0_isLatin1_aae02 wsJ0_isLatin1_aae02 ({ frames := 0, cells := 0, slots := 0, locals := 0 }) (cPcS adK adV [.ref (adK i)] sz) (va_Qi (fun r (_ : Unit) => r = 1) (fun _ t => cB dC dI (va_A [] sz) [] t) (va_A [] sz)) 0 0 (va_A [] sz) := by
  refine va_MetF (cc := cJ0_isLatin1_aae02) (maxL := 1) (ret := (some .boolean)) (by decide +kernel) rfl ?_
  intro p e s m args below meth c s₁ B hml hv
  obtain ⟨rfl, hsz, hE⟩ := hv
  have hx := B.exec
  have hb := B.bytes
  have hr := B.returns
  have hts := atoms_spec (ws := wsJ0_isLatin1_aae02) B.pre
  have hown : s.vm.findClass RJ0 = some m.cls := findClass_of_methodNamed B.named
  have hlocks := B.notSynchronized
  subst hsz
  generalize hAe : va_A [] s.heap.size = A at hE ⊢
  have hA : ∀ q : Nat, s.heap.size ≤ q → A q := fun q h => by rw [← hAe]; exact Or.inr h
  have hl := lv_entry ([.ref (adK i)]) (n := 1) (Nat.le_of_ble_eq_true rfl)
  rw [lg_entry_eq]
  generalize (lg_sl ([.ref (adK i)]) ++ List.replicate (1 - (lg_sl ([.ref (adK i)])).length) Slot.unset).toArray = ls at hl ⊢
  have hl : lv_has ls 1 [(0, .ref (adK i))] := hl
  have hV := hts (.fieldLink RJ0 15 "java/lang/String" "coder" "B") (by decide +kernel)
  have hCS := hts (.fieldLink RJ0 38 "java/lang/String" "COMPACT_STRINGS" "Z") (by decide +kernel)
  refine nameH (fun H locs hHe hLe => ?_)
  have hS : va_S A s.heap H locs := by rw [hHe, hLe]; exact va_S.rf
  refine va_gets hx hb hE.2.2.1 hS hown hCS (fun _ h9 => h9) dJ0_isLatin1_aae02_0 ?_
  refine lv_if_eq (tgt := 17) hx hb dJ0_isLatin1_aae02_3 (by decide) (fun c1 => absurd c1 (by decide)) (fun c1 => ?_)
  refine lv_aload_n hx hb dJ0_isLatin1_aae02_6 rfl (lv_at hl 0 rfl) ?_
  refine vk_getf hx hb (hE.1.1 i hi).2.1 hS hown hV (fun _ h9 => h9) dJ0_isLatin1_aae02_7 ?_
  refine lv_if_ne (tgt := 17) hx hb dJ0_isLatin1_aae02_10 (by decide) (fun c1 => absurd rfl c1) (fun c1 => ?_)
  refine lv_iconst (v := 1) hx hb dJ0_isLatin1_aae02_13 (by decide) ?_
  refine lv_goto (tgt := 18) hx hb dJ0_isLatin1_aae02_14 (by decide) ?_
  exact W.zret (v := 1) hx hb hr rfl (fun t ht hW => ⟨⟨1, (), rfl, rfl, tP0, tD0⟩, hS.F ht⟩) hS.2.2 dJ0_isLatin1_aae02_18
set_option maxHeartbeats 8000000 in
set_option maxRecDepth 100000 in
theorem mJ3_checkIndex_8e157n (l : Launch) (dC : Nat → ClassId) (dI : Nat → Nat → Nat) (adK adV : Nat → Nat) (sz : Nat) (k n : Int32) (h0 : ¬ k < 0) (h1 : k < n) : Met l yJ3_checkIndex_8e157 wsJ3_checkIndex_8e157 ({ frames := 0, cells := 0, slots := 0, locals := 0 }) (cPcS adK adV [.int k, .int n, .null] sz) (va_Qi (fun r (_ : Unit) => r = k) (fun _ t => cB dC dI (va_A [] sz) [] t) (va_A [] sz)) 0 0 (va_A [] sz) := by
  refine va_MetF (cc := cJ3_checkIndex_8e157) (maxL := 3) (ret := (some .int)) (by decide +kernel) rfl ?_
  intro p e s m args below meth c s₁ B hml hv
  obtain ⟨rfl, hsz, hE⟩ := hv
  have hx := B.exec
  have hb := B.bytes
  have hr := B.returns
  have hts := atoms_spec (ws := wsJ3_checkIndex_8e157) B.pre
  have hown : s.vm.findClass RJ3 = some m.cls := findClass_of_methodNamed B.named
  have hlocks := B.notSynchronized
  subst hsz
  generalize hAe : va_A [] s.heap.size = A at hE ⊢
  have hA : ∀ q : Nat, s.heap.size ≤ q → A q := fun q h => by rw [← hAe]; exact Or.inr h
  have hl := lv_entry ([.int k, .int n, .null]) (n := 3) (Nat.le_of_ble_eq_true rfl)
  rw [lg_entry_eq]
  generalize (lg_sl ([.int k, .int n, .null]) ++ List.replicate (3 - (lg_sl ([.int k, .int n, .null])).length) Slot.unset).toArray = ls at hl ⊢
  have hl : lv_has ls 3 [(0, .int k), (1, .int n), (2, .null)] := hl
  refine nameH (fun H locs hHe hLe => ?_)
  have hS : va_S A s.heap H locs := by rw [hHe, hLe]; exact va_S.rf
  refine lv_iload_n hx hb dJ3_checkIndex_8e157_0 rfl (lv_at hl 0 rfl) ?_
  refine lv_if_lt (tgt := 9) hx hb dJ3_checkIndex_8e157_1 (by decide) (fun c1 => absurd c1 h0) (fun c1 => ?_)
  refine lv_iload_n hx hb dJ3_checkIndex_8e157_4 rfl (lv_at hl 0 rfl) ?_
  refine lv_iload_n hx hb dJ3_checkIndex_8e157_5 rfl (lv_at hl 1 rfl) ?_
  refine lv_icmp_lt (tgt := 16) hx hb dJ3_checkIndex_8e157_6 (by decide) (fun c1 => ?_) (fun c1 => absurd h1 c1)
  refine lv_iload_n hx hb dJ3_checkIndex_8e157_16 rfl (lv_at hl 0 rfl) ?_
  exact W.iret (v := k) hx hb hr (fun t ht hW => ⟨⟨k, (), rfl, rfl, tP0, tD0⟩, hS.F ht⟩) hS.2.2 dJ3_checkIndex_8e157_17
set_option maxHeartbeats 8000000 in
set_option maxRecDepth 100000 in
theorem mJ3_checkIndex_8e157r (l : Launch) (dC : Nat → ClassId) (dI : Nat → Nat → Nat) (adK adV : Nat → Nat) (sz : Nat) (k n : Int32) (tt : Nat) (h0 : ¬ k < 0) (h1 : k < n) : Met l yJ3_checkIndex_8e157 wsJ3_checkIndex_8e157 ({ frames := 0, cells := 0, slots := 0, locals := 0 }) (cPcS adK adV [.int k, .int n, .ref tt] sz) (va_Qi (fun r (_ : Unit) => r = k) (fun _ t => cB dC dI (va_A [] sz) [] t) (va_A [] sz)) 0 0 (va_A [] sz) := by
  refine va_MetF (cc := cJ3_checkIndex_8e157) (maxL := 3) (ret := (some .int)) (by decide +kernel) rfl ?_
  intro p e s m args below meth c s₁ B hml hv
  obtain ⟨rfl, hsz, hE⟩ := hv
  have hx := B.exec
  have hb := B.bytes
  have hr := B.returns
  have hts := atoms_spec (ws := wsJ3_checkIndex_8e157) B.pre
  have hown : s.vm.findClass RJ3 = some m.cls := findClass_of_methodNamed B.named
  have hlocks := B.notSynchronized
  subst hsz
  generalize hAe : va_A [] s.heap.size = A at hE ⊢
  have hA : ∀ q : Nat, s.heap.size ≤ q → A q := fun q h => by rw [← hAe]; exact Or.inr h
  have hl := lv_entry ([.int k, .int n, .ref tt]) (n := 3) (Nat.le_of_ble_eq_true rfl)
  rw [lg_entry_eq]
  generalize (lg_sl ([.int k, .int n, .ref tt]) ++ List.replicate (3 - (lg_sl ([.int k, .int n, .ref tt])).length) Slot.unset).toArray = ls at hl ⊢
  have hl : lv_has ls 3 [(0, .int k), (1, .int n), (2, .ref tt)] := hl
  refine nameH (fun H locs hHe hLe => ?_)
  have hS : va_S A s.heap H locs := by rw [hHe, hLe]; exact va_S.rf
  refine lv_iload_n hx hb dJ3_checkIndex_8e157_0 rfl (lv_at hl 0 rfl) ?_
  refine lv_if_lt (tgt := 9) hx hb dJ3_checkIndex_8e157_1 (by decide) (fun c1 => absurd c1 h0) (fun c1 => ?_)
  refine lv_iload_n hx hb dJ3_checkIndex_8e157_4 rfl (lv_at hl 0 rfl) ?_
  refine lv_iload_n hx hb dJ3_checkIndex_8e157_5 rfl (lv_at hl 1 rfl) ?_
  refine lv_icmp_lt (tgt := 16) hx hb dJ3_checkIndex_8e157_6 (by decide) (fun c1 => ?_) (fun c1 => absurd h1 c1)
  refine lv_iload_n hx hb dJ3_checkIndex_8e157_16 rfl (lv_at hl 0 rfl) ?_
  exact W.iret (v := k) hx hb hr (fun t ht hW => ⟨⟨k, (), rfl, rfl, tP0, tD0⟩, hS.F ht⟩) hS.2.2 dJ3_checkIndex_8e157_17
set_option maxHeartbeats 8000000 in
set_option maxRecDepth 100000 in
theorem mJ0_checkIndex_df160 (l : Launch) (dC : Nat → ClassId) (dI : Nat → Nat → Nat) (adK adV : Nat → Nat) (sz : Nat) (k n : Int32) (h0 : ¬ k < 0) (h1 : k < n) : Met l yJ0_checkIndex_df160 wsJ0_checkIndex_df160 ({ frames := 1, cells := 0, slots := 0, locals := 22 }) (cPcS adK adV [.int k, .int n] sz) (va_Qv (fun (_ : Unit) => True) (fun _ t => cB dC dI (va_A [] sz) [] t) (va_A [] sz)) 0 0 (va_A [] sz) := by
  refine va_MetF (cc := cJ0_checkIndex_df160) (maxL := 2) (ret := none) (by decide +kernel) rfl ?_
  intro p e s m args below meth c s₁ B hml hv
  obtain ⟨rfl, hsz, hE⟩ := hv
  have hx := B.exec
  have hb := B.bytes
  have hr := B.returns
  have hts := atoms_spec (ws := wsJ0_checkIndex_df160) B.pre
  have hown : s.vm.findClass RJ0 = some m.cls := findClass_of_methodNamed B.named
  have hlocks := B.notSynchronized
  subst hsz
  generalize hAe : va_A [] s.heap.size = A at hE ⊢
  have hA : ∀ q : Nat, s.heap.size ≤ q → A q := fun q h => by rw [← hAe]; exact Or.inr h
  have hl := lv_entry ([.int k, .int n]) (n := 2) (Nat.le_of_ble_eq_true rfl)
  rw [lg_entry_eq]
  generalize (lg_sl ([.int k, .int n]) ++ List.replicate (2 - (lg_sl ([.int k, .int n])).length) Slot.unset).toArray = ls at hl ⊢
  have hl : lv_has ls 2 [(0, .int k), (1, .int n)] := hl
  have hF := hts (.fieldLink RJ0 1053 "jdk/internal/util/Preconditions" "SIOOBE_FORMATTER" "Ljava/util/function/BiFunction;") (by decide +kernel)
  refine nameH (fun H locs hHe hLe => ?_)
  have hS : va_S A s.heap H locs := by rw [hHe, hLe]; exact va_S.rf
  refine lv_iload_n hx hb dJ0_checkIndex_df160_0 rfl (lv_at hl 0 rfl) ?_
  refine lv_iload_n hx hb dJ0_checkIndex_df160_1 rfl (lv_at hl 1 rfl) ?_
  rcases hE.2.2.2 with hZ | ⟨tt, hZ⟩
  · refine va_gets hx hb hZ hS hown hF (fun _ h9 => h9) dJ0_checkIndex_df160_2 ?_
    refine cg_i (ws := []) (wc := []) (wr := []) (w1 := []) (wo := []) tP0 tD0 hS hA (va_runS (As := [.int k, .int n, .null]) (rest := []) ⟨hx, hb, hml, hown, hts⟩ (mJ3_checkIndex_8e157n l dC dI adK adV H.size k n h0 h1) (va_cwS 3 hts gJ0_checkIndex_df160_J3_checkIndex_8e157 rfl rfl rfl (by decide +kernel) ⟨Nat.le_of_ble_eq_true rfl, Nat.le_of_ble_eq_true rfl⟩) ⟨cFBS, cPreS hE hS (va_free (wc := []) (tD0 (A := A)) hS hA [] rfl)⟩ rfl rfl hl.1 rfl (lv_room (Nat.le_of_ble_eq_true rfl)) dJ0_checkIndex_df160_5 ⟨Nat.le_of_ble_eq_true rfl, Nat.le_of_ble_eq_true rfl⟩) [] [] [] rfl rfl rfl (by decide +kernel) rfl rfl (fun H locs _ _ hS => ?_)
    refine lv_pop hx hb dJ0_checkIndex_df160_8 rfl ?_
    exact W.vret hx hb hr (fun t ht hW => ⟨⟨(), rfl, trivial, tP0, tD0⟩, hS.F ht⟩) hS.2.2 dJ0_checkIndex_df160_9
  · refine va_gets hx hb hZ hS hown hF (fun _ h9 => h9) dJ0_checkIndex_df160_2 ?_
    refine cg_i (ws := []) (wc := []) (wr := []) (w1 := []) (wo := []) tP0 tD0 hS hA (va_runS (As := [.int k, .int n, .ref tt]) (rest := []) ⟨hx, hb, hml, hown, hts⟩ (mJ3_checkIndex_8e157r l dC dI adK adV H.size k n tt h0 h1) (va_cwS 3 hts gJ0_checkIndex_df160_J3_checkIndex_8e157 rfl rfl rfl (by decide +kernel) ⟨Nat.le_of_ble_eq_true rfl, Nat.le_of_ble_eq_true rfl⟩) ⟨cFBS, cPreS hE hS (va_free (wc := []) (tD0 (A := A)) hS hA [] rfl)⟩ rfl rfl hl.1 rfl (lv_room (Nat.le_of_ble_eq_true rfl)) dJ0_checkIndex_df160_5 ⟨Nat.le_of_ble_eq_true rfl, Nat.le_of_ble_eq_true rfl⟩) [] [] [] rfl rfl rfl (by decide +kernel) rfl rfl (fun H locs _ _ hS => ?_)
    refine lv_pop hx hb dJ0_checkIndex_df160_8 rfl ?_
    exact W.vret hx hb hr (fun t ht hW => ⟨⟨(), rfl, trivial, tP0, tD0⟩, hS.F ht⟩) hS.2.2 dJ0_checkIndex_df160_9
set_option maxHeartbeats 8000000 in
set_option maxRecDepth 100000 in
theorem mJ1_charAt_3b067 (l : Launch) (dC : Nat → ClassId) (dI : Nat → Nat → Nat) (adK adV : Nat → Nat) (sz : Nat) (i : Nat) (hi : i < 6) (k : Int32) (hk : vp_in k (lenT.getD i 0)) (h0 : ¬ k < 0) (h1 : k < nI (lenT.getD i 0)) : Met l yJ1_charAt_3b067 wsJ1_charAt_3b067 ({ frames := 2, cells := 0, slots := 0, locals := 43 }) (cPcS adK adV [.ref (adV i), .int k] sz) (va_Qi (fun r (_ : Unit) => r = scC i k) (fun _ t => cB dC dI (va_A [] sz) [] t) (va_A [] sz)) 0 0 (va_A [] sz) := by
  refine va_MetF (cc := cJ1_charAt_3b067) (maxL := 2) (ret := (some .char)) (by decide +kernel) rfl ?_
  intro p e s m args below meth c s₁ B hml hv
  obtain ⟨rfl, hsz, hE⟩ := hv
  have hx := B.exec
  have hb := B.bytes
  have hr := B.returns
  have hts := atoms_spec (ws := wsJ1_charAt_3b067) B.pre
  have hown : s.vm.findClass RJ1 = some m.cls := findClass_of_methodNamed B.named
  have hlocks := B.notSynchronized
  subst hsz
  generalize hAe : va_A [] s.heap.size = A at hE ⊢
  have hA : ∀ q : Nat, s.heap.size ≤ q → A q := fun q h => by rw [← hAe]; exact Or.inr h
  have hl := lv_entry ([.ref (adV i), .int k]) (n := 2) (Nat.le_of_ble_eq_true rfl)
  rw [lg_entry_eq]
  generalize (lg_sl ([.ref (adV i), .int k]) ++ List.replicate (2 - (lg_sl ([.ref (adV i), .int k])).length) Slot.unset).toArray = ls at hl ⊢
  have hl : lv_has ls 2 [(0, .ref (adV i)), (1, .int k)] := hl
  refine nameH (fun H locs hHe hLe => ?_)
  have hS : va_S A s.heap H locs := by rw [hHe, hLe]; exact va_S.rf
  refine lv_iload_n hx hb dJ1_charAt_3b067_0 rfl (lv_at hl 1 rfl) ?_
  refine lv_aload_n hx hb dJ1_charAt_3b067_1 rfl (lv_at hl 0 rfl) ?_
  refine va_tlen (ty := .byte) (v := nI (lenT.getD i 0)) hx hb (hE.1.1 i hi).2.2.2 hS rfl dJ1_charAt_3b067_2 ?_
  refine cg_v (ws := []) (wc := []) (wr := []) (w1 := []) (wo := []) tP0 tD0 hS hA (va_runS (As := [.int k, .int (nI (lenT.getD i 0))]) (rest := []) ⟨hx, hb, hml, hown, hts⟩ (mJ0_checkIndex_df160 l dC dI adK adV H.size k (nI (lenT.getD i 0)) h0 h1) (va_cwS 2 hts gJ1_charAt_3b067_J0_checkIndex_df160 rfl rfl rfl (by decide +kernel) ⟨Nat.le_of_ble_eq_true rfl, Nat.le_of_ble_eq_true rfl⟩) ⟨cFBS, cPreS hE hS (va_free (wc := []) (tD0 (A := A)) hS hA [] rfl)⟩ rfl rfl hl.1 rfl (lv_room (Nat.le_of_ble_eq_true rfl)) dJ1_charAt_3b067_3 ⟨Nat.le_of_ble_eq_true rfl, Nat.le_of_ble_eq_true rfl⟩) [] [] [] rfl rfl rfl (by decide +kernel) rfl rfl (fun H locs _ _ hS => ?_)
  refine lv_aload_n hx hb dJ1_charAt_3b067_6 rfl (lv_at hl 0 rfl) ?_
  refine lv_iload_n hx hb dJ1_charAt_3b067_7 rfl (lv_at hl 1 rfl) ?_
  refine va_tb (v := .int ((bytT.getD i []).getD k.toNatClampNeg 0)) hx hb (hE.1.1 i hi).2.2.2 hS hk rfl dJ1_charAt_3b067_8 ?_
  refine lv_sipush (v := 255) hx hb dJ1_charAt_3b067_9 (by decide) ?_
  refine lv_iand hx hb dJ1_charAt_3b067_12 ?_
  refine lv_i2c (v := scC i k) hx hb dJ1_charAt_3b067_13 rfl ?_
  exact W.zret (v := scC i k) hx hb hr (pk_nc _) (fun t ht hW => ⟨⟨scC i k, (), rfl, rfl, tP0, tD0⟩, hS.F ht⟩) hS.2.2 dJ1_charAt_3b067_14
set_option maxHeartbeats 8000000 in
set_option maxRecDepth 100000 in
theorem mJ0_charAt_5068e (l : Launch) (dC : Nat → ClassId) (dI : Nat → Nat → Nat) (adK adV : Nat → Nat) (sz : Nat) (i : Nat) (hi : i < 6) (k : Int32) (hk : vp_in k (lenT.getD i 0)) (h0 : ¬ k < 0) (h1 : k < nI (lenT.getD i 0)) : Met l yJ0_charAt_5068e wsJ0_charAt_5068e ({ frames := 3, cells := 0, slots := 0, locals := 64 }) (cPcS adK adV [.ref (adK i), .int k] sz) (va_Qi (fun r (_ : Unit) => r = scC i k) (fun _ t => cB dC dI (va_A [] sz) [] t) (va_A [] sz)) 0 0 (va_A [] sz) := by
  refine va_MetF (cc := cJ0_charAt_5068e) (maxL := 2) (ret := (some .char)) (by decide +kernel) rfl ?_
  intro p e s m args below meth c s₁ B hml hv
  obtain ⟨rfl, hsz, hE⟩ := hv
  have hx := B.exec
  have hb := B.bytes
  have hr := B.returns
  have hts := atoms_spec (ws := wsJ0_charAt_5068e) B.pre
  have hown : s.vm.findClass RJ0 = some m.cls := findClass_of_methodNamed B.named
  have hlocks := B.notSynchronized
  subst hsz
  generalize hAe : va_A [] s.heap.size = A at hE ⊢
  have hA : ∀ q : Nat, s.heap.size ≤ q → A q := fun q h => by rw [← hAe]; exact Or.inr h
  have hl := lv_entry ([.ref (adK i), .int k]) (n := 2) (Nat.le_of_ble_eq_true rfl)
  rw [lg_entry_eq]
  generalize (lg_sl ([.ref (adK i), .int k]) ++ List.replicate (2 - (lg_sl ([.ref (adK i), .int k])).length) Slot.unset).toArray = ls at hl ⊢
  have hl : lv_has ls 2 [(0, .ref (adK i)), (1, .int k)] := hl
  have hV := hts (.fieldLink RJ0 9 "java/lang/String" "value" "[B") (by decide +kernel)
  refine nameH (fun H locs hHe hLe => ?_)
  have hS : va_S A s.heap H locs := by rw [hHe, hLe]; exact va_S.rf
  refine lv_aload_n hx hb dJ0_charAt_5068e_0 rfl (lv_at hl 0 rfl) ?_
  refine cg_i (ws := []) (wc := []) (wr := []) (w1 := []) (wo := []) tP0 tD0 hS hA (va_runV (As := []) (rest := []) ⟨hx, hb, hml, hown, hts⟩ (mJ0_isLatin1_aae02 l dC dI adK adV H.size i hi) (cwV 0 hts gJ0_charAt_5068e_J0_isLatin1_aae02 rfl rfl rfl (by decide +kernel) ⟨Nat.le_of_ble_eq_true rfl, Nat.le_of_ble_eq_true rfl⟩) ⟨cFBS, vk_recv hE.1 hi hS, cPreS hE hS (va_free (wc := []) (tD0 (A := A)) hS hA [] rfl)⟩ rfl rfl hl.1 rfl (lv_room (Nat.le_of_ble_eq_true rfl)) dJ0_charAt_5068e_1 ⟨Nat.le_of_ble_eq_true rfl, Nat.le_of_ble_eq_true rfl⟩) [] [] [] rfl rfl rfl (by decide +kernel) rfl rfl (fun H locs _ _ hS => ?_)
  refine lv_if_eq (tgt := 16) hx hb dJ0_charAt_5068e_4 (by decide) (fun c1 => absurd c1 (by decide)) (fun c1 => ?_)
  refine lv_aload_n hx hb dJ0_charAt_5068e_7 rfl (lv_at hl 0 rfl) ?_
  refine vk_getf hx hb (hE.1.1 i hi).2.2.1 hS hown hV (fun _ h9 => h9) dJ0_charAt_5068e_8 ?_
  refine lv_iload_n hx hb dJ0_charAt_5068e_11 rfl (lv_at hl 1 rfl) ?_
  refine cg_i (ws := []) (wc := []) (wr := []) (w1 := []) (wo := []) tP0 tD0 hS hA (va_runS (As := [.ref (adV i), .int k]) (rest := []) ⟨hx, hb, hml, hown, hts⟩ (mJ1_charAt_3b067 l dC dI adK adV H.size i hi k hk h0 h1) (va_cwS 2 hts gJ0_charAt_5068e_J1_charAt_3b067 rfl rfl rfl (by decide +kernel) ⟨Nat.le_of_ble_eq_true rfl, Nat.le_of_ble_eq_true rfl⟩) ⟨cFBS, cPreS hE hS (va_free (wc := []) (tD0 (A := A)) hS hA [] rfl)⟩ rfl rfl hl.1 rfl (lv_room (Nat.le_of_ble_eq_true rfl)) dJ0_charAt_5068e_12 ⟨Nat.le_of_ble_eq_true rfl, Nat.le_of_ble_eq_true rfl⟩) [] [] [] rfl rfl rfl (by decide +kernel) rfl rfl (fun H locs _ _ hS => ?_)
  exact W.zret (v := scC i k) hx hb hr (pk_nc _) (fun t ht hW => ⟨⟨scC i k, (), rfl, rfl, tP0, tD0⟩, hS.F ht⟩) hS.2.2 dJ0_charAt_5068e_15
set_option maxHeartbeats 8000000 in
set_option maxRecDepth 100000 in
theorem mX2_formAfter (l : Launch) (dC : Nat → ClassId) (dI : Nat → Nat → Nat) (adK adV : Nat → Nat) (sz : Nat) (x : Int32) : Met l yX2_formAfter wsX2_formAfter ({ frames := 0, cells := 0, slots := 0, locals := 0 }) (cPcS adK adV [.int x] sz) (va_Qr (fun (_ : Unit) => True) (fun _ ra t => ra = adK (fA x) ∧ cB dC dI (va_A [] sz) [] t) (va_A [] sz)) 0 0 (va_A [] sz) := by
  refine Met.ofW (cc := cX2_formAfter) (maxL := 1) (ret := (some (.object "java/lang/String"))) (by decide) rfl ?_
  intro p e s m args below meth c s₁ B hml hv
  obtain ⟨rfl, hsz, hE⟩ := hv
  have hx := B.exec
  have hb := B.bytes
  have hr := B.returns
  have hts := atoms_spec (ws := wsX2_formAfter) B.pre
  have hown : s.vm.findClass RX2 = some m.cls := findClass_of_methodNamed B.named
  have hlocks := B.notSynchronized
  subst hsz
  generalize hAe : va_A [] s.heap.size = A at hE ⊢
  have hA : ∀ q : Nat, s.heap.size ≤ q → A q := fun q h => by rw [← hAe]; exact Or.inr h
  have hl := lv_entry ([.int x]) (n := 1) (Nat.le_of_ble_eq_true rfl)
  rw [lg_entry_eq]
  generalize (lg_sl ([.int x]) ++ List.replicate (1 - (lg_sl ([.int x])).length) Slot.unset).toArray = ls at hl ⊢
  have hl : lv_has ls 1 [(0, .int x)] := hl
  obtain ⟨r0, r1, r2, r3, r4, r5⟩ := hE.2.1
  refine nameH (fun H locs hHe hLe => ?_)
  have hS : va_S A s.heap H locs := by rw [hHe, hLe]; exact va_S.rf
  refine lv_iload_n hx hb dX2_formAfter_0 rfl (lv_at hl 0 rfl) ?_
  by_cases c0 : x = 102
  · subst c0
    refine lv_tableIn (tgt := 101) hx hb dX2_formAfter_1 (by decide) (by decide) rfl (by decide) ?_
    refine va_ldcS hx hb hown r3 dX2_formAfter_101 ?_
    exact W.aret (v := .ref (adK 3)) hx hb hr (Or.inl ⟨_, rfl⟩) (Or.inr ⟨_, rfl⟩) (fun t ht hW => ⟨⟨(), adK 3, rfl, trivial, (congrArg adK (by decide +kernel)), tP0, tD0⟩, hS.F ht⟩) hS.2.2 dX2_formAfter_103
  by_cases c1 : x = 103
  · subst c1
    refine lv_tableIn (tgt := 107) hx hb dX2_formAfter_1 (by decide) (by decide) rfl (by decide) ?_
    refine va_ldcS hx hb hown r5 dX2_formAfter_107 ?_
    exact W.aret (v := .ref (adK 5)) hx hb hr (Or.inl ⟨_, rfl⟩) (Or.inr ⟨_, rfl⟩) (fun t ht hW => ⟨⟨(), adK 5, rfl, trivial, (congrArg adK (by decide +kernel)), tP0, tD0⟩, hS.F ht⟩) hS.2.2 dX2_formAfter_109
  by_cases c2 : x = 104
  · subst c2
    refine lv_tableIn (tgt := 107) hx hb dX2_formAfter_1 (by decide) (by decide) rfl (by decide) ?_
    refine va_ldcS hx hb hown r5 dX2_formAfter_107 ?_
    exact W.aret (v := .ref (adK 5)) hx hb hr (Or.inl ⟨_, rfl⟩) (Or.inr ⟨_, rfl⟩) (fun t ht hW => ⟨⟨(), adK 5, rfl, trivial, (congrArg adK (by decide +kernel)), tP0, tD0⟩, hS.F ht⟩) hS.2.2 dX2_formAfter_109
  by_cases c3 : x = 105
  · subst c3
    refine lv_tableIn (tgt := 107) hx hb dX2_formAfter_1 (by decide) (by decide) rfl (by decide) ?_
    refine va_ldcS hx hb hown r5 dX2_formAfter_107 ?_
    exact W.aret (v := .ref (adK 5)) hx hb hr (Or.inl ⟨_, rfl⟩) (Or.inr ⟨_, rfl⟩) (fun t ht hW => ⟨⟨(), adK 5, rfl, trivial, (congrArg adK (by decide +kernel)), tP0, tD0⟩, hS.F ht⟩) hS.2.2 dX2_formAfter_109
  by_cases c4 : x = 106
  · subst c4
    refine lv_tableIn (tgt := 107) hx hb dX2_formAfter_1 (by decide) (by decide) rfl (by decide) ?_
    refine va_ldcS hx hb hown r5 dX2_formAfter_107 ?_
    exact W.aret (v := .ref (adK 5)) hx hb hr (Or.inl ⟨_, rfl⟩) (Or.inr ⟨_, rfl⟩) (fun t ht hW => ⟨⟨(), adK 5, rfl, trivial, (congrArg adK (by decide +kernel)), tP0, tD0⟩, hS.F ht⟩) hS.2.2 dX2_formAfter_109
  by_cases c5 : x = 107
  · subst c5
    refine lv_tableIn (tgt := 98) hx hb dX2_formAfter_1 (by decide) (by decide) rfl (by decide) ?_
    refine va_ldcS hx hb hown r2 dX2_formAfter_98 ?_
    exact W.aret (v := .ref (adK 2)) hx hb hr (Or.inl ⟨_, rfl⟩) (Or.inr ⟨_, rfl⟩) (fun t ht hW => ⟨⟨(), adK 2, rfl, trivial, (congrArg adK (by decide +kernel)), tP0, tD0⟩, hS.F ht⟩) hS.2.2 dX2_formAfter_100
  by_cases c6 : x = 108
  · subst c6
    refine lv_tableIn (tgt := 104) hx hb dX2_formAfter_1 (by decide) (by decide) rfl (by decide) ?_
    refine va_ldcS hx hb hown r4 dX2_formAfter_104 ?_
    exact W.aret (v := .ref (adK 4)) hx hb hr (Or.inl ⟨_, rfl⟩) (Or.inr ⟨_, rfl⟩) (fun t ht hW => ⟨⟨(), adK 4, rfl, trivial, (congrArg adK (by decide +kernel)), tP0, tD0⟩, hS.F ht⟩) hS.2.2 dX2_formAfter_106
  by_cases c7 : x = 109
  · subst c7
    refine lv_tableIn (tgt := 107) hx hb dX2_formAfter_1 (by decide) (by decide) rfl (by decide) ?_
    refine va_ldcS hx hb hown r5 dX2_formAfter_107 ?_
    exact W.aret (v := .ref (adK 5)) hx hb hr (Or.inl ⟨_, rfl⟩) (Or.inr ⟨_, rfl⟩) (fun t ht hW => ⟨⟨(), adK 5, rfl, trivial, (congrArg adK (by decide +kernel)), tP0, tD0⟩, hS.F ht⟩) hS.2.2 dX2_formAfter_109
  by_cases c8 : x = 110
  · subst c8
    refine lv_tableIn (tgt := 107) hx hb dX2_formAfter_1 (by decide) (by decide) rfl (by decide) ?_
    refine va_ldcS hx hb hown r5 dX2_formAfter_107 ?_
    exact W.aret (v := .ref (adK 5)) hx hb hr (Or.inl ⟨_, rfl⟩) (Or.inr ⟨_, rfl⟩) (fun t ht hW => ⟨⟨(), adK 5, rfl, trivial, (congrArg adK (by decide +kernel)), tP0, tD0⟩, hS.F ht⟩) hS.2.2 dX2_formAfter_109
  by_cases c9 : x = 111
  · subst c9
    refine lv_tableIn (tgt := 107) hx hb dX2_formAfter_1 (by decide) (by decide) rfl (by decide) ?_
    refine va_ldcS hx hb hown r5 dX2_formAfter_107 ?_
    exact W.aret (v := .ref (adK 5)) hx hb hr (Or.inl ⟨_, rfl⟩) (Or.inr ⟨_, rfl⟩) (fun t ht hW => ⟨⟨(), adK 5, rfl, trivial, (congrArg adK (by decide +kernel)), tP0, tD0⟩, hS.F ht⟩) hS.2.2 dX2_formAfter_109
  by_cases c10 : x = 112
  · subst c10
    refine lv_tableIn (tgt := 95) hx hb dX2_formAfter_1 (by decide) (by decide) rfl (by decide) ?_
    refine va_ldcS hx hb hown r1 dX2_formAfter_95 ?_
    exact W.aret (v := .ref (adK 1)) hx hb hr (Or.inl ⟨_, rfl⟩) (Or.inr ⟨_, rfl⟩) (fun t ht hW => ⟨⟨(), adK 1, rfl, trivial, (congrArg adK (by decide +kernel)), tP0, tD0⟩, hS.F ht⟩) hS.2.2 dX2_formAfter_97
  by_cases c11 : x = 113
  · subst c11
    refine lv_tableIn (tgt := 107) hx hb dX2_formAfter_1 (by decide) (by decide) rfl (by decide) ?_
    refine va_ldcS hx hb hown r5 dX2_formAfter_107 ?_
    exact W.aret (v := .ref (adK 5)) hx hb hr (Or.inl ⟨_, rfl⟩) (Or.inr ⟨_, rfl⟩) (fun t ht hW => ⟨⟨(), adK 5, rfl, trivial, (congrArg adK (by decide +kernel)), tP0, tD0⟩, hS.F ht⟩) hS.2.2 dX2_formAfter_109
  by_cases c12 : x = 114
  · subst c12
    refine lv_tableIn (tgt := 104) hx hb dX2_formAfter_1 (by decide) (by decide) rfl (by decide) ?_
    refine va_ldcS hx hb hown r4 dX2_formAfter_104 ?_
    exact W.aret (v := .ref (adK 4)) hx hb hr (Or.inl ⟨_, rfl⟩) (Or.inr ⟨_, rfl⟩) (fun t ht hW => ⟨⟨(), adK 4, rfl, trivial, (congrArg adK (by decide +kernel)), tP0, tD0⟩, hS.F ht⟩) hS.2.2 dX2_formAfter_106
  by_cases c13 : x = 115
  · subst c13
    refine lv_tableIn (tgt := 107) hx hb dX2_formAfter_1 (by decide) (by decide) rfl (by decide) ?_
    refine va_ldcS hx hb hown r5 dX2_formAfter_107 ?_
    exact W.aret (v := .ref (adK 5)) hx hb hr (Or.inl ⟨_, rfl⟩) (Or.inr ⟨_, rfl⟩) (fun t ht hW => ⟨⟨(), adK 5, rfl, trivial, (congrArg adK (by decide +kernel)), tP0, tD0⟩, hS.F ht⟩) hS.2.2 dX2_formAfter_109
  by_cases c14 : x = 116
  · subst c14
    refine lv_tableIn (tgt := 107) hx hb dX2_formAfter_1 (by decide) (by decide) rfl (by decide) ?_
    refine va_ldcS hx hb hown r5 dX2_formAfter_107 ?_
    exact W.aret (v := .ref (adK 5)) hx hb hr (Or.inl ⟨_, rfl⟩) (Or.inr ⟨_, rfl⟩) (fun t ht hW => ⟨⟨(), adK 5, rfl, trivial, (congrArg adK (by decide +kernel)), tP0, tD0⟩, hS.F ht⟩) hS.2.2 dX2_formAfter_109
  by_cases c15 : x = 117
  · subst c15
    refine lv_tableIn (tgt := 107) hx hb dX2_formAfter_1 (by decide) (by decide) rfl (by decide) ?_
    refine va_ldcS hx hb hown r5 dX2_formAfter_107 ?_
    exact W.aret (v := .ref (adK 5)) hx hb hr (Or.inl ⟨_, rfl⟩) (Or.inr ⟨_, rfl⟩) (fun t ht hW => ⟨⟨(), adK 5, rfl, trivial, (congrArg adK (by decide +kernel)), tP0, tD0⟩, hS.F ht⟩) hS.2.2 dX2_formAfter_109
  by_cases c16 : x = 118
  · subst c16
    refine lv_tableIn (tgt := 107) hx hb dX2_formAfter_1 (by decide) (by decide) rfl (by decide) ?_
    refine va_ldcS hx hb hown r5 dX2_formAfter_107 ?_
    exact W.aret (v := .ref (adK 5)) hx hb hr (Or.inl ⟨_, rfl⟩) (Or.inr ⟨_, rfl⟩) (fun t ht hW => ⟨⟨(), adK 5, rfl, trivial, (congrArg adK (by decide +kernel)), tP0, tD0⟩, hS.F ht⟩) hS.2.2 dX2_formAfter_109
  by_cases c17 : x = 119
  · subst c17
    refine lv_tableIn (tgt := 92) hx hb dX2_formAfter_1 (by decide) (by decide) rfl (by decide) ?_
    refine va_ldcS hx hb hown r0 dX2_formAfter_92 ?_
    exact W.aret (v := .ref (adK 0)) hx hb hr (Or.inl ⟨_, rfl⟩) (Or.inr ⟨_, rfl⟩) (fun t ht hW => ⟨⟨(), adK 0, rfl, trivial, (congrArg adK (by decide +kernel)), tP0, tD0⟩, hS.F ht⟩) hS.2.2 dX2_formAfter_94
  by_cases c18 : x = 120
  · subst c18
    refine lv_tableIn (tgt := 92) hx hb dX2_formAfter_1 (by decide) (by decide) rfl (by decide) ?_
    refine va_ldcS hx hb hown r0 dX2_formAfter_92 ?_
    exact W.aret (v := .ref (adK 0)) hx hb hr (Or.inl ⟨_, rfl⟩) (Or.inr ⟨_, rfl⟩) (fun t ht hW => ⟨⟨(), adK 0, rfl, trivial, (congrArg adK (by decide +kernel)), tP0, tD0⟩, hS.F ht⟩) hS.2.2 dX2_formAfter_94
  refine lv_tableOut (tgt := 107) hx hb dX2_formAfter_1 (by have t0 := toInt_ne (n := 102) rfl c0; have t1 := toInt_ne (n := 103) rfl c1; have t2 := toInt_ne (n := 104) rfl c2; have t3 := toInt_ne (n := 105) rfl c3; have t4 := toInt_ne (n := 106) rfl c4; have t5 := toInt_ne (n := 107) rfl c5; have t6 := toInt_ne (n := 108) rfl c6; have t7 := toInt_ne (n := 109) rfl c7; have t8 := toInt_ne (n := 110) rfl c8; have t9 := toInt_ne (n := 111) rfl c9; have t10 := toInt_ne (n := 112) rfl c10; have t11 := toInt_ne (n := 113) rfl c11; have t12 := toInt_ne (n := 114) rfl c12; have t13 := toInt_ne (n := 115) rfl c13; have t14 := toInt_ne (n := 116) rfl c14; have t15 := toInt_ne (n := 117) rfl c15; have t16 := toInt_ne (n := 118) rfl c16; have t17 := toInt_ne (n := 119) rfl c17; have t18 := toInt_ne (n := 120) rfl c18; omega) (by decide) ?_
  refine va_ldcS hx hb hown r5 dX2_formAfter_107 ?_
  exact W.aret (v := .ref (adK 5)) hx hb hr (Or.inl ⟨_, rfl⟩) (Or.inr ⟨_, rfl⟩) (fun t ht hW => ⟨⟨(), adK 5, rfl, trivial, (congrArg adK (by unfold fA; rw [if_neg c0, if_neg c5, if_neg c6, if_neg c10, if_neg c12, if_neg c17, if_neg c18])), tP0, tD0⟩, hS.F ht⟩) hS.2.2 dX2_formAfter_109
