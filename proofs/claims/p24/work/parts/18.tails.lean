/-! worlds with a tail of cells whose number isn't written out -/
theorem idx_at {α : Type} {ws w : List α} {is : List Nat} (hs : is.map (fun i => ws[i]?) = w.map some) (k : Nat) (q : α) (hq : w[k]? = some q) : ∃ i, is[k]? = some i ∧ ws[i]? = some q := by
  have h1 : (is.map (fun i => ws[i]?))[k]? = some (some q) := by rw [hs, List.getElem?_map, hq]; rfl
  rw [List.getElem?_map] at h1
  cases hi : is[k]? with
  | none => rw [hi] at h1; cases h1
  | some i => rw [hi] at h1; exact ⟨i, rfl, Option.some.inj h1⟩
theorem ap_l {α : Type} {a b : List α} {k : Nat} {q : α} (hk : a[k]? = some q) : (a ++ b)[k]? = some q := by
  rw [List.getElem?_append_left (List.getElem?_eq_some_iff.mp hk).1]; exact hk
theorem ap_r {α : Type} {a b : List α} {k : Nat} {q : α} (hk : b[k]? = some q) : (a ++ b)[a.length + k]? = some q := by
  rw [List.getElem?_append_right (Nat.le_add_right _ _), Nat.add_sub_cancel_left]; exact hk
theorem tP_l {D : va_G} {cl : List vw_C} {a b : va_W} {H : Heap} (h : va_P D cl (a ++ b) H) : va_P D cl a H := fun k q hk => h k q (ap_l hk)
theorem tP_r {D : va_G} {cl : List vw_C} {a b : va_W} {H : Heap} (h : va_P D cl (a ++ b) H) : va_P D cl b H := fun k q hk => h (a.length + k) q (ap_r hk)
theorem tD_l {A : Nat → Prop} {a b : va_W} (h : va_D A (a ++ b)) : va_D A a := ⟨fun i j x y hi hj e => h.1 i j x y (ap_l hi) (ap_l hj) e, fun k q hk => h.2 k q (ap_l hk)⟩
theorem tD_r {A : Nat → Prop} {a b : va_W} (h : va_D A (a ++ b)) : va_D A b := ⟨fun i j x y hi hj e => by have := h.1 (a.length + i) (a.length + j) x y (ap_r hi) (ap_r hj) e; omega, fun k q hk => h.2 (a.length + k) q (ap_r hk)⟩
theorem tD_x {A : Nat → Prop} {a b : va_W} (h : va_D A (a ++ b)) (i j : Nat) (p q : Nat × va_E) (hp : a[i]? = some p) (hq : b[j]? = some q) : p.1 ≠ q.1 := fun e => by
  have h1 := h.1 i (a.length + j) p q (ap_l hp) (ap_r hq) e
  have h2 := (List.getElem?_eq_some_iff.mp hp).1
  omega
theorem idx_P {D : va_G} {cl : List vw_C} {ws wo : va_W} {H : Heap} (h : va_P D cl ws H) {isO : List Nat} (hO : isO.map (fun i => ws[i]?) = wo.map some) : va_P D cl wo H := fun k q hk => by
  obtain ⟨i, -, h2⟩ := idx_at hO k q hk
  exact h i q h2
section TL
variable {A : Nat → Prop} {dC : Nat → ClassId} {dI : Nat → Nat → Nat} {ws wc wr w1 wo pool pool1 : va_W} {H H1 : Heap}
theorem cg_tail (hP : va_P (dC, dI) vwCl (ws ++ pool) H) (hD : va_D A (ws ++ pool)) (isC isR isO : List Nat) (hC : isC.map (fun i => ws[i]?) = wc.map some) (hR : isR.map (fun i => ws[i]?) = wr.map some) (hn : va_nd isR = true) (hdis : ∀ i ∈ isR, i ∉ isC) (hnO : va_nd isO = true) (hO : isO.map (fun i => (wr ++ w1)[i]?) = wo.map some)
    (hk : ∀ q : Nat, q < H.size → ¬ va_A wc H.size q → H1[q]? = H[q]?) (hF : ∀ q, va_A wc H.size q → A q) (hP1 : va_P (dC, dI) vwCl w1 H1) (hD1 : va_D (va_A wc H.size) w1) : va_P (dC, dI) vwCl (wo ++ pool) H1 ∧ va_D A (wo ++ pool) := by
  obtain ⟨g1, g2⟩ := cg_join (tP_l hP) (tD_l hD) isC isR isO hC hR hn hdis hnO hO hk hF hP1 hD1
  have hpool : ∀ (k : Nat) (q : Nat × va_E), pool[k]? = some q → q.1 < H.size ∧ ¬ va_A wc H.size q.1 := by
    intro k q hq
    have hl := (tP_r hP k q hq).lt
    refine ⟨hl, fun h => ?_⟩
    rcases h with ⟨k2, e, h⟩ | h
    · obtain ⟨i, h3, h4⟩ := idx_at hC k2 _ h
      exact tD_x hD i k (q.1, e) q h4 hq rfl
    · exact Nat.lt_irrefl _ (Nat.lt_of_lt_of_le hl h)
  refine ⟨g1.app (fun k q hq => (tP_r hP k q hq).kept (hk q.1 (hpool k q hq).1 (hpool k q hq).2)), g2.app (tD_r hD) (fun i j p q hp hq e => ?_)⟩
  obtain ⟨z, h3, h4⟩ := idx_at hO i p hp
  rcases Nat.lt_or_ge z wr.length with hz | hz
  · rw [List.getElem?_append_left hz] at h4
    obtain ⟨u, h5, h6⟩ := idx_at hR z p h4
    exact tD_x hD u j p q h6 hq e
  · rw [List.getElem?_append_right hz] at h4
    exact (hpool j q hq).2 (by rw [← e]; exact hD1.2 _ p h4)
theorem cg_tailC (hP : va_P (dC, dI) vwCl (ws ++ pool) H) (hD : va_D A (ws ++ pool)) (isC isR isO : List Nat) (hC : isC.map (fun i => ws[i]?) = wc.map some) (hR : isR.map (fun i => ws[i]?) = wr.map some) (hn : va_nd isR = true) (hdis : ∀ i ∈ isR, i ∉ isC) (hnO : va_nd isO = true) (hO : isO.map (fun i => (wr ++ w1)[i]?) = wo.map some)
    (hk : ∀ q : Nat, q < H.size → ¬ va_A (wc ++ pool) H.size q → H1[q]? = H[q]?) (hF : ∀ q, va_A (wc ++ pool) H.size q → A q) (hP1 : va_P (dC, dI) vwCl (w1 ++ pool1) H1) (hD1 : va_D (va_A (wc ++ pool) H.size) (w1 ++ pool1)) : va_P (dC, dI) vwCl (wo ++ pool1) H1 ∧ va_D A (wo ++ pool1) := by
  have apart : ∀ (k : Nat) (q : Nat × va_E), wr[k]? = some q → q.1 < H.size ∧ ¬ va_A (wc ++ pool) H.size q.1 := by
    intro k q hq
    obtain ⟨i, h1, h2⟩ := idx_at hR k q hq
    have hl := (tP_l hP i q h2).lt
    refine ⟨hl, fun h => ?_⟩
    rcases h with ⟨k2, e, h⟩ | h
    · rcases Nat.lt_or_ge k2 wc.length with hz | hz
      · rw [List.getElem?_append_left hz] at h
        obtain ⟨j, h3, h4⟩ := idx_at hC k2 (q.1, e) h
        have hij := (tD_l hD).1 i j q (q.1, e) h2 h4 rfl
        subst hij
        exact hdis i (List.mem_of_getElem? h1) (List.mem_of_getElem? h3)
      · rw [List.getElem?_append_right hz] at h
        exact tD_x hD i _ q (q.1, e) h2 h rfl
    · exact Nat.lt_irrefl _ (Nat.lt_of_lt_of_le hl h)
  have hPr : va_P (dC, dI) vwCl wr H1 := fun k q hq => by
    obtain ⟨i, h1, h2⟩ := idx_at hR k q hq
    exact (tP_l hP i q h2).kept (hk q.1 (apart k q hq).1 (apart k q hq).2)
  have hDr1 : va_D A (wr ++ w1) := va_D.app ((tD_l hD).sub isR hn hR) ((tD_l hD1).weaken (fun k q _ h => hF q.1 h)) (fun i j x y hx hy hxy => (apart i x hx).2 (by rw [hxy]; exact (tD_l hD1).2 j y hy))
  refine ⟨(idx_P (hPr.app (tP_l hP1)) hO).app (tP_r hP1), (hDr1.sub isO hnO hO).app ((tD_r hD1).weaken (fun k q _ h => hF q.1 h)) (fun i j p q hp hq e => ?_)⟩
  obtain ⟨z, h3, h4⟩ := idx_at hO i p hp
  rcases Nat.lt_or_ge z wr.length with hz | hz
  · rw [List.getElem?_append_left hz] at h4
    exact (apart z p h4).2 (by rw [e]; exact (tD_r hD1).2 j q hq)
  · rw [List.getElem?_append_right hz] at h4
    exact tD_x hD1 _ j p q h4 hq e
theorem free_tail {H0 : Heap} {locs : List Loc} (hD : va_D A (ws ++ pool)) (hS : va_S A H0 H locs) (hA : ∀ q, H0.size ≤ q → A q) (isC : List Nat) (hC : isC.map (fun i => ws[i]?) = wc.map some) : ∀ q, va_A (wc ++ pool) H.size q → A q := by
  intro q h
  rcases h with ⟨k, e, h⟩ | h
  · rcases Nat.lt_or_ge k wc.length with hz | hz
    · rw [List.getElem?_append_left hz] at h
      obtain ⟨j, h3, h4⟩ := idx_at hC k (q, e) h
      exact (tD_l hD).2 j (q, e) h4
    · rw [List.getElem?_append_right hz] at h
      exact (tD_r hD).2 _ (q, e) h
  · exact hA q (Nat.le_trans hS.1 h)
end TL
section CT
variable {p : Program} {l : Launch} {e : Env} {R : Room} {s : State} {m : MethodId} {args : Array Value} {below : List Frame} {meth : Method} {c : Code} {H : Heap} {locs : List Loc} {cells slots : Nat} {Q : State → Prop}
variable {pc : Nat} {ls : Array Slot} {rest st0 : List Value} {a : Array Value} {A : Nat → Prop} {mc ms : Nat} {dC : Nat → ClassId} {dI : Nat → Nat → Nat} {ws wc wr w1 wo pool : va_W}
theorem lvn_v {x y : Value} (h : y = x) (k : W p l e R s m args below meth c H locs cells slots Q (F0 m pc ls (y :: rest))) : W p l e R s m args below meth c H locs cells slots Q (F0 m pc ls (x :: rest)) := by subst h; exact k
theorem cgT_i {rv : Int32} (hP : va_P (dC, dI) vwCl (ws ++ pool) H) (hD : va_D A (ws ++ pool)) (hS : va_S A s.heap H locs) (hA : ∀ q, s.heap.size ≤ q → A q) (hr : va_Run p l e R s m args below meth c H locs cells slots mc ms (F0 m pc ls st0) rest (va_Qi (fun r (_ : Unit) => r = rv) (fun _ t => cB dC dI (va_A wc H.size) w1 t) (va_A wc H.size) a) (va_A wc H.size))
    (isC isR isO : List Nat) (hC : isC.map (fun i => ws[i]?) = wc.map some) (hR : isR.map (fun i => ws[i]?) = wr.map some) (hn : va_nd isR = true) (hdis : ∀ i ∈ isR, i ∉ isC) (hnO : va_nd isO = true) (hO : isO.map (fun i => (wr ++ w1)[i]?) = wo.map some)
    (kk : ∀ (H1 : Heap) (locs1 : List Loc), va_P (dC, dI) vwCl (wo ++ pool) H1 → va_D A (wo ++ pool) → va_S A s.heap H1 locs1 → W p l e R s m args below meth c H1 locs1 (cells + mc) (slots + ms) Q (F0 m (pc + 3) ls (.int rv :: rest))) : W p l e R s m args below meth c H locs cells slots Q (F0 m pc ls st0) := by
  have hF := va_free (wc := wc) (tD_l hD) hS hA isC hC
  refine va_calli hr hS (fun q _ h => hF q h) hF (fun r u t H1 locs1 ht hvm hw hB hz hk hS1 => ?_)
  obtain ⟨hP1, hD1⟩ := hB
  rw [ht] at hP1
  obtain ⟨g1, g2⟩ := cg_tail hP hD isC isR isO hC hR hn hdis hnO hO hk hF hP1 hD1
  have hw : r = rv := hw
  subst hw
  exact kk H1 locs1 g1 g2 hS1
theorem cgT_v (hP : va_P (dC, dI) vwCl (ws ++ pool) H) (hD : va_D A (ws ++ pool)) (hS : va_S A s.heap H locs) (hA : ∀ q, s.heap.size ≤ q → A q) (hr : va_Run p l e R s m args below meth c H locs cells slots mc ms (F0 m pc ls st0) rest (va_Qv (fun (_ : Unit) => True) (fun _ t => cB dC dI (va_A wc H.size) w1 t) (va_A wc H.size) a) (va_A wc H.size))
    (isC isR isO : List Nat) (hC : isC.map (fun i => ws[i]?) = wc.map some) (hR : isR.map (fun i => ws[i]?) = wr.map some) (hn : va_nd isR = true) (hdis : ∀ i ∈ isR, i ∉ isC) (hnO : va_nd isO = true) (hO : isO.map (fun i => (wr ++ w1)[i]?) = wo.map some)
    (kk : ∀ (H1 : Heap) (locs1 : List Loc), va_P (dC, dI) vwCl (wo ++ pool) H1 → va_D A (wo ++ pool) → va_S A s.heap H1 locs1 → W p l e R s m args below meth c H1 locs1 (cells + mc) (slots + ms) Q (F0 m (pc + 3) ls rest)) : W p l e R s m args below meth c H locs cells slots Q (F0 m pc ls st0) := by
  have hF := va_free (wc := wc) (tD_l hD) hS hA isC hC
  refine va_callv hr hS (fun q _ h => hF q h) hF (fun u t H1 locs1 ht hvm hw hB hz hk hS1 => ?_)
  obtain ⟨hP1, hD1⟩ := hB
  rw [ht] at hP1
  obtain ⟨g1, g2⟩ := cg_tail hP hD isC isR isO hC hR hn hdis hnO hO hk hF hP1 hD1
  exact kk H1 locs1 g1 g2 hS1
theorem cgT_r {rv : Nat} (hP : va_P (dC, dI) vwCl (ws ++ pool) H) (hD : va_D A (ws ++ pool)) (hS : va_S A s.heap H locs) (hA : ∀ q, s.heap.size ≤ q → A q) (hr : va_Run p l e R s m args below meth c H locs cells slots mc ms (F0 m pc ls st0) rest (va_Qr (fun (_ : Unit) => True) (fun _ ra t => ra = rv ∧ cB dC dI (va_A wc H.size) w1 t) (va_A wc H.size) a) (va_A wc H.size))
    (isC isR isO : List Nat) (hC : isC.map (fun i => ws[i]?) = wc.map some) (hR : isR.map (fun i => ws[i]?) = wr.map some) (hn : va_nd isR = true) (hdis : ∀ i ∈ isR, i ∉ isC) (hnO : va_nd isO = true) (hO : isO.map (fun i => (wr ++ w1)[i]?) = wo.map some)
    (kk : ∀ (H1 : Heap) (locs1 : List Loc), va_P (dC, dI) vwCl (wo ++ pool) H1 → va_D A (wo ++ pool) → va_S A s.heap H1 locs1 → W p l e R s m args below meth c H1 locs1 (cells + mc) (slots + ms) Q (F0 m (pc + 3) ls (.ref rv :: rest))) : W p l e R s m args below meth c H locs cells slots Q (F0 m pc ls st0) := by
  have hF := va_free (wc := wc) (tD_l hD) hS hA isC hC
  refine va_callr hr hS (fun q _ h => hF q h) hF (fun u ra t H1 locs1 ht hvm hw hB hz hk hS1 => ?_)
  obtain ⟨hra, hP1, hD1⟩ := hB
  rw [ht] at hP1
  obtain ⟨g1, g2⟩ := cg_tail hP hD isC isR isO hC hR hn hdis hnO hO hk hF hP1 hD1
  subst hra
  exact kk H1 locs1 g1 g2 hS1
/-- a callee that takes the tail too; what comes back depends on addresses that nobody knows -/
theorem cgC_i {S : Type} {rv : Int32} {w1 wo pool1 : S → va_W} (hP : va_P (dC, dI) vwCl (ws ++ pool) H) (hD : va_D A (ws ++ pool)) (hS : va_S A s.heap H locs) (hA : ∀ q, s.heap.size ≤ q → A q) (hr : va_Run p l e R s m args below meth c H locs cells slots mc ms (F0 m pc ls st0) rest (va_Qi (fun r (_ : S) => r = rv) (fun u t => cB dC dI (va_A (wc ++ pool) H.size) (w1 u ++ pool1 u) t) (va_A (wc ++ pool) H.size) a) (va_A (wc ++ pool) H.size))
    (isC isR isO : List Nat) (hC : isC.map (fun i => ws[i]?) = wc.map some) (hR : isR.map (fun i => ws[i]?) = wr.map some) (hn : va_nd isR = true) (hdis : ∀ i ∈ isR, i ∉ isC) (hnO : va_nd isO = true) (hO : ∀ u, isO.map (fun i => (wr ++ w1 u)[i]?) = (wo u).map some)
    (kk : ∀ (u : S) (H1 : Heap) (locs1 : List Loc), va_P (dC, dI) vwCl (wo u ++ pool1 u) H1 → va_D A (wo u ++ pool1 u) → va_S A s.heap H1 locs1 → W p l e R s m args below meth c H1 locs1 (cells + mc) (slots + ms) Q (F0 m (pc + 3) ls (.int rv :: rest))) : W p l e R s m args below meth c H locs cells slots Q (F0 m pc ls st0) := by
  have hF := free_tail (wc := wc) hD hS hA isC hC
  refine va_calli hr hS (fun q _ h => hF q h) hF (fun r u t H1 locs1 ht hvm hw hB hz hk hS1 => ?_)
  obtain ⟨hP1, hD1⟩ := hB
  rw [ht] at hP1
  obtain ⟨g1, g2⟩ := cg_tailC hP hD isC isR isO hC hR hn hdis hnO (hO u) hk hF hP1 hD1
  have hw : r = rv := hw
  subst hw
  exact kk u H1 locs1 g1 g2 hS1
theorem cgC_v {S : Type} {w1 wo pool1 : S → va_W} (hP : va_P (dC, dI) vwCl (ws ++ pool) H) (hD : va_D A (ws ++ pool)) (hS : va_S A s.heap H locs) (hA : ∀ q, s.heap.size ≤ q → A q) (hr : va_Run p l e R s m args below meth c H locs cells slots mc ms (F0 m pc ls st0) rest (va_Qv (fun (_ : S) => True) (fun u t => cB dC dI (va_A (wc ++ pool) H.size) (w1 u ++ pool1 u) t) (va_A (wc ++ pool) H.size) a) (va_A (wc ++ pool) H.size))
    (isC isR isO : List Nat) (hC : isC.map (fun i => ws[i]?) = wc.map some) (hR : isR.map (fun i => ws[i]?) = wr.map some) (hn : va_nd isR = true) (hdis : ∀ i ∈ isR, i ∉ isC) (hnO : va_nd isO = true) (hO : ∀ u, isO.map (fun i => (wr ++ w1 u)[i]?) = (wo u).map some)
    (kk : ∀ (u : S) (H1 : Heap) (locs1 : List Loc), va_P (dC, dI) vwCl (wo u ++ pool1 u) H1 → va_D A (wo u ++ pool1 u) → va_S A s.heap H1 locs1 → W p l e R s m args below meth c H1 locs1 (cells + mc) (slots + ms) Q (F0 m (pc + 3) ls rest)) : W p l e R s m args below meth c H locs cells slots Q (F0 m pc ls st0) := by
  have hF := free_tail (wc := wc) hD hS hA isC hC
  refine va_callv hr hS (fun q _ h => hF q h) hF (fun u t H1 locs1 ht hvm hw hB hz hk hS1 => ?_)
  obtain ⟨hP1, hD1⟩ := hB
  rw [ht] at hP1
  obtain ⟨g1, g2⟩ := cg_tailC hP hD isC isR isO hC hR hn hdis hnO (hO u) hk hF hP1 hD1
  exact kk u H1 locs1 g1 g2 hS1
/-- a callee whose world comes back at addresses that nobody knows (constructors) -/
theorem cgN_v {S : Type} {pst : S → Prop} {w1 wo : S → va_W} (hP : va_P (dC, dI) vwCl ws H) (hD : va_D A ws) (hS : va_S A s.heap H locs) (hA : ∀ q, s.heap.size ≤ q → A q) (hr : va_Run p l e R s m args below meth c H locs cells slots mc ms (F0 m pc ls st0) rest (va_Qv (fun (u : S) => pst u) (fun u t => cB dC dI (va_A wc H.size) (w1 u) t) (va_A wc H.size) a) (va_A wc H.size))
    (isC isR isO : List Nat) (hC : isC.map (fun i => ws[i]?) = wc.map some) (hR : isR.map (fun i => ws[i]?) = wr.map some) (hn : va_nd isR = true) (hdis : ∀ i ∈ isR, i ∉ isC) (hnO : va_nd isO = true) (hO : ∀ u, isO.map (fun i => (wr ++ w1 u)[i]?) = (wo u).map some)
    (kk : ∀ (u : S) (H1 : Heap) (locs1 : List Loc), pst u → va_P (dC, dI) vwCl (wo u) H1 → va_D A (wo u) → va_S A s.heap H1 locs1 → W p l e R s m args below meth c H1 locs1 (cells + mc) (slots + ms) Q (F0 m (pc + 3) ls rest)) : W p l e R s m args below meth c H locs cells slots Q (F0 m pc ls st0) := by
  have hF := va_free (wc := wc) hD hS hA isC hC
  refine va_callv hr hS (fun q _ h => hF q h) hF (fun u t H1 locs1 ht hvm hw hB hz hk hS1 => ?_)
  obtain ⟨hP1, hD1⟩ := hB
  rw [ht] at hP1
  obtain ⟨g1, g2⟩ := cg_join hP hD isC isR isO hC hR hn hdis hnO (hO u) hk hF hP1 hD1
  exact kk u H1 locs1 hw g1 g2 hS1
end CT
/-! the history: up to four states, in the order of the row past -/
abbrev kL (cI : ClassId) (a : Nat → Nat) (v : BX0) : va_W := [k0_0 a v, k0_1 cI a v, k0_2 cI a v, k0_3 cI a v, k0_4 cI a v]
def kPool (cI : ClassId) : Nat → (Nat → Nat → Nat) → (Nat → BX0) → va_W
  | 0, _, _ => []
  | n + 1, ad, pv => kPool cI n ad pv ++ kL cI (ad n) (pv n)
def pastF (n : Nat) (ad : Nat → Nat → Nat) : Nat → Option Nat := fun i => if i < n then some (ad i 0) else none
abbrev kPast (cL : ClassId) (a : Nat → Nat) (f : Nat → Option Nat) : Nat × va_E := (a 1, .inl (cL, 4, .inr (.inr (.inr (.inr f)))))
def updP (pv : Nat → BX0) (i : Nat) (y : BX0) : Nat → BX0 := fun j => if j = i then y else pv j
def adU (ad : Nat → Nat → Nat) (i : Nat) (a : Nat → Nat) : Nat → Nat → Nat := fun j => if j = i then a else ad j
def rotP (pv : Nat → BX0) : Nat → BX0 := fun j => if j = 3 then pv 0 else pv (j + 1)
def rotA (ad : Nat → Nat → Nat) : Nat → Nat → Nat := fun j => if j = 3 then ad 0 else ad (j + 1)
theorem pastF_push (n : Nat) (ad : Nat → Nat → Nat) (a : Nat → Nat) : va_up (pastF n ad) n (some (a 0)) = pastF (n + 1) (adU ad n a) := by
  funext j
  unfold va_up pastF adU
  by_cases h : j = n
  · subst h; simp
  · by_cases h2 : j < n
    · have h3 : j < n + 1 := by omega
      simp [h, h2, h3]
    · have h3 : ¬ j < n + 1 := by omega
      simp [h, h2, h3]
theorem pastF_rot (ad : Nat → Nat → Nat) : va_up (va_up (va_up (va_up (pastF 4 ad) 0 (some (ad 1 0))) 1 (some (ad 2 0))) 2 (some (ad 3 0))) 3 (some (ad 0 0)) = pastF 4 (rotA ad) := by
  funext j
  unfold va_up pastF rotA
  match j with
  | 0 => rfl
  | 1 => rfl
  | 2 => rfl
  | 3 => rfl
  | j + 4 =>
    have h : ¬ j + 4 < 4 := by omega
    simp [h]
def rs_at (vX : BX3) (n : Nat) (pv : Nat → BX0) (vA : BX0) (i : Nat) : Option (BX3 × Nat × (Nat → BX0)) :=
  if i < n then (fX0_copyFrom (pv i) vA).bind (fun y => some (s3_states vX (p3_states vX + 1), n, updP pv i y))
  else (if i = n then fX0_init.bind (fun y0 => (fX0_copyFrom y0 vA).bind (fun y => some (s3_states vX (p3_states vX + 1), n + 1, updP pv i y))) else none)
def fX3_recordState (vX : BX3) (n : Nat) (pv : Nat → BX0) (vA : BX0) : Option (BX3 × Nat × (Nat → BX0)) :=
  if p3_states vX = 4 then (if n = 4 then rs_at (s3_states vX 3) 4 (rotP pv) vA 3 else none)
  else (if p3_states vX = 3 then rs_at vX n pv vA 3 else (if p3_states vX = 2 then rs_at vX n pv vA 2 else (if p3_states vX = 1 then rs_at vX n pv vA 1 else (if p3_states vX = 0 then rs_at vX n pv vA 0 else none))))
abbrev cPc3 (dC : Nat → ClassId) (dI : Nat → Nat → Nat) (cI cJ cL : ClassId) (av : List Value) (ws : va_W) (sz : Nat) : Array Value → State → Prop := va_Pc av (fun U => U.heap.size = sz ∧ va_P (dC, dI) vwCl ws U.heap ∧ va_K (dC, dI) vwCl [(cI, .int), (cJ, .long), (cL, .object RX0)] U ∧ va_D (fun _ => True) ws ∧ NX (va_A ws sz) U)
theorem cFB3 {dC : Nat → ClassId} {dI : Nat → Nat → Nat} {cI cJ cL : ClassId} {av : List Value} {ws : va_W} {sz : Nat} : FrameBlind (cPc3 dC dI cI cJ cL av ws sz) := fun a U g mk q => by
  obtain ⟨q0, q1, qP, qK, qD, qN, qX⟩ := q
  exact ⟨q0, q1, qP, va_K.moved (u := U) (U := U.calling g mk a) (Vm.Alike.refl U.vm) qK, qD, NW.same (u := U) rfl qN, SX.same (u := U) rfl qX⟩
theorem cPre3 {s : State} {H : Heap} {A : Nat → Prop} {locs : List Loc} {dC : Nat → ClassId} {dI : Nat → Nat → Nat} {cI cJ cL : ClassId} {av : List Value} {ws : va_W} (hK : va_K (dC, dI) vwCl [(cI, .int), (cJ, .long), (cL, .object RX0)] s) (hN : NX A s) (hS : va_S A s.heap H locs) (hF : ∀ q, va_A ws H.size q → A q) (hP : va_P (dC, dI) vwCl ws H) (hD : va_D A ws) : ∀ U : State, U.heap = H → s.WarmedH U.vm → cPc3 dC dI cI cJ cL av ws H.size av.toArray U :=
  fun U hU hW => ⟨rfl, by rw [hU], by rw [hU]; exact hP, va_K.moved hW.alike hK, hD.weaken (fun _ _ _ _ => trivial), hN.1.warm hW, by rw [hU]; exact hN.2.warm hW hS.2.1 hF⟩
