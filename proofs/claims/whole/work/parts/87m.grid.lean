/-! int[n][m]: the machine's own multianewarray of two dimensions, one row of it after the other -/
theorem ao_mv {A A' : Array Value} {u U : State} (hvm : u.vm.Alike U.vm) (h : (Cond.arrayOver (.array .int)).before A u = true) : (Cond.arrayOver (.array .int)).before A' U = true := by
  have h1 : (Cond.arrayOver (.array .int)).before A (u.setVm U.vm) = true := (Cond.arrayOver_setVmC hvm (.array .int)).trans h
  exact h1
theorem ao_sp {A : Array Value} {s : State} (h : (Cond.arrayOver (.array .int)).before A s = true) : ∃ (m5 a5 : ClassId) (k5 : Class), s.vm.findClass (FieldType.array .int).toString = some m5 ∧ s.vm.classes[a5]? = some k5 ∧ k5.kind = .array m5 (.array .int) ∧ s.vm.findClass ("[" ++ (FieldType.array .int).toString) = some a5 := by
  unfold Cond.before Cond.holds at h
  simp only [Cond.value, beq_iff_eq, Option.bind_eq_some_iff, Option.map_eq_some_iff] at h
  obtain ⟨m5, h1, a5, h2, k5, h3, h4⟩ := h
  have h5 := (Array.findIdx?_eq_some_iff_getElem.mp h2).2.1
  rw [(Array.getElem?_eq_some_iff.mp h3).2] at h5
  cases hk : k5.kind with
  | array m6 t6 =>
    rw [hk] at h4 h5
    simp only [Bool.and_eq_true, decide_eq_true_eq, beq_iff_eq] at h4 h5
    exact ⟨m5, a5, k5, h1, h3, by rw [hk, h4.1, h5], h4.2⟩
  | _ =>
    rw [hk] at h4
    simp at h4
/-- one row more: made behind all others, and hung into place i of the cell at h -/
def mz_one (h : Nat) (ic : Cell) (i : Nat) (U : State) : State := (U.pushCell ic).setCell h (((U.heap[h]?).getD ic).setSlot i (.ref U.heap.size))
def mz_run (h : Nat) (ic : Cell) : List Nat → State → State
  | [], U => U
  | i :: r, U => mz_run h ic r (mz_one h ic i U)
def mz_f (h i : Nat) : Nat → Value := fun j => if j < i then .ref (h + 1 + j) else .null
theorem mz_f0 (h : Nat) : mz_f h 0 = fun _ => .null := funext fun j => if_neg (Nat.not_lt_zero j)
theorem mz_fs (h i : Nat) : updV (mz_f h i) i (.ref (h + 1 + i)) = mz_f h (i + 1) := by
  funext j
  unfold updV mz_f
  by_cases c1 : j = i
  · subst c1
    rw [if_pos rfl, if_pos (Nat.lt_succ_self _)]
  · rw [if_neg c1]
    by_cases c2 : j < i
    · rw [if_pos c2, if_pos (by omega)]
    · rw [if_neg c2, if_neg (by omega)]
/-- i rows of N stand -/
def mz_R (H : Heap) (cO cI : ClassId) (N M h i : Nat) (vm : Vm) (U : State) : Prop := U.heap.size = h + 1 + i ∧ U.heap[h]? = some (arrV cO N (mz_f h i)) ∧ (∀ j, j < i → U.heap[h + 1 + j]? = some (arrV cI M fun _ => .int 0)) ∧ (∀ q, q < h → U.heap[q]? = H[q]?) ∧ U.vm = vm
theorem mz_one_eq {H : Heap} {cO cI : ClassId} {N M h i : Nat} {vm : Vm} {U : State} (hR : mz_R H cO cI N M h i vm U) : mz_one h (arrV cI M fun _ => .int 0) i U = (U.pushCell (arrV cI M fun _ => .int 0)).setCell h (arrV cO N (mz_f h (i + 1))) := by
  unfold mz_one
  rw [hR.2.1, Option.getD_some, arrV_store, hR.1, mz_fs]
theorem mz_step {H : Heap} {cO cI : ClassId} {N M h i : Nat} {vm : Vm} {U : State} (hR : mz_R H cO cI N M h i vm U) : mz_R H cO cI N M h (i + 1) vm (mz_one h (arrV cI M fun _ => .int 0) i U) := by
  rw [mz_one_eq hR]
  obtain ⟨a1, a2, a3, a4, a5⟩ := hR
  have hold : ∀ q, q < h + 1 + i → (U.pushCell (arrV cI M fun _ => .int 0)).heap[q]? = U.heap[q]? := fun q hq => State.heap_pushCell_of_lt _ _ (Nat.lt_of_lt_of_le hq (Nat.le_of_eq a1.symm))
  refine ⟨?_, State.heap_setCell_self ((hold h (by omega)).trans a2), fun j hj => ?_, fun q hq => ?_, a5⟩
  · show ((U.heap.push _).setIfInBounds h _).size = _
    rw [Array.size_setIfInBounds, Array.size_push, a1]
    rfl
  · rw [State.heap_setCell_other (show h ≠ h + 1 + j by omega)]
    by_cases c1 : j < i
    · rw [hold _ (by omega)]
      exact a3 j c1
    · rw [show h + 1 + j = U.heap.size by omega]
      exact State.heap_pushCell_size _ _
  · rw [State.heap_setCell_other (show h ≠ q by omega), hold q (by omega)]
    exact a4 q hq
theorem mz_cold {Q : Unit → Pre} {E : CtlPost} {e : Env} {d : Bool} {acts : List Action} {T : State} {f : JFrame} {index x : Nat} {vm1 : Vm} (ht : T.topJava?.isSome) (hg : (Jvm.resolveClass f.method.cls index).Gives e.toSetting T.vm (.ok x) vm1) (hr : vm1.classReady f.method.cls index x) (hsz : vm1.classes.size ≤ T.vm.classes.size) : wp (Op.multianewarray.sem index 2) Q E e d acts (T.setTop f) ↔ wp (Op.multianewarray.sem index 2) Q E e d acts ((T.setVm vm1).setTop f) := by
  unfold Op.multianewarray.sem
  simp only [wp_bind']
  exact W.resolveClassAt_transfer (s := T.setTop f) (State.method?_setTop f ht) hg hr hsz
section MZ
variable {p : Program} {l : Launch} {e : Env} {R : Room} {s : State} {m : MethodId} {args : Array Value} {below : List Frame} {meth : Method} {c : Code} {locs : List Loc} {cells slots : Nat}
variable {H : Heap} {cO cI : ClassId} {N M h : Nat} {vm : Vm}
theorem mz_stand {U : State} {i : Nat} (X : Stand p l e R s m args below meth c U locs cells slots) (hR : mz_R H cO cI N M h i vm U) (hs : s.heap.size ≤ h) : Stand p l e R s m args below meth c (mz_one h (arrV cI M fun _ => .int 0) i U) locs (cells + 1) (slots + M) := by
  have X1 := X.pushed (arrV cI M fun _ => .int 0)
  rw [arrV_size] at X1
  have hcell : (U.pushCell (arrV cI M fun _ => .int 0)).heap[h]? = some (arrV cO N (mz_f h i)) := (State.heap_pushCell_of_lt _ _ (show h < U.heap.size by rw [hR.1]; omega)).trans hR.2.1
  have X2 := Stand.forget (X1.stored hcell i (.ref U.heap.size)) (fun y hy => by
    rw [List.mem_singleton.mp hy]
    exact hs)
  unfold mz_one
  rw [hR.2.1]
  exact X2
theorem mz_all (hs : s.heap.size ≤ h) : ∀ (k i : Nat) (U : State), i + k = N → mz_R H cO cI N M h i vm U → Stand p l e R s m args below meth c U locs (cells + 1 + i) (slots + N + i * M) →
    mz_R H cO cI N M h N vm (mz_run h (arrV cI M fun _ => .int 0) (List.range' i k) U) ∧ Stand p l e R s m args below meth c (mz_run h (arrV cI M fun _ => .int 0) (List.range' i k) U) locs (cells + 1 + N) (slots + N + N * M)
  | 0, i, U, hik, hR, X => by
    have : i = N := by omega
    subst this
    exact ⟨hR, X⟩
  | k + 1, i, U, hik, hR, X => by
    rw [List.range'_succ]
    refine mz_all hs k (i + 1) _ (by omega) (mz_step hR) ?_
    have X1 := mz_stand X hR hs
    rw [Nat.succ_mul, ← Nat.add_assoc (slots + N)]
    exact X1
variable {E : CtlPost} {d : Bool} {acts : List Action}
/-- an inner row -/
theorem mz_in {S : State} {kI : Class} {q1 : ClassId} {k : Int32} {Q : Addr → Pre} (hkI : S.vm.classes[cI]? = some kI) (hI : kI.kind = .array q1 .int) (hk : ¬ k < 0) (hM : k.toNatClampNeg = M) (hl : ¬ M > e.platform.arrayLengthLimit) (hh : ¬ M * 4 > e.platform.maxHeapBytes) (hc : S.heap.size < e.platform.maxCells) (hsl : S.slotsUsed + M ≤ e.platform.maxSlots)
    (hq : ∀ acts', Q S.heap.size d acts' (S.pushCell (arrV cI M fun _ => .int 0))) : wp (Op.multianewarray.make cI [k]) Q E e d acts S := by
  subst hM
  unfold Op.multianewarray.make
  simp only [wp_bind', W.ite, hk, if_false, wp_pure', W.theClass, hkI, Option.some.injEq, exists_eq_left', hI]
  refine W.newArray_of hkI hI hl hh hc hsl rfl fun acts' => ?_
  have h1 := hq acts'
  rw [← arrV_new] at h1
  exact h1
theorem mz_R0 {V : State} (hH : V.heap = H) (hh : H.size = h) : mz_R H cO cI N M h 0 V.vm (V.pushCell (arrV cO N fun _ => .null)) := by
  have hz : V.heap.size = h := by rw [hH, hh]
  refine ⟨?_, ?_, fun j hj => absurd hj (Nat.not_lt_zero _), fun q hq => ?_, rfl⟩
  · show (V.heap.push _).size = _
    rw [Array.size_push, hz]
  · rw [mz_f0, ← hz]
    exact State.heap_pushCell_size _ _
  · rw [State.heap_pushCell_of_lt _ _ (show q < V.heap.size by rw [hz]; exact hq), hH]
theorem mz_X0 {V : State} (X : Stand p l e R s m args below meth c V locs cells slots) : Stand p l e R s m args below meth c (V.pushCell (arrV cO N fun _ => .null)) locs (cells + 1 + 0) (slots + N + 0 * M) := by
  have X1 := X.pushed (arrV cO N fun _ => .null)
  rw [arrV_size] at X1
  rw [Nat.zero_mul]
  exact X1
theorem mz_wp {Q : Unit → Pre} {V : State} {g : JFrame} {index : Nat} {q1 : ClassId} {kO kI : Class} {n k : Int32} {rest : List Value} (X : Stand p l e R s m args below meth c V locs cells slots) (hH : V.heap = H) (hh : H.size = h) (hs : s.heap.size ≤ h) (hr : V.vm.classReady g.method.cls index cO) (hkO : V.vm.classes[cO]? = some kO) (hO : kO.kind = .array cI (.array .int)) (hkI : V.vm.classes[cI]? = some kI) (hI : kI.kind = .array q1 .int)
    (hstack : g.stack = .int k :: .int n :: rest) (hn : ¬ n < 0) (hN : n.toNatClampNeg = N) (hk : ¬ k < 0) (hM : k.toNatClampNeg = M) (hl1 : ¬ N > e.platform.arrayLengthLimit) (hh1 : ¬ N * 4 > e.platform.maxHeapBytes) (hl2 : ¬ M > e.platform.arrayLengthLimit) (hh2 : ¬ M * 4 > e.platform.maxHeapBytes) (hcells : cells + (1 + N) ≤ R.cells) (hslots : slots + (N + N * M) ≤ R.slots)
    (hq : ∀ d' acts', Q () d' acts' ((mz_run h (arrV cI M fun _ => .int 0) (List.range' 0 N) (V.pushCell (arrV cO N fun _ => .null))).setTop { g with stack := .ref h :: rest })) : wp (Op.multianewarray.sem index 2) Q E e d acts (V.setTop g) := by
  have top := X.here.top
  have h20 : ((2 : Nat) = 0) = False := eq_false (by decide)
  have hz : V.heap.size = h := by rw [hH, hh]
  have hr0 := X.roomAbove (a := 1) (b := N) (by omega) (by omega)
  unfold Op.multianewarray.sem
  simp only [wp_bind', W.resolveClassAt_ready (State.method?_setTop g top) hr, W.popN, h20, if_false]
  refine ⟨g, State.topJava?_setTop' g top, [.int n, .int k], rest, rfl, by rw [hstack]; rfl, ?_⟩
  simp only [State.setTop_setTop, List.mapM_cons, List.mapM_nil, wp_bind', wp_pure']
  generalize hf1 : ({ g with stack := rest } : JFrame) = f1
  unfold Op.multianewarray.make
  simp only [wp_bind', W.ite, hn, if_false, wp_pure', W.theClass, State.vm_setTop, hkO, Option.some.injEq, exists_eq_left', hO, hN]
  refine W.newArray_of (k := kO) hkO hO hl1 hh1 (by show V.heap.size < _; omega) (by show V.slotsUsed + N ≤ _; omega) rfl fun acts1 => ?_
  simp only [wp_bind', W.ite, List.find?_cons, List.find?_nil, hk, decide_false, wp_pure', ite_self, Std.Legacy.Range.forIn_eq_forIn_range', Std.Legacy.Range.size, Nat.sub_zero, Nat.add_sub_cancel, Nat.div_one]
  have eS : ((V.setTop f1).pushCell { cls := cO, slots := Array.replicate N Value.null }) = (V.pushCell (arrV cO N fun _ => .null)).setTop f1 := by
    rw [← arrV_new]
    rfl
  rw [eS, show Array.size (V.setTop f1).heap = h from hz]
  refine wp_forIn_inv (fun r S => ∃ (U : State) (i : Nat), S = U.setTop f1 ∧ i + r.length = N ∧ r = List.range' i r.length ∧ mz_R H cO cI N M h i V.vm U ∧ Stand p l e R s m args below meth c U locs (cells + 1 + i) (slots + N + i * M) ∧ mz_run h (arrV cI M fun _ => .int 0) r U = mz_run h (arrV cI M fun _ => .int 0) (List.range' 0 N) (V.pushCell (arrV cO N fun _ => .null))) _ _ ?_ ?_ ?_
  · exact ⟨_, 0, rfl, by rw [List.length_range', Nat.zero_add], by rw [List.length_range'], mz_R0 hH hh, mz_X0 X, rfl⟩
  · rintro x r S d1 a1 Q1 ⟨U, i, rfl, hi, hr1, hR, XU, hU⟩ hnext
    rw [List.length_cons, List.range'_succ] at hr1
    obtain ⟨rfl, hr2⟩ := List.cons.inj hr1
    rw [List.length_cons] at hi
    have hM1 : (x + 1) * M ≤ N * M := Nat.mul_le_mul_right M (by omega)
    rw [Nat.succ_mul] at hM1
    have hrm := XU.roomAbove (a := 1) (b := M) (by omega) (by omega)
    rw [wp_bind']
    refine mz_in (S := U.setTop f1) (by show U.vm.classes[cI]? = _; rw [hR.2.2.2.2]; exact hkI) hI hk hM hl2 hh2 (by show U.heap.size < _; omega) (by show U.slotsUsed + M ≤ _; omega) fun a2 => ?_
    have hcell : ((U.setTop f1).pushCell (arrV cI M fun _ => .int 0)).heap[h]? = some (arrV cO N (mz_f h x)) := (State.heap_pushCell_of_lt _ _ (show h < U.heap.size by rw [hR.1]; omega)).trans hR.2.1
    simp only [wp_bind', W.writeLoc, wp_pure']
    refine ⟨_, hcell, (fun z => by cases z), by rw [arrV_size]; omega, ?_, ?_⟩
    · show State.fitsSlot _ cO .none x _ = true
      unfold State.fitsSlot State.slotType?
      rw [show ((U.setTop f1).pushCell (arrV cI M fun _ => .int 0)).vm = V.vm from hR.2.2.2.2, hkO]
      simp [hO, fits]
    · refine hnext _ _ _ ⟨mz_one h (arrV cI M fun _ => .int 0) x U, x + 1, ?_, by omega, hr2, mz_step hR, ?_, hU⟩
      · unfold mz_one
        rw [hR.2.1]
        rfl
      · have X1 := mz_stand XU hR hs
        rw [Nat.succ_mul, ← Nat.add_assoc (slots + N)]
        exact X1
  · rintro S d1 a1 ⟨U, i, rfl, hi, -, hR, XU, hU⟩
    rw [← hU] at hq
    simp only [wp_bind', wp_pure', W.mark, W.pushRef]
    refine ⟨f1, State.topJava?_setTop' f1 XU.here.top, ?_⟩
    rw [State.setTop_setTop, ← hf1]
    exact hq _ _
end MZ
