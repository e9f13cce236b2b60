/-! arrays of arrays, of references; reads; calls -/
theorem cell_x {a b : Cell} (h1 : a.cls = b.cls) (h2 : a.vm = b.vm) (h3 : a.slots = b.slots) (h4 : a.monitor = b.monitor) (h5 : a.hash = b.hash) : a = b := by
  cases a; cases b
  cases h1; cases h2; cases h3; cases h4; cases h5
  rfl
theorem outer_mh (cA : ClassId) (N h0 : Nat) : ∀ i, (Jvm.Free.Multi.outerC cA N h0 i).monitor = {} ∧ (Jvm.Free.Multi.outerC cA N h0 i).hash = none
  | 0 => ⟨rfl, rfl⟩
  | i + 1 => outer_mh cA N h0 i
theorem outer_cell (cA : ClassId) (N h0 : Nat) {f : Nat → Option Nat} (hf : ∀ j, j < N → f j = some (h0 + 1 + j)) : Jvm.Free.Multi.outerC cA N h0 N = vp_cell cA (N, .inr (.inr (.inr (.inr f)))) := by
  obtain ⟨o1, o2, o3⟩ := Jvm.Free.Multi.outerC_facts cA N h0 N
  rw [vp_cell_q]
  refine cell_x o1 o2 ?_ (outer_mh cA N h0 N).1 (outer_mh cA N h0 N).2
  apply Array.ext_getElem?
  intro j
  by_cases hj : j < N
  · rw [Jvm.Free.Multi.outerC_slot cA N h0 N j hj, if_pos hj, arrV_read _ _ hj, hf j hj]
    rfl
  · rw [Array.getElem?_eq_none (by rw [o3]; omega), Array.getElem?_eq_none (by rw [arrV_size]; omega)]
section FBM
variable {p : Program} {l : Launch} {e : Env} {R : Room} {s : State} {m : MethodId} {args : Array Value} {below : List Frame} {meth : Method} {c : Code} {H : Heap} {locs : List Loc} {cells slots : Nat} {Q : State → Prop}
variable {cc : ByteArray} {pc : Nat} {ls : Array Slot} {rest : List Value} {w : mWd} {VC : Nat → Nat × Nat} {base n : Nat} {σ : mS} {op : Nat × Nat → Option va_E}
theorem fb_multi (hx : p.tables.exec = Jvm.exec) (hb : c.code = cc) {Ts : List Cond} (hts : ∀ x ∈ Ts, x.before args s = true) (hover : (Cond.arrayOver (.array .int)).before args s = true) (hF : FB w VC base σ op n H) (hS : va_S (fbA base) s.heap H locs) {own : String} {index : Nat} (hown : s.vm.findClass own = some m.cls) (hcl : Cond.classLink own index ("[" ++ (FieldType.array .int).toString) ∈ Ts) (harr : Cond.arrayClass .int ∈ Ts) (hcO : s.vm.findClass ("[" ++ (FieldType.array .int).toString) = some (wcA w 5)) (hcI : s.vm.findClass (FieldType.array .int).toString = some (wcA w 1)) {a b : Int} {N M : Nat} (ha : ¬ Int32.ofInt a < 0) (hN : (Int32.ofInt a).toNatClampNeg = N) (hb0 : ¬ Int32.ofInt b < 0) (hM : (Int32.ofInt b).toNatClampNeg = M) (hb1 : N * 4 ≤ 536870912) (hb2 : M * 4 ≤ 536870912)
    {q0 : Nat × Nat} (hV : VC n = q0) (hop : op q0 = none) {f : Nat → Option Nat} (hm : mEn w σ q0 = .inl (wcA w 5, N, .inr (.inr (.inr (.inr f))))) (hf : ∀ j, j < N → f j = some (base + n + 1 + j)) (hVi : ∀ j, j < N → fbE w σ op (VC (n + 1 + j)) = .inl (wcA w 1, M, .inl fun _ => 0)) (hcells : cells + (1 + N) ≤ R.cells) (hslots : slots + (N + N * M) ≤ R.slots) (hdg : decode cc pc = .ok (.multianewarray index 2, 4))
    (kk : ∀ (H1 : Heap), FB w VC base σ op (n + 1 + N) H1 → va_S (fbA base) s.heap H1 locs → W p l e R s m args below meth c H1 locs (cells + 1 + N) (slots + N + N * M) Q (F0 m (pc + 4) ls (.ref (base + n) :: rest))) : W p l e R s m args below meth c H locs cells slots Q (F0 m pc ls (.int (Int32.ofInt b) :: .int (Int32.ofInt a) :: rest)) := by
  intro T hT X
  subst hN; subst hM; subst hb
  have hcb : (Int32.ofInt b).toNatClampNeg * componentBytes .int ≤ 536870912 := hb2
  obtain ⟨vm₁, cA, comp, hW, hfA, hfC, -, -, X1, step⟩ := X.multianewarray2F hx (ty := .int) hown (hts _ hcl) hover (hts _ harr) (g := F0 m pc ls (.int (Int32.ofInt b) :: .int (Int32.ofInt a) :: rest)) rfl hdg rfl ha hb0 hb1 hcb (by omega) rfl rfl hcells hslots
  cases hfA.symm.trans hcO
  cases hfC.symm.trans hcI
  obtain ⟨f1, f2, -, -⟩ := Jvm.Free.Multi.fill_facts (T.setVm vm₁) (wcA w 5) (wcA w 1) (Int32.ofInt a).toNatClampNeg (Int32.ofInt b).toNatClampNeg (defaultValue .int) (Int32.ofInt a).toNatClampNeg
  have hTs : (T.setVm vm₁).heap.size = base + n := by show T.heap.size = _; rw [hT]; exact hF.1
  have hTh : (T.setVm vm₁).heap = H := hT
  rw [hTs] at f1 f2
  have fo : ∀ q : Nat, q < base + n → (Jvm.Free.Multi.fill (T.setVm vm₁) (wcA w 5) (wcA w 1) (Int32.ofInt a).toNatClampNeg (Int32.ofInt b).toNatClampNeg (defaultValue .int) (Int32.ofInt a).toNatClampNeg).heap[q]? = H[q]? := fun q hq => by
    rw [Jvm.Free.Multi.fill_old (T.setVm vm₁) (wcA w 5) (wcA w 1) _ _ (defaultValue .int) (a := q) (by rw [hTs]; exact hq) _, hTh]
  have fi : ∀ j : Nat, j < (Int32.ofInt a).toNatClampNeg → (Jvm.Free.Multi.fill (T.setVm vm₁) (wcA w 5) (wcA w 1) (Int32.ofInt a).toNatClampNeg (Int32.ofInt b).toNatClampNeg (defaultValue .int) (Int32.ofInt a).toNatClampNeg).heap[base + n + 1 + j]? = some (Jvm.Free.Multi.innerC (wcA w 1) (Int32.ofInt b).toNatClampNeg (defaultValue .int)) := fun j hj => by
    have h := Jvm.Free.Multi.fill_inner (T.setVm vm₁) (wcA w 5) (wcA w 1) (Int32.ofInt a).toNatClampNeg (Int32.ofInt b).toNatClampNeg (defaultValue .int) (Int32.ofInt a).toNatClampNeg j hj
    rw [hTs] at h
    exact h
  have hFB : FB w VC base σ op (n + 1 + (Int32.ofInt a).toNatClampNeg) (Jvm.Free.Multi.fill (T.setVm vm₁) (wcA w 5) (wcA w 1) (Int32.ofInt a).toNatClampNeg (Int32.ofInt b).toNatClampNeg (defaultValue .int) (Int32.ofInt a).toNatClampNeg).heap := by
    refine ⟨by rw [f1]; omega, fun k x hk => ?_⟩
    obtain ⟨hk1, rfl⟩ := fbL_of hk
    by_cases c1 : k < n
    · exact (hF.2 k _ (fbL_get c1)).kept (fo _ (by show base + k < base + n; omega))
    · by_cases c2 : k = n
      · subst c2
        have e1 : fbE w σ op (VC k) = .inl (wcA w 5, (Int32.ofInt a).toNatClampNeg, .inr (.inr (.inr (.inr f)))) := by
          unfold fbE
          rw [hV, hop]
          exact hm
        rw [e1]
        show (Jvm.Free.Multi.fill _ _ _ _ _ _ _).heap[base + k]? = some (vp_cell _ _)
        rw [f2, outer_cell (wcA w 5) _ (base + k) hf]
      · obtain ⟨j, rfl⟩ : ∃ j, k = n + 1 + j := ⟨k - n - 1, by omega⟩
        rw [hVi j (by omega)]
        show (Jvm.Free.Multi.fill _ _ _ _ _ _ _).heap[base + (n + 1 + j)]? = some (vp_cell _ _)
        rw [show base + (n + 1 + j) = base + n + 1 + j from by omega, fi j (by omega), vp_cell_i]
        exact congrArg some (arrV_new _ _ _)
  have hsz1 : s.heap.size ≤ base + n := by have := hS.1; rw [hF.1] at this; exact this
  obtain ⟨t, a1, b1⟩ := kk _ hFB ⟨by rw [f1]; omega, fun q g1 g2 => by rw [fo q (by omega)]; exact hS.2.1 q g1 g2, hS.2.2⟩ _ rfl X1
  refine ⟨t, step t ?_, b1⟩
  have ht : T.heap.size = base + n := by rw [hT]; exact hF.1
  rw [ht]
  exact a1
/-- anewarray: open, empty -/
theorem fb_newq (hx : p.tables.exec = Jvm.exec) (hb : c.code = cc) {Ts : List Cond} (hts : ∀ x ∈ Ts, x.before args s = true) (hK : mK w s) {C : String} (hover : va_AO C s) (hF : FB w VC base σ op n H) (hS : va_S (fbA base) s.heap H locs) (hbs : base ≤ s.heap.size) (hsz : s.heap.size + cells = base + n) {own : String} {index : Nat} (hown : s.vm.findClass own = some m.cls) (hcl : Cond.classLink own index C ∈ Ts) (hcA : s.vm.findClass ("[" ++ (FieldType.object C).toString) = some (wcA w 6)) {q0 : Nat × Nat} (hV : VC n = q0) (hu : ∀ k, k < n → VC k ≠ q0) {z : Int} {N : Nat} (hn : ¬ Int32.ofInt z < 0) (hN : (Int32.ofInt z).toNatClampNeg = N) (hbytes : N * 4 ≤ 536870912) (hcells : cells + 1 ≤ R.cells) (hslots : slots + N ≤ R.slots) (hdg : decode cc pc = .ok (.anewarray index, 3))
    (kk : ∀ (H1 : Heap), FB w VC base σ (opS op q0 (some (.inl (wcA w 6, N, .inr (.inr (.inr (.inr fun _ => none))))))) (n + 1) H1 → va_S (fbA base) s.heap H1 locs → W p l e R s m args below meth c H1 locs (cells + 1) (slots + N) Q (F0 m (pc + 3) ls (.ref (base + n) :: rest))) : W p l e R s m args below meth c H locs cells slots Q (F0 m pc ls (.int (Int32.ofInt z) :: rest)) := by
  have hF2 : FB w VC base σ (opS op q0 (some (.inl (wcA w 6, N, .inr (.inr (.inr (.inr fun _ => none))))))) n H := FB_cg hF (fun k hk => by unfold fbE; rw [opS_n (hu k hk)])
  refine va_newq hx hb hown (hts _ hcl) hover hK.1 hF2.2 fbL_D hS (fun q h => Nat.le_trans hbs h) hn hN hbytes hcells hslots hdg fun q cA H1 k1 h1 h2 h3 => ?_
  have e1 : cA = wcA w 6 := by
    have h5 := (k1.2 (mtys (wcA w)).length (cA, .object C) (by rw [List.getElem?_append_right (Nat.le_refl _), Nat.sub_self]; rfl)).2
    obtain ⟨kA, comp, -, -, -, h6⟩ := h5
    exact Option.some.inj (h6.symm.trans hcA)
  subst e1
  refine w_size fun hz => ?_
  obtain ⟨rfl, h4⟩ := fb_1 hF2 h1 h2 (by omega) hV (by unfold fbE; rw [opS_s])
  exact kk H1 h4 h3
/-- aastore of an object -/
theorem fb_ast (hx : p.tables.exec = Jvm.exec) (hb : c.code = cc) (hK : mK w s) (hF : FB w VC base σ op n H) (hS : va_S (fbA base) s.heap H locs) (hsz : s.heap.size + cells = base + n) (t tk ci : Nat) (q : Nat × Nat) (ht : t < n) (hV : VC t = q) (hu : ∀ k, k < n → VC k = q → k = t) {N : Nat} {r : vw_C} {f : Nat → Option Nat} (hop : op q = some (.inl (wcA w 6, N, .inr (.inr (.inr (.inr f)))))) (htk : tk < n) {vs : List Value} (hvk : fbE w σ op (VC tk) = .inr (ci, vs)) (hc : (wcl w)[ci]? = some r) (hr : r.1 = "TurnBench$Layer") {z : Int} {j : Nat} (hj : (Int32.ofInt z).toNatClampNeg = j) (hin : vp_in (Int32.ofInt z) N) (hdg : decode cc pc = .ok (.aastore, 1))
    (kk : ∀ (H1 : Heap) (locs1 : List Loc), FB w VC base σ (opS op q (some (.inl (wcA w 6, N, .inr (.inr (.inr (.inr (va_up f j (some (base + tk)))))))))) n H1 → va_S (fbA base) s.heap H1 locs1 → W p l e R s m args below meth c H1 locs1 cells slots Q (F0 m (pc + 1) ls rest)) : W p l e R s m args below meth c H locs cells slots Q (F0 m pc ls (.ref (base + tk) :: .int (Int32.ofInt z) :: .ref (base + t) :: rest)) := by
  subst hj
  have he : (fbL w VC base σ op n)[t]? = some (base + t, .inl (wcA w 6, N, .inr (.inr (.inr (.inr f))))) := by
    rw [fbL_get ht, hV]
    unfold fbE
    rw [hop]
  have he2 : (fbL w VC base σ op n)[tk]? = some (base + tk, .inr (ci, vs)) := by rw [fbL_get htk, hvk]
  refine va_astq hx hb hK.1 hF.2 fbL_D hS t 4 tk ci he (by rw [hr]; rfl) he2 hc hin hdg fun H1 locs1 h1 h2 h3 => ?_
  rw [fbL_set ht hV hu] at h1
  refine w_size fun hz => ?_
  exact kk H1 locs1 (fb_size h1 (by omega) (by omega)) h3
/-- getfield of an open object -/
theorem fb_get (hx : p.tables.exec = Jvm.exec) (hb : c.code = cc) {Ts : List Cond} (hts : ∀ x ∈ Ts, x.before args s = true) (hK : mK w s) (hF : FB w VC base σ op n H) {own C : String} {T : u_T} {N ci index : Nat} (hown : s.vm.findClass own = some m.cls) (t : Nat) (q : Nat × Nat) (ht : t < n) (hV : VC t = q) {fs : List Value} (hop : op q = some (.inr (ci, fs))) (hc : (wcl w)[ci]? = some (C, T, N)) (hin : ∀ x ∈ u_ws C T N, x ∈ Ts) (k : Nat) (hk : k < N) (hlink : Cond.fieldLink own index (T k).1 (T k).2.1 (T k).2.2.1 ∈ Ts) {v : Value} (hv : fs[k]? = some v) (hdg : decode cc pc = .ok (.getfield index, 3))
    (kk : W p l e R s m args below meth c H locs cells slots Q (F0 m (pc + 3) ls (v :: rest))) : W p l e R s m args below meth c H locs cells slots Q (F0 m pc ls (.ref (base + t) :: rest)) := by
  have he : (fbL w VC base σ op n)[t]? = some (base + t, .inr (ci, fs)) := by
    rw [fbL_get ht, hV]
    unfold fbE
    rw [hop]
  exact va_get hx hb hts hin hown hK.1 hF.2 t he hc k hk (hts _ hlink) (fun x h => h) hv hdg kk
end FBM
