/-! arrays of arrays, of references; reads; calls -/
theorem cell_x {a b : Cell} (h1 : a.cls = b.cls) (h2 : a.vm = b.vm) (h3 : a.slots = b.slots) (h4 : a.monitor = b.monitor) (h5 : a.hash = b.hash) : a = b := by
  cases a; cases b
  cases h1; cases h2; cases h3; cases h4; cases h5
  rfl
section FBM
variable {p : Program} {l : Launch} {e : Env} {R : Room} {s : State} {m : MethodId} {args : Array Value} {below : List Frame} {meth : Method} {c : Code} {H : Heap} {locs : List Loc} {cells slots : Nat} {Q : State → Prop}
variable {cc : ByteArray} {pc : Nat} {ls : Array Slot} {rest : List Value} {w : mWd} {VC : Nat → Nat × Nat} {base n : Nat} {σ : mS} {op : Nat × Nat → Option va_E}
theorem fb_multi (hx : p.tables.exec = Jvm.exec) (hb : c.code = cc) {Ts : List Cond} (hts : ∀ x ∈ Ts, x.before args s = true) (hover : (Cond.arrayOver (.array .int)).before args s = true) (hF : FB w VC base σ op n H) (hS : va_S (fbA base) s.heap H locs) {own : String} {index : Nat} (hown : s.vm.findClass own = some m.cls) (hcl : Cond.classLink own index ("[" ++ (FieldType.array .int).toString) ∈ Ts) (harr : Cond.arrayClass .int ∈ Ts) (hcO : s.vm.findClass ("[" ++ (FieldType.array .int).toString) = some (wcA w 5)) (hcI : s.vm.findClass (FieldType.array .int).toString = some (wcA w 1)) {a b : Int} {N M : Nat} (ha : ¬ Int32.ofInt a < 0) (hN : (Int32.ofInt a).toNatClampNeg = N) (hb0 : ¬ Int32.ofInt b < 0) (hM : (Int32.ofInt b).toNatClampNeg = M) (hb1 : N * 4 ≤ 536870912) (hb2 : M * 4 ≤ 536870912)
    {q0 : Nat × Nat} (hV : VC n = q0) (hop : op q0 = none) {f : Nat → Option Nat} (hm : mEn w σ q0 = .inl (wcA w 5, N, .inr (.inr (.inr (.inr f))))) (hf : ∀ j, j < N → f j = some (base + n + 1 + j)) (hVi : ∀ j, j < N → fbE w σ op (VC (n + 1 + j)) = .inl (wcA w 1, M, .inl fun _ => 0)) (hcells : cells + (1 + N) ≤ R.cells) (hslots : slots + (N + N * M) ≤ R.slots) (hdg : decode cc pc = .ok (.multianewarray index 2, 4))
    (kk : ∀ (H1 : Heap), FB w VC base σ op (n + 1 + N) H1 → va_S (fbA base) s.heap H1 locs → W p l e R s m args below meth c H1 locs (cells + 1 + N) (slots + N + N * M) Q (F0 m (pc + 4) ls (.ref (base + n) :: rest))) : W p l e R s m args below meth c H locs cells slots Q (F0 m pc ls (.int (Int32.ofInt b) :: .int (Int32.ofInt a) :: rest)) := by
  intro T hT X
  subst hb
  have hpl : e.platform.magicAccessors = ({} : Platform).magicAccessors := by rw [X.admits.platform]
  obtain ⟨x5, y5, hlk⟩ := Cond.classLink_spec hown (hts _ hcl) e.platform hpl
  cases y5.symm.trans hcO
  obtain ⟨m5, a5, k5, e5, g5, h5, f5⟩ := ao_sp hover
  cases f5.symm.trans hcO
  cases e5.symm.trans hcI
  obtain ⟨a1, k1, q1, e1, g1, h1⟩ := Cond.arrayClass_spec (hts _ harr)
  have e2 : s.vm.findClass (FieldType.array .int).toString = some a1 := e1
  cases e2.symm.trans hcI
  obtain ⟨hg1, hw1, hr1⟩ := State.classEntry (e := e) X.warmed hlk
  generalize T.vm.noted m.cls index (.cls (wcA w 5)) = vm1 at hg1 hw1 hr1
  obtain ⟨k6, g6, he6⟩ := hw1.alike.2.2 _ _ g5
  obtain ⟨k2, g2, he2⟩ := hw1.alike.2.2 _ _ g1
  have h6 : k6.kind = .array (wcA w 1) (.array .int) := by rw [he6]; exact h5
  have h2 : k2.kind = .array q1 .int := by rw [he2]; exact h1
  have XV := X.noted hw1
  have hsz1 : s.heap.size ≤ base + n := by have := hS.1; rw [hF.1] at this; exact this
  obtain ⟨hR, XF⟩ := mz_all (H := H) (cO := wcA w 5) (cI := wcA w 1) (N := N) (M := M) (h := base + n) hsz1 N 0 _ (Nat.zero_add N) (mz_R0 (V := T.setVm vm1) hT hF.1) (mz_X0 XV)
  have hq : ∀ q : Nat, q < base + n → (mz_run (base + n) (arrV (wcA w 1) M fun _ => .int 0) (List.range' 0 N) ((T.setVm vm1).pushCell (arrV (wcA w 5) N fun _ => .null))).heap[q]? = H[q]? := hR.2.2.2.1
  have hFB : FB w VC base σ op (n + 1 + N) (mz_run (base + n) (arrV (wcA w 1) M fun _ => .int 0) (List.range' 0 N) ((T.setVm vm1).pushCell (arrV (wcA w 5) N fun _ => .null))).heap := by
    refine ⟨by rw [hR.1]; omega, fun k x hk => ?_⟩
    obtain ⟨hk1, rfl⟩ := fbL_of hk
    by_cases c1 : k < n
    · exact (hF.2 k _ (fbL_get c1)).kept (hq _ (by show base + k < base + n; omega))
    · by_cases c2 : k = n
      · subst c2
        have e1 : fbE w σ op (VC k) = .inl (wcA w 5, N, .inr (.inr (.inr (.inr f)))) := by
          unfold fbE
          rw [hV, hop]
          exact hm
        rw [e1]
        show (mz_run _ _ _ _).heap[base + k]? = some (vp_cell _ _)
        rw [hR.2.1, vp_cell_q]
        refine congrArg some ?_
        unfold arrV
        have hfn : (fun j : Fin N => mz_f (base + k) N j.val) = fun j : Fin N => va_rf (f j.val) := funext fun j => by
          rw [hf j.val j.isLt]
          exact if_pos j.isLt
        rw [hfn]
      · obtain ⟨j, rfl⟩ : ∃ j, k = n + 1 + j := ⟨k - n - 1, by omega⟩
        rw [hVi j (by omega)]
        show (mz_run _ _ _ _).heap[base + (n + 1 + j)]? = some (vp_cell _ _)
        rw [show base + (n + 1 + j) = base + n + 1 + j from by omega, hR.2.2.1 j (by omega), vp_cell_i]
  obtain ⟨t, st, b1⟩ := kk _ hFB ⟨by rw [hR.1]; omega, fun q u1 u2 => by rw [hq q (by omega)]; exact hS.2.1 q u1 u2, hS.2.2⟩ _ rfl XF
  refine ⟨t, ?_, b1⟩
  refine Steps.instr (c := c) (f := F0 m pc ls (.int (Int32.ofInt b) :: .int (Int32.ofInt a) :: rest)) X.here ?_
  rw [show decode c.code (F0 m pc ls (.int (Int32.ofInt b) :: .int (Int32.ofInt a) :: rest)).pc = .ok (.multianewarray index 2, 4) from hdg]
  show wpRun (p.tables.exec (.multianewarray index 2)) _ _ e _
  rw [hx]
  show wp (Op.multianewarray.sem index 2) _ _ e false [] _
  refine (mz_cold X.here.top hg1 hr1 (by have z1 := X.warmed.alike.2.1; have z2 := hw1.alike.2.1; omega)).mpr ?_
  refine mz_wp XV hT hF.1 hsz1 hr1 g6 h6 g2 h2 rfl ha hN hb0 hM (by rw [Launch.admits_arrayLengthLimit X.admits]; omega) (by rw [Launch.admits_maxHeapBytes X.admits]; omega) (by rw [Launch.admits_arrayLengthLimit X.admits]; omega) (by rw [Launch.admits_maxHeapBytes X.admits]; omega) hcells hslots fun d1 a2 a3 => ?_
  rw [afterInstr_ok]
  exact st
/-- anewarray: open, empty -/
theorem fb_newq (hx : p.tables.exec = Jvm.exec) (hb : c.code = cc) {Ts : List Cond} (hts : ∀ x ∈ Ts, x.before args s = true) (hK : mK w s) {C : String} (hover : va_AO C s) (hF : FB w VC base σ op n H) (hS : va_S (fbA base) s.heap H locs) (hbs : base ≤ s.heap.size) (hsz : s.heap.size + cells = base + n) {own : String} {index : Nat} (hown : s.vm.findClass own = some m.cls) (hcl : Cond.classLink own index C ∈ Ts) (hcA : s.vm.findClass ("[" ++ (FieldType.object C).toString) = some (wcA w 6)) {q0 : Nat × Nat} (hV : VC n = q0) (hu : ∀ k, k < n → VC k ≠ q0) {z : Int} {N : Nat} (hn : ¬ Int32.ofInt z < 0) (hN : (Int32.ofInt z).toNatClampNeg = N) (hbytes : N * 4 ≤ 536870912) (hcells : cells + 1 ≤ R.cells) (hslots : slots + N ≤ R.slots) (hdg : decode cc pc = .ok (.anewarray index, 3))
    (kk : ∀ (H1 : Heap), FB w VC base σ (opS op q0 (some (.inl (wcA w 6, N, .inr (.inr (.inr (.inr fun _ => none))))))) (n + 1) H1 → va_S (fbA base) s.heap H1 locs → W p l e R s m args below meth c H1 locs (cells + 1) (slots + N) Q (F0 m (pc + 3) ls (.ref (base + n) :: rest))) : W p l e R s m args below meth c H locs cells slots Q (F0 m pc ls (.int (Int32.ofInt z) :: rest)) := by
  have hF2 : FB w VC base σ (opS op q0 (some (.inl (wcA w 6, N, .inr (.inr (.inr (.inr fun _ => none))))))) n H := FB_cg hF (fun k hk => by unfold fbE; rw [opS_n (hu k hk)])
  refine va_newq hx hb hown (hts _ hcl) hover hK.1 hF2.2 fbL_D hS (fun q h => Nat.le_trans hbs h) hn hN hbytes hcells hslots hdg fun q cA H1 k1 h1 h2 h3 => ?_
  have e1 : cA = wcA w 6 := by
    have h5 := (k1.2 (mtys (wcA w)).length (cA, .object C) (by rw [List.getElem?_append_right (Nat.le_refl _), Nat.sub_self]; rfl)).2
    obtain ⟨kA, comp, -, -, -, h6⟩ := h5
    exact Option.some.inj (h6.symm.trans hcA)
  subst e1
  refine w_size fun hz => ?_
  obtain ⟨rfl, h4⟩ := fb_1 hF2 h1 h2 (by omega) hV (by unfold fbE; rw [opS_s])
  exact kk H1 h4 h3
/-- aastore of an object -/
theorem fb_ast (hx : p.tables.exec = Jvm.exec) (hb : c.code = cc) (hK : mK w s) (hF : FB w VC base σ op n H) (hS : va_S (fbA base) s.heap H locs) (hsz : s.heap.size + cells = base + n) (t tk ci : Nat) (q : Nat × Nat) (ht : t < n) (hV : VC t = q) (hu : ∀ k, k < n → VC k = q → k = t) {N : Nat} {r : vw_C} {f : Nat → Option Nat} (hop : op q = some (.inl (wcA w 6, N, .inr (.inr (.inr (.inr f)))))) (htk : tk < n) {vs : List Value} (hvk : fbE w σ op (VC tk) = .inr (ci, vs)) (hc : (wcl w)[ci]? = some r) (hr : r.1 = "TurnBench$Layer") {z : Int} {j : Nat} (hj : (Int32.ofInt z).toNatClampNeg = j) (hin : vp_in (Int32.ofInt z) N) (hdg : decode cc pc = .ok (.aastore, 1))
    (kk : ∀ (H1 : Heap) (locs1 : List Loc), FB w VC base σ (opS op q (some (.inl (wcA w 6, N, .inr (.inr (.inr (.inr (va_up f j (some (base + tk)))))))))) n H1 → va_S (fbA base) s.heap H1 locs1 → W p l e R s m args below meth c H1 locs1 cells slots Q (F0 m (pc + 1) ls rest)) : W p l e R s m args below meth c H locs cells slots Q (F0 m pc ls (.ref (base + tk) :: .int (Int32.ofInt z) :: .ref (base + t) :: rest)) := by
  subst hj
  have he : (fbL w VC base σ op n)[t]? = some (base + t, .inl (wcA w 6, N, .inr (.inr (.inr (.inr f))))) := by
    rw [fbL_get ht, hV]
    unfold fbE
    rw [hop]
  have he2 : (fbL w VC base σ op n)[tk]? = some (base + tk, .inr (ci, vs)) := by rw [fbL_get htk, hvk]
  refine va_astq hx hb hK.1 hF.2 fbL_D hS t 4 tk ci he (by rw [hr]; rfl) he2 hc hin hdg fun H1 locs1 h1 h2 h3 => ?_
  rw [fbL_set ht hV hu] at h1
  refine w_size fun hz => ?_
  exact kk H1 locs1 (fb_size h1 (by omega) (by omega)) h3
/-- getfield of an open object -/
theorem fb_get (hx : p.tables.exec = Jvm.exec) (hb : c.code = cc) {Ts : List Cond} (hts : ∀ x ∈ Ts, x.before args s = true) (hK : mK w s) (hF : FB w VC base σ op n H) {own C : String} {T : u_T} {N ci index : Nat} (hown : s.vm.findClass own = some m.cls) (t : Nat) (q : Nat × Nat) (ht : t < n) (hV : VC t = q) {fs : List Value} (hop : op q = some (.inr (ci, fs))) (hc : (wcl w)[ci]? = some (C, T, N)) (hin : ∀ x ∈ u_ws C T N, x ∈ Ts) (k : Nat) (hk : k < N) (hlink : Cond.fieldLink own index (T k).1 (T k).2.1 (T k).2.2.1 ∈ Ts) {v : Value} (hv : fs[k]? = some v) (hdg : decode cc pc = .ok (.getfield index, 3))
    (kk : W p l e R s m args below meth c H locs cells slots Q (F0 m (pc + 3) ls (v :: rest))) : W p l e R s m args below meth c H locs cells slots Q (F0 m pc ls (.ref (base + t) :: rest)) := by
  have he : (fbL w VC base σ op n)[t]? = some (base + t, .inr (ci, fs)) := by
    rw [fbL_get ht, hV]
    unfold fbE
    rw [hop]
  exact va_get hx hb hts hin hown hK.1 hF.2 t he hc k hk (hts _ hlink) (fun x h => h) hv hdg kk
end FBM
