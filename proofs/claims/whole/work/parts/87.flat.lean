/-! cells as they are made, one behind the other: the first n of the list VC lie at base, base + 1, ..; those in op stand as op says, the others as pictured -/
def fbE (w : mWd) (σ : mS) (op : Nat × Nat → Option va_E) (q : Nat × Nat) : va_E := match op q with
  | some x => x
  | none => mEn w σ q
def fbL (w : mWd) (VC : Nat → Nat × Nat) (base : Nat) (σ : mS) (op : Nat × Nat → Option va_E) (n : Nat) : va_W := (List.range n).map fun k => (base + k, fbE w σ op (VC k))
def fbA (base : Nat) : Nat → Prop := fun q => base ≤ q
def FB (w : mWd) (VC : Nat → Nat × Nat) (base : Nat) (σ : mS) (op : Nat × Nat → Option va_E) (n : Nat) (H : Heap) : Prop := H.size = base + n ∧ va_P (wD w) (wcl w) (fbL w VC base σ op n) H
def opS (op : Nat × Nat → Option va_E) (q : Nat × Nat) (x : Option va_E) : Nat × Nat → Option va_E := fun q' => if q' = q then x else op q'
theorem opS_s (op : Nat × Nat → Option va_E) (q : Nat × Nat) (x : Option va_E) : opS op q x q = x := if_pos rfl
theorem opS_n {op : Nat × Nat → Option va_E} {q q' : Nat × Nat} {x : Option va_E} (h : q' ≠ q) : opS op q x q' = op q' := if_neg h
theorem opS_opS (op : Nat × Nat → Option va_E) (q : Nat × Nat) (x y : Option va_E) : opS (opS op q x) q y = opS op q y := by
  funext q'
  unfold opS
  split <;> rfl
theorem fbL_get {w : mWd} {VC : Nat → Nat × Nat} {base : Nat} {σ : mS} {op : Nat × Nat → Option va_E} {n k : Nat} (h : k < n) : (fbL w VC base σ op n)[k]? = some (base + k, fbE w σ op (VC k)) := by
  unfold fbL
  rw [List.getElem?_map, List.getElem?_range h]
  rfl
theorem fbL_of {w : mWd} {VC : Nat → Nat × Nat} {base : Nat} {σ : mS} {op : Nat × Nat → Option va_E} {n k : Nat} {x : Nat × va_E} (h : (fbL w VC base σ op n)[k]? = some x) : k < n ∧ x = (base + k, fbE w σ op (VC k)) := by
  have hl : k < n := by
    have := (List.getElem?_eq_some_iff.mp h).1
    unfold fbL at this
    simpa using this
  rw [fbL_get hl] at h
  exact ⟨hl, (Option.some.inj h).symm⟩
theorem fbL_D {w : mWd} {VC : Nat → Nat × Nat} {base : Nat} {σ : mS} {op : Nat × Nat → Option va_E} {n : Nat} : va_D (fbA base) (fbL w VC base σ op n) := by
  refine ⟨fun i j x y hi hj hxy => ?_, fun k x hk => ?_⟩
  · obtain ⟨-, rfl⟩ := fbL_of hi
    obtain ⟨-, rfl⟩ := fbL_of hj
    have hxy : base + i = base + j := hxy
    omega
  · obtain ⟨-, rfl⟩ := fbL_of hk
    show base ≤ base + k
    omega
theorem fbL_s (w : mWd) (VC : Nat → Nat × Nat) (base : Nat) (σ : mS) (op : Nat × Nat → Option va_E) (n : Nat) : fbL w VC base σ op (n + 1) = fbL w VC base σ op n ++ [(base + n, fbE w σ op (VC n))] := by
  unfold fbL
  rw [List.range_succ, List.map_append]
  rfl
theorem fbL_set {w : mWd} {VC : Nat → Nat × Nat} {base : Nat} {σ : mS} {op : Nat × Nat → Option va_E} {n t : Nat} {q : Nat × Nat} {x : va_E} (ht : t < n) (hV : VC t = q) (hu : ∀ k, k < n → VC k = q → k = t) : (fbL w VC base σ op n).set t (base + t, x) = fbL w VC base σ (opS op q (some x)) n := by
  apply List.ext_getElem?
  intro k
  by_cases hk : k < n
  · rw [fbL_get hk]
    by_cases ek : k = t
    · subst ek
      rw [List.getElem?_set_self (by unfold fbL; simpa using hk), hV]
      unfold fbE
      rw [opS_s]
    · rw [List.getElem?_set_ne (fun z => ek z.symm), fbL_get hk]
      unfold fbE
      rw [opS_n (fun z => ek (hu k hk z))]
  · rw [List.getElem?_eq_none (by rw [List.length_set]; unfold fbL; simpa using hk), List.getElem?_eq_none (by unfold fbL; simpa using hk)]
/-- what is not yet made is free to say -/
theorem fbL_cg {w : mWd} {VC : Nat → Nat × Nat} {base : Nat} {σ σ' : mS} {op op' : Nat × Nat → Option va_E} {n : Nat} (h : ∀ k, k < n → fbE w σ op (VC k) = fbE w σ' op' (VC k)) : fbL w VC base σ op n = fbL w VC base σ' op' n := by
  unfold fbL
  apply List.map_congr_left
  intro k hk
  rw [h k (List.mem_range.mp hk)]
theorem FB_cg {w : mWd} {VC : Nat → Nat × Nat} {base : Nat} {σ σ' : mS} {op op' : Nat × Nat → Option va_E} {n : Nat} {H : Heap} (hF : FB w VC base σ op n H) (h : ∀ k, k < n → fbE w σ op (VC k) = fbE w σ' op' (VC k)) : FB w VC base σ' op' n H := ⟨hF.1, by rw [← fbL_cg h]; exact hF.2⟩
section FBS
variable {p : Program} {l : Launch} {e : Env} {R : Room} {s : State} {m : MethodId} {args : Array Value} {below : List Frame} {meth : Method} {c : Code} {H : Heap} {locs : List Loc} {cells slots : Nat} {Q : State → Prop}
variable {cc : ByteArray} {pc : Nat} {ls : Array Slot} {rest : List Value} {w : mWd} {VC : Nat → Nat × Nat} {base n : Nat} {σ : mS} {op : Nat × Nat → Option va_E}
theorem w_size {g : JFrame} (kk : H.size ≤ s.heap.size + cells → W p l e R s m args below meth c H locs cells slots Q g) : W p l e R s m args below meth c H locs cells slots Q g := by
  intro T hT X
  have h := X.same.2.2.1
  exact kk (by rw [← hT]; exact h) T hT X
theorem fb_size {H1 : Heap} (h1 : va_P (wD w) (wcl w) (fbL w VC base σ op n) H1) (hn : 0 < n) (h2 : H1.size ≤ base + n) : FB w VC base σ op n H1 := by
  have := (h1 (n - 1) _ (fbL_get (by omega))).lt
  have h3 : base + (n - 1) < H1.size := this
  exact ⟨by omega, h1⟩
theorem fb_put (hx : p.tables.exec = Jvm.exec) (hb : c.code = cc) {Ts : List Cond} (hts : ∀ x ∈ Ts, x.before args s = true) (hK : mK w s) (hin2 : meth.name = "<init>") (hF : FB w VC base σ op n H) (hS : va_S (fbA base) s.heap H locs) (hsz : s.heap.size + cells = base + n) {own C : String} {T : u_T} {N ci index : Nat} (hown : s.vm.findClass own = some m.cls)
    (t : Nat) (q : Nat × Nat) (ht : t < n) (hV : VC t = q) (hu : ∀ k, k < n → VC k = q → k = t) {fs : List Value} (hop : op q = some (.inr (ci, fs))) (hc : (wcl w)[ci]? = some (C, T, N)) (hin : ∀ x ∈ u_ws C T N, x ∈ Ts) (ty0 : Nat → FieldType) (hty : ∀ k, k < N → parseFieldDescriptor (T k).2.2.1 = some (ty0 k)) (hnm : ∀ a, a < N → ∀ b, b < N → a ≠ b → (T a).2.1 ≠ (T b).2.1) (k : Nat) (hk : k < N) (hlink : Cond.fieldLink own index (T k).1 (T k).2.1 (T k).2.2.1 ∈ Ts) (hfin : (T k).2.2.2 = true) (hdecl : (T k).1 = own) {v : Value} (hn : narrow (ty0 k) v = v) (hfit : fits (ty0 k) v = true) (hl : k < fs.length)
    (hdg : decode cc pc = .ok (.putfield index, 3)) (kk : ∀ (H1 : Heap) (locs1 : List Loc), FB w VC base σ (opS op q (some (.inr (ci, fs.set k v)))) n H1 → va_S (fbA base) s.heap H1 locs1 → W p l e R s m args below meth c H1 locs1 cells slots Q (F0 m (pc + 3) ls rest)) : W p l e R s m args below meth c H locs cells slots Q (F0 m pc ls (v :: .ref (base + t) :: rest)) := by
  have he : (fbL w VC base σ op n)[t]? = some (base + t, .inr (ci, fs)) := by
    rw [fbL_get ht, hV]
    unfold fbE
    rw [hop]
  refine va_putF hx hb hts hin ty0 hty hnm hown hK.1 hF.2 fbL_D hS t he hc k hk (hts _ hlink) (fun x h => h) hfin hin2 hdecl (hty k hk) hn hfit hl hdg fun H1 locs1 h1 h2 h3 => ?_
  rw [fbL_set ht hV hu] at h1
  refine w_size fun hz => ?_
  exact kk H1 locs1 (fb_size h1 (by omega) (by omega)) h3
theorem fb_q {H1 : Heap} {q : Nat} {x : va_E} (hF : FB w VC base σ op n H) (h1 : va_P (wD w) (wcl w) (fbL w VC base σ op n ++ [(q, x)]) H1) (h2 : va_D (fbA base) (fbL w VC base σ op n ++ [(q, x)])) (hz : H1.size ≤ base + (n + 1)) : q = base + n := by
  have hlen : (fbL w VC base σ op n).length = n := by unfold fbL; simp
  have g1 : (fbL w VC base σ op n ++ [(q, x)])[n]? = some (q, x) := by
    rw [List.getElem?_append_right (by omega), hlen, Nat.sub_self]
    rfl
  have h3 : base ≤ q := h2.2 n _ g1
  have h4 : q < H1.size := (h1 n _ g1).lt
  by_cases hlt : q < base + n
  · have g2 : (fbL w VC base σ op n ++ [(q, x)])[q - base]? = some (base + (q - base), fbE w σ op (VC (q - base))) := by
      rw [List.getElem?_append_left (by omega), fbL_get (by omega)]
    have := h2.1 (q - base) n _ _ g2 g1 (by show base + (q - base) = q; omega)
    omega
  · omega
theorem fb_1 {H1 : Heap} {q : Nat} {x : va_E} {q0 : Nat × Nat} (hF : FB w VC base σ op n H) (h1 : va_P (wD w) (wcl w) (fbL w VC base σ op n ++ [(q, x)]) H1) (h2 : va_D (fbA base) (fbL w VC base σ op n ++ [(q, x)])) (hz : H1.size ≤ base + (n + 1)) (hV : VC n = q0) (hx : fbE w σ op q0 = x) : q = base + n ∧ FB w VC base σ op (n + 1) H1 := by
  have e := fb_q hF h1 h2 hz
  subst e
  refine ⟨rfl, fb_size ?_ (by omega) hz⟩
  rw [fbL_s, hV, hx]
  exact h1
/-- new: the object is open, its fields as they are born -/
theorem fb_new (hx : p.tables.exec = Jvm.exec) (hb : c.code = cc) {Ts : List Cond} (hts : ∀ x ∈ Ts, x.before args s = true) (hK : mK w s) (hF : FB w VC base σ op n H) (hS : va_S (fbA base) s.heap H locs) (hbs : base ≤ s.heap.size) (hsz : s.heap.size + cells = base + n) {own C : String} {T : u_T} {N ci index : Nat} (hown : s.vm.findClass own = some m.cls) (hc : (wcl w)[ci]? = some (C, T, N)) (hin : ∀ x ∈ u_ws C T N, x ∈ Ts) (ty0 : Nat → FieldType) (hty : ∀ k, k < N → parseFieldDescriptor (T k).2.2.1 = some (ty0 k)) (hcl : Cond.classLink own index C ∈ Ts) (hinst : Cond.instantiable C N ∈ Ts) (hini : Cond.initialized C ∈ Ts) {q0 : Nat × Nat} (hV : VC n = q0) (hu : ∀ k, k < n → VC k ≠ q0) {fs : List Value} (hfs : ∀ j, j < N → defaultValue (ty0 j) = vp_V fs j) (hcells : cells + 1 ≤ R.cells) (hslots : slots + N ≤ R.slots) (hdg : decode cc pc = .ok (.new index, 3))
    (kk : ∀ (H1 : Heap), FB w VC base σ (opS op q0 (some (.inr (ci, fs)))) (n + 1) H1 → va_S (fbA base) s.heap H1 locs → W p l e R s m args below meth c H1 locs (cells + 1) (slots + N) Q (F0 m (pc + 3) ls (.ref (base + n) :: rest))) : W p l e R s m args below meth c H locs cells slots Q (F0 m pc ls rest) := by
  have hF2 : FB w VC base σ (opS op q0 (some (.inr (ci, fs)))) n H := FB_cg hF (fun k hk => by unfold fbE; rw [opS_n (hu k hk)])
  refine va_new hx hb hts hin ty0 hty hown (hts _ hcl) (hts _ hinst) (hts _ hini) hK.1 hF2.2 fbL_D hS (fun q h => Nat.le_trans hbs h) hc hfs hcells hslots hdg fun q H1 h1 h2 h3 => ?_
  refine w_size fun hz => ?_
  obtain ⟨rfl, h4⟩ := fb_1 hF2 h1 h2 (by omega) hV (by unfold fbE; rw [opS_s])
  exact kk H1 h4 h3
/-- newarray: pictured at once -/
theorem fb_newa (hx : p.tables.exec = Jvm.exec) (hb : c.code = cc) {Ts : List Cond} (hts : ∀ x ∈ Ts, x.before args s = true) (hK : mK w s) (hF : FB w VC base σ op n H) (hS : va_S (fbA base) s.heap H locs) (hbs : base ≤ s.heap.size) (hsz : s.heap.size + cells = base + n) {atype : ArrayType} {ty : FieldType} (hty : newarray.typeOf atype = ty) (harr : Cond.arrayClass ty ∈ Ts) {kd : Nat} (hcA : s.vm.findClass ("[" ++ ty.toString) = some (wcA w kd)) {q0 : Nat × Nat} (hV : VC n = q0) (hop : op q0 = none) {a0 : vp_A} (hm : mEn w σ q0 = .inl (wcA w kd, a0)) {z : Int} {N : Nat} (ha : ∀ cA : ClassId, vp_cell cA a0 = arrV cA N (fun _ => defaultValue ty)) (hn : ¬ Int32.ofInt z < 0) (hN : (Int32.ofInt z).toNatClampNeg = N) (hbytes : N * componentBytes ty ≤ 536870912) (hcells : cells + 1 ≤ R.cells) (hslots : slots + N ≤ R.slots) (hdg : decode cc pc = .ok (.newarray atype, 2)) (hra : ∀ cA, va_RA s cA ty → s.vm.findClass ("[" ++ ty.toString) = some cA)
    (kk : ∀ (H1 : Heap), FB w VC base σ op (n + 1) H1 → va_S (fbA base) s.heap H1 locs → W p l e R s m args below meth c H1 locs (cells + 1) (slots + N) Q (F0 m (pc + 2) ls (.ref (base + n) :: rest))) : W p l e R s m args below meth c H locs cells slots Q (F0 m pc ls (.int (Int32.ofInt z) :: rest)) := by
  subst hty
  refine va_newa hx hb (hts _ harr) rfl hK.1 hF.2 fbL_D hS (fun q h => Nat.le_trans hbs h) ha hn hN hbytes hcells hslots hdg fun q cA H1 k1 h1 h2 h3 => ?_
  have e1 : cA = wcA w kd := by
    have h5 := (k1.2 (mtys (wcA w)).length (cA, newarray.typeOf atype) (by rw [List.getElem?_append_right (Nat.le_refl _), Nat.sub_self]; rfl)).2
    exact Option.some.inj ((hra cA h5).symm.trans hcA)
  subst e1
  refine w_size fun hz => ?_
  obtain ⟨rfl, h4⟩ := fb_1 hF h1 h2 (by omega) hV (by unfold fbE; rw [hop]; exact hm)
  exact kk H1 h4 h3
end FBS
