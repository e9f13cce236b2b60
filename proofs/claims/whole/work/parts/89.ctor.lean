/-! constructors: what they stand on, their contracts, calls of them -/
def zv (k : Nat) : Int32 := Int32.ofInt (gmo k : Int)
/-- what the tables, and the static row, say -/
def bK (w : mWd) (base zq : Nat) (U : State) : Prop := mK w U ∧ (Cond.arrayOver (.array .int)).before #[] U = true ∧ va_AO "TurnBench$Layer" U ∧ va_Nw (.fieldLinkNest RX3 24 "TurnBench" "MOST_PRODUCTS" "[I" "TurnBench") U ∧ va_Z "TurnBench" "MOST_PRODUCTS" "[I" (.ref zq) (fbA base) U U.heap ∧ zq < base ∧ va_X zq 7 zv U U.heap
theorem bK_moved {w : mWd} {base zq : Nat} {s U : State} (hW : s.WarmedH U.vm) (hh : ∀ q, q < base → U.heap[q]? = s.heap[q]?) (h : bK w base zq s) : bK w base zq U := by
  obtain ⟨a, b, c, d, f, g, i⟩ := h
  exact ⟨mK_warm hW a, ao_mv hW.alike b, va_AO.moved hW.alike c, va_Nw.warmF hW d, (va_Z.moved hW.alike f).kept (fun x _ hx => hh x (Nat.lt_of_not_le hx)), g, (va_X.moved hW.alike i).kept (hh zq g)⟩
theorem bK_calling {w : mWd} {base zq : Nat} {U : State} (g : JFrame) (mk : MethodId) (a : Array Value) (h : bK w base zq U) : bK w base zq (U.calling g mk a) := by
  obtain ⟨a1, b, c, d, f, g1, i⟩ := h
  exact ⟨⟨va_K.moved (u := U) (U := U.calling g mk a) (Vm.Alike.refl U.vm) a1.1, fun q hq => va_Nw.same rfl rfl (a1.2 q hq)⟩, ao_mv (U := U.calling g mk a) (Vm.Alike.refl U.vm) b, va_AO.moved (u := U) (U := U.calling g mk a) (Vm.Alike.refl U.vm) c, va_Nw.same rfl rfl d, va_Z.moved (u := U) (U := U.calling g mk a) (Vm.Alike.refl U.vm) f, g1, va_X.moved (u := U) (U := U.calling g mk a) (Vm.Alike.refl U.vm) i⟩
def bRm (d mc ms : Nat) : Room := { frames := d, cells := mc, slots := ms, locals := 40 * d }
def iQ (w : mWd) (VC : Nat → Nat × Nat) (base : Nat) (σ : mS) (op : Nat × Nat → Option va_E) (n : Nat) : Array Value → State → Outcome → State → Prop := va_Qv (fun _ : Unit => True) (fun _ t => FB w VC base σ op n t.heap) (fbA base)
/-- a constructor's contract: from n cells to n' -/
def iMet (l : Launch) (w : mWd) (VC : Nat → Nat × Nat) (base zq : Nat) (y : MethodName) (cc : ByteArray) (maxL d mc ms : Nat) (σ : mS) (op : Nat × Nat → Option va_E) (n t : Nat) (av : List Value) (σ' : mS) (op' : Nat × Nat → Option va_E) (n' : Nat) : Prop :=
  Met l y (Cond.code y cc maxL none :: lw_kept) (bRm d mc ms) (va_Pc (.ref (base + t) :: av) (fun U => FB w VC base σ op n U.heap ∧ bK w base zq U)) (iQ w VC base σ' op' n') mc ms (fbA base)
theorem i_introG {l : Launch} {w : mWd} {VC : Nat → Nat × Nat} {base zq : Nat} {y : MethodName} {cc : ByteArray} {maxL d mc ms : Nat} {σ : mS} {op : Nat × Nat → Option va_E} {n t : Nat} {av : List Value} {Qc : Array Value → State → Outcome → State → Prop} (hy : plainName y.cls = true) (hname : y.name = "<init>") (hlen : (lg_sl (.ref (base + t) :: av)).length ≤ maxL)
    (body : ∀ (p : Program) (e : Env) (s : State) (m : MethodId) (args : Array Value) (below : List Frame) (meth : Method) (c : Code) (ls : Array Slot), p.tables.exec = Jvm.exec → c.code = cc → c.maxLocals = maxL → s.vm.findClass y.cls = some m.cls → (∀ x ∈ lw_kept, x.before args s = true) → meth.name = "<init>" → meth.sig.returnType = none → meth.locks = false → bK w base zq s → s.heap.size = base + n → FB w VC base σ op n s.heap → va_S (fbA base) s.heap s.heap [] → lv_has ls maxL (lv_args 0 (.ref (base + t) :: av)) →
      W p l e (bRm d mc ms) s m args below meth c s.heap [] 0 0 (MQ below Qc args s mc ms (fbA base)) (F0 m 0 ls [])) : Met l y (Cond.code y cc maxL none :: lw_kept) (bRm d mc ms) (va_Pc (.ref (base + t) :: av) (fun U => FB w VC base σ op n U.heap ∧ bK w base zq U)) Qc mc ms (fbA base) := by
  refine Met.ofW (cc := cc) (maxL := maxL) (ret := none) hy rfl ?_
  intro p e s m args below meth c s₁ B hml hv
  obtain ⟨rfl, hF, hBK⟩ := hv
  have hts := atoms_spec (ws := Cond.code y cc maxL none :: lw_kept) B.pre
  have hl := lv_entry (.ref (base + t) :: av) (n := maxL) hlen
  rw [lg_entry_eq]
  generalize (lg_sl (.ref (base + t) :: av) ++ List.replicate (maxL - (lg_sl (.ref (base + t) :: av)).length) Slot.unset).toArray = ls at hl ⊢
  exact body p e s m _ below meth c ls B.exec B.bytes hml (findClass_of_methodNamed B.named) (fun x hx => hts x (List.mem_cons_of_mem _ hx)) (by rw [(name_of_methodNamed B.named B.method).1]; exact hname) B.returns B.notSynchronized hBK hF.1 hF va_S.rf hl
theorem i_intro {l : Launch} {w : mWd} {VC : Nat → Nat × Nat} {base zq : Nat} {y : MethodName} {cc : ByteArray} {maxL d mc ms : Nat} {σ : mS} {op : Nat × Nat → Option va_E} {n t : Nat} {av : List Value} {σ' : mS} {op' : Nat × Nat → Option va_E} {n' : Nat} (hy : plainName y.cls = true) (hname : y.name = "<init>") (hlen : (lg_sl (.ref (base + t) :: av)).length ≤ maxL)
    (body : ∀ (p : Program) (e : Env) (s : State) (m : MethodId) (args : Array Value) (below : List Frame) (meth : Method) (c : Code) (ls : Array Slot), p.tables.exec = Jvm.exec → c.code = cc → c.maxLocals = maxL → s.vm.findClass y.cls = some m.cls → (∀ x ∈ lw_kept, x.before args s = true) → meth.name = "<init>" → meth.sig.returnType = none → meth.locks = false → bK w base zq s → s.heap.size = base + n → FB w VC base σ op n s.heap → va_S (fbA base) s.heap s.heap [] → lv_has ls maxL (lv_args 0 (.ref (base + t) :: av)) →
      W p l e (bRm d mc ms) s m args below meth c s.heap [] 0 0 (MQ below (iQ w VC base σ' op' n') args s mc ms (fbA base)) (F0 m 0 ls [])) : iMet l w VC base zq y cc maxL d mc ms σ op n t av σ' op' n' := i_introG hy hname hlen body
section CTR
variable {p : Program} {l : Launch} {e : Env} {R : Room} {s : State} {m : MethodId} {args : Array Value} {below : List Frame} {meth : Method} {c : Code} {H : Heap} {locs : List Loc} {cells slots : Nat} {Q : State → Prop}
variable {cc : ByteArray} {pc : Nat} {ls : Array Slot} {rest : List Value} {w : mWd} {VC : Nat → Nat × Nat} {base n : Nat} {σ : mS} {op : Nat × Nat → Option va_E}
theorem fb_ret {mc ms : Nat} {σ' : mS} {op' : Nat × Nat → Option va_E} (hx : p.tables.exec = Jvm.exec) (hb : c.code = cc) (hr : meth.sig.returnType = none) (hlocks : meth.locks = false) (hF : FB w VC base σ op n H) (hS : va_S (fbA base) s.heap H locs) (h : ∀ k, k < n → fbE w σ op (VC k) = fbE w σ' op' (VC k)) (hdg : decode cc pc = .ok (.return_, 1)) (h1 : cells = mc) (h2 : slots = ms) : W p l e R s m args below meth c H locs cells slots (MQ below (iQ w VC base σ' op' n) args s mc ms (fbA base)) (F0 m pc ls []) := by
  subst h1; subst h2
  exact W.vret hx hb hr (fun t ht hW => ⟨⟨(), rfl, trivial, by show FB _ _ _ _ _ _ t.heap; rw [ht]; exact FB_cg hF h⟩, hS.F ht⟩) hS.2.2 hdg hlocks
theorem fb_pre {zq t : Nat} {av : List Value} (hF : FB w VC base σ op n H) (hS : va_S (fbA base) s.heap H locs) (hbs : base ≤ s.heap.size) (hBK : bK w base zq s) : PreS s H (va_Pc (.ref (base + t) :: av) (fun U => FB w VC base σ op n U.heap ∧ bK w base zq U)) (.ref (base + t) :: av) :=
  ⟨fun a U g mk h => ⟨h.1, h.2.1, bK_calling g mk a h.2.2⟩, fun U hU hW => ⟨rfl, by rw [hU]; exact hF, bK_moved hW (fun q hq => by rw [hU]; exact hS.2.1 q (by omega) (fun z => absurd z (Nat.not_le_of_lt hq))) hBK⟩⟩
theorem fb_callN {zq nL index maxL d mc ms t n' na : Nat} {own host : String} {y : MethodName} {bytes : ByteArray} {av : List Value} {σ' : mS} {op' : Nat × Nat → Option va_E} (S : CallFix p m c cc nL s args lw_kept own) (hBK : bK w base zq s) (hM : iMet l w VC base zq y bytes maxL d mc ms σ op n t av σ' op' n') (hnest : (own, index, y, host) ∈ wN w) (hini : Cond.initialized y.cls ∈ lw_kept) (hcode : Cond.code y bytes maxL none ∈ lw_kept) (hinst : Cond.instanceMethod y ∈ lw_kept) (hname : y.name = "<init>") (hd : y.cls ≠ "java/lang/invoke/MethodHandle" ∧ y.cls ≠ "java/lang/invoke/VarHandle" ∧ (parseMethodDescriptor y.desc).map (fun d => d.parameters.length) = some na) (hna : av.length = na) (hR : d + 1 ≤ R.frames ∧ 8 + (maxL + 11) + 40 * d ≤ R.locals) (hF : FB w VC base σ op n H) (hS : va_S (fbA base) s.heap H locs) (hbs : base ≤ s.heap.size) (hsize : ls.size = nL) (hW : (rest.map fun v => v.category).sum ≤ 8) (hc : cells + mc ≤ R.cells ∧ slots + ms ≤ R.slots) (hdg : decode cc pc = .ok (.invokespecial index, 3))
    (kk : ∀ (H1 : Heap) (locs1 : List Loc), FB w VC base σ' op' n' H1 → va_S (fbA base) s.heap H1 locs1 → W p l e R s m args below meth c H1 locs1 (cells + mc) (slots + ms) Q (F0 m (pc + 3) ls rest)) : W p l e R s m args below meth c H locs cells slots Q (F0 m pc ls (av.reverse ++ .ref (base + t) :: rest)) := by
  refine va_callv (A1 := fbA base) (va_runIN S hM ⟨va_cnB (ws' := lw_kept) na S.2.2.2.2 (mGood_in lw_good hcode) rfl rfl rfl (hBK.1.2 _ hnest) (S.2.2.2.2 _ hini) hd hR, hname, S.2.2.2.2 _ hinst⟩ (fb_pre hF hS hbs hBK) rfl hna hsize rfl (by show 2 * 0 + _ ≤ 8; omega) hdg hc) hS (fun q _ h => h) (fun q h => h) ?_
  intro _ t1 H1 locs1 ht _ _ hB _ _ hS1
  exact kk H1 locs1 (by rw [← ht]; exact hB) hS1
theorem fb_callI {zq nL index maxL d mc ms t n' na : Nat} {own : String} {y : MethodName} {bytes : ByteArray} {av : List Value} {σ' : mS} {op' : Nat × Nat → Option va_E} (S : CallFix p m c cc nL s args lw_kept own) (hBK : bK w base zq s) (hM : iMet l w VC base zq y bytes maxL d mc ms σ op n t av σ' op' n') (hlink : Cond.methodLink own index y ∈ lw_kept) (hini : Cond.initialized y.cls ∈ lw_kept) (hcode : Cond.code y bytes maxL none ∈ lw_kept) (hinst : Cond.instanceMethod y ∈ lw_kept) (hname : y.name = "<init>") (hd : y.cls ≠ "java/lang/invoke/MethodHandle" ∧ y.cls ≠ "java/lang/invoke/VarHandle" ∧ (parseMethodDescriptor y.desc).map (fun d => d.parameters.length) = some na) (hna : av.length = na) (hR : d + 1 ≤ R.frames ∧ 8 + (maxL + 11) + 40 * d ≤ R.locals) (hF : FB w VC base σ op n H) (hS : va_S (fbA base) s.heap H locs) (hbs : base ≤ s.heap.size) (hsize : ls.size = nL) (hW : (rest.map fun v => v.category).sum ≤ 8) (hc : cells + mc ≤ R.cells ∧ slots + ms ≤ R.slots) (hdg : decode cc pc = .ok (.invokespecial index, 3))
    (kk : ∀ (H1 : Heap) (locs1 : List Loc), FB w VC base σ' op' n' H1 → va_S (fbA base) s.heap H1 locs1 → W p l e R s m args below meth c H1 locs1 (cells + mc) (slots + ms) Q (F0 m (pc + 3) ls rest)) : W p l e R s m args below meth c H locs cells slots Q (F0 m pc ls (av.reverse ++ .ref (base + t) :: rest)) := by
  refine va_callv (A1 := fbA base) (va_runI S hM (cwI (ws' := lw_kept) na S.2.2.2.2 (mGood_in lw_good hcode) rfl rfl rfl (S.2.2.2.2 _ hini) (S.2.2.2.2 _ hlink) (S.2.2.2.2 _ hinst) hname hd hR) (fb_pre hF hS hbs hBK) rfl hna hsize rfl (by show 2 * 0 + _ ≤ 8; omega) hdg hc) hS (fun q _ h => h) (fun q h => h) ?_
  intro _ t1 H1 locs1 ht _ _ hB _ _ hS1
  exact kk H1 locs1 (by rw [← ht]; exact hB) hS1
/-- Object's own constructor -/
theorem fb_obj {nL idx : Nat} {own : String} {a : Nat} (S : CallFix p m c cc nL s args lw_kept own) (hlink : Cond.methodLink own idx Lib.objectInit ∈ lw_kept) (hinst : Cond.instanceMethod Lib.objectInit ∈ lw_kept) (hcode : Cond.code Lib.objectInit ⟨#[0xb1]⟩ 1 none ∈ lw_kept) (hsize : ls.size = nL) (hR : 1 ≤ R.frames ∧ 12 ≤ R.locals) (hdg : decode cc pc = .ok (.invokespecial idx, 3)) (kk : W p l e R s m args below meth c H locs cells slots Q (F0 m (pc + 3) ls [])) : W p l e R s m args below meth c H locs cells slots Q (F0 m pc ls [.ref a]) := by
  obtain ⟨hx, hb, hml, hown, hts⟩ := S
  exact W.objInit hx hb hown (hts _ hlink) (hts _ hinst) (hts _ hcode) rfl (by rw [hml]; exact hsize) rfl hdg hR.1 (by show 2 * 0 + 0 + 12 ≤ R.locals; omega) kk
/-- a static method that reads and writes nothing -/
theorem fb_stat {nL index maxL d na : Nat} {own : String} {y : MethodName} {bytes : ByteArray} {av : List mv} {e0 : mEv} {σ0 : mS} {v : Int} (hV0 : e0.2.2.2.1 = []) (hA0 : ∀ q, ¬ e0.2.2.2.2 q) (S : CallFix p m c cc nL s args lw_kept own) (hK : mK (mw0 e0) s) (hM : mMet l (mw0 e0) lw_kept d y bytes maxL (some .int) av σ0 (some (.inl v)) σ0) (hok : ∀ x ∈ av, mOkV (mw0 e0) sc0 x) (hlink : Cond.methodLink own index y ∈ lw_kept) (hini : Cond.initialized y.cls ∈ lw_kept) (hcode : Cond.code y bytes maxL (some .int) ∈ lw_kept) (hst : Cond.static y ∈ lw_kept) (hd : y.cls ≠ "java/lang/invoke/MethodHandle" ∧ y.cls ≠ "java/lang/invoke/VarHandle" ∧ (parseMethodDescriptor y.desc).map (fun d => d.parameters.length) = some na) (hna : av.length = na) (hR : d + 1 ≤ R.frames ∧ 8 + (maxL + 11) + 40 * d ≤ R.locals) (hsz : s.heap.size + cells = H.size) (hS : va_S (fbA base) s.heap H locs) (hbs : base ≤ s.heap.size) (hsize : ls.size = nL) (hW : (rest.map fun v => v.category).sum ≤ 8) (hc : cells ≤ R.cells ∧ slots ≤ R.slots) (hdg : decode cc pc = .ok (.invokestatic index, 3))
    (kk : ∀ (H1 : Heap) (locs1 : List Loc), H1.size = H.size → (∀ q, q < H.size → H1[q]? = H[q]?) → va_S (fbA base) s.heap H1 locs1 → W p l e R s m args below meth c H1 locs1 cells slots Q (F0 m (pc + 3) ls (.int (Int32.ofInt v) :: rest))) : W p l e R s m args below meth c H locs cells slots Q (F0 m pc ls ((av.map (mV (wad (mw0 e0)))).reverse ++ rest)) := by
  have hrep0 : ∀ H : Heap, mRep (mw0 e0) σ0 H := fun H => by
    obtain ⟨D, ad, cA, V, A⟩ := e0
    have hV0 : V = [] := hV0
    subst hV0
    exact ⟨fun k x hx => by
      change ([] : List (Nat × va_E))[k]? = some x at hx
      simp at hx, fun q hq => absurd hq (List.not_mem_nil)⟩
  have hrun := va_runS (R := R) (e := e) (below := below) (meth := meth) (H := H) (locs := locs) (cells := cells) (slots := slots) (rest := rest) (g := F0 m pc ls ((av.map (mV (wad (mw0 e0)))).reverse ++ rest)) S (hM hok) ⟨callB_of (ws' := lw_kept) na S.2.2.2.2 (mGood_in lw_good hcode) rfl rfl rfl (S.2.2.2.2 _ hini) (S.2.2.2.2 _ hlink) hd hR, S.2.2.2.2 _ hst⟩ ⟨mPc_blind (mw0 e0) av σ0, fun U hU hWm => ⟨rfl, hrep0 _, mK_warm hWm hK⟩⟩ rfl (by rw [List.length_map]; exact hna) hsize rfl (by show 2 * 0 + _ ≤ 8; omega) hdg hc
  intro T hT X
  obtain ⟨v1, st₀, t, T', L, h0, X', hL, e1, e2, ⟨⟨hv, hp, hok2⟩, hz, hk⟩, stp⟩ := hrun T hT X
  cases hv
  rw [h0] at hz hk
  have hsz2 : T'.heap.size ≤ s.heap.size + (cells + 0) := X'.same.2.2.1
  have hkeep : ∀ q, q < H.size → T'.heap[q]? = H[q]? := fun q hq => by rw [e1]; exact hk q hq (hA0 q)
  obtain ⟨t2, a1, b1⟩ := kk T'.heap (locs ++ L) (by rw [e1] at hsz2 ⊢; omega) hkeep ⟨Nat.le_trans hS.1 (by rw [e1]; exact hz), fun q g1 g2 => by rw [hkeep q (Nat.lt_of_lt_of_le g1 hS.1)]; exact hS.2.1 q g1 g2, fun q hq => by
    rcases List.mem_append.mp hq with h | h
    · exact hS.2.2 q h
    · exact absurd (hL q h) (hA0 _)⟩ T' rfl X'
  exact ⟨t2, stp t2 a1, b1⟩
end CTR
section CTS
variable {p : Program} {l : Launch} {e : Env} {R : Room} {s : State} {m : MethodId} {args : Array Value} {below : List Frame} {meth : Method} {c : Code} {H : Heap} {locs : List Loc} {cells slots : Nat} {Q : State → Prop}
variable {cc : ByteArray} {pc : Nat} {ls : Array Slot} {rest : List Value} {w : mWd} {VC : Nat → Nat × Nat} {base n : Nat} {σ : mS} {op : Nat × Nat → Option va_E}
/-- iastore into an open row -/
theorem fb_iast (hx : p.tables.exec = Jvm.exec) (hb : c.code = cc) (hK : mK w s) (hF : FB w VC base σ op n H) (hS : va_S (fbA base) s.heap H locs) (hsz : s.heap.size + cells = base + n) (t : Nat) (q : Nat × Nat) (ht : t < n) (hV : VC t = q) (hu : ∀ k, k < n → VC k = q → k = t) {N : Nat} {f : Nat → Int32} (hop : op q = some (.inl (wcA w 1, N, .inl f))) {i x : Int32} {j : Nat} (hj : i.toNatClampNeg = j) (hin : vp_in i N) (hdg : decode cc pc = .ok (.iastore, 1))
    (kk : ∀ (H1 : Heap) (locs1 : List Loc), FB w VC base σ (opS op q (some (.inl (wcA w 1, N, .inl (upd f j x))))) n H1 → va_S (fbA base) s.heap H1 locs1 → W p l e R s m args below meth c H1 locs1 cells slots Q (F0 m (pc + 1) ls rest)) : W p l e R s m args below meth c H locs cells slots Q (F0 m pc ls (.int x :: .int i :: .ref (base + t) :: rest)) := by
  subst hj
  have he : (fbL w VC base σ op n)[t]? = some (base + t, .inl (wcA w 1, N, .inl f)) := by
    rw [fbL_get ht, hV]
    unfold fbE
    rw [hop]
  refine va_iast hx hb hK.1 hF.2 fbL_D hS t 0 he rfl hin hdg fun H1 locs1 h1 h2 h3 => ?_
  rw [fbL_set ht hV hu] at h1
  refine w_size fun hz => ?_
  exact kk H1 locs1 (fb_size h1 (by omega) (by omega)) h3
/-- aaload of a row of rows -/
theorem fb_aald (hx : p.tables.exec = Jvm.exec) (hb : c.code = cc) (hK : mK w s) (hF : FB w VC base σ op n H) (t : Nat) (ht : t < n) {N : Nat} {f : Nat → Option Nat} (he0 : fbE w σ op (VC t) = .inl (wcA w 5, N, .inr (.inr (.inr (.inr f))))) {i : Int32} {a : Nat} (hin : vp_in i N) (hf : f i.toNatClampNeg = some a) (hdg : decode cc pc = .ok (.aaload, 1))
    (kk : W p l e R s m args below meth c H locs cells slots Q (F0 m (pc + 1) ls (.ref a :: rest))) : W p l e R s m args below meth c H locs cells slots Q (F0 m pc ls (.int i :: .ref (base + t) :: rest)) := by
  have he : va_at (wD w) (wcl w) (base + t, .inl (wcA w 5, N, .inr (.inr (.inr (.inr f))))) H := by
    have := hF.2 t _ (fbL_get ht)
    rw [he0] at this
    exact this
  have hlt : i.toNatClampNeg < N := Nat.not_le.mp fun q => hin (Or.inr q)
  have hcell : H[base + t]? = some (arrV (wcA w 5) N (fun j => va_rf (f j))) := he
  exact W.aald (v := .ref a) (ty := .array .int) hx hb hcell ((hK.1.2 3 _ rfl).1 N (fun j => va_rf (f j))) rfl (fun q => by cases q) (by show ¬ (i < 0 ∨ (arrV _ _ _).slots.size ≤ _); rw [arrV_size]; exact hin) (by show (arrV _ _ _).slots[_]? = _; rw [arrV_read _ _ hlt, hf]; rfl) rfl rfl hdg kk
end CTS
