/-! the law's entry: what the tables give, the two objects, the loop -/
theorem tbl_t {w : Cond} (i : Nat) (h : tables_1[i]? = some w) : w ∈ lw_tbl := List.mem_append_right _ (List.mem_of_getElem? h)
def kOK (D : va_G) (cA : Nat → ClassId) (s : State) : Prop := va_K D vwCl (mtys cA) s ∧ ∀ q ∈ lw_nest, va_Nw (.methodLinkNest q.1 q.2.1 q.2.2.1 q.2.2.2) s
theorem mK_of {D : va_G} {ad : Nat → Nat → Nat} {cA : Nat → ClassId} {V : List (Nat × Nat)} {A : Nat → Prop} {s : State} (h : kOK D cA s) : mK (mw0 (D, ad, cA, V, A)) s := h
theorem k_ex {s : State} {args : Array Value} (hts : ∀ w ∈ lw_tbl, w.before args s = true) : ∃ (D : va_G) (cA : Nat → ClassId), kOK D cA s := by
  have hk : ∀ w ∈ lw_kept, w.before args s = true := fun w hw => hts w (lw_kept_in w hw)
  obtain ⟨c0, i0, k0⟩ := u_known hk inX0 (hts (.instantiable RX0 6) (tbl_t 220 (by decide +kernel)))
  obtain ⟨c1, i1, k1⟩ := u_known hk inX1 (hts (.instantiable RX1 18) (tbl_t 46 (by decide +kernel)))
  obtain ⟨c2, i2, k2⟩ := u_known hk inX2 (hts (.instantiable RX2 5) (tbl_t 335 (by decide +kernel)))
  obtain ⟨c3, i3, k3⟩ := u_known hk inX3 (hts (.instantiable RX3 14) (tbl_t 227 (by decide +kernel)))
  obtain ⟨c4, i4, k4⟩ := u_known hk inX4 (hts (.instantiable RX4 1) (tbl_t 169 (by decide +kernel)))
  obtain ⟨c5, i5, k5⟩ := u_known hk inX5 (hts (.instantiable RX5 5) (tbl_t 311 (by decide +kernel)))
  obtain ⟨c6, i6, k6⟩ := u_known hk inX6 (hts (.instantiable RX6 4) (tbl_t 179 (by decide +kernel)))
  obtain ⟨c7, i7, k7⟩ := u_known hk inX7 (hts (.instantiable RX7 3) (tbl_t 186 (by decide +kernel)))
  obtain ⟨c8, i8, k8⟩ := u_known hk inX8 (hts (.instantiable RX8 3) (tbl_t 53 (by decide +kernel)))
  obtain ⟨c9, i9, k9⟩ := u_known hk inX9 (hts (.instantiable RX9 2) (tbl_t 153 (by decide +kernel)))
  obtain ⟨c10, i10, k10⟩ := u_known hk inX10 (hts (.instantiable RX10 2) (tbl_t 27 (by decide +kernel)))
  obtain ⟨c11, i11, k11⟩ := u_known hk inX11 (hts (.instantiable RX11 8) (tbl_t 19 (by decide +kernel)))
  obtain ⟨c12, i12, k12⟩ := u_known hk inX12 (hts (.instantiable RX12 42) (tbl_t 844 (by decide +kernel)))
  obtain ⟨a1, ka1, m1, f1, g1, h1⟩ := Cond.arrayClass_spec (hts (.arrayClass .int) (tbl_t 43 (by decide +kernel)))
  obtain ⟨a2, ka2, m2, f2, g2, h2⟩ := Cond.arrayClass_spec (hts (.arrayClass .long) (tbl_t 1072 (by decide +kernel)))
  obtain ⟨a3, ka3, m3, f3, g3, h3⟩ := Cond.arrayClass_spec (hts (.arrayClass .boolean) (tbl_t 44 (by decide +kernel)))
  obtain ⟨m5, a5, ka5, e5, g5, h5, f5⟩ := ao_sp (hts (.arrayOver (.array .int)) (tbl_t 33 (by decide +kernel)))
  obtain ⟨m6, a6, ka6, e6, -, g6, h6, f6⟩ := Cond.arrayOver_spec (hts (.arrayOver (.object "TurnBench$Layer")) (tbl_t 226 (by decide +kernel)))
  refine ⟨(fun c => [c0, c1, c2, c3, c4, c5, c6, c7, c8, c9, c10, c11, c12].getD c c0, fun c => [i0, i1, i2, i3, i4, i5, i6, i7, i8, i9, i10, i11, i12].getD c i0), fun k => [a1, a1, a2, a3, a1, a5, a6].getD k a1, ⟨fun c q hq => ?_, fun k q hq => ?_⟩, fun q hq => va_Nw.of rfl (hts _ (lw_nest_in q hq))⟩
  · have hc : c < 13 := (List.getElem?_eq_some_iff.mp hq).1
    match c, hc, hq with
    | 0, _, hq => cases hq; exact k0
    | 1, _, hq => cases hq; exact k1
    | 2, _, hq => cases hq; exact k2
    | 3, _, hq => cases hq; exact k3
    | 4, _, hq => cases hq; exact k4
    | 5, _, hq => cases hq; exact k5
    | 6, _, hq => cases hq; exact k6
    | 7, _, hq => cases hq; exact k7
    | 8, _, hq => cases hq; exact k8
    | 9, _, hq => cases hq; exact k9
    | 10, _, hq => cases hq; exact k10
    | 11, _, hq => cases hq; exact k11
    | 12, _, hq => cases hq; exact k12
  · have hc : k < 5 := (List.getElem?_eq_some_iff.mp hq).1
    match k, hc, hq with
    | 0, _, hq => cases hq; exact ⟨fun n z => ⟨fun k h => (by cases h), ka1, g1, m1, h1⟩, f1⟩
    | 1, _, hq => cases hq; exact ⟨fun n z => ⟨fun k h => (by cases h), ka2, g2, m2, h2⟩, f2⟩
    | 2, _, hq => cases hq; exact ⟨fun n z => ⟨fun k h => (by cases h), ka3, g3, m3, h3⟩, f3⟩
    | 3, _, hq => cases hq; exact ⟨fun n z => ⟨fun k h => (by cases h), ka5, g5, m5, h5⟩, f5⟩
    | 4, _, hq => cases hq; exact ⟨fun n z => ⟨fun k h => (by cases h), ka6, g6, m6, h6⟩, ka6, m6, g6, h6, e6, f6⟩
theorem len_lt {args : Array Value} {s : State} {t : Term} {a : Addr} {cell : Cell} {v : Value} (ht : t.eval args s none [] s = some (.ref a)) (hc : s.arrayAt? a = some cell) (h : (Term.length t).eval args s none [] s = some v) : cell.slots.size < 2 ^ 31 := by
  simp only [Term.eval, ht, hc, Option.bind_eq_bind, Option.bind_some] at h
  by_cases hn : cell.slots.size < 2 ^ 31
  · exact hn
  · simp [hn] at h
theorem z_ex {s : State} {b : Nat} (h : (Jvm.Cond.and given_1 narrow_1).before #[Value.ref b] s = true) : ∃ zq : Nat, (Term.static "TurnBench" "MOST_PRODUCTS" "[I").eval #[Value.ref b] s none [] s = some (.ref zq) ∧ zq < s.heap.size ∧ va_X zq 7 zv s s.heap := by
  have hs := flat_of_before _ h
  have harr : (Cond.arrayOf (.static "TurnBench" "MOST_PRODUCTS" "[I") .int).before #[Value.ref b] s = true := hs _ (by decide +kernel)
  have hlen := va_eqt (hs (Cond.eq (.length (.static "TurnBench" "MOST_PRODUCTS" "[I")) (.int 7)) (by decide +kernel))
  have hel : ∀ j : Nat, j < 7 → (Term.elem (.static "TurnBench" "MOST_PRODUCTS" "[I") (.int (Int32.ofNat j))).eval #[Value.ref b] s none [] s = some (.int (zv j)) := by
    intro j hj
    match j, hj with
    | 0, _ => rw [show zv 0 = 1 by decide]; exact va_eqt (hs (Cond.eq (.elem (.static "TurnBench" "MOST_PRODUCTS" "[I") (.int 0)) (.int 1)) (by decide +kernel))
    | 1, _ => rw [show zv 1 = 3 by decide]; exact va_eqt (hs (Cond.eq (.elem (.static "TurnBench" "MOST_PRODUCTS" "[I") (.int 1)) (.int 3)) (by decide +kernel))
    | 2, _ => rw [show zv 2 = 6 by decide]; exact va_eqt (hs (Cond.eq (.elem (.static "TurnBench" "MOST_PRODUCTS" "[I") (.int 2)) (.int 6)) (by decide +kernel))
    | 3, _ => rw [show zv 3 = 10 by decide]; exact va_eqt (hs (Cond.eq (.elem (.static "TurnBench" "MOST_PRODUCTS" "[I") (.int 3)) (.int 10)) (by decide +kernel))
    | 4, _ => rw [show zv 4 = 21 by decide]; exact va_eqt (hs (Cond.eq (.elem (.static "TurnBench" "MOST_PRODUCTS" "[I") (.int 4)) (.int 21)) (by decide +kernel))
    | 5, _ => rw [show zv 5 = 21 by decide]; exact va_eqt (hs (Cond.eq (.elem (.static "TurnBench" "MOST_PRODUCTS" "[I") (.int 5)) (.int 21)) (by decide +kernel))
    | 6, _ => rw [show zv 6 = 56 by decide]; exact va_eqt (hs (Cond.eq (.elem (.static "TurnBench" "MOST_PRODUCTS" "[I") (.int 6)) (.int 56)) (by decide +kernel))
  obtain ⟨t, ht, cell, h1, h2, h3, h4, h5, h6, -⟩ := va_Tof (A := fun _ => False) (f := fun j => .int (zv j)) (N := 7) (by decide) harr hlen hel (fun _ _ h => h)
  obtain ⟨a, cell2, ha, hat, -⟩ := Term.length_spec hlen
  cases ht.symm.trans ha
  have hlt := len_lt ha hat hlen
  cases h1.symm.trans (State.arrayAt?_spec hat).1
  have hz : cell.slots.size = 7 := by
    have e := congrArg Int32.toNatClampNeg h5
    have e1 : (Int32.ofNat cell.slots.size).toNatClampNeg = cell.slots.size := Int32.toNatClampNeg_ofNat_of_lt hlt
    have e2 : (Int32.ofNat 7).toNatClampNeg = 7 := Int32.toNatClampNeg_ofNat_of_lt (by decide)
    exact e1.symm.trans (e.trans e2)
  exact ⟨t, ht, (Array.getElem?_eq_some_iff.mp h1).1, cell, h1, h2, h3, hz, h6⟩
theorem mRep_kept {w : mWd} {σ : mS} {H H1 : Heap} (h : mRep w σ H) (hq : ∀ q, q < H.size → H1[q]? = H[q]?) : mRep w σ H1 := ⟨h.1.kept (fun k x hk => hq _ (h.1 k x hk).lt), h.2⟩
theorem C_lt {D : va_G} {cA : Nat → ClassId} {base : Nat} {σ : mS} {H : Heap} (h : mRep (wC D cA base) σ H) : base + 833 < H.size := by
  have p1 := un_w (D := D) (ad := fun r i => base + offC r i) (cA := cA) (V := VCl) (A := fbA base) h
  have e : VCl[833]? = some (70, 0) := by
    unfold VCl
    rw [List.getElem?_map, List.getElem?_range (show 833 < nC by decide)]
    rfl
  have := (p1 833 _ (by rw [List.getElem?_map, e]; rfl)).lt
  exact this
theorem bK_2 {D : va_G} {cA : Nat → ClassId} {base base2 zq : Nat} {s U : State} (hK : kOK D cA U) (hW : s.WarmedH U.vm) (hh : ∀ q, q < base → U.heap[q]? = s.heap[q]?) (hle : base ≤ base2) (h : bK (wC D cA base) base zq s) : bK (wM D cA base2) base2 zq U := by
  obtain ⟨-, b, c, d, f, g, i⟩ := bK_moved hW hh h
  exact ⟨mK_of (D := D) (ad := fun r i => base2 + offM r i) (cA := cA) (V := VMl) (A := fbA base2) hK, b, c, d, f.narrow (fun q hq => Nat.le_trans hle hq), Nat.lt_of_lt_of_le g hle, i⟩
theorem kOK_warm {D : va_G} {cA : Nat → ClassId} {s U : State} (hW : s.WarmedH U.vm) (h : kOK D cA s) : kOK D cA U := ⟨va_K.moved hW.alike h.1, fun q hq => va_Nw.warmM hW (h.2 q hq)⟩
section ENT
variable {p : Program} {l : Launch} {e : Env} {R : Room} {s : State} {m : MethodId} {args : Array Value} {below : List Frame} {meth : Method} {c : Code} {H : Heap} {locs : List Loc} {cells slots : Nat} {Q : State → Prop}
variable {cc : ByteArray} {pc : Nat} {ls : Array Slot} {rest : List Value} {w : mWd} {VC : Nat → Nat × Nat} {base : Nat} {σ : mS}
theorem fb_new0 (hx : p.tables.exec = Jvm.exec) (hb : c.code = cc) {Ts : List Cond} (hts : ∀ x ∈ Ts, x.before args s = true) (hK : mK w s) {own C : String} {T : u_T} {N ci index : Nat} (hown : s.vm.findClass own = some m.cls) (hc : (wcl w)[ci]? = some (C, T, N)) (hin : ∀ x ∈ u_ws C T N, x ∈ Ts) (ty0 : Nat → FieldType) (hty : ∀ k, k < N → parseFieldDescriptor (T k).2.2.1 = some (ty0 k)) (hcl : Cond.classLink own index C ∈ Ts) (hinst : Cond.instantiable C N ∈ Ts) (hini : Cond.initialized C ∈ Ts) {q0 : Nat × Nat} (hV : VC 0 = q0) {fs : List Value} (hfs : ∀ j, j < N → defaultValue (ty0 j) = vp_V fs j) (hcells : cells + 1 ≤ R.cells) (hslots : slots + N ≤ R.slots) (hdg : decode cc pc = .ok (.new index, 3)) (hsz : H.size = base)
    (kk : ∀ (H1 : Heap), FB w VC base σ (opS (fun _ => none) q0 (some (.inr (ci, fs)))) 1 H1 → (∀ q, q < base → H1[q]? = H[q]?) → W p l e R s m args below meth c H1 locs (cells + 1) (slots + N) Q (F0 m (pc + 3) ls (.ref (base + 0) :: rest))) : W p l e R s m args below meth c H locs cells slots Q (F0 m pc ls rest) := by
  have hKn := hK.1.1 ci _ hc
  refine W.newcK hx hb hown (hts _ hcl) (hts _ hinst) (hts _ hini) rfl hdg hcells hslots hKn.2.1 hsz fun H1 kC hkC e1 z1 o1 => ?_
  refine kk H1 ⟨z1, fun k x hk => ?_⟩ o1
  obtain ⟨hk1, rfl⟩ := fbL_of hk
  have hk0 : k = 0 := by omega
  subst hk0
  have e2 : fbE w σ (opS (fun _ => none) q0 (some (.inr (ci, fs)))) (VC 0) = .inr (ci, fs) := by
    unfold fbE
    rw [hV, opS_s]
  rw [e2]
  exact ⟨_, hc, (u_born ty0 hts hin hKn hkC e1 hty).to hfs⟩
end ENT
set_option maxRecDepth 100000 in
theorem at_18 {p : Program} {l : Launch} {e : Env} {s : State} {m : MethodId} {below : List Frame} {meth : Method} {c : Code} {b L : Nat} {xs : Nat → Int32} (hL : L ≤ 3072) (hx : p.tables.exec = Jvm.exec) (hb : c.code = cL_law) (hml : c.maxLocals = 4) (hown : s.vm.findClass RL = some m.cls) (hts : ∀ x ∈ lw_kept, x.before #[Value.ref b] s = true) (hr : meth.sig.returnType = ret) (hlocks : meth.locks = false) (hX : va_X b L xs s s.heap) (hbl : b < s.heap.size) {D : va_G} {cA : Nat → ClassId} (hK : kOK D cA s) {N : Nat} (hN : 1000 ≤ N) {σ1 σ2 : mS} (hC : CI σ1 S0) (hR : RI σ2 S0) {H : Heap} {locs : List Loc} {ls : Array Slot} {cells slots : Nat} (hcells : cells ≤ 600000) (hslots : slots ≤ 7302250)
    (h1 : mRep (wC D cA s.heap.size) σ1 H) (h2 : mRep (wM D cA (s.heap.size + nC)) σ2 H) (hS : va_S (fbA s.heap.size) s.heap H locs) (hl : lv_has ls 4 [(3, .int (Int32.ofInt 0)), (2, .ref (s.heap.size + nC + 0)), (1, .ref (s.heap.size + 0)), (0, .ref b)]) : W p l e room_1 s m #[Value.ref b] below meth c H locs cells slots (fun t => ∃ o, t.status = .running ∧ Ended t below o ∧ (o = .returned (some (.int 1)) ∧ Framed s o t [] 600000 7302250)) (F0 m 18 ls []) := by
  have C0 : mCx (p, l, e, room_1, s, m, #[Value.ref b], below, meth, c, cells, slots, fun t => ∃ o, t.status = .running ∧ Ended t below o ∧ (o = .returned (some (.int 1)) ∧ Framed s o t [] 600000 7302250)) (mw0 (eL D cA s.heap.size b)) (True, b, L, xs) cL_law 4 RL lw_kept := ⟨hx, hb, hml, hown, hts, mK_of (D := D) (ad := adL s.heap.size b) (cA := cA) (V := VLl) (A := fbA s.heap.size) hK, geoL D cA s.heap.size b, fun _ => ⟨hX, hbl, Nat.not_le_of_lt hbl, Nat.lt_of_le_of_lt hL (by decide), fun r i hk _ => adL_3 (g4 hk) i⟩⟩
  have hLf : mLf (p, l, e, room_1, s, m, #[Value.ref b], below, meth, c, cells, slots, fun t => ∃ o, t.status = .running ∧ Ended t below o ∧ (o = .returned (some (.int 1)) ∧ Framed s o t [] 600000 7302250)) := ⟨rfl, hcells, hslots, hr, hlocks, ⟨b, rfl⟩, rfl⟩
  have hA : ∀ q, wA (mw0 (eL D cA s.heap.size b)) q → s.heap.size ≤ q := fun q h => h
  obtain ⟨sE, hE⟩ := law_all hN hL 512 513 0 (sB σ1 σ2 xs) (by omega) (by omega) (by omega) (inv0 xs hC hR) (fun k hk => by rw [sB_3 (by decide)]; exact mw_of _)
  have key := p_L_law_18 (geoL D cA s.heap.size b) N C0 hLf hA 513 L ((0 : Nat) : Int) (sB σ1 σ2 xs) (.inr sE) hE (fun v s h => by cases h) (fun s' h => by
    refine m_blk C0 (pL_ok rfl) kL_law_ok 836 1 (1127, [none, none, none, none], [.inl 1], s') (Ps := []) rfl trivial ?_
    exact m_lawret C0 hLf (k_at kL_law_ok 837 rfl) rfl hA)
  refine key H locs ls (rep_L h1 h2) (fun _ r i hk k _ => sB_3 (g4 hk) i k) hS ⟨hl.1, hl.2.1, rfl, fun i v hv => ?_⟩ (fun v hv => by cases hv)
  have hi : i < 4 := (List.getElem?_eq_some_iff.mp hv).1
  match i, hi, hv with
  | 0, _, hv => cases hv; exact ⟨lv_at hl 3 rfl, Or.inr ⟨trivial, rfl, rfl⟩⟩
  | 1, _, hv => cases hv; exact ⟨lv_at hl 2 rfl, Or.inl (of_w (D := D) (ad := adL s.heap.size b) (cA := cA) (V := VLl) (A := fbA s.heap.size) (List.mem_append_left _ (inVC.mpr ⟨0, by decide, rfl⟩)))⟩
  | 2, _, hv => cases hv; exact ⟨lv_at hl 1 rfl, Or.inl (of_w (D := D) (ad := adL s.heap.size b) (cA := cA) (V := VLl) (A := fbA s.heap.size) (List.mem_append_right _ (inVM.mpr ⟨0, by decide, rfl⟩)))⟩
  | 3, _, hv => cases hv; exact ⟨lv_at hl 0 rfl, by show mw ((0 : Nat) : Int) = ((0 : Nat) : Int); decide⟩
