/-! THE CLAIM OUT OF ONE WALK OF THE LAW'S BODY. Your part is whole_start (and what it stands on); all else here is the same for every law, but numbers. -/
def R_law : String := "TurnBenchLaw"
def lw_P (b : Addr) (xs : List Int32) (args : Array Value) (s : State) : Prop := args = #[.ref b] ∧ s.IntsAt b xs ∧ xs.length ≤ 3072 ∧ (Jvm.Cond.and given_1 narrow_1).before args s = true
def lw_Q (_ : Array Value) (s : State) (o : Outcome) (t : State) : Prop := o = .returned (some (.int 1)) ∧ Framed s o t [] 600000 7302250
def lw_Z (below : List Frame) (a : Array Value) (s : State) : State → Prop := fun t => ∃ o, t.status = .running ∧ Ended t below o ∧ lw_Q a s o t
/-- the law's own end, with 1 on the stack, nothing written that was there before, its room as the claim has it -/
theorem lw_ret {p : Program} {l : Launch} {e : Env} {s : State} {m : MethodId} {below : List Frame} {meth : Method} {c : Code} {b : Nat} (hx : p.tables.exec = Jvm.exec) (hb : c.code = code) (hr : meth.sig.returnType = ret) (hlocks : meth.locks = false) {pc : Nat} {H : Heap} {ls : Array Slot} (hdg : decode code pc = .ok (.ireturn, 1)) : W p l e room_1 s m #[Value.ref b] below meth c H [] 600000 7302250 (lw_Z below #[Value.ref b] s) (F0 m pc ls [.int 1]) := by
  intro T hT X
  obtain ⟨fs, hret, hrun, hended, hW, hframe⟩ := X.leave (v := some (.int 1)) (hlocks := hlocks) (fun h => by rw [hr] at h; cases h)
  have hmeth' : T.vm.method? m = some meth := X.method'
  refine ⟨T.setFrames fs, ?_, .returned (some (.int 1)), hrun, hended, rfl, ⟨_, rfl⟩, hW, hframe⟩
  jvm_step X.here [X.here.top, hx, hb, hdg, hmeth', hr, ret, narrow_b1]
  (try refine ⟨rfl, ?_⟩); (try refine ⟨rfl, ?_⟩)
  first | (intro acts; rw [hret _ acts rfl rfl rfl]) | rw [hret _ _ rfl rfl rfl]
  exact Steps.refl _
/-- what holds at the law's entry: the machine, the code, the tables' words (any of lw_tbl by 'hts w (by decide +kernel)'), the script of L ints xs at the cell b, what the Statement gives of the start (any of its parts by flat_of_before) -/
def lw_At (p : Program) (s : State) (m : MethodId) (meth : Method) (c : Code) (b L : Nat) (xs : Nat → Int32) : Prop :=
  p.tables.exec = Jvm.exec ∧ c.code = code ∧ meth.sig.returnType = ret ∧ c.maxLocals = 4 ∧ s.vm.findClass R_law = some m.cls ∧ (∀ w ∈ lw_tbl, w.before #[Value.ref b] s = true) ∧ va_X b L xs s s.heap ∧ b < s.heap.size ∧ meth.locks = false ∧ (Jvm.Cond.and given_1 narrow_1).before #[Value.ref b] s = true
-- ===== YOUR PART BEGINS =====
set_option maxRecDepth 100000 in
theorem whole_start {p : Program} {e : Env} {s : State} {m : MethodId} {below : List Frame} {meth : Method} {c : Code} (l : Launch) {b L : Nat} {xs : Nat → Int32} (hL : L ≤ 3072) (C0 : lw_At p s m meth c b L xs) : W p l e room_1 s m #[Value.ref b] below meth c s.heap [] 0 0 (lw_Z below #[Value.ref b] s) (entryFrame m ([Value.ref b] : List Value).toArray 4) := by
  obtain ⟨hx, hb, hr, hml, hown0, hts0, hX, hbl, hlocks, hgv⟩ := C0
  have hown : s.vm.findClass RL = some m.cls := hown0
  have hts : ∀ x ∈ lw_kept, x.before #[Value.ref b] s = true := fun x hx => hts0 x (lw_kept_in x hx)
  obtain ⟨D, cA, hK⟩ := k_ex hts0
  obtain ⟨zq, hz, hzl, hzX⟩ := z_ex hgv
  obtain ⟨σ1, e1, hC⟩ := ci0 (N := 1000) (Nat.le_refl _)
  obtain ⟨σ2, e2, hR⟩ := ri0 (N := 1000) (Nat.le_refl _)
  have hKC : mK (wC D cA s.heap.size) s := mK_of (D := D) (ad := fun r i => s.heap.size + offC r i) (cA := cA) (V := VCl) (A := fbA s.heap.size) hK
  have hKM : mK (wM D cA (s.heap.size + nC)) s := mK_of (D := D) (ad := fun r i => s.heap.size + nC + offM r i) (cA := cA) (V := VMl) (A := fbA (s.heap.size + nC)) hK
  have hBK : bK (wC D cA s.heap.size) s.heap.size zq s := ⟨hKC, hts0 (.arrayOver (.array .int)) (tbl_t 33 (by decide +kernel)), va_AO.of (hts0 (.arrayOver (.object "TurnBench$Layer")) (tbl_t 226 (by decide +kernel))), va_Nw.of rfl (hts0 (.fieldLinkNest RX3 24 "TurnBench" "MOST_PRODUCTS" "[I" "TurnBench") (tbl_t 235 (by decide +kernel))), va_Zref (hts0 (.laysStatic "TurnBench" "MOST_PRODUCTS" "[I") (tbl_t 236 (by decide +kernel))) (hts0 (.initialized "TurnBench") (tbl_t 1 (by decide +kernel))) hz (fun a ha h => absurd h (Nat.not_le_of_lt ha)), hzl, hzX⟩
  have SC : CallFix p m c cL_law 4 s #[Value.ref b] lw_kept RL := ⟨hx, hb, hml, hown, hts⟩
  have hl := lv_entry [Value.ref b] (n := 4) (Nat.le_of_ble_eq_true rfl)
  rw [lg_entry_eq]
  generalize (lg_sl [Value.ref b] ++ List.replicate (4 - (lg_sl [Value.ref b]).length) Slot.unset).toArray = ls at hl ⊢
  refine fb_new0 (w := wC D cA s.heap.size) (VC := vcC) (σ := s0) (base := s.heap.size) hx hb hts hKC hown (ci := 11) rfl inX11 tyX11 tyX11_ok (kept_t 18 (by decide +kernel) rfl) (kept_t 19 (by decide +kernel) rfl) (kept_t 1 (by decide +kernel) rfl) (q0 := (0, 0)) rfl (fs := [.null, .null, .null, .null, .null, .null, .null, .null]) (by decide +kernel) (Nat.le_of_ble_eq_true rfl) (Nat.le_of_ble_eq_true rfl) (k_at kL_law_ok 0 rfl) rfl ?_
  intro H hF hH0
  have hS : va_S (fbA s.heap.size) s.heap H [] := ⟨by rw [hF.1]; omega, fun q h1 _ => hH0 q h1, fun q hq => absurd hq List.not_mem_nil⟩
  refine lv_dup hx hb (k_at kL_law_ok 1 rfl) rfl ?_
  refine va_callv (A0 := fbA s.heap.size) (A1 := fbA s.heap.size) (va_runI SC (i_X11 l (D := D) (cA := cA) (base := s.heap.size) (zq := zq) (op := opS (fun _ => none) (0, 0) (some (.inr (11, [.null, .null, .null, .null, .null, .null, .null, .null])))) (opS_s _ _ _) (fun k h1 h2 => opS_n (fun z => by have := vc_u (t := 0) h2 z rfl; omega)) e1) (cwI (ws' := lw_kept) 0 hts (mGood_in lw_good (kept_t 22 (by decide +kernel) rfl)) rfl rfl rfl (hts _ (kept_t 1 (by decide +kernel) rfl)) (hts _ (kept_t 20 (by decide +kernel) rfl)) (hts _ (kept_t 21 (by decide +kernel) rfl)) rfl (by decide +kernel) ⟨(Nat.le_of_ble_eq_true rfl), (Nat.le_of_ble_eq_true rfl)⟩) (fb_pre (t := 0) (av := []) hF hS (Nat.le_refl _) hBK) rfl rfl hl.1 rfl (Nat.le_of_ble_eq_true rfl) (k_at kL_law_ok 2 rfl) ⟨(Nat.le_of_ble_eq_true rfl), (Nat.le_of_ble_eq_true rfl)⟩) hS (fun q _ h => h) (fun q h => h) ?_
  intro _ t1 H1 locs1 ht1 _ _ hB1 _ _ hS1
  replace hB1 : mRep (wC D cA s.heap.size) σ1 t1.heap := hB1
  rw [ht1] at hB1
  refine w_size fun hz1 => ?_
  have hn : nC = 834 := rfl
  have hsz1 : H1.size = s.heap.size + nC := by
    have := C_lt hB1
    omega
  refine lv_astore_n hx hb (k_at kL_law_ok 3 rfl) rfl hl (by decide) rfl ?_
  intro ls hl
  refine fb_new0 (w := wM D cA (s.heap.size + nC)) (VC := vcM) (σ := sZ) (base := s.heap.size + nC) hx hb hts hKM hown (ci := 12) rfl inX12 tyX12 tyX12_ok (kept_t 843 (by decide +kernel) rfl) (kept_t 844 (by decide +kernel) rfl) (kept_t 16 (by decide +kernel) rfl) (q0 := (71, 0)) rfl (fs := fsM0 0) (by decide +kernel) (Nat.le_of_ble_eq_true rfl) (Nat.le_of_ble_eq_true rfl) (k_at kL_law_ok 4 rfl) hsz1 ?_
  intro H2 hF2 hH2
  have hS2 : va_S (fbA s.heap.size) s.heap H2 locs1 := ⟨by rw [hF2.1]; omega, fun q h1 h2 => (hH2 q (by omega)).trans (hS1.2.1 q h1 h2), hS1.2.2⟩
  refine lv_dup hx hb (k_at kL_law_ok 5 rfl) rfl ?_
  have hpre : PreS s H2 (va_Pc [.ref (s.heap.size + nC + 0)] (fun U => FB (wM D cA (s.heap.size + nC)) vcM (s.heap.size + nC) sZ (opS (fun _ => none) (71, 0) (some (.inr (12, fsM0 (s.heap.size + nC))))) 1 U.heap ∧ bK (wM D cA (s.heap.size + nC)) (s.heap.size + nC) zq U)) [.ref (s.heap.size + nC + 0)] :=
    ⟨fun a U g mk h => ⟨h.1, h.2.1, bK_calling g mk a h.2.2⟩, fun U hU hW => ⟨rfl, by rw [hU]; exact hF2, bK_2 (kOK_warm hW hK) hW (fun q hq => by rw [hU]; exact hS2.2.1 q hq (fun z => absurd z (Nat.not_le_of_lt hq))) (by omega) hBK⟩⟩
  refine va_callv (A0 := fbA s.heap.size) (A1 := fbA (s.heap.size + nC)) (va_runI SC (i_X12 l (D := D) (cA := cA) (base := s.heap.size + nC) (zq := zq) (op := opS (fun _ => none) (71, 0) (some (.inr (12, fsM0 (s.heap.size + nC))))) (opS_s _ _ _) (fun k h1 => opS_n (fun z => by have := vm_u (t := 0) z rfl; omega)) e2) (cwI (ws' := lw_kept) 0 hts (mGood_in lw_good (kept_t 847 (by decide +kernel) rfl)) rfl rfl rfl (hts _ (kept_t 16 (by decide +kernel) rfl)) (hts _ (kept_t 845 (by decide +kernel) rfl)) (hts _ (kept_t 846 (by decide +kernel) rfl)) rfl (by decide +kernel) ⟨(Nat.le_of_ble_eq_true rfl), (Nat.le_of_ble_eq_true rfl)⟩) hpre rfl rfl hl.1 rfl (Nat.le_of_ble_eq_true rfl) (k_at kL_law_ok 6 rfl) ⟨(Nat.le_of_ble_eq_true rfl), (Nat.le_of_ble_eq_true rfl)⟩) hS2 (fun q _ h => Nat.le_trans (Nat.le_add_right _ _) h) (fun q h => Nat.le_trans (Nat.le_add_right _ _) h) ?_
  intro _ t2 H3 locs3 ht2 _ _ hB2 _ hk3 hS3
  replace hB2 : mRep (wM D cA (s.heap.size + nC)) σ2 t2.heap := hB2
  rw [ht2] at hB2
  have hB3 : mRep (wC D cA s.heap.size) σ1 H3 := mRep_kept hB1 (fun q hq => (hk3 q (by rw [hF2.1]; omega) (fun z => by have z : s.heap.size + nC ≤ q := z; omega)).trans (hH2 q (by omega)))
  refine lv_astore_n hx hb (k_at kL_law_ok 7 rfl) rfl hl (by decide) rfl ?_
  intro ls hl
  refine lv_iconst hx hb (k_at kL_law_ok 8 rfl) rfl ?_
  refine lv_istore_n hx hb (k_at kL_law_ok 9 rfl) rfl hl (by decide) rfl ?_
  intro ls hl
  refine W.eq (g2 := F0 m 18 ls []) rfl ?_
  exact at_18 hL hx hb hml hown hts hr hlocks hX hbl hK (Nat.le_refl 1000) hC hR (Nat.le_of_ble_eq_true rfl) (Nat.le_of_ble_eq_true rfl) hB3 hB2 hS3 hl
-- ===== YOUR PART ENDS =====
set_option maxHeartbeats 4000000 in
theorem lw_walk (l : Launch) (b : Addr) (xs : List Int32) : MetFree l x (headSpec (Jvm.Cond.code x code maxLocals ret :: tables_1) room_1) (lw_P b xs) (fun _ _ _ _ _ => True) lw_Q := by
  refine MetFree.of_bodyS (code := code) (maxLocals := maxLocals) (ret := ret) (by decide) ?_ ?_
  · intro args s m h hn
    obtain ⟨meth, c, h1, h2, h3, h4, h5, h6, -, -⟩ := Cond.code_spec hn (atoms_spec (ws := Jvm.Cond.code x code maxLocals ret :: tables_1) h _ List.mem_cons_self)
    exact ⟨meth, c, h1, h2, h3, h4, h5, h6⟩
  · intro p e s m args below meth c s₁ B hml0 hP _
    obtain ⟨rfl, hx, hbd, hgv⟩ := hP
    obtain ⟨scr, harrAt, hlist, hof, hsmall⟩ := hx
    obtain ⟨hcb, hkn, -, -⟩ := State.arrayAt?_spec harrAt
    have hown : s.vm.findClass R_law = some m.cls := findClass_of_methodNamed B.named
    have hts0 : ∀ c ∈ (Jvm.Cond.code x code maxLocals ret :: tables_1), c.before #[Value.ref b] s = true := atoms_spec (ws := Jvm.Cond.code x code maxLocals ret :: tables_1) B.pre
    have hts : ∀ w ∈ lw_tbl, w.before #[Value.ref b] s = true := k2_hts_sels lw_privs (fun w hw => hts0 w (List.mem_cons_of_mem _ hw)) lw_privs_ok
    have hml : c.maxLocals = 4 := B.maxLocals_eq (hts0 _ List.mem_cons_self)
    have X₀ : Stand p l e room_1 s m #[Value.ref b] below meth c s₁ [] 0 0 := Stand.of_body B
    have hh0 : s₁.heap = s.heap := by rw [B.state]; rfl
    have hsz : scr.slots.size = xs.length := by rw [← Array.length_toList, hlist, List.length_map]
    have hval : ∀ j : Nat, j < xs.length → scr.slots[j]? = some (.int (xs.getD j 0)) := fun j hj => by
      rw [← Array.getElem?_toList, hlist]
      simp [hj]
    have hbl : b < s.heap.size := (Array.getElem?_eq_some_iff.mp hcb).1
    have hX : va_X b xs.length (fun j => xs.getD j 0) s s.heap := ⟨scr, hcb, hof, hkn, hsz, hval⟩
    have K : W p l e room_1 s m #[Value.ref b] below meth c s₁.heap [] 0 0 (lw_Z below #[Value.ref b] s) (entryFrame m ([Value.ref b] : List Value).toArray 4) := by
      rw [hh0]
      exact whole_start l hbd ⟨B.exec, B.bytes, B.returns, hml, hown, hts, hX, hbl, B.notSynchronized, hgv⟩
    obtain ⟨t, a1, o, b1, b2, b3⟩ := K s₁ rfl X₀
    exact ⟨t, o, a1, b1, b2, b3⟩
theorem lw_pre_spec {args : Array Value} {s : State} (h : (Jvm.Cond.and given_1 narrow_1).before args s = true) (hr : rest_1_c.before args s = true) : ∃ (b : Addr) (xs : List Int32), lw_P b xs args s := by
  have hs := flat_of_before _ h
  have hq := flat_of_before _ hr
  have hc : (Cond.count 1).before args s = true := hs _ (by decide +kernel)
  have harr : (Cond.arrayOf (.arg 0) .int).before args s = true := hs _ (by decide +kernel)
  have hle : (Cond.le (.length (.arg 0)) (.int 3072)).before args s = true := hs _ (by decide +kernel)
  have hlen : (Cond.isInt (.length (.arg 0))).before args s = true := hq _ (by decide +kernel)
  have hall : (Cond.all (.arg 0) (.isInt (.elem (.arg 0) (.index 0)))).before args s = true := hq _ (by decide +kernel)
  obtain ⟨b, xs, hb, hx⟩ := State.ints_of_pre rfl harr hlen hall
  have hsm : xs.length < 2 ^ 31 := hx.choose_spec.2.2.2
  have hev : (Term.length (.arg 0)).eval args s none [] s = some (.int xs.length.toInt32) := hx.length_eval hb
  have hv := Cond.le_ints hev (show (Term.int 3072).eval args s none [] s = some (.int 3072) from rfl)
  have hd : xs.length.toInt32 ≤ 3072 := by
    simpa [Cond.before, Cond.holds, hv] using hle
  have hN : xs.length ≤ 3072 := (Int32.ofNat_le_ofNat hsm (by decide)).mp (show Int32.ofNat xs.length ≤ Int32.ofNat 3072 from hd)
  exact ⟨b, xs, Cond.one_arg hc (show args[0]? = some (.ref b) from hb), hx, hN, h⟩
theorem lw_comes (l : Launch) : Comes l x (Jvm.Cond.code x code maxLocals ret :: tables_1) room_1 (fun tb e args s => Calls_1 tb e args s ∧ rest_1 tb e args s ∧ Pre_1 tb e args s)
    (fun _ _ args s o t => lw_Q args s o t) := by
  intro p e ha hc hk s m args below hf hfit hheap happ hpre
  obtain ⟨b, xs, hP⟩ := lw_pre_spec hpre.2.2 hpre.2.1
  obtain ⟨k, o, h1, h2, h3, hQ⟩ := lw_walk l b xs p e ha hc hk s m args below hf ((Spec.applies_iff_loose hf).mp happ).1 hP trivial
  exact ⟨k, o, h1, h2, h3, hQ⟩
theorem lw_frame {s t : State} {o : Outcome} {args : Array Value} (h : Framed s o t [] 600000 7302250) :
    Framed s o t (fieldLocs frame_1_writes args s ++ arrayLocs frame_1_arrays args s ++ staticLocs frame_1_statics s) 600000 7302250 := h
theorem lw_limb (L : Cond) (hL : ∀ (args : Array Value) (s t : State), L.after args s (.returned (some (.int 1))) t = true) :
    ArmFor flags0 classFile x code maxLocals ret World_1 tables_1 room_1 Calls_1 rest_1 Pre_1
      (fun tb e a s o t => postC L tb e a s o t ∧ Framed s o t (fieldLocs frame_1_writes a s ++ arrayLocs frame_1_arrays a s ++ staticLocs frame_1_statics s) 600000 7302250) := by
  intro l _ _ _ p e ha hc hk s m args below hf hfit hheap happ hpre
  obtain ⟨k, o, h1, h2, h3, rfl, hF⟩ := lw_comes l p e ha hc hk s m args below hf hfit hheap happ hpre
  exact ⟨k, _, h1, h2, h3, hL args s _, lw_frame hF⟩
theorem i_vc : Claimed_1_1 ∧ Claimed_1_2 := ⟨lw_limb limb_1_1 (fun args s t => by simp [limb_1_1, Cond.after, Cond.holds, Cond.value]), lw_limb limb_1_2 (fun args s t => Cond.after_iff.mpr (by
  first | (rw [show limb_1_2 = Cond.eq .result (.int 1) from rfl, Cond.eq_ints (x := 1) (y := 1) rfl rfl]; simp; done) | (simp [limb_1_2, Cond.value, Term.eval]; done)))⟩
