/-! System.arraycopy; a method's contract out of the walk of its body -/
def mcp (σ : mS) (r0 i0 : Nat) (sp : Int) (r1 i1 : Nat) (dp n : Int) : mS := fun r i k => if r = r1 ∧ i = i1 then va_cpy (σ r0 i0) (σ r1 i1) sp.toNat dp.toNat n.toNat k else σ r i k
section MCOPY
variable {f : mFx} {w : mWd} {sc : mSc} {cc : ByteArray} {nL : Nat} {own : String} {Ts : List Cond} {pc : Nat} {ls : List (Option mv)} {st rest : List mv} {σ : mS}
theorem mWd_set2 (hG : mGeo w Ts) {σ σ' : mS} {r i : Nat} {j : Nat} {e : va_E} (ho : ∀ q : Nat × Nat, q ≠ (r, i) → ∀ k, σ' q.1 q.2 k = σ q.1 q.2 k) (hj : (wV w)[j]? = some (r, i)) (he : mEn w σ' (r, i) = e) :
    ((wV w).map fun q => (wad w q.1 q.2, mEn w σ q)).set j (wad w r i, e) = (wV w).map fun q => (wad w q.1 q.2, mEn w σ' q) := by
  apply List.ext_getElem?
  intro n
  by_cases en : n = j
  · subst en
    rw [List.getElem?_set_self (by rw [List.length_map]; exact (List.getElem?_eq_some_iff.mp hj).1), List.getElem?_map, hj]
    show _ = some (_, mEn w σ' (r, i))
    rw [he]
  · rw [List.getElem?_set_ne (Ne.symm en), List.getElem?_map, List.getElem?_map]
    cases hv : (wV w)[n]? with
    | none => rfl
    | some q =>
      have hne : q ≠ (r, i) := by
        rintro rfl
        exact en ((List.getElem?_inj (List.getElem?_eq_some_iff.mp hv).1 hG.1).mp (hv.trans hj.symm))
      show some (_, mEn w σ q) = some (_, mEn w σ' q)
      have : mEn w σ' q = mEn w σ q := by
        unfold mEn mF
        simp only [ho q hne]
      rw [this]
theorem m_copy (C0 : mCx f w sc cc nL own Ts) {j r0 i0 r1 i1 : Nat} {sp dp n : Int} (lk : Cond.methodLink own j arraycopyName ∈ Ts ∧ Cond.native arraycopyName ∈ Ts ∧ Cond.static arraycopyName ∈ Ts ∧ Cond.initialized "java/lang/System" ∈ Ts) (hd : decode cc pc = .ok (.invokestatic j, 3))
    (hst : st = .inl n :: .inl dp :: .inr (.inr (r1, i1)) :: .inl sp :: .inr (.inr (r0, i0)) :: rest) (k0 : gk (wG w) r0 = 1) (k1 : gk (wG w) r1 = 1) (hR : 1 ≤ f.2.2.2.1.frames ∧ 26 ≤ f.2.2.2.1.locals) (hW : ((rest.map (mV (wad w))).map fun v => v.category).sum ≤ 8)
    (hA : 0 ≤ sp ∧ 0 ≤ dp ∧ 0 ≤ n ∧ sp + n ≤ (gn (wG w) r0 i0 : Int) ∧ dp + n ≤ (gn (wG w) r1 i1 : Int)) (kk : mWW f w sc nL (pc + 3, ls, rest, mcp σ r0 i0 sp r1 i1 dp n)) : mWW f w sc nL (pc, ls, st, σ) := by
  obtain ⟨hx, hb, hml, hown, hts, ⟨hK, hN⟩, hG, hsc⟩ := C0
  subst hst
  intro H locs L h1 h2 h3 h4 h5
  have hn : mw n = n := h5 (.inl n) (by simp)
  have hdp : mw dp = dp := h5 (.inl dp) (by simp)
  have hsp : mw sp = sp := h5 (.inl sp) (by simp)
  have hV1 : (r1, i1) ∈ wV w := m_in (h5 (.inr (.inr (r1, i1))) (by simp)) k1 (by decide)
  have hV0 : (r0, i0) ∈ wV w := m_in (h5 (.inr (.inr (r0, i0))) (by simp)) k0 (by decide)
  obtain ⟨q0, e1, e2⟩ := mWd_at (σ := σ) hV0
  obtain ⟨q1, e3, e4⟩ := mWd_at (σ := σ) hV1
  rw [mEn_1 k0] at e2
  rw [mEn_1 k1] at e4
  have hnw : nativeFrameWords "java/lang/System" "arraycopy" 5 = 7 := by decide +kernel
  refine va_copyi (ty := .int) hx hb (hml.trans h4.1.symm) hown (hts _ lk.1) (hts _ lk.2.1) (hts _ lk.2.2.1) (hts _ lk.2.2.2) hK h1.1 (mWd_D hG σ) h3 q0 q1 0 0 e2 e4 rfl rfl rfl (sp := Int32.ofInt sp) (dp := Int32.ofInt dp) (n := Int32.ofInt n)
    (fun q => absurd ((ofI_lt0 hsp).mp q) (by omega)) (fun q => absurd ((ofI_lt0 hdp).mp q) (by omega)) (fun q => absurd ((ofI_lt0 hn).mp q) (by omega)) (by rw [ofI_clamp hsp, ofI_clamp hn]; dsimp only; omega) (by rw [ofI_clamp hdp, ofI_clamp hn]; dsimp only; omega) (fun i hi => rfl) hR.1 (by rw [hnw]; omega) hd (fun H1 locs1 hP1 hD1 hS1 => ?_)
  rw [ofI_clamp hsp, ofI_clamp hdp, ofI_clamp hn, mWd_set2 hG (σ' := mcp σ r0 i0 sp r1 i1 dp n) (r := r1) (i := i1) (fun q hq k => by
    unfold mcp
    rw [if_neg]
    rintro ⟨a, b⟩
    exact hq (Prod.ext a b)) e3 (by
    rw [mEn_1 k1]
    refine congrArg (fun g => Sum.inl (wcA w 1, gn (wG w) r1 i1, Sum.inl g)) ?_
    funext k
    show Int32.ofInt (mcp σ r0 i0 sp r1 i1 dp n r1 i1 k) = _
    unfold mcp va_cpy
    rw [if_pos ⟨rfl, rfl⟩]
    split <;> rfl)] at hP1
  refine kk H1 locs1 L ⟨hP1, fun q hq k hk => ?_⟩ (fun hs r i hr k hk => ?_) hS1 h4 (fun u hu => h5 u (by simp [hu]))
  · show mOkK _ (mcp σ r0 i0 sp r1 i1 dp n q.1 q.2 k)
    unfold mcp va_cpy
    by_cases e : q.1 = r1 ∧ q.2 = i1
    · rw [if_pos e]
      by_cases e' : dp.toNat ≤ k ∧ k < dp.toNat + n.toNat
      · rw [if_pos e', e.1, k1]
        have := h1.2 (r0, i0) hV0 (sp.toNat + (k - dp.toNat)) (by dsimp only; omega)
        rw [k0] at this
        exact this
      · rw [if_neg e']
        have := h1.2 q hq k hk
        rw [e.1, e.2] at this
        rw [e.1]
        exact this
    · rw [if_neg e]
      exact h1.2 q hq k hk
  · show mcp σ r0 i0 sp r1 i1 dp n r i k = _
    unfold mcp
    rw [if_neg (fun q => by rw [q.1, k1] at hr; cases hr)]
    exact h2 hs r i hr k hk
end MCOPY
def mSl (v : mv) : List (Option mv) := match v with
  | .inr (.inl z) => [some (.inr (.inl z)), none]
  | v => [some v]
def mEnt (nL : Nat) (av : List mv) : List (Option mv) := av.flatMap mSl ++ List.replicate (nL - (av.flatMap mSl).length) none
theorem mSl_len {ad : Nat → Nat → Nat} (av : List mv) : (lg_sl (av.map (mV ad))).length = (av.flatMap mSl).length := by
  induction av with
  | nil => rfl
  | cons v t ih =>
    have e : lg_sl ((v :: t).map (mV ad)) = (if (mV ad v).category = 2 then [.val (mV ad v), .second] else [.val (mV ad v)]) ++ lg_sl (t.map (mV ad)) := rfl
    rw [e, List.length_append, ih, List.flatMap_cons, List.length_append]
    rcases v with z | z | q <;> rfl
theorem mSl_at {ad : Nat → Nat → Nat} (av : List mv) : ∀ (i : Nat) (v : mv), (av.flatMap mSl)[i]? = some (some v) → (lg_sl (av.map (mV ad)))[i]? = some (.val (mV ad v)) ∧ v ∈ av := by
  induction av with
  | nil => intro i v h; cases h
  | cons x t ih =>
    intro i v h
    have e : lg_sl ((x :: t).map (mV ad)) = (if (mV ad x).category = 2 then [.val (mV ad x), .second] else [.val (mV ad x)]) ++ lg_sl (t.map (mV ad)) := rfl
    rw [e]
    rw [List.flatMap_cons] at h
    rcases x with z | z | q
    · match i with
      | 0 => cases h; exact ⟨rfl, List.mem_cons_self⟩
      | i + 1 => exact ⟨(ih i v h).1, List.mem_cons_of_mem _ (ih i v h).2⟩
    · match i with
      | 0 => cases h; exact ⟨rfl, List.mem_cons_self⟩
      | 1 => cases h
      | i + 2 => exact ⟨(ih i v h).1, List.mem_cons_of_mem _ (ih i v h).2⟩
    · match i with
      | 0 => cases h; exact ⟨rfl, List.mem_cons_self⟩
      | i + 1 => exact ⟨(ih i v h).1, List.mem_cons_of_mem _ (ih i v h).2⟩
theorem mEnt_ls {w : mWd} {sc : mSc} {nL : Nat} {av : List mv} (hl : (av.flatMap mSl).length ≤ nL) (hok : ∀ v ∈ av, mOkV w sc v) : mLs w sc nL (mEnt nL av) ((lg_sl (av.map (mV (wad w))) ++ List.replicate (nL - (lg_sl (av.map (mV (wad w)))).length) Slot.unset).toArray) := by
  have h := lv_entry (av.map (mV (wad w))) (n := nL) (by rw [mSl_len]; exact hl)
  refine ⟨h.1, h.2.1, by unfold mEnt; rw [List.length_append, List.length_replicate]; omega, fun i v hv => ?_⟩
  unfold mEnt at hv
  by_cases hi : i < (av.flatMap mSl).length
  · rw [List.getElem?_append_left hi] at hv
    obtain ⟨h1, h2⟩ := mSl_at (ad := wad w) av i v hv
    exact ⟨by rw [List.getElem?_toArray, List.getElem?_append_left (by rw [mSl_len]; exact hi)]; exact h1, hok v h2⟩
  · rw [List.getElem?_append_right (by omega)] at hv
    have := List.mem_of_getElem? hv
    rw [List.mem_replicate] at this
    cases this.2
/-- as Met.ofW, of any method that nothing native stands for -/
theorem Met_ofWF {l : Launch} {y : MethodName} {ws ws' : List Cond} {rm : Room} {Pc : Array Value → State → Prop} {Qc : Array Value → State → Outcome → State → Prop} {mc ms : Nat} {free : Addr → Prop} {cc : ByteArray} {maxL : Nat} {ret : Option FieldType}
    (hy : plainFor y = true) (hw : ws = Cond.code y cc maxL ret :: ws')
    (body : ∀ p e s m args below meth c s₁, BodyLoose p l y (headSpec ws rm) cc maxL ret e s m args below meth c s₁ → c.maxLocals = maxL → Pc args s →
      W p l e (headSpec ws rm).room s m args below meth c s.heap [] 0 0 (MQ below Qc args s mc ms free) (entryFrame m args maxL)) : Met l y ws rm Pc Qc mc ms free := by
  refine MetFree.of_bodySF (code := cc) (maxLocals := maxL) (ret := ret) hy ?_ ?_
  · intro args s m h hn
    obtain ⟨meth, c, h1, h2, h3, h4, h5, h6, -, -⟩ := Cond.code_spec hn (atoms_spec (ws := ws) h _ (by rw [hw]; exact List.mem_cons_self))
    exact ⟨meth, c, h1, h2, h3, h4, h5, h6⟩
  · intro p e s m args below meth c s₁ B hml hP _
    have hh0 : s₁.heap = s.heap := by rw [B.state]; rfl
    obtain ⟨t, a1, o, b1, b2, b3⟩ := body p e s m args below meth c s₁ B hml hP s₁ hh0 (Stand.of_body B)
    exact ⟨t, o, a1, b1, b2, ⟨b3.1, b3.2⟩⟩
/-- a method's contract: walk its body from its entry -/
theorem mMet_intro {l : Launch} {w : mWd} {Ts : List Cond} {d : Nat} {y : MethodName} {cc : ByteArray} {maxL : Nat} {ret : Option FieldType} {av : List mv} {σ σ' : mS} {r : Option mv} (hy : plainFor y = true) (hG : mGeo w Ts) (hlen : (av.flatMap mSl).length ≤ maxL)
    (body : ∀ (f : mFx), f.2.1 = l → f.2.2.2.1 = mRm d → mCx f w sc0 cc maxL y.cls Ts → mFin f w ret r σ' → mWW f w sc0 maxL (0, mEnt maxL av, [], σ)) : mMet l w Ts d y cc maxL ret av σ r σ' := by
  intro hok
  refine Met_ofWF (cc := cc) (maxL := maxL) (ret := ret) hy rfl ?_
  intro p e s m args below meth c s₁ B hml hv
  obtain ⟨rfl, hP, hK⟩ := hv
  have hts := atoms_spec (ws := Cond.code y cc maxL ret :: Ts) B.pre
  have C0 : mCx (p, l, e, mRm d, s, m, ((av.map (mV (wad w))).toArray), below, meth, c, 0, 0, MQ below (mQc w r σ') ((av.map (mV (wad w))).toArray) s 0 0 (wA w)) w sc0 cc maxL y.cls Ts :=
    ⟨B.exec, B.bytes, hml, findClass_of_methodNamed B.named, fun x hx => hts x (List.mem_cons_of_mem _ hx), hK, hG, fun h => h.elim⟩
  have hFin : mFin (p, l, e, mRm d, s, m, ((av.map (mV (wad w))).toArray), below, meth, c, 0, 0, MQ below (mQc w r σ') ((av.map (mV (wad w))).toArray) s 0 0 (wA w)) w ret r σ' := ⟨B.returns, B.notSynchronized, rfl, rfl, rfl⟩
  have h := body _ rfl rfl C0 hFin s.heap [] _ hP (fun h => h.elim) va_S.rf (mEnt_ls hlen hok) (fun v hv => by cases hv)
  rw [lg_entry_eq]
  exact h
/-! what the printed rows use -/
theorem g_if {α : Type} {c : Prop} {dc : Decidable c} {t : Option α} {v : α} (h : (@ite (Option α) c dc t none) = some v) : c ∧ t = some v := by
  by_cases hc : c
  · rw [if_pos hc] at h; exact ⟨hc, h⟩
  · rw [if_neg hc] at h; cases h
theorem g_pos {α : Type} {c : Prop} {dc : Decidable c} {a b : Option α} {v : α} (hc : c) (h : (@ite (Option α) c dc a b) = some v) : a = some v := by
  rw [if_pos hc] at h; exact h
theorem g_neg {α : Type} {c : Prop} {dc : Decidable c} {a b : Option α} {v : α} (hc : ¬ c) (h : (@ite (Option α) c dc a b) = some v) : b = some v := by
  rw [if_neg hc] at h; exact h
theorem g_bind {α β : Type} {x : Option α} {g : α → Option β} {v : β} (h : Option.bind x g = some v) : ∃ y, x = some y ∧ g y = some v := by
  cases x with
  | none => cases h
  | some y => exact ⟨y, rfl, h⟩
theorem k_at {cc : ByteArray} {code : List mI} (hd : ∀ e ∈ code, decode cc e.1 = .ok (e.2.1, e.2.2)) (j : Nat) {pc len : Nat} {i : Instr} (hj : code[j]? = some (pc, i, len)) : decode cc pc = .ok (i, len) := by
  have := hd _ (List.mem_of_getElem? hj)
  exact this
def mmask : List Bool → List (Option mv) → List (Option mv)
  | b :: t, v :: r => cond b v none :: mmask t r
  | _, l => l
theorem mmask_get : ∀ (bs : List Bool) (ls : List (Option mv)) (i : Nat) (v : mv), (mmask bs ls)[i]? = some (some v) → ls[i]? = some (some v)
  | [], ls, i, v, h => by unfold mmask at h; exact h
  | b :: t, [], i, v, h => by unfold mmask at h; exact h
  | b :: t, x :: r, 0, v, h => by
    unfold mmask at h
    cases b with
    | true => exact h
    | false => cases h
  | b :: t, x :: r, i + 1, v, h => by
    unfold mmask at h
    exact mmask_get t r i v h
theorem mmask_len : ∀ (bs : List Bool) (ls : List (Option mv)), (mmask bs ls).length = ls.length
  | [], ls => by unfold mmask; rfl
  | b :: t, [] => by unfold mmask; rfl
  | b :: t, x :: r => by
    unfold mmask
    rw [List.length_cons, List.length_cons, mmask_len t r]
/-- fewer locals known -/
theorem m_mask {f : mFx} {w : mWd} {sc : mSc} {nL pc : Nat} {ls ls' : List (Option mv)} {st : List mv} {σ : mS} (bs : List Bool) (h : mmask bs ls = ls') (kk : mWW f w sc nL (pc, ls', st, σ)) : mWW f w sc nL (pc, ls, st, σ) := by
  subst h
  intro H locs L h1 h2 h3 h4 h5
  exact kk H locs L h1 h2 h3 ⟨h4.1, h4.2.1, by rw [mmask_len]; exact h4.2.2.1, fun i v hv => h4.2.2.2 i v (mmask_get _ _ _ _ hv)⟩ h5
/-- a method's frame: its room, nothing made -/
def mFr (f : mFx) (d : Nat) : Prop := f.2.2.2.1 = mRm d ∧ f.2.2.2.2.2.2.2.2.2.2.1 = 0 ∧ f.2.2.2.2.2.2.2.2.2.2.2.1 = 0
theorem mFr_of {f : mFx} {w : mWd} {d : Nat} {ret : Option FieldType} {r : Option mv} {σ : mS} (hR : f.2.2.2.1 = mRm d) (hF : mFin f w ret r σ) : mFr f d := ⟨hR, hF.2.2.1, hF.2.2.2.1⟩
section CW
variable {f : mFx} {w : mWd} {cc : ByteArray} {nL : Nat} {own : String} {Ts : List Cond} {pc : Nat} {ls : List (Option mv)} {st rest : List mv} {σ σ1 : mS} {r : Option mv}
theorem mFr_room {D d maxL : Nat} (hFr : mFr f D) (h1 : d + 1 ≤ D) (h2 : maxL ≤ 21) : d + 1 ≤ f.2.2.2.1.frames ∧ 8 + (maxL + 11) + 40 * d ≤ f.2.2.2.1.locals := by
  rw [hFr.1]
  exact ⟨h1, by show _ ≤ 40 * D; omega⟩
theorem mFr_cells {D : Nat} (hFr : mFr f D) : f.2.2.2.2.2.2.2.2.2.2.1 ≤ f.2.2.2.1.cells ∧ f.2.2.2.2.2.2.2.2.2.2.2.1 ≤ f.2.2.2.1.slots := ⟨by rw [hFr.2.1]; exact Nat.zero_le _, by rw [hFr.2.2]; exact Nat.zero_le _⟩
theorem c_S {D : Nat} (C0 : mCx f w sc0 cc nL own Ts) (hFr : mFr f D) {y : MethodName} {bytes : ByteArray} {maxL d n j : Nat} {ret : Option FieldType} {av : List mv} (hM : mMet f.2.1 w Ts d y bytes maxL ret av σ r σ1) (lk : mGood Ts ∧ mLk Ts own j y bytes maxL ret n ∧ Cond.static y ∈ Ts) (hd : decode cc pc = .ok (.invokestatic j, 3)) (hst : st = av.reverse ++ rest) (hn : av.length = n) (hno : mNoS (wG w) av = true) (hD : d + 1 ≤ D) (hm : maxL ≤ 21) (hW : ((rest.map (mV (wad w))).map fun v => v.category).sum ≤ 8) (kk : mWW f w sc0 nL (pc + 3, ls, r.toList ++ rest, σ1)) : mWW f w sc0 nL (pc, ls, st, σ) :=
  m_callS C0 lk.1 av hM lk.2.1 lk.2.2 hd hst hn hno (mFr_room hFr hD hm) (mFr_cells hFr) hW mNext_0 kk
theorem c_SN {D : Nat} (C0 : mCx f w sc0 cc nL own Ts) (hFr : mFr f D) {y : MethodName} {bytes : ByteArray} {maxL d n j : Nat} {host : String} {ret : Option FieldType} {av : List mv} (hM : mMet f.2.1 w Ts d y bytes maxL ret av σ r σ1) (lk : mGood Ts ∧ mLn w Ts own host j y bytes maxL ret n ∧ Cond.static y ∈ Ts) (hd : decode cc pc = .ok (.invokestatic j, 3)) (hst : st = av.reverse ++ rest) (hn : av.length = n) (hno : mNoS (wG w) av = true) (hD : d + 1 ≤ D) (hm : maxL ≤ 21) (hW : ((rest.map (mV (wad w))).map fun v => v.category).sum ≤ 8) (kk : mWW f w sc0 nL (pc + 3, ls, r.toList ++ rest, σ1)) : mWW f w sc0 nL (pc, ls, st, σ) :=
  m_callSN C0 lk.1 av hM lk.2.1 lk.2.2 hd hst hn hno (mFr_room hFr hD hm) (mFr_cells hFr) hW mNext_0 kk
theorem c_V {D : Nat} (C0 : mCx f w sc0 cc nL own Ts) (hFr : mFr f D) {y : MethodName} {bytes : ByteArray} {maxL d n j : Nat} {ret : Option FieldType} {q : Nat × Nat} {av : List mv} (hM : mMet f.2.1 w Ts d y bytes maxL ret (.inr (.inr q) :: av) σ r σ1) (lk : mGood Ts ∧ mLk Ts own j y bytes maxL ret n ∧ Cond.instanceMethod y ∈ Ts ∧ Cond.selects y.cls y y ∈ Ts) (hd : decode cc pc = .ok (.invokevirtual j, 3)) (hst : st = av.reverse ++ .inr (.inr q) :: rest) (hn : av.length = n) (hno : mNoS (wG w) (.inr (.inr q) :: av) = true) (hq : gk (wG w) q.1 = 0) (hqc : ∃ T N, (wcl w)[gc (wG w) q.1]? = some (y.cls, T, N)) (hD : d + 1 ≤ D) (hm : maxL ≤ 21) (hW : ((rest.map (mV (wad w))).map fun v => v.category).sum ≤ 8) (kk : mWW f w sc0 nL (pc + 3, ls, r.toList ++ rest, σ1)) : mWW f w sc0 nL (pc, ls, st, σ) :=
  m_callV C0 lk.1 q av hM lk.2.1 lk.2.2 hd hst hn hno hq hqc (mFr_room hFr hD hm) (mFr_cells hFr) hW mNext_0 kk
theorem c_copy {D : Nat} (C0 : mCx f w sc0 cc nL own Ts) (hFr : mFr f D) {j r0 i0 r1 i1 : Nat} {sp dp n : Int} (lk : Cond.methodLink own j arraycopyName ∈ Ts ∧ Cond.native arraycopyName ∈ Ts ∧ Cond.static arraycopyName ∈ Ts ∧ Cond.initialized "java/lang/System" ∈ Ts) (hd : decode cc pc = .ok (.invokestatic j, 3))
    (hst : st = .inl n :: .inl dp :: .inr (.inr (r1, i1)) :: .inl sp :: .inr (.inr (r0, i0)) :: rest) (k0 : gk (wG w) r0 = 1) (k1 : gk (wG w) r1 = 1) (hD : 1 ≤ D) (hW : ((rest.map (mV (wad w))).map fun v => v.category).sum ≤ 8)
    (hA : 0 ≤ sp ∧ 0 ≤ dp ∧ 0 ≤ n ∧ sp + n ≤ (gn (wG w) r0 i0 : Int) ∧ dp + n ≤ (gn (wG w) r1 i1 : Int)) (kk : mWW f w sc0 nL (pc + 3, ls, rest, mcp σ r0 i0 sp r1 i1 dp n)) : mWW f w sc0 nL (pc, ls, st, σ) :=
  m_copy C0 lk hd hst k0 k1 (by rw [hFr.1]; exact ⟨hD, by show 26 ≤ 40 * D; omega⟩) hW hA kk
end CW
