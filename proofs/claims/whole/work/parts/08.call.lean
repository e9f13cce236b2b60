/-- the store behind a call: as the callee leaves it, but for the script's ints, which no picture of cells speaks of -/
def mNext (w : mWd) (sc : mSc) (σ σ1 σ2 : mS) : Prop := (∀ H, mRep w σ1 H → mRep w σ2 H) ∧ (sc.1 → ∀ r i k, gk (wG w) r = 4 → σ2 r i k = σ r i k)
theorem mNext_0 {w : mWd} {σ σ1 : mS} : mNext w sc0 σ σ1 σ1 := ⟨fun _ h => h, fun h => h.elim⟩
def mfix (G : mG) (σ σ1 : mS) : mS := fun r i k => if gk G r = 4 then σ r i k else σ1 r i k
theorem mNext_L {w : mWd} {sc : mSc} {σ σ1 : mS} {Ts : List Cond} (hG : mGeo w Ts) : mNext w sc σ σ1 (mfix (wG w) σ σ1) := by
  have e : ∀ q ∈ wV w, ∀ k, mfix (wG w) σ σ1 q.1 q.2 k = σ1 q.1 q.2 k := fun q hq k => by
    unfold mfix
    rw [if_neg (hG.2.2.2.2.2.2 q hq).1]
  refine ⟨fun H h => ⟨?_, fun q hq k hk => by rw [e q hq k]; exact h.2 q hq k hk⟩, fun _ r i k h => by unfold mfix; rw [if_pos h]⟩
  have e2 : ((wV w).map fun q => (wad w q.1 q.2, mEn w (mfix (wG w) σ σ1) q)) = ((wV w).map fun q => (wad w q.1 q.2, mEn w σ1 q)) := by
    apply List.map_congr_left
    intro q hq
    have : mEn w (mfix (wG w) σ σ1) q = mEn w σ1 q := by
      unfold mEn mF
      simp only [e q hq]
    rw [this]
  rw [e2]
  exact h.1
section MCALL
variable {f : mFx} {w : mWd} {sc : mSc} {cc : ByteArray} {nL : Nat} {own : String} {Ts : List Cond} {pc : Nat} {ls : List (Option mv)} {st rest : List mv} {σ σ1 σ2 : mS} {r : Option mv}
theorem m_run (C0 : mCx f w sc cc nL own Ts) (hrun : ∀ (H : Heap) (locs : List Loc) (L : Array Slot), mRep w σ H → va_S (wA w) (fs f).heap H locs → L.size = nL → (∀ v ∈ st, mOkV w sc v) → ∃ a, va_Run f.1 f.2.1 f.2.2.1 f.2.2.2.1 f.2.2.2.2.1 f.2.2.2.2.2.1 f.2.2.2.2.2.2.1 f.2.2.2.2.2.2.2.1 f.2.2.2.2.2.2.2.2.1 f.2.2.2.2.2.2.2.2.2.1 H locs f.2.2.2.2.2.2.2.2.2.2.1 f.2.2.2.2.2.2.2.2.2.2.2.1 0 0 (F0 (fm f) pc L (st.map (mV (wad w)))) (rest.map (mV (wad w))) (mQc w r σ1 a) (wA w))
    (hscr : mNext w sc σ σ1 σ2) (hsub : ∀ v ∈ rest, v ∈ st) (kk : mWW f w sc nL (pc + 3, ls, r.toList ++ rest, σ2)) : mWW f w sc nL (pc, ls, st, σ) := by
  intro H locs L h1 h2 h3 h4 h5
  obtain ⟨a, hr⟩ := hrun H locs L h1 h3 h4.1 h5
  intro T hT X
  obtain ⟨v, st₀, t, T', L', h0, X', hL, e1, e2, ⟨⟨hv, hp, hok⟩, hz, hk⟩, stp⟩ := hr T hT X
  cases hv
  rw [h0] at hz hk
  have hS1 : va_S (wA w) (fs f).heap T'.heap (locs ++ L') := ⟨Nat.le_trans h3.1 (by rw [e1]; exact hz), fun q q1 q2 => by rw [e1, hk q (Nat.lt_of_lt_of_le q1 h3.1) q2]; exact h3.2.1 q q1 q2, fun q hq => by
      rcases List.mem_append.mp hq with h | h
      · exact h3.2.2 q h
      · exact hL q h⟩
  obtain ⟨t2, a1, b1⟩ := kk T'.heap (locs ++ L') L (by rw [e1]; exact hscr.1 _ hp) (fun hs r i h4 k hk => by show σ2 r i k = _; rw [hscr.2 hs r i k h4]; exact h2 hs r i h4 k hk) hS1 h4 (fun u hu => by
    rcases List.mem_append.mp hu with q | q
    · have q1 := hok u (by cases r with
        | none => cases q
        | some v => rcases List.mem_singleton.mp q with rfl; rfl)
      rcases u with z | z | q'
      · exact q1
      · exact q1
      · rcases q1 with q1 | q1
        · exact Or.inl q1
        · exact absurd q1.1 id
    · exact h5 u (hsub u q)) T' rfl X'
  refine ⟨t2, stp t2 ?_, b1⟩
  cases r with
  | none => exact a1
  | some v => exact a1
/-- the words of a call, out of the tables -/
def mLk (Ts : List Cond) (own : String) (j : Nat) (y : MethodName) (bytes : ByteArray) (maxL : Nat) (ret : Option FieldType) (n : Nat) : Prop :=
  Cond.methodLink own j y ∈ Ts ∧ Cond.initialized y.cls ∈ Ts ∧ Cond.code y bytes maxL ret ∈ Ts ∧ (y.cls ≠ "java/lang/invoke/MethodHandle" ∧ y.cls ≠ "java/lang/invoke/VarHandle" ∧ (parseMethodDescriptor y.desc).map (fun d => d.parameters.length) = some n)
def mLn (w : mWd) (Ts : List Cond) (own host : String) (j : Nat) (y : MethodName) (bytes : ByteArray) (maxL : Nat) (ret : Option FieldType) (n : Nat) : Prop :=
  (own, j, y, host) ∈ wN w ∧ Cond.initialized y.cls ∈ Ts ∧ Cond.code y bytes maxL ret ∈ Ts ∧ (y.cls ≠ "java/lang/invoke/MethodHandle" ∧ y.cls ≠ "java/lang/invoke/VarHandle" ∧ (parseMethodDescriptor y.desc).map (fun d => d.parameters.length) = some n)
def mGood (Ts : List Cond) : Prop := ∀ x ∈ Ts, (x.onTables && x.keeps) = true ∨ ∃ ty, x = .arrayClass ty
theorem mGood_in {x : Cond} (hg : mGood Ts) (hx : x ∈ Ts) : GoodIn Ts (x :: Ts) := fun y hy => by
  rcases List.mem_cons.mp hy with rfl | q
  · exact ⟨hx, hg _ hx⟩
  · exact ⟨q, hg _ q⟩
theorem m_len {g : mv → Value} {av : List mv} {n : Nat} (h : av.length = n) : (av.map g).length = n := by rw [List.length_map]; exact h
def mNoV (G : mG) (v : mv) : Bool := match v with
  | .inr (.inr q) => !(Nat.beq (gk G q.1) 4)
  | _ => true
theorem m_noS {v : mv} (h : mOkV w sc v) (hn : mNoV (wG w) v = true) : mOkV w sc0 v := by
  rcases v with z | z | q
  · exact h
  · exact h
  · rcases h with h | h
    · exact Or.inl h
    · unfold mNoV at hn
      dsimp only at hn
      rw [h.2.1] at hn
      cases hn
def mNoS (G : mG) (av : List mv) : Bool := av.all (mNoV G)
theorem m_noSs {av : List mv} (h : ∀ v ∈ av, mOkV w sc v) (hn : mNoS (wG w) av = true) : ∀ v ∈ av, mOkV w sc0 v := fun v hv => m_noS (h v hv) (List.all_eq_true.mp hn v hv)
theorem m_callS (C0 : mCx f w sc cc nL own Ts) (hg : mGood Ts) {y : MethodName} {bytes : ByteArray} {maxL d n j : Nat} {ret : Option FieldType} (av : List mv) (hM : mMet f.2.1 w Ts d y bytes maxL ret av σ r σ1) (lk : mLk Ts own j y bytes maxL ret n) (hs : Cond.static y ∈ Ts) (hd : decode cc pc = .ok (.invokestatic j, 3)) (hst : st = av.reverse ++ rest) (hn : av.length = n) (hno : mNoS (wG w) av = true) (hR : d + 1 ≤ f.2.2.2.1.frames ∧ 8 + (maxL + 11) + 40 * d ≤ f.2.2.2.1.locals) (hcl : f.2.2.2.2.2.2.2.2.2.2.1 ≤ f.2.2.2.1.cells ∧ f.2.2.2.2.2.2.2.2.2.2.2.1 ≤ f.2.2.2.1.slots) (hW : ((rest.map (mV (wad w))).map fun v => v.category).sum ≤ 8) (hscr : mNext w sc σ σ1 σ2) (kk : mWW f w sc nL (pc + 3, ls, r.toList ++ rest, σ2)) : mWW f w sc nL (pc, ls, st, σ) := by
  have C1 := C0
  obtain ⟨hx, hb, hml, hown, hts, ⟨hK, hN⟩, hG, hsc⟩ := C0
  refine m_run (rest := rest) C1 (fun H locs L h1 h3 hL h5 => ⟨(av.map (mV (wad w))).toArray, ?_⟩) hscr (fun v hv => by rw [hst]; exact List.mem_append_right _ hv) kk
  have hav : ∀ v ∈ av, mOkV w sc0 v := m_noSs (fun v hv => h5 v (by rw [hst]; exact List.mem_append_left _ (List.mem_reverse.mpr hv))) hno
  have hpre : PreS (fs f) H (mPc w av σ) (av.map (mV (wad w))) := ⟨mPc_blind w av σ, fun U hU hW => ⟨rfl, by rw [hU]; exact h1, mK_warm hW ⟨hK, hN⟩⟩⟩
  have cb := callB_of (R := f.2.2.2.1) (rm := mRm d) (mc := 0) (ms := 0) n hts (mGood_in hg lk.2.2.1) rfl rfl rfl (hts _ lk.2.1) (hts _ lk.1) lk.2.2.2 hR
  exact va_runS (g := F0 (fm f) pc L (st.map (mV (wad w)))) ⟨hx, hb, hml, hown, hts⟩ (hM hav) ⟨cb, hts _ hs⟩ hpre rfl (m_len hn) hL (by show st.map _ = _; rw [hst, List.map_append, List.map_reverse]) (by show 2 * 0 + _ ≤ 8; omega) hd hcl
theorem m_callSN (C0 : mCx f w sc cc nL own Ts) (hg : mGood Ts) {y : MethodName} {bytes : ByteArray} {maxL d n j : Nat} {host : String} {ret : Option FieldType} (av : List mv) (hM : mMet f.2.1 w Ts d y bytes maxL ret av σ r σ1) (lk : mLn w Ts own host j y bytes maxL ret n) (hs : Cond.static y ∈ Ts) (hd : decode cc pc = .ok (.invokestatic j, 3)) (hst : st = av.reverse ++ rest) (hn : av.length = n) (hno : mNoS (wG w) av = true) (hR : d + 1 ≤ f.2.2.2.1.frames ∧ 8 + (maxL + 11) + 40 * d ≤ f.2.2.2.1.locals) (hcl : f.2.2.2.2.2.2.2.2.2.2.1 ≤ f.2.2.2.1.cells ∧ f.2.2.2.2.2.2.2.2.2.2.2.1 ≤ f.2.2.2.1.slots) (hW : ((rest.map (mV (wad w))).map fun v => v.category).sum ≤ 8) (hscr : mNext w sc σ σ1 σ2) (kk : mWW f w sc nL (pc + 3, ls, r.toList ++ rest, σ2)) : mWW f w sc nL (pc, ls, st, σ) := by
  have C1 := C0
  obtain ⟨hx, hb, hml, hown, hts, ⟨hK, hN⟩, hG, hsc⟩ := C0
  refine m_run (rest := rest) C1 (fun H locs L h1 h3 hL h5 => ⟨(av.map (mV (wad w))).toArray, ?_⟩) hscr (fun v hv => by rw [hst]; exact List.mem_append_right _ hv) kk
  have hav : ∀ v ∈ av, mOkV w sc0 v := m_noSs (fun v hv => h5 v (by rw [hst]; exact List.mem_append_left _ (List.mem_reverse.mpr hv))) hno
  have hpre : PreS (fs f) H (mPc w av σ) (av.map (mV (wad w))) := ⟨mPc_blind w av σ, fun U hU hW => ⟨rfl, by rw [hU]; exact h1, mK_warm hW ⟨hK, hN⟩⟩⟩
  have cb := va_cnB (R := f.2.2.2.1) (rm := mRm d) (mc := 0) (ms := 0) (host := host) n hts (mGood_in hg lk.2.2.1) rfl rfl rfl (hN _ lk.1) (hts _ lk.2.1) lk.2.2.2 hR
  exact va_runSN (g := F0 (fm f) pc L (st.map (mV (wad w)))) ⟨hx, hb, hml, hown, hts⟩ (hM hav) ⟨cb, hts _ hs, trivial⟩ hpre rfl (m_len hn) hL (by show st.map _ = _; rw [hst, List.map_append, List.map_reverse]) (by show 2 * 0 + _ ≤ 8; omega) hd hcl
theorem m_callV (C0 : mCx f w sc cc nL own Ts) (hg : mGood Ts) {y : MethodName} {bytes : ByteArray} {maxL d n j : Nat} {ret : Option FieldType} (q : Nat × Nat) (av : List mv) (hM : mMet f.2.1 w Ts d y bytes maxL ret (.inr (.inr q) :: av) σ r σ1) (lk : mLk Ts own j y bytes maxL ret n) (hs : Cond.instanceMethod y ∈ Ts ∧ Cond.selects y.cls y y ∈ Ts) (hd : decode cc pc = .ok (.invokevirtual j, 3)) (hst : st = av.reverse ++ .inr (.inr q) :: rest) (hn : av.length = n) (hno : mNoS (wG w) (.inr (.inr q) :: av) = true) (hq : gk (wG w) q.1 = 0) (hqc : ∃ T N, (wcl w)[gc (wG w) q.1]? = some (y.cls, T, N)) (hR : d + 1 ≤ f.2.2.2.1.frames ∧ 8 + (maxL + 11) + 40 * d ≤ f.2.2.2.1.locals) (hcl : f.2.2.2.2.2.2.2.2.2.2.1 ≤ f.2.2.2.1.cells ∧ f.2.2.2.2.2.2.2.2.2.2.2.1 ≤ f.2.2.2.1.slots) (hW : ((rest.map (mV (wad w))).map fun v => v.category).sum ≤ 8) (hscr : mNext w sc σ σ1 σ2) (kk : mWW f w sc nL (pc + 3, ls, r.toList ++ rest, σ2)) : mWW f w sc nL (pc, ls, st, σ) := by
  have C1 := C0
  obtain ⟨hx, hb, hml, hown, hts, ⟨hK, hN⟩, hG, hsc⟩ := C0
  refine m_run (rest := rest) C1 (fun H locs L h1 h3 hL h5 => ⟨(Value.ref (wad w q.1 q.2) :: av.map (mV (wad w))).toArray, ?_⟩) hscr (fun v hv => by rw [hst]; exact List.mem_append_right _ (List.mem_cons_of_mem _ hv)) kk
  have hav : ∀ v ∈ (.inr (.inr q) :: av : List mv), mOkV w sc0 v := m_noSs (fun v hv => h5 v (by
    rw [hst]
    rcases List.mem_cons.mp hv with rfl | h
    · exact List.mem_append_right _ List.mem_cons_self
    · exact List.mem_append_left _ (List.mem_reverse.mpr h))) hno
  have hV : q ∈ wV w := by
    rcases hav (.inr (.inr q)) List.mem_cons_self with h | h
    · exact h
    · exact absurd h.1 id
  obtain ⟨T, N, hcq⟩ := hqc
  obtain ⟨q0, e1, e2⟩ := mWd_at (σ := σ) hV
  rw [mEn_0 hq] at e2
  have hpre : PreV (fs f) H y.cls (wad w q.1 q.2) (mPc w (.inr (.inr q) :: av) σ) (av.map (mV (wad w))) := ⟨mPc_blind w _ σ, va_recv hK h1.1 hcq e2, fun U hU hW => ⟨rfl, by rw [hU]; exact h1, mK_warm hW ⟨hK, hN⟩⟩⟩
  have cb := callB_of (R := f.2.2.2.1) (rm := mRm d) (mc := 0) (ms := 0) n hts (mGood_in hg lk.2.2.1) rfl rfl rfl (hts _ lk.2.1) (hts _ lk.1) lk.2.2.2 hR
  exact va_runV (g := F0 (fm f) pc L (st.map (mV (wad w)))) ⟨hx, hb, hml, hown, hts⟩ (hM hav) ⟨cb, hts _ hs.1, hts _ hs.2⟩ hpre rfl (m_len hn) hL (by show st.map _ = _; rw [hst, List.map_append, List.map_reverse]; rfl) (by show 2 * 0 + _ ≤ 8; omega) hd hcl
end MCALL
