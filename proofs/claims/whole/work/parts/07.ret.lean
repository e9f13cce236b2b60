/-- a method's end: what it answers, the store that it leaves -/
def sc0 : mSc := (False, 0, 0, fun _ => 0)
def mPc (w : mWd) (av : List mv) (σ : mS) : Array Value → State → Prop := fun v U => v = (av.map (mV (wad w))).toArray ∧ mRep w σ U.heap ∧ mK w U
def mQc (w : mWd) (r : Option mv) (σ : mS) : Array Value → State → Outcome → State → Prop := fun _ st oc t => (oc = .returned (r.map (mV (wad w))) ∧ mRep w σ t.heap ∧ ∀ v, r = some v → mOkV w sc0 v) ∧ va_F (wA w) st t
def mRm (d : Nat) : Room := { frames := d, cells := 0, slots := 0, locals := 40 * d }
/-- the contract of a method at these arguments and this store: its answer and the store that it leaves -/
def mMet (l : Launch) (w : mWd) (Ts : List Cond) (d : Nat) (y : MethodName) (cc : ByteArray) (maxL : Nat) (ret : Option FieldType) (av : List mv) (σ : mS) (r : Option mv) (σ' : mS) : Prop :=
  (∀ v ∈ av, mOkV w sc0 v) → Met l y (Cond.code y cc maxL ret :: Ts) (mRm d) (mPc w av σ) (mQc w r σ') 0 0 (wA w)
def mFin (f : mFx) (w : mWd) (ret : Option FieldType) (r : Option mv) (σ : mS) : Prop := f.2.2.2.2.2.2.2.2.1.sig.returnType = ret ∧ f.2.2.2.2.2.2.2.2.1.locks = false ∧ f.2.2.2.2.2.2.2.2.2.2.1 = 0 ∧ f.2.2.2.2.2.2.2.2.2.2.2.1 = 0 ∧ f.2.2.2.2.2.2.2.2.2.2.2.2 = MQ f.2.2.2.2.2.2.2.1 (mQc w r σ) (fa f) (fs f) 0 0 (wA w)
theorem mPc_blind (w : mWd) (av : List mv) (σ : mS) : FrameBlind (mPc w av σ) := fun a U g mk h => ⟨h.1, h.2.1, va_K.moved (u := U) (U := U.calling g mk a) (Vm.Alike.refl U.vm) h.2.2.1, fun q hq => va_Nw.same rfl rfl (h.2.2.2 q hq)⟩
section MRET
variable {f : mFx} {w : mWd} {sc : mSc} {cc : ByteArray} {nL : Nat} {own : String} {Ts : List Cond} {pc : Nat} {ls : List (Option mv)} {σ : mS}
theorem m_ok0 {v : mv} (h : mOkV w sc v) (hi : ∀ q, v ≠ .inr (.inr q)) : mOkV w sc0 v := by
  rcases v with z | z | q
  · exact h
  · exact h
  · exact absurd rfl (hi q)
theorem m_iret (C0 : mCx f w sc cc nL own Ts) {ty : FieldType} {z : Int} (hF : mFin f w (some ty) (some (.inl z)) σ) (hd : decode cc pc = .ok (.ireturn, 1)) (hty : ty = .int ∨ (ty = .boolean ∧ (z = 0 ∨ z = 1))) : mWW f w sc nL (pc, ls, [.inl z], σ) := by
  obtain ⟨hx, hb, -⟩ := C0
  obtain ⟨p, l, e, R, s, m, args, below, meth, c, cells, slots, Q⟩ := f
  obtain ⟨hr, hlocks, h7, h8, h9⟩ := hF
  dsimp only [fa, fs] at h7 h8 h9 hr hlocks hx hb
  subst h7; subst h8; subst h9
  intro H locs L h1 h2 h3 h4 h5
  have hz : mOkV w sc0 (.inl z) := h5 (.inl z) List.mem_cons_self
  refine W.zret hx hb hr ?_ (fun t ht hW => ⟨⟨rfl, by rw [ht]; exact h1, fun v hv => by cases hv; exact hz⟩, h3.F ht⟩) h3.2.2 hd hlocks
  rcases hty with rfl | ⟨rfl, rfl | rfl⟩
  · rfl
  · decide
  · decide
theorem m_lret (C0 : mCx f w sc cc nL own Ts) {z : Int} (hF : mFin f w (some .long) (some (.inr (.inl z))) σ) (hd : decode cc pc = .ok (.lreturn, 1)) : mWW f w sc nL (pc, ls, [.inr (.inl z)], σ) := by
  obtain ⟨hx, hb, -⟩ := C0
  obtain ⟨p, l, e, R, s, m, args, below, meth, c, cells, slots, Q⟩ := f
  obtain ⟨hr, hlocks, h7, h8, h9⟩ := hF
  dsimp only [fa, fs] at h7 h8 h9 hr hlocks hx hb
  subst h7; subst h8; subst h9
  intro H locs L h1 h2 h3 h4 h5
  have hz : mOkV w sc0 (.inr (.inl z)) := h5 (.inr (.inl z)) List.mem_cons_self
  exact W.lret hx hb hr (fun t ht hW => ⟨⟨rfl, by rw [ht]; exact h1, fun v hv => by cases hv; exact hz⟩, h3.F ht⟩) h3.2.2 hd hlocks
theorem m_vret (C0 : mCx f w sc cc nL own Ts) (hF : mFin f w none none σ) (hd : decode cc pc = .ok (.return_, 1)) : mWW f w sc nL (pc, ls, [], σ) := by
  obtain ⟨hx, hb, -⟩ := C0
  obtain ⟨p, l, e, R, s, m, args, below, meth, c, cells, slots, Q⟩ := f
  obtain ⟨hr, hlocks, h7, h8, h9⟩ := hF
  dsimp only [fa, fs] at h7 h8 h9 hr hlocks hx hb
  subst h7; subst h8; subst h9
  intro H locs L h1 h2 h3 h4 h5
  exact W.vret hx hb hr (fun t ht hW => ⟨⟨rfl, by rw [ht]; exact h1, fun v hv => by cases hv⟩, h3.F ht⟩) h3.2.2 hd hlocks
end MRET
