/-! the law's loop, walked: calls leave the script's ints as they were (mfix) -/
theorem lwr_ret {p : Program} {l : Launch} {e : Env} {s : State} {m : MethodId} {below : List Frame} {meth : Method} {c : Code} {b : Nat} (hx : p.tables.exec = Jvm.exec) (hb : c.code = code) (hr : meth.sig.returnType = ret) (hlocks : meth.locks = false) {pc : Nat} {H : Heap} {ls : Array Slot} (hdg : decode code pc = .ok (.ireturn, 1)) : W p l e room_1 s m #[Value.ref b] below meth c H [] 600000 7302250 (fun t => ∃ o, t.status = .running ∧ Ended t below o ∧ (o = .returned (some (.int 1)) ∧ Framed s o t [] 600000 7302250)) (F0 m pc ls [.int 1]) := by
  intro T hT X
  obtain ⟨fs, hret, hrun, hended, hW, hframe⟩ := X.leave (v := some (.int 1)) (hlocks := hlocks) (fun h => by rw [hr] at h; cases h)
  have hmeth' : T.vm.method? m = some meth := X.method'
  refine ⟨T.setFrames fs, ?_, .returned (some (.int 1)), hrun, hended, rfl, ⟨_, rfl⟩, hW, hframe⟩
  jvm_step X.here [X.here.top, hx, hb, hdg, hmeth', hr, ret, narrow_b1]
  (try refine ⟨rfl, ?_⟩); (try refine ⟨rfl, ?_⟩)
  first | (intro acts; rw [hret _ acts rfl rfl rfl]) | rw [hret _ _ rfl rfl rfl]
  exact Steps.refl _
/-- the law's frame: its room, what it has made, its goal -/
def mLf (f : mFx) : Prop := f.2.2.2.1 = room_1 ∧ f.2.2.2.2.2.2.2.2.2.2.1 ≤ 600000 ∧ f.2.2.2.2.2.2.2.2.2.2.2.1 ≤ 7302250 ∧ f.2.2.2.2.2.2.2.2.1.sig.returnType = ret ∧ f.2.2.2.2.2.2.2.2.1.locks = false ∧ (∃ b, fa f = #[Value.ref b]) ∧ f.2.2.2.2.2.2.2.2.2.2.2.2 = (fun t => ∃ o, t.status = .running ∧ Ended t f.2.2.2.2.2.2.2.1 o ∧ (o = .returned (some (.int 1)) ∧ Framed (fs f) o t [] 600000 7302250))
section LAWW
variable {f : mFx} {e : mEv} {sc : mSc} {nL : Nat} {own : String} {pc : Nat} {ls : List (Option mv)} {st rest : List mv} {σ σ1 : mS} {r : Option mv}
theorem m_lawret (C0 : mCx f (mw0 e) sc cL_law nL own lw_kept) (hLf : mLf f) (hd : decode cL_law pc = .ok (.ireturn, 1)) {z : Int} (hz : z = 1) (hA : ∀ q, wA (mw0 e) q → (fs f).heap.size ≤ q := by assumption) : mWW f (mw0 e) sc nL (pc, ls, [.inl z], σ) := by
  subst hz
  obtain ⟨hx, hb, -⟩ := C0
  obtain ⟨p, l, e', R, s, m, args, below, meth, c, cells, slots, Q⟩ := f
  obtain ⟨h1, h2, h3, h4, h5, ⟨b, h6⟩, h7⟩ := hLf
  dsimp only [fa, fs] at h1 h2 h3 h4 h5 h6 h7 hx hb hA
  subst h1; subst h6; subst h7
  intro H locs L q1 q2 q3 q4 q5
  refine va_forget (fun q hq => hA _ (q3.2.2 q hq)) ?_
  refine W.widen h2 h3 ?_
  exact lwr_ret hx hb h4 h5 hd
theorem c_VL (hG : mGeo (mw0 e) lw_kept) {cc : ByteArray} (C0 : mCx f (mw0 e) sc cc nL own lw_kept) (hLf : mLf f) {y : MethodName} {bytes : ByteArray} {maxL d n j : Nat} {ret : Option FieldType} {q : Nat × Nat} {av : List mv} (hM : mMet f.2.1 (mw0 e) lw_kept d y bytes maxL ret (.inr (.inr q) :: av) σ r σ1) (lk : mGood lw_kept ∧ mLk lw_kept own j y bytes maxL ret n ∧ Cond.instanceMethod y ∈ lw_kept ∧ Cond.selects y.cls y y ∈ lw_kept) (hd : decode cc pc = .ok (.invokevirtual j, 3)) (hst : st = av.reverse ++ .inr (.inr q) :: rest) (hn : av.length = n) (hno : mNoS (wG (mw0 e)) (.inr (.inr q) :: av) = true) (hq : gk (wG (mw0 e)) q.1 = 0) (hqc : ∃ T N, (wcl (mw0 e))[gc (wG (mw0 e)) q.1]? = some (y.cls, T, N)) (hD : d ≤ 20) (hm : maxL ≤ 21) (hW : ((rest.map (mV (wad (mw0 e)))).map fun v => v.category).sum ≤ 8) (kk : mWW f (mw0 e) sc nL (pc + 3, ls, r.toList ++ rest, mfix G0 σ σ1)) : mWW f (mw0 e) sc nL (pc, ls, st, σ) :=
  m_callV C0 lk.1 q av hM lk.2.1 lk.2.2 hd hst hn hno hq hqc (by rw [hLf.1]; exact ⟨by show d + 1 ≤ 2048; omega, by show _ ≤ 84000; omega⟩) (by rw [hLf.1]; exact ⟨hLf.2.1, hLf.2.2.1⟩) hW (mNext_L hG) kk
end LAWW
noncomputable def L_L_law_18 (N : Nat) (n : Nat) : Nat → Int → mS → Option ((Int × mS) ⊕ (mS)) := @Nat.rec (fun _ => Nat → Int → mS → Option ((Int × mS) ⊕ (mS))) (fun _ _ _ => none) (fun n ih y0 x3 σ =>
  if (mw (((y0 : Nat) : Int) - 6)) < x3 then
    some (.inr σ)
  else
    if (0 ≤ x3 ∧ x3 < ((y0 : Nat) : Int)) then
      if (o_and (σ 99 y0 x3.toNat) 31) = 0 then
        if (0 ≤ (mw (x3 + 1)) ∧ (mw (x3 + 1)) < ((y0 : Nat) : Int)) ∧ (0 ≤ (mw (x3 + 2)) ∧ (mw (x3 + 2)) < ((y0 : Nat) : Int)) ∧ (0 ≤ (mw (x3 + 3)) ∧ (mw (x3 + 3)) < ((y0 : Nat) : Int)) ∧ (0 ≤ (mw (x3 + 4)) ∧ (mw (x3 + 4)) < ((y0 : Nat) : Int)) then
          Option.bind (f_X11_turn N (σ 99 y0 ((mw (x3 + 1)).toNat)) (σ 99 y0 ((mw (x3 + 2)).toNat)) (σ 99 y0 ((mw (x3 + 3)).toNat)) (σ 99 y0 ((mw (x3 + 4)).toNat)) σ) fun ⟨v2073, s2072⟩ =>
          if (0 ≤ (mw (x3 + 1)) ∧ (mw (x3 + 1)) < ((y0 : Nat) : Int)) ∧ (0 ≤ (mw (x3 + 2)) ∧ (mw (x3 + 2)) < ((y0 : Nat) : Int)) ∧ (0 ≤ (mw (x3 + 3)) ∧ (mw (x3 + 3)) < ((y0 : Nat) : Int)) ∧ (0 ≤ (mw (x3 + 4)) ∧ (mw (x3 + 4)) < ((y0 : Nat) : Int)) then
            Option.bind (f_X12_turn N ((mfix G0 σ s2072) 99 y0 ((mw (x3 + 1)).toNat)) ((mfix G0 σ s2072) 99 y0 ((mw (x3 + 2)).toNat)) ((mfix G0 σ s2072) 99 y0 ((mw (x3 + 3)).toNat)) ((mfix G0 σ s2072) 99 y0 ((mw (x3 + 4)).toNat)) (mfix G0 σ s2072)) fun ⟨v2075, s2074⟩ =>
            if v2073 = v2075 then
              ih y0 (mw (x3 + 6)) (mfix G0 (mfix G0 σ s2072) s2074)
            else
              some (.inl ((0 : Int), (mfix G0 (mfix G0 σ s2072) s2074)))
          else none
        else none
      else
      if (o_and (σ 99 y0 x3.toNat) 31) = 1 then
        if (0 ≤ (mw (x3 + 1)) ∧ (mw (x3 + 1)) < ((y0 : Nat) : Int)) then
          Option.bind (f_X11_drop N (σ 99 y0 ((mw (x3 + 1)).toNat)) σ) fun ⟨v2080, s2079⟩ =>
          if (0 ≤ (mw (x3 + 1)) ∧ (mw (x3 + 1)) < ((y0 : Nat) : Int)) then
            Option.bind (f_X12_drop N ((mfix G0 σ s2079) 99 y0 ((mw (x3 + 1)).toNat)) (mfix G0 σ s2079)) fun ⟨v2082, s2081⟩ =>
            if v2080 = v2082 then
              ih y0 (mw (x3 + 6)) (mfix G0 (mfix G0 σ s2079) s2081)
            else
              some (.inl ((0 : Int), (mfix G0 (mfix G0 σ s2079) s2081)))
          else none
        else none
      else
      if (o_and (σ 99 y0 x3.toNat) 31) = 2 then
        Option.bind (f_X11_group N σ) fun ⟨v2087, s2086⟩ =>
        Option.bind (f_X12_group N (mfix G0 σ s2086)) fun ⟨v2089, s2088⟩ =>
        if v2087 = v2089 then
          ih y0 (mw (x3 + 6)) (mfix G0 (mfix G0 σ s2086) s2088)
        else
          some (.inl ((0 : Int), (mfix G0 (mfix G0 σ s2086) s2088)))
      else
      if (o_and (σ 99 y0 x3.toNat) 31) = 3 then
        if (0 ≤ (mw (x3 + 1)) ∧ (mw (x3 + 1)) < ((y0 : Nat) : Int)) then
          Option.bind (f_X11_about N (σ 99 y0 ((mw (x3 + 1)).toNat)) σ) fun ⟨v2094, s2093⟩ =>
          if (0 ≤ (mw (x3 + 1)) ∧ (mw (x3 + 1)) < ((y0 : Nat) : Int)) then
            Option.bind (f_X12_about N ((mfix G0 σ s2093) 99 y0 ((mw (x3 + 1)).toNat)) (mfix G0 σ s2093)) fun ⟨v2096, s2095⟩ =>
            if v2094 = v2096 then
              ih y0 (mw (x3 + 6)) (mfix G0 (mfix G0 σ s2093) s2095)
            else
              some (.inl ((0 : Int), (mfix G0 (mfix G0 σ s2093) s2095)))
          else none
        else none
      else
      if (o_and (σ 99 y0 x3.toNat) 31) = 4 then
        if (0 ≤ (mw (x3 + 1)) ∧ (mw (x3 + 1)) < ((y0 : Nat) : Int)) ∧ (0 ≤ (mw (x3 + 2)) ∧ (mw (x3 + 2)) < ((y0 : Nat) : Int)) then
          Option.bind (f_X11_element N (σ 99 y0 ((mw (x3 + 1)).toNat)) (σ 99 y0 ((mw (x3 + 2)).toNat)) σ) fun ⟨v2101, s2100⟩ =>
          if (0 ≤ (mw (x3 + 1)) ∧ (mw (x3 + 1)) < ((y0 : Nat) : Int)) ∧ (0 ≤ (mw (x3 + 2)) ∧ (mw (x3 + 2)) < ((y0 : Nat) : Int)) then
            Option.bind (f_X12_element N ((mfix G0 σ s2100) 99 y0 ((mw (x3 + 1)).toNat)) ((mfix G0 σ s2100) 99 y0 ((mw (x3 + 2)).toNat)) (mfix G0 σ s2100)) fun ⟨v2103, s2102⟩ =>
            if v2101 = v2103 then
              ih y0 (mw (x3 + 6)) (mfix G0 (mfix G0 σ s2100) s2102)
            else
              some (.inl ((0 : Int), (mfix G0 (mfix G0 σ s2100) s2102)))
          else none
        else none
      else
      if (o_and (σ 99 y0 x3.toNat) 31) = 5 then
        if (0 ≤ (mw (x3 + 1)) ∧ (mw (x3 + 1)) < ((y0 : Nat) : Int)) ∧ (0 ≤ (mw (x3 + 2)) ∧ (mw (x3 + 2)) < ((y0 : Nat) : Int)) then
          Option.bind (f_X11_times N (σ 99 y0 ((mw (x3 + 1)).toNat)) (σ 99 y0 ((mw (x3 + 2)).toNat)) σ) fun ⟨v2108, s2107⟩ =>
          if (0 ≤ (mw (x3 + 1)) ∧ (mw (x3 + 1)) < ((y0 : Nat) : Int)) ∧ (0 ≤ (mw (x3 + 2)) ∧ (mw (x3 + 2)) < ((y0 : Nat) : Int)) then
            Option.bind (f_X12_times N ((mfix G0 σ s2107) 99 y0 ((mw (x3 + 1)).toNat)) ((mfix G0 σ s2107) 99 y0 ((mw (x3 + 2)).toNat)) (mfix G0 σ s2107)) fun ⟨v2110, s2109⟩ =>
            if v2108 = v2110 then
              ih y0 (mw (x3 + 6)) (mfix G0 (mfix G0 σ s2107) s2109)
            else
              some (.inl ((0 : Int), (mfix G0 (mfix G0 σ s2107) s2109)))
          else none
        else none
      else
      if (o_and (σ 99 y0 x3.toNat) 31) = 6 then
        if (0 ≤ (mw (x3 + 1)) ∧ (mw (x3 + 1)) < ((y0 : Nat) : Int)) ∧ (0 ≤ (mw (x3 + 2)) ∧ (mw (x3 + 2)) < ((y0 : Nat) : Int)) then
          Option.bind (f_X11_of N (σ 99 y0 ((mw (x3 + 1)).toNat)) (σ 99 y0 ((mw (x3 + 2)).toNat)) σ) fun ⟨v2115, s2114⟩ =>
          if (0 ≤ (mw (x3 + 1)) ∧ (mw (x3 + 1)) < ((y0 : Nat) : Int)) ∧ (0 ≤ (mw (x3 + 2)) ∧ (mw (x3 + 2)) < ((y0 : Nat) : Int)) then
            Option.bind (f_X12_of N ((mfix G0 σ s2114) 99 y0 ((mw (x3 + 1)).toNat)) ((mfix G0 σ s2114) 99 y0 ((mw (x3 + 2)).toNat)) (mfix G0 σ s2114)) fun ⟨v2117, s2116⟩ =>
            if v2115 = v2117 then
              ih y0 (mw (x3 + 6)) (mfix G0 (mfix G0 σ s2114) s2116)
            else
              some (.inl ((0 : Int), (mfix G0 (mfix G0 σ s2114) s2116)))
          else none
        else none
      else
      if (o_and (σ 99 y0 x3.toNat) 31) = 7 then
        if (0 ≤ (mw (x3 + 1)) ∧ (mw (x3 + 1)) < ((y0 : Nat) : Int)) ∧ (0 ≤ (mw (x3 + 2)) ∧ (mw (x3 + 2)) < ((y0 : Nat) : Int)) then
          Option.bind (f_X11_sign N (σ 99 y0 ((mw (x3 + 1)).toNat)) (σ 99 y0 ((mw (x3 + 2)).toNat)) σ) fun ⟨v2122, s2121⟩ =>
          if (0 ≤ (mw (x3 + 1)) ∧ (mw (x3 + 1)) < ((y0 : Nat) : Int)) ∧ (0 ≤ (mw (x3 + 2)) ∧ (mw (x3 + 2)) < ((y0 : Nat) : Int)) then
            Option.bind (f_X12_sign N ((mfix G0 σ s2121) 99 y0 ((mw (x3 + 1)).toNat)) ((mfix G0 σ s2121) 99 y0 ((mw (x3 + 2)).toNat)) (mfix G0 σ s2121)) fun ⟨v2124, s2123⟩ =>
            if v2122 = v2124 then
              ih y0 (mw (x3 + 6)) (mfix G0 (mfix G0 σ s2121) s2123)
            else
              some (.inl ((0 : Int), (mfix G0 (mfix G0 σ s2121) s2123)))
          else none
        else none
      else
      if (o_and (σ 99 y0 x3.toNat) 31) = 8 then
        if (0 ≤ (mw (x3 + 1)) ∧ (mw (x3 + 1)) < ((y0 : Nat) : Int)) ∧ (0 ≤ (mw (x3 + 2)) ∧ (mw (x3 + 2)) < ((y0 : Nat) : Int)) ∧ (0 ≤ (mw (x3 + 3)) ∧ (mw (x3 + 3)) < ((y0 : Nat) : Int)) ∧ (0 ≤ (mw (x3 + 4)) ∧ (mw (x3 + 4)) < ((y0 : Nat) : Int)) ∧ (0 ≤ (mw (x3 + 5)) ∧ (mw (x3 + 5)) < ((y0 : Nat) : Int)) then
          Option.bind (f_X11_put N (σ 99 y0 ((mw (x3 + 1)).toNat)) (σ 99 y0 ((mw (x3 + 2)).toNat)) (σ 99 y0 ((mw (x3 + 3)).toNat)) (σ 99 y0 ((mw (x3 + 4)).toNat)) (σ 99 y0 ((mw (x3 + 5)).toNat)) σ) fun ⟨v2129, s2128⟩ =>
          if (0 ≤ (mw (x3 + 1)) ∧ (mw (x3 + 1)) < ((y0 : Nat) : Int)) ∧ (0 ≤ (mw (x3 + 2)) ∧ (mw (x3 + 2)) < ((y0 : Nat) : Int)) ∧ (0 ≤ (mw (x3 + 3)) ∧ (mw (x3 + 3)) < ((y0 : Nat) : Int)) ∧ (0 ≤ (mw (x3 + 4)) ∧ (mw (x3 + 4)) < ((y0 : Nat) : Int)) ∧ (0 ≤ (mw (x3 + 5)) ∧ (mw (x3 + 5)) < ((y0 : Nat) : Int)) then
            Option.bind (f_X12_put N ((mfix G0 σ s2128) 99 y0 ((mw (x3 + 1)).toNat)) ((mfix G0 σ s2128) 99 y0 ((mw (x3 + 2)).toNat)) ((mfix G0 σ s2128) 99 y0 ((mw (x3 + 3)).toNat)) ((mfix G0 σ s2128) 99 y0 ((mw (x3 + 4)).toNat)) ((mfix G0 σ s2128) 99 y0 ((mw (x3 + 5)).toNat)) (mfix G0 σ s2128)) fun ⟨v2131, s2130⟩ =>
            if v2129 = v2131 then
              ih y0 (mw (x3 + 6)) (mfix G0 (mfix G0 σ s2128) s2130)
            else
              some (.inl ((0 : Int), (mfix G0 (mfix G0 σ s2128) s2130)))
          else none
        else none
      else
      if (o_and (σ 99 y0 x3.toNat) 31) = 9 then
        if (0 ≤ (mw (x3 + 1)) ∧ (mw (x3 + 1)) < ((y0 : Nat) : Int)) ∧ (0 ≤ (mw (x3 + 2)) ∧ (mw (x3 + 2)) < ((y0 : Nat) : Int)) ∧ (0 ≤ (mw (x3 + 3)) ∧ (mw (x3 + 3)) < ((y0 : Nat) : Int)) ∧ (0 ≤ (mw (x3 + 4)) ∧ (mw (x3 + 4)) < ((y0 : Nat) : Int)) then
          Option.bind (f_X11_number N (σ 99 y0 ((mw (x3 + 1)).toNat)) (σ 99 y0 ((mw (x3 + 2)).toNat)) (σ 99 y0 ((mw (x3 + 3)).toNat)) (σ 99 y0 ((mw (x3 + 4)).toNat)) σ) fun ⟨v2136, s2135⟩ =>
          if (0 ≤ (mw (x3 + 1)) ∧ (mw (x3 + 1)) < ((y0 : Nat) : Int)) ∧ (0 ≤ (mw (x3 + 2)) ∧ (mw (x3 + 2)) < ((y0 : Nat) : Int)) ∧ (0 ≤ (mw (x3 + 3)) ∧ (mw (x3 + 3)) < ((y0 : Nat) : Int)) ∧ (0 ≤ (mw (x3 + 4)) ∧ (mw (x3 + 4)) < ((y0 : Nat) : Int)) then
            Option.bind (f_X12_number N ((mfix G0 σ s2135) 99 y0 ((mw (x3 + 1)).toNat)) ((mfix G0 σ s2135) 99 y0 ((mw (x3 + 2)).toNat)) ((mfix G0 σ s2135) 99 y0 ((mw (x3 + 3)).toNat)) ((mfix G0 σ s2135) 99 y0 ((mw (x3 + 4)).toNat)) (mfix G0 σ s2135)) fun ⟨v2138, s2137⟩ =>
            if v2136 = v2138 then
              ih y0 (mw (x3 + 6)) (mfix G0 (mfix G0 σ s2135) s2137)
            else
              some (.inl ((0 : Int), (mfix G0 (mfix G0 σ s2135) s2137)))
          else none
        else none
      else
      if (o_and (σ 99 y0 x3.toNat) 31) = 10 then
        if (0 ≤ (mw (x3 + 1)) ∧ (mw (x3 + 1)) < ((y0 : Nat) : Int)) then
          Option.bind (f_X11_degree N (σ 99 y0 ((mw (x3 + 1)).toNat)) σ) fun ⟨v2143, s2142⟩ =>
          if (0 ≤ (mw (x3 + 1)) ∧ (mw (x3 + 1)) < ((y0 : Nat) : Int)) then
            Option.bind (f_X12_degree N ((mfix G0 σ s2142) 99 y0 ((mw (x3 + 1)).toNat)) (mfix G0 σ s2142)) fun ⟨v2145, s2144⟩ =>
            if v2143 = v2145 then
              ih y0 (mw (x3 + 6)) (mfix G0 (mfix G0 σ s2142) s2144)
            else
              some (.inl ((0 : Int), (mfix G0 (mfix G0 σ s2142) s2144)))
          else none
        else none
      else
      if (o_and (σ 99 y0 x3.toNat) 31) = 11 then
        if (0 ≤ (mw (x3 + 1)) ∧ (mw (x3 + 1)) < ((y0 : Nat) : Int)) ∧ (0 ≤ (mw (x3 + 2)) ∧ (mw (x3 + 2)) < ((y0 : Nat) : Int)) ∧ (0 ≤ (mw (x3 + 3)) ∧ (mw (x3 + 3)) < ((y0 : Nat) : Int)) ∧ (0 ≤ (mw (x3 + 4)) ∧ (mw (x3 + 4)) < ((y0 : Nat) : Int)) ∧ (0 ≤ (mw (x3 + 5)) ∧ (mw (x3 + 5)) < ((y0 : Nat) : Int)) then
          Option.bind (f_X11_sum N (σ 99 y0 ((mw (x3 + 1)).toNat)) (σ 99 y0 ((mw (x3 + 2)).toNat)) (σ 99 y0 ((mw (x3 + 3)).toNat)) (σ 99 y0 ((mw (x3 + 4)).toNat)) (σ 99 y0 ((mw (x3 + 5)).toNat)) σ) fun ⟨v2150, s2149⟩ =>
          if (0 ≤ (mw (x3 + 1)) ∧ (mw (x3 + 1)) < ((y0 : Nat) : Int)) ∧ (0 ≤ (mw (x3 + 2)) ∧ (mw (x3 + 2)) < ((y0 : Nat) : Int)) ∧ (0 ≤ (mw (x3 + 3)) ∧ (mw (x3 + 3)) < ((y0 : Nat) : Int)) ∧ (0 ≤ (mw (x3 + 4)) ∧ (mw (x3 + 4)) < ((y0 : Nat) : Int)) ∧ (0 ≤ (mw (x3 + 5)) ∧ (mw (x3 + 5)) < ((y0 : Nat) : Int)) then
            Option.bind (f_X12_sum N ((mfix G0 σ s2149) 99 y0 ((mw (x3 + 1)).toNat)) ((mfix G0 σ s2149) 99 y0 ((mw (x3 + 2)).toNat)) ((mfix G0 σ s2149) 99 y0 ((mw (x3 + 3)).toNat)) ((mfix G0 σ s2149) 99 y0 ((mw (x3 + 4)).toNat)) ((mfix G0 σ s2149) 99 y0 ((mw (x3 + 5)).toNat)) (mfix G0 σ s2149)) fun ⟨v2152, s2151⟩ =>
            if v2150 = v2152 then
              ih y0 (mw (x3 + 6)) (mfix G0 (mfix G0 σ s2149) s2151)
            else
              some (.inl ((0 : Int), (mfix G0 (mfix G0 σ s2149) s2151)))
          else none
        else none
      else
      if (o_and (σ 99 y0 x3.toNat) 31) = 12 then
        if (0 ≤ (mw (x3 + 1)) ∧ (mw (x3 + 1)) < ((y0 : Nat) : Int)) ∧ (0 ≤ (mw (x3 + 2)) ∧ (mw (x3 + 2)) < ((y0 : Nat) : Int)) ∧ (0 ≤ (mw (x3 + 3)) ∧ (mw (x3 + 3)) < ((y0 : Nat) : Int)) then
          Option.bind (f_X11_product N (σ 99 y0 ((mw (x3 + 1)).toNat)) (σ 99 y0 ((mw (x3 + 2)).toNat)) (σ 99 y0 ((mw (x3 + 3)).toNat)) σ) fun ⟨v2157, s2156⟩ =>
          if (0 ≤ (mw (x3 + 1)) ∧ (mw (x3 + 1)) < ((y0 : Nat) : Int)) ∧ (0 ≤ (mw (x3 + 2)) ∧ (mw (x3 + 2)) < ((y0 : Nat) : Int)) ∧ (0 ≤ (mw (x3 + 3)) ∧ (mw (x3 + 3)) < ((y0 : Nat) : Int)) then
            Option.bind (f_X12_product_ N ((mfix G0 σ s2156) 99 y0 ((mw (x3 + 1)).toNat)) ((mfix G0 σ s2156) 99 y0 ((mw (x3 + 2)).toNat)) ((mfix G0 σ s2156) 99 y0 ((mw (x3 + 3)).toNat)) (mfix G0 σ s2156)) fun ⟨v2159, s2158⟩ =>
            if v2157 = v2159 then
              ih y0 (mw (x3 + 6)) (mfix G0 (mfix G0 σ s2156) s2158)
            else
              some (.inl ((0 : Int), (mfix G0 (mfix G0 σ s2156) s2158)))
          else none
        else none
      else
      if (o_and (σ 99 y0 x3.toNat) 31) = 13 then
        if (0 ≤ (mw (x3 + 1)) ∧ (mw (x3 + 1)) < ((y0 : Nat) : Int)) ∧ (0 ≤ (mw (x3 + 2)) ∧ (mw (x3 + 2)) < ((y0 : Nat) : Int)) ∧ (0 ≤ (mw (x3 + 3)) ∧ (mw (x3 + 3)) < ((y0 : Nat) : Int)) then
          Option.bind (f_X11_turned N (σ 99 y0 ((mw (x3 + 1)).toNat)) (σ 99 y0 ((mw (x3 + 2)).toNat)) (σ 99 y0 ((mw (x3 + 3)).toNat)) σ) fun ⟨v2164, s2163⟩ =>
          if (0 ≤ (mw (x3 + 1)) ∧ (mw (x3 + 1)) < ((y0 : Nat) : Int)) ∧ (0 ≤ (mw (x3 + 2)) ∧ (mw (x3 + 2)) < ((y0 : Nat) : Int)) ∧ (0 ≤ (mw (x3 + 3)) ∧ (mw (x3 + 3)) < ((y0 : Nat) : Int)) then
            Option.bind (f_X12_turned N ((mfix G0 σ s2163) 99 y0 ((mw (x3 + 1)).toNat)) ((mfix G0 σ s2163) 99 y0 ((mw (x3 + 2)).toNat)) ((mfix G0 σ s2163) 99 y0 ((mw (x3 + 3)).toNat)) (mfix G0 σ s2163)) fun ⟨v2166, s2165⟩ =>
            if v2164 = v2166 then
              ih y0 (mw (x3 + 6)) (mfix G0 (mfix G0 σ s2163) s2165)
            else
              some (.inl ((0 : Int), (mfix G0 (mfix G0 σ s2163) s2165)))
          else none
        else none
      else
      if (o_and (σ 99 y0 x3.toNat) 31) = 14 then
        if (0 ≤ (mw (x3 + 1)) ∧ (mw (x3 + 1)) < ((y0 : Nat) : Int)) ∧ (0 ≤ (mw (x3 + 2)) ∧ (mw (x3 + 2)) < ((y0 : Nat) : Int)) ∧ (0 ≤ (mw (x3 + 3)) ∧ (mw (x3 + 3)) < ((y0 : Nat) : Int)) then
          Option.bind (f_X11_mean N (σ 99 y0 ((mw (x3 + 1)).toNat)) (σ 99 y0 ((mw (x3 + 2)).toNat)) (σ 99 y0 ((mw (x3 + 3)).toNat)) σ) fun ⟨v2171, s2170⟩ =>
          if (0 ≤ (mw (x3 + 1)) ∧ (mw (x3 + 1)) < ((y0 : Nat) : Int)) ∧ (0 ≤ (mw (x3 + 2)) ∧ (mw (x3 + 2)) < ((y0 : Nat) : Int)) ∧ (0 ≤ (mw (x3 + 3)) ∧ (mw (x3 + 3)) < ((y0 : Nat) : Int)) then
            Option.bind (f_X12_mean N ((mfix G0 σ s2170) 99 y0 ((mw (x3 + 1)).toNat)) ((mfix G0 σ s2170) 99 y0 ((mw (x3 + 2)).toNat)) ((mfix G0 σ s2170) 99 y0 ((mw (x3 + 3)).toNat)) (mfix G0 σ s2170)) fun ⟨v2173, s2172⟩ =>
            if v2171 = v2173 then
              ih y0 (mw (x3 + 6)) (mfix G0 (mfix G0 σ s2170) s2172)
            else
              some (.inl ((0 : Int), (mfix G0 (mfix G0 σ s2170) s2172)))
          else none
        else none
      else
      if (o_and (σ 99 y0 x3.toNat) 31) = 15 then
        if (0 ≤ (mw (x3 + 1)) ∧ (mw (x3 + 1)) < ((y0 : Nat) : Int)) ∧ (0 ≤ (mw (x3 + 2)) ∧ (mw (x3 + 2)) < ((y0 : Nat) : Int)) then
          Option.bind (f_X11_stays N (σ 99 y0 ((mw (x3 + 1)).toNat)) (σ 99 y0 ((mw (x3 + 2)).toNat)) σ) fun ⟨v2178, s2177⟩ =>
          if (0 ≤ (mw (x3 + 1)) ∧ (mw (x3 + 1)) < ((y0 : Nat) : Int)) ∧ (0 ≤ (mw (x3 + 2)) ∧ (mw (x3 + 2)) < ((y0 : Nat) : Int)) then
            Option.bind (f_X12_stays N ((mfix G0 σ s2177) 99 y0 ((mw (x3 + 1)).toNat)) ((mfix G0 σ s2177) 99 y0 ((mw (x3 + 2)).toNat)) (mfix G0 σ s2177)) fun ⟨v2180, s2179⟩ =>
            if v2178 = v2180 then
              ih y0 (mw (x3 + 6)) (mfix G0 (mfix G0 σ s2177) s2179)
            else
              some (.inl ((0 : Int), (mfix G0 (mfix G0 σ s2177) s2179)))
          else none
        else none
      else
      if (o_and (σ 99 y0 x3.toNat) 31) = 16 then
        if (0 ≤ (mw (x3 + 1)) ∧ (mw (x3 + 1)) < ((y0 : Nat) : Int)) ∧ (0 ≤ (mw (x3 + 2)) ∧ (mw (x3 + 2)) < ((y0 : Nat) : Int)) then
          Option.bind (f_X11_count N (σ 99 y0 ((mw (x3 + 1)).toNat)) (σ 99 y0 ((mw (x3 + 2)).toNat)) σ) fun ⟨v2185, s2184⟩ =>
          if (0 ≤ (mw (x3 + 1)) ∧ (mw (x3 + 1)) < ((y0 : Nat) : Int)) ∧ (0 ≤ (mw (x3 + 2)) ∧ (mw (x3 + 2)) < ((y0 : Nat) : Int)) then
            Option.bind (f_X12_count N ((mfix G0 σ s2184) 99 y0 ((mw (x3 + 1)).toNat)) ((mfix G0 σ s2184) 99 y0 ((mw (x3 + 2)).toNat)) (mfix G0 σ s2184)) fun ⟨v2187, s2186⟩ =>
            if v2185 = v2187 then
              ih y0 (mw (x3 + 6)) (mfix G0 (mfix G0 σ s2184) s2186)
            else
              some (.inl ((0 : Int), (mfix G0 (mfix G0 σ s2184) s2186)))
          else none
        else none
      else
      if (o_and (σ 99 y0 x3.toNat) 31) = 17 then
        if (0 ≤ (mw (x3 + 1)) ∧ (mw (x3 + 1)) < ((y0 : Nat) : Int)) ∧ (0 ≤ (mw (x3 + 2)) ∧ (mw (x3 + 2)) < ((y0 : Nat) : Int)) then
          Option.bind (f_X11_series N (σ 99 y0 ((mw (x3 + 1)).toNat)) (σ 99 y0 ((mw (x3 + 2)).toNat)) σ) fun ⟨v2192, s2191⟩ =>
          if (0 ≤ (mw (x3 + 1)) ∧ (mw (x3 + 1)) < ((y0 : Nat) : Int)) ∧ (0 ≤ (mw (x3 + 2)) ∧ (mw (x3 + 2)) < ((y0 : Nat) : Int)) then
            Option.bind (f_X12_series N ((mfix G0 σ s2191) 99 y0 ((mw (x3 + 1)).toNat)) ((mfix G0 σ s2191) 99 y0 ((mw (x3 + 2)).toNat)) (mfix G0 σ s2191)) fun ⟨v2194, s2193⟩ =>
            if v2192 = v2194 then
              ih y0 (mw (x3 + 6)) (mfix G0 (mfix G0 σ s2191) s2193)
            else
              some (.inl ((0 : Int), (mfix G0 (mfix G0 σ s2191) s2193)))
          else none
        else none
      else
      if (o_and (σ 99 y0 x3.toNat) 31) = 18 then
        if (0 ≤ (mw (x3 + 1)) ∧ (mw (x3 + 1)) < ((y0 : Nat) : Int)) ∧ (0 ≤ (mw (x3 + 2)) ∧ (mw (x3 + 2)) < ((y0 : Nat) : Int)) then
          Option.bind (f_X11_few N (σ 99 y0 ((mw (x3 + 1)).toNat)) (σ 99 y0 ((mw (x3 + 2)).toNat)) σ) fun ⟨v2199, s2198⟩ =>
          if (0 ≤ (mw (x3 + 1)) ∧ (mw (x3 + 1)) < ((y0 : Nat) : Int)) ∧ (0 ≤ (mw (x3 + 2)) ∧ (mw (x3 + 2)) < ((y0 : Nat) : Int)) then
            Option.bind (f_X12_few N ((mfix G0 σ s2198) 99 y0 ((mw (x3 + 1)).toNat)) ((mfix G0 σ s2198) 99 y0 ((mw (x3 + 2)).toNat)) (mfix G0 σ s2198)) fun ⟨v2201, s2200⟩ =>
            if v2199 = v2201 then
              ih y0 (mw (x3 + 6)) (mfix G0 (mfix G0 σ s2198) s2200)
            else
              some (.inl ((0 : Int), (mfix G0 (mfix G0 σ s2198) s2200)))
          else none
        else none
      else
      if (o_and (σ 99 y0 x3.toNat) 31) = 19 then
        if (0 ≤ (mw (x3 + 1)) ∧ (mw (x3 + 1)) < ((y0 : Nat) : Int)) ∧ (0 ≤ (mw (x3 + 2)) ∧ (mw (x3 + 2)) < ((y0 : Nat) : Int)) then
          Option.bind (f_X11_laws N (σ 99 y0 ((mw (x3 + 1)).toNat)) (σ 99 y0 ((mw (x3 + 2)).toNat)) σ) fun ⟨v2206, s2205⟩ =>
          if (0 ≤ (mw (x3 + 1)) ∧ (mw (x3 + 1)) < ((y0 : Nat) : Int)) ∧ (0 ≤ (mw (x3 + 2)) ∧ (mw (x3 + 2)) < ((y0 : Nat) : Int)) then
            Option.bind (f_X12_laws N ((mfix G0 σ s2205) 99 y0 ((mw (x3 + 1)).toNat)) ((mfix G0 σ s2205) 99 y0 ((mw (x3 + 2)).toNat)) (mfix G0 σ s2205)) fun ⟨v2208, s2207⟩ =>
            if v2206 = v2208 then
              ih y0 (mw (x3 + 6)) (mfix G0 (mfix G0 σ s2205) s2207)
            else
              some (.inl ((0 : Int), (mfix G0 (mfix G0 σ s2205) s2207)))
          else none
        else none
      else
      if (o_and (σ 99 y0 x3.toNat) 31) = 20 then
        if (0 ≤ (mw (x3 + 1)) ∧ (mw (x3 + 1)) < ((y0 : Nat) : Int)) then
          Option.bind (f_X11_made N (σ 99 y0 ((mw (x3 + 1)).toNat)) σ) fun ⟨v2213, s2212⟩ =>
          if (0 ≤ (mw (x3 + 1)) ∧ (mw (x3 + 1)) < ((y0 : Nat) : Int)) then
            Option.bind (f_X12_made N ((mfix G0 σ s2212) 99 y0 ((mw (x3 + 1)).toNat)) (mfix G0 σ s2212)) fun ⟨v2215, s2214⟩ =>
            if v2213 = v2215 then
              ih y0 (mw (x3 + 6)) (mfix G0 (mfix G0 σ s2212) s2214)
            else
              some (.inl ((0 : Int), (mfix G0 (mfix G0 σ s2212) s2214)))
          else none
        else none
      else
      if (o_and (σ 99 y0 x3.toNat) 31) = 21 then
        if (0 ≤ (mw (x3 + 1)) ∧ (mw (x3 + 1)) < ((y0 : Nat) : Int)) ∧ (0 ≤ (mw (x3 + 2)) ∧ (mw (x3 + 2)) < ((y0 : Nat) : Int)) then
          Option.bind (f_X11_part N (σ 99 y0 ((mw (x3 + 1)).toNat)) (σ 99 y0 ((mw (x3 + 2)).toNat)) σ) fun ⟨v2220, s2219⟩ =>
          if (0 ≤ (mw (x3 + 1)) ∧ (mw (x3 + 1)) < ((y0 : Nat) : Int)) ∧ (0 ≤ (mw (x3 + 2)) ∧ (mw (x3 + 2)) < ((y0 : Nat) : Int)) then
            Option.bind (f_X12_part N ((mfix G0 σ s2219) 99 y0 ((mw (x3 + 1)).toNat)) ((mfix G0 σ s2219) 99 y0 ((mw (x3 + 2)).toNat)) (mfix G0 σ s2219)) fun ⟨v2222, s2221⟩ =>
            if v2220 = v2222 then
              ih y0 (mw (x3 + 6)) (mfix G0 (mfix G0 σ s2219) s2221)
            else
              some (.inl ((0 : Int), (mfix G0 (mfix G0 σ s2219) s2221)))
          else none
        else none
      else
      if (o_and (σ 99 y0 x3.toNat) 31) = 22 then
        if (0 ≤ (mw (x3 + 1)) ∧ (mw (x3 + 1)) < ((y0 : Nat) : Int)) ∧ (0 ≤ (mw (x3 + 2)) ∧ (mw (x3 + 2)) < ((y0 : Nat) : Int)) ∧ (0 ≤ (mw (x3 + 3)) ∧ (mw (x3 + 3)) < ((y0 : Nat) : Int)) ∧ (0 ≤ (mw (x3 + 4)) ∧ (mw (x3 + 4)) < ((y0 : Nat) : Int)) then
          Option.bind (f_X11_value N (σ 99 y0 ((mw (x3 + 1)).toNat)) (σ 99 y0 ((mw (x3 + 2)).toNat)) (σ 99 y0 ((mw (x3 + 3)).toNat)) (σ 99 y0 ((mw (x3 + 4)).toNat)) σ) fun ⟨v2227, s2226⟩ =>
          if (0 ≤ (mw (x3 + 1)) ∧ (mw (x3 + 1)) < ((y0 : Nat) : Int)) ∧ (0 ≤ (mw (x3 + 2)) ∧ (mw (x3 + 2)) < ((y0 : Nat) : Int)) ∧ (0 ≤ (mw (x3 + 3)) ∧ (mw (x3 + 3)) < ((y0 : Nat) : Int)) ∧ (0 ≤ (mw (x3 + 4)) ∧ (mw (x3 + 4)) < ((y0 : Nat) : Int)) then
            Option.bind (f_X12_value N ((mfix G0 σ s2226) 99 y0 ((mw (x3 + 1)).toNat)) ((mfix G0 σ s2226) 99 y0 ((mw (x3 + 2)).toNat)) ((mfix G0 σ s2226) 99 y0 ((mw (x3 + 3)).toNat)) ((mfix G0 σ s2226) 99 y0 ((mw (x3 + 4)).toNat)) (mfix G0 σ s2226)) fun ⟨v2229, s2228⟩ =>
            if v2227 = v2229 then
              ih y0 (mw (x3 + 6)) (mfix G0 (mfix G0 σ s2226) s2228)
            else
              some (.inl ((0 : Int), (mfix G0 (mfix G0 σ s2226) s2228)))
          else none
        else none
      else
      if (o_and (σ 99 y0 x3.toNat) 31) = 23 then
        if (0 ≤ (mw (x3 + 1)) ∧ (mw (x3 + 1)) < ((y0 : Nat) : Int)) ∧ (0 ≤ (mw (x3 + 2)) ∧ (mw (x3 + 2)) < ((y0 : Nat) : Int)) ∧ (0 ≤ (mw (x3 + 3)) ∧ (mw (x3 + 3)) < ((y0 : Nat) : Int)) then
          Option.bind (f_X11_images N (σ 99 y0 ((mw (x3 + 1)).toNat)) (σ 99 y0 ((mw (x3 + 2)).toNat)) (σ 99 y0 ((mw (x3 + 3)).toNat)) σ) fun ⟨v2234, s2233⟩ =>
          if (0 ≤ (mw (x3 + 1)) ∧ (mw (x3 + 1)) < ((y0 : Nat) : Int)) ∧ (0 ≤ (mw (x3 + 2)) ∧ (mw (x3 + 2)) < ((y0 : Nat) : Int)) ∧ (0 ≤ (mw (x3 + 3)) ∧ (mw (x3 + 3)) < ((y0 : Nat) : Int)) then
            Option.bind (f_X12_images N ((mfix G0 σ s2233) 99 y0 ((mw (x3 + 1)).toNat)) ((mfix G0 σ s2233) 99 y0 ((mw (x3 + 2)).toNat)) ((mfix G0 σ s2233) 99 y0 ((mw (x3 + 3)).toNat)) (mfix G0 σ s2233)) fun ⟨v2236, s2235⟩ =>
            if v2234 = v2236 then
              ih y0 (mw (x3 + 6)) (mfix G0 (mfix G0 σ s2233) s2235)
            else
              some (.inl ((0 : Int), (mfix G0 (mfix G0 σ s2233) s2235)))
          else none
        else none
      else
      if (o_and (σ 99 y0 x3.toNat) 31) = 24 then
        if (0 ≤ (mw (x3 + 1)) ∧ (mw (x3 + 1)) < ((y0 : Nat) : Int)) ∧ (0 ≤ (mw (x3 + 2)) ∧ (mw (x3 + 2)) < ((y0 : Nat) : Int)) then
          Option.bind (f_X11_image N (σ 99 y0 ((mw (x3 + 1)).toNat)) (σ 99 y0 ((mw (x3 + 2)).toNat)) σ) fun ⟨v2241, s2240⟩ =>
          if (0 ≤ (mw (x3 + 1)) ∧ (mw (x3 + 1)) < ((y0 : Nat) : Int)) ∧ (0 ≤ (mw (x3 + 2)) ∧ (mw (x3 + 2)) < ((y0 : Nat) : Int)) then
            Option.bind (f_X12_image N ((mfix G0 σ s2240) 99 y0 ((mw (x3 + 1)).toNat)) ((mfix G0 σ s2240) 99 y0 ((mw (x3 + 2)).toNat)) (mfix G0 σ s2240)) fun ⟨v2243, s2242⟩ =>
            if v2241 = v2243 then
              ih y0 (mw (x3 + 6)) (mfix G0 (mfix G0 σ s2240) s2242)
            else
              some (.inl ((0 : Int), (mfix G0 (mfix G0 σ s2240) s2242)))
          else none
        else none
      else
      if (o_and (σ 99 y0 x3.toNat) 31) = 25 then
        if (0 ≤ (mw (x3 + 1)) ∧ (mw (x3 + 1)) < ((y0 : Nat) : Int)) ∧ (0 ≤ (mw (x3 + 2)) ∧ (mw (x3 + 2)) < ((y0 : Nat) : Int)) ∧ (0 ≤ (mw (x3 + 3)) ∧ (mw (x3 + 3)) < ((y0 : Nat) : Int)) then
          Option.bind (f_X11_leads N (σ 99 y0 ((mw (x3 + 1)).toNat)) (σ 99 y0 ((mw (x3 + 2)).toNat)) (σ 99 y0 ((mw (x3 + 3)).toNat)) σ) fun ⟨v2248, s2247⟩ =>
          if (0 ≤ (mw (x3 + 1)) ∧ (mw (x3 + 1)) < ((y0 : Nat) : Int)) ∧ (0 ≤ (mw (x3 + 2)) ∧ (mw (x3 + 2)) < ((y0 : Nat) : Int)) ∧ (0 ≤ (mw (x3 + 3)) ∧ (mw (x3 + 3)) < ((y0 : Nat) : Int)) then
            Option.bind (f_X12_leads N ((mfix G0 σ s2247) 99 y0 ((mw (x3 + 1)).toNat)) ((mfix G0 σ s2247) 99 y0 ((mw (x3 + 2)).toNat)) ((mfix G0 σ s2247) 99 y0 ((mw (x3 + 3)).toNat)) (mfix G0 σ s2247)) fun ⟨v2250, s2249⟩ =>
            if v2248 = v2250 then
              ih y0 (mw (x3 + 6)) (mfix G0 (mfix G0 σ s2247) s2249)
            else
              some (.inl ((0 : Int), (mfix G0 (mfix G0 σ s2247) s2249)))
          else none
        else none
      else
      ih y0 (mw (x3 + 6)) σ
    else none
  ) n
theorem L_L_law_18_s (N n : Nat) (y0 : Nat) (x3 : Int) (σ : mS) : L_L_law_18 N (n + 1) y0 x3 σ =
  if (mw (((y0 : Nat) : Int) - 6)) < x3 then
    some (.inr σ)
  else
    if (0 ≤ x3 ∧ x3 < ((y0 : Nat) : Int)) then
      if (o_and (σ 99 y0 x3.toNat) 31) = 0 then
        if (0 ≤ (mw (x3 + 1)) ∧ (mw (x3 + 1)) < ((y0 : Nat) : Int)) ∧ (0 ≤ (mw (x3 + 2)) ∧ (mw (x3 + 2)) < ((y0 : Nat) : Int)) ∧ (0 ≤ (mw (x3 + 3)) ∧ (mw (x3 + 3)) < ((y0 : Nat) : Int)) ∧ (0 ≤ (mw (x3 + 4)) ∧ (mw (x3 + 4)) < ((y0 : Nat) : Int)) then
          Option.bind (f_X11_turn N (σ 99 y0 ((mw (x3 + 1)).toNat)) (σ 99 y0 ((mw (x3 + 2)).toNat)) (σ 99 y0 ((mw (x3 + 3)).toNat)) (σ 99 y0 ((mw (x3 + 4)).toNat)) σ) fun ⟨v2073, s2072⟩ =>
          if (0 ≤ (mw (x3 + 1)) ∧ (mw (x3 + 1)) < ((y0 : Nat) : Int)) ∧ (0 ≤ (mw (x3 + 2)) ∧ (mw (x3 + 2)) < ((y0 : Nat) : Int)) ∧ (0 ≤ (mw (x3 + 3)) ∧ (mw (x3 + 3)) < ((y0 : Nat) : Int)) ∧ (0 ≤ (mw (x3 + 4)) ∧ (mw (x3 + 4)) < ((y0 : Nat) : Int)) then
            Option.bind (f_X12_turn N ((mfix G0 σ s2072) 99 y0 ((mw (x3 + 1)).toNat)) ((mfix G0 σ s2072) 99 y0 ((mw (x3 + 2)).toNat)) ((mfix G0 σ s2072) 99 y0 ((mw (x3 + 3)).toNat)) ((mfix G0 σ s2072) 99 y0 ((mw (x3 + 4)).toNat)) (mfix G0 σ s2072)) fun ⟨v2075, s2074⟩ =>
            if v2073 = v2075 then
              L_L_law_18 N n y0 (mw (x3 + 6)) (mfix G0 (mfix G0 σ s2072) s2074)
            else
              some (.inl ((0 : Int), (mfix G0 (mfix G0 σ s2072) s2074)))
          else none
        else none
      else
      if (o_and (σ 99 y0 x3.toNat) 31) = 1 then
        if (0 ≤ (mw (x3 + 1)) ∧ (mw (x3 + 1)) < ((y0 : Nat) : Int)) then
          Option.bind (f_X11_drop N (σ 99 y0 ((mw (x3 + 1)).toNat)) σ) fun ⟨v2080, s2079⟩ =>
          if (0 ≤ (mw (x3 + 1)) ∧ (mw (x3 + 1)) < ((y0 : Nat) : Int)) then
            Option.bind (f_X12_drop N ((mfix G0 σ s2079) 99 y0 ((mw (x3 + 1)).toNat)) (mfix G0 σ s2079)) fun ⟨v2082, s2081⟩ =>
            if v2080 = v2082 then
              L_L_law_18 N n y0 (mw (x3 + 6)) (mfix G0 (mfix G0 σ s2079) s2081)
            else
              some (.inl ((0 : Int), (mfix G0 (mfix G0 σ s2079) s2081)))
          else none
        else none
      else
      if (o_and (σ 99 y0 x3.toNat) 31) = 2 then
        Option.bind (f_X11_group N σ) fun ⟨v2087, s2086⟩ =>
        Option.bind (f_X12_group N (mfix G0 σ s2086)) fun ⟨v2089, s2088⟩ =>
        if v2087 = v2089 then
          L_L_law_18 N n y0 (mw (x3 + 6)) (mfix G0 (mfix G0 σ s2086) s2088)
        else
          some (.inl ((0 : Int), (mfix G0 (mfix G0 σ s2086) s2088)))
      else
      if (o_and (σ 99 y0 x3.toNat) 31) = 3 then
        if (0 ≤ (mw (x3 + 1)) ∧ (mw (x3 + 1)) < ((y0 : Nat) : Int)) then
          Option.bind (f_X11_about N (σ 99 y0 ((mw (x3 + 1)).toNat)) σ) fun ⟨v2094, s2093⟩ =>
          if (0 ≤ (mw (x3 + 1)) ∧ (mw (x3 + 1)) < ((y0 : Nat) : Int)) then
            Option.bind (f_X12_about N ((mfix G0 σ s2093) 99 y0 ((mw (x3 + 1)).toNat)) (mfix G0 σ s2093)) fun ⟨v2096, s2095⟩ =>
            if v2094 = v2096 then
              L_L_law_18 N n y0 (mw (x3 + 6)) (mfix G0 (mfix G0 σ s2093) s2095)
            else
              some (.inl ((0 : Int), (mfix G0 (mfix G0 σ s2093) s2095)))
          else none
        else none
      else
      if (o_and (σ 99 y0 x3.toNat) 31) = 4 then
        if (0 ≤ (mw (x3 + 1)) ∧ (mw (x3 + 1)) < ((y0 : Nat) : Int)) ∧ (0 ≤ (mw (x3 + 2)) ∧ (mw (x3 + 2)) < ((y0 : Nat) : Int)) then
          Option.bind (f_X11_element N (σ 99 y0 ((mw (x3 + 1)).toNat)) (σ 99 y0 ((mw (x3 + 2)).toNat)) σ) fun ⟨v2101, s2100⟩ =>
          if (0 ≤ (mw (x3 + 1)) ∧ (mw (x3 + 1)) < ((y0 : Nat) : Int)) ∧ (0 ≤ (mw (x3 + 2)) ∧ (mw (x3 + 2)) < ((y0 : Nat) : Int)) then
            Option.bind (f_X12_element N ((mfix G0 σ s2100) 99 y0 ((mw (x3 + 1)).toNat)) ((mfix G0 σ s2100) 99 y0 ((mw (x3 + 2)).toNat)) (mfix G0 σ s2100)) fun ⟨v2103, s2102⟩ =>
            if v2101 = v2103 then
              L_L_law_18 N n y0 (mw (x3 + 6)) (mfix G0 (mfix G0 σ s2100) s2102)
            else
              some (.inl ((0 : Int), (mfix G0 (mfix G0 σ s2100) s2102)))
          else none
        else none
      else
      if (o_and (σ 99 y0 x3.toNat) 31) = 5 then
        if (0 ≤ (mw (x3 + 1)) ∧ (mw (x3 + 1)) < ((y0 : Nat) : Int)) ∧ (0 ≤ (mw (x3 + 2)) ∧ (mw (x3 + 2)) < ((y0 : Nat) : Int)) then
          Option.bind (f_X11_times N (σ 99 y0 ((mw (x3 + 1)).toNat)) (σ 99 y0 ((mw (x3 + 2)).toNat)) σ) fun ⟨v2108, s2107⟩ =>
          if (0 ≤ (mw (x3 + 1)) ∧ (mw (x3 + 1)) < ((y0 : Nat) : Int)) ∧ (0 ≤ (mw (x3 + 2)) ∧ (mw (x3 + 2)) < ((y0 : Nat) : Int)) then
            Option.bind (f_X12_times N ((mfix G0 σ s2107) 99 y0 ((mw (x3 + 1)).toNat)) ((mfix G0 σ s2107) 99 y0 ((mw (x3 + 2)).toNat)) (mfix G0 σ s2107)) fun ⟨v2110, s2109⟩ =>
            if v2108 = v2110 then
              L_L_law_18 N n y0 (mw (x3 + 6)) (mfix G0 (mfix G0 σ s2107) s2109)
            else
              some (.inl ((0 : Int), (mfix G0 (mfix G0 σ s2107) s2109)))
          else none
        else none
      else
      if (o_and (σ 99 y0 x3.toNat) 31) = 6 then
        if (0 ≤ (mw (x3 + 1)) ∧ (mw (x3 + 1)) < ((y0 : Nat) : Int)) ∧ (0 ≤ (mw (x3 + 2)) ∧ (mw (x3 + 2)) < ((y0 : Nat) : Int)) then
          Option.bind (f_X11_of N (σ 99 y0 ((mw (x3 + 1)).toNat)) (σ 99 y0 ((mw (x3 + 2)).toNat)) σ) fun ⟨v2115, s2114⟩ =>
          if (0 ≤ (mw (x3 + 1)) ∧ (mw (x3 + 1)) < ((y0 : Nat) : Int)) ∧ (0 ≤ (mw (x3 + 2)) ∧ (mw (x3 + 2)) < ((y0 : Nat) : Int)) then
            Option.bind (f_X12_of N ((mfix G0 σ s2114) 99 y0 ((mw (x3 + 1)).toNat)) ((mfix G0 σ s2114) 99 y0 ((mw (x3 + 2)).toNat)) (mfix G0 σ s2114)) fun ⟨v2117, s2116⟩ =>
            if v2115 = v2117 then
              L_L_law_18 N n y0 (mw (x3 + 6)) (mfix G0 (mfix G0 σ s2114) s2116)
            else
              some (.inl ((0 : Int), (mfix G0 (mfix G0 σ s2114) s2116)))
          else none
        else none
      else
      if (o_and (σ 99 y0 x3.toNat) 31) = 7 then
        if (0 ≤ (mw (x3 + 1)) ∧ (mw (x3 + 1)) < ((y0 : Nat) : Int)) ∧ (0 ≤ (mw (x3 + 2)) ∧ (mw (x3 + 2)) < ((y0 : Nat) : Int)) then
          Option.bind (f_X11_sign N (σ 99 y0 ((mw (x3 + 1)).toNat)) (σ 99 y0 ((mw (x3 + 2)).toNat)) σ) fun ⟨v2122, s2121⟩ =>
          if (0 ≤ (mw (x3 + 1)) ∧ (mw (x3 + 1)) < ((y0 : Nat) : Int)) ∧ (0 ≤ (mw (x3 + 2)) ∧ (mw (x3 + 2)) < ((y0 : Nat) : Int)) then
            Option.bind (f_X12_sign N ((mfix G0 σ s2121) 99 y0 ((mw (x3 + 1)).toNat)) ((mfix G0 σ s2121) 99 y0 ((mw (x3 + 2)).toNat)) (mfix G0 σ s2121)) fun ⟨v2124, s2123⟩ =>
            if v2122 = v2124 then
              L_L_law_18 N n y0 (mw (x3 + 6)) (mfix G0 (mfix G0 σ s2121) s2123)
            else
              some (.inl ((0 : Int), (mfix G0 (mfix G0 σ s2121) s2123)))
          else none
        else none
      else
      if (o_and (σ 99 y0 x3.toNat) 31) = 8 then
        if (0 ≤ (mw (x3 + 1)) ∧ (mw (x3 + 1)) < ((y0 : Nat) : Int)) ∧ (0 ≤ (mw (x3 + 2)) ∧ (mw (x3 + 2)) < ((y0 : Nat) : Int)) ∧ (0 ≤ (mw (x3 + 3)) ∧ (mw (x3 + 3)) < ((y0 : Nat) : Int)) ∧ (0 ≤ (mw (x3 + 4)) ∧ (mw (x3 + 4)) < ((y0 : Nat) : Int)) ∧ (0 ≤ (mw (x3 + 5)) ∧ (mw (x3 + 5)) < ((y0 : Nat) : Int)) then
          Option.bind (f_X11_put N (σ 99 y0 ((mw (x3 + 1)).toNat)) (σ 99 y0 ((mw (x3 + 2)).toNat)) (σ 99 y0 ((mw (x3 + 3)).toNat)) (σ 99 y0 ((mw (x3 + 4)).toNat)) (σ 99 y0 ((mw (x3 + 5)).toNat)) σ) fun ⟨v2129, s2128⟩ =>
          if (0 ≤ (mw (x3 + 1)) ∧ (mw (x3 + 1)) < ((y0 : Nat) : Int)) ∧ (0 ≤ (mw (x3 + 2)) ∧ (mw (x3 + 2)) < ((y0 : Nat) : Int)) ∧ (0 ≤ (mw (x3 + 3)) ∧ (mw (x3 + 3)) < ((y0 : Nat) : Int)) ∧ (0 ≤ (mw (x3 + 4)) ∧ (mw (x3 + 4)) < ((y0 : Nat) : Int)) ∧ (0 ≤ (mw (x3 + 5)) ∧ (mw (x3 + 5)) < ((y0 : Nat) : Int)) then
            Option.bind (f_X12_put N ((mfix G0 σ s2128) 99 y0 ((mw (x3 + 1)).toNat)) ((mfix G0 σ s2128) 99 y0 ((mw (x3 + 2)).toNat)) ((mfix G0 σ s2128) 99 y0 ((mw (x3 + 3)).toNat)) ((mfix G0 σ s2128) 99 y0 ((mw (x3 + 4)).toNat)) ((mfix G0 σ s2128) 99 y0 ((mw (x3 + 5)).toNat)) (mfix G0 σ s2128)) fun ⟨v2131, s2130⟩ =>
            if v2129 = v2131 then
              L_L_law_18 N n y0 (mw (x3 + 6)) (mfix G0 (mfix G0 σ s2128) s2130)
            else
              some (.inl ((0 : Int), (mfix G0 (mfix G0 σ s2128) s2130)))
          else none
        else none
      else
      if (o_and (σ 99 y0 x3.toNat) 31) = 9 then
        if (0 ≤ (mw (x3 + 1)) ∧ (mw (x3 + 1)) < ((y0 : Nat) : Int)) ∧ (0 ≤ (mw (x3 + 2)) ∧ (mw (x3 + 2)) < ((y0 : Nat) : Int)) ∧ (0 ≤ (mw (x3 + 3)) ∧ (mw (x3 + 3)) < ((y0 : Nat) : Int)) ∧ (0 ≤ (mw (x3 + 4)) ∧ (mw (x3 + 4)) < ((y0 : Nat) : Int)) then
          Option.bind (f_X11_number N (σ 99 y0 ((mw (x3 + 1)).toNat)) (σ 99 y0 ((mw (x3 + 2)).toNat)) (σ 99 y0 ((mw (x3 + 3)).toNat)) (σ 99 y0 ((mw (x3 + 4)).toNat)) σ) fun ⟨v2136, s2135⟩ =>
          if (0 ≤ (mw (x3 + 1)) ∧ (mw (x3 + 1)) < ((y0 : Nat) : Int)) ∧ (0 ≤ (mw (x3 + 2)) ∧ (mw (x3 + 2)) < ((y0 : Nat) : Int)) ∧ (0 ≤ (mw (x3 + 3)) ∧ (mw (x3 + 3)) < ((y0 : Nat) : Int)) ∧ (0 ≤ (mw (x3 + 4)) ∧ (mw (x3 + 4)) < ((y0 : Nat) : Int)) then
            Option.bind (f_X12_number N ((mfix G0 σ s2135) 99 y0 ((mw (x3 + 1)).toNat)) ((mfix G0 σ s2135) 99 y0 ((mw (x3 + 2)).toNat)) ((mfix G0 σ s2135) 99 y0 ((mw (x3 + 3)).toNat)) ((mfix G0 σ s2135) 99 y0 ((mw (x3 + 4)).toNat)) (mfix G0 σ s2135)) fun ⟨v2138, s2137⟩ =>
            if v2136 = v2138 then
              L_L_law_18 N n y0 (mw (x3 + 6)) (mfix G0 (mfix G0 σ s2135) s2137)
            else
              some (.inl ((0 : Int), (mfix G0 (mfix G0 σ s2135) s2137)))
          else none
        else none
      else
      if (o_and (σ 99 y0 x3.toNat) 31) = 10 then
        if (0 ≤ (mw (x3 + 1)) ∧ (mw (x3 + 1)) < ((y0 : Nat) : Int)) then
          Option.bind (f_X11_degree N (σ 99 y0 ((mw (x3 + 1)).toNat)) σ) fun ⟨v2143, s2142⟩ =>
          if (0 ≤ (mw (x3 + 1)) ∧ (mw (x3 + 1)) < ((y0 : Nat) : Int)) then
            Option.bind (f_X12_degree N ((mfix G0 σ s2142) 99 y0 ((mw (x3 + 1)).toNat)) (mfix G0 σ s2142)) fun ⟨v2145, s2144⟩ =>
            if v2143 = v2145 then
              L_L_law_18 N n y0 (mw (x3 + 6)) (mfix G0 (mfix G0 σ s2142) s2144)
            else
              some (.inl ((0 : Int), (mfix G0 (mfix G0 σ s2142) s2144)))
          else none
        else none
      else
      if (o_and (σ 99 y0 x3.toNat) 31) = 11 then
        if (0 ≤ (mw (x3 + 1)) ∧ (mw (x3 + 1)) < ((y0 : Nat) : Int)) ∧ (0 ≤ (mw (x3 + 2)) ∧ (mw (x3 + 2)) < ((y0 : Nat) : Int)) ∧ (0 ≤ (mw (x3 + 3)) ∧ (mw (x3 + 3)) < ((y0 : Nat) : Int)) ∧ (0 ≤ (mw (x3 + 4)) ∧ (mw (x3 + 4)) < ((y0 : Nat) : Int)) ∧ (0 ≤ (mw (x3 + 5)) ∧ (mw (x3 + 5)) < ((y0 : Nat) : Int)) then
          Option.bind (f_X11_sum N (σ 99 y0 ((mw (x3 + 1)).toNat)) (σ 99 y0 ((mw (x3 + 2)).toNat)) (σ 99 y0 ((mw (x3 + 3)).toNat)) (σ 99 y0 ((mw (x3 + 4)).toNat)) (σ 99 y0 ((mw (x3 + 5)).toNat)) σ) fun ⟨v2150, s2149⟩ =>
          if (0 ≤ (mw (x3 + 1)) ∧ (mw (x3 + 1)) < ((y0 : Nat) : Int)) ∧ (0 ≤ (mw (x3 + 2)) ∧ (mw (x3 + 2)) < ((y0 : Nat) : Int)) ∧ (0 ≤ (mw (x3 + 3)) ∧ (mw (x3 + 3)) < ((y0 : Nat) : Int)) ∧ (0 ≤ (mw (x3 + 4)) ∧ (mw (x3 + 4)) < ((y0 : Nat) : Int)) ∧ (0 ≤ (mw (x3 + 5)) ∧ (mw (x3 + 5)) < ((y0 : Nat) : Int)) then
            Option.bind (f_X12_sum N ((mfix G0 σ s2149) 99 y0 ((mw (x3 + 1)).toNat)) ((mfix G0 σ s2149) 99 y0 ((mw (x3 + 2)).toNat)) ((mfix G0 σ s2149) 99 y0 ((mw (x3 + 3)).toNat)) ((mfix G0 σ s2149) 99 y0 ((mw (x3 + 4)).toNat)) ((mfix G0 σ s2149) 99 y0 ((mw (x3 + 5)).toNat)) (mfix G0 σ s2149)) fun ⟨v2152, s2151⟩ =>
            if v2150 = v2152 then
              L_L_law_18 N n y0 (mw (x3 + 6)) (mfix G0 (mfix G0 σ s2149) s2151)
            else
              some (.inl ((0 : Int), (mfix G0 (mfix G0 σ s2149) s2151)))
          else none
        else none
      else
      if (o_and (σ 99 y0 x3.toNat) 31) = 12 then
        if (0 ≤ (mw (x3 + 1)) ∧ (mw (x3 + 1)) < ((y0 : Nat) : Int)) ∧ (0 ≤ (mw (x3 + 2)) ∧ (mw (x3 + 2)) < ((y0 : Nat) : Int)) ∧ (0 ≤ (mw (x3 + 3)) ∧ (mw (x3 + 3)) < ((y0 : Nat) : Int)) then
          Option.bind (f_X11_product N (σ 99 y0 ((mw (x3 + 1)).toNat)) (σ 99 y0 ((mw (x3 + 2)).toNat)) (σ 99 y0 ((mw (x3 + 3)).toNat)) σ) fun ⟨v2157, s2156⟩ =>
          if (0 ≤ (mw (x3 + 1)) ∧ (mw (x3 + 1)) < ((y0 : Nat) : Int)) ∧ (0 ≤ (mw (x3 + 2)) ∧ (mw (x3 + 2)) < ((y0 : Nat) : Int)) ∧ (0 ≤ (mw (x3 + 3)) ∧ (mw (x3 + 3)) < ((y0 : Nat) : Int)) then
            Option.bind (f_X12_product_ N ((mfix G0 σ s2156) 99 y0 ((mw (x3 + 1)).toNat)) ((mfix G0 σ s2156) 99 y0 ((mw (x3 + 2)).toNat)) ((mfix G0 σ s2156) 99 y0 ((mw (x3 + 3)).toNat)) (mfix G0 σ s2156)) fun ⟨v2159, s2158⟩ =>
            if v2157 = v2159 then
              L_L_law_18 N n y0 (mw (x3 + 6)) (mfix G0 (mfix G0 σ s2156) s2158)
            else
              some (.inl ((0 : Int), (mfix G0 (mfix G0 σ s2156) s2158)))
          else none
        else none
      else
      if (o_and (σ 99 y0 x3.toNat) 31) = 13 then
        if (0 ≤ (mw (x3 + 1)) ∧ (mw (x3 + 1)) < ((y0 : Nat) : Int)) ∧ (0 ≤ (mw (x3 + 2)) ∧ (mw (x3 + 2)) < ((y0 : Nat) : Int)) ∧ (0 ≤ (mw (x3 + 3)) ∧ (mw (x3 + 3)) < ((y0 : Nat) : Int)) then
          Option.bind (f_X11_turned N (σ 99 y0 ((mw (x3 + 1)).toNat)) (σ 99 y0 ((mw (x3 + 2)).toNat)) (σ 99 y0 ((mw (x3 + 3)).toNat)) σ) fun ⟨v2164, s2163⟩ =>
          if (0 ≤ (mw (x3 + 1)) ∧ (mw (x3 + 1)) < ((y0 : Nat) : Int)) ∧ (0 ≤ (mw (x3 + 2)) ∧ (mw (x3 + 2)) < ((y0 : Nat) : Int)) ∧ (0 ≤ (mw (x3 + 3)) ∧ (mw (x3 + 3)) < ((y0 : Nat) : Int)) then
            Option.bind (f_X12_turned N ((mfix G0 σ s2163) 99 y0 ((mw (x3 + 1)).toNat)) ((mfix G0 σ s2163) 99 y0 ((mw (x3 + 2)).toNat)) ((mfix G0 σ s2163) 99 y0 ((mw (x3 + 3)).toNat)) (mfix G0 σ s2163)) fun ⟨v2166, s2165⟩ =>
            if v2164 = v2166 then
              L_L_law_18 N n y0 (mw (x3 + 6)) (mfix G0 (mfix G0 σ s2163) s2165)
            else
              some (.inl ((0 : Int), (mfix G0 (mfix G0 σ s2163) s2165)))
          else none
        else none
      else
      if (o_and (σ 99 y0 x3.toNat) 31) = 14 then
        if (0 ≤ (mw (x3 + 1)) ∧ (mw (x3 + 1)) < ((y0 : Nat) : Int)) ∧ (0 ≤ (mw (x3 + 2)) ∧ (mw (x3 + 2)) < ((y0 : Nat) : Int)) ∧ (0 ≤ (mw (x3 + 3)) ∧ (mw (x3 + 3)) < ((y0 : Nat) : Int)) then
          Option.bind (f_X11_mean N (σ 99 y0 ((mw (x3 + 1)).toNat)) (σ 99 y0 ((mw (x3 + 2)).toNat)) (σ 99 y0 ((mw (x3 + 3)).toNat)) σ) fun ⟨v2171, s2170⟩ =>
          if (0 ≤ (mw (x3 + 1)) ∧ (mw (x3 + 1)) < ((y0 : Nat) : Int)) ∧ (0 ≤ (mw (x3 + 2)) ∧ (mw (x3 + 2)) < ((y0 : Nat) : Int)) ∧ (0 ≤ (mw (x3 + 3)) ∧ (mw (x3 + 3)) < ((y0 : Nat) : Int)) then
            Option.bind (f_X12_mean N ((mfix G0 σ s2170) 99 y0 ((mw (x3 + 1)).toNat)) ((mfix G0 σ s2170) 99 y0 ((mw (x3 + 2)).toNat)) ((mfix G0 σ s2170) 99 y0 ((mw (x3 + 3)).toNat)) (mfix G0 σ s2170)) fun ⟨v2173, s2172⟩ =>
            if v2171 = v2173 then
              L_L_law_18 N n y0 (mw (x3 + 6)) (mfix G0 (mfix G0 σ s2170) s2172)
            else
              some (.inl ((0 : Int), (mfix G0 (mfix G0 σ s2170) s2172)))
          else none
        else none
      else
      if (o_and (σ 99 y0 x3.toNat) 31) = 15 then
        if (0 ≤ (mw (x3 + 1)) ∧ (mw (x3 + 1)) < ((y0 : Nat) : Int)) ∧ (0 ≤ (mw (x3 + 2)) ∧ (mw (x3 + 2)) < ((y0 : Nat) : Int)) then
          Option.bind (f_X11_stays N (σ 99 y0 ((mw (x3 + 1)).toNat)) (σ 99 y0 ((mw (x3 + 2)).toNat)) σ) fun ⟨v2178, s2177⟩ =>
          if (0 ≤ (mw (x3 + 1)) ∧ (mw (x3 + 1)) < ((y0 : Nat) : Int)) ∧ (0 ≤ (mw (x3 + 2)) ∧ (mw (x3 + 2)) < ((y0 : Nat) : Int)) then
            Option.bind (f_X12_stays N ((mfix G0 σ s2177) 99 y0 ((mw (x3 + 1)).toNat)) ((mfix G0 σ s2177) 99 y0 ((mw (x3 + 2)).toNat)) (mfix G0 σ s2177)) fun ⟨v2180, s2179⟩ =>
            if v2178 = v2180 then
              L_L_law_18 N n y0 (mw (x3 + 6)) (mfix G0 (mfix G0 σ s2177) s2179)
            else
              some (.inl ((0 : Int), (mfix G0 (mfix G0 σ s2177) s2179)))
          else none
        else none
      else
      if (o_and (σ 99 y0 x3.toNat) 31) = 16 then
        if (0 ≤ (mw (x3 + 1)) ∧ (mw (x3 + 1)) < ((y0 : Nat) : Int)) ∧ (0 ≤ (mw (x3 + 2)) ∧ (mw (x3 + 2)) < ((y0 : Nat) : Int)) then
          Option.bind (f_X11_count N (σ 99 y0 ((mw (x3 + 1)).toNat)) (σ 99 y0 ((mw (x3 + 2)).toNat)) σ) fun ⟨v2185, s2184⟩ =>
          if (0 ≤ (mw (x3 + 1)) ∧ (mw (x3 + 1)) < ((y0 : Nat) : Int)) ∧ (0 ≤ (mw (x3 + 2)) ∧ (mw (x3 + 2)) < ((y0 : Nat) : Int)) then
            Option.bind (f_X12_count N ((mfix G0 σ s2184) 99 y0 ((mw (x3 + 1)).toNat)) ((mfix G0 σ s2184) 99 y0 ((mw (x3 + 2)).toNat)) (mfix G0 σ s2184)) fun ⟨v2187, s2186⟩ =>
            if v2185 = v2187 then
              L_L_law_18 N n y0 (mw (x3 + 6)) (mfix G0 (mfix G0 σ s2184) s2186)
            else
              some (.inl ((0 : Int), (mfix G0 (mfix G0 σ s2184) s2186)))
          else none
        else none
      else
      if (o_and (σ 99 y0 x3.toNat) 31) = 17 then
        if (0 ≤ (mw (x3 + 1)) ∧ (mw (x3 + 1)) < ((y0 : Nat) : Int)) ∧ (0 ≤ (mw (x3 + 2)) ∧ (mw (x3 + 2)) < ((y0 : Nat) : Int)) then
          Option.bind (f_X11_series N (σ 99 y0 ((mw (x3 + 1)).toNat)) (σ 99 y0 ((mw (x3 + 2)).toNat)) σ) fun ⟨v2192, s2191⟩ =>
          if (0 ≤ (mw (x3 + 1)) ∧ (mw (x3 + 1)) < ((y0 : Nat) : Int)) ∧ (0 ≤ (mw (x3 + 2)) ∧ (mw (x3 + 2)) < ((y0 : Nat) : Int)) then
            Option.bind (f_X12_series N ((mfix G0 σ s2191) 99 y0 ((mw (x3 + 1)).toNat)) ((mfix G0 σ s2191) 99 y0 ((mw (x3 + 2)).toNat)) (mfix G0 σ s2191)) fun ⟨v2194, s2193⟩ =>
            if v2192 = v2194 then
              L_L_law_18 N n y0 (mw (x3 + 6)) (mfix G0 (mfix G0 σ s2191) s2193)
            else
              some (.inl ((0 : Int), (mfix G0 (mfix G0 σ s2191) s2193)))
          else none
        else none
      else
      if (o_and (σ 99 y0 x3.toNat) 31) = 18 then
        if (0 ≤ (mw (x3 + 1)) ∧ (mw (x3 + 1)) < ((y0 : Nat) : Int)) ∧ (0 ≤ (mw (x3 + 2)) ∧ (mw (x3 + 2)) < ((y0 : Nat) : Int)) then
          Option.bind (f_X11_few N (σ 99 y0 ((mw (x3 + 1)).toNat)) (σ 99 y0 ((mw (x3 + 2)).toNat)) σ) fun ⟨v2199, s2198⟩ =>
          if (0 ≤ (mw (x3 + 1)) ∧ (mw (x3 + 1)) < ((y0 : Nat) : Int)) ∧ (0 ≤ (mw (x3 + 2)) ∧ (mw (x3 + 2)) < ((y0 : Nat) : Int)) then
            Option.bind (f_X12_few N ((mfix G0 σ s2198) 99 y0 ((mw (x3 + 1)).toNat)) ((mfix G0 σ s2198) 99 y0 ((mw (x3 + 2)).toNat)) (mfix G0 σ s2198)) fun ⟨v2201, s2200⟩ =>
            if v2199 = v2201 then
              L_L_law_18 N n y0 (mw (x3 + 6)) (mfix G0 (mfix G0 σ s2198) s2200)
            else
              some (.inl ((0 : Int), (mfix G0 (mfix G0 σ s2198) s2200)))
          else none
        else none
      else
      if (o_and (σ 99 y0 x3.toNat) 31) = 19 then
        if (0 ≤ (mw (x3 + 1)) ∧ (mw (x3 + 1)) < ((y0 : Nat) : Int)) ∧ (0 ≤ (mw (x3 + 2)) ∧ (mw (x3 + 2)) < ((y0 : Nat) : Int)) then
          Option.bind (f_X11_laws N (σ 99 y0 ((mw (x3 + 1)).toNat)) (σ 99 y0 ((mw (x3 + 2)).toNat)) σ) fun ⟨v2206, s2205⟩ =>
          if (0 ≤ (mw (x3 + 1)) ∧ (mw (x3 + 1)) < ((y0 : Nat) : Int)) ∧ (0 ≤ (mw (x3 + 2)) ∧ (mw (x3 + 2)) < ((y0 : Nat) : Int)) then
            Option.bind (f_X12_laws N ((mfix G0 σ s2205) 99 y0 ((mw (x3 + 1)).toNat)) ((mfix G0 σ s2205) 99 y0 ((mw (x3 + 2)).toNat)) (mfix G0 σ s2205)) fun ⟨v2208, s2207⟩ =>
            if v2206 = v2208 then
              L_L_law_18 N n y0 (mw (x3 + 6)) (mfix G0 (mfix G0 σ s2205) s2207)
            else
              some (.inl ((0 : Int), (mfix G0 (mfix G0 σ s2205) s2207)))
          else none
        else none
      else
      if (o_and (σ 99 y0 x3.toNat) 31) = 20 then
        if (0 ≤ (mw (x3 + 1)) ∧ (mw (x3 + 1)) < ((y0 : Nat) : Int)) then
          Option.bind (f_X11_made N (σ 99 y0 ((mw (x3 + 1)).toNat)) σ) fun ⟨v2213, s2212⟩ =>
          if (0 ≤ (mw (x3 + 1)) ∧ (mw (x3 + 1)) < ((y0 : Nat) : Int)) then
            Option.bind (f_X12_made N ((mfix G0 σ s2212) 99 y0 ((mw (x3 + 1)).toNat)) (mfix G0 σ s2212)) fun ⟨v2215, s2214⟩ =>
            if v2213 = v2215 then
              L_L_law_18 N n y0 (mw (x3 + 6)) (mfix G0 (mfix G0 σ s2212) s2214)
            else
              some (.inl ((0 : Int), (mfix G0 (mfix G0 σ s2212) s2214)))
          else none
        else none
      else
      if (o_and (σ 99 y0 x3.toNat) 31) = 21 then
        if (0 ≤ (mw (x3 + 1)) ∧ (mw (x3 + 1)) < ((y0 : Nat) : Int)) ∧ (0 ≤ (mw (x3 + 2)) ∧ (mw (x3 + 2)) < ((y0 : Nat) : Int)) then
          Option.bind (f_X11_part N (σ 99 y0 ((mw (x3 + 1)).toNat)) (σ 99 y0 ((mw (x3 + 2)).toNat)) σ) fun ⟨v2220, s2219⟩ =>
          if (0 ≤ (mw (x3 + 1)) ∧ (mw (x3 + 1)) < ((y0 : Nat) : Int)) ∧ (0 ≤ (mw (x3 + 2)) ∧ (mw (x3 + 2)) < ((y0 : Nat) : Int)) then
            Option.bind (f_X12_part N ((mfix G0 σ s2219) 99 y0 ((mw (x3 + 1)).toNat)) ((mfix G0 σ s2219) 99 y0 ((mw (x3 + 2)).toNat)) (mfix G0 σ s2219)) fun ⟨v2222, s2221⟩ =>
            if v2220 = v2222 then
              L_L_law_18 N n y0 (mw (x3 + 6)) (mfix G0 (mfix G0 σ s2219) s2221)
            else
              some (.inl ((0 : Int), (mfix G0 (mfix G0 σ s2219) s2221)))
          else none
        else none
      else
      if (o_and (σ 99 y0 x3.toNat) 31) = 22 then
        if (0 ≤ (mw (x3 + 1)) ∧ (mw (x3 + 1)) < ((y0 : Nat) : Int)) ∧ (0 ≤ (mw (x3 + 2)) ∧ (mw (x3 + 2)) < ((y0 : Nat) : Int)) ∧ (0 ≤ (mw (x3 + 3)) ∧ (mw (x3 + 3)) < ((y0 : Nat) : Int)) ∧ (0 ≤ (mw (x3 + 4)) ∧ (mw (x3 + 4)) < ((y0 : Nat) : Int)) then
          Option.bind (f_X11_value N (σ 99 y0 ((mw (x3 + 1)).toNat)) (σ 99 y0 ((mw (x3 + 2)).toNat)) (σ 99 y0 ((mw (x3 + 3)).toNat)) (σ 99 y0 ((mw (x3 + 4)).toNat)) σ) fun ⟨v2227, s2226⟩ =>
          if (0 ≤ (mw (x3 + 1)) ∧ (mw (x3 + 1)) < ((y0 : Nat) : Int)) ∧ (0 ≤ (mw (x3 + 2)) ∧ (mw (x3 + 2)) < ((y0 : Nat) : Int)) ∧ (0 ≤ (mw (x3 + 3)) ∧ (mw (x3 + 3)) < ((y0 : Nat) : Int)) ∧ (0 ≤ (mw (x3 + 4)) ∧ (mw (x3 + 4)) < ((y0 : Nat) : Int)) then
            Option.bind (f_X12_value N ((mfix G0 σ s2226) 99 y0 ((mw (x3 + 1)).toNat)) ((mfix G0 σ s2226) 99 y0 ((mw (x3 + 2)).toNat)) ((mfix G0 σ s2226) 99 y0 ((mw (x3 + 3)).toNat)) ((mfix G0 σ s2226) 99 y0 ((mw (x3 + 4)).toNat)) (mfix G0 σ s2226)) fun ⟨v2229, s2228⟩ =>
            if v2227 = v2229 then
              L_L_law_18 N n y0 (mw (x3 + 6)) (mfix G0 (mfix G0 σ s2226) s2228)
            else
              some (.inl ((0 : Int), (mfix G0 (mfix G0 σ s2226) s2228)))
          else none
        else none
      else
      if (o_and (σ 99 y0 x3.toNat) 31) = 23 then
        if (0 ≤ (mw (x3 + 1)) ∧ (mw (x3 + 1)) < ((y0 : Nat) : Int)) ∧ (0 ≤ (mw (x3 + 2)) ∧ (mw (x3 + 2)) < ((y0 : Nat) : Int)) ∧ (0 ≤ (mw (x3 + 3)) ∧ (mw (x3 + 3)) < ((y0 : Nat) : Int)) then
          Option.bind (f_X11_images N (σ 99 y0 ((mw (x3 + 1)).toNat)) (σ 99 y0 ((mw (x3 + 2)).toNat)) (σ 99 y0 ((mw (x3 + 3)).toNat)) σ) fun ⟨v2234, s2233⟩ =>
          if (0 ≤ (mw (x3 + 1)) ∧ (mw (x3 + 1)) < ((y0 : Nat) : Int)) ∧ (0 ≤ (mw (x3 + 2)) ∧ (mw (x3 + 2)) < ((y0 : Nat) : Int)) ∧ (0 ≤ (mw (x3 + 3)) ∧ (mw (x3 + 3)) < ((y0 : Nat) : Int)) then
            Option.bind (f_X12_images N ((mfix G0 σ s2233) 99 y0 ((mw (x3 + 1)).toNat)) ((mfix G0 σ s2233) 99 y0 ((mw (x3 + 2)).toNat)) ((mfix G0 σ s2233) 99 y0 ((mw (x3 + 3)).toNat)) (mfix G0 σ s2233)) fun ⟨v2236, s2235⟩ =>
            if v2234 = v2236 then
              L_L_law_18 N n y0 (mw (x3 + 6)) (mfix G0 (mfix G0 σ s2233) s2235)
            else
              some (.inl ((0 : Int), (mfix G0 (mfix G0 σ s2233) s2235)))
          else none
        else none
      else
      if (o_and (σ 99 y0 x3.toNat) 31) = 24 then
        if (0 ≤ (mw (x3 + 1)) ∧ (mw (x3 + 1)) < ((y0 : Nat) : Int)) ∧ (0 ≤ (mw (x3 + 2)) ∧ (mw (x3 + 2)) < ((y0 : Nat) : Int)) then
          Option.bind (f_X11_image N (σ 99 y0 ((mw (x3 + 1)).toNat)) (σ 99 y0 ((mw (x3 + 2)).toNat)) σ) fun ⟨v2241, s2240⟩ =>
          if (0 ≤ (mw (x3 + 1)) ∧ (mw (x3 + 1)) < ((y0 : Nat) : Int)) ∧ (0 ≤ (mw (x3 + 2)) ∧ (mw (x3 + 2)) < ((y0 : Nat) : Int)) then
            Option.bind (f_X12_image N ((mfix G0 σ s2240) 99 y0 ((mw (x3 + 1)).toNat)) ((mfix G0 σ s2240) 99 y0 ((mw (x3 + 2)).toNat)) (mfix G0 σ s2240)) fun ⟨v2243, s2242⟩ =>
            if v2241 = v2243 then
              L_L_law_18 N n y0 (mw (x3 + 6)) (mfix G0 (mfix G0 σ s2240) s2242)
            else
              some (.inl ((0 : Int), (mfix G0 (mfix G0 σ s2240) s2242)))
          else none
        else none
      else
      if (o_and (σ 99 y0 x3.toNat) 31) = 25 then
        if (0 ≤ (mw (x3 + 1)) ∧ (mw (x3 + 1)) < ((y0 : Nat) : Int)) ∧ (0 ≤ (mw (x3 + 2)) ∧ (mw (x3 + 2)) < ((y0 : Nat) : Int)) ∧ (0 ≤ (mw (x3 + 3)) ∧ (mw (x3 + 3)) < ((y0 : Nat) : Int)) then
          Option.bind (f_X11_leads N (σ 99 y0 ((mw (x3 + 1)).toNat)) (σ 99 y0 ((mw (x3 + 2)).toNat)) (σ 99 y0 ((mw (x3 + 3)).toNat)) σ) fun ⟨v2248, s2247⟩ =>
          if (0 ≤ (mw (x3 + 1)) ∧ (mw (x3 + 1)) < ((y0 : Nat) : Int)) ∧ (0 ≤ (mw (x3 + 2)) ∧ (mw (x3 + 2)) < ((y0 : Nat) : Int)) ∧ (0 ≤ (mw (x3 + 3)) ∧ (mw (x3 + 3)) < ((y0 : Nat) : Int)) then
            Option.bind (f_X12_leads N ((mfix G0 σ s2247) 99 y0 ((mw (x3 + 1)).toNat)) ((mfix G0 σ s2247) 99 y0 ((mw (x3 + 2)).toNat)) ((mfix G0 σ s2247) 99 y0 ((mw (x3 + 3)).toNat)) (mfix G0 σ s2247)) fun ⟨v2250, s2249⟩ =>
            if v2248 = v2250 then
              L_L_law_18 N n y0 (mw (x3 + 6)) (mfix G0 (mfix G0 σ s2247) s2249)
            else
              some (.inl ((0 : Int), (mfix G0 (mfix G0 σ s2247) s2249)))
          else none
        else none
      else
      L_L_law_18 N n y0 (mw (x3 + 6)) σ
    else none := rfl
set_option maxRecDepth 100000 in
set_option maxHeartbeats 8000000 in
theorem p_L_law_18 {e : mEv} (hG : mGeo (mw0 e) lw_kept) (N : Nat) {f : mFx} {sc : mSc} (C0 : mCx f (mw0 e) sc cL_law 4 RL lw_kept) (hLf : mLf f) (hA : ∀ q, wA (mw0 e) q → (fs f).heap.size ≤ q) : ∀ (n : Nat) (y0 : Nat) (x3 : Int) (σ : mS) (out : (Int × mS) ⊕ (mS)), L_L_law_18 N n y0 x3 σ = some out → (∀ v s, out = .inl (v, s) → v = 1) → (∀ (s : mS), out = .inr s → mWW f (mw0 e) sc 4 (1126, [none, none, none, none], [], s)) → mWW f (mw0 e) sc 4 (18, [some (.inr (.inr (99, y0))), some (.inr (.inr (0, 0))), some (.inr (.inr (71, 0))), some (.inl x3)], [], σ) := by
  intro n
  induction n with
  | zero =>
    intro y0 x3 σ out h hX hK
    cases h
  | succ n IH =>
    intro y0 x3 σ out h hX hK
    rw [L_L_law_18_s] at h
    refine m_blk C0 (pL_ok rfl) kL_law_ok 10 5 (24, [some (.inr (.inr (99, y0))), some (.inr (.inr (0, 0))), some (.inr (.inr (71, 0))), some (.inl x3)], [.inl (mw (((y0 : Nat) : Int) - 6)), .inl x3], σ) (Ps := []) rfl trivial ?_
    refine b_igt C0 kL_law_ok 15 (off := 1102) (tgt := 1126) rfl (by decide) (fun hb2255 => ?_) (fun hb2255 => ?_)
    · replace h := g_pos hb2255 h
      cases h
      refine m_mask [false, false, false, false] (ls' := [none, none, none, none]) rfl ?_
      exact hK _ rfl
    · replace h := g_neg hb2255 h
      obtain ⟨hc, h⟩ := g_if h
      refine m_blk C0 (pL_ok rfl) kL_law_ok 16 5 (33, [some (.inr (.inr (99, y0))), some (.inr (.inr (0, 0))), some (.inr (.inr (71, 0))), some (.inl x3)], [.inl (o_and (σ 99 y0 x3.toNat) 31)], σ) (Ps := [0 ≤ x3 ∧ x3 < ((y0 : Nat) : Int)]) rfl (And.intro hc trivial) ?_
      refine b_tab C0 kL_law_ok 21 (tgt := 1120) rfl (fun n hn1 hn2 => ?_) (by decide) (fun hn => ?_)
      · rcases (show n = 0 ∨ n = 1 ∨ n = 2 ∨ n = 3 ∨ n = 4 ∨ n = 5 ∨ n = 6 ∨ n = 7 ∨ n = 8 ∨ n = 9 ∨ n = 10 ∨ n = 11 ∨ n = 12 ∨ n = 13 ∨ n = 14 ∨ n = 15 ∨ n = 16 ∨ n = 17 ∨ n = 18 ∨ n = 19 ∨ n = 20 ∨ n = 21 ∨ n = 22 ∨ n = 23 ∨ n = 24 ∨ n = 25 by omega) with rfl | rfl | rfl | rfl | rfl | rfl | rfl | rfl | rfl | rfl | rfl | rfl | rfl | rfl | rfl | rfl | rfl | rfl | rfl | rfl | rfl | rfl | rfl | rfl | rfl | rfl
        · have hb2254 : (o_and (σ 99 y0 x3.toNat) 31) = 0 := hn1
          replace h := g_pos hb2254 h
          refine ⟨_, 152, rfl, by decide, ?_⟩
          obtain ⟨hc, h⟩ := g_if h
          refine m_blk C0 (pL_ok rfl) kL_law_ok 22 16 (168, [some (.inr (.inr (99, y0))), some (.inr (.inr (0, 0))), some (.inr (.inr (71, 0))), some (.inl x3)], [.inl (σ 99 y0 ((mw (x3 + 3)).toNat)), .inl (σ 99 y0 ((mw (x3 + 2)).toNat)), .inl (σ 99 y0 ((mw (x3 + 1)).toNat)), .inr (.inr (0, 0))], σ) (Ps := [0 ≤ (mw (x3 + 1)) ∧ (mw (x3 + 1)) < ((y0 : Nat) : Int), 0 ≤ (mw (x3 + 2)) ∧ (mw (x3 + 2)) < ((y0 : Nat) : Int), 0 ≤ (mw (x3 + 3)) ∧ (mw (x3 + 3)) < ((y0 : Nat) : Int)]) rfl (And.intro hc.1 (And.intro hc.2.1 (And.intro hc.2.2.1 trivial))) ?_
          refine m_blk C0 (pL_ok rfl) kL_law_ok 38 5 (173, [some (.inr (.inr (99, y0))), some (.inr (.inr (0, 0))), some (.inr (.inr (71, 0))), some (.inl x3)], [.inl (σ 99 y0 ((mw (x3 + 4)).toNat)), .inl (σ 99 y0 ((mw (x3 + 3)).toNat)), .inl (σ 99 y0 ((mw (x3 + 2)).toNat)), .inl (σ 99 y0 ((mw (x3 + 1)).toNat)), .inr (.inr (0, 0))], σ) (Ps := [0 ≤ (mw (x3 + 4)) ∧ (mw (x3 + 4)) < ((y0 : Nat) : Int)]) rfl (And.intro hc.2.2.2 trivial) ?_
          obtain ⟨⟨v2073, s2072⟩, hq2078, h⟩ := g_bind h
          refine c_VL (rest := []) hG C0 hLf (t_X11_turn hG f.2.1 N hq2078) lk_L_13 (k_at kL_law_ok 43 rfl) rfl rfl rfl rfl ⟨_, _, rfl⟩ (by decide) (by decide) (Nat.le_of_ble_eq_true rfl) ?_
          obtain ⟨hc, h⟩ := g_if h
          refine m_blk C0 (pL_ok rfl) kL_law_ok 44 16 (192, [some (.inr (.inr (99, y0))), some (.inr (.inr (0, 0))), some (.inr (.inr (71, 0))), some (.inl x3)], [.inl ((mfix G0 σ s2072) 99 y0 ((mw (x3 + 3)).toNat)), .inl ((mfix G0 σ s2072) 99 y0 ((mw (x3 + 2)).toNat)), .inl ((mfix G0 σ s2072) 99 y0 ((mw (x3 + 1)).toNat)), .inr (.inr (71, 0)), .inl v2073], (mfix G0 σ s2072)) (Ps := [0 ≤ (mw (x3 + 1)) ∧ (mw (x3 + 1)) < ((y0 : Nat) : Int), 0 ≤ (mw (x3 + 2)) ∧ (mw (x3 + 2)) < ((y0 : Nat) : Int), 0 ≤ (mw (x3 + 3)) ∧ (mw (x3 + 3)) < ((y0 : Nat) : Int)]) rfl (And.intro hc.1 (And.intro hc.2.1 (And.intro hc.2.2.1 trivial))) ?_
          refine m_blk C0 (pL_ok rfl) kL_law_ok 60 5 (197, [some (.inr (.inr (99, y0))), some (.inr (.inr (0, 0))), some (.inr (.inr (71, 0))), some (.inl x3)], [.inl ((mfix G0 σ s2072) 99 y0 ((mw (x3 + 4)).toNat)), .inl ((mfix G0 σ s2072) 99 y0 ((mw (x3 + 3)).toNat)), .inl ((mfix G0 σ s2072) 99 y0 ((mw (x3 + 2)).toNat)), .inl ((mfix G0 σ s2072) 99 y0 ((mw (x3 + 1)).toNat)), .inr (.inr (71, 0)), .inl v2073], (mfix G0 σ s2072)) (Ps := [0 ≤ (mw (x3 + 4)) ∧ (mw (x3 + 4)) < ((y0 : Nat) : Int)]) rfl (And.intro hc.2.2.2 trivial) ?_
          obtain ⟨⟨v2075, s2074⟩, hq2077, h⟩ := g_bind h
          refine c_VL (rest := [.inl v2073]) hG C0 hLf (t_X12_turn hG f.2.1 N hq2077) lk_L_17 (k_at kL_law_ok 65 rfl) rfl rfl rfl rfl ⟨_, _, rfl⟩ (by decide) (by decide) (Nat.le_of_ble_eq_true rfl) ?_
          refine b_ieq C0 kL_law_ok 66 (off := 920) (tgt := 1120) rfl (by decide) (fun hb2076 => ?_) (fun hb2076 => ?_)
          · replace h := g_pos hb2076 h
            refine m_blk C0 (pL_ok rfl) kL_law_ok 834 2 (18, [some (.inr (.inr (99, y0))), some (.inr (.inr (0, 0))), some (.inr (.inr (71, 0))), some (.inl (mw (x3 + 6)))], [], (mfix G0 (mfix G0 σ s2072) s2074)) (Ps := []) rfl trivial ?_
            refine m_mask [true, true, true, true] (ls' := [some (.inr (.inr (99, y0))), some (.inr (.inr (0, 0))), some (.inr (.inr (71, 0))), some (.inl (mw (x3 + 6)))]) rfl ?_
            exact IH _ _ _ _ h hX hK
          · replace h := g_neg hb2076 h
            refine m_blk C0 (pL_ok rfl) kL_law_ok 67 1 (204, [some (.inr (.inr (99, y0))), some (.inr (.inr (0, 0))), some (.inr (.inr (71, 0))), some (.inl x3)], [.inl 0], (mfix G0 (mfix G0 σ s2072) s2074)) (Ps := []) rfl trivial ?_
            cases h
            exact m_lawret C0 hLf (k_at kL_law_ok 68 rfl) (hX _ _ rfl)
        · have hb2254 : (o_and (σ 99 y0 x3.toNat) 31) = 1 := hn1
          replace h := g_neg (show ¬ (o_and (σ 99 y0 x3.toNat) 31) = 0 by omega) h
          replace h := g_pos hb2254 h
          refine ⟨_, 205, rfl, by decide, ?_⟩
          obtain ⟨hc, h⟩ := g_if h
          refine m_blk C0 (pL_ok rfl) kL_law_ok 69 6 (211, [some (.inr (.inr (99, y0))), some (.inr (.inr (0, 0))), some (.inr (.inr (71, 0))), some (.inl x3)], [.inl (σ 99 y0 ((mw (x3 + 1)).toNat)), .inr (.inr (0, 0))], σ) (Ps := [0 ≤ (mw (x3 + 1)) ∧ (mw (x3 + 1)) < ((y0 : Nat) : Int)]) rfl (And.intro hc trivial) ?_
          obtain ⟨⟨v2080, s2079⟩, hq2085, h⟩ := g_bind h
          refine c_VL (rest := []) hG C0 hLf (t_X11_drop hG f.2.1 N hq2085) lk_L_18 (k_at kL_law_ok 75 rfl) rfl rfl rfl rfl ⟨_, _, rfl⟩ (by decide) (by decide) (Nat.le_of_ble_eq_true rfl) ?_
          obtain ⟨hc, h⟩ := g_if h
          refine m_blk C0 (pL_ok rfl) kL_law_ok 76 6 (220, [some (.inr (.inr (99, y0))), some (.inr (.inr (0, 0))), some (.inr (.inr (71, 0))), some (.inl x3)], [.inl ((mfix G0 σ s2079) 99 y0 ((mw (x3 + 1)).toNat)), .inr (.inr (71, 0)), .inl v2080], (mfix G0 σ s2079)) (Ps := [0 ≤ (mw (x3 + 1)) ∧ (mw (x3 + 1)) < ((y0 : Nat) : Int)]) rfl (And.intro hc trivial) ?_
          obtain ⟨⟨v2082, s2081⟩, hq2084, h⟩ := g_bind h
          refine c_VL (rest := [.inl v2080]) hG C0 hLf (t_X12_drop hG f.2.1 N hq2084) lk_L_22 (k_at kL_law_ok 82 rfl) rfl rfl rfl rfl ⟨_, _, rfl⟩ (by decide) (by decide) (Nat.le_of_ble_eq_true rfl) ?_
          refine b_ieq C0 kL_law_ok 83 (off := 897) (tgt := 1120) rfl (by decide) (fun hb2083 => ?_) (fun hb2083 => ?_)
          · replace h := g_pos hb2083 h
            refine m_blk C0 (pL_ok rfl) kL_law_ok 834 2 (18, [some (.inr (.inr (99, y0))), some (.inr (.inr (0, 0))), some (.inr (.inr (71, 0))), some (.inl (mw (x3 + 6)))], [], (mfix G0 (mfix G0 σ s2079) s2081)) (Ps := []) rfl trivial ?_
            refine m_mask [true, true, true, true] (ls' := [some (.inr (.inr (99, y0))), some (.inr (.inr (0, 0))), some (.inr (.inr (71, 0))), some (.inl (mw (x3 + 6)))]) rfl ?_
            exact IH _ _ _ _ h hX hK
          · replace h := g_neg hb2083 h
            refine m_blk C0 (pL_ok rfl) kL_law_ok 84 1 (227, [some (.inr (.inr (99, y0))), some (.inr (.inr (0, 0))), some (.inr (.inr (71, 0))), some (.inl x3)], [.inl 0], (mfix G0 (mfix G0 σ s2079) s2081)) (Ps := []) rfl trivial ?_
            cases h
            exact m_lawret C0 hLf (k_at kL_law_ok 85 rfl) (hX _ _ rfl)
        · have hb2254 : (o_and (σ 99 y0 x3.toNat) 31) = 2 := hn1
          replace h := g_neg (show ¬ (o_and (σ 99 y0 x3.toNat) 31) = 0 by omega) h
          replace h := g_neg (show ¬ (o_and (σ 99 y0 x3.toNat) 31) = 1 by omega) h
          replace h := g_pos hb2254 h
          refine ⟨_, 228, rfl, by decide, ?_⟩
          refine m_blk C0 (pL_ok rfl) kL_law_ok 86 1 (229, [some (.inr (.inr (99, y0))), some (.inr (.inr (0, 0))), some (.inr (.inr (71, 0))), some (.inl x3)], [.inr (.inr (0, 0))], σ) (Ps := []) rfl trivial ?_
          obtain ⟨⟨v2087, s2086⟩, hq2092, h⟩ := g_bind h
          refine c_VL (rest := []) hG C0 hLf (t_X11_group hG f.2.1 N hq2092) lk_L_23 (k_at kL_law_ok 87 rfl) rfl rfl rfl rfl ⟨_, _, rfl⟩ (by decide) (by decide) (Nat.le_of_ble_eq_true rfl) ?_
          refine m_blk C0 (pL_ok rfl) kL_law_ok 88 1 (233, [some (.inr (.inr (99, y0))), some (.inr (.inr (0, 0))), some (.inr (.inr (71, 0))), some (.inl x3)], [.inr (.inr (71, 0)), .inl v2087], (mfix G0 σ s2086)) (Ps := []) rfl trivial ?_
          obtain ⟨⟨v2089, s2088⟩, hq2091, h⟩ := g_bind h
          refine c_VL (rest := [.inl v2087]) hG C0 hLf (t_X12_group hG f.2.1 N hq2091) lk_L_27 (k_at kL_law_ok 89 rfl) rfl rfl rfl rfl ⟨_, _, rfl⟩ (by decide) (by decide) (Nat.le_of_ble_eq_true rfl) ?_
          refine b_ieq C0 kL_law_ok 90 (off := 884) (tgt := 1120) rfl (by decide) (fun hb2090 => ?_) (fun hb2090 => ?_)
          · replace h := g_pos hb2090 h
            refine m_blk C0 (pL_ok rfl) kL_law_ok 834 2 (18, [some (.inr (.inr (99, y0))), some (.inr (.inr (0, 0))), some (.inr (.inr (71, 0))), some (.inl (mw (x3 + 6)))], [], (mfix G0 (mfix G0 σ s2086) s2088)) (Ps := []) rfl trivial ?_
            refine m_mask [true, true, true, true] (ls' := [some (.inr (.inr (99, y0))), some (.inr (.inr (0, 0))), some (.inr (.inr (71, 0))), some (.inl (mw (x3 + 6)))]) rfl ?_
            exact IH _ _ _ _ h hX hK
          · replace h := g_neg hb2090 h
            refine m_blk C0 (pL_ok rfl) kL_law_ok 91 1 (240, [some (.inr (.inr (99, y0))), some (.inr (.inr (0, 0))), some (.inr (.inr (71, 0))), some (.inl x3)], [.inl 0], (mfix G0 (mfix G0 σ s2086) s2088)) (Ps := []) rfl trivial ?_
            cases h
            exact m_lawret C0 hLf (k_at kL_law_ok 92 rfl) (hX _ _ rfl)
        · have hb2254 : (o_and (σ 99 y0 x3.toNat) 31) = 3 := hn1
          replace h := g_neg (show ¬ (o_and (σ 99 y0 x3.toNat) 31) = 0 by omega) h
          replace h := g_neg (show ¬ (o_and (σ 99 y0 x3.toNat) 31) = 1 by omega) h
          replace h := g_neg (show ¬ (o_and (σ 99 y0 x3.toNat) 31) = 2 by omega) h
          replace h := g_pos hb2254 h
          refine ⟨_, 241, rfl, by decide, ?_⟩
          obtain ⟨hc, h⟩ := g_if h
          refine m_blk C0 (pL_ok rfl) kL_law_ok 93 6 (247, [some (.inr (.inr (99, y0))), some (.inr (.inr (0, 0))), some (.inr (.inr (71, 0))), some (.inl x3)], [.inl (σ 99 y0 ((mw (x3 + 1)).toNat)), .inr (.inr (0, 0))], σ) (Ps := [0 ≤ (mw (x3 + 1)) ∧ (mw (x3 + 1)) < ((y0 : Nat) : Int)]) rfl (And.intro hc trivial) ?_
          obtain ⟨⟨v2094, s2093⟩, hq2099, h⟩ := g_bind h
          refine c_VL (rest := []) hG C0 hLf (t_X11_about hG f.2.1 N hq2099) lk_L_28 (k_at kL_law_ok 99 rfl) rfl rfl rfl rfl ⟨_, _, rfl⟩ (by decide) (by decide) (Nat.le_of_ble_eq_true rfl) ?_
          obtain ⟨hc, h⟩ := g_if h
          refine m_blk C0 (pL_ok rfl) kL_law_ok 100 6 (256, [some (.inr (.inr (99, y0))), some (.inr (.inr (0, 0))), some (.inr (.inr (71, 0))), some (.inl x3)], [.inl ((mfix G0 σ s2093) 99 y0 ((mw (x3 + 1)).toNat)), .inr (.inr (71, 0)), .inl v2094], (mfix G0 σ s2093)) (Ps := [0 ≤ (mw (x3 + 1)) ∧ (mw (x3 + 1)) < ((y0 : Nat) : Int)]) rfl (And.intro hc trivial) ?_
          obtain ⟨⟨v2096, s2095⟩, hq2098, h⟩ := g_bind h
          refine c_VL (rest := [.inl v2094]) hG C0 hLf (t_X12_about hG f.2.1 N hq2098) lk_L_32 (k_at kL_law_ok 106 rfl) rfl rfl rfl rfl ⟨_, _, rfl⟩ (by decide) (by decide) (Nat.le_of_ble_eq_true rfl) ?_
          refine b_ieq C0 kL_law_ok 107 (off := 861) (tgt := 1120) rfl (by decide) (fun hb2097 => ?_) (fun hb2097 => ?_)
          · replace h := g_pos hb2097 h
            refine m_blk C0 (pL_ok rfl) kL_law_ok 834 2 (18, [some (.inr (.inr (99, y0))), some (.inr (.inr (0, 0))), some (.inr (.inr (71, 0))), some (.inl (mw (x3 + 6)))], [], (mfix G0 (mfix G0 σ s2093) s2095)) (Ps := []) rfl trivial ?_
            refine m_mask [true, true, true, true] (ls' := [some (.inr (.inr (99, y0))), some (.inr (.inr (0, 0))), some (.inr (.inr (71, 0))), some (.inl (mw (x3 + 6)))]) rfl ?_
            exact IH _ _ _ _ h hX hK
          · replace h := g_neg hb2097 h
            refine m_blk C0 (pL_ok rfl) kL_law_ok 108 1 (263, [some (.inr (.inr (99, y0))), some (.inr (.inr (0, 0))), some (.inr (.inr (71, 0))), some (.inl x3)], [.inl 0], (mfix G0 (mfix G0 σ s2093) s2095)) (Ps := []) rfl trivial ?_
            cases h
            exact m_lawret C0 hLf (k_at kL_law_ok 109 rfl) (hX _ _ rfl)
        · have hb2254 : (o_and (σ 99 y0 x3.toNat) 31) = 4 := hn1
          replace h := g_neg (show ¬ (o_and (σ 99 y0 x3.toNat) 31) = 0 by omega) h
          replace h := g_neg (show ¬ (o_and (σ 99 y0 x3.toNat) 31) = 1 by omega) h
          replace h := g_neg (show ¬ (o_and (σ 99 y0 x3.toNat) 31) = 2 by omega) h
          replace h := g_neg (show ¬ (o_and (σ 99 y0 x3.toNat) 31) = 3 by omega) h
          replace h := g_pos hb2254 h
          refine ⟨_, 264, rfl, by decide, ?_⟩
          obtain ⟨hc, h⟩ := g_if h
          refine m_blk C0 (pL_ok rfl) kL_law_ok 110 11 (275, [some (.inr (.inr (99, y0))), some (.inr (.inr (0, 0))), some (.inr (.inr (71, 0))), some (.inl x3)], [.inl (σ 99 y0 ((mw (x3 + 2)).toNat)), .inl (σ 99 y0 ((mw (x3 + 1)).toNat)), .inr (.inr (0, 0))], σ) (Ps := [0 ≤ (mw (x3 + 1)) ∧ (mw (x3 + 1)) < ((y0 : Nat) : Int), 0 ≤ (mw (x3 + 2)) ∧ (mw (x3 + 2)) < ((y0 : Nat) : Int)]) rfl (And.intro hc.1 (And.intro hc.2 trivial)) ?_
          obtain ⟨⟨v2101, s2100⟩, hq2106, h⟩ := g_bind h
          refine c_VL (rest := []) hG C0 hLf (t_X11_element hG f.2.1 N hq2106) lk_L_33 (k_at kL_law_ok 121 rfl) rfl rfl rfl rfl ⟨_, _, rfl⟩ (by decide) (by decide) (Nat.le_of_ble_eq_true rfl) ?_
          obtain ⟨hc, h⟩ := g_if h
          refine m_blk C0 (pL_ok rfl) kL_law_ok 122 11 (289, [some (.inr (.inr (99, y0))), some (.inr (.inr (0, 0))), some (.inr (.inr (71, 0))), some (.inl x3)], [.inl ((mfix G0 σ s2100) 99 y0 ((mw (x3 + 2)).toNat)), .inl ((mfix G0 σ s2100) 99 y0 ((mw (x3 + 1)).toNat)), .inr (.inr (71, 0)), .inl v2101], (mfix G0 σ s2100)) (Ps := [0 ≤ (mw (x3 + 1)) ∧ (mw (x3 + 1)) < ((y0 : Nat) : Int), 0 ≤ (mw (x3 + 2)) ∧ (mw (x3 + 2)) < ((y0 : Nat) : Int)]) rfl (And.intro hc.1 (And.intro hc.2 trivial)) ?_
          obtain ⟨⟨v2103, s2102⟩, hq2105, h⟩ := g_bind h
          refine c_VL (rest := [.inl v2101]) hG C0 hLf (t_X12_element hG f.2.1 N hq2105) lk_L_37 (k_at kL_law_ok 133 rfl) rfl rfl rfl rfl ⟨_, _, rfl⟩ (by decide) (by decide) (Nat.le_of_ble_eq_true rfl) ?_
          refine b_ieq C0 kL_law_ok 134 (off := 828) (tgt := 1120) rfl (by decide) (fun hb2104 => ?_) (fun hb2104 => ?_)
          · replace h := g_pos hb2104 h
            refine m_blk C0 (pL_ok rfl) kL_law_ok 834 2 (18, [some (.inr (.inr (99, y0))), some (.inr (.inr (0, 0))), some (.inr (.inr (71, 0))), some (.inl (mw (x3 + 6)))], [], (mfix G0 (mfix G0 σ s2100) s2102)) (Ps := []) rfl trivial ?_
            refine m_mask [true, true, true, true] (ls' := [some (.inr (.inr (99, y0))), some (.inr (.inr (0, 0))), some (.inr (.inr (71, 0))), some (.inl (mw (x3 + 6)))]) rfl ?_
            exact IH _ _ _ _ h hX hK
          · replace h := g_neg hb2104 h
            refine m_blk C0 (pL_ok rfl) kL_law_ok 135 1 (296, [some (.inr (.inr (99, y0))), some (.inr (.inr (0, 0))), some (.inr (.inr (71, 0))), some (.inl x3)], [.inl 0], (mfix G0 (mfix G0 σ s2100) s2102)) (Ps := []) rfl trivial ?_
            cases h
            exact m_lawret C0 hLf (k_at kL_law_ok 136 rfl) (hX _ _ rfl)
        · have hb2254 : (o_and (σ 99 y0 x3.toNat) 31) = 5 := hn1
          replace h := g_neg (show ¬ (o_and (σ 99 y0 x3.toNat) 31) = 0 by omega) h
          replace h := g_neg (show ¬ (o_and (σ 99 y0 x3.toNat) 31) = 1 by omega) h
          replace h := g_neg (show ¬ (o_and (σ 99 y0 x3.toNat) 31) = 2 by omega) h
          replace h := g_neg (show ¬ (o_and (σ 99 y0 x3.toNat) 31) = 3 by omega) h
          replace h := g_neg (show ¬ (o_and (σ 99 y0 x3.toNat) 31) = 4 by omega) h
          replace h := g_pos hb2254 h
          refine ⟨_, 297, rfl, by decide, ?_⟩
          obtain ⟨hc, h⟩ := g_if h
          refine m_blk C0 (pL_ok rfl) kL_law_ok 137 11 (308, [some (.inr (.inr (99, y0))), some (.inr (.inr (0, 0))), some (.inr (.inr (71, 0))), some (.inl x3)], [.inl (σ 99 y0 ((mw (x3 + 2)).toNat)), .inl (σ 99 y0 ((mw (x3 + 1)).toNat)), .inr (.inr (0, 0))], σ) (Ps := [0 ≤ (mw (x3 + 1)) ∧ (mw (x3 + 1)) < ((y0 : Nat) : Int), 0 ≤ (mw (x3 + 2)) ∧ (mw (x3 + 2)) < ((y0 : Nat) : Int)]) rfl (And.intro hc.1 (And.intro hc.2 trivial)) ?_
          obtain ⟨⟨v2108, s2107⟩, hq2113, h⟩ := g_bind h
          refine c_VL (rest := []) hG C0 hLf (t_X11_times hG f.2.1 N hq2113) lk_L_38 (k_at kL_law_ok 148 rfl) rfl rfl rfl rfl ⟨_, _, rfl⟩ (by decide) (by decide) (Nat.le_of_ble_eq_true rfl) ?_
          obtain ⟨hc, h⟩ := g_if h
          refine m_blk C0 (pL_ok rfl) kL_law_ok 149 11 (322, [some (.inr (.inr (99, y0))), some (.inr (.inr (0, 0))), some (.inr (.inr (71, 0))), some (.inl x3)], [.inl ((mfix G0 σ s2107) 99 y0 ((mw (x3 + 2)).toNat)), .inl ((mfix G0 σ s2107) 99 y0 ((mw (x3 + 1)).toNat)), .inr (.inr (71, 0)), .inl v2108], (mfix G0 σ s2107)) (Ps := [0 ≤ (mw (x3 + 1)) ∧ (mw (x3 + 1)) < ((y0 : Nat) : Int), 0 ≤ (mw (x3 + 2)) ∧ (mw (x3 + 2)) < ((y0 : Nat) : Int)]) rfl (And.intro hc.1 (And.intro hc.2 trivial)) ?_
          obtain ⟨⟨v2110, s2109⟩, hq2112, h⟩ := g_bind h
          refine c_VL (rest := [.inl v2108]) hG C0 hLf (t_X12_times hG f.2.1 N hq2112) lk_L_41 (k_at kL_law_ok 160 rfl) rfl rfl rfl rfl ⟨_, _, rfl⟩ (by decide) (by decide) (Nat.le_of_ble_eq_true rfl) ?_
          refine b_ieq C0 kL_law_ok 161 (off := 795) (tgt := 1120) rfl (by decide) (fun hb2111 => ?_) (fun hb2111 => ?_)
          · replace h := g_pos hb2111 h
            refine m_blk C0 (pL_ok rfl) kL_law_ok 834 2 (18, [some (.inr (.inr (99, y0))), some (.inr (.inr (0, 0))), some (.inr (.inr (71, 0))), some (.inl (mw (x3 + 6)))], [], (mfix G0 (mfix G0 σ s2107) s2109)) (Ps := []) rfl trivial ?_
            refine m_mask [true, true, true, true] (ls' := [some (.inr (.inr (99, y0))), some (.inr (.inr (0, 0))), some (.inr (.inr (71, 0))), some (.inl (mw (x3 + 6)))]) rfl ?_
            exact IH _ _ _ _ h hX hK
          · replace h := g_neg hb2111 h
            refine m_blk C0 (pL_ok rfl) kL_law_ok 162 1 (329, [some (.inr (.inr (99, y0))), some (.inr (.inr (0, 0))), some (.inr (.inr (71, 0))), some (.inl x3)], [.inl 0], (mfix G0 (mfix G0 σ s2107) s2109)) (Ps := []) rfl trivial ?_
            cases h
            exact m_lawret C0 hLf (k_at kL_law_ok 163 rfl) (hX _ _ rfl)
        · have hb2254 : (o_and (σ 99 y0 x3.toNat) 31) = 6 := hn1
          replace h := g_neg (show ¬ (o_and (σ 99 y0 x3.toNat) 31) = 0 by omega) h
          replace h := g_neg (show ¬ (o_and (σ 99 y0 x3.toNat) 31) = 1 by omega) h
          replace h := g_neg (show ¬ (o_and (σ 99 y0 x3.toNat) 31) = 2 by omega) h
          replace h := g_neg (show ¬ (o_and (σ 99 y0 x3.toNat) 31) = 3 by omega) h
          replace h := g_neg (show ¬ (o_and (σ 99 y0 x3.toNat) 31) = 4 by omega) h
          replace h := g_neg (show ¬ (o_and (σ 99 y0 x3.toNat) 31) = 5 by omega) h
          replace h := g_pos hb2254 h
          refine ⟨_, 330, rfl, by decide, ?_⟩
          obtain ⟨hc, h⟩ := g_if h
          refine m_blk C0 (pL_ok rfl) kL_law_ok 164 11 (341, [some (.inr (.inr (99, y0))), some (.inr (.inr (0, 0))), some (.inr (.inr (71, 0))), some (.inl x3)], [.inl (σ 99 y0 ((mw (x3 + 2)).toNat)), .inl (σ 99 y0 ((mw (x3 + 1)).toNat)), .inr (.inr (0, 0))], σ) (Ps := [0 ≤ (mw (x3 + 1)) ∧ (mw (x3 + 1)) < ((y0 : Nat) : Int), 0 ≤ (mw (x3 + 2)) ∧ (mw (x3 + 2)) < ((y0 : Nat) : Int)]) rfl (And.intro hc.1 (And.intro hc.2 trivial)) ?_
          obtain ⟨⟨v2115, s2114⟩, hq2120, h⟩ := g_bind h
          refine c_VL (rest := []) hG C0 hLf (t_X11_of hG f.2.1 N hq2120) lk_L_42 (k_at kL_law_ok 175 rfl) rfl rfl rfl rfl ⟨_, _, rfl⟩ (by decide) (by decide) (Nat.le_of_ble_eq_true rfl) ?_
          obtain ⟨hc, h⟩ := g_if h
          refine m_blk C0 (pL_ok rfl) kL_law_ok 176 11 (355, [some (.inr (.inr (99, y0))), some (.inr (.inr (0, 0))), some (.inr (.inr (71, 0))), some (.inl x3)], [.inl ((mfix G0 σ s2114) 99 y0 ((mw (x3 + 2)).toNat)), .inl ((mfix G0 σ s2114) 99 y0 ((mw (x3 + 1)).toNat)), .inr (.inr (71, 0)), .inl v2115], (mfix G0 σ s2114)) (Ps := [0 ≤ (mw (x3 + 1)) ∧ (mw (x3 + 1)) < ((y0 : Nat) : Int), 0 ≤ (mw (x3 + 2)) ∧ (mw (x3 + 2)) < ((y0 : Nat) : Int)]) rfl (And.intro hc.1 (And.intro hc.2 trivial)) ?_
          obtain ⟨⟨v2117, s2116⟩, hq2119, h⟩ := g_bind h
          refine c_VL (rest := [.inl v2115]) hG C0 hLf (t_X12_of hG f.2.1 N hq2119) lk_L_45 (k_at kL_law_ok 187 rfl) rfl rfl rfl rfl ⟨_, _, rfl⟩ (by decide) (by decide) (Nat.le_of_ble_eq_true rfl) ?_
          refine b_ieq C0 kL_law_ok 188 (off := 762) (tgt := 1120) rfl (by decide) (fun hb2118 => ?_) (fun hb2118 => ?_)
          · replace h := g_pos hb2118 h
            refine m_blk C0 (pL_ok rfl) kL_law_ok 834 2 (18, [some (.inr (.inr (99, y0))), some (.inr (.inr (0, 0))), some (.inr (.inr (71, 0))), some (.inl (mw (x3 + 6)))], [], (mfix G0 (mfix G0 σ s2114) s2116)) (Ps := []) rfl trivial ?_
            refine m_mask [true, true, true, true] (ls' := [some (.inr (.inr (99, y0))), some (.inr (.inr (0, 0))), some (.inr (.inr (71, 0))), some (.inl (mw (x3 + 6)))]) rfl ?_
            exact IH _ _ _ _ h hX hK
          · replace h := g_neg hb2118 h
            refine m_blk C0 (pL_ok rfl) kL_law_ok 189 1 (362, [some (.inr (.inr (99, y0))), some (.inr (.inr (0, 0))), some (.inr (.inr (71, 0))), some (.inl x3)], [.inl 0], (mfix G0 (mfix G0 σ s2114) s2116)) (Ps := []) rfl trivial ?_
            cases h
            exact m_lawret C0 hLf (k_at kL_law_ok 190 rfl) (hX _ _ rfl)
        · have hb2254 : (o_and (σ 99 y0 x3.toNat) 31) = 7 := hn1
          replace h := g_neg (show ¬ (o_and (σ 99 y0 x3.toNat) 31) = 0 by omega) h
          replace h := g_neg (show ¬ (o_and (σ 99 y0 x3.toNat) 31) = 1 by omega) h
          replace h := g_neg (show ¬ (o_and (σ 99 y0 x3.toNat) 31) = 2 by omega) h
          replace h := g_neg (show ¬ (o_and (σ 99 y0 x3.toNat) 31) = 3 by omega) h
          replace h := g_neg (show ¬ (o_and (σ 99 y0 x3.toNat) 31) = 4 by omega) h
          replace h := g_neg (show ¬ (o_and (σ 99 y0 x3.toNat) 31) = 5 by omega) h
          replace h := g_neg (show ¬ (o_and (σ 99 y0 x3.toNat) 31) = 6 by omega) h
          replace h := g_pos hb2254 h
          refine ⟨_, 363, rfl, by decide, ?_⟩
          obtain ⟨hc, h⟩ := g_if h
          refine m_blk C0 (pL_ok rfl) kL_law_ok 191 11 (374, [some (.inr (.inr (99, y0))), some (.inr (.inr (0, 0))), some (.inr (.inr (71, 0))), some (.inl x3)], [.inl (σ 99 y0 ((mw (x3 + 2)).toNat)), .inl (σ 99 y0 ((mw (x3 + 1)).toNat)), .inr (.inr (0, 0))], σ) (Ps := [0 ≤ (mw (x3 + 1)) ∧ (mw (x3 + 1)) < ((y0 : Nat) : Int), 0 ≤ (mw (x3 + 2)) ∧ (mw (x3 + 2)) < ((y0 : Nat) : Int)]) rfl (And.intro hc.1 (And.intro hc.2 trivial)) ?_
          obtain ⟨⟨v2122, s2121⟩, hq2127, h⟩ := g_bind h
          refine c_VL (rest := []) hG C0 hLf (t_X11_sign hG f.2.1 N hq2127) lk_L_46 (k_at kL_law_ok 202 rfl) rfl rfl rfl rfl ⟨_, _, rfl⟩ (by decide) (by decide) (Nat.le_of_ble_eq_true rfl) ?_
          obtain ⟨hc, h⟩ := g_if h
          refine m_blk C0 (pL_ok rfl) kL_law_ok 203 11 (388, [some (.inr (.inr (99, y0))), some (.inr (.inr (0, 0))), some (.inr (.inr (71, 0))), some (.inl x3)], [.inl ((mfix G0 σ s2121) 99 y0 ((mw (x3 + 2)).toNat)), .inl ((mfix G0 σ s2121) 99 y0 ((mw (x3 + 1)).toNat)), .inr (.inr (71, 0)), .inl v2122], (mfix G0 σ s2121)) (Ps := [0 ≤ (mw (x3 + 1)) ∧ (mw (x3 + 1)) < ((y0 : Nat) : Int), 0 ≤ (mw (x3 + 2)) ∧ (mw (x3 + 2)) < ((y0 : Nat) : Int)]) rfl (And.intro hc.1 (And.intro hc.2 trivial)) ?_
          obtain ⟨⟨v2124, s2123⟩, hq2126, h⟩ := g_bind h
          refine c_VL (rest := [.inl v2122]) hG C0 hLf (t_X12_sign hG f.2.1 N hq2126) lk_L_49 (k_at kL_law_ok 214 rfl) rfl rfl rfl rfl ⟨_, _, rfl⟩ (by decide) (by decide) (Nat.le_of_ble_eq_true rfl) ?_
          refine b_ieq C0 kL_law_ok 215 (off := 729) (tgt := 1120) rfl (by decide) (fun hb2125 => ?_) (fun hb2125 => ?_)
          · replace h := g_pos hb2125 h
            refine m_blk C0 (pL_ok rfl) kL_law_ok 834 2 (18, [some (.inr (.inr (99, y0))), some (.inr (.inr (0, 0))), some (.inr (.inr (71, 0))), some (.inl (mw (x3 + 6)))], [], (mfix G0 (mfix G0 σ s2121) s2123)) (Ps := []) rfl trivial ?_
            refine m_mask [true, true, true, true] (ls' := [some (.inr (.inr (99, y0))), some (.inr (.inr (0, 0))), some (.inr (.inr (71, 0))), some (.inl (mw (x3 + 6)))]) rfl ?_
            exact IH _ _ _ _ h hX hK
          · replace h := g_neg hb2125 h
            refine m_blk C0 (pL_ok rfl) kL_law_ok 216 1 (395, [some (.inr (.inr (99, y0))), some (.inr (.inr (0, 0))), some (.inr (.inr (71, 0))), some (.inl x3)], [.inl 0], (mfix G0 (mfix G0 σ s2121) s2123)) (Ps := []) rfl trivial ?_
            cases h
            exact m_lawret C0 hLf (k_at kL_law_ok 217 rfl) (hX _ _ rfl)
        · have hb2254 : (o_and (σ 99 y0 x3.toNat) 31) = 8 := hn1
          replace h := g_neg (show ¬ (o_and (σ 99 y0 x3.toNat) 31) = 0 by omega) h
          replace h := g_neg (show ¬ (o_and (σ 99 y0 x3.toNat) 31) = 1 by omega) h
          replace h := g_neg (show ¬ (o_and (σ 99 y0 x3.toNat) 31) = 2 by omega) h
          replace h := g_neg (show ¬ (o_and (σ 99 y0 x3.toNat) 31) = 3 by omega) h
          replace h := g_neg (show ¬ (o_and (σ 99 y0 x3.toNat) 31) = 4 by omega) h
          replace h := g_neg (show ¬ (o_and (σ 99 y0 x3.toNat) 31) = 5 by omega) h
          replace h := g_neg (show ¬ (o_and (σ 99 y0 x3.toNat) 31) = 6 by omega) h
          replace h := g_neg (show ¬ (o_and (σ 99 y0 x3.toNat) 31) = 7 by omega) h
          replace h := g_pos hb2254 h
          refine ⟨_, 396, rfl, by decide, ?_⟩
          obtain ⟨hc, h⟩ := g_if h
          refine m_blk C0 (pL_ok rfl) kL_law_ok 218 16 (412, [some (.inr (.inr (99, y0))), some (.inr (.inr (0, 0))), some (.inr (.inr (71, 0))), some (.inl x3)], [.inl (σ 99 y0 ((mw (x3 + 3)).toNat)), .inl (σ 99 y0 ((mw (x3 + 2)).toNat)), .inl (σ 99 y0 ((mw (x3 + 1)).toNat)), .inr (.inr (0, 0))], σ) (Ps := [0 ≤ (mw (x3 + 1)) ∧ (mw (x3 + 1)) < ((y0 : Nat) : Int), 0 ≤ (mw (x3 + 2)) ∧ (mw (x3 + 2)) < ((y0 : Nat) : Int), 0 ≤ (mw (x3 + 3)) ∧ (mw (x3 + 3)) < ((y0 : Nat) : Int)]) rfl (And.intro hc.1 (And.intro hc.2.1 (And.intro hc.2.2.1 trivial))) ?_
          refine m_blk C0 (pL_ok rfl) kL_law_ok 234 10 (422, [some (.inr (.inr (99, y0))), some (.inr (.inr (0, 0))), some (.inr (.inr (71, 0))), some (.inl x3)], [.inl (σ 99 y0 ((mw (x3 + 5)).toNat)), .inl (σ 99 y0 ((mw (x3 + 4)).toNat)), .inl (σ 99 y0 ((mw (x3 + 3)).toNat)), .inl (σ 99 y0 ((mw (x3 + 2)).toNat)), .inl (σ 99 y0 ((mw (x3 + 1)).toNat)), .inr (.inr (0, 0))], σ) (Ps := [0 ≤ (mw (x3 + 4)) ∧ (mw (x3 + 4)) < ((y0 : Nat) : Int), 0 ≤ (mw (x3 + 5)) ∧ (mw (x3 + 5)) < ((y0 : Nat) : Int)]) rfl (And.intro hc.2.2.2.1 (And.intro hc.2.2.2.2 trivial)) ?_
          obtain ⟨⟨v2129, s2128⟩, hq2134, h⟩ := g_bind h
          refine c_VL (rest := []) hG C0 hLf (t_X11_put hG f.2.1 N hq2134) lk_L_50 (k_at kL_law_ok 244 rfl) rfl rfl rfl rfl ⟨_, _, rfl⟩ (by decide) (by decide) (Nat.le_of_ble_eq_true rfl) ?_
          obtain ⟨hc, h⟩ := g_if h
          refine m_blk C0 (pL_ok rfl) kL_law_ok 245 16 (441, [some (.inr (.inr (99, y0))), some (.inr (.inr (0, 0))), some (.inr (.inr (71, 0))), some (.inl x3)], [.inl ((mfix G0 σ s2128) 99 y0 ((mw (x3 + 3)).toNat)), .inl ((mfix G0 σ s2128) 99 y0 ((mw (x3 + 2)).toNat)), .inl ((mfix G0 σ s2128) 99 y0 ((mw (x3 + 1)).toNat)), .inr (.inr (71, 0)), .inl v2129], (mfix G0 σ s2128)) (Ps := [0 ≤ (mw (x3 + 1)) ∧ (mw (x3 + 1)) < ((y0 : Nat) : Int), 0 ≤ (mw (x3 + 2)) ∧ (mw (x3 + 2)) < ((y0 : Nat) : Int), 0 ≤ (mw (x3 + 3)) ∧ (mw (x3 + 3)) < ((y0 : Nat) : Int)]) rfl (And.intro hc.1 (And.intro hc.2.1 (And.intro hc.2.2.1 trivial))) ?_
          refine m_blk C0 (pL_ok rfl) kL_law_ok 261 10 (451, [some (.inr (.inr (99, y0))), some (.inr (.inr (0, 0))), some (.inr (.inr (71, 0))), some (.inl x3)], [.inl ((mfix G0 σ s2128) 99 y0 ((mw (x3 + 5)).toNat)), .inl ((mfix G0 σ s2128) 99 y0 ((mw (x3 + 4)).toNat)), .inl ((mfix G0 σ s2128) 99 y0 ((mw (x3 + 3)).toNat)), .inl ((mfix G0 σ s2128) 99 y0 ((mw (x3 + 2)).toNat)), .inl ((mfix G0 σ s2128) 99 y0 ((mw (x3 + 1)).toNat)), .inr (.inr (71, 0)), .inl v2129], (mfix G0 σ s2128)) (Ps := [0 ≤ (mw (x3 + 4)) ∧ (mw (x3 + 4)) < ((y0 : Nat) : Int), 0 ≤ (mw (x3 + 5)) ∧ (mw (x3 + 5)) < ((y0 : Nat) : Int)]) rfl (And.intro hc.2.2.2.1 (And.intro hc.2.2.2.2 trivial)) ?_
          obtain ⟨⟨v2131, s2130⟩, hq2133, h⟩ := g_bind h
          refine c_VL (rest := [.inl v2129]) hG C0 hLf (t_X12_put hG f.2.1 N hq2133) lk_L_54 (k_at kL_law_ok 271 rfl) rfl rfl rfl rfl ⟨_, _, rfl⟩ (by decide) (by decide) (Nat.le_of_ble_eq_true rfl) ?_
          refine b_ieq C0 kL_law_ok 272 (off := 666) (tgt := 1120) rfl (by decide) (fun hb2132 => ?_) (fun hb2132 => ?_)
          · replace h := g_pos hb2132 h
            refine m_blk C0 (pL_ok rfl) kL_law_ok 834 2 (18, [some (.inr (.inr (99, y0))), some (.inr (.inr (0, 0))), some (.inr (.inr (71, 0))), some (.inl (mw (x3 + 6)))], [], (mfix G0 (mfix G0 σ s2128) s2130)) (Ps := []) rfl trivial ?_
            refine m_mask [true, true, true, true] (ls' := [some (.inr (.inr (99, y0))), some (.inr (.inr (0, 0))), some (.inr (.inr (71, 0))), some (.inl (mw (x3 + 6)))]) rfl ?_
            exact IH _ _ _ _ h hX hK
          · replace h := g_neg hb2132 h
            refine m_blk C0 (pL_ok rfl) kL_law_ok 273 1 (458, [some (.inr (.inr (99, y0))), some (.inr (.inr (0, 0))), some (.inr (.inr (71, 0))), some (.inl x3)], [.inl 0], (mfix G0 (mfix G0 σ s2128) s2130)) (Ps := []) rfl trivial ?_
            cases h
            exact m_lawret C0 hLf (k_at kL_law_ok 274 rfl) (hX _ _ rfl)
        · have hb2254 : (o_and (σ 99 y0 x3.toNat) 31) = 9 := hn1
          replace h := g_neg (show ¬ (o_and (σ 99 y0 x3.toNat) 31) = 0 by omega) h
          replace h := g_neg (show ¬ (o_and (σ 99 y0 x3.toNat) 31) = 1 by omega) h
          replace h := g_neg (show ¬ (o_and (σ 99 y0 x3.toNat) 31) = 2 by omega) h
          replace h := g_neg (show ¬ (o_and (σ 99 y0 x3.toNat) 31) = 3 by omega) h
          replace h := g_neg (show ¬ (o_and (σ 99 y0 x3.toNat) 31) = 4 by omega) h
          replace h := g_neg (show ¬ (o_and (σ 99 y0 x3.toNat) 31) = 5 by omega) h
          replace h := g_neg (show ¬ (o_and (σ 99 y0 x3.toNat) 31) = 6 by omega) h
          replace h := g_neg (show ¬ (o_and (σ 99 y0 x3.toNat) 31) = 7 by omega) h
          replace h := g_neg (show ¬ (o_and (σ 99 y0 x3.toNat) 31) = 8 by omega) h
          replace h := g_pos hb2254 h
          refine ⟨_, 459, rfl, by decide, ?_⟩
          obtain ⟨hc, h⟩ := g_if h
          refine m_blk C0 (pL_ok rfl) kL_law_ok 275 16 (475, [some (.inr (.inr (99, y0))), some (.inr (.inr (0, 0))), some (.inr (.inr (71, 0))), some (.inl x3)], [.inl (σ 99 y0 ((mw (x3 + 3)).toNat)), .inl (σ 99 y0 ((mw (x3 + 2)).toNat)), .inl (σ 99 y0 ((mw (x3 + 1)).toNat)), .inr (.inr (0, 0))], σ) (Ps := [0 ≤ (mw (x3 + 1)) ∧ (mw (x3 + 1)) < ((y0 : Nat) : Int), 0 ≤ (mw (x3 + 2)) ∧ (mw (x3 + 2)) < ((y0 : Nat) : Int), 0 ≤ (mw (x3 + 3)) ∧ (mw (x3 + 3)) < ((y0 : Nat) : Int)]) rfl (And.intro hc.1 (And.intro hc.2.1 (And.intro hc.2.2.1 trivial))) ?_
          refine m_blk C0 (pL_ok rfl) kL_law_ok 291 5 (480, [some (.inr (.inr (99, y0))), some (.inr (.inr (0, 0))), some (.inr (.inr (71, 0))), some (.inl x3)], [.inl (σ 99 y0 ((mw (x3 + 4)).toNat)), .inl (σ 99 y0 ((mw (x3 + 3)).toNat)), .inl (σ 99 y0 ((mw (x3 + 2)).toNat)), .inl (σ 99 y0 ((mw (x3 + 1)).toNat)), .inr (.inr (0, 0))], σ) (Ps := [0 ≤ (mw (x3 + 4)) ∧ (mw (x3 + 4)) < ((y0 : Nat) : Int)]) rfl (And.intro hc.2.2.2 trivial) ?_
          obtain ⟨⟨v2136, s2135⟩, hq2141, h⟩ := g_bind h
          refine c_VL (rest := []) hG C0 hLf (t_X11_number hG f.2.1 N hq2141) lk_L_55 (k_at kL_law_ok 296 rfl) rfl rfl rfl rfl ⟨_, _, rfl⟩ (by decide) (by decide) (Nat.le_of_ble_eq_true rfl) ?_
          obtain ⟨hc, h⟩ := g_if h
          refine m_blk C0 (pL_ok rfl) kL_law_ok 297 16 (499, [some (.inr (.inr (99, y0))), some (.inr (.inr (0, 0))), some (.inr (.inr (71, 0))), some (.inl x3)], [.inl ((mfix G0 σ s2135) 99 y0 ((mw (x3 + 3)).toNat)), .inl ((mfix G0 σ s2135) 99 y0 ((mw (x3 + 2)).toNat)), .inl ((mfix G0 σ s2135) 99 y0 ((mw (x3 + 1)).toNat)), .inr (.inr (71, 0)), .inl v2136], (mfix G0 σ s2135)) (Ps := [0 ≤ (mw (x3 + 1)) ∧ (mw (x3 + 1)) < ((y0 : Nat) : Int), 0 ≤ (mw (x3 + 2)) ∧ (mw (x3 + 2)) < ((y0 : Nat) : Int), 0 ≤ (mw (x3 + 3)) ∧ (mw (x3 + 3)) < ((y0 : Nat) : Int)]) rfl (And.intro hc.1 (And.intro hc.2.1 (And.intro hc.2.2.1 trivial))) ?_
          refine m_blk C0 (pL_ok rfl) kL_law_ok 313 5 (504, [some (.inr (.inr (99, y0))), some (.inr (.inr (0, 0))), some (.inr (.inr (71, 0))), some (.inl x3)], [.inl ((mfix G0 σ s2135) 99 y0 ((mw (x3 + 4)).toNat)), .inl ((mfix G0 σ s2135) 99 y0 ((mw (x3 + 3)).toNat)), .inl ((mfix G0 σ s2135) 99 y0 ((mw (x3 + 2)).toNat)), .inl ((mfix G0 σ s2135) 99 y0 ((mw (x3 + 1)).toNat)), .inr (.inr (71, 0)), .inl v2136], (mfix G0 σ s2135)) (Ps := [0 ≤ (mw (x3 + 4)) ∧ (mw (x3 + 4)) < ((y0 : Nat) : Int)]) rfl (And.intro hc.2.2.2 trivial) ?_
          obtain ⟨⟨v2138, s2137⟩, hq2140, h⟩ := g_bind h
          refine c_VL (rest := [.inl v2136]) hG C0 hLf (t_X12_number hG f.2.1 N hq2140) lk_L_59 (k_at kL_law_ok 318 rfl) rfl rfl rfl rfl ⟨_, _, rfl⟩ (by decide) (by decide) (Nat.le_of_ble_eq_true rfl) ?_
          refine b_ieq C0 kL_law_ok 319 (off := 613) (tgt := 1120) rfl (by decide) (fun hb2139 => ?_) (fun hb2139 => ?_)
          · replace h := g_pos hb2139 h
            refine m_blk C0 (pL_ok rfl) kL_law_ok 834 2 (18, [some (.inr (.inr (99, y0))), some (.inr (.inr (0, 0))), some (.inr (.inr (71, 0))), some (.inl (mw (x3 + 6)))], [], (mfix G0 (mfix G0 σ s2135) s2137)) (Ps := []) rfl trivial ?_
            refine m_mask [true, true, true, true] (ls' := [some (.inr (.inr (99, y0))), some (.inr (.inr (0, 0))), some (.inr (.inr (71, 0))), some (.inl (mw (x3 + 6)))]) rfl ?_
            exact IH _ _ _ _ h hX hK
          · replace h := g_neg hb2139 h
            refine m_blk C0 (pL_ok rfl) kL_law_ok 320 1 (511, [some (.inr (.inr (99, y0))), some (.inr (.inr (0, 0))), some (.inr (.inr (71, 0))), some (.inl x3)], [.inl 0], (mfix G0 (mfix G0 σ s2135) s2137)) (Ps := []) rfl trivial ?_
            cases h
            exact m_lawret C0 hLf (k_at kL_law_ok 321 rfl) (hX _ _ rfl)
        · have hb2254 : (o_and (σ 99 y0 x3.toNat) 31) = 10 := hn1
          replace h := g_neg (show ¬ (o_and (σ 99 y0 x3.toNat) 31) = 0 by omega) h
          replace h := g_neg (show ¬ (o_and (σ 99 y0 x3.toNat) 31) = 1 by omega) h
          replace h := g_neg (show ¬ (o_and (σ 99 y0 x3.toNat) 31) = 2 by omega) h
          replace h := g_neg (show ¬ (o_and (σ 99 y0 x3.toNat) 31) = 3 by omega) h
          replace h := g_neg (show ¬ (o_and (σ 99 y0 x3.toNat) 31) = 4 by omega) h
          replace h := g_neg (show ¬ (o_and (σ 99 y0 x3.toNat) 31) = 5 by omega) h
          replace h := g_neg (show ¬ (o_and (σ 99 y0 x3.toNat) 31) = 6 by omega) h
          replace h := g_neg (show ¬ (o_and (σ 99 y0 x3.toNat) 31) = 7 by omega) h
          replace h := g_neg (show ¬ (o_and (σ 99 y0 x3.toNat) 31) = 8 by omega) h
          replace h := g_neg (show ¬ (o_and (σ 99 y0 x3.toNat) 31) = 9 by omega) h
          replace h := g_pos hb2254 h
          refine ⟨_, 512, rfl, by decide, ?_⟩
          obtain ⟨hc, h⟩ := g_if h
          refine m_blk C0 (pL_ok rfl) kL_law_ok 322 6 (518, [some (.inr (.inr (99, y0))), some (.inr (.inr (0, 0))), some (.inr (.inr (71, 0))), some (.inl x3)], [.inl (σ 99 y0 ((mw (x3 + 1)).toNat)), .inr (.inr (0, 0))], σ) (Ps := [0 ≤ (mw (x3 + 1)) ∧ (mw (x3 + 1)) < ((y0 : Nat) : Int)]) rfl (And.intro hc trivial) ?_
          obtain ⟨⟨v2143, s2142⟩, hq2148, h⟩ := g_bind h
          refine c_VL (rest := []) hG C0 hLf (t_X11_degree hG f.2.1 N hq2148) lk_L_60 (k_at kL_law_ok 328 rfl) rfl rfl rfl rfl ⟨_, _, rfl⟩ (by decide) (by decide) (Nat.le_of_ble_eq_true rfl) ?_
          obtain ⟨hc, h⟩ := g_if h
          refine m_blk C0 (pL_ok rfl) kL_law_ok 329 6 (527, [some (.inr (.inr (99, y0))), some (.inr (.inr (0, 0))), some (.inr (.inr (71, 0))), some (.inl x3)], [.inl ((mfix G0 σ s2142) 99 y0 ((mw (x3 + 1)).toNat)), .inr (.inr (71, 0)), .inl v2143], (mfix G0 σ s2142)) (Ps := [0 ≤ (mw (x3 + 1)) ∧ (mw (x3 + 1)) < ((y0 : Nat) : Int)]) rfl (And.intro hc trivial) ?_
          obtain ⟨⟨v2145, s2144⟩, hq2147, h⟩ := g_bind h
          refine c_VL (rest := [.inl v2143]) hG C0 hLf (t_X12_degree hG f.2.1 N hq2147) lk_L_63 (k_at kL_law_ok 335 rfl) rfl rfl rfl rfl ⟨_, _, rfl⟩ (by decide) (by decide) (Nat.le_of_ble_eq_true rfl) ?_
          refine b_ieq C0 kL_law_ok 336 (off := 590) (tgt := 1120) rfl (by decide) (fun hb2146 => ?_) (fun hb2146 => ?_)
          · replace h := g_pos hb2146 h
            refine m_blk C0 (pL_ok rfl) kL_law_ok 834 2 (18, [some (.inr (.inr (99, y0))), some (.inr (.inr (0, 0))), some (.inr (.inr (71, 0))), some (.inl (mw (x3 + 6)))], [], (mfix G0 (mfix G0 σ s2142) s2144)) (Ps := []) rfl trivial ?_
            refine m_mask [true, true, true, true] (ls' := [some (.inr (.inr (99, y0))), some (.inr (.inr (0, 0))), some (.inr (.inr (71, 0))), some (.inl (mw (x3 + 6)))]) rfl ?_
            exact IH _ _ _ _ h hX hK
          · replace h := g_neg hb2146 h
            refine m_blk C0 (pL_ok rfl) kL_law_ok 337 1 (534, [some (.inr (.inr (99, y0))), some (.inr (.inr (0, 0))), some (.inr (.inr (71, 0))), some (.inl x3)], [.inl 0], (mfix G0 (mfix G0 σ s2142) s2144)) (Ps := []) rfl trivial ?_
            cases h
            exact m_lawret C0 hLf (k_at kL_law_ok 338 rfl) (hX _ _ rfl)
        · have hb2254 : (o_and (σ 99 y0 x3.toNat) 31) = 11 := hn1
          replace h := g_neg (show ¬ (o_and (σ 99 y0 x3.toNat) 31) = 0 by omega) h
          replace h := g_neg (show ¬ (o_and (σ 99 y0 x3.toNat) 31) = 1 by omega) h
          replace h := g_neg (show ¬ (o_and (σ 99 y0 x3.toNat) 31) = 2 by omega) h
          replace h := g_neg (show ¬ (o_and (σ 99 y0 x3.toNat) 31) = 3 by omega) h
          replace h := g_neg (show ¬ (o_and (σ 99 y0 x3.toNat) 31) = 4 by omega) h
          replace h := g_neg (show ¬ (o_and (σ 99 y0 x3.toNat) 31) = 5 by omega) h
          replace h := g_neg (show ¬ (o_and (σ 99 y0 x3.toNat) 31) = 6 by omega) h
          replace h := g_neg (show ¬ (o_and (σ 99 y0 x3.toNat) 31) = 7 by omega) h
          replace h := g_neg (show ¬ (o_and (σ 99 y0 x3.toNat) 31) = 8 by omega) h
          replace h := g_neg (show ¬ (o_and (σ 99 y0 x3.toNat) 31) = 9 by omega) h
          replace h := g_neg (show ¬ (o_and (σ 99 y0 x3.toNat) 31) = 10 by omega) h
          replace h := g_pos hb2254 h
          refine ⟨_, 535, rfl, by decide, ?_⟩
          obtain ⟨hc, h⟩ := g_if h
          refine m_blk C0 (pL_ok rfl) kL_law_ok 339 16 (551, [some (.inr (.inr (99, y0))), some (.inr (.inr (0, 0))), some (.inr (.inr (71, 0))), some (.inl x3)], [.inl (σ 99 y0 ((mw (x3 + 3)).toNat)), .inl (σ 99 y0 ((mw (x3 + 2)).toNat)), .inl (σ 99 y0 ((mw (x3 + 1)).toNat)), .inr (.inr (0, 0))], σ) (Ps := [0 ≤ (mw (x3 + 1)) ∧ (mw (x3 + 1)) < ((y0 : Nat) : Int), 0 ≤ (mw (x3 + 2)) ∧ (mw (x3 + 2)) < ((y0 : Nat) : Int), 0 ≤ (mw (x3 + 3)) ∧ (mw (x3 + 3)) < ((y0 : Nat) : Int)]) rfl (And.intro hc.1 (And.intro hc.2.1 (And.intro hc.2.2.1 trivial))) ?_
          refine m_blk C0 (pL_ok rfl) kL_law_ok 355 10 (561, [some (.inr (.inr (99, y0))), some (.inr (.inr (0, 0))), some (.inr (.inr (71, 0))), some (.inl x3)], [.inl (σ 99 y0 ((mw (x3 + 5)).toNat)), .inl (σ 99 y0 ((mw (x3 + 4)).toNat)), .inl (σ 99 y0 ((mw (x3 + 3)).toNat)), .inl (σ 99 y0 ((mw (x3 + 2)).toNat)), .inl (σ 99 y0 ((mw (x3 + 1)).toNat)), .inr (.inr (0, 0))], σ) (Ps := [0 ≤ (mw (x3 + 4)) ∧ (mw (x3 + 4)) < ((y0 : Nat) : Int), 0 ≤ (mw (x3 + 5)) ∧ (mw (x3 + 5)) < ((y0 : Nat) : Int)]) rfl (And.intro hc.2.2.2.1 (And.intro hc.2.2.2.2 trivial)) ?_
          obtain ⟨⟨v2150, s2149⟩, hq2155, h⟩ := g_bind h
          refine c_VL (rest := []) hG C0 hLf (t_X11_sum hG f.2.1 N hq2155) lk_L_64 (k_at kL_law_ok 365 rfl) rfl rfl rfl rfl ⟨_, _, rfl⟩ (by decide) (by decide) (Nat.le_of_ble_eq_true rfl) ?_
          obtain ⟨hc, h⟩ := g_if h
          refine m_blk C0 (pL_ok rfl) kL_law_ok 366 16 (580, [some (.inr (.inr (99, y0))), some (.inr (.inr (0, 0))), some (.inr (.inr (71, 0))), some (.inl x3)], [.inl ((mfix G0 σ s2149) 99 y0 ((mw (x3 + 3)).toNat)), .inl ((mfix G0 σ s2149) 99 y0 ((mw (x3 + 2)).toNat)), .inl ((mfix G0 σ s2149) 99 y0 ((mw (x3 + 1)).toNat)), .inr (.inr (71, 0)), .inl v2150], (mfix G0 σ s2149)) (Ps := [0 ≤ (mw (x3 + 1)) ∧ (mw (x3 + 1)) < ((y0 : Nat) : Int), 0 ≤ (mw (x3 + 2)) ∧ (mw (x3 + 2)) < ((y0 : Nat) : Int), 0 ≤ (mw (x3 + 3)) ∧ (mw (x3 + 3)) < ((y0 : Nat) : Int)]) rfl (And.intro hc.1 (And.intro hc.2.1 (And.intro hc.2.2.1 trivial))) ?_
          refine m_blk C0 (pL_ok rfl) kL_law_ok 382 10 (590, [some (.inr (.inr (99, y0))), some (.inr (.inr (0, 0))), some (.inr (.inr (71, 0))), some (.inl x3)], [.inl ((mfix G0 σ s2149) 99 y0 ((mw (x3 + 5)).toNat)), .inl ((mfix G0 σ s2149) 99 y0 ((mw (x3 + 4)).toNat)), .inl ((mfix G0 σ s2149) 99 y0 ((mw (x3 + 3)).toNat)), .inl ((mfix G0 σ s2149) 99 y0 ((mw (x3 + 2)).toNat)), .inl ((mfix G0 σ s2149) 99 y0 ((mw (x3 + 1)).toNat)), .inr (.inr (71, 0)), .inl v2150], (mfix G0 σ s2149)) (Ps := [0 ≤ (mw (x3 + 4)) ∧ (mw (x3 + 4)) < ((y0 : Nat) : Int), 0 ≤ (mw (x3 + 5)) ∧ (mw (x3 + 5)) < ((y0 : Nat) : Int)]) rfl (And.intro hc.2.2.2.1 (And.intro hc.2.2.2.2 trivial)) ?_
          obtain ⟨⟨v2152, s2151⟩, hq2154, h⟩ := g_bind h
          refine c_VL (rest := [.inl v2150]) hG C0 hLf (t_X12_sum hG f.2.1 N hq2154) lk_L_68 (k_at kL_law_ok 392 rfl) rfl rfl rfl rfl ⟨_, _, rfl⟩ (by decide) (by decide) (Nat.le_of_ble_eq_true rfl) ?_
          refine b_ieq C0 kL_law_ok 393 (off := 527) (tgt := 1120) rfl (by decide) (fun hb2153 => ?_) (fun hb2153 => ?_)
          · replace h := g_pos hb2153 h
            refine m_blk C0 (pL_ok rfl) kL_law_ok 834 2 (18, [some (.inr (.inr (99, y0))), some (.inr (.inr (0, 0))), some (.inr (.inr (71, 0))), some (.inl (mw (x3 + 6)))], [], (mfix G0 (mfix G0 σ s2149) s2151)) (Ps := []) rfl trivial ?_
            refine m_mask [true, true, true, true] (ls' := [some (.inr (.inr (99, y0))), some (.inr (.inr (0, 0))), some (.inr (.inr (71, 0))), some (.inl (mw (x3 + 6)))]) rfl ?_
            exact IH _ _ _ _ h hX hK
          · replace h := g_neg hb2153 h
            refine m_blk C0 (pL_ok rfl) kL_law_ok 394 1 (597, [some (.inr (.inr (99, y0))), some (.inr (.inr (0, 0))), some (.inr (.inr (71, 0))), some (.inl x3)], [.inl 0], (mfix G0 (mfix G0 σ s2149) s2151)) (Ps := []) rfl trivial ?_
            cases h
            exact m_lawret C0 hLf (k_at kL_law_ok 395 rfl) (hX _ _ rfl)
        · have hb2254 : (o_and (σ 99 y0 x3.toNat) 31) = 12 := hn1
          replace h := g_neg (show ¬ (o_and (σ 99 y0 x3.toNat) 31) = 0 by omega) h
          replace h := g_neg (show ¬ (o_and (σ 99 y0 x3.toNat) 31) = 1 by omega) h
          replace h := g_neg (show ¬ (o_and (σ 99 y0 x3.toNat) 31) = 2 by omega) h
          replace h := g_neg (show ¬ (o_and (σ 99 y0 x3.toNat) 31) = 3 by omega) h
          replace h := g_neg (show ¬ (o_and (σ 99 y0 x3.toNat) 31) = 4 by omega) h
          replace h := g_neg (show ¬ (o_and (σ 99 y0 x3.toNat) 31) = 5 by omega) h
          replace h := g_neg (show ¬ (o_and (σ 99 y0 x3.toNat) 31) = 6 by omega) h
          replace h := g_neg (show ¬ (o_and (σ 99 y0 x3.toNat) 31) = 7 by omega) h
          replace h := g_neg (show ¬ (o_and (σ 99 y0 x3.toNat) 31) = 8 by omega) h
          replace h := g_neg (show ¬ (o_and (σ 99 y0 x3.toNat) 31) = 9 by omega) h
          replace h := g_neg (show ¬ (o_and (σ 99 y0 x3.toNat) 31) = 10 by omega) h
          replace h := g_neg (show ¬ (o_and (σ 99 y0 x3.toNat) 31) = 11 by omega) h
          replace h := g_pos hb2254 h
          refine ⟨_, 598, rfl, by decide, ?_⟩
          obtain ⟨hc, h⟩ := g_if h
          refine m_blk C0 (pL_ok rfl) kL_law_ok 396 16 (614, [some (.inr (.inr (99, y0))), some (.inr (.inr (0, 0))), some (.inr (.inr (71, 0))), some (.inl x3)], [.inl (σ 99 y0 ((mw (x3 + 3)).toNat)), .inl (σ 99 y0 ((mw (x3 + 2)).toNat)), .inl (σ 99 y0 ((mw (x3 + 1)).toNat)), .inr (.inr (0, 0))], σ) (Ps := [0 ≤ (mw (x3 + 1)) ∧ (mw (x3 + 1)) < ((y0 : Nat) : Int), 0 ≤ (mw (x3 + 2)) ∧ (mw (x3 + 2)) < ((y0 : Nat) : Int), 0 ≤ (mw (x3 + 3)) ∧ (mw (x3 + 3)) < ((y0 : Nat) : Int)]) rfl (And.intro hc.1 (And.intro hc.2.1 (And.intro hc.2.2 trivial))) ?_
          obtain ⟨⟨v2157, s2156⟩, hq2162, h⟩ := g_bind h
          refine c_VL (rest := []) hG C0 hLf (t_X11_product hG f.2.1 N hq2162) lk_L_69 (k_at kL_law_ok 412 rfl) rfl rfl rfl rfl ⟨_, _, rfl⟩ (by decide) (by decide) (Nat.le_of_ble_eq_true rfl) ?_
          obtain ⟨hc, h⟩ := g_if h
          refine m_blk C0 (pL_ok rfl) kL_law_ok 413 16 (633, [some (.inr (.inr (99, y0))), some (.inr (.inr (0, 0))), some (.inr (.inr (71, 0))), some (.inl x3)], [.inl ((mfix G0 σ s2156) 99 y0 ((mw (x3 + 3)).toNat)), .inl ((mfix G0 σ s2156) 99 y0 ((mw (x3 + 2)).toNat)), .inl ((mfix G0 σ s2156) 99 y0 ((mw (x3 + 1)).toNat)), .inr (.inr (71, 0)), .inl v2157], (mfix G0 σ s2156)) (Ps := [0 ≤ (mw (x3 + 1)) ∧ (mw (x3 + 1)) < ((y0 : Nat) : Int), 0 ≤ (mw (x3 + 2)) ∧ (mw (x3 + 2)) < ((y0 : Nat) : Int), 0 ≤ (mw (x3 + 3)) ∧ (mw (x3 + 3)) < ((y0 : Nat) : Int)]) rfl (And.intro hc.1 (And.intro hc.2.1 (And.intro hc.2.2 trivial))) ?_
          obtain ⟨⟨v2159, s2158⟩, hq2161, h⟩ := g_bind h
          refine c_VL (rest := [.inl v2157]) hG C0 hLf (t_X12_product_ hG f.2.1 N hq2161) lk_L_73 (k_at kL_law_ok 429 rfl) rfl rfl rfl rfl ⟨_, _, rfl⟩ (by decide) (by decide) (Nat.le_of_ble_eq_true rfl) ?_
          refine b_ieq C0 kL_law_ok 430 (off := 484) (tgt := 1120) rfl (by decide) (fun hb2160 => ?_) (fun hb2160 => ?_)
          · replace h := g_pos hb2160 h
            refine m_blk C0 (pL_ok rfl) kL_law_ok 834 2 (18, [some (.inr (.inr (99, y0))), some (.inr (.inr (0, 0))), some (.inr (.inr (71, 0))), some (.inl (mw (x3 + 6)))], [], (mfix G0 (mfix G0 σ s2156) s2158)) (Ps := []) rfl trivial ?_
            refine m_mask [true, true, true, true] (ls' := [some (.inr (.inr (99, y0))), some (.inr (.inr (0, 0))), some (.inr (.inr (71, 0))), some (.inl (mw (x3 + 6)))]) rfl ?_
            exact IH _ _ _ _ h hX hK
          · replace h := g_neg hb2160 h
            refine m_blk C0 (pL_ok rfl) kL_law_ok 431 1 (640, [some (.inr (.inr (99, y0))), some (.inr (.inr (0, 0))), some (.inr (.inr (71, 0))), some (.inl x3)], [.inl 0], (mfix G0 (mfix G0 σ s2156) s2158)) (Ps := []) rfl trivial ?_
            cases h
            exact m_lawret C0 hLf (k_at kL_law_ok 432 rfl) (hX _ _ rfl)
        · have hb2254 : (o_and (σ 99 y0 x3.toNat) 31) = 13 := hn1
          replace h := g_neg (show ¬ (o_and (σ 99 y0 x3.toNat) 31) = 0 by omega) h
          replace h := g_neg (show ¬ (o_and (σ 99 y0 x3.toNat) 31) = 1 by omega) h
          replace h := g_neg (show ¬ (o_and (σ 99 y0 x3.toNat) 31) = 2 by omega) h
          replace h := g_neg (show ¬ (o_and (σ 99 y0 x3.toNat) 31) = 3 by omega) h
          replace h := g_neg (show ¬ (o_and (σ 99 y0 x3.toNat) 31) = 4 by omega) h
          replace h := g_neg (show ¬ (o_and (σ 99 y0 x3.toNat) 31) = 5 by omega) h
          replace h := g_neg (show ¬ (o_and (σ 99 y0 x3.toNat) 31) = 6 by omega) h
          replace h := g_neg (show ¬ (o_and (σ 99 y0 x3.toNat) 31) = 7 by omega) h
          replace h := g_neg (show ¬ (o_and (σ 99 y0 x3.toNat) 31) = 8 by omega) h
          replace h := g_neg (show ¬ (o_and (σ 99 y0 x3.toNat) 31) = 9 by omega) h
          replace h := g_neg (show ¬ (o_and (σ 99 y0 x3.toNat) 31) = 10 by omega) h
          replace h := g_neg (show ¬ (o_and (σ 99 y0 x3.toNat) 31) = 11 by omega) h
          replace h := g_neg (show ¬ (o_and (σ 99 y0 x3.toNat) 31) = 12 by omega) h
          replace h := g_pos hb2254 h
          refine ⟨_, 641, rfl, by decide, ?_⟩
          obtain ⟨hc, h⟩ := g_if h
          refine m_blk C0 (pL_ok rfl) kL_law_ok 433 16 (657, [some (.inr (.inr (99, y0))), some (.inr (.inr (0, 0))), some (.inr (.inr (71, 0))), some (.inl x3)], [.inl (σ 99 y0 ((mw (x3 + 3)).toNat)), .inl (σ 99 y0 ((mw (x3 + 2)).toNat)), .inl (σ 99 y0 ((mw (x3 + 1)).toNat)), .inr (.inr (0, 0))], σ) (Ps := [0 ≤ (mw (x3 + 1)) ∧ (mw (x3 + 1)) < ((y0 : Nat) : Int), 0 ≤ (mw (x3 + 2)) ∧ (mw (x3 + 2)) < ((y0 : Nat) : Int), 0 ≤ (mw (x3 + 3)) ∧ (mw (x3 + 3)) < ((y0 : Nat) : Int)]) rfl (And.intro hc.1 (And.intro hc.2.1 (And.intro hc.2.2 trivial))) ?_
          obtain ⟨⟨v2164, s2163⟩, hq2169, h⟩ := g_bind h
          refine c_VL (rest := []) hG C0 hLf (t_X11_turned hG f.2.1 N hq2169) lk_L_74 (k_at kL_law_ok 449 rfl) rfl rfl rfl rfl ⟨_, _, rfl⟩ (by decide) (by decide) (Nat.le_of_ble_eq_true rfl) ?_
          obtain ⟨hc, h⟩ := g_if h
          refine m_blk C0 (pL_ok rfl) kL_law_ok 450 16 (676, [some (.inr (.inr (99, y0))), some (.inr (.inr (0, 0))), some (.inr (.inr (71, 0))), some (.inl x3)], [.inl ((mfix G0 σ s2163) 99 y0 ((mw (x3 + 3)).toNat)), .inl ((mfix G0 σ s2163) 99 y0 ((mw (x3 + 2)).toNat)), .inl ((mfix G0 σ s2163) 99 y0 ((mw (x3 + 1)).toNat)), .inr (.inr (71, 0)), .inl v2164], (mfix G0 σ s2163)) (Ps := [0 ≤ (mw (x3 + 1)) ∧ (mw (x3 + 1)) < ((y0 : Nat) : Int), 0 ≤ (mw (x3 + 2)) ∧ (mw (x3 + 2)) < ((y0 : Nat) : Int), 0 ≤ (mw (x3 + 3)) ∧ (mw (x3 + 3)) < ((y0 : Nat) : Int)]) rfl (And.intro hc.1 (And.intro hc.2.1 (And.intro hc.2.2 trivial))) ?_
          obtain ⟨⟨v2166, s2165⟩, hq2168, h⟩ := g_bind h
          refine c_VL (rest := [.inl v2164]) hG C0 hLf (t_X12_turned hG f.2.1 N hq2168) lk_L_77 (k_at kL_law_ok 466 rfl) rfl rfl rfl rfl ⟨_, _, rfl⟩ (by decide) (by decide) (Nat.le_of_ble_eq_true rfl) ?_
          refine b_ieq C0 kL_law_ok 467 (off := 441) (tgt := 1120) rfl (by decide) (fun hb2167 => ?_) (fun hb2167 => ?_)
          · replace h := g_pos hb2167 h
            refine m_blk C0 (pL_ok rfl) kL_law_ok 834 2 (18, [some (.inr (.inr (99, y0))), some (.inr (.inr (0, 0))), some (.inr (.inr (71, 0))), some (.inl (mw (x3 + 6)))], [], (mfix G0 (mfix G0 σ s2163) s2165)) (Ps := []) rfl trivial ?_
            refine m_mask [true, true, true, true] (ls' := [some (.inr (.inr (99, y0))), some (.inr (.inr (0, 0))), some (.inr (.inr (71, 0))), some (.inl (mw (x3 + 6)))]) rfl ?_
            exact IH _ _ _ _ h hX hK
          · replace h := g_neg hb2167 h
            refine m_blk C0 (pL_ok rfl) kL_law_ok 468 1 (683, [some (.inr (.inr (99, y0))), some (.inr (.inr (0, 0))), some (.inr (.inr (71, 0))), some (.inl x3)], [.inl 0], (mfix G0 (mfix G0 σ s2163) s2165)) (Ps := []) rfl trivial ?_
            cases h
            exact m_lawret C0 hLf (k_at kL_law_ok 469 rfl) (hX _ _ rfl)
        · have hb2254 : (o_and (σ 99 y0 x3.toNat) 31) = 14 := hn1
          replace h := g_neg (show ¬ (o_and (σ 99 y0 x3.toNat) 31) = 0 by omega) h
          replace h := g_neg (show ¬ (o_and (σ 99 y0 x3.toNat) 31) = 1 by omega) h
          replace h := g_neg (show ¬ (o_and (σ 99 y0 x3.toNat) 31) = 2 by omega) h
          replace h := g_neg (show ¬ (o_and (σ 99 y0 x3.toNat) 31) = 3 by omega) h
          replace h := g_neg (show ¬ (o_and (σ 99 y0 x3.toNat) 31) = 4 by omega) h
          replace h := g_neg (show ¬ (o_and (σ 99 y0 x3.toNat) 31) = 5 by omega) h
          replace h := g_neg (show ¬ (o_and (σ 99 y0 x3.toNat) 31) = 6 by omega) h
          replace h := g_neg (show ¬ (o_and (σ 99 y0 x3.toNat) 31) = 7 by omega) h
          replace h := g_neg (show ¬ (o_and (σ 99 y0 x3.toNat) 31) = 8 by omega) h
          replace h := g_neg (show ¬ (o_and (σ 99 y0 x3.toNat) 31) = 9 by omega) h
          replace h := g_neg (show ¬ (o_and (σ 99 y0 x3.toNat) 31) = 10 by omega) h
          replace h := g_neg (show ¬ (o_and (σ 99 y0 x3.toNat) 31) = 11 by omega) h
          replace h := g_neg (show ¬ (o_and (σ 99 y0 x3.toNat) 31) = 12 by omega) h
          replace h := g_neg (show ¬ (o_and (σ 99 y0 x3.toNat) 31) = 13 by omega) h
          replace h := g_pos hb2254 h
          refine ⟨_, 684, rfl, by decide, ?_⟩
          obtain ⟨hc, h⟩ := g_if h
          refine m_blk C0 (pL_ok rfl) kL_law_ok 470 16 (700, [some (.inr (.inr (99, y0))), some (.inr (.inr (0, 0))), some (.inr (.inr (71, 0))), some (.inl x3)], [.inl (σ 99 y0 ((mw (x3 + 3)).toNat)), .inl (σ 99 y0 ((mw (x3 + 2)).toNat)), .inl (σ 99 y0 ((mw (x3 + 1)).toNat)), .inr (.inr (0, 0))], σ) (Ps := [0 ≤ (mw (x3 + 1)) ∧ (mw (x3 + 1)) < ((y0 : Nat) : Int), 0 ≤ (mw (x3 + 2)) ∧ (mw (x3 + 2)) < ((y0 : Nat) : Int), 0 ≤ (mw (x3 + 3)) ∧ (mw (x3 + 3)) < ((y0 : Nat) : Int)]) rfl (And.intro hc.1 (And.intro hc.2.1 (And.intro hc.2.2 trivial))) ?_
          obtain ⟨⟨v2171, s2170⟩, hq2176, h⟩ := g_bind h
          refine c_VL (rest := []) hG C0 hLf (t_X11_mean hG f.2.1 N hq2176) lk_L_78 (k_at kL_law_ok 486 rfl) rfl rfl rfl rfl ⟨_, _, rfl⟩ (by decide) (by decide) (Nat.le_of_ble_eq_true rfl) ?_
          obtain ⟨hc, h⟩ := g_if h
          refine m_blk C0 (pL_ok rfl) kL_law_ok 487 16 (719, [some (.inr (.inr (99, y0))), some (.inr (.inr (0, 0))), some (.inr (.inr (71, 0))), some (.inl x3)], [.inl ((mfix G0 σ s2170) 99 y0 ((mw (x3 + 3)).toNat)), .inl ((mfix G0 σ s2170) 99 y0 ((mw (x3 + 2)).toNat)), .inl ((mfix G0 σ s2170) 99 y0 ((mw (x3 + 1)).toNat)), .inr (.inr (71, 0)), .inl v2171], (mfix G0 σ s2170)) (Ps := [0 ≤ (mw (x3 + 1)) ∧ (mw (x3 + 1)) < ((y0 : Nat) : Int), 0 ≤ (mw (x3 + 2)) ∧ (mw (x3 + 2)) < ((y0 : Nat) : Int), 0 ≤ (mw (x3 + 3)) ∧ (mw (x3 + 3)) < ((y0 : Nat) : Int)]) rfl (And.intro hc.1 (And.intro hc.2.1 (And.intro hc.2.2 trivial))) ?_
          obtain ⟨⟨v2173, s2172⟩, hq2175, h⟩ := g_bind h
          refine c_VL (rest := [.inl v2171]) hG C0 hLf (t_X12_mean hG f.2.1 N hq2175) lk_L_81 (k_at kL_law_ok 503 rfl) rfl rfl rfl rfl ⟨_, _, rfl⟩ (by decide) (by decide) (Nat.le_of_ble_eq_true rfl) ?_
          refine b_ieq C0 kL_law_ok 504 (off := 398) (tgt := 1120) rfl (by decide) (fun hb2174 => ?_) (fun hb2174 => ?_)
          · replace h := g_pos hb2174 h
            refine m_blk C0 (pL_ok rfl) kL_law_ok 834 2 (18, [some (.inr (.inr (99, y0))), some (.inr (.inr (0, 0))), some (.inr (.inr (71, 0))), some (.inl (mw (x3 + 6)))], [], (mfix G0 (mfix G0 σ s2170) s2172)) (Ps := []) rfl trivial ?_
            refine m_mask [true, true, true, true] (ls' := [some (.inr (.inr (99, y0))), some (.inr (.inr (0, 0))), some (.inr (.inr (71, 0))), some (.inl (mw (x3 + 6)))]) rfl ?_
            exact IH _ _ _ _ h hX hK
          · replace h := g_neg hb2174 h
            refine m_blk C0 (pL_ok rfl) kL_law_ok 505 1 (726, [some (.inr (.inr (99, y0))), some (.inr (.inr (0, 0))), some (.inr (.inr (71, 0))), some (.inl x3)], [.inl 0], (mfix G0 (mfix G0 σ s2170) s2172)) (Ps := []) rfl trivial ?_
            cases h
            exact m_lawret C0 hLf (k_at kL_law_ok 506 rfl) (hX _ _ rfl)
        · have hb2254 : (o_and (σ 99 y0 x3.toNat) 31) = 15 := hn1
          replace h := g_neg (show ¬ (o_and (σ 99 y0 x3.toNat) 31) = 0 by omega) h
          replace h := g_neg (show ¬ (o_and (σ 99 y0 x3.toNat) 31) = 1 by omega) h
          replace h := g_neg (show ¬ (o_and (σ 99 y0 x3.toNat) 31) = 2 by omega) h
          replace h := g_neg (show ¬ (o_and (σ 99 y0 x3.toNat) 31) = 3 by omega) h
          replace h := g_neg (show ¬ (o_and (σ 99 y0 x3.toNat) 31) = 4 by omega) h
          replace h := g_neg (show ¬ (o_and (σ 99 y0 x3.toNat) 31) = 5 by omega) h
          replace h := g_neg (show ¬ (o_and (σ 99 y0 x3.toNat) 31) = 6 by omega) h
          replace h := g_neg (show ¬ (o_and (σ 99 y0 x3.toNat) 31) = 7 by omega) h
          replace h := g_neg (show ¬ (o_and (σ 99 y0 x3.toNat) 31) = 8 by omega) h
          replace h := g_neg (show ¬ (o_and (σ 99 y0 x3.toNat) 31) = 9 by omega) h
          replace h := g_neg (show ¬ (o_and (σ 99 y0 x3.toNat) 31) = 10 by omega) h
          replace h := g_neg (show ¬ (o_and (σ 99 y0 x3.toNat) 31) = 11 by omega) h
          replace h := g_neg (show ¬ (o_and (σ 99 y0 x3.toNat) 31) = 12 by omega) h
          replace h := g_neg (show ¬ (o_and (σ 99 y0 x3.toNat) 31) = 13 by omega) h
          replace h := g_neg (show ¬ (o_and (σ 99 y0 x3.toNat) 31) = 14 by omega) h
          replace h := g_pos hb2254 h
          refine ⟨_, 727, rfl, by decide, ?_⟩
          obtain ⟨hc, h⟩ := g_if h
          refine m_blk C0 (pL_ok rfl) kL_law_ok 507 11 (738, [some (.inr (.inr (99, y0))), some (.inr (.inr (0, 0))), some (.inr (.inr (71, 0))), some (.inl x3)], [.inl (σ 99 y0 ((mw (x3 + 2)).toNat)), .inl (σ 99 y0 ((mw (x3 + 1)).toNat)), .inr (.inr (0, 0))], σ) (Ps := [0 ≤ (mw (x3 + 1)) ∧ (mw (x3 + 1)) < ((y0 : Nat) : Int), 0 ≤ (mw (x3 + 2)) ∧ (mw (x3 + 2)) < ((y0 : Nat) : Int)]) rfl (And.intro hc.1 (And.intro hc.2 trivial)) ?_
          obtain ⟨⟨v2178, s2177⟩, hq2183, h⟩ := g_bind h
          refine c_VL (rest := []) hG C0 hLf (t_X11_stays hG f.2.1 N hq2183) lk_L_82 (k_at kL_law_ok 518 rfl) rfl rfl rfl rfl ⟨_, _, rfl⟩ (by decide) (by decide) (Nat.le_of_ble_eq_true rfl) ?_
          obtain ⟨hc, h⟩ := g_if h
          refine m_blk C0 (pL_ok rfl) kL_law_ok 519 11 (752, [some (.inr (.inr (99, y0))), some (.inr (.inr (0, 0))), some (.inr (.inr (71, 0))), some (.inl x3)], [.inl ((mfix G0 σ s2177) 99 y0 ((mw (x3 + 2)).toNat)), .inl ((mfix G0 σ s2177) 99 y0 ((mw (x3 + 1)).toNat)), .inr (.inr (71, 0)), .inl v2178], (mfix G0 σ s2177)) (Ps := [0 ≤ (mw (x3 + 1)) ∧ (mw (x3 + 1)) < ((y0 : Nat) : Int), 0 ≤ (mw (x3 + 2)) ∧ (mw (x3 + 2)) < ((y0 : Nat) : Int)]) rfl (And.intro hc.1 (And.intro hc.2 trivial)) ?_
          obtain ⟨⟨v2180, s2179⟩, hq2182, h⟩ := g_bind h
          refine c_VL (rest := [.inl v2178]) hG C0 hLf (t_X12_stays hG f.2.1 N hq2182) lk_L_85 (k_at kL_law_ok 530 rfl) rfl rfl rfl rfl ⟨_, _, rfl⟩ (by decide) (by decide) (Nat.le_of_ble_eq_true rfl) ?_
          refine b_ieq C0 kL_law_ok 531 (off := 365) (tgt := 1120) rfl (by decide) (fun hb2181 => ?_) (fun hb2181 => ?_)
          · replace h := g_pos hb2181 h
            refine m_blk C0 (pL_ok rfl) kL_law_ok 834 2 (18, [some (.inr (.inr (99, y0))), some (.inr (.inr (0, 0))), some (.inr (.inr (71, 0))), some (.inl (mw (x3 + 6)))], [], (mfix G0 (mfix G0 σ s2177) s2179)) (Ps := []) rfl trivial ?_
            refine m_mask [true, true, true, true] (ls' := [some (.inr (.inr (99, y0))), some (.inr (.inr (0, 0))), some (.inr (.inr (71, 0))), some (.inl (mw (x3 + 6)))]) rfl ?_
            exact IH _ _ _ _ h hX hK
          · replace h := g_neg hb2181 h
            refine m_blk C0 (pL_ok rfl) kL_law_ok 532 1 (759, [some (.inr (.inr (99, y0))), some (.inr (.inr (0, 0))), some (.inr (.inr (71, 0))), some (.inl x3)], [.inl 0], (mfix G0 (mfix G0 σ s2177) s2179)) (Ps := []) rfl trivial ?_
            cases h
            exact m_lawret C0 hLf (k_at kL_law_ok 533 rfl) (hX _ _ rfl)
        · have hb2254 : (o_and (σ 99 y0 x3.toNat) 31) = 16 := hn1
          replace h := g_neg (show ¬ (o_and (σ 99 y0 x3.toNat) 31) = 0 by omega) h
          replace h := g_neg (show ¬ (o_and (σ 99 y0 x3.toNat) 31) = 1 by omega) h
          replace h := g_neg (show ¬ (o_and (σ 99 y0 x3.toNat) 31) = 2 by omega) h
          replace h := g_neg (show ¬ (o_and (σ 99 y0 x3.toNat) 31) = 3 by omega) h
          replace h := g_neg (show ¬ (o_and (σ 99 y0 x3.toNat) 31) = 4 by omega) h
          replace h := g_neg (show ¬ (o_and (σ 99 y0 x3.toNat) 31) = 5 by omega) h
          replace h := g_neg (show ¬ (o_and (σ 99 y0 x3.toNat) 31) = 6 by omega) h
          replace h := g_neg (show ¬ (o_and (σ 99 y0 x3.toNat) 31) = 7 by omega) h
          replace h := g_neg (show ¬ (o_and (σ 99 y0 x3.toNat) 31) = 8 by omega) h
          replace h := g_neg (show ¬ (o_and (σ 99 y0 x3.toNat) 31) = 9 by omega) h
          replace h := g_neg (show ¬ (o_and (σ 99 y0 x3.toNat) 31) = 10 by omega) h
          replace h := g_neg (show ¬ (o_and (σ 99 y0 x3.toNat) 31) = 11 by omega) h
          replace h := g_neg (show ¬ (o_and (σ 99 y0 x3.toNat) 31) = 12 by omega) h
          replace h := g_neg (show ¬ (o_and (σ 99 y0 x3.toNat) 31) = 13 by omega) h
          replace h := g_neg (show ¬ (o_and (σ 99 y0 x3.toNat) 31) = 14 by omega) h
          replace h := g_neg (show ¬ (o_and (σ 99 y0 x3.toNat) 31) = 15 by omega) h
          replace h := g_pos hb2254 h
          refine ⟨_, 760, rfl, by decide, ?_⟩
          obtain ⟨hc, h⟩ := g_if h
          refine m_blk C0 (pL_ok rfl) kL_law_ok 534 11 (771, [some (.inr (.inr (99, y0))), some (.inr (.inr (0, 0))), some (.inr (.inr (71, 0))), some (.inl x3)], [.inl (σ 99 y0 ((mw (x3 + 2)).toNat)), .inl (σ 99 y0 ((mw (x3 + 1)).toNat)), .inr (.inr (0, 0))], σ) (Ps := [0 ≤ (mw (x3 + 1)) ∧ (mw (x3 + 1)) < ((y0 : Nat) : Int), 0 ≤ (mw (x3 + 2)) ∧ (mw (x3 + 2)) < ((y0 : Nat) : Int)]) rfl (And.intro hc.1 (And.intro hc.2 trivial)) ?_
          obtain ⟨⟨v2185, s2184⟩, hq2190, h⟩ := g_bind h
          refine c_VL (rest := []) hG C0 hLf (t_X11_count hG f.2.1 N hq2190) lk_L_86 (k_at kL_law_ok 545 rfl) rfl rfl rfl rfl ⟨_, _, rfl⟩ (by decide) (by decide) (Nat.le_of_ble_eq_true rfl) ?_
          obtain ⟨hc, h⟩ := g_if h
          refine m_blk C0 (pL_ok rfl) kL_law_ok 546 11 (785, [some (.inr (.inr (99, y0))), some (.inr (.inr (0, 0))), some (.inr (.inr (71, 0))), some (.inl x3)], [.inl ((mfix G0 σ s2184) 99 y0 ((mw (x3 + 2)).toNat)), .inl ((mfix G0 σ s2184) 99 y0 ((mw (x3 + 1)).toNat)), .inr (.inr (71, 0)), .inl v2185], (mfix G0 σ s2184)) (Ps := [0 ≤ (mw (x3 + 1)) ∧ (mw (x3 + 1)) < ((y0 : Nat) : Int), 0 ≤ (mw (x3 + 2)) ∧ (mw (x3 + 2)) < ((y0 : Nat) : Int)]) rfl (And.intro hc.1 (And.intro hc.2 trivial)) ?_
          obtain ⟨⟨v2187, s2186⟩, hq2189, h⟩ := g_bind h
          refine c_VL (rest := [.inl v2185]) hG C0 hLf (t_X12_count hG f.2.1 N hq2189) lk_L_89 (k_at kL_law_ok 557 rfl) rfl rfl rfl rfl ⟨_, _, rfl⟩ (by decide) (by decide) (Nat.le_of_ble_eq_true rfl) ?_
          refine b_ieq C0 kL_law_ok 558 (off := 332) (tgt := 1120) rfl (by decide) (fun hb2188 => ?_) (fun hb2188 => ?_)
          · replace h := g_pos hb2188 h
            refine m_blk C0 (pL_ok rfl) kL_law_ok 834 2 (18, [some (.inr (.inr (99, y0))), some (.inr (.inr (0, 0))), some (.inr (.inr (71, 0))), some (.inl (mw (x3 + 6)))], [], (mfix G0 (mfix G0 σ s2184) s2186)) (Ps := []) rfl trivial ?_
            refine m_mask [true, true, true, true] (ls' := [some (.inr (.inr (99, y0))), some (.inr (.inr (0, 0))), some (.inr (.inr (71, 0))), some (.inl (mw (x3 + 6)))]) rfl ?_
            exact IH _ _ _ _ h hX hK
          · replace h := g_neg hb2188 h
            refine m_blk C0 (pL_ok rfl) kL_law_ok 559 1 (792, [some (.inr (.inr (99, y0))), some (.inr (.inr (0, 0))), some (.inr (.inr (71, 0))), some (.inl x3)], [.inl 0], (mfix G0 (mfix G0 σ s2184) s2186)) (Ps := []) rfl trivial ?_
            cases h
            exact m_lawret C0 hLf (k_at kL_law_ok 560 rfl) (hX _ _ rfl)
        · have hb2254 : (o_and (σ 99 y0 x3.toNat) 31) = 17 := hn1
          replace h := g_neg (show ¬ (o_and (σ 99 y0 x3.toNat) 31) = 0 by omega) h
          replace h := g_neg (show ¬ (o_and (σ 99 y0 x3.toNat) 31) = 1 by omega) h
          replace h := g_neg (show ¬ (o_and (σ 99 y0 x3.toNat) 31) = 2 by omega) h
          replace h := g_neg (show ¬ (o_and (σ 99 y0 x3.toNat) 31) = 3 by omega) h
          replace h := g_neg (show ¬ (o_and (σ 99 y0 x3.toNat) 31) = 4 by omega) h
          replace h := g_neg (show ¬ (o_and (σ 99 y0 x3.toNat) 31) = 5 by omega) h
          replace h := g_neg (show ¬ (o_and (σ 99 y0 x3.toNat) 31) = 6 by omega) h
          replace h := g_neg (show ¬ (o_and (σ 99 y0 x3.toNat) 31) = 7 by omega) h
          replace h := g_neg (show ¬ (o_and (σ 99 y0 x3.toNat) 31) = 8 by omega) h
          replace h := g_neg (show ¬ (o_and (σ 99 y0 x3.toNat) 31) = 9 by omega) h
          replace h := g_neg (show ¬ (o_and (σ 99 y0 x3.toNat) 31) = 10 by omega) h
          replace h := g_neg (show ¬ (o_and (σ 99 y0 x3.toNat) 31) = 11 by omega) h
          replace h := g_neg (show ¬ (o_and (σ 99 y0 x3.toNat) 31) = 12 by omega) h
          replace h := g_neg (show ¬ (o_and (σ 99 y0 x3.toNat) 31) = 13 by omega) h
          replace h := g_neg (show ¬ (o_and (σ 99 y0 x3.toNat) 31) = 14 by omega) h
          replace h := g_neg (show ¬ (o_and (σ 99 y0 x3.toNat) 31) = 15 by omega) h
          replace h := g_neg (show ¬ (o_and (σ 99 y0 x3.toNat) 31) = 16 by omega) h
          replace h := g_pos hb2254 h
          refine ⟨_, 793, rfl, by decide, ?_⟩
          obtain ⟨hc, h⟩ := g_if h
          refine m_blk C0 (pL_ok rfl) kL_law_ok 561 11 (804, [some (.inr (.inr (99, y0))), some (.inr (.inr (0, 0))), some (.inr (.inr (71, 0))), some (.inl x3)], [.inl (σ 99 y0 ((mw (x3 + 2)).toNat)), .inl (σ 99 y0 ((mw (x3 + 1)).toNat)), .inr (.inr (0, 0))], σ) (Ps := [0 ≤ (mw (x3 + 1)) ∧ (mw (x3 + 1)) < ((y0 : Nat) : Int), 0 ≤ (mw (x3 + 2)) ∧ (mw (x3 + 2)) < ((y0 : Nat) : Int)]) rfl (And.intro hc.1 (And.intro hc.2 trivial)) ?_
          obtain ⟨⟨v2192, s2191⟩, hq2197, h⟩ := g_bind h
          refine c_VL (rest := []) hG C0 hLf (t_X11_series hG f.2.1 N hq2197) lk_L_90 (k_at kL_law_ok 572 rfl) rfl rfl rfl rfl ⟨_, _, rfl⟩ (by decide) (by decide) (Nat.le_of_ble_eq_true rfl) ?_
          obtain ⟨hc, h⟩ := g_if h
          refine m_blk C0 (pL_ok rfl) kL_law_ok 573 11 (818, [some (.inr (.inr (99, y0))), some (.inr (.inr (0, 0))), some (.inr (.inr (71, 0))), some (.inl x3)], [.inl ((mfix G0 σ s2191) 99 y0 ((mw (x3 + 2)).toNat)), .inl ((mfix G0 σ s2191) 99 y0 ((mw (x3 + 1)).toNat)), .inr (.inr (71, 0)), .inl v2192], (mfix G0 σ s2191)) (Ps := [0 ≤ (mw (x3 + 1)) ∧ (mw (x3 + 1)) < ((y0 : Nat) : Int), 0 ≤ (mw (x3 + 2)) ∧ (mw (x3 + 2)) < ((y0 : Nat) : Int)]) rfl (And.intro hc.1 (And.intro hc.2 trivial)) ?_
          obtain ⟨⟨v2194, s2193⟩, hq2196, h⟩ := g_bind h
          refine c_VL (rest := [.inl v2192]) hG C0 hLf (t_X12_series hG f.2.1 N hq2196) lk_L_93 (k_at kL_law_ok 584 rfl) rfl rfl rfl rfl ⟨_, _, rfl⟩ (by decide) (by decide) (Nat.le_of_ble_eq_true rfl) ?_
          refine b_ieq C0 kL_law_ok 585 (off := 299) (tgt := 1120) rfl (by decide) (fun hb2195 => ?_) (fun hb2195 => ?_)
          · replace h := g_pos hb2195 h
            refine m_blk C0 (pL_ok rfl) kL_law_ok 834 2 (18, [some (.inr (.inr (99, y0))), some (.inr (.inr (0, 0))), some (.inr (.inr (71, 0))), some (.inl (mw (x3 + 6)))], [], (mfix G0 (mfix G0 σ s2191) s2193)) (Ps := []) rfl trivial ?_
            refine m_mask [true, true, true, true] (ls' := [some (.inr (.inr (99, y0))), some (.inr (.inr (0, 0))), some (.inr (.inr (71, 0))), some (.inl (mw (x3 + 6)))]) rfl ?_
            exact IH _ _ _ _ h hX hK
          · replace h := g_neg hb2195 h
            refine m_blk C0 (pL_ok rfl) kL_law_ok 586 1 (825, [some (.inr (.inr (99, y0))), some (.inr (.inr (0, 0))), some (.inr (.inr (71, 0))), some (.inl x3)], [.inl 0], (mfix G0 (mfix G0 σ s2191) s2193)) (Ps := []) rfl trivial ?_
            cases h
            exact m_lawret C0 hLf (k_at kL_law_ok 587 rfl) (hX _ _ rfl)
        · have hb2254 : (o_and (σ 99 y0 x3.toNat) 31) = 18 := hn1
          replace h := g_neg (show ¬ (o_and (σ 99 y0 x3.toNat) 31) = 0 by omega) h
          replace h := g_neg (show ¬ (o_and (σ 99 y0 x3.toNat) 31) = 1 by omega) h
          replace h := g_neg (show ¬ (o_and (σ 99 y0 x3.toNat) 31) = 2 by omega) h
          replace h := g_neg (show ¬ (o_and (σ 99 y0 x3.toNat) 31) = 3 by omega) h
          replace h := g_neg (show ¬ (o_and (σ 99 y0 x3.toNat) 31) = 4 by omega) h
          replace h := g_neg (show ¬ (o_and (σ 99 y0 x3.toNat) 31) = 5 by omega) h
          replace h := g_neg (show ¬ (o_and (σ 99 y0 x3.toNat) 31) = 6 by omega) h
          replace h := g_neg (show ¬ (o_and (σ 99 y0 x3.toNat) 31) = 7 by omega) h
          replace h := g_neg (show ¬ (o_and (σ 99 y0 x3.toNat) 31) = 8 by omega) h
          replace h := g_neg (show ¬ (o_and (σ 99 y0 x3.toNat) 31) = 9 by omega) h
          replace h := g_neg (show ¬ (o_and (σ 99 y0 x3.toNat) 31) = 10 by omega) h
          replace h := g_neg (show ¬ (o_and (σ 99 y0 x3.toNat) 31) = 11 by omega) h
          replace h := g_neg (show ¬ (o_and (σ 99 y0 x3.toNat) 31) = 12 by omega) h
          replace h := g_neg (show ¬ (o_and (σ 99 y0 x3.toNat) 31) = 13 by omega) h
          replace h := g_neg (show ¬ (o_and (σ 99 y0 x3.toNat) 31) = 14 by omega) h
          replace h := g_neg (show ¬ (o_and (σ 99 y0 x3.toNat) 31) = 15 by omega) h
          replace h := g_neg (show ¬ (o_and (σ 99 y0 x3.toNat) 31) = 16 by omega) h
          replace h := g_neg (show ¬ (o_and (σ 99 y0 x3.toNat) 31) = 17 by omega) h
          replace h := g_pos hb2254 h
          refine ⟨_, 826, rfl, by decide, ?_⟩
          obtain ⟨hc, h⟩ := g_if h
          refine m_blk C0 (pL_ok rfl) kL_law_ok 588 11 (837, [some (.inr (.inr (99, y0))), some (.inr (.inr (0, 0))), some (.inr (.inr (71, 0))), some (.inl x3)], [.inl (σ 99 y0 ((mw (x3 + 2)).toNat)), .inl (σ 99 y0 ((mw (x3 + 1)).toNat)), .inr (.inr (0, 0))], σ) (Ps := [0 ≤ (mw (x3 + 1)) ∧ (mw (x3 + 1)) < ((y0 : Nat) : Int), 0 ≤ (mw (x3 + 2)) ∧ (mw (x3 + 2)) < ((y0 : Nat) : Int)]) rfl (And.intro hc.1 (And.intro hc.2 trivial)) ?_
          obtain ⟨⟨v2199, s2198⟩, hq2204, h⟩ := g_bind h
          refine c_VL (rest := []) hG C0 hLf (t_X11_few hG f.2.1 N hq2204) lk_L_94 (k_at kL_law_ok 599 rfl) rfl rfl rfl rfl ⟨_, _, rfl⟩ (by decide) (by decide) (Nat.le_of_ble_eq_true rfl) ?_
          obtain ⟨hc, h⟩ := g_if h
          refine m_blk C0 (pL_ok rfl) kL_law_ok 600 11 (851, [some (.inr (.inr (99, y0))), some (.inr (.inr (0, 0))), some (.inr (.inr (71, 0))), some (.inl x3)], [.inl ((mfix G0 σ s2198) 99 y0 ((mw (x3 + 2)).toNat)), .inl ((mfix G0 σ s2198) 99 y0 ((mw (x3 + 1)).toNat)), .inr (.inr (71, 0)), .inl v2199], (mfix G0 σ s2198)) (Ps := [0 ≤ (mw (x3 + 1)) ∧ (mw (x3 + 1)) < ((y0 : Nat) : Int), 0 ≤ (mw (x3 + 2)) ∧ (mw (x3 + 2)) < ((y0 : Nat) : Int)]) rfl (And.intro hc.1 (And.intro hc.2 trivial)) ?_
          obtain ⟨⟨v2201, s2200⟩, hq2203, h⟩ := g_bind h
          refine c_VL (rest := [.inl v2199]) hG C0 hLf (t_X12_few hG f.2.1 N hq2203) lk_L_97 (k_at kL_law_ok 611 rfl) rfl rfl rfl rfl ⟨_, _, rfl⟩ (by decide) (by decide) (Nat.le_of_ble_eq_true rfl) ?_
          refine b_ieq C0 kL_law_ok 612 (off := 266) (tgt := 1120) rfl (by decide) (fun hb2202 => ?_) (fun hb2202 => ?_)
          · replace h := g_pos hb2202 h
            refine m_blk C0 (pL_ok rfl) kL_law_ok 834 2 (18, [some (.inr (.inr (99, y0))), some (.inr (.inr (0, 0))), some (.inr (.inr (71, 0))), some (.inl (mw (x3 + 6)))], [], (mfix G0 (mfix G0 σ s2198) s2200)) (Ps := []) rfl trivial ?_
            refine m_mask [true, true, true, true] (ls' := [some (.inr (.inr (99, y0))), some (.inr (.inr (0, 0))), some (.inr (.inr (71, 0))), some (.inl (mw (x3 + 6)))]) rfl ?_
            exact IH _ _ _ _ h hX hK
          · replace h := g_neg hb2202 h
            refine m_blk C0 (pL_ok rfl) kL_law_ok 613 1 (858, [some (.inr (.inr (99, y0))), some (.inr (.inr (0, 0))), some (.inr (.inr (71, 0))), some (.inl x3)], [.inl 0], (mfix G0 (mfix G0 σ s2198) s2200)) (Ps := []) rfl trivial ?_
            cases h
            exact m_lawret C0 hLf (k_at kL_law_ok 614 rfl) (hX _ _ rfl)
        · have hb2254 : (o_and (σ 99 y0 x3.toNat) 31) = 19 := hn1
          replace h := g_neg (show ¬ (o_and (σ 99 y0 x3.toNat) 31) = 0 by omega) h
          replace h := g_neg (show ¬ (o_and (σ 99 y0 x3.toNat) 31) = 1 by omega) h
          replace h := g_neg (show ¬ (o_and (σ 99 y0 x3.toNat) 31) = 2 by omega) h
          replace h := g_neg (show ¬ (o_and (σ 99 y0 x3.toNat) 31) = 3 by omega) h
          replace h := g_neg (show ¬ (o_and (σ 99 y0 x3.toNat) 31) = 4 by omega) h
          replace h := g_neg (show ¬ (o_and (σ 99 y0 x3.toNat) 31) = 5 by omega) h
          replace h := g_neg (show ¬ (o_and (σ 99 y0 x3.toNat) 31) = 6 by omega) h
          replace h := g_neg (show ¬ (o_and (σ 99 y0 x3.toNat) 31) = 7 by omega) h
          replace h := g_neg (show ¬ (o_and (σ 99 y0 x3.toNat) 31) = 8 by omega) h
          replace h := g_neg (show ¬ (o_and (σ 99 y0 x3.toNat) 31) = 9 by omega) h
          replace h := g_neg (show ¬ (o_and (σ 99 y0 x3.toNat) 31) = 10 by omega) h
          replace h := g_neg (show ¬ (o_and (σ 99 y0 x3.toNat) 31) = 11 by omega) h
          replace h := g_neg (show ¬ (o_and (σ 99 y0 x3.toNat) 31) = 12 by omega) h
          replace h := g_neg (show ¬ (o_and (σ 99 y0 x3.toNat) 31) = 13 by omega) h
          replace h := g_neg (show ¬ (o_and (σ 99 y0 x3.toNat) 31) = 14 by omega) h
          replace h := g_neg (show ¬ (o_and (σ 99 y0 x3.toNat) 31) = 15 by omega) h
          replace h := g_neg (show ¬ (o_and (σ 99 y0 x3.toNat) 31) = 16 by omega) h
          replace h := g_neg (show ¬ (o_and (σ 99 y0 x3.toNat) 31) = 17 by omega) h
          replace h := g_neg (show ¬ (o_and (σ 99 y0 x3.toNat) 31) = 18 by omega) h
          replace h := g_pos hb2254 h
          refine ⟨_, 859, rfl, by decide, ?_⟩
          obtain ⟨hc, h⟩ := g_if h
          refine m_blk C0 (pL_ok rfl) kL_law_ok 615 11 (870, [some (.inr (.inr (99, y0))), some (.inr (.inr (0, 0))), some (.inr (.inr (71, 0))), some (.inl x3)], [.inl (σ 99 y0 ((mw (x3 + 2)).toNat)), .inl (σ 99 y0 ((mw (x3 + 1)).toNat)), .inr (.inr (0, 0))], σ) (Ps := [0 ≤ (mw (x3 + 1)) ∧ (mw (x3 + 1)) < ((y0 : Nat) : Int), 0 ≤ (mw (x3 + 2)) ∧ (mw (x3 + 2)) < ((y0 : Nat) : Int)]) rfl (And.intro hc.1 (And.intro hc.2 trivial)) ?_
          obtain ⟨⟨v2206, s2205⟩, hq2211, h⟩ := g_bind h
          refine c_VL (rest := []) hG C0 hLf (t_X11_laws hG f.2.1 N hq2211) lk_L_98 (k_at kL_law_ok 626 rfl) rfl rfl rfl rfl ⟨_, _, rfl⟩ (by decide) (by decide) (Nat.le_of_ble_eq_true rfl) ?_
          obtain ⟨hc, h⟩ := g_if h
          refine m_blk C0 (pL_ok rfl) kL_law_ok 627 11 (884, [some (.inr (.inr (99, y0))), some (.inr (.inr (0, 0))), some (.inr (.inr (71, 0))), some (.inl x3)], [.inl ((mfix G0 σ s2205) 99 y0 ((mw (x3 + 2)).toNat)), .inl ((mfix G0 σ s2205) 99 y0 ((mw (x3 + 1)).toNat)), .inr (.inr (71, 0)), .inl v2206], (mfix G0 σ s2205)) (Ps := [0 ≤ (mw (x3 + 1)) ∧ (mw (x3 + 1)) < ((y0 : Nat) : Int), 0 ≤ (mw (x3 + 2)) ∧ (mw (x3 + 2)) < ((y0 : Nat) : Int)]) rfl (And.intro hc.1 (And.intro hc.2 trivial)) ?_
          obtain ⟨⟨v2208, s2207⟩, hq2210, h⟩ := g_bind h
          refine c_VL (rest := [.inl v2206]) hG C0 hLf (t_X12_laws hG f.2.1 N hq2210) lk_L_101 (k_at kL_law_ok 638 rfl) rfl rfl rfl rfl ⟨_, _, rfl⟩ (by decide) (by decide) (Nat.le_of_ble_eq_true rfl) ?_
          refine b_ieq C0 kL_law_ok 639 (off := 233) (tgt := 1120) rfl (by decide) (fun hb2209 => ?_) (fun hb2209 => ?_)
          · replace h := g_pos hb2209 h
            refine m_blk C0 (pL_ok rfl) kL_law_ok 834 2 (18, [some (.inr (.inr (99, y0))), some (.inr (.inr (0, 0))), some (.inr (.inr (71, 0))), some (.inl (mw (x3 + 6)))], [], (mfix G0 (mfix G0 σ s2205) s2207)) (Ps := []) rfl trivial ?_
            refine m_mask [true, true, true, true] (ls' := [some (.inr (.inr (99, y0))), some (.inr (.inr (0, 0))), some (.inr (.inr (71, 0))), some (.inl (mw (x3 + 6)))]) rfl ?_
            exact IH _ _ _ _ h hX hK
          · replace h := g_neg hb2209 h
            refine m_blk C0 (pL_ok rfl) kL_law_ok 640 1 (891, [some (.inr (.inr (99, y0))), some (.inr (.inr (0, 0))), some (.inr (.inr (71, 0))), some (.inl x3)], [.inl 0], (mfix G0 (mfix G0 σ s2205) s2207)) (Ps := []) rfl trivial ?_
            cases h
            exact m_lawret C0 hLf (k_at kL_law_ok 641 rfl) (hX _ _ rfl)
        · have hb2254 : (o_and (σ 99 y0 x3.toNat) 31) = 20 := hn1
          replace h := g_neg (show ¬ (o_and (σ 99 y0 x3.toNat) 31) = 0 by omega) h
          replace h := g_neg (show ¬ (o_and (σ 99 y0 x3.toNat) 31) = 1 by omega) h
          replace h := g_neg (show ¬ (o_and (σ 99 y0 x3.toNat) 31) = 2 by omega) h
          replace h := g_neg (show ¬ (o_and (σ 99 y0 x3.toNat) 31) = 3 by omega) h
          replace h := g_neg (show ¬ (o_and (σ 99 y0 x3.toNat) 31) = 4 by omega) h
          replace h := g_neg (show ¬ (o_and (σ 99 y0 x3.toNat) 31) = 5 by omega) h
          replace h := g_neg (show ¬ (o_and (σ 99 y0 x3.toNat) 31) = 6 by omega) h
          replace h := g_neg (show ¬ (o_and (σ 99 y0 x3.toNat) 31) = 7 by omega) h
          replace h := g_neg (show ¬ (o_and (σ 99 y0 x3.toNat) 31) = 8 by omega) h
          replace h := g_neg (show ¬ (o_and (σ 99 y0 x3.toNat) 31) = 9 by omega) h
          replace h := g_neg (show ¬ (o_and (σ 99 y0 x3.toNat) 31) = 10 by omega) h
          replace h := g_neg (show ¬ (o_and (σ 99 y0 x3.toNat) 31) = 11 by omega) h
          replace h := g_neg (show ¬ (o_and (σ 99 y0 x3.toNat) 31) = 12 by omega) h
          replace h := g_neg (show ¬ (o_and (σ 99 y0 x3.toNat) 31) = 13 by omega) h
          replace h := g_neg (show ¬ (o_and (σ 99 y0 x3.toNat) 31) = 14 by omega) h
          replace h := g_neg (show ¬ (o_and (σ 99 y0 x3.toNat) 31) = 15 by omega) h
          replace h := g_neg (show ¬ (o_and (σ 99 y0 x3.toNat) 31) = 16 by omega) h
          replace h := g_neg (show ¬ (o_and (σ 99 y0 x3.toNat) 31) = 17 by omega) h
          replace h := g_neg (show ¬ (o_and (σ 99 y0 x3.toNat) 31) = 18 by omega) h
          replace h := g_neg (show ¬ (o_and (σ 99 y0 x3.toNat) 31) = 19 by omega) h
          replace h := g_pos hb2254 h
          refine ⟨_, 892, rfl, by decide, ?_⟩
          obtain ⟨hc, h⟩ := g_if h
          refine m_blk C0 (pL_ok rfl) kL_law_ok 642 6 (898, [some (.inr (.inr (99, y0))), some (.inr (.inr (0, 0))), some (.inr (.inr (71, 0))), some (.inl x3)], [.inl (σ 99 y0 ((mw (x3 + 1)).toNat)), .inr (.inr (0, 0))], σ) (Ps := [0 ≤ (mw (x3 + 1)) ∧ (mw (x3 + 1)) < ((y0 : Nat) : Int)]) rfl (And.intro hc trivial) ?_
          obtain ⟨⟨v2213, s2212⟩, hq2218, h⟩ := g_bind h
          refine c_VL (rest := []) hG C0 hLf (t_X11_made hG f.2.1 N hq2218) lk_L_102 (k_at kL_law_ok 648 rfl) rfl rfl rfl rfl ⟨_, _, rfl⟩ (by decide) (by decide) (Nat.le_of_ble_eq_true rfl) ?_
          obtain ⟨hc, h⟩ := g_if h
          refine m_blk C0 (pL_ok rfl) kL_law_ok 649 6 (907, [some (.inr (.inr (99, y0))), some (.inr (.inr (0, 0))), some (.inr (.inr (71, 0))), some (.inl x3)], [.inl ((mfix G0 σ s2212) 99 y0 ((mw (x3 + 1)).toNat)), .inr (.inr (71, 0)), .inl v2213], (mfix G0 σ s2212)) (Ps := [0 ≤ (mw (x3 + 1)) ∧ (mw (x3 + 1)) < ((y0 : Nat) : Int)]) rfl (And.intro hc trivial) ?_
          obtain ⟨⟨v2215, s2214⟩, hq2217, h⟩ := g_bind h
          refine c_VL (rest := [.inl v2213]) hG C0 hLf (t_X12_made hG f.2.1 N hq2217) lk_L_105 (k_at kL_law_ok 655 rfl) rfl rfl rfl rfl ⟨_, _, rfl⟩ (by decide) (by decide) (Nat.le_of_ble_eq_true rfl) ?_
          refine b_ieq C0 kL_law_ok 656 (off := 210) (tgt := 1120) rfl (by decide) (fun hb2216 => ?_) (fun hb2216 => ?_)
          · replace h := g_pos hb2216 h
            refine m_blk C0 (pL_ok rfl) kL_law_ok 834 2 (18, [some (.inr (.inr (99, y0))), some (.inr (.inr (0, 0))), some (.inr (.inr (71, 0))), some (.inl (mw (x3 + 6)))], [], (mfix G0 (mfix G0 σ s2212) s2214)) (Ps := []) rfl trivial ?_
            refine m_mask [true, true, true, true] (ls' := [some (.inr (.inr (99, y0))), some (.inr (.inr (0, 0))), some (.inr (.inr (71, 0))), some (.inl (mw (x3 + 6)))]) rfl ?_
            exact IH _ _ _ _ h hX hK
          · replace h := g_neg hb2216 h
            refine m_blk C0 (pL_ok rfl) kL_law_ok 657 1 (914, [some (.inr (.inr (99, y0))), some (.inr (.inr (0, 0))), some (.inr (.inr (71, 0))), some (.inl x3)], [.inl 0], (mfix G0 (mfix G0 σ s2212) s2214)) (Ps := []) rfl trivial ?_
            cases h
            exact m_lawret C0 hLf (k_at kL_law_ok 658 rfl) (hX _ _ rfl)
        · have hb2254 : (o_and (σ 99 y0 x3.toNat) 31) = 21 := hn1
          replace h := g_neg (show ¬ (o_and (σ 99 y0 x3.toNat) 31) = 0 by omega) h
          replace h := g_neg (show ¬ (o_and (σ 99 y0 x3.toNat) 31) = 1 by omega) h
          replace h := g_neg (show ¬ (o_and (σ 99 y0 x3.toNat) 31) = 2 by omega) h
          replace h := g_neg (show ¬ (o_and (σ 99 y0 x3.toNat) 31) = 3 by omega) h
          replace h := g_neg (show ¬ (o_and (σ 99 y0 x3.toNat) 31) = 4 by omega) h
          replace h := g_neg (show ¬ (o_and (σ 99 y0 x3.toNat) 31) = 5 by omega) h
          replace h := g_neg (show ¬ (o_and (σ 99 y0 x3.toNat) 31) = 6 by omega) h
          replace h := g_neg (show ¬ (o_and (σ 99 y0 x3.toNat) 31) = 7 by omega) h
          replace h := g_neg (show ¬ (o_and (σ 99 y0 x3.toNat) 31) = 8 by omega) h
          replace h := g_neg (show ¬ (o_and (σ 99 y0 x3.toNat) 31) = 9 by omega) h
          replace h := g_neg (show ¬ (o_and (σ 99 y0 x3.toNat) 31) = 10 by omega) h
          replace h := g_neg (show ¬ (o_and (σ 99 y0 x3.toNat) 31) = 11 by omega) h
          replace h := g_neg (show ¬ (o_and (σ 99 y0 x3.toNat) 31) = 12 by omega) h
          replace h := g_neg (show ¬ (o_and (σ 99 y0 x3.toNat) 31) = 13 by omega) h
          replace h := g_neg (show ¬ (o_and (σ 99 y0 x3.toNat) 31) = 14 by omega) h
          replace h := g_neg (show ¬ (o_and (σ 99 y0 x3.toNat) 31) = 15 by omega) h
          replace h := g_neg (show ¬ (o_and (σ 99 y0 x3.toNat) 31) = 16 by omega) h
          replace h := g_neg (show ¬ (o_and (σ 99 y0 x3.toNat) 31) = 17 by omega) h
          replace h := g_neg (show ¬ (o_and (σ 99 y0 x3.toNat) 31) = 18 by omega) h
          replace h := g_neg (show ¬ (o_and (σ 99 y0 x3.toNat) 31) = 19 by omega) h
          replace h := g_neg (show ¬ (o_and (σ 99 y0 x3.toNat) 31) = 20 by omega) h
          replace h := g_pos hb2254 h
          refine ⟨_, 915, rfl, by decide, ?_⟩
          obtain ⟨hc, h⟩ := g_if h
          refine m_blk C0 (pL_ok rfl) kL_law_ok 659 11 (926, [some (.inr (.inr (99, y0))), some (.inr (.inr (0, 0))), some (.inr (.inr (71, 0))), some (.inl x3)], [.inl (σ 99 y0 ((mw (x3 + 2)).toNat)), .inl (σ 99 y0 ((mw (x3 + 1)).toNat)), .inr (.inr (0, 0))], σ) (Ps := [0 ≤ (mw (x3 + 1)) ∧ (mw (x3 + 1)) < ((y0 : Nat) : Int), 0 ≤ (mw (x3 + 2)) ∧ (mw (x3 + 2)) < ((y0 : Nat) : Int)]) rfl (And.intro hc.1 (And.intro hc.2 trivial)) ?_
          obtain ⟨⟨v2220, s2219⟩, hq2225, h⟩ := g_bind h
          refine c_VL (rest := []) hG C0 hLf (t_X11_part hG f.2.1 N hq2225) lk_L_106 (k_at kL_law_ok 670 rfl) rfl rfl rfl rfl ⟨_, _, rfl⟩ (by decide) (by decide) (Nat.le_of_ble_eq_true rfl) ?_
          obtain ⟨hc, h⟩ := g_if h
          refine m_blk C0 (pL_ok rfl) kL_law_ok 671 11 (940, [some (.inr (.inr (99, y0))), some (.inr (.inr (0, 0))), some (.inr (.inr (71, 0))), some (.inl x3)], [.inl ((mfix G0 σ s2219) 99 y0 ((mw (x3 + 2)).toNat)), .inl ((mfix G0 σ s2219) 99 y0 ((mw (x3 + 1)).toNat)), .inr (.inr (71, 0)), .inl v2220], (mfix G0 σ s2219)) (Ps := [0 ≤ (mw (x3 + 1)) ∧ (mw (x3 + 1)) < ((y0 : Nat) : Int), 0 ≤ (mw (x3 + 2)) ∧ (mw (x3 + 2)) < ((y0 : Nat) : Int)]) rfl (And.intro hc.1 (And.intro hc.2 trivial)) ?_
          obtain ⟨⟨v2222, s2221⟩, hq2224, h⟩ := g_bind h
          refine c_VL (rest := [.inl v2220]) hG C0 hLf (t_X12_part hG f.2.1 N hq2224) lk_L_109 (k_at kL_law_ok 682 rfl) rfl rfl rfl rfl ⟨_, _, rfl⟩ (by decide) (by decide) (Nat.le_of_ble_eq_true rfl) ?_
          refine b_ieq C0 kL_law_ok 683 (off := 177) (tgt := 1120) rfl (by decide) (fun hb2223 => ?_) (fun hb2223 => ?_)
          · replace h := g_pos hb2223 h
            refine m_blk C0 (pL_ok rfl) kL_law_ok 834 2 (18, [some (.inr (.inr (99, y0))), some (.inr (.inr (0, 0))), some (.inr (.inr (71, 0))), some (.inl (mw (x3 + 6)))], [], (mfix G0 (mfix G0 σ s2219) s2221)) (Ps := []) rfl trivial ?_
            refine m_mask [true, true, true, true] (ls' := [some (.inr (.inr (99, y0))), some (.inr (.inr (0, 0))), some (.inr (.inr (71, 0))), some (.inl (mw (x3 + 6)))]) rfl ?_
            exact IH _ _ _ _ h hX hK
          · replace h := g_neg hb2223 h
            refine m_blk C0 (pL_ok rfl) kL_law_ok 684 1 (947, [some (.inr (.inr (99, y0))), some (.inr (.inr (0, 0))), some (.inr (.inr (71, 0))), some (.inl x3)], [.inl 0], (mfix G0 (mfix G0 σ s2219) s2221)) (Ps := []) rfl trivial ?_
            cases h
            exact m_lawret C0 hLf (k_at kL_law_ok 685 rfl) (hX _ _ rfl)
        · have hb2254 : (o_and (σ 99 y0 x3.toNat) 31) = 22 := hn1
          replace h := g_neg (show ¬ (o_and (σ 99 y0 x3.toNat) 31) = 0 by omega) h
          replace h := g_neg (show ¬ (o_and (σ 99 y0 x3.toNat) 31) = 1 by omega) h
          replace h := g_neg (show ¬ (o_and (σ 99 y0 x3.toNat) 31) = 2 by omega) h
          replace h := g_neg (show ¬ (o_and (σ 99 y0 x3.toNat) 31) = 3 by omega) h
          replace h := g_neg (show ¬ (o_and (σ 99 y0 x3.toNat) 31) = 4 by omega) h
          replace h := g_neg (show ¬ (o_and (σ 99 y0 x3.toNat) 31) = 5 by omega) h
          replace h := g_neg (show ¬ (o_and (σ 99 y0 x3.toNat) 31) = 6 by omega) h
          replace h := g_neg (show ¬ (o_and (σ 99 y0 x3.toNat) 31) = 7 by omega) h
          replace h := g_neg (show ¬ (o_and (σ 99 y0 x3.toNat) 31) = 8 by omega) h
          replace h := g_neg (show ¬ (o_and (σ 99 y0 x3.toNat) 31) = 9 by omega) h
          replace h := g_neg (show ¬ (o_and (σ 99 y0 x3.toNat) 31) = 10 by omega) h
          replace h := g_neg (show ¬ (o_and (σ 99 y0 x3.toNat) 31) = 11 by omega) h
          replace h := g_neg (show ¬ (o_and (σ 99 y0 x3.toNat) 31) = 12 by omega) h
          replace h := g_neg (show ¬ (o_and (σ 99 y0 x3.toNat) 31) = 13 by omega) h
          replace h := g_neg (show ¬ (o_and (σ 99 y0 x3.toNat) 31) = 14 by omega) h
          replace h := g_neg (show ¬ (o_and (σ 99 y0 x3.toNat) 31) = 15 by omega) h
          replace h := g_neg (show ¬ (o_and (σ 99 y0 x3.toNat) 31) = 16 by omega) h
          replace h := g_neg (show ¬ (o_and (σ 99 y0 x3.toNat) 31) = 17 by omega) h
          replace h := g_neg (show ¬ (o_and (σ 99 y0 x3.toNat) 31) = 18 by omega) h
          replace h := g_neg (show ¬ (o_and (σ 99 y0 x3.toNat) 31) = 19 by omega) h
          replace h := g_neg (show ¬ (o_and (σ 99 y0 x3.toNat) 31) = 20 by omega) h
          replace h := g_neg (show ¬ (o_and (σ 99 y0 x3.toNat) 31) = 21 by omega) h
          replace h := g_pos hb2254 h
          refine ⟨_, 948, rfl, by decide, ?_⟩
          obtain ⟨hc, h⟩ := g_if h
          refine m_blk C0 (pL_ok rfl) kL_law_ok 686 16 (964, [some (.inr (.inr (99, y0))), some (.inr (.inr (0, 0))), some (.inr (.inr (71, 0))), some (.inl x3)], [.inl (σ 99 y0 ((mw (x3 + 3)).toNat)), .inl (σ 99 y0 ((mw (x3 + 2)).toNat)), .inl (σ 99 y0 ((mw (x3 + 1)).toNat)), .inr (.inr (0, 0))], σ) (Ps := [0 ≤ (mw (x3 + 1)) ∧ (mw (x3 + 1)) < ((y0 : Nat) : Int), 0 ≤ (mw (x3 + 2)) ∧ (mw (x3 + 2)) < ((y0 : Nat) : Int), 0 ≤ (mw (x3 + 3)) ∧ (mw (x3 + 3)) < ((y0 : Nat) : Int)]) rfl (And.intro hc.1 (And.intro hc.2.1 (And.intro hc.2.2.1 trivial))) ?_
          refine m_blk C0 (pL_ok rfl) kL_law_ok 702 5 (969, [some (.inr (.inr (99, y0))), some (.inr (.inr (0, 0))), some (.inr (.inr (71, 0))), some (.inl x3)], [.inl (σ 99 y0 ((mw (x3 + 4)).toNat)), .inl (σ 99 y0 ((mw (x3 + 3)).toNat)), .inl (σ 99 y0 ((mw (x3 + 2)).toNat)), .inl (σ 99 y0 ((mw (x3 + 1)).toNat)), .inr (.inr (0, 0))], σ) (Ps := [0 ≤ (mw (x3 + 4)) ∧ (mw (x3 + 4)) < ((y0 : Nat) : Int)]) rfl (And.intro hc.2.2.2 trivial) ?_
          obtain ⟨⟨v2227, s2226⟩, hq2232, h⟩ := g_bind h
          refine c_VL (rest := []) hG C0 hLf (t_X11_value hG f.2.1 N hq2232) lk_L_110 (k_at kL_law_ok 707 rfl) rfl rfl rfl rfl ⟨_, _, rfl⟩ (by decide) (by decide) (Nat.le_of_ble_eq_true rfl) ?_
          obtain ⟨hc, h⟩ := g_if h
          refine m_blk C0 (pL_ok rfl) kL_law_ok 708 16 (988, [some (.inr (.inr (99, y0))), some (.inr (.inr (0, 0))), some (.inr (.inr (71, 0))), some (.inl x3)], [.inl ((mfix G0 σ s2226) 99 y0 ((mw (x3 + 3)).toNat)), .inl ((mfix G0 σ s2226) 99 y0 ((mw (x3 + 2)).toNat)), .inl ((mfix G0 σ s2226) 99 y0 ((mw (x3 + 1)).toNat)), .inr (.inr (71, 0)), .inl v2227], (mfix G0 σ s2226)) (Ps := [0 ≤ (mw (x3 + 1)) ∧ (mw (x3 + 1)) < ((y0 : Nat) : Int), 0 ≤ (mw (x3 + 2)) ∧ (mw (x3 + 2)) < ((y0 : Nat) : Int), 0 ≤ (mw (x3 + 3)) ∧ (mw (x3 + 3)) < ((y0 : Nat) : Int)]) rfl (And.intro hc.1 (And.intro hc.2.1 (And.intro hc.2.2.1 trivial))) ?_
          refine m_blk C0 (pL_ok rfl) kL_law_ok 724 5 (993, [some (.inr (.inr (99, y0))), some (.inr (.inr (0, 0))), some (.inr (.inr (71, 0))), some (.inl x3)], [.inl ((mfix G0 σ s2226) 99 y0 ((mw (x3 + 4)).toNat)), .inl ((mfix G0 σ s2226) 99 y0 ((mw (x3 + 3)).toNat)), .inl ((mfix G0 σ s2226) 99 y0 ((mw (x3 + 2)).toNat)), .inl ((mfix G0 σ s2226) 99 y0 ((mw (x3 + 1)).toNat)), .inr (.inr (71, 0)), .inl v2227], (mfix G0 σ s2226)) (Ps := [0 ≤ (mw (x3 + 4)) ∧ (mw (x3 + 4)) < ((y0 : Nat) : Int)]) rfl (And.intro hc.2.2.2 trivial) ?_
          obtain ⟨⟨v2229, s2228⟩, hq2231, h⟩ := g_bind h
          refine c_VL (rest := [.inl v2227]) hG C0 hLf (t_X12_value hG f.2.1 N hq2231) lk_L_113 (k_at kL_law_ok 729 rfl) rfl rfl rfl rfl ⟨_, _, rfl⟩ (by decide) (by decide) (Nat.le_of_ble_eq_true rfl) ?_
          refine b_ieq C0 kL_law_ok 730 (off := 124) (tgt := 1120) rfl (by decide) (fun hb2230 => ?_) (fun hb2230 => ?_)
          · replace h := g_pos hb2230 h
            refine m_blk C0 (pL_ok rfl) kL_law_ok 834 2 (18, [some (.inr (.inr (99, y0))), some (.inr (.inr (0, 0))), some (.inr (.inr (71, 0))), some (.inl (mw (x3 + 6)))], [], (mfix G0 (mfix G0 σ s2226) s2228)) (Ps := []) rfl trivial ?_
            refine m_mask [true, true, true, true] (ls' := [some (.inr (.inr (99, y0))), some (.inr (.inr (0, 0))), some (.inr (.inr (71, 0))), some (.inl (mw (x3 + 6)))]) rfl ?_
            exact IH _ _ _ _ h hX hK
          · replace h := g_neg hb2230 h
            refine m_blk C0 (pL_ok rfl) kL_law_ok 731 1 (1000, [some (.inr (.inr (99, y0))), some (.inr (.inr (0, 0))), some (.inr (.inr (71, 0))), some (.inl x3)], [.inl 0], (mfix G0 (mfix G0 σ s2226) s2228)) (Ps := []) rfl trivial ?_
            cases h
            exact m_lawret C0 hLf (k_at kL_law_ok 732 rfl) (hX _ _ rfl)
        · have hb2254 : (o_and (σ 99 y0 x3.toNat) 31) = 23 := hn1
          replace h := g_neg (show ¬ (o_and (σ 99 y0 x3.toNat) 31) = 0 by omega) h
          replace h := g_neg (show ¬ (o_and (σ 99 y0 x3.toNat) 31) = 1 by omega) h
          replace h := g_neg (show ¬ (o_and (σ 99 y0 x3.toNat) 31) = 2 by omega) h
          replace h := g_neg (show ¬ (o_and (σ 99 y0 x3.toNat) 31) = 3 by omega) h
          replace h := g_neg (show ¬ (o_and (σ 99 y0 x3.toNat) 31) = 4 by omega) h
          replace h := g_neg (show ¬ (o_and (σ 99 y0 x3.toNat) 31) = 5 by omega) h
          replace h := g_neg (show ¬ (o_and (σ 99 y0 x3.toNat) 31) = 6 by omega) h
          replace h := g_neg (show ¬ (o_and (σ 99 y0 x3.toNat) 31) = 7 by omega) h
          replace h := g_neg (show ¬ (o_and (σ 99 y0 x3.toNat) 31) = 8 by omega) h
          replace h := g_neg (show ¬ (o_and (σ 99 y0 x3.toNat) 31) = 9 by omega) h
          replace h := g_neg (show ¬ (o_and (σ 99 y0 x3.toNat) 31) = 10 by omega) h
          replace h := g_neg (show ¬ (o_and (σ 99 y0 x3.toNat) 31) = 11 by omega) h
          replace h := g_neg (show ¬ (o_and (σ 99 y0 x3.toNat) 31) = 12 by omega) h
          replace h := g_neg (show ¬ (o_and (σ 99 y0 x3.toNat) 31) = 13 by omega) h
          replace h := g_neg (show ¬ (o_and (σ 99 y0 x3.toNat) 31) = 14 by omega) h
          replace h := g_neg (show ¬ (o_and (σ 99 y0 x3.toNat) 31) = 15 by omega) h
          replace h := g_neg (show ¬ (o_and (σ 99 y0 x3.toNat) 31) = 16 by omega) h
          replace h := g_neg (show ¬ (o_and (σ 99 y0 x3.toNat) 31) = 17 by omega) h
          replace h := g_neg (show ¬ (o_and (σ 99 y0 x3.toNat) 31) = 18 by omega) h
          replace h := g_neg (show ¬ (o_and (σ 99 y0 x3.toNat) 31) = 19 by omega) h
          replace h := g_neg (show ¬ (o_and (σ 99 y0 x3.toNat) 31) = 20 by omega) h
          replace h := g_neg (show ¬ (o_and (σ 99 y0 x3.toNat) 31) = 21 by omega) h
          replace h := g_neg (show ¬ (o_and (σ 99 y0 x3.toNat) 31) = 22 by omega) h
          replace h := g_pos hb2254 h
          refine ⟨_, 1001, rfl, by decide, ?_⟩
          obtain ⟨hc, h⟩ := g_if h
          refine m_blk C0 (pL_ok rfl) kL_law_ok 733 16 (1017, [some (.inr (.inr (99, y0))), some (.inr (.inr (0, 0))), some (.inr (.inr (71, 0))), some (.inl x3)], [.inl (σ 99 y0 ((mw (x3 + 3)).toNat)), .inl (σ 99 y0 ((mw (x3 + 2)).toNat)), .inl (σ 99 y0 ((mw (x3 + 1)).toNat)), .inr (.inr (0, 0))], σ) (Ps := [0 ≤ (mw (x3 + 1)) ∧ (mw (x3 + 1)) < ((y0 : Nat) : Int), 0 ≤ (mw (x3 + 2)) ∧ (mw (x3 + 2)) < ((y0 : Nat) : Int), 0 ≤ (mw (x3 + 3)) ∧ (mw (x3 + 3)) < ((y0 : Nat) : Int)]) rfl (And.intro hc.1 (And.intro hc.2.1 (And.intro hc.2.2 trivial))) ?_
          obtain ⟨⟨v2234, s2233⟩, hq2239, h⟩ := g_bind h
          refine c_VL (rest := []) hG C0 hLf (t_X11_images hG f.2.1 N hq2239) lk_L_114 (k_at kL_law_ok 749 rfl) rfl rfl rfl rfl ⟨_, _, rfl⟩ (by decide) (by decide) (Nat.le_of_ble_eq_true rfl) ?_
          obtain ⟨hc, h⟩ := g_if h
          refine m_blk C0 (pL_ok rfl) kL_law_ok 750 16 (1036, [some (.inr (.inr (99, y0))), some (.inr (.inr (0, 0))), some (.inr (.inr (71, 0))), some (.inl x3)], [.inl ((mfix G0 σ s2233) 99 y0 ((mw (x3 + 3)).toNat)), .inl ((mfix G0 σ s2233) 99 y0 ((mw (x3 + 2)).toNat)), .inl ((mfix G0 σ s2233) 99 y0 ((mw (x3 + 1)).toNat)), .inr (.inr (71, 0)), .inl v2234], (mfix G0 σ s2233)) (Ps := [0 ≤ (mw (x3 + 1)) ∧ (mw (x3 + 1)) < ((y0 : Nat) : Int), 0 ≤ (mw (x3 + 2)) ∧ (mw (x3 + 2)) < ((y0 : Nat) : Int), 0 ≤ (mw (x3 + 3)) ∧ (mw (x3 + 3)) < ((y0 : Nat) : Int)]) rfl (And.intro hc.1 (And.intro hc.2.1 (And.intro hc.2.2 trivial))) ?_
          obtain ⟨⟨v2236, s2235⟩, hq2238, h⟩ := g_bind h
          refine c_VL (rest := [.inl v2234]) hG C0 hLf (t_X12_images hG f.2.1 N hq2238) lk_L_117 (k_at kL_law_ok 766 rfl) rfl rfl rfl rfl ⟨_, _, rfl⟩ (by decide) (by decide) (Nat.le_of_ble_eq_true rfl) ?_
          refine b_ieq C0 kL_law_ok 767 (off := 81) (tgt := 1120) rfl (by decide) (fun hb2237 => ?_) (fun hb2237 => ?_)
          · replace h := g_pos hb2237 h
            refine m_blk C0 (pL_ok rfl) kL_law_ok 834 2 (18, [some (.inr (.inr (99, y0))), some (.inr (.inr (0, 0))), some (.inr (.inr (71, 0))), some (.inl (mw (x3 + 6)))], [], (mfix G0 (mfix G0 σ s2233) s2235)) (Ps := []) rfl trivial ?_
            refine m_mask [true, true, true, true] (ls' := [some (.inr (.inr (99, y0))), some (.inr (.inr (0, 0))), some (.inr (.inr (71, 0))), some (.inl (mw (x3 + 6)))]) rfl ?_
            exact IH _ _ _ _ h hX hK
          · replace h := g_neg hb2237 h
            refine m_blk C0 (pL_ok rfl) kL_law_ok 768 1 (1043, [some (.inr (.inr (99, y0))), some (.inr (.inr (0, 0))), some (.inr (.inr (71, 0))), some (.inl x3)], [.inl 0], (mfix G0 (mfix G0 σ s2233) s2235)) (Ps := []) rfl trivial ?_
            cases h
            exact m_lawret C0 hLf (k_at kL_law_ok 769 rfl) (hX _ _ rfl)
        · have hb2254 : (o_and (σ 99 y0 x3.toNat) 31) = 24 := hn1
          replace h := g_neg (show ¬ (o_and (σ 99 y0 x3.toNat) 31) = 0 by omega) h
          replace h := g_neg (show ¬ (o_and (σ 99 y0 x3.toNat) 31) = 1 by omega) h
          replace h := g_neg (show ¬ (o_and (σ 99 y0 x3.toNat) 31) = 2 by omega) h
          replace h := g_neg (show ¬ (o_and (σ 99 y0 x3.toNat) 31) = 3 by omega) h
          replace h := g_neg (show ¬ (o_and (σ 99 y0 x3.toNat) 31) = 4 by omega) h
          replace h := g_neg (show ¬ (o_and (σ 99 y0 x3.toNat) 31) = 5 by omega) h
          replace h := g_neg (show ¬ (o_and (σ 99 y0 x3.toNat) 31) = 6 by omega) h
          replace h := g_neg (show ¬ (o_and (σ 99 y0 x3.toNat) 31) = 7 by omega) h
          replace h := g_neg (show ¬ (o_and (σ 99 y0 x3.toNat) 31) = 8 by omega) h
          replace h := g_neg (show ¬ (o_and (σ 99 y0 x3.toNat) 31) = 9 by omega) h
          replace h := g_neg (show ¬ (o_and (σ 99 y0 x3.toNat) 31) = 10 by omega) h
          replace h := g_neg (show ¬ (o_and (σ 99 y0 x3.toNat) 31) = 11 by omega) h
          replace h := g_neg (show ¬ (o_and (σ 99 y0 x3.toNat) 31) = 12 by omega) h
          replace h := g_neg (show ¬ (o_and (σ 99 y0 x3.toNat) 31) = 13 by omega) h
          replace h := g_neg (show ¬ (o_and (σ 99 y0 x3.toNat) 31) = 14 by omega) h
          replace h := g_neg (show ¬ (o_and (σ 99 y0 x3.toNat) 31) = 15 by omega) h
          replace h := g_neg (show ¬ (o_and (σ 99 y0 x3.toNat) 31) = 16 by omega) h
          replace h := g_neg (show ¬ (o_and (σ 99 y0 x3.toNat) 31) = 17 by omega) h
          replace h := g_neg (show ¬ (o_and (σ 99 y0 x3.toNat) 31) = 18 by omega) h
          replace h := g_neg (show ¬ (o_and (σ 99 y0 x3.toNat) 31) = 19 by omega) h
          replace h := g_neg (show ¬ (o_and (σ 99 y0 x3.toNat) 31) = 20 by omega) h
          replace h := g_neg (show ¬ (o_and (σ 99 y0 x3.toNat) 31) = 21 by omega) h
          replace h := g_neg (show ¬ (o_and (σ 99 y0 x3.toNat) 31) = 22 by omega) h
          replace h := g_neg (show ¬ (o_and (σ 99 y0 x3.toNat) 31) = 23 by omega) h
          replace h := g_pos hb2254 h
          refine ⟨_, 1044, rfl, by decide, ?_⟩
          obtain ⟨hc, h⟩ := g_if h
          refine m_blk C0 (pL_ok rfl) kL_law_ok 770 11 (1055, [some (.inr (.inr (99, y0))), some (.inr (.inr (0, 0))), some (.inr (.inr (71, 0))), some (.inl x3)], [.inl (σ 99 y0 ((mw (x3 + 2)).toNat)), .inl (σ 99 y0 ((mw (x3 + 1)).toNat)), .inr (.inr (0, 0))], σ) (Ps := [0 ≤ (mw (x3 + 1)) ∧ (mw (x3 + 1)) < ((y0 : Nat) : Int), 0 ≤ (mw (x3 + 2)) ∧ (mw (x3 + 2)) < ((y0 : Nat) : Int)]) rfl (And.intro hc.1 (And.intro hc.2 trivial)) ?_
          obtain ⟨⟨v2241, s2240⟩, hq2246, h⟩ := g_bind h
          refine c_VL (rest := []) hG C0 hLf (t_X11_image hG f.2.1 N hq2246) lk_L_118 (k_at kL_law_ok 781 rfl) rfl rfl rfl rfl ⟨_, _, rfl⟩ (by decide) (by decide) (Nat.le_of_ble_eq_true rfl) ?_
          obtain ⟨hc, h⟩ := g_if h
          refine m_blk C0 (pL_ok rfl) kL_law_ok 782 11 (1069, [some (.inr (.inr (99, y0))), some (.inr (.inr (0, 0))), some (.inr (.inr (71, 0))), some (.inl x3)], [.inl ((mfix G0 σ s2240) 99 y0 ((mw (x3 + 2)).toNat)), .inl ((mfix G0 σ s2240) 99 y0 ((mw (x3 + 1)).toNat)), .inr (.inr (71, 0)), .inl v2241], (mfix G0 σ s2240)) (Ps := [0 ≤ (mw (x3 + 1)) ∧ (mw (x3 + 1)) < ((y0 : Nat) : Int), 0 ≤ (mw (x3 + 2)) ∧ (mw (x3 + 2)) < ((y0 : Nat) : Int)]) rfl (And.intro hc.1 (And.intro hc.2 trivial)) ?_
          obtain ⟨⟨v2243, s2242⟩, hq2245, h⟩ := g_bind h
          refine c_VL (rest := [.inl v2241]) hG C0 hLf (t_X12_image hG f.2.1 N hq2245) lk_L_121 (k_at kL_law_ok 793 rfl) rfl rfl rfl rfl ⟨_, _, rfl⟩ (by decide) (by decide) (Nat.le_of_ble_eq_true rfl) ?_
          refine b_ieq C0 kL_law_ok 794 (off := 48) (tgt := 1120) rfl (by decide) (fun hb2244 => ?_) (fun hb2244 => ?_)
          · replace h := g_pos hb2244 h
            refine m_blk C0 (pL_ok rfl) kL_law_ok 834 2 (18, [some (.inr (.inr (99, y0))), some (.inr (.inr (0, 0))), some (.inr (.inr (71, 0))), some (.inl (mw (x3 + 6)))], [], (mfix G0 (mfix G0 σ s2240) s2242)) (Ps := []) rfl trivial ?_
            refine m_mask [true, true, true, true] (ls' := [some (.inr (.inr (99, y0))), some (.inr (.inr (0, 0))), some (.inr (.inr (71, 0))), some (.inl (mw (x3 + 6)))]) rfl ?_
            exact IH _ _ _ _ h hX hK
          · replace h := g_neg hb2244 h
            refine m_blk C0 (pL_ok rfl) kL_law_ok 795 1 (1076, [some (.inr (.inr (99, y0))), some (.inr (.inr (0, 0))), some (.inr (.inr (71, 0))), some (.inl x3)], [.inl 0], (mfix G0 (mfix G0 σ s2240) s2242)) (Ps := []) rfl trivial ?_
            cases h
            exact m_lawret C0 hLf (k_at kL_law_ok 796 rfl) (hX _ _ rfl)
        · have hb2254 : (o_and (σ 99 y0 x3.toNat) 31) = 25 := hn1
          replace h := g_neg (show ¬ (o_and (σ 99 y0 x3.toNat) 31) = 0 by omega) h
          replace h := g_neg (show ¬ (o_and (σ 99 y0 x3.toNat) 31) = 1 by omega) h
          replace h := g_neg (show ¬ (o_and (σ 99 y0 x3.toNat) 31) = 2 by omega) h
          replace h := g_neg (show ¬ (o_and (σ 99 y0 x3.toNat) 31) = 3 by omega) h
          replace h := g_neg (show ¬ (o_and (σ 99 y0 x3.toNat) 31) = 4 by omega) h
          replace h := g_neg (show ¬ (o_and (σ 99 y0 x3.toNat) 31) = 5 by omega) h
          replace h := g_neg (show ¬ (o_and (σ 99 y0 x3.toNat) 31) = 6 by omega) h
          replace h := g_neg (show ¬ (o_and (σ 99 y0 x3.toNat) 31) = 7 by omega) h
          replace h := g_neg (show ¬ (o_and (σ 99 y0 x3.toNat) 31) = 8 by omega) h
          replace h := g_neg (show ¬ (o_and (σ 99 y0 x3.toNat) 31) = 9 by omega) h
          replace h := g_neg (show ¬ (o_and (σ 99 y0 x3.toNat) 31) = 10 by omega) h
          replace h := g_neg (show ¬ (o_and (σ 99 y0 x3.toNat) 31) = 11 by omega) h
          replace h := g_neg (show ¬ (o_and (σ 99 y0 x3.toNat) 31) = 12 by omega) h
          replace h := g_neg (show ¬ (o_and (σ 99 y0 x3.toNat) 31) = 13 by omega) h
          replace h := g_neg (show ¬ (o_and (σ 99 y0 x3.toNat) 31) = 14 by omega) h
          replace h := g_neg (show ¬ (o_and (σ 99 y0 x3.toNat) 31) = 15 by omega) h
          replace h := g_neg (show ¬ (o_and (σ 99 y0 x3.toNat) 31) = 16 by omega) h
          replace h := g_neg (show ¬ (o_and (σ 99 y0 x3.toNat) 31) = 17 by omega) h
          replace h := g_neg (show ¬ (o_and (σ 99 y0 x3.toNat) 31) = 18 by omega) h
          replace h := g_neg (show ¬ (o_and (σ 99 y0 x3.toNat) 31) = 19 by omega) h
          replace h := g_neg (show ¬ (o_and (σ 99 y0 x3.toNat) 31) = 20 by omega) h
          replace h := g_neg (show ¬ (o_and (σ 99 y0 x3.toNat) 31) = 21 by omega) h
          replace h := g_neg (show ¬ (o_and (σ 99 y0 x3.toNat) 31) = 22 by omega) h
          replace h := g_neg (show ¬ (o_and (σ 99 y0 x3.toNat) 31) = 23 by omega) h
          replace h := g_neg (show ¬ (o_and (σ 99 y0 x3.toNat) 31) = 24 by omega) h
          replace h := g_pos hb2254 h
          refine ⟨_, 1077, rfl, by decide, ?_⟩
          obtain ⟨hc, h⟩ := g_if h
          refine m_blk C0 (pL_ok rfl) kL_law_ok 797 16 (1093, [some (.inr (.inr (99, y0))), some (.inr (.inr (0, 0))), some (.inr (.inr (71, 0))), some (.inl x3)], [.inl (σ 99 y0 ((mw (x3 + 3)).toNat)), .inl (σ 99 y0 ((mw (x3 + 2)).toNat)), .inl (σ 99 y0 ((mw (x3 + 1)).toNat)), .inr (.inr (0, 0))], σ) (Ps := [0 ≤ (mw (x3 + 1)) ∧ (mw (x3 + 1)) < ((y0 : Nat) : Int), 0 ≤ (mw (x3 + 2)) ∧ (mw (x3 + 2)) < ((y0 : Nat) : Int), 0 ≤ (mw (x3 + 3)) ∧ (mw (x3 + 3)) < ((y0 : Nat) : Int)]) rfl (And.intro hc.1 (And.intro hc.2.1 (And.intro hc.2.2 trivial))) ?_
          obtain ⟨⟨v2248, s2247⟩, hq2253, h⟩ := g_bind h
          refine c_VL (rest := []) hG C0 hLf (t_X11_leads hG f.2.1 N hq2253) lk_L_122 (k_at kL_law_ok 813 rfl) rfl rfl rfl rfl ⟨_, _, rfl⟩ (by decide) (by decide) (Nat.le_of_ble_eq_true rfl) ?_
          obtain ⟨hc, h⟩ := g_if h
          refine m_blk C0 (pL_ok rfl) kL_law_ok 814 16 (1112, [some (.inr (.inr (99, y0))), some (.inr (.inr (0, 0))), some (.inr (.inr (71, 0))), some (.inl x3)], [.inl ((mfix G0 σ s2247) 99 y0 ((mw (x3 + 3)).toNat)), .inl ((mfix G0 σ s2247) 99 y0 ((mw (x3 + 2)).toNat)), .inl ((mfix G0 σ s2247) 99 y0 ((mw (x3 + 1)).toNat)), .inr (.inr (71, 0)), .inl v2248], (mfix G0 σ s2247)) (Ps := [0 ≤ (mw (x3 + 1)) ∧ (mw (x3 + 1)) < ((y0 : Nat) : Int), 0 ≤ (mw (x3 + 2)) ∧ (mw (x3 + 2)) < ((y0 : Nat) : Int), 0 ≤ (mw (x3 + 3)) ∧ (mw (x3 + 3)) < ((y0 : Nat) : Int)]) rfl (And.intro hc.1 (And.intro hc.2.1 (And.intro hc.2.2 trivial))) ?_
          obtain ⟨⟨v2250, s2249⟩, hq2252, h⟩ := g_bind h
          refine c_VL (rest := [.inl v2248]) hG C0 hLf (t_X12_leads hG f.2.1 N hq2252) lk_L_125 (k_at kL_law_ok 830 rfl) rfl rfl rfl rfl ⟨_, _, rfl⟩ (by decide) (by decide) (Nat.le_of_ble_eq_true rfl) ?_
          refine b_ieq C0 kL_law_ok 831 (off := 5) (tgt := 1120) rfl (by decide) (fun hb2251 => ?_) (fun hb2251 => ?_)
          · replace h := g_pos hb2251 h
            refine m_blk C0 (pL_ok rfl) kL_law_ok 834 2 (18, [some (.inr (.inr (99, y0))), some (.inr (.inr (0, 0))), some (.inr (.inr (71, 0))), some (.inl (mw (x3 + 6)))], [], (mfix G0 (mfix G0 σ s2247) s2249)) (Ps := []) rfl trivial ?_
            refine m_mask [true, true, true, true] (ls' := [some (.inr (.inr (99, y0))), some (.inr (.inr (0, 0))), some (.inr (.inr (71, 0))), some (.inl (mw (x3 + 6)))]) rfl ?_
            exact IH _ _ _ _ h hX hK
          · replace h := g_neg hb2251 h
            refine m_blk C0 (pL_ok rfl) kL_law_ok 832 1 (1119, [some (.inr (.inr (99, y0))), some (.inr (.inr (0, 0))), some (.inr (.inr (71, 0))), some (.inl x3)], [.inl 0], (mfix G0 (mfix G0 σ s2247) s2249)) (Ps := []) rfl trivial ?_
            cases h
            exact m_lawret C0 hLf (k_at kL_law_ok 833 rfl) (hX _ _ rfl)
      · have hn0 := hn
        replace h := g_neg (show ¬ (o_and (σ 99 y0 x3.toNat) 31) = 0 by omega) h
        replace h := g_neg (show ¬ (o_and (σ 99 y0 x3.toNat) 31) = 1 by omega) h
        replace h := g_neg (show ¬ (o_and (σ 99 y0 x3.toNat) 31) = 2 by omega) h
        replace h := g_neg (show ¬ (o_and (σ 99 y0 x3.toNat) 31) = 3 by omega) h
        replace h := g_neg (show ¬ (o_and (σ 99 y0 x3.toNat) 31) = 4 by omega) h
        replace h := g_neg (show ¬ (o_and (σ 99 y0 x3.toNat) 31) = 5 by omega) h
        replace h := g_neg (show ¬ (o_and (σ 99 y0 x3.toNat) 31) = 6 by omega) h
        replace h := g_neg (show ¬ (o_and (σ 99 y0 x3.toNat) 31) = 7 by omega) h
        replace h := g_neg (show ¬ (o_and (σ 99 y0 x3.toNat) 31) = 8 by omega) h
        replace h := g_neg (show ¬ (o_and (σ 99 y0 x3.toNat) 31) = 9 by omega) h
        replace h := g_neg (show ¬ (o_and (σ 99 y0 x3.toNat) 31) = 10 by omega) h
        replace h := g_neg (show ¬ (o_and (σ 99 y0 x3.toNat) 31) = 11 by omega) h
        replace h := g_neg (show ¬ (o_and (σ 99 y0 x3.toNat) 31) = 12 by omega) h
        replace h := g_neg (show ¬ (o_and (σ 99 y0 x3.toNat) 31) = 13 by omega) h
        replace h := g_neg (show ¬ (o_and (σ 99 y0 x3.toNat) 31) = 14 by omega) h
        replace h := g_neg (show ¬ (o_and (σ 99 y0 x3.toNat) 31) = 15 by omega) h
        replace h := g_neg (show ¬ (o_and (σ 99 y0 x3.toNat) 31) = 16 by omega) h
        replace h := g_neg (show ¬ (o_and (σ 99 y0 x3.toNat) 31) = 17 by omega) h
        replace h := g_neg (show ¬ (o_and (σ 99 y0 x3.toNat) 31) = 18 by omega) h
        replace h := g_neg (show ¬ (o_and (σ 99 y0 x3.toNat) 31) = 19 by omega) h
        replace h := g_neg (show ¬ (o_and (σ 99 y0 x3.toNat) 31) = 20 by omega) h
        replace h := g_neg (show ¬ (o_and (σ 99 y0 x3.toNat) 31) = 21 by omega) h
        replace h := g_neg (show ¬ (o_and (σ 99 y0 x3.toNat) 31) = 22 by omega) h
        replace h := g_neg (show ¬ (o_and (σ 99 y0 x3.toNat) 31) = 23 by omega) h
        replace h := g_neg (show ¬ (o_and (σ 99 y0 x3.toNat) 31) = 24 by omega) h
        replace h := g_neg (show ¬ (o_and (σ 99 y0 x3.toNat) 31) = 25 by omega) h
        refine m_blk C0 (pL_ok rfl) kL_law_ok 834 2 (18, [some (.inr (.inr (99, y0))), some (.inr (.inr (0, 0))), some (.inr (.inr (71, 0))), some (.inl (mw (x3 + 6)))], [], σ) (Ps := []) rfl trivial ?_
        refine m_mask [true, true, true, true] (ls' := [some (.inr (.inr (99, y0))), some (.inr (.inr (0, 0))), some (.inr (.inr (71, 0))), some (.inl (mw (x3 + 6)))]) rfl ?_
        exact IH _ _ _ _ h hX hK
