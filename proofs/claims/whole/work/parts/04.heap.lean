/-! mstep against W: conversions, the stack, fields, arrays; then mstep_ok and mrun_ok -/
section MHEAP
variable {f : mFx} {w : mWd} {sc : mSc} {cc : ByteArray} {nL : Nat} {own : String} {Ts : List Cond} {P : mP}
theorem mEn_0 {σ : mS} {q : Nat × Nat} (h : gk (wG w) q.1 = 0) : mEn w σ q = .inr (gc (wG w) q.1, (List.range (gn (wG w) q.1 q.2)).map fun k => mV (wad w) (mF (wG w) σ q.1 q.2 k)) := by
  unfold mEn; rw [h]
theorem mEn_1 {σ : mS} {q : Nat × Nat} (h : gk (wG w) q.1 = 1) : mEn w σ q = .inl (wcA w 1, gn (wG w) q.1 q.2, .inl fun k => Int32.ofInt (σ q.1 q.2 k)) := by
  unfold mEn; rw [h]
theorem mEn_2 {σ : mS} {q : Nat × Nat} (h : gk (wG w) q.1 = 2) : mEn w σ q = .inl (wcA w 2, gn (wG w) q.1 q.2, .inr (.inl fun k => Int64.ofInt (σ q.1 q.2 k))) := by
  unfold mEn; rw [h]
theorem mEn_3 {σ : mS} {q : Nat × Nat} (h : gk (wG w) q.1 = 3) : mEn w σ q = .inl (wcA w 3, gn (wG w) q.1 q.2, .inl fun k => Int32.ofInt (σ q.1 q.2 k)) := by
  unfold mEn; rw [h]
theorem mEn_5 {σ : mS} {q : Nat × Nat} {n : Nat} (h : gk (wG w) q.1 = n + 5) : mEn w σ q = .inl (wcA w (n + 5), gn (wG w) q.1 q.2, .inr (.inr (.inr (.inr fun k => some (wad w (ge (wG w) q.1 q.2 k).1 (ge (wG w) q.1 q.2 k).2))))) := by
  unfold mEn; rw [h]
theorem s_i2l {x y : mC} {Ps : List Prop} (h : k_i2l x = some (y, Ps)) (hx : f.1.tables.exec = Jvm.exec) (hb : f.2.2.2.2.2.2.2.2.2.1.code = cc) (hd : decode cc x.1 = .ok (.i2l, 1)) (k : mWW f w sc nL y) : mWW f w sc nL x := by
  obtain ⟨pc, ls, st, σ⟩ := x
  unfold k_i2l at h
  split at h
  · rename_i pc' ls' a st' σ' e
    cases e
    cases h
    intro H locs L h1 h2 h3 h4 h5
    have ha : mw a = a := h5 (.inl a) List.mem_cons_self
    have hr := mw_rg ha
    exact lv_i2l hx hb hd (ofI_wide ha) (k H locs L h1 h2 h3 h4 (fun u hu => by rcases List.mem_cons.mp hu with rfl | q; exact mx_id (by omega) (by omega); exact h5 u (List.mem_cons_of_mem _ q)))
  · cases h
theorem s_l2i {x y : mC} {Ps : List Prop} (h : k_l2i x = some (y, Ps)) (hx : f.1.tables.exec = Jvm.exec) (hb : f.2.2.2.2.2.2.2.2.2.1.code = cc) (hd : decode cc x.1 = .ok (.l2i, 1)) (k : mWW f w sc nL y) : mWW f w sc nL x := by
  obtain ⟨pc, ls, st, σ⟩ := x
  unfold k_l2i at h
  split at h
  · rename_i pc' ls' a st' σ' e
    cases e
    cases h
    intro H locs L h1 h2 h3 h4 h5
    exact lv_l2i hx hb hd (ofI_narrow (h5 (.inr (.inl a)) List.mem_cons_self)) (k H locs L h1 h2 h3 h4 (fun u hu => by rcases List.mem_cons.mp hu with rfl | q; exact mw_ok a; exact h5 u (List.mem_cons_of_mem _ q)))
  · cases h
theorem s_lcmp {x y : mC} {Ps : List Prop} (h : k_lcmp x = some (y, Ps)) (hx : f.1.tables.exec = Jvm.exec) (hb : f.2.2.2.2.2.2.2.2.2.1.code = cc) (hd : decode cc x.1 = .ok (.lcmp, 1)) (k : mWW f w sc nL y) : mWW f w sc nL x := by
  obtain ⟨pc, ls, st, σ⟩ := x
  unfold k_lcmp at h
  split at h
  · rename_i pc' ls' b a st' σ' e
    cases e
    cases h
    intro H locs L h1 h2 h3 h4 h5
    have hb' : mx b = b := h5 (.inr (.inl b)) List.mem_cons_self
    have ha : mx a = a := h5 (.inr (.inl a)) (List.mem_cons_of_mem _ List.mem_cons_self)
    refine W.lcmp hx hb hd ?_
    rw [ofI_cmp ha hb']
    exact k H locs L h1 h2 h3 h4 (fun u hu => by
      rcases List.mem_cons.mp hu with rfl | q
      · show mw _ = _
        split
        · rfl
        · split <;> rfl
      · exact h5 u (List.mem_cons_of_mem _ (List.mem_cons_of_mem _ q)))
  · cases h
theorem s_dup {x y : mC} {Ps : List Prop} (h : k_dup x = some (y, Ps)) (hx : f.1.tables.exec = Jvm.exec) (hb : f.2.2.2.2.2.2.2.2.2.1.code = cc) (hd : decode cc x.1 = .ok (.dup, 1)) (k : mWW f w sc nL y) : mWW f w sc nL x := by
  obtain ⟨pc, ls, st, σ⟩ := x
  unfold k_dup at h
  split at h
  · rename_i pc' ls' a st' σ' e
    cases e
    cases h
    intro H locs L h1 h2 h3 h4 h5
    exact lv_dup hx hb hd rfl (k H locs L h1 h2 h3 h4 (fun u hu => by rcases List.mem_cons.mp hu with rfl | q; exact h5 _ List.mem_cons_self; exact h5 u q))
  · rename_i pc' ls' a st' σ' e
    cases e
    cases h
    intro H locs L h1 h2 h3 h4 h5
    exact lv_dup hx hb hd rfl (k H locs L h1 h2 h3 h4 (fun u hu => by rcases List.mem_cons.mp hu with rfl | q; exact h5 _ List.mem_cons_self; exact h5 u q))
  · cases h
theorem s_dup2 {x y : mC} {Ps : List Prop} (h : k_dup2 x = some (y, Ps)) (hx : f.1.tables.exec = Jvm.exec) (hb : f.2.2.2.2.2.2.2.2.2.1.code = cc) (hd : decode cc x.1 = .ok (.dup2, 1)) (k : mWW f w sc nL y) : mWW f w sc nL x := by
  obtain ⟨pc, ls, st, σ⟩ := x
  unfold k_dup2 at h
  split at h
  · rename_i pc' ls' a b st' σ' e
    cases e
    cases h
    intro H locs L h1 h2 h3 h4 h5
    exact lv_dup2_11 hx hb hd rfl rfl (k H locs L h1 h2 h3 h4 (fun u hu => by
      rcases List.mem_cons.mp hu with rfl | q
      · exact h5 _ List.mem_cons_self
      · rcases List.mem_cons.mp q with rfl | q
        · exact h5 _ (List.mem_cons_of_mem _ List.mem_cons_self)
        · exact h5 u q))
  · cases h
theorem s_pop {x y : mC} {Ps : List Prop} (h : k_pop x = some (y, Ps)) (hx : f.1.tables.exec = Jvm.exec) (hb : f.2.2.2.2.2.2.2.2.2.1.code = cc) (hd : decode cc x.1 = .ok (.pop, 1)) (k : mWW f w sc nL y) : mWW f w sc nL x := by
  obtain ⟨pc, ls, st, σ⟩ := x
  unfold k_pop at h
  split at h
  · rename_i pc' ls' a st' σ' e
    cases e
    cases h
    intro H locs L h1 h2 h3 h4 h5
    exact lv_pop hx hb hd rfl (k H locs L h1 h2 h3 h4 (fun u hu => h5 u (List.mem_cons_of_mem _ hu)))
  · cases h
theorem s_goto {off : Int} {x y : mC} {Ps : List Prop} (h : k_goto off x = some (y, Ps)) (hx : f.1.tables.exec = Jvm.exec) (hb : f.2.2.2.2.2.2.2.2.2.1.code = cc) (hd : decode cc x.1 = .ok (.goto off, 3)) (k : mWW f w sc nL y) : mWW f w sc nL x := by
  obtain ⟨pc, ls, st, σ⟩ := x
  unfold k_goto at h
  dsimp only at h
  cases hq : decide (0 ≤ (pc : Int) + off) with
  | false => rw [hq] at h; cases h
  | true =>
    rw [hq] at h
    cases h
    intro H locs L h1 h2 h3 h4 h5
    exact lv_goto hx hb hd (Int.toNat_of_nonneg (of_decide_eq_true hq)).symm (k H locs L h1 h2 h3 h4 h5)
theorem m_get (C0 : mCx f w sc cc nL own Ts) (hP0 : mPool P w own Ts) {j : Nat} {x y : mC} {Ps : List Prop} (h : k_get (wG w) (P.1 j) x = some (y, Ps)) (hd : decode cc x.1 = .ok (.getfield j, 3)) (kk : mWW f w sc nL y) : mWW f w sc nL x := by
  obtain ⟨hx, hb, hml, hown, hts, ⟨hK, hN⟩, hG, hsc⟩ := C0
  cases hp : P.1 j with
  | none => rw [hp] at h; cases h
  | some ck =>
    obtain ⟨c, k⟩ := ck
    rw [hp] at h
    obtain ⟨pc, ls, st, σ⟩ := x
    unfold k_get at h
    dsimp only at h
    split at h
    · rename_i pc' ls' r i st' σ' e
      cases e
      cases hq : (Nat.beq (gk (wG w) r) 0 && Nat.beq (gc (wG w) r) c && Nat.blt k (gn (wG w) r i)) with
      | false => rw [hq] at h; cases h
      | true =>
        rw [hq] at h
        cases h
        rw [Bool.and_eq_true, Bool.and_eq_true] at hq
        obtain ⟨⟨q1, q2⟩, q3⟩ := hq
        have q1 := Nat.eq_of_beq_eq_true q1
        have q2 := Nat.eq_of_beq_eq_true q2
        have q3 : k < gn (wG w) r i := Nat.le_of_ble_eq_true q3
        intro H locs L h1 h2 h3 h4 h5
        have hV : (r, i) ∈ wV w := by
          rcases h5 (.inr (.inr (r, i))) List.mem_cons_self with q | q
          · exact q
          · rw [q1] at q; exact absurd q.2.1 (by decide)
        obtain ⟨C, T, N, hc, hkN, hlk⟩ := hP0.1 j c k hp
        obtain ⟨C', T', ty, hc', hin, -⟩ := hG.2.2.2.1 (r, i) hV q1
        rw [q2] at hc'
        cases hc.symm.trans hc'
        obtain ⟨q0, e1, e2⟩ := mWd_at (σ := σ) hV
        rw [mEn_0 q1] at e2
        refine va_get (C := C) (T := T) (v := mV (wad w) (mF (wG w) σ r i k)) hx hb hts hin hown hK h1.1 q0 e2 (by rw [q2]; exact hc) k q3 (hts _ hlk) (fun _ h => h) (by rw [List.getElem?_map, List.getElem?_range q3]; rfl) hd ?_
        refine kk H locs L h1 h2 h3 h4 (fun u hu => ?_)
        rcases List.mem_cons.mp hu with rfl | q
        · unfold mF
          split
          · rename_i q' hq'
            exact Or.inl (hG.2.2.2.2.1 (r, i) hV q1 k q' hq')
          · have := h1.2 (r, i) hV k q3
            rw [q1] at this
            exact this
        · exact h5 u (List.mem_cons_of_mem _ q)
    · cases h
theorem m_put (C0 : mCx f w sc cc nL own Ts) (hP0 : mPool P w own Ts) {j : Nat} {x y : mC} {Ps : List Prop} (h : k_put (wG w) (P.2.1 j) x = some (y, Ps)) (hA : mAll Ps) (hd : decode cc x.1 = .ok (.putfield j, 3)) (kk : mWW f w sc nL y) : mWW f w sc nL x := by
  obtain ⟨hx, hb, hml, hown, hts, ⟨hK, hN⟩, hG, hsc⟩ := C0
  cases hp : P.2.1 j with
  | none => rw [hp] at h; cases h
  | some ck =>
    obtain ⟨c, k⟩ := ck
    rw [hp] at h
    obtain ⟨pc, ls, st, σ⟩ := x
    unfold k_put at h
    dsimp only at h
    split at h
    · rename_i pc' ls' z r i st' σ' e
      cases e
      split at h
      · rename_i hgf
        cases hq : (Nat.beq (gk (wG w) r) 0 && Nat.beq (gc (wG w) r) c && Nat.blt k (gn (wG w) r i)) with
        | false => rw [hq] at h; cases h
        | true =>
          rw [hq] at h
          cases h
          rw [Bool.and_eq_true, Bool.and_eq_true] at hq
          obtain ⟨⟨q1, q2⟩, q3⟩ := hq
          have q1 := Nat.eq_of_beq_eq_true q1
          have q2 := Nat.eq_of_beq_eq_true q2
          have q3 : k < gn (wG w) r i := Nat.le_of_ble_eq_true q3
          intro H locs L h1 h2 h3 h4 h5
          have hV : (r, i) ∈ wV w := by
            rcases h5 (.inr (.inr (r, i))) (List.mem_cons_of_mem _ List.mem_cons_self) with q | q
            · exact q
            · rw [q1] at q; exact absurd q.2.1 (by decide)
          have hz : mw z = z := h5 (.inl z) List.mem_cons_self
          obtain ⟨C, T, N, hc, hkN, hlk, hfin⟩ := hP0.2.1 j c k hp
          obtain ⟨C', T', ty, hc', hin, hty, hnm, htk⟩ := hG.2.2.2.1 (r, i) hV q1
          rw [q2] at hc'
          cases hc.symm.trans hc'
          obtain ⟨q0, e1, e2⟩ := mWd_at (σ := σ) hV
          have hen := mEn_0 (w := w) (σ := mup σ r i k z) (q := (r, i)) q1
          rw [mEn_0 q1] at e2
          have hnf : narrow (ty k) (.int (Int32.ofInt z)) = .int (Int32.ofInt z) ∧ fits (ty k) (.int (Int32.ofInt z)) = true := by
            rw [htk k q3 hgf]
            cases hgb : gb (wG w) r k with
            | false => exact ⟨rfl, rfl⟩
            | true =>
              rw [hgb] at hA
              rcases hA.1 with rfl | rfl
              · exact ⟨by decide, by decide⟩
              · exact ⟨by decide, by decide⟩
          refine va_put (C := C) (T := T) (v := .int (Int32.ofInt z)) (ty := ty k) hx hb hts hin ty hty hnm hown hK h1.1 (mWd_D hG σ) h3 q0 e2 (by rw [q2]; exact hc) k q3 (hts _ hlk) (fun _ h => h) hfin (hty k q3) hnf.1 hnf.2 (by rw [List.length_map, List.length_range]; exact q3) hd (fun H1 locs1 hP1 hD1 hS1 => ?_)
          rw [mWd_set hG (r := r) (i := i) (k := k) (z := z) e1 (hen.trans ?_)] at hP1
          · exact kk H1 locs1 L ⟨hP1, mOkS_up h1.2 (by rw [q1]; exact hz)⟩ (mScr_up h2 (by rw [q1]; decide)) hS1 h4 (fun u hu => h5 u (List.mem_cons_of_mem _ (List.mem_cons_of_mem _ hu)))
          · refine congrArg (fun l => Sum.inr (gc (wG w) r, l)) ?_
            apply List.ext_getElem?
            intro n
            by_cases en : n = k
            · subst en
              rw [List.getElem?_set_self (by rw [List.length_map, List.length_range]; exact q3), List.getElem?_map, List.getElem?_range q3]
              show some (mV (wad w) (mF (wG w) (mup σ r i n z) r i n)) = _
              unfold mF
              rw [hgf]
              simp [mV, mup_def]
            · rw [List.getElem?_set_ne (Ne.symm en), List.getElem?_map, List.getElem?_map]
              by_cases hn : n < gn (wG w) r i
              · rw [List.getElem?_range hn]
                show some (mV (wad w) (mF (wG w) (mup σ r i k z) r i n)) = some (mV (wad w) (mF (wG w) σ r i n))
                unfold mF
                simp [mup_def, en]
              · have hnn : (List.range (gn (wG w) r i))[n]? = none := List.getElem?_eq_none (by rw [List.length_range]; exact Nat.le_of_not_lt hn)
                rw [hnn]
                rfl
      · cases h
    · cases h
theorem m_in {q : Nat × Nat} {k : Nat} (h : q ∈ wV w ∨ (sc.1 ∧ gk (wG w) q.1 = 4 ∧ gn (wG w) q.1 q.2 = sc.2.2.1)) (hk : gk (wG w) q.1 = k) (h4 : k ≠ 4) : q ∈ wV w := by
  rcases h with h | h
  · exact h
  · exact absurd (hk.symm.trans h.2.1) h4
theorem m_iald (C0 : mCx f w sc cc nL own Ts) {x y : mC} {Ps : List Prop} (h : k_iald (wG w) x = some (y, Ps)) (hA : mAll Ps) (hd : decode cc x.1 = .ok (.iaload, 1)) (kk : mWW f w sc nL y) : mWW f w sc nL x := by
  obtain ⟨hx, hb, hml, hown, hts, ⟨hK, hN⟩, hG, hsc⟩ := C0
  obtain ⟨pc, ls, st, σ⟩ := x
  unfold k_iald at h
  split at h
  · rename_i pc' ls' j r i st' σ' e
    cases e
    cases hq : (Nat.beq (gk (wG w) r) 1 || Nat.beq (gk (wG w) r) 4) with
    | false => rw [hq] at h; cases h
    | true =>
      rw [hq] at h
      cases h
      intro H locs L h1 h2 h3 h4 h5
      have hj : mw j = j := h5 (.inl j) List.mem_cons_self
      have hr := h5 (.inr (.inr (r, i))) (List.mem_cons_of_mem _ List.mem_cons_self)
      have hst : ∀ u ∈ st', mOkV w sc u := fun u hu => h5 u (List.mem_cons_of_mem _ (List.mem_cons_of_mem _ hu))
      have hjn : j.toNat < gn (wG w) r i := by have := hA.1; omega
      rw [Bool.or_eq_true] at hq
      rcases hq with hq | hq
      · have q1 := Nat.eq_of_beq_eq_true hq
        have hV : (r, i) ∈ wV w := m_in hr q1 (by decide)
        obtain ⟨q0, e1, e2⟩ := mWd_at (σ := σ) hV
        rw [mEn_1 q1] at e2
        refine va_iald hx hb hK h1.1 q0 0 e2 rfl (ofI_in hj hA.1) hd ?_
        rw [ofI_clamp hj]
        refine kk H locs L h1 h2 h3 h4 (fun u hu => ?_)
        rcases List.mem_cons.mp hu with rfl | q
        · have := h1.2 (r, i) hV j.toNat hjn
          rw [q1] at this
          exact this
        · exact hst u q
      · have q1 := Nat.eq_of_beq_eq_true hq
        have hsq : sc.1 ∧ gk (wG w) r = 4 ∧ gn (wG w) r i = sc.2.2.1 := by
          rcases hr with q | q
          · exact absurd q1 (hG.2.2.2.2.2.2 (r, i) q).1
          · exact q
        have hs : sc.1 := hsq.1
        obtain ⟨hX, hbl, hbA, hL31, hg4⟩ := hsc hs
        have g2 : gn (wG w) r i = sc.2.2.1 := hsq.2.2
        have g1 := hg4 r i q1 g2
        rw [g2] at hA hjn
        have hv : σ r i j.toNat = (sc.2.2.2 j.toNat).toInt := h2 hs r i q1 j.toNat hjn
        show mWk f H locs (F0 (fm f) pc L (.int (Int32.ofInt j) :: .ref (wad w r i) :: st'.map (mV (wad w))))
        rw [g1]
        refine va_sld hx hb hX hbl hbA h3 (ofI_in hj hA.1) hd ?_
        rw [ofI_clamp hj]
        have hk2 := kk H locs L h1 h2 h3 h4 (fun u hu => by
          rcases List.mem_cons.mp hu with rfl | q
          · show mw (σ r i j.toNat) = σ r i j.toNat
            rw [hv]; exact mw_of _
          · exact hst u q)
        have e3 : Int32.ofInt (σ r i j.toNat) = sc.2.2.2 j.toNat := by rw [hv, Int32.ofInt_toInt]
        rw [← e3]
        exact hk2
  · cases h
theorem m_zald (C0 : mCx f w sc cc nL own Ts) {x y : mC} {Ps : List Prop} (h : k_zald (wG w) x = some (y, Ps)) (hA : mAll Ps) (hd : decode cc x.1 = .ok (.baload, 1)) (kk : mWW f w sc nL y) : mWW f w sc nL x := by
  obtain ⟨hx, hb, hml, hown, hts, ⟨hK, hN⟩, hG, hsc⟩ := C0
  obtain ⟨pc, ls, st, σ⟩ := x
  unfold k_zald at h
  split at h
  · rename_i pc' ls' j r i st' σ' e
    cases e
    cases hq : Nat.beq (gk (wG w) r) 3 with
    | false => rw [hq] at h; cases h
    | true =>
      rw [hq] at h
      cases h
      intro H locs L h1 h2 h3 h4 h5
      have hj : mw j = j := h5 (.inl j) List.mem_cons_self
      have hr := h5 (.inr (.inr (r, i))) (List.mem_cons_of_mem _ List.mem_cons_self)
      have hjn : j.toNat < gn (wG w) r i := by have := hA.1; omega
      have q1 := Nat.eq_of_beq_eq_true hq
      have hV : (r, i) ∈ wV w := m_in hr q1 (by decide)
      obtain ⟨q0, e1, e2⟩ := mWd_at (σ := σ) hV
      rw [mEn_3 q1] at e2
      refine va_zald hx hb hK h1.1 q0 2 e2 rfl (ofI_in hj hA.1) hd ?_
      rw [ofI_clamp hj]
      refine kk H locs L h1 h2 h3 h4 (fun u hu => ?_)
      rcases List.mem_cons.mp hu with rfl | q
      · have := h1.2 (r, i) hV j.toNat hjn
        rw [q1] at this
        show mw (σ r i j.toNat) = σ r i j.toNat
        rcases this with e | e
        · rw [show σ r i j.toNat = 0 from e]; rfl
        · rw [show σ r i j.toNat = 1 from e]; rfl
      · exact h5 u (List.mem_cons_of_mem _ (List.mem_cons_of_mem _ q))
  · cases h
theorem m_lald (C0 : mCx f w sc cc nL own Ts) {x y : mC} {Ps : List Prop} (h : k_lald (wG w) x = some (y, Ps)) (hA : mAll Ps) (hd : decode cc x.1 = .ok (.laload, 1)) (kk : mWW f w sc nL y) : mWW f w sc nL x := by
  obtain ⟨hx, hb, hml, hown, hts, ⟨hK, hN⟩, hG, hsc⟩ := C0
  obtain ⟨pc, ls, st, σ⟩ := x
  unfold k_lald at h
  split at h
  · rename_i pc' ls' j r i st' σ' e
    cases e
    cases hq : Nat.beq (gk (wG w) r) 2 with
    | false => rw [hq] at h; cases h
    | true =>
      rw [hq] at h
      cases h
      intro H locs L h1 h2 h3 h4 h5
      have hj : mw j = j := h5 (.inl j) List.mem_cons_self
      have hr := h5 (.inr (.inr (r, i))) (List.mem_cons_of_mem _ List.mem_cons_self)
      have hjn : j.toNat < gn (wG w) r i := by have := hA.1; omega
      have q1 := Nat.eq_of_beq_eq_true hq
      have hV : (r, i) ∈ wV w := m_in hr q1 (by decide)
      obtain ⟨q0, e1, e2⟩ := mWd_at (σ := σ) hV
      rw [mEn_2 q1] at e2
      refine va_lald hx hb hK h1.1 q0 1 e2 rfl (ofI_in hj hA.1) hd ?_
      rw [ofI_clamp hj]
      refine kk H locs L h1 h2 h3 h4 (fun u hu => ?_)
      rcases List.mem_cons.mp hu with rfl | q
      · have := h1.2 (r, i) hV j.toNat hjn
        rw [q1] at this
        exact this
      · exact h5 u (List.mem_cons_of_mem _ (List.mem_cons_of_mem _ q))
  · cases h
theorem m_aald (C0 : mCx f w sc cc nL own Ts) {x y : mC} {Ps : List Prop} (h : k_aald (wG w) x = some (y, Ps)) (hA : mAll Ps) (hd : decode cc x.1 = .ok (.aaload, 1)) (kk : mWW f w sc nL y) : mWW f w sc nL x := by
  obtain ⟨hx, hb, hml, hown, hts, ⟨hK, hN⟩, hG, hsc⟩ := C0
  obtain ⟨pc, ls, st, σ⟩ := x
  unfold k_aald at h
  split at h
  · rename_i pc' ls' j r i st' σ' e
    cases e
    cases hq : Nat.ble 5 (gk (wG w) r) with
    | false => rw [hq] at h; cases h
    | true =>
      rw [hq] at h
      cases h
      intro H locs L h1 h2 h3 h4 h5
      have hj : mw j = j := h5 (.inl j) List.mem_cons_self
      have hr := h5 (.inr (.inr (r, i))) (List.mem_cons_of_mem _ List.mem_cons_self)
      have hjn : j.toNat < gn (wG w) r i := by have := hA.1; omega
      have q5 : 5 ≤ gk (wG w) r := Nat.le_of_ble_eq_true hq
      have hV : (r, i) ∈ wV w := m_in hr rfl (by show gk (wG w) r ≠ 4; omega)
      have q6 : gk (wG w) r ≤ 6 := (hG.2.2.2.2.2.2 (r, i) hV).2.1
      obtain ⟨q0, e1, e2⟩ := mWd_at (σ := σ) hV
      have go := kk H locs L h1 h2 h3 h4 (fun u hu => by
        rcases List.mem_cons.mp hu with rfl | q
        · exact Or.inl (hG.2.2.2.2.2.1 (r, i) hV q5 j.toNat hjn)
        · exact h5 u (List.mem_cons_of_mem _ (List.mem_cons_of_mem _ q)))
      rcases (show gk (wG w) r = 0 + 5 ∨ gk (wG w) r = 1 + 5 by omega) with q1 | q1
      · rw [mEn_5 q1] at e2
        have ha := h1.1 q0 _ e2
        have hin := ofI_in hj hA.1
        have hlt : (Int32.ofInt j).toNatClampNeg < gn (wG w) r i := by rw [ofI_clamp hj]; exact hjn
        exact W.aald (v := .ref (wad w (ge (wG w) r i j.toNat).1 (ge (wG w) r i j.toNat).2)) (ty := .array .int) hx hb ha ((hK.2 3 _ rfl).1 _ _) rfl (fun q => by cases q) (by show ¬ (_ ∨ (arrV _ _ _).slots.size ≤ _); rw [arrV_size]; exact hin) (by show (arrV _ _ _).slots[_]? = _; rw [arrV_read _ _ hlt, ofI_clamp hj]; rfl) rfl rfl hd go
      · rw [mEn_5 q1] at e2
        have ha := h1.1 q0 _ e2
        have hin := ofI_in hj hA.1
        have hlt : (Int32.ofInt j).toNatClampNeg < gn (wG w) r i := by rw [ofI_clamp hj]; exact hjn
        exact W.aald (v := .ref (wad w (ge (wG w) r i j.toNat).1 (ge (wG w) r i j.toNat).2)) (ty := .object "TurnBench$Layer") hx hb ha ((hK.2 4 _ rfl).1 _ _) rfl (fun q => by cases q) (by show ¬ (_ ∨ (arrV _ _ _).slots.size ≤ _); rw [arrV_size]; exact hin) (by show (arrV _ _ _).slots[_]? = _; rw [arrV_read _ _ hlt, ofI_clamp hj]; rfl) rfl rfl hd go
  · cases h
theorem m_up1 {σ : mS} {r i k : Nat} {z : Int} : (fun j => Int32.ofInt (mup σ r i k z r i j)) = upd (fun j => Int32.ofInt (σ r i j)) k (Int32.ofInt z) := by
  funext j
  unfold upd
  rw [mup_def]
  by_cases e : j = k
  · simp [e]
  · simp [e]
theorem m_up2 {σ : mS} {r i k : Nat} {z : Int} : (fun j => Int64.ofInt (mup σ r i k z r i j)) = vp_updL (fun j => Int64.ofInt (σ r i j)) k (Int64.ofInt z) := by
  funext j
  unfold vp_updL
  rw [mup_def]
  by_cases e : j = k
  · simp [e]
  · simp [e]
theorem m_iast (C0 : mCx f w sc cc nL own Ts) {x y : mC} {Ps : List Prop} (h : k_iast (wG w) x = some (y, Ps)) (hA : mAll Ps) (hd : decode cc x.1 = .ok (.iastore, 1)) (kk : mWW f w sc nL y) : mWW f w sc nL x := by
  obtain ⟨hx, hb, hml, hown, hts, ⟨hK, hN⟩, hG, hsc⟩ := C0
  obtain ⟨pc, ls, st, σ⟩ := x
  unfold k_iast at h
  split at h
  · rename_i pc' ls' z j r i st' σ' e
    cases e
    cases hq : Nat.beq (gk (wG w) r) 1 with
    | false => rw [hq] at h; cases h
    | true =>
      rw [hq] at h
      cases h
      intro H locs L h1 h2 h3 h4 h5
      have hz : mw z = z := h5 (.inl z) List.mem_cons_self
      have hj : mw j = j := h5 (.inl j) (List.mem_cons_of_mem _ List.mem_cons_self)
      have hr := h5 (.inr (.inr (r, i))) (List.mem_cons_of_mem _ (List.mem_cons_of_mem _ List.mem_cons_self))
      have q1 := Nat.eq_of_beq_eq_true hq
      have hV : (r, i) ∈ wV w := m_in hr q1 (by decide)
      obtain ⟨q0, e1, e2⟩ := mWd_at (σ := σ) hV
      rw [mEn_1 q1] at e2
      refine va_iast (x := Int32.ofInt z) hx hb hK h1.1 (mWd_D hG σ) h3 q0 0 e2 rfl (ofI_in hj hA.1) hd (fun H1 locs1 hP1 hD1 hS1 => ?_)
      rw [mWd_set hG (r := r) (i := i) (k := j.toNat) (z := z) e1 (by rw [mEn_1 q1, ofI_clamp hj]; dsimp only; rw [m_up1])] at hP1
      exact kk H1 locs1 L ⟨hP1, mOkS_up h1.2 (by rw [q1]; exact hz)⟩ (mScr_up h2 (by rw [q1]; decide)) hS1 h4 (fun u hu => h5 u (List.mem_cons_of_mem _ (List.mem_cons_of_mem _ (List.mem_cons_of_mem _ hu))))
  · cases h
theorem m_zast (C0 : mCx f w sc cc nL own Ts) {x y : mC} {Ps : List Prop} (h : k_zast (wG w) x = some (y, Ps)) (hA : mAll Ps) (hd : decode cc x.1 = .ok (.bastore, 1)) (kk : mWW f w sc nL y) : mWW f w sc nL x := by
  obtain ⟨hx, hb, hml, hown, hts, ⟨hK, hN⟩, hG, hsc⟩ := C0
  obtain ⟨pc, ls, st, σ⟩ := x
  unfold k_zast at h
  split at h
  · rename_i pc' ls' z j r i st' σ' e
    cases e
    cases hq : Nat.beq (gk (wG w) r) 3 with
    | false => rw [hq] at h; cases h
    | true =>
      rw [hq] at h
      cases h
      intro H locs L h1 h2 h3 h4 h5
      have hj : mw j = j := h5 (.inl j) (List.mem_cons_of_mem _ List.mem_cons_self)
      have hr := h5 (.inr (.inr (r, i))) (List.mem_cons_of_mem _ (List.mem_cons_of_mem _ List.mem_cons_self))
      have q1 := Nat.eq_of_beq_eq_true hq
      have hV : (r, i) ∈ wV w := m_in hr q1 (by decide)
      obtain ⟨q0, e1, e2⟩ := mWd_at (σ := σ) hV
      rw [mEn_3 q1] at e2
      have hnar : vp_nar .boolean (Int32.ofInt z) = Int32.ofInt z := by
        rcases hA.2.1 with rfl | rfl <;> decide
      refine va_zast (x := Int32.ofInt z) hx hb hK h1.1 (mWd_D hG σ) h3 q0 2 e2 rfl (ofI_in hj hA.1) hd (fun H1 locs1 hP1 hD1 hS1 => ?_)
      rw [hnar, mWd_set hG (r := r) (i := i) (k := j.toNat) (z := z) e1 (by rw [mEn_3 q1, ofI_clamp hj]; dsimp only; rw [m_up1])] at hP1
      exact kk H1 locs1 L ⟨hP1, mOkS_up h1.2 (by rw [q1]; exact hA.2.1)⟩ (mScr_up h2 (by rw [q1]; decide)) hS1 h4 (fun u hu => h5 u (List.mem_cons_of_mem _ (List.mem_cons_of_mem _ (List.mem_cons_of_mem _ hu))))
  · cases h
theorem m_last (C0 : mCx f w sc cc nL own Ts) {x y : mC} {Ps : List Prop} (h : k_last (wG w) x = some (y, Ps)) (hA : mAll Ps) (hd : decode cc x.1 = .ok (.lastore, 1)) (kk : mWW f w sc nL y) : mWW f w sc nL x := by
  obtain ⟨hx, hb, hml, hown, hts, ⟨hK, hN⟩, hG, hsc⟩ := C0
  obtain ⟨pc, ls, st, σ⟩ := x
  unfold k_last at h
  split at h
  · rename_i pc' ls' z j r i st' σ' e
    cases e
    cases hq : Nat.beq (gk (wG w) r) 2 with
    | false => rw [hq] at h; cases h
    | true =>
      rw [hq] at h
      cases h
      intro H locs L h1 h2 h3 h4 h5
      have hz : mx z = z := h5 (.inr (.inl z)) List.mem_cons_self
      have hj : mw j = j := h5 (.inl j) (List.mem_cons_of_mem _ List.mem_cons_self)
      have hr := h5 (.inr (.inr (r, i))) (List.mem_cons_of_mem _ (List.mem_cons_of_mem _ List.mem_cons_self))
      have q1 := Nat.eq_of_beq_eq_true hq
      have hV : (r, i) ∈ wV w := m_in hr q1 (by decide)
      obtain ⟨q0, e1, e2⟩ := mWd_at (σ := σ) hV
      rw [mEn_2 q1] at e2
      refine va_last (x := Int64.ofInt z) hx hb hK h1.1 (mWd_D hG σ) h3 q0 1 e2 rfl (ofI_in hj hA.1) hd (fun H1 locs1 hP1 hD1 hS1 => ?_)
      rw [mWd_set hG (r := r) (i := i) (k := j.toNat) (z := z) e1 (by rw [mEn_2 q1, ofI_clamp hj]; dsimp only; rw [m_up2])] at hP1
      exact kk H1 locs1 L ⟨hP1, mOkS_up h1.2 (by rw [q1]; exact hz)⟩ (mScr_up h2 (by rw [q1]; decide)) hS1 h4 (fun u hu => h5 u (List.mem_cons_of_mem _ (List.mem_cons_of_mem _ (List.mem_cons_of_mem _ hu))))
  · cases h
theorem m_alen (C0 : mCx f w sc cc nL own Ts) {x y : mC} {Ps : List Prop} (h : k_alen (wG w) x = some (y, Ps)) (hd : decode cc x.1 = .ok (.arraylength, 1)) (kk : mWW f w sc nL y) : mWW f w sc nL x := by
  obtain ⟨hx, hb, hml, hown, hts, ⟨hK, hN⟩, hG, hsc⟩ := C0
  obtain ⟨pc, ls, st, σ⟩ := x
  unfold k_alen at h
  split at h
  · rename_i pc' ls' r i st' σ' e
    cases e
    cases hq : Nat.ble 1 (gk (wG w) r) with
    | false => rw [hq] at h; cases h
    | true =>
      rw [hq] at h
      cases h
      intro H locs L h1 h2 h3 h4 h5
      have q5 : 1 ≤ gk (wG w) r := Nat.le_of_ble_eq_true hq
      have hr := h5 (.inr (.inr (r, i))) List.mem_cons_self
      have hst : ∀ u ∈ st', mOkV w sc u := fun u hu => h5 u (List.mem_cons_of_mem _ hu)
      have go : gn (wG w) r i < 2147483648 → mWk f H locs (F0 (fm f) (pc + 1) L (.int (Int32.ofNat (gn (wG w) r i)) :: st'.map (mV (wad w)))) := fun hn => by
        have := kk H locs L h1 h2 h3 h4 (fun u hu => by
          rcases List.mem_cons.mp hu with rfl | q
          · exact mw_id (by omega) (by omega)
          · exact hst u q)
        rw [← Int32.ofInt_eq_ofNat]
        exact this
      by_cases h4' : gk (wG w) r = 4
      · have hsq : sc.1 ∧ gk (wG w) r = 4 ∧ gn (wG w) r i = sc.2.2.1 := by
          rcases hr with q | q
          · exact absurd h4' (hG.2.2.2.2.2.2 (r, i) q).1
          · exact q
        have hs : sc.1 := hsq.1
        obtain ⟨hX, hbl, hbA, hL31, hg4⟩ := hsc hs
        have g2 : gn (wG w) r i = sc.2.2.1 := hsq.2.2
        have g1 := hg4 r i h4' g2
        show mWk f H locs (F0 (fm f) pc L (.ref (wad w r i) :: st'.map (mV (wad w))))
        rw [g1]
        rw [g2] at go
        exact va_slen hx hb hX hbl hbA h3 hd (go hL31)
      · have hV : (r, i) ∈ wV w := m_in hr rfl h4'
        have hg := hG.2.2.2.2.2.2 (r, i) hV
        have go := go hg.2.2
        obtain ⟨q0, e1, e2⟩ := mWd_at (σ := σ) hV
        rcases (show gk (wG w) r = 1 ∨ gk (wG w) r = 2 ∨ gk (wG w) r = 3 ∨ gk (wG w) r = 0 + 5 ∨ gk (wG w) r = 1 + 5 by have := hg.2.1; dsimp only at this; omega) with q1 | q1 | q1 | q1 | q1
        · rw [mEn_1 q1] at e2
          exact va_alen hx hb hK h1.1 q0 0 e2 rfl rfl hd go
        · rw [mEn_2 q1] at e2
          exact va_alen hx hb hK h1.1 q0 1 e2 rfl rfl hd go
        · rw [mEn_3 q1] at e2
          exact va_alen hx hb hK h1.1 q0 2 e2 rfl rfl hd go
        · rw [mEn_5 q1] at e2
          exact va_alen hx hb hK h1.1 q0 3 e2 rfl rfl hd go
        · rw [mEn_5 q1] at e2
          exact va_alen hx hb hK h1.1 q0 4 e2 rfl rfl hd go
  · cases h
end MHEAP
