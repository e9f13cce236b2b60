/-! Layer(d), Few(): rows -/
theorem opS_comm {op : Nat × Nat → Option va_E} {q q' : Nat × Nat} {x y : Option va_E} (h : q ≠ q') : opS (opS op q x) q' y = opS (opS op q' y) q x := by
  funext a
  unfold opS
  by_cases e : a = q'
  · rw [if_pos e, if_neg (fun z => h (z.symm.trans e)), if_pos e]
  · by_cases e2 : a = q
    · rw [if_neg e, if_pos e2, if_pos e2]
    · rw [if_neg e, if_neg e2, if_neg e2, if_neg e]
theorem fbE_m {w : mWd} {σ : mS} {op : Nat × Nat → Option va_E} {q : Nat × Nat} {x : va_E} (h : op q = none) (hm : mEn w σ q = x) : fbE w σ op q = x := by
  unfold fbE
  rw [h]
  exact hm
theorem arrV_x {cI : ClassId} {N : Nat} {f g : Nat → Value} (h : ∀ j, j < N → f j = g j) : arrV cI N f = arrV cI N g := by
  refine cell_x rfl rfl ?_ rfl rfl
  apply Array.ext_getElem?
  intro j
  by_cases hj : j < N
  · rw [arrV_read _ _ hj, arrV_read _ _ hj, h j hj]
  · rw [Array.getElem?_eq_none (by rw [arrV_size]; omega), Array.getElem?_eq_none (by rw [arrV_size]; omega)]
theorem fb_arr {w : mWd} {VC : Nat → Nat × Nat} {base n t : Nat} {σ : mS} {op : Nat × Nat → Option va_E} {q : Nat × Nat} {cI : ClassId} {N : Nat} {f f' : Nat → Option Nat} {H : Heap} (hF : FB w VC base σ (opS op q (some (.inl (cI, N, .inr (.inr (.inr (.inr f))))))) n H) (hop : op q = none) (hm : mEn w σ q = .inl (cI, N, .inr (.inr (.inr (.inr f'))))) (hf : ∀ j, j < N → f j = f' j) : FB w VC base σ op n H := by
  refine ⟨hF.1, fun k x hk => ?_⟩
  obtain ⟨hk1, rfl⟩ := fbL_of hk
  have h := hF.2 k _ (fbL_get hk1)
  by_cases e : VC k = q
  · have e1 : fbE w σ (opS op q (some (.inl (cI, N, .inr (.inr (.inr (.inr f))))))) (VC k) = .inl (cI, N, .inr (.inr (.inr (.inr f)))) := by
      unfold fbE
      rw [e, opS_s]
    have e2 : fbE w σ op (VC k) = .inl (cI, N, .inr (.inr (.inr (.inr f')))) := by
      unfold fbE
      rw [e, hop]
      exact hm
    rw [e1] at h
    rw [e2]
    have h' : H[base + k]? = some (arrV cI N (fun j => va_rf (f j))) := h
    show H[base + k]? = some (arrV cI N (fun j => va_rf (f' j)))
    rw [h', arrV_x (fun j hj => by rw [hf j hj])]
  · have e1 : fbE w σ (opS op q (some (.inl (cI, N, .inr (.inr (.inr (.inr f))))))) (VC k) = fbE w σ op (VC k) := by
      unfold fbE
      rw [opS_n e]
    rw [e1] at h
    exact h
def eN (D : va_G) (cA : Nat → ClassId) : mEv := (D, (fun _ _ => 0), cA, [], fun _ => False)
theorem geoN (D : va_G) (cA : Nat → ClassId) : mGeo (mw0 (eN D cA)) lw_kept := ⟨List.nodup_nil, fun q hq => absurd hq List.not_mem_nil, fun q hq => absurd hq List.not_mem_nil, fun q hq => absurd hq List.not_mem_nil, fun q hq => absurd hq List.not_mem_nil, fun q hq => absurd hq List.not_mem_nil, fun q hq => absurd hq List.not_mem_nil⟩
section LYR
variable {p : Program} {l : Launch} {e : Env} {R : Room} {s : State} {m : MethodId} {args : Array Value} {below : List Frame} {meth : Method} {c : Code} {H : Heap} {locs : List Loc} {cells slots : Nat} {Q : State → Prop}
variable {cc : ByteArray} {pc : Nat} {ls : Array Slot} {rest : List Value} {D : va_G} {cA : Nat → ClassId} {base n : Nat} {σ : mS} {op : Nat × Nat → Option va_E}
theorem fb_same {w : mWd} {VC : Nat → Nat × Nat} {H1 : Heap} (hF : FB w VC base σ op n H) (h1 : H1.size = H.size) (h2 : ∀ q, q < H.size → H1[q]? = H[q]?) : FB w VC base σ op n H1 := ⟨by rw [h1]; exact hF.1, hF.2.kept (fun k x hk => h2 _ ((hF.2 k x hk).lt))⟩
theorem fb_width {nL index : Nat} {own : String} (S : CallFix p m c cc nL s args lw_kept own) (hK : mK (wC D cA base) s) (hlink : Cond.methodLink own index yX7_widthOf ∈ lw_kept) (hF : FB (wC D cA base) vcC base σ op n H) (hS : va_S (fbA base) s.heap H locs) (hbs : base ≤ s.heap.size) (hsz : s.heap.size + cells = base + n) (hsize : ls.size = nL) (hW : (rest.map fun v => v.category).sum ≤ 8) (hR : 1 ≤ R.frames ∧ 20 ≤ R.locals) (hc : cells ≤ R.cells ∧ slots ≤ R.slots) {z v : Int} (hz : mw z = z) (hv : o_div (mw ((mw (z + 1)) * (mw (z + 2)))) 2 = v) (hdg : decode cc pc = .ok (.invokestatic index, 3))
    (kk : ∀ (H1 : Heap) (locs1 : List Loc), FB (wC D cA base) vcC base σ op n H1 → va_S (fbA base) s.heap H1 locs1 → W p l e R s m args below meth c H1 locs1 cells slots Q (F0 m (pc + 3) ls (.int (Int32.ofInt v) :: rest))) : W p l e R s m args below meth c H locs cells slots Q (F0 m pc ls (.int (Int32.ofInt z) :: rest)) := by
  subst hv
  exact fb_stat (e0 := eN D cA) (base := base) (av := [.inl z]) (σ0 := fun _ _ _ => 0) rfl (fun _ h => h) S hK (t_X7_widthOf (geoN D cA) l 1 rfl) (fun x hx => by
    rcases List.mem_singleton.mp hx with rfl
    exact hz) hlink wi_X7 wc_X7_widthOf wk_X7_widthOf wn_X7_widthOf rfl (by show 0 + 1 ≤ _ ∧ 8 + (1 + 11) + 40 * 0 ≤ _; omega) (by rw [hsz]; exact hF.1.symm) hS hbs hsize hW hc hdg (fun H1 locs1 h1 h2 h3 => kk H1 locs1 (fb_same hF h1 h2) h3)
theorem fb_gets {zq : Nat} (hx : p.tables.exec = Jvm.exec) (hb : c.code = cc) (hBK : bK (wC D cA base) base zq s) (hS : va_S (fbA base) s.heap H locs) (hown : s.vm.findClass RX3 = some m.cls) (hdg : decode cc pc = .ok (.getstatic 24, 3)) (kk : W p l e R s m args below meth c H locs cells slots Q (F0 m (pc + 3) ls (.ref zq :: rest))) : W p l e R s m args below meth c H locs cells slots Q (F0 m pc ls rest) :=
  va_getsN hx hb hBK.2.2.2.2.1 hS hown (va_Nw.use rfl hBK.2.2.2.1) (fun x h => h) hdg kk
theorem fb_zlen {zq : Nat} (hx : p.tables.exec = Jvm.exec) (hb : c.code = cc) (hBK : bK (wC D cA base) base zq s) (hS : va_S (fbA base) s.heap H locs) (hbs : base ≤ s.heap.size) (hdg : decode cc pc = .ok (.arraylength, 1)) (kk : W p l e R s m args below meth c H locs cells slots Q (F0 m (pc + 1) ls (.int (Int32.ofInt 7) :: rest))) : W p l e R s m args below meth c H locs cells slots Q (F0 m pc ls (.ref zq :: rest)) := by
  have h := hBK.2.2.2.2.2
  have e7 : Int32.ofNat 7 = Int32.ofInt 7 := by decide
  refine va_slen hx hb h.2 (by have := h.1; omega) (Nat.not_le_of_lt h.1) hS hdg ?_
  rw [e7]
  exact kk
theorem fb_zald {zq : Nat} (hx : p.tables.exec = Jvm.exec) (hb : c.code = cc) (hBK : bK (wC D cA base) base zq s) (hS : va_S (fbA base) s.heap H locs) (hbs : base ≤ s.heap.size) {z v : Int} {j : Nat} (hin : vp_in (Int32.ofInt z) 7) (hj : (Int32.ofInt z).toNatClampNeg = j) (hv : (gmo j : Int) = v) (hdg : decode cc pc = .ok (.iaload, 1)) (kk : W p l e R s m args below meth c H locs cells slots Q (F0 m (pc + 1) ls (.int (Int32.ofInt v) :: rest))) : W p l e R s m args below meth c H locs cells slots Q (F0 m pc ls (.int (Int32.ofInt z) :: .ref zq :: rest)) := by
  subst hj; subst hv
  have h := hBK.2.2.2.2.2
  exact va_sld hx hb h.2 (by have := h.1; omega) (Nat.not_le_of_lt h.1) hS hin hdg kk
end LYR
