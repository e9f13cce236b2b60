/-! both worlds as one -/
def adL (base b : Nat) : Nat → Nat → Nat := fun r i => bif Nat.ble r 70 then base + offC r i else bif Nat.ble r 98 then base + nC + offM r i else b
theorem adL_1 {base b r : Nat} (h : r ≤ 70) (i : Nat) : adL base b r i = base + offC r i := by
  unfold adL
  rw [Nat.ble_eq_true_of_le h]
  rfl
theorem adL_2 {base b r : Nat} (h0 : 71 ≤ r) (h : r ≤ 98) (i : Nat) : adL base b r i = base + nC + offM r i := by
  unfold adL
  rw [ble_f (show 70 < r by omega), Nat.ble_eq_true_of_le h]
  rfl
theorem adL_3 {base b r : Nat} (h : 99 ≤ r) (i : Nat) : adL base b r i = b := by
  unfold adL
  rw [ble_f (show 70 < r by omega), ble_f (show 98 < r by omega)]
  rfl
def VLl : List (Nat × Nat) := VCl ++ VMl
def eL (D : va_G) (cA : Nat → ClassId) (base b : Nat) : mEv := (D, adL base b, cA, VLl, fbA base)
theorem vc_rg : ∀ k ∈ List.range nC, (vcC k).1 ≤ 70 := by decide +kernel
theorem VC_rg {q : Nat × Nat} (h : q ∈ VCl) : q.1 ≤ 70 ∧ offC q.1 q.2 < nC := by
  obtain ⟨k, hk, rfl⟩ := inVC.mp h
  exact ⟨vc_rg k (List.mem_range.mpr hk), by rw [vcC_inv hk]; exact hk⟩
theorem VM_rg {q : Nat × Nat} (h : q ∈ VMl) : 71 ≤ q.1 ∧ q.1 ≤ 98 := by
  obtain ⟨k, hk, rfl⟩ := inVM.mp h
  have hk : k < 28 := hk
  show 71 ≤ 71 + k ∧ 71 + k ≤ 98
  omega
theorem VC_inj {q q' : Nat × Nat} (h : q ∈ VCl) (h' : q' ∈ VCl) (e : offC q.1 q.2 = offC q'.1 q'.2) : q = q' := by
  obtain ⟨k, hk, rfl⟩ := inVC.mp h
  obtain ⟨k', hk', rfl⟩ := inVC.mp h'
  rw [vcC_inv hk, vcC_inv hk'] at e
  rw [e]
theorem VM_inj {q q' : Nat × Nat} (h : q ∈ VMl) (h' : q' ∈ VMl) (e : offM q.1 q.2 = offM q'.1 q'.2) : q = q' := by
  obtain ⟨k, hk, rfl⟩ := inVM.mp h
  obtain ⟨k', hk', rfl⟩ := inVM.mp h'
  rw [vcM_inv, vcM_inv] at e
  rw [e]
theorem geoV_app {V1 V2 : List (Nat × Nat)} (h1 : geoV V1) (h2 : geoV V2) : geoV (V1 ++ V2) := by
  refine ⟨fun q hq h0 => ?_, fun q hq h0 k q' hk => ?_, fun q hq h5 k hk => ?_, fun q hq => ?_⟩
  · rcases List.mem_append.mp hq with h | h
    · exact h1.1 q h h0
    · exact h2.1 q h h0
  · rcases List.mem_append.mp hq with h | h
    · exact List.mem_append_left _ (h1.2.1 q h h0 k q' hk)
    · exact List.mem_append_right _ (h2.2.1 q h h0 k q' hk)
  · rcases List.mem_append.mp hq with h | h
    · exact List.mem_append_left _ (h1.2.2.1 q h h5 k hk)
    · exact List.mem_append_right _ (h2.2.2.1 q h h5 k hk)
  · rcases List.mem_append.mp hq with h | h
    · exact h1.2.2.2 q h
    · exact h2.2.2.2 q h
theorem nd_VL : VLl.Nodup := by
  unfold VLl
  refine List.nodup_append.mpr ⟨nd_VC, nd_VM, fun a ha b hb e => ?_⟩
  subst e
  have := VC_rg ha
  have := VM_rg hb
  omega
theorem geoL (D : va_G) (cA : Nat → ClassId) (base b : Nat) : mGeo (mw0 (eL D cA base b)) lw_kept := geo_w (D := D) (ad := adL base b) (cA := cA) (V := VLl) (A := fbA base) nd_VL (fun q hq q' hq' h => by
  unfold VLl at hq hq'
  rcases List.mem_append.mp hq with g | g <;> rcases List.mem_append.mp hq' with g' | g'
  · have r := VC_rg g
    have r' := VC_rg g'
    rw [adL_1 r.1, adL_1 r'.1] at h
    exact VC_inj g g' (by omega)
  · have r := VC_rg g
    have r' := VM_rg g'
    rw [adL_1 r.1, adL_2 r'.1 r'.2] at h
    omega
  · have r := VM_rg g
    have r' := VC_rg g'
    rw [adL_2 r.1 r.2, adL_1 r'.1] at h
    omega
  · have r := VM_rg g
    have r' := VM_rg g'
    rw [adL_2 r.1 r.2, adL_2 r'.1 r'.2] at h
    exact VM_inj g g' (by omega)) (fun q hq => by
  unfold VLl at hq
  show base ≤ adL base b q.1 q.2
  rcases List.mem_append.mp hq with g | g
  · rw [adL_1 (VC_rg g).1]; omega
  · rw [adL_2 (VM_rg g).1 (VM_rg g).2]; omega) (geoV_app geo_VCl geo_VMl)
/-- a cell as pictured under other addresses -/
theorem at_w {D : va_G} {ad ad' : Nat → Nat → Nat} {cA : Nat → ClassId} {V V' : List (Nat × Nat)} {A A' : Nat → Prop} {σ σ' : mS} {q : Nat × Nat} {H : Heap} (ha : ad q.1 q.2 = ad' q.1 q.2) (hs : ∀ k, σ q.1 q.2 k = σ' q.1 q.2 k) (hf : gk G0 q.1 = 0 → ∀ k q', gf G0 q.1 q.2 k = some q' → ad q'.1 q'.2 = ad' q'.1 q'.2) (he : 5 ≤ gk G0 q.1 → ∀ k, k < gn G0 q.1 q.2 → ad (ge G0 q.1 q.2 k).1 (ge G0 q.1 q.2 k).2 = ad' (ge G0 q.1 q.2 k).1 (ge G0 q.1 q.2 k).2)
    (h : va_at D vwCl (ad q.1 q.2, mEn (mw0 (D, ad, cA, V, A)) σ q) H) : va_at D vwCl (ad' q.1 q.2, mEn (mw0 (D, ad', cA, V', A')) σ' q) H := by
  rw [← ha]
  have hs' : σ q.1 q.2 = σ' q.1 q.2 := funext hs
  have k0 : wG (mw0 (D, ad, cA, V, A)) = G0 := rfl
  have k1 : wG (mw0 (D, ad', cA, V', A')) = G0 := rfl
  unfold mEn at h ⊢
  rw [k0] at h
  rw [k1]
  generalize hg : gk G0 q.1 = g at h hf he ⊢
  match g with
  | 0 =>
    have e : (List.range (gn G0 q.1 q.2)).map (fun k => mV ad (mF G0 σ q.1 q.2 k)) = (List.range (gn G0 q.1 q.2)).map (fun k => mV ad' (mF G0 σ' q.1 q.2 k)) := by
      apply List.map_congr_left
      intro k _
      unfold mF
      cases hq : gf G0 q.1 q.2 k with
      | none =>
        show Value.int _ = Value.int _
        rw [hs k]
      | some q' =>
        show Value.ref _ = Value.ref _
        rw [hf rfl k q' hq]
    have h : va_at D vwCl (ad q.1 q.2, .inr (gc G0 q.1, (List.range (gn G0 q.1 q.2)).map (fun k => mV ad (mF G0 σ q.1 q.2 k)))) H := h
    rw [e] at h
    exact h
  | 1 =>
    have h : va_at D vwCl (ad q.1 q.2, .inl (cA 1, gn G0 q.1 q.2, .inl fun k => Int32.ofInt (σ q.1 q.2 k))) H := h
    rw [hs'] at h
    exact h
  | 2 =>
    have h : va_at D vwCl (ad q.1 q.2, .inl (cA 2, gn G0 q.1 q.2, .inr (.inl fun k => Int64.ofInt (σ q.1 q.2 k)))) H := h
    rw [hs'] at h
    exact h
  | 3 =>
    have h : va_at D vwCl (ad q.1 q.2, .inl (cA 3, gn G0 q.1 q.2, .inl fun k => Int32.ofInt (σ q.1 q.2 k))) H := h
    rw [hs'] at h
    exact h
  | 4 => exact h
  | n + 5 =>
    have h : H[ad q.1 q.2]? = some (arrV (cA (n + 5)) (gn G0 q.1 q.2) (fun j => va_rf (some (ad (ge G0 q.1 q.2 j).1 (ge G0 q.1 q.2 j).2)))) := h
    show H[ad q.1 q.2]? = some (arrV (cA (n + 5)) (gn G0 q.1 q.2) (fun j => va_rf (some (ad' (ge G0 q.1 q.2 j).1 (ge G0 q.1 q.2 j).2))))
    rw [h, arrV_x (fun j hj => by rw [he (by omega) j hj])]
theorem P_w {D : va_G} {ad ad' : Nat → Nat → Nat} {cA : Nat → ClassId} {V V' U : List (Nat × Nat)} {A A' : Nat → Prop} {σ σ' : mS} {H : Heap} (hU : geoV U) (ha : ∀ q ∈ U, ad q.1 q.2 = ad' q.1 q.2) (hs : ∀ q ∈ U, ∀ k, σ q.1 q.2 k = σ' q.1 q.2 k) (h : va_P D vwCl (U.map fun q => (ad q.1 q.2, mEn (mw0 (D, ad, cA, V, A)) σ q)) H) : va_P D vwCl (U.map fun q => (ad' q.1 q.2, mEn (mw0 (D, ad', cA, V', A')) σ' q)) H := by
  intro k x hx
  rw [List.getElem?_map] at hx
  cases hq : U[k]? with
  | none => rw [hq] at hx; cases hx
  | some q =>
    rw [hq] at hx
    cases hx
    have hm : q ∈ U := List.mem_of_getElem? hq
    refine at_w (V := V) (A := A) (ha q hm) (hs q hm) (fun h0 k' q' hk' => ha q' (hU.2.1 q hm h0 k' q' hk')) (fun h5 k' hk' => ha _ (hU.2.2.1 q hm h5 k' hk')) (h k _ ?_)
    rw [List.getElem?_map, hq]
    rfl
theorem un_w {D : va_G} {ad : Nat → Nat → Nat} {cA : Nat → ClassId} {V : List (Nat × Nat)} {A : Nat → Prop} {σ : mS} {H : Heap} (h : mRep (mw0 (D, ad, cA, V, A)) σ H) : va_P D vwCl (V.map fun q => (ad q.1 q.2, mEn (mw0 (D, ad, cA, V, A)) σ q)) H := h.1
theorem ok_w {D D' : va_G} {ad ad' : Nat → Nat → Nat} {cA cA' : Nat → ClassId} {V : List (Nat × Nat)} {A : Nat → Prop} {σ : mS} (h : mOkS (mw0 (D, ad, cA, V, A)) σ) {q : Nat × Nat} (hq : q ∈ V) {k : Nat} (hk : k < gn G0 q.1 q.2) : mOkK (gk G0 q.1) (σ q.1 q.2 k) := h q hq k hk
theorem rep_L {D : va_G} {cA : Nat → ClassId} {base b : Nat} {σ1 σ2 : mS} {xs : Nat → Int32} {H : Heap} (h1 : mRep (wC D cA base) σ1 H) (h2 : mRep (wM D cA (base + nC)) σ2 H) : mRep (mw0 (eL D cA base b)) (sB σ1 σ2 xs) H := by
  have p1 := un_w (D := D) (ad := fun r i => base + offC r i) (cA := cA) (V := VCl) (A := fbA base) h1
  have p2 := un_w (D := D) (ad := fun r i => base + nC + offM r i) (cA := cA) (V := VMl) (A := fbA (base + nC)) h2
  refine rep_w (D := D) (ad := adL base b) (cA := cA) (V := VLl) (A := fbA base) ?_ (fun q hq k hk => ?_)
  · have a1 := P_w (D := D) (ad := fun r i => base + offC r i) (cA := cA) (U := VCl) (V := VCl) (A := fbA base) (σ := σ1) (H := H) (ad' := adL base b) (V' := VLl) (A' := fbA base) (σ' := sB σ1 σ2 xs) geo_VCl (fun q hq => (adL_1 (VC_rg hq).1 _).symm) (fun q hq k => (sB_1 (VC_rg hq).1 _ _).symm) p1
    have a2 := P_w (D := D) (ad := fun r i => base + nC + offM r i) (cA := cA) (U := VMl) (V := VMl) (A := fbA (base + nC)) (σ := σ2) (H := H) (ad' := adL base b) (V' := VLl) (A' := fbA base) (σ' := sB σ1 σ2 xs) geo_VMl (fun q hq => (adL_2 (VM_rg hq).1 (VM_rg hq).2 _).symm) (fun q hq k => (sB_2 (VM_rg hq).1 (VM_rg hq).2 _ _).symm) p2
    have e : ∀ f : Nat × Nat → Nat × va_E, VLl.map f = VCl.map f ++ VMl.map f := fun f => by unfold VLl; exact List.map_append
    rw [e]
    exact a1.app a2
  · have hq : q ∈ VLl := in_w hq
    unfold VLl at hq
    rcases List.mem_append.mp hq with g | g
    · show mOkK (gk G0 q.1) (sB σ1 σ2 xs q.1 q.2 k)
      rw [sB_1 (VC_rg g).1]
      exact h1.2 q (of_C g) k hk
    · show mOkK (gk G0 q.1) (sB σ1 σ2 xs q.1 q.2 k)
      rw [sB_2 (VM_rg g).1 (VM_rg g).2]
      exact ok_w (D := D) (ad := fun r i => base + nC + offM r i) (cA := cA) (V := VMl) (A := fbA (base + nC)) (D' := D) (ad' := fun _ _ => 0) (cA' := cA) h2.2 g hk
theorem g4 {r : Nat} (h : gk G0 r = 4) : 99 ≤ r := by
  have h0 : ∀ r ∈ List.range 99, G0k r ≠ 4 := by decide +kernel
  by_cases hr : r < 99
  · exact absurd h (h0 r (List.mem_range.mpr hr))
  · omega
