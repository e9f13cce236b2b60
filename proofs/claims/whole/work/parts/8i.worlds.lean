/-! the two worlds: cells, their shapes, their places -/
def nM : Nat := 28
def vcM (k : Nat) : Nat × Nat := (71 + k, 0)
def offM (r _i : Nat) : Nat := r - 71
def VMl : List (Nat × Nat) := (List.range nM).map vcM
theorem inVC {q : Nat × Nat} : q ∈ VCl ↔ ∃ k, k < nC ∧ vcC k = q := by
  unfold VCl
  rw [List.mem_map]
  exact ⟨fun ⟨k, h1, h2⟩ => ⟨k, List.mem_range.mp h1, h2⟩, fun ⟨k, h1, h2⟩ => ⟨k, List.mem_range.mpr h1, h2⟩⟩
theorem inVM {q : Nat × Nat} : q ∈ VMl ↔ ∃ k, k < nM ∧ vcM k = q := by
  unfold VMl
  rw [List.mem_map]
  exact ⟨fun ⟨k, h1, h2⟩ => ⟨k, List.mem_range.mp h1, h2⟩, fun ⟨k, h1, h2⟩ => ⟨k, List.mem_range.mpr h1, h2⟩⟩
/-- what mGeo says of the cells alone -/
def geoV (V : List (Nat × Nat)) : Prop :=
  (∀ q ∈ V, gk G0 q.1 = 0 → ∃ (C : String) (T : u_T) (ty : Nat → FieldType), vwCl[gc G0 q.1]? = some (C, T, gn G0 q.1 q.2) ∧ (∀ x ∈ u_ws C T (gn G0 q.1 q.2), x ∈ lw_kept) ∧ (∀ k, k < gn G0 q.1 q.2 → parseFieldDescriptor (T k).2.2.1 = some (ty k)) ∧ (∀ a, a < gn G0 q.1 q.2 → ∀ b, b < gn G0 q.1 q.2 → a ≠ b → (T a).2.1 ≠ (T b).2.1) ∧
    ∀ k, k < gn G0 q.1 q.2 → gf G0 q.1 q.2 k = none → ty k = cond (gb G0 q.1 k) .boolean .int) ∧
  (∀ q ∈ V, gk G0 q.1 = 0 → ∀ k q', gf G0 q.1 q.2 k = some q' → q' ∈ V) ∧ (∀ q ∈ V, 5 ≤ gk G0 q.1 → ∀ k, k < gn G0 q.1 q.2 → ge G0 q.1 q.2 k ∈ V) ∧
  (∀ q ∈ V, gk G0 q.1 ≠ 4 ∧ gk G0 q.1 ≤ 6 ∧ gn G0 q.1 q.2 < 2147483648)
set_option maxHeartbeats 4000000 in
theorem G0f_big (r i : Nat) {k : Nat} (h : 64 ≤ k) : G0f r i k = G0f r i 64 := by
  have hb : ∀ c, c < 64 → Nat.ble k c = false := fun c hc => by
    cases e : Nat.ble k c with
    | false => rfl
    | true => exact absurd (Nat.le_of_ble_eq_true e) (by omega)
  have hc : ∀ c, c < 64 → Nat.ble 64 c = false := fun c hc => by
    cases e : Nat.ble 64 c with
    | false => rfl
    | true => exact absurd (Nat.le_of_ble_eq_true e) (by omega)
  unfold G0f
  simp only [hb 0 (by decide), hc 0 (by decide), hb 1 (by decide), hc 1 (by decide), hb 2 (by decide), hc 2 (by decide), hb 3 (by decide), hc 3 (by decide), hb 4 (by decide), hc 4 (by decide), hb 5 (by decide), hc 5 (by decide), hb 6 (by decide), hc 6 (by decide), hb 7 (by decide), hc 7 (by decide), hb 8 (by decide), hc 8 (by decide), hb 9 (by decide), hc 9 (by decide), hb 10 (by decide), hc 10 (by decide), hb 11 (by decide), hc 11 (by decide), hb 12 (by decide), hc 12 (by decide), hb 13 (by decide), hc 13 (by decide), hb 14 (by decide), hc 14 (by decide), hb 15 (by decide), hc 15 (by decide), hb 16 (by decide), hc 16 (by decide), hb 17 (by decide), hc 17 (by decide), hb 18 (by decide), hc 18 (by decide), hb 19 (by decide), hc 19 (by decide), hb 20 (by decide), hc 20 (by decide), hb 21 (by decide), hc 21 (by decide), hb 22 (by decide), hc 22 (by decide), hb 23 (by decide), hc 23 (by decide), hb 24 (by decide), hc 24 (by decide), hb 25 (by decide), hc 25 (by decide), hb 27 (by decide), hc 27 (by decide), hb 28 (by decide), hc 28 (by decide), hb 29 (by decide), hc 29 (by decide), hb 30 (by decide), hc 30 (by decide), hb 31 (by decide), hc 31 (by decide), hb 32 (by decide), hc 32 (by decide), hb 33 (by decide), hc 33 (by decide), hb 34 (by decide), hc 34 (by decide), hb 35 (by decide), hc 35 (by decide), hb 36 (by decide), hc 36 (by decide), hb 37 (by decide), hc 37 (by decide), hb 38 (by decide), hc 38 (by decide), hb 39 (by decide), hc 39 (by decide), hb 40 (by decide), hc 40 (by decide)]
theorem geo_obj {r i : Nat} (h : r ∈ [0, 1, 5, 23, 26, 29, 31, 37, 42, 47, 61, 66] ∨ r = 71) : ∃ (C : String) (T : u_T) (ty : Nat → FieldType), vwCl[gc G0 r]? = some (C, T, gn G0 r i) ∧ (∀ x ∈ u_ws C T (gn G0 r i), x ∈ lw_kept) ∧ (∀ k, k < gn G0 r i → parseFieldDescriptor (T k).2.2.1 = some (ty k)) ∧ (∀ a, a < gn G0 r i → ∀ b, b < gn G0 r i → a ≠ b → (T a).2.1 ≠ (T b).2.1) ∧ ∀ k, k < gn G0 r i → gf G0 r i k = none → ty k = cond (gb G0 r k) .boolean .int := by
  have hr : r = 0 ∨ r = 1 ∨ r = 5 ∨ r = 23 ∨ r = 26 ∨ r = 29 ∨ r = 31 ∨ r = 37 ∨ r = 42 ∨ r = 47 ∨ r = 61 ∨ r = 66 ∨ r = 71 := by
    rcases h with h | h
    · simp at h; omega
    · omega
  rcases hr with rfl | rfl | rfl | rfl | rfl | rfl | rfl | rfl | rfl | rfl | rfl | rfl | rfl
  · refine ⟨RX11, TX11, tyX11, rfl, inX11, tyX11_ok, nmX11, fun k hk h => ?_⟩
    have hk : k < 8 := hk
    match k, hk with
    | 0, _ => cases h
    | 1, _ => cases h
    | 2, _ => cases h
    | 3, _ => cases h
    | 4, _ => cases h
    | 5, _ => cases h
    | 6, _ => cases h
    | 7, _ => cases h
  · refine ⟨RX10, TX10, tyX10, rfl, inX10, tyX10_ok, nmX10, fun k hk h => ?_⟩
    have hk : k < 2 := hk
    match k, hk with
    | 0, _ => cases h
    | 1, _ => cases h
  · refine ⟨RX1, TX1, tyX1, rfl, inX1, tyX1_ok, nmX1, fun k hk h => ?_⟩
    have hk : k < 18 := hk
    match k, hk with
    | 0, _ => rfl
    | 1, _ => rfl
    | 2, _ => rfl
    | 3, _ => rfl
    | 4, _ => cases h
    | 5, _ => cases h
    | 6, _ => cases h
    | 7, _ => cases h
    | 8, _ => cases h
    | 9, _ => cases h
    | 10, _ => cases h
    | 11, _ => cases h
    | 12, _ => cases h
    | 13, _ => cases h
    | 14, _ => cases h
    | 15, _ => cases h
    | 16, _ => cases h
    | 17, _ => cases h
  · refine ⟨RX8, TX8, tyX8, rfl, inX8, tyX8_ok, nmX8, fun k hk h => ?_⟩
    have hk : k < 3 := hk
    match k, hk with
    | 0, _ => cases h
    | 1, _ => cases h
    | 2, _ => rfl
  · refine ⟨RX9, TX9, tyX9, rfl, inX9, tyX9_ok, nmX9, fun k hk h => ?_⟩
    have hk : k < 2 := hk
    match k, hk with
    | 0, _ => rfl
    | 1, _ => cases h
  · refine ⟨RX4, TX4, tyX4, rfl, inX4, tyX4_ok, nmX4, fun k hk h => ?_⟩
    have hk : k < 1 := hk
    match k, hk with
    | 0, _ => cases h
  · refine ⟨RX6, TX6, tyX6, rfl, inX6, tyX6_ok, nmX6, fun k hk h => ?_⟩
    have hk : k < 4 := hk
    match k, hk with
    | 0, _ => cases h
    | 1, _ => cases h
    | 2, _ => cases h
    | 3, _ => cases h
  · refine ⟨RX7, TX7, tyX7, rfl, inX7, tyX7_ok, nmX7, fun k hk h => ?_⟩
    have hk : k < 3 := hk
    match k, hk with
    | 0, _ => cases h
    | 1, _ => cases h
    | 2, _ => cases h
  · refine ⟨RX0, TX0, tyX0, rfl, inX0, tyX0_ok, nmX0, fun k hk h => ?_⟩
    have hk : k < 6 := hk
    match k, hk with
    | 0, _ => rfl
    | 1, _ => rfl
    | 2, _ => cases h
    | 3, _ => cases h
    | 4, _ => cases h
    | 5, _ => cases h
  · refine ⟨RX3, TX3, tyX3, rfl, inX3, tyX3_ok, nmX3, fun k hk h => ?_⟩
    have hk : k < 14 := hk
    match k, hk with
    | 0, _ => rfl
    | 1, _ => rfl
    | 2, _ => rfl
    | 3, _ => rfl
    | 4, _ => cases h
    | 5, _ => cases h
    | 6, _ => cases h
    | 7, _ => rfl
    | 8, _ => cases h
    | 9, _ => cases h
    | 10, _ => cases h
    | 11, _ => cases h
    | 12, _ => cases h
    | 13, _ => cases h
  · refine ⟨RX5, TX5, tyX5, rfl, inX5, tyX5_ok, nmX5, fun k hk h => ?_⟩
    have hk : k < 5 := hk
    match k, hk with
    | 0, _ => rfl
    | 1, _ => rfl
    | 2, _ => cases h
    | 3, _ => cases h
    | 4, _ => cases h
  · refine ⟨RX2, TX2, tyX2, rfl, inX2, tyX2_ok, nmX2, fun k hk h => ?_⟩
    have hk : k < 5 := hk
    match k, hk with
    | 0, _ => rfl
    | 1, _ => rfl
    | 2, _ => cases h
    | 3, _ => cases h
    | 4, _ => cases h
  · refine ⟨RX12, TX12, tyX12, rfl, inX12, tyX12_ok, nmX12, fun k hk h => ?_⟩
    have hk : k < 42 := hk
    match k, hk with
    | 0, _ => cases h
    | 1, _ => cases h
    | 2, _ => cases h
    | 3, _ => cases h
    | 4, _ => cases h
    | 5, _ => cases h
    | 6, _ => rfl
    | 7, _ => rfl
    | 8, _ => cases h
    | 9, _ => cases h
    | 10, _ => rfl
    | 11, _ => rfl
    | 12, _ => cases h
    | 13, _ => cases h
    | 14, _ => rfl
    | 15, _ => rfl
    | 16, _ => rfl
    | 17, _ => rfl
    | 18, _ => cases h
    | 19, _ => rfl
    | 20, _ => cases h
    | 21, _ => cases h
    | 22, _ => cases h
    | 23, _ => cases h
    | 24, _ => cases h
    | 25, _ => cases h
    | 26, _ => rfl
    | 27, _ => rfl
    | 28, _ => cases h
    | 29, _ => cases h
    | 30, _ => cases h
    | 31, _ => cases h
    | 32, _ => rfl
    | 33, _ => cases h
    | 34, _ => cases h
    | 35, _ => cases h
    | 36, _ => rfl
    | 37, _ => cases h
    | 38, _ => cases h
    | 39, _ => cases h
    | 40, _ => rfl
    | 41, _ => rfl
    | n + 42, h => exact absurd h (by omega)
set_option maxRecDepth 100000 in
theorem geo1_VCl : ∀ j ∈ List.range nC, G0k (vcC j).1 = 0 → ((vcC j).1 ∈ [0, 1, 5, 23, 26, 29, 31, 37, 42, 47, 61, 66] ∨ (vcC j).1 = 71) ∧ ∀ k ∈ List.range 65, ∀ q' ∈ (G0f (vcC j).1 (vcC j).2 k).toList, vcC (offC q'.1 q'.2) = q' ∧ offC q'.1 q'.2 < nC := by decide +kernel
set_option maxRecDepth 100000 in
theorem geo2_VCl : ∀ j ∈ List.range nC, (5 ≤ G0k (vcC j).1 → ∀ k ∈ List.range (G0n (vcC j).1 (vcC j).2), vcC (offC (G0e (vcC j).1 (vcC j).2 k).1 (G0e (vcC j).1 (vcC j).2 k).2) = G0e (vcC j).1 (vcC j).2 k ∧ offC (G0e (vcC j).1 (vcC j).2 k).1 (G0e (vcC j).1 (vcC j).2 k).2 < nC) ∧ G0k (vcC j).1 ≠ 4 ∧ G0k (vcC j).1 ≤ 6 ∧ G0n (vcC j).1 (vcC j).2 < 2147483648 := by decide +kernel
theorem geo_VCl : geoV VCl := by
  refine ⟨fun q hq h0 => ?_, fun q hq h0 k q' hk => ?_, fun q hq h5 k hk => ?_, fun q hq => ?_⟩
  · obtain ⟨j, hj, rfl⟩ := inVC.mp hq
    exact geo_obj (geo1_VCl j (List.mem_range.mpr hj) h0).1
  · obtain ⟨j, hj, rfl⟩ := inVC.mp hq
    have key := (geo1_VCl j (List.mem_range.mpr hj) h0).2
    have hk' : ∃ k', k' < 65 ∧ G0f (vcC j).1 (vcC j).2 k' = some q' := by
      by_cases c : k < 64
      · exact ⟨k, by omega, hk⟩
      · exact ⟨64, by omega, (G0f_big _ _ (by omega)).symm.trans hk⟩
    obtain ⟨k', h1, h2⟩ := hk'
    obtain ⟨a, b⟩ := key k' (List.mem_range.mpr h1) q' (by rw [h2]; exact List.mem_singleton.mpr rfl)
    exact inVC.mpr ⟨_, b, a⟩
  · obtain ⟨j, hj, rfl⟩ := inVC.mp hq
    obtain ⟨a, b⟩ := (geo2_VCl j (List.mem_range.mpr hj)).1 h5 k (List.mem_range.mpr hk)
    exact inVC.mpr ⟨_, b, a⟩
  · obtain ⟨j, hj, rfl⟩ := inVC.mp hq
    exact (geo2_VCl j (List.mem_range.mpr hj)).2
set_option maxRecDepth 100000 in
theorem geo1_VMl : ∀ j ∈ List.range nM, G0k (vcM j).1 = 0 → ((vcM j).1 ∈ [0, 1, 5, 23, 26, 29, 31, 37, 42, 47, 61, 66] ∨ (vcM j).1 = 71) ∧ ∀ k ∈ List.range 65, ∀ q' ∈ (G0f (vcM j).1 (vcM j).2 k).toList, vcM (offM q'.1 q'.2) = q' ∧ offM q'.1 q'.2 < nM := by decide +kernel
set_option maxRecDepth 100000 in
theorem geo2_VMl : ∀ j ∈ List.range nM, (5 ≤ G0k (vcM j).1 → ∀ k ∈ List.range (G0n (vcM j).1 (vcM j).2), vcM (offM (G0e (vcM j).1 (vcM j).2 k).1 (G0e (vcM j).1 (vcM j).2 k).2) = G0e (vcM j).1 (vcM j).2 k ∧ offM (G0e (vcM j).1 (vcM j).2 k).1 (G0e (vcM j).1 (vcM j).2 k).2 < nM) ∧ G0k (vcM j).1 ≠ 4 ∧ G0k (vcM j).1 ≤ 6 ∧ G0n (vcM j).1 (vcM j).2 < 2147483648 := by decide +kernel
theorem geo_VMl : geoV VMl := by
  refine ⟨fun q hq h0 => ?_, fun q hq h0 k q' hk => ?_, fun q hq h5 k hk => ?_, fun q hq => ?_⟩
  · obtain ⟨j, hj, rfl⟩ := inVM.mp hq
    exact geo_obj (geo1_VMl j (List.mem_range.mpr hj) h0).1
  · obtain ⟨j, hj, rfl⟩ := inVM.mp hq
    have key := (geo1_VMl j (List.mem_range.mpr hj) h0).2
    have hk' : ∃ k', k' < 65 ∧ G0f (vcM j).1 (vcM j).2 k' = some q' := by
      by_cases c : k < 64
      · exact ⟨k, by omega, hk⟩
      · exact ⟨64, by omega, (G0f_big _ _ (by omega)).symm.trans hk⟩
    obtain ⟨k', h1, h2⟩ := hk'
    obtain ⟨a, b⟩ := key k' (List.mem_range.mpr h1) q' (by rw [h2]; exact List.mem_singleton.mpr rfl)
    exact inVM.mpr ⟨_, b, a⟩
  · obtain ⟨j, hj, rfl⟩ := inVM.mp hq
    obtain ⟨a, b⟩ := (geo2_VMl j (List.mem_range.mpr hj)).1 h5 k (List.mem_range.mpr hk)
    exact inVM.mpr ⟨_, b, a⟩
  · obtain ⟨j, hj, rfl⟩ := inVM.mp hq
    exact (geo2_VMl j (List.mem_range.mpr hj)).2
theorem vcM_inv {k : Nat} : offM (vcM k).1 (vcM k).2 = k := by
  show 71 + k - 71 = k
  omega
theorem nd_map {f : Nat → Nat × Nat} {g : Nat → Nat → Nat} {n : Nat} (h : ∀ k, k < n → g (f k).1 (f k).2 = k) : ((List.range n).map f).Nodup := by
  refine List.pairwise_map.mpr (List.Pairwise.imp_of_mem (fun {a b} ha hb hab e => hab ?_) List.nodup_range)
  have h1 := h a (List.mem_range.mp ha)
  have h2 := h b (List.mem_range.mp hb)
  rw [e] at h1
  exact h1.symm.trans h2
theorem nd_VC : VCl.Nodup := by
  unfold VCl
  exact nd_map (g := offC) (fun k hk => vcC_inv hk)
theorem nd_VM : VMl.Nodup := by
  unfold VMl
  exact nd_map (g := offM) (fun k _ => vcM_inv)
theorem geo_w {D : va_G} {ad : Nat → Nat → Nat} {cA : Nat → ClassId} {V : List (Nat × Nat)} {A : Nat → Prop} (h1 : V.Nodup) (h2 : ∀ q ∈ V, ∀ q' ∈ V, ad q.1 q.2 = ad q'.1 q'.2 → q = q') (h3 : ∀ q ∈ V, A (ad q.1 q.2)) (h4 : geoV V) : mGeo (mw0 (D, ad, cA, V, A)) lw_kept := ⟨h1, h2, h3, h4.1, h4.2.1, h4.2.2.1, h4.2.2.2⟩
theorem in_w {D : va_G} {ad : Nat → Nat → Nat} {cA : Nat → ClassId} {V : List (Nat × Nat)} {A : Nat → Prop} {q : Nat × Nat} (h : q ∈ wV (mw0 (D, ad, cA, V, A))) : q ∈ V := h
theorem of_w {D : va_G} {ad : Nat → Nat → Nat} {cA : Nat → ClassId} {V : List (Nat × Nat)} {A : Nat → Prop} {q : Nat × Nat} (h : q ∈ V) : q ∈ wV (mw0 (D, ad, cA, V, A)) := h
theorem rep_w {D : va_G} {ad : Nat → Nat → Nat} {cA : Nat → ClassId} {V : List (Nat × Nat)} {A : Nat → Prop} {σ : mS} {H : Heap} (h : va_P D vwCl (V.map fun q => (ad q.1 q.2, mEn (mw0 (D, ad, cA, V, A)) σ q)) H) (hok : mOkS (mw0 (D, ad, cA, V, A)) σ) : mRep (mw0 (D, ad, cA, V, A)) σ H := ⟨h, hok⟩
theorem in_C {D : va_G} {cA : Nat → ClassId} {base : Nat} {q : Nat × Nat} (h : q ∈ wV (wC D cA base)) : q ∈ VCl := in_w (D := D) (ad := fun r i => base + offC r i) (cA := cA) (V := VCl) (A := fbA base) h
theorem of_C {D : va_G} {cA : Nat → ClassId} {base : Nat} {q : Nat × Nat} (h : q ∈ VCl) : q ∈ wV (wC D cA base) := of_w (D := D) (ad := fun r i => base + offC r i) (cA := cA) (V := VCl) (A := fbA base) h
theorem geoC (D : va_G) (cA : Nat → ClassId) (base : Nat) : mGeo (wC D cA base) lw_kept := geo_w (D := D) (ad := fun r i => base + offC r i) (cA := cA) (V := VCl) (A := fbA base) nd_VC (fun q hq q' hq' h => by
  obtain ⟨j, hj, rfl⟩ := inVC.mp hq
  obtain ⟨j', hj', rfl⟩ := inVC.mp hq'
  have h : base + offC (vcC j).1 (vcC j).2 = base + offC (vcC j').1 (vcC j').2 := h
  rw [vcC_inv hj, vcC_inv hj'] at h
  rw [show j = j' from by omega]) (fun q hq => by
  show base ≤ base + offC q.1 q.2
  omega) geo_VCl
def eM (D : va_G) (cA : Nat → ClassId) (base : Nat) : mEv := (D, (fun r i => base + offM r i), cA, VMl, fbA base)
abbrev wM (D : va_G) (cA : Nat → ClassId) (base : Nat) : mWd := mw0 (eM D cA base)
theorem geoM (D : va_G) (cA : Nat → ClassId) (base : Nat) : mGeo (wM D cA base) lw_kept := by
  refine ⟨nd_VM, fun q hq q' hq' h => ?_, fun q hq => ?_, geo_VMl.1, geo_VMl.2.1, geo_VMl.2.2.1, geo_VMl.2.2.2⟩
  · obtain ⟨j, hj, rfl⟩ := inVM.mp hq
    obtain ⟨j', hj', rfl⟩ := inVM.mp hq'
    have h : base + offM (vcM j).1 (vcM j).2 = base + offM (vcM j').1 (vcM j').2 := h
    rw [vcM_inv, vcM_inv] at h
    rw [show j = j' from by omega]
  · show base ≤ base + offM q.1 q.2
    omega
theorem rep_C {D : va_G} {cA : Nat → ClassId} {base : Nat} {σ : mS} {op : Nat × Nat → Option va_E} {H : Heap} (hF : FB (wC D cA base) vcC base σ op nC H) (hop : ∀ k, k < nC → op (vcC k) = none) (hok : mOkS (wC D cA base) σ) : mRep (wC D cA base) σ H := by
  refine rep_w (D := D) (ad := fun r i => base + offC r i) (cA := cA) (V := VCl) (A := fbA base) ?_ hok
  have e : (VCl.map fun q => ((fun r i => base + offC r i) q.1 q.2, mEn (wC D cA base) σ q)) = fbL (wC D cA base) vcC base σ op nC := by
    unfold VCl
    rw [List.map_map]
    unfold fbL
    apply List.map_congr_left
    intro k hk
    have hk := List.mem_range.mp hk
    show (base + offC (vcC k).1 (vcC k).2, mEn (wC D cA base) σ (vcC k)) = (base + k, fbE _ _ _ _)
    unfold fbE
    rw [vcC_inv hk, hop k hk]
  have h := hF.2
  rw [← e] at h
  exact h
theorem rep_M {D : va_G} {cA : Nat → ClassId} {base : Nat} {σ : mS} {op : Nat × Nat → Option va_E} {H : Heap} (hF : FB (wM D cA base) vcM base σ op nM H) (hop : ∀ k, k < nM → op (vcM k) = none) (hok : mOkS (wM D cA base) σ) : mRep (wM D cA base) σ H := by
  refine ⟨?_, hok⟩
  have e : ((wV (wM D cA base)).map fun q => (wad (wM D cA base) q.1 q.2, mEn (wM D cA base) σ q)) = fbL (wM D cA base) vcM base σ op nM := by
    show VMl.map _ = _
    unfold VMl
    rw [List.map_map]
    unfold fbL
    apply List.map_congr_left
    intro k hk
    have hk := List.mem_range.mp hk
    show (base + offM (vcM k).1 (vcM k).2, mEn (wM D cA base) σ (vcM k)) = (base + k, fbE _ _ _ _)
    unfold fbE
    rw [vcM_inv, hop k hk]
  rw [e]
  exact hF.2
theorem vc47 : ∀ k ∈ List.range nC, (vcC k).1 = 47 → (vcC k).2 ≤ 6 := by decide +kernel
theorem s1_rg {r i k : Nat} (h : r = 47 → i ≤ 6) : 0 ≤ s1 r i k ∧ s1 r i k < 1000 := by
  have hpe : pe k i ≤ 8 ∧ pD k ≤ 8 := by
    by_cases hk : k < 165
    · have h8 := pD_le hk
      refine ⟨?_, h8⟩
      unfold pD at h8
      unfold pe
      split
      · omega
      · split <;> omega
    · have := pe_big i (show 165 ≤ k by omega)
      omega
  unfold s1 s0
  cases e1 : Nat.beq r 39 with
  | true => show 0 ≤ (pe k i : Int) ∧ (pe k i : Int) < 1000; omega
  | false =>
    cases e2 : Nat.beq r 40 with
    | true => show 0 ≤ (pD k : Int) ∧ (pD k : Int) < 1000; omega
    | false =>
      cases e3 : Nat.beq r 47 with
      | false => show (0 : Int) ≤ 0 ∧ (0 : Int) < 1000; omega
      | true =>
        have hi := h (Nat.eq_of_beq_eq_true e3)
        have hg : ∀ i ∈ List.range 7, gwd i < 1000 ∧ gmo i < 1000 := by decide
        obtain ⟨g1, g2⟩ := hg i (List.mem_range.mpr (by omega))
        cases Nat.beq k 0 with
        | true => show 0 ≤ (i : Int) ∧ (i : Int) < 1000; omega
        | false =>
          cases Nat.beq k 1 with
          | true => show 0 ≤ (gwd i : Int) ∧ (gwd i : Int) < 1000; omega
          | false =>
            cases Nat.beq k 2 with
            | true => show 0 ≤ (gmo i : Int) ∧ (gmo i : Int) < 1000; omega
            | false => show (0 : Int) ≤ 0 ∧ (0 : Int) < 1000; omega
theorem ok_small {k : Nat} {z : Int} (h : 0 ≤ z ∧ z < 1000) (h3 : k = 3 → z = 0) : mOkK k z := by
  unfold mOkK
  split
  · exact mx_id (by omega) (by omega)
  · exact Or.inl (h3 rfl)
  · exact mw_id (by omega) (by omega)
theorem vc3 : ∀ k ∈ List.range nC, G0k (vcC k).1 = 3 → (vcC k).1 = 4 ∨ (vcC k).1 = 22 := by decide +kernel
theorem ok_s1 (D : va_G) (cA : Nat → ClassId) (base : Nat) : mOkS (wC D cA base) s1 := fun q hq k _ => by
  obtain ⟨j, hj, rfl⟩ := inVC.mp (in_C hq)
  refine ok_small (s1_rg (vc47 j (List.mem_range.mpr hj))) (fun h3 => ?_)
  rcases vc3 j (List.mem_range.mpr hj) h3 with h | h
  · rw [h]; rfl
  · rw [h]; rfl
