/-! the stores at the law's start bear the empty group, on both sides -/
def T0 : Nat → Option tn := fun _ => none
noncomputable def S0 : aSt := (T0, mkM T0, (mkl T0 4).length, fun _ _ => 0, [], 0, false, tid, [])
theorem RI_rg {σ σ' : mS} {S : aSt} (h : RI σ S) (hf : ∀ r, 71 ≤ r → r ≤ 98 → ∀ i k, σ' r i k = σ r i k) : RI σ' S := by
  have f71 := hf 71 (by decide) (by decide)
  have f72 := hf 72 (by decide) (by decide)
  have f73 := hf 73 (by decide) (by decide)
  have f74 := hf 74 (by decide) (by decide)
  have f75 := hf 75 (by decide) (by decide)
  have f76 := hf 76 (by decide) (by decide)
  have f77 := hf 77 (by decide) (by decide)
  have f78 := hf 78 (by decide) (by decide)
  have f79 := hf 79 (by decide) (by decide)
  have f81 := hf 81 (by decide) (by decide)
  have f83 := hf 83 (by decide) (by decide)
  have f84 := hf 84 (by decide) (by decide)
  have f93 := hf 93 (by decide) (by decide)
  have f94 := hf 94 (by decide) (by decide)
  have f95 := hf 95 (by decide) (by decide)
  have f96 := hf 96 (by decide) (by decide)
  have f97 := hf 97 (by decide) (by decide)
  obtain ⟨a, ⟨⟨b1, b2, b3⟩, b4, b5, b6⟩, ⟨c1, c2⟩, ⟨d1, d2⟩, e, ⟨⟨f1, f2⟩, f3⟩, ⟨g1, g2, g3, g4, g5⟩, ⟨i1, i2, ⟨i3, i4⟩, i5⟩⟩ := h
  refine ⟨fun i hi => ⟨?_, fun t ht => ⟨((a i hi).2 t ht).1, ?_⟩⟩, ⟨⟨?_, fun k hk => ?_, fun k h0 hk => ⟨?_, ?_⟩⟩, ?_, b5, fun t ht => ⟨?_, (b6 t ht).2⟩⟩, ⟨?_, fun k hk g hg => ?_⟩, ⟨?_, fun k hk => ?_⟩, fun p hp x hx => ?_, ⟨⟨?_, fun i hi => ?_⟩, fun i hi x hx => ?_⟩, ⟨?_, ?_, g3, g4, fun k hk => ⟨?_, ?_, fun j hj => ?_⟩⟩, ⟨?_, fun z => C3_ag (i2 z) (fun k => f96 _ k), ⟨?_, fun k hk => C3_ag (i4 k hk) (fun k => f97 _ k)⟩, i5⟩⟩
  · rw [f72]; exact (a i hi).1
  · rw [f73, f73, f73]; exact ((a i hi).2 t ht).2
  · rw [f71]; exact b1
  · unfold elR; rw [f74, f74, f74]; exact b2 k hk
  · rw [f75]; exact (b3 k h0 hk).1
  · rw [f76]; exact (b3 k h0 hk).2
  · rw [f71]; exact b4
  · rw [f77, f77, f77]; exact (b6 t ht).1
  · rw [f71]; exact c1
  · rw [f79]; exact c2 k hk g hg
  · rw [f71]; exact d1
  · rw [f78]; exact d2 k hk
  · rw [f81]; exact e p hp x hx
  · rw [f71]; exact f1
  · rw [f83]; exact f2 i hi
  · rw [f84]; exact f3 i hi x hx
  · rw [f71]; exact g1
  · rw [f71]; exact g2
  · rw [f93]; exact (g5 k hk).1
  · rw [f94]; exact (g5 k hk).2.1
  · rw [f95]; exact (g5 k hk).2.2 j hj
  · rw [f71]; exact i1
  · rw [f71]; exact i3
theorem CI_rg {σ σ' : mS} {S : aSt} (h : CI σ S) (hf : ∀ r, r ≤ 70 → ∀ i k, σ' r i k = σ r i k) : CI σ' S := CI_ag h (fun r hr i k => hf r ((by decide : ∀ r ∈ cRg, r ≤ 70) r hr) i k)
theorem ci0 {N : Nat} (hN : 1000 ≤ N) : ∃ σ, f_X11_makeGroup N s1 = some σ ∧ CI σ S0 := by
  have hT : TC s1 T0 := fun i hi => ⟨rfl, fun t ht => by cases ht⟩
  obtain ⟨σ, e1, e2, e3, e4, e5, e6⟩ := X11_makeGroup_eq hN hT
  have hw : ∀ d ∈ List.range 7, gwd d = wd d := by decide
  have c1 : CPw s1 := fun x hx => ⟨fun i hi => rfl, rfl⟩
  have c2 : CLy s1 := fun d hd => ⟨rfl, by rw [← hw d (List.mem_range.mpr (by omega))]; rfl, rfl⟩
  have c3 : CP s1 (fun _ _ => 0) := fun p hp x hx => rfl
  have c4 : CPt s1 [] 0 := ⟨rfl, rfl, by decide, by decide, fun k hk => absurd hk (Nat.not_lt_zero _)⟩
  have c5 : IMC s1 false tid [] := ⟨rfl, fun z => (by cases z), ⟨rfl, fun k hk => absurd hk (Nat.not_lt_zero _)⟩, by decide⟩
  exact ⟨σ, e1, TC_ag hT (ag_fr e5 (by decide)), e2, e3, CPw_ag c1 (ag_fr e5 (by decide)), CLy_ag c2 (ag_fr e5 (by decide)), ⟨fun i hi => (e5 49 0 i (by decide)).trans rfl, Or.inl e4⟩, CP_ag c3 (ag_fr e5 (by decide)), CPt_ag c4 (ag_fr e5 (by decide)), IMC_ag c5 (ag_fr e5 (by decide))⟩
theorem sN_0 {r i k : Nat} (h1 : r ≠ 71) (h2 : r ≠ 74) : sN r i k = 0 := by
  unfold sN
  rw [mup_r h2, mup_r h2, mup_r h2, mup_r h1]
  rfl
theorem sN_71 {k : Nat} (h : k ≠ 6) : sN 71 0 k = 0 := by
  unfold sN
  rw [mup_r (by decide), mup_r (by decide), mup_r (by decide), mup_k h]
  rfl
theorem sN_6 : sN 71 0 6 = 1 := by
  unfold sN
  rw [mup_r (by decide), mup_r (by decide), mup_r (by decide), mup_s]
theorem sN_e : elR sN 0 = tid := by
  unfold elR sN
  rw [mup_k (by decide), mup_k (by decide), mup_s, mup_k (by decide), mup_s, mup_s]
  decide
theorem ri0 {N : Nat} (hN : 1000 ≤ N) : ∃ σ, f_X12_finds N sN = some σ ∧ RI σ S0 := by
  have hb : bfs (mkM T0) (mkl T0 4).length = b0 := rfl
  have hB : RGr sN (mkM T0) (mkl T0 4).length := by
    refine ⟨⟨?_, fun k hk => ?_, fun k h0 hk => ?_⟩, (sN_71 (by decide)).trans rfl, by decide, fun t ht => absurd ht (Nat.not_lt_zero _)⟩
    · rw [hb]; exact sN_6
    · rw [hb] at hk ⊢
      have hk : k < 1 := hk
      have e : k = 0 := by omega
      subst e
      exact sN_e
    · rw [hb] at hk
      have hk : k < 1 := hk
      omega
  obtain ⟨s', e1, e2, e3, e4, e5, e6, e7⟩ := X12_finds_all hN hB
  have c1 : TR sN T0 := fun i hi => ⟨(sN_0 (by decide) (by decide)).trans rfl, fun t ht => by cases ht⟩
  have c2 : RPt sN [] 0 := ⟨(sN_71 (by decide)).trans rfl, (sN_71 (by decide)).trans rfl, by decide, by decide, fun k hk => absurd hk (Nat.not_lt_zero _)⟩
  have c3 : IMR sN false tid [] := ⟨(sN_71 (by decide)).trans rfl, fun z => (by cases z), ⟨(sN_71 (by decide)).trans rfl, fun k hk => absurd hk (Nat.not_lt_zero _)⟩, by decide⟩
  exact ⟨s', e1, TR_fq c1 e2 (by decide) (by decide), e4, e5, e6, fun p hp a ha => by
    rw [e3 _ (by omega), sN_0 (by decide) (by decide)]
    show (0 : Int) = if dg a ≤ 8 then 0 else 0
    split <;> rfl, e7, RPt_fq c2 e2 (by decide) ⟨by decide, by decide⟩, IMR_fq c3 e2 (by decide) (by decide) (by decide) (by decide)⟩
/-- both stores, and the script's ints -/
noncomputable def sB (σ1 σ2 : mS) (xs : Nat → Int32) : mS := fun r i k => bif Nat.ble r 70 then σ1 r i k else bif Nat.ble r 98 then σ2 r i k else (xs k).toInt
theorem sB_1 {σ1 σ2 : mS} {xs : Nat → Int32} {r : Nat} (h : r ≤ 70) (i k : Nat) : sB σ1 σ2 xs r i k = σ1 r i k := by
  unfold sB
  rw [Nat.ble_eq_true_of_le h]
  rfl
theorem ble_f {r n : Nat} (h : n < r) : Nat.ble r n = false := by
  cases e : Nat.ble r n with
  | false => rfl
  | true => exact absurd (Nat.le_of_ble_eq_true e) (by omega)
theorem sB_2 {σ1 σ2 : mS} {xs : Nat → Int32} {r : Nat} (h0 : 71 ≤ r) (h : r ≤ 98) (i k : Nat) : sB σ1 σ2 xs r i k = σ2 r i k := by
  unfold sB
  rw [ble_f (show 70 < r by omega), Nat.ble_eq_true_of_le h]
  rfl
theorem sB_3 {σ1 σ2 : mS} {xs : Nat → Int32} {r : Nat} (h : 99 ≤ r) (i k : Nat) : sB σ1 σ2 xs r i k = (xs k).toInt := by
  unfold sB
  rw [ble_f (show 70 < r by omega), ble_f (show 98 < r by omega)]
  rfl
theorem inv0 {σ1 σ2 : mS} (xs : Nat → Int32) (h1 : CI σ1 S0) (h2 : RI σ2 S0) : INV (sB σ1 σ2 xs) := ⟨S0, CI_rg h1 (fun r hr i k => sB_1 hr i k), RI_rg h2 (fun r h0 hr i k => sB_2 h0 hr i k), fun p hp x hx => ⟨by show (0 : Int) ≤ 0; omega, by show (0 : Int) < 32003; omega⟩⟩
