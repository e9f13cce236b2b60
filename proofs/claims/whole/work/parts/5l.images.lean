/-! PLACES and their IMAGES -/
def ldv (t pl : tn) (i : Nat) : Int := if 0 ≤ tcd t i then tcd pl i else mw (-(tcd pl i))
def ldc (t pl : tn) (j : Nat) : Int := if lto t 0 = j then ldv t pl 0 else if lto t 1 = j then ldv t pl 1 else ldv t pl 2
def ldt (t pl : tn) : tn := (ldc t pl 0, ldc t pl 1, ldc t pl 2)
theorem ldc_lto {t : tn} (ht : tok t) (pl : tn) {i : Nat} (hi : i < 3) : ldc t pl (lto t i) = ldv t pl i := by
  unfold ldc
  have : i = 0 ∨ i = 1 ∨ i = 2 := by omega
  rcases this with rfl | rfl | rfl
  · rw [if_pos rfl]
  · rw [if_neg (lto_ne ht (by decide) (by decide) (by decide)), if_pos rfl]
  · rw [if_neg (lto_ne ht (by decide) (by decide) (by decide)), if_neg (lto_ne ht (by decide) (by decide) (by decide))]
/-- three cells bear a place -/
def C3 (σ : mS) (r i b : Nat) (p : tn) : Prop := σ r i b = p.1 ∧ σ r i (b + 1) = p.2.1 ∧ σ r i (b + 2) = p.2.2
theorem C3_at {σ : mS} {r i b : Nat} {p : tn} (h : C3 σ r i b p) {j : Nat} (hj : j < 3) : σ r i (b + j) = tcd p j := by
  have : j = 0 ∨ j = 1 ∨ j = 2 := by omega
  rcases this with rfl | rfl | rfl
  · exact h.1
  · exact h.2.1
  · exact h.2.2
theorem C3_of {σ : mS} {r i b : Nat} {p : tn} (h : ∀ j, j < 3 → σ r i (b + j) = tcd p j) : C3 σ r i b p := ⟨h 0 (by decide), h 1 (by decide), h 2 (by decide)⟩
theorem tcd_ldt (t pl : tn) {j : Nat} (hj : j < 3) : tcd (ldt t pl) j = ldc t pl j := by
  have : j = 0 ∨ j = 1 ∨ j = 2 := by omega
  rcases this with rfl | rfl | rfl <;> rfl
theorem X2_lead_eq {N y : Nat} {t pl : tn} {σ : mS} (hN : 100 ≤ N) (ht : tok t) (he : elC σ y = t) (hp : C3 σ 67 0 0 pl) : ∃ σ', f_X2_lead_r7 N y σ = some σ' ∧ fr [70] σ σ' ∧ C3 σ' 70 0 0 (ldt t pl) := by
  obtain ⟨s, e, h1, h2⟩ := lp_0 (L := fun f i s => L_X2_lead_r7_2 N f y i s) (I := fun i s => fr [70] σ s ∧ ∀ i', i' < i → s 70 0 (lto t i') = ldv t pl i') (P := fun s => fr [70] σ s ∧ ∀ i', i' < 3 → s 70 0 (lto t i') = ldv t pl i') 3 (fun f i s hi hI => by
      obtain ⟨h1, h2⟩ := hI
      left
      have hel : elC s y = t := by
        rw [← he]; unfold elC
        rw [h1 7 _ _ (by decide), h1 7 _ _ (by decide), h1 7 _ _ (by decide)]
      have hc := tcd_ok ht i
      have hl := lto_lt ht i
      have hpl : s 67 0 i = tcd pl i := by
        rw [h1 67 _ _ (by decide)]
        have := C3_at hp hi
        rw [Nat.zero_add] at this
        exact this
      have st : ∀ z, z = ldv t pl i → ∀ i', i' < i + 1 → mup s 70 0 (lto t i) z 70 0 (lto t i') = ldv t pl i' := fun z hz i' hi' => by
        by_cases e : i' = i
        · subst e; rw [mup_s, hz]
        · rw [mup_k (lto_ne ht (by omega) hi e)]; exact h2 i' (by omega)
      try dsimp only
      rw [L_X2_lead_r7_2_s, if_neg (by omega), if_pos (by omega), tN, RG_c3 hel hi, X11_ixc hc, Option.bind_some]
      try dsimp only
      rw [if_pos (by omega), show ((((tcd t i).natAbs - 1 : Nat)) : Int) = ((lto t i : Nat) : Int) from rfl, tN, mw_s (by omega), hpl]
      by_cases q : 0 ≤ tcd t i
      · rw [if_pos (by rw [RG_c3 hel hi]; exact q), if_pos (by omega)]
        exact ⟨_, rfl, fr_mup h1 (by decide), st _ (by unfold ldv; rw [if_pos q])⟩
      · rw [if_neg (by rw [RG_c3 hel hi]; exact q), if_pos (by omega), if_pos (by omega)]
        exact ⟨_, rfl, fr_mup h1 (by decide), st _ (by unfold ldv; rw [if_neg q])⟩) (fun f s hI => by
      refine ⟨s, ?_, hI⟩
      try dsimp only
      rw [L_X2_lead_r7_2_s, if_pos (by omega)]) (f := N) (s := σ) (by omega) ⟨fr_rfl, fun i' h => absurd h (Nat.not_lt_zero _)⟩
  refine ⟨s, ?_, h1, C3_of (fun j hj => ?_)⟩
  · unfold f_X2_lead_r7
    try dsimp only at e
    rw [e]
    rfl
  · obtain ⟨i, hi, ei⟩ := lto_all ht hj
    rw [Nat.zero_add, tcd_ldt t pl hj, ← ei, h2 i hi, ldc_lto ht pl hi]
theorem X12_lead_eq {N g n : Nat} {E : Nat → tn} {pl : tn} {σ : mS} (hN : 100 ≤ N) (H : RG σ E n) (hg : g < n) (hp : C3 σ 96 0 0 pl) : ∃ σ', f_X12_leads0 N (g : Int) σ = some σ' ∧ fr [98] σ σ' ∧ C3 σ' 98 0 0 (ldt (E g) pl) := by
  have h48 := RG_48 H
  have ht := H.2.2.2.2.1 g hg
  obtain ⟨s, e, h1, h2⟩ := lp_0 (L := fun f i s => L_X12_leads0_2 N f (g : Int) i s) (I := fun i s => fr [98] σ s ∧ ∀ i', i' < i → s 98 0 (lto (E g) i') = ldv (E g) pl i') (P := fun s => fr [98] σ s ∧ ∀ i', i' < 3 → s 98 0 (lto (E g) i') = ldv (E g) pl i') 3 (fun f i s hi hI => by
      obtain ⟨h1, h2⟩ := hI
      left
      have Hs := RG_fr H h1 (by decide) (by decide)
      have hc := tcd_ok ht i
      have hl := lto_lt ht i
      have hpl : s 96 0 i = tcd pl i := by
        rw [h1 96 _ _ (by decide)]
        have := C3_at hp hi
        rw [Nat.zero_add] at this
        exact this
      have st : ∀ z, z = ldv (E g) pl i → ∀ i', i' < i + 1 → mup s 98 0 (lto (E g) i) z 98 0 (lto (E g) i') = ldv (E g) pl i' := fun z hz i' hi' => by
        by_cases e : i' = i
        · subst e; rw [mup_s, hz]
        · rw [mup_k (lto_ne ht (by omega) hi e)]; exact h2 i' (by omega)
      have x1 : mw (((tcd (E g) i).natAbs : Int) - 1) = ((lto (E g) i : Nat) : Int) := by
        unfold lto
        rcases hc with e | e | e | e | e | e <;> rw [e] <;> decide
      try dsimp only
      rw [L_X12_leads0_2_s, if_neg (by omega), RG_ix h48 hg hi, if_pos (by omega), tN, RG_cd Hs hg hi, X12_size_eq hc, Option.bind_some]
      try dsimp only
      rw [x1, tN, tN, mw_s (by omega), hpl]
      by_cases q : 0 ≤ tcd (E g) i
      · rw [if_pos q, if_pos (by omega)]
        exact ⟨_, rfl, fr_mup h1 (by decide), st _ (by unfold ldv; rw [if_pos q])⟩
      · rw [if_neg q, if_pos (by omega), if_pos (by omega)]
        exact ⟨_, rfl, fr_mup h1 (by decide), st _ (by unfold ldv; rw [if_neg q])⟩) (fun f s hI => by
      refine ⟨s, ?_, hI⟩
      try dsimp only
      rw [L_X12_leads0_2_s, if_pos (by omega)]) (f := N) (s := σ) (by omega) ⟨fr_rfl, fun i' h => absurd h (Nat.not_lt_zero _)⟩
  refine ⟨s, ?_, h1, C3_of (fun j hj => ?_)⟩
  · unfold f_X12_leads0
    try dsimp only at e
    rw [e]
    rfl
  · obtain ⟨i, hi, ei⟩ := lto_all ht hj
    rw [Nat.zero_add, tcd_ldt _ pl hj, ← ei, h2 i hi, ldc_lto ht pl hi]
/-- the images, as they are told -/
def iml (E : Nat → tn) (pl : tn) : Nat → List tn
  | 0 => []
  | g + 1 => if fnd (fun k => (iml E pl g).getD k tid) (ldt (E g) pl) (iml E pl g).length 0 = -1 then iml E pl g ++ [ldt (E g) pl] else iml E pl g
theorem iml_s (E : Nat → tn) (pl : tn) (g : Nat) : iml E pl (g + 1) = if fnd (fun k => (iml E pl g).getD k tid) (ldt (E g) pl) (iml E pl g).length 0 = -1 then iml E pl g ++ [ldt (E g) pl] else iml E pl g := rfl
theorem iml_le (E : Nat → tn) (pl : tn) : ∀ g, (iml E pl g).length ≤ g
  | 0 => Nat.le_refl _
  | g + 1 => by
    rw [iml_s]
    have := iml_le E pl g
    split
    · simp; omega
    · omega
def ICl (σ : mS) (l : List tn) : Prop := σ 66 0 0 = (l.length : Int) ∧ ∀ k, k < l.length → C3 σ 69 k 0 (l.getD k tid)
theorem isLed_eq {N : Nat} {a b : tn} {σ : mS} (h : C3 σ 70 0 0 a) : f_X2_isLedTo N b.1 b.2.1 b.2.2 σ = some (bi (decide (a = b)), σ) := by
  unfold f_X2_isLedTo
  obtain ⟨h0, h1, h2⟩ := h
  rw [h0, h1, h2]
  obtain ⟨a0, a1, a2⟩ := a
  obtain ⟨b0, b1, b2⟩ := b
  try dsimp only
  by_cases q0 : a0 = b0
  · by_cases q1 : a1 = b1
    · by_cases q2 : a2 = b2
      · rw [if_pos q0, if_pos q1, if_pos q2, decide_eq_true (by rw [q0, q1, q2])]; rfl
      · rw [if_pos q0, if_pos q1, if_neg q2, decide_eq_false (fun z => q2 (congrArg (fun x : tn => x.2.2) z))]; rfl
    · rw [if_pos q0, if_neg q1, decide_eq_false (fun z => q1 (congrArg (fun x : tn => x.2.1) z))]; rfl
  · rw [if_neg q0, decide_eq_false (fun z => q0 (congrArg (fun x : tn => x.1) z))]; rfl
theorem X2_known_eq {N : Nat} {a : tn} {l : List tn} {σ : mS} (hN : 100 ≤ N) (hl : l.length ≤ 48) (h : C3 σ 70 0 0 a) (hI : ICl σ l) : f_X2_isLedKnown N σ = some (bi (decide (fnd (fun k => l.getD k tid) a l.length 0 ≠ -1)), σ) := by
  obtain ⟨o, e, hP⟩ := lp_0 (S := mS) (L := fun f k s => L_X2_isLedKnown_2 N f k s) (I := fun k s => s = σ ∧ ∀ k', k' < k → l.getD k' tid ≠ a) (P := fun o => (o = .inr σ ∧ fnd (fun k => l.getD k tid) a l.length 0 = -1) ∨ (o = .inl (1, σ) ∧ fnd (fun k => l.getD k tid) a l.length 0 ≠ -1)) l.length (fun f k s hk hJ => by
      obtain ⟨h1, h2⟩ := hJ
      subst h1
      have hr := hI.2 k hk
      try dsimp only
      rw [L_X2_isLedKnown_2_s, hI.1, if_neg (by omega), if_pos (by omega), tN, hr.1, hr.2.1, hr.2.2, isLed_eq h, Option.bind_some, mw_s (by omega)]
      try dsimp only
      by_cases q : a = l.getD k tid
      · rw [decide_eq_true q, if_neg (by decide)]
        refine Or.inr ⟨_, rfl, Or.inr ⟨rfl, fun z => ?_⟩⟩
        rcases fnd_cases (fun k => l.getD k tid) a l.length 0 with ⟨-, y⟩ | ⟨i, -, -, y, -⟩
        · exact y k (Nat.zero_le _) (by omega) q.symm
        · omega
      · rw [decide_eq_false q, if_pos bi_f]
        refine Or.inl ⟨_, rfl, rfl, fun k' hk' => ?_⟩
        by_cases ek : k' = k
        · subst ek; exact fun z => q z.symm
        · exact h2 k' (by omega)) (fun f s hJ => by
      obtain ⟨h1, h2⟩ := hJ
      subst h1
      try dsimp only
      rw [L_X2_isLedKnown_2_s, hI.1, if_pos (by omega)]
      exact ⟨_, rfl, Or.inl ⟨rfl, fnd_none _ 0 (fun i _ hi => h2 i (by omega))⟩⟩) (f := N) (s := σ) (by omega) ⟨rfl, fun k' h => absurd h (Nat.not_lt_zero _)⟩
  unfold f_X2_isLedKnown
  try dsimp only at e
  rw [e, Option.bind_some]
  rcases hP with ⟨rfl, q⟩ | ⟨rfl, q⟩
  · rw [decide_eq_false (fun z => z q)]; rfl
  · rw [decide_eq_true q]; rfl
/-- what the class keeps of a place and its images -/
def IMC (σ : mS) (a : Bool) (pl : tn) (l : List tn) : Prop := σ 66 0 1 = bi a ∧ (a = true → C3 σ 67 0 0 pl) ∧ ICl σ l ∧ l.length ≤ 48
theorem X2_find_eq {N n : Nat} {E : Nat → tn} {pl : tn} {σ : mS} (hN : 100 ≤ N) (hn : σ 5 0 0 = (n : Int)) (hG : GP E n) (hE : ∀ g, g < n → elC σ g = E g) : ∃ σ', f_X2_find N pl.1 pl.2.1 pl.2.2 σ = some σ' ∧ fr [66, 67, 69, 70] σ σ' ∧ IMC σ' true pl (iml E pl n) := by
  have h48 : n ≤ 48 := few48 hG.2.2.1 hG.2.2.2.1
  generalize hs0 : mup (mup (mup (mup (mup σ 67 0 0 pl.1) 67 0 1 pl.2.1) 67 0 2 pl.2.2) 66 0 1 1) 66 0 0 0 = s0
  have f0 : fr [66, 67, 69, 70] σ s0 := by
    subst hs0
    exact fr_mup (fr_mup (fr_mup (fr_mup (fr_mup fr_rfl (by decide)) (by decide)) (by decide)) (by decide)) (by decide)
  have p0 : C3 s0 67 0 0 pl := by subst hs0; refine ⟨?_, ?_, ?_⟩ <;> simp [mup_def]
  have a0 : s0 66 0 1 = 1 := by subst hs0; simp [mup_def]
  have c0 : s0 66 0 0 = 0 := by subst hs0; simp [mup_def]
  obtain ⟨s, e, h1, h2, h3, h4⟩ := lp_0 (L := fun f g s => L_X2_find_35 N f g s) (I := fun g s => fr [66, 67, 69, 70] σ s ∧ C3 s 67 0 0 pl ∧ s 66 0 1 = 1 ∧ ICl s (iml E pl g)) (P := fun s => fr [66, 67, 69, 70] σ s ∧ C3 s 67 0 0 pl ∧ s 66 0 1 = 1 ∧ ICl s (iml E pl n)) n (fun f g s hg hI => by
      obtain ⟨h1, h2, h3, h4⟩ := hI
      left
      have hle := iml_le E pl g
      have hel : elC s g = E g := by
        rw [← hE g hg]; unfold elC
        rw [h1 7 _ _ (by decide), h1 7 _ _ (by decide), h1 7 _ _ (by decide)]
      obtain ⟨s1, r1, r2, r3⟩ := X2_lead_eq (N := N) hN (hG.2.2.1 g hg) hel h2
      have I1 : ICl s1 (iml E pl g) := ⟨by rw [r2 66 _ _ (by decide)]; exact h4.1, fun k hk => by
        have := h4.2 k hk
        unfold C3 at this ⊢
        rw [r2 69 _ _ (by decide), r2 69 _ _ (by decide), r2 69 _ _ (by decide)]
        exact this⟩
      have p1 : C3 s1 67 0 0 pl := by
        unfold C3 at h2 ⊢
        rw [r2 67 _ _ (by decide), r2 67 _ _ (by decide), r2 67 _ _ (by decide)]
        exact h2
      have a1 : s1 66 0 1 = 1 := by rw [r2 66 _ _ (by decide)]; exact h3
      have f1 : fr [66, 67, 69, 70] σ s1 := fr_trans h1 (fr_sub r2 (fun r hr => by simp at hr ⊢; omega))
      try dsimp only
      rw [L_X2_find_35_s, h1 5 _ _ (by decide), hn, if_neg (by omega), if_pos (by omega), tN, r1, Option.bind_some, X2_known_eq hN (by omega) r3 I1, Option.bind_some]
      try dsimp only
      rw [I1.1, mw_s (by omega), mw_s (by omega), tN, iml_s]
      by_cases q : fnd (fun k => (iml E pl g).getD k tid) (ldt (E g) pl) (iml E pl g).length 0 = -1
      · rw [decide_eq_false (fun z => z q), if_pos bi_f, if_neg (by omega), if_pos (by omega), if_pos q]
        refine ⟨_, rfl, fr_mup (fr_mcp f1 (by decide)) (by decide), ?_, ?_, ?_⟩
        · unfold C3 at p1 ⊢
          rw [mup_r (by decide), mup_r (by decide), mup_r (by decide), mcp_r (Or.inl (by decide)), mcp_r (Or.inl (by decide)), mcp_r (Or.inl (by decide))]
          exact p1
        · rw [mup_k (by decide), mcp_r (Or.inl (by decide))]; exact a1
        · refine ⟨by rw [mup_s]; simp, fun k hk => ?_⟩
          unfold C3
          rw [mup_r (by decide), mup_r (by decide), mup_r (by decide)]
          by_cases ek : k < (iml E pl g).length
          · rw [List.getD_eq_getElem?_getD, List.getElem?_append_left ek, ← List.getD_eq_getElem?_getD, mcp_r (Or.inr (by omega)), mcp_r (Or.inr (by omega)), mcp_r (Or.inr (by omega))]
            exact I1.2 k ek
          · have : k = (iml E pl g).length := by simp at hk; omega
            subst this
            rw [List.getD_eq_getElem?_getD, List.getElem?_append_right (Nat.le_refl _), Nat.sub_self]
            have y0 := mcp_in (σ := s1) (r0 := 70) (i0 := 0) (r1 := 69) (i1 := (iml E pl g).length) (n := 3) (k := 0) (by decide)
            have y1 := mcp_in (σ := s1) (r0 := 70) (i0 := 0) (r1 := 69) (i1 := (iml E pl g).length) (n := 3) (k := 1) (by decide)
            have y2 := mcp_in (σ := s1) (r0 := 70) (i0 := 0) (r1 := 69) (i1 := (iml E pl g).length) (n := 3) (k := 2) (by decide)
            rw [show ((3 : Nat) : Int) = 3 from rfl] at y0 y1 y2
            exact ⟨y0.trans r3.1, y1.trans r3.2.1, y2.trans r3.2.2⟩
      · rw [decide_eq_true q, if_neg (by decide), if_neg q]
        exact ⟨s1, rfl, f1, p1, a1, I1⟩) (fun f s hI => by
      refine ⟨s, ?_, hI⟩
      try dsimp only
      rw [L_X2_find_35_s, hI.1 5 _ _ (by decide), hn, if_pos (by omega)]) (f := N) (s := s0) (by omega) ⟨f0, p0, a0, c0, fun k hk => absurd hk (Nat.not_lt_zero _)⟩
  refine ⟨s, ?_, h1, h3, fun _ => h2, h4, by have := iml_le E pl n; omega⟩
  unfold f_X2_find
  try dsimp only at e
  rw [hs0, e]
  rfl
theorem X2_leads_eq {N n : Nat} {E : Nat → tn} {a : Bool} {pl b : tn} {l : List tn} {σ : mS} (hN : 100 ≤ N) (hn : σ 5 0 0 = (n : Int)) (hG : GP E n) (hE : ∀ g, g < n → elC σ g = E g) (hI : IMC σ a pl l) : ∃ σ', f_X2_leastLeading N b.1 b.2.1 b.2.2 σ = some (if a = true then fnd (fun g => ldt (E g) pl) b n 0 else -1, σ') ∧ fr [70] σ σ' := by
  have h48 : n ≤ 48 := few48 hG.2.2.1 hG.2.2.2.1
  cases a with
  | false =>
    obtain ⟨K, hK⟩ : ∃ K, N = K + 1 := ⟨N - 1, by omega⟩
    refine ⟨σ, ?_, fr_rfl⟩
    unfold f_X2_leastLeading
    rw [show L_X2_leastLeading_3 N N b.1 b.2.1 b.2.2 0 σ = L_X2_leastLeading_3 N (K + 1) b.1 b.2.1 b.2.2 0 σ from by rw [← hK], L_X2_leastLeading_3_s, hI.1, if_pos bi_f]
    rfl
  | true =>
    obtain ⟨o, e, hP⟩ := lp_0 (S := mS) (L := fun f g s => L_X2_leastLeading_3 N f b.1 b.2.1 b.2.2 g s) (I := fun g s => fr [70] σ s ∧ ∀ g', g' < g → ldt (E g') pl ≠ b) (P := fun o => ∃ s', fr [70] σ s' ∧ ((o = .inr s' ∧ fnd (fun g => ldt (E g) pl) b n 0 = -1) ∨ (o = .inl (fnd (fun g => ldt (E g) pl) b n 0, s')))) n (fun f g s hg hJ => by
        obtain ⟨h1, h2⟩ := hJ
        have hel : elC s g = E g := by
          rw [← hE g hg]; unfold elC
          rw [h1 7 _ _ (by decide), h1 7 _ _ (by decide), h1 7 _ _ (by decide)]
        obtain ⟨s1, r1, r2, r3⟩ := X2_lead_eq (N := N) (pl := pl) hN (hG.2.2.1 g hg) hel (by
          have := hI.2.1 rfl
          unfold C3 at this ⊢
          rw [h1 67 _ _ (by decide), h1 67 _ _ (by decide), h1 67 _ _ (by decide)]
          exact this)
        try dsimp only
        rw [L_X2_leastLeading_3_s, h1 66 _ _ (by decide), hI.1, if_neg (by decide), h1 5 _ _ (by decide), hn, if_neg (by omega), if_pos (by omega), tN, r1, Option.bind_some, isLed_eq r3, Option.bind_some, mw_s (by omega)]
        try dsimp only
        by_cases q : ldt (E g) pl = b
        · rw [decide_eq_true q, if_neg (by decide)]
          refine Or.inr ⟨_, rfl, s1, fr_trans h1 r2, Or.inr ?_⟩
          rw [fnd_some n 0 g (Nat.zero_le _) (by omega) q (fun i _ hi => h2 i hi)]
        · rw [decide_eq_false q, if_pos bi_f]
          refine Or.inl ⟨s1, rfl, fr_trans h1 r2, fun g' hg' => ?_⟩
          by_cases eg : g' = g
          · subst eg; exact q
          · exact h2 g' (by omega)) (fun f s hJ => by
        obtain ⟨h1, h2⟩ := hJ
        try dsimp only
        rw [L_X2_leastLeading_3_s, h1 66 _ _ (by decide), hI.1, if_neg (by decide), h1 5 _ _ (by decide), hn, if_pos (by omega)]
        exact ⟨_, rfl, s, h1, Or.inl ⟨rfl, fnd_none n 0 (fun i _ hi => h2 i (by omega))⟩⟩) (f := N) (s := σ) (by omega) ⟨fr_rfl, fun g' h => absurd h (Nat.not_lt_zero _)⟩
    obtain ⟨s', f1, hP⟩ := hP
    refine ⟨s', ?_, f1⟩
    unfold f_X2_leastLeading
    try dsimp only at e
    rw [e, Option.bind_some, if_pos rfl]
    rcases hP with ⟨rfl, q⟩ | rfl
    · rw [q]
    · rfl
