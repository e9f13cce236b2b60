/-! the reference's signs: all of them -/
theorem srt_ext : ∀ (l l' : List Nat), l.Pairwise (· < ·) → l'.Pairwise (· < ·) → (∀ x, x ∈ l ↔ x ∈ l') → l = l'
  | [], [], _, _, _ => rfl
  | [], b :: l', _, _, h => absurd ((h b).mpr (by simp)) (by simp)
  | a :: l, [], _, _, h => absurd ((h a).mp (by simp)) (by simp)
  | a :: l, b :: l', h1, h2, h => by
    obtain ⟨p1, p2⟩ := List.pairwise_cons.mp h1
    obtain ⟨q1, q2⟩ := List.pairwise_cons.mp h2
    have e : a = b := by
      rcases List.mem_cons.mp ((h a).mp (by simp)) with x | x
      · exact x
      · rcases List.mem_cons.mp ((h b).mpr (by simp)) with y | y
        · exact y.symm
        · have := p1 b y
          have := q1 a x
          omega
    subst e
    rw [srt_ext l l' p2 q2 (fun x => ?_)]
    constructor
    · intro hx
      rcases List.mem_cons.mp ((h x).mp (by simp [hx])) with y | y
      · have := p1 x hx
        omega
      · exact y
    · intro hx
      rcases List.mem_cons.mp ((h x).mpr (by simp [hx])) with y | y
      · have := q1 x hx
        omega
      · exact y
theorem sgs_mem {M : Nat → tn} {m k c : Nat} : c ∈ sgs M m k ↔ c < k ∧ vlb M m (bfs M m) (vC m c) = true := by
  unfold sgs
  rw [List.mem_filter, List.mem_range]
theorem sgs_srt (M : Nat → tn) (m k : Nat) : (sgs M m k).Pairwise (· < ·) := List.Pairwise.filter _ (List.pairwise_lt_range)
theorem RS_W {σ : mS} {M : Nat → tn} {m : Nat} {l : List Nat} (h : RS σ M m l) : RWs σ M m l := h.2
theorem X12_findSigns_eq {N : Nat} {M : Nat → tn} {m : Nat} {σ : mS} (hN : 100 ≤ N) (H : RGr σ M m) : ∃ σ', f_X12_findSigns N σ = some σ' ∧ fq [79] [11] σ σ' ∧ RS σ' M m (sgs M m (2 ^ m)) := by
  have h48 := RGr_48 H
  have hm4 := H.2.2.1
  have hM := RGr_M H
  have hsh := shl_bits m (List.mem_range.mpr (by omega))
  have h16 := pw16 m (List.mem_range.mpr (by omega))
  have hrv := rev_ok m (List.mem_range.mpr (by omega))
  obtain ⟨s1, e, h1, l, h2, h3, h4, h5⟩ := lp_0 (L := fun f k s => L_X12_findSigns_7 N f k s) (I := fun i s => fq [79] [11] σ s ∧ ∃ l : List Nat, RS s M m l ∧ l.Pairwise (· < ·) ∧ l.length ≤ i ∧ ∀ c, c ∈ l ↔ ∃ s', s' < i ∧ rev m s' = c ∧ vlb M m (bfs M m) (vC m c) = true)
    (P := fun s => fq [79] [11] σ s ∧ ∃ l : List Nat, RS s M m l ∧ l.Pairwise (· < ·) ∧ l.length ≤ 2 ^ m ∧ ∀ c, c ∈ l ↔ ∃ s', s' < 2 ^ m ∧ rev m s' = c ∧ vlb M m (bfs M m) (vC m c) = true) (2 ^ m) (fun f i s hi hI => by
      obtain ⟨h1, l, h2, h3, h4, h5⟩ := hI
      left
      have Hs := RGr_fq H h1 (by decide) (by decide)
      have hl : l.length < 16 := by omega
      have hlv : ∀ b, b ∈ l → SV M m b := fun b hb => by
        obtain ⟨s', q1, q2, q3⟩ := (h5 b).mp hb
        refine ⟨?_, q3⟩
        rw [← q2]
        exact (hrv s' (List.mem_range.mpr (by omega))).1
      obtain ⟨r1, r2, -⟩ := hrv i (List.mem_range.mpr hi)
      have hcl : rev m i ∉ l := fun hb => by
        obtain ⟨s', q1, q2, q3⟩ := (h5 _).mp hb
        have a := (hrv s' (List.mem_range.mpr (by omega))).2.1
        rw [q2, r2] at a
        omega
      obtain ⟨s2, a1, a2, a3, a4⟩ := X12_sgn_row hN Hs hi hl
      have H2 := RGr_fq Hs (fq_of a2 (by decide)) (by decide) (by decide)
      have hW2 : ∀ k, k < l.length → RW s2 M m k (l.getD k 0) := fun k hk g hg => by
        rw [a3 _ (by omega)]; exact h2.2 k hk g hg
      have hS2 : RS s2 M m l := ⟨by rw [a2 71 0 11 (by decide)]; exact h2.1, hW2⟩
      have b1 := X12_sgn_ok hN H2 hi hl a4
      have b2 := X12_new_eq (s := i) hN H2 hl hS2 a4 hlv (vlb M m (bfs M m) (vC m (rev m i))) (fun z => ⟨⟨r1, z⟩, hcl⟩)
      try dsimp only
      rw [L_X12_findSigns_7_s, Hs.2.1, hsh, if_neg (by omega), h2.1, mw48' hl, if_pos (by omega), tN, a1, Option.bind_some, b1, Option.bind_some]
      try dsimp only
      rw [b2, Option.bind_some, mw_s (by omega)]
      try dsimp only
      have fr2 : fq [79] [11] σ s2 := fq_trans h1 (fq_sub (fq_of a2 (by decide)) (fun r hr => hr) (fun k hk => absurd hk (by simp)))
      cases hv : vlb M m (bfs M m) (vC m (rev m i)) with
      | false =>
        rw [if_pos bi_f]
        refine ⟨_, rfl, fr2, l, hS2, h3, by omega, fun c => ?_⟩
        rw [h5 c]
        constructor
        · rintro ⟨s', q1, q2, q3⟩; exact ⟨s', by omega, q2, q3⟩
        · rintro ⟨s', q1, q2, q3⟩
          by_cases es : s' = i
          · subst es; rw [← q2, hv] at q3; cases q3
          · exact ⟨s', by omega, q2, q3⟩
      | true =>
        rw [if_neg (by decide)]
        have hR2 : RWs s2 M m (l ++ rev m i :: []) := by
          intro k hk
          by_cases ek : k < l.length
          · rw [getD_app_l ek]; exact hW2 k ek
          · have : k = l.length + 0 := by simp at hk; omega
            subst this
            rw [getD_app_r]
            exact a4
        obtain ⟨A1, A2, s3, p1, p2, p3, p4, p5, p6⟩ := X12_place_lp hN ⟨r1, hv⟩ N l [] s2 (by omega) (by simpa using hl) H2 hR2 (fun b hb => ⟨hlv b hb, fun z => hcl (z ▸ hb)⟩) h3
        unfold f_X12_place
        rw [hS2.1, p2, Option.bind_some, Option.bind_some, p3 71 0 11 (by decide), hS2.1, mw_s (by omega)]
        rw [List.append_nil] at p4
        refine ⟨_, rfl, fq_mupk (fq_trans fr2 (fq_sub (fq_of p3 (by decide)) (fun r hr => hr) (fun k hk => absurd hk (by simp)))) (by decide), A1 ++ rev m i :: A2, ⟨?_, fun k hk g hg => ?_⟩, ?_, ?_, fun c => ?_⟩
        · rw [mup_s, p1]; simp; omega
        · rw [mup_r (by decide)]; exact p4 k hk g hg
        · rw [p1] at h3
          obtain ⟨x1, x2, x3⟩ := List.pairwise_append.mp h3
          refine List.pairwise_append.mpr ⟨x1, List.pairwise_cons.mpr ⟨fun b hb => p6 b hb, x2⟩, fun a ha b hb => ?_⟩
          rcases List.mem_cons.mp hb with y | y
          · rw [y]; exact p5 a ha
          · exact x3 a ha b y
        · rw [p1] at h4; simp at h4 ⊢; omega
        · have hl2 : c ∈ A1 ++ rev m i :: A2 ↔ c = rev m i ∨ c ∈ l := by
            rw [p1]; simp only [List.mem_append, List.mem_cons]
            constructor
            · rintro (x | x | x)
              · exact Or.inr (Or.inl x)
              · exact Or.inl x
              · exact Or.inr (Or.inr x)
            · rintro (x | x | x)
              · exact Or.inr (Or.inl x)
              · exact Or.inl x
              · exact Or.inr (Or.inr x)
          rw [hl2, h5 c]
          constructor
          · rintro (x | ⟨s', q1, q2, q3⟩)
            · exact ⟨i, by omega, x.symm, by rw [x]; exact hv⟩
            · exact ⟨s', by omega, q2, q3⟩
          · rintro ⟨s', q1, q2, q3⟩
            by_cases es : s' = i
            · subst es; exact Or.inl q2.symm
            · exact Or.inr ⟨s', by omega, q2, q3⟩) (fun f s hI => by
      have Hs := RGr_fq H hI.1 (by decide) (by decide)
      refine ⟨s, ?_, hI⟩
      try dsimp only
      rw [L_X12_findSigns_7_s, Hs.2.1, hsh, if_pos (by omega)]) (f := N) (s := mup σ 71 0 11 0) (by omega) ⟨fq_mupk fq_rfl (by decide), [], ⟨mup_s _ _ _ _ _, fun k hk => absurd hk (Nat.not_lt_zero _)⟩, List.Pairwise.nil, Nat.le_refl _, fun c => ⟨fun h => absurd h (by simp), fun h => by obtain ⟨s', q, -⟩ := h; omega⟩⟩
  have hle : l = sgs M m (2 ^ m) := by
    refine srt_ext l _ h3 (sgs_srt M m _) (fun c => ?_)
    rw [h5 c, sgs_mem]
    constructor
    · rintro ⟨s', q1, q2, q3⟩
      refine ⟨?_, q3⟩
      rw [← q2]
      exact (hrv s' (List.mem_range.mpr q1)).1
    · rintro ⟨q1, q2⟩
      obtain ⟨r1, r2, -⟩ := hrv c (List.mem_range.mpr q1)
      exact ⟨rev m c, r1, r2, q2⟩
  subst hle
  refine ⟨s1, ?_, h1, h2⟩
  unfold f_X12_findSigns
  try dsimp only at e
  rw [e]
  rfl
