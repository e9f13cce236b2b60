/-! the class's powers: numbers and turned codes -/
def CPw (σ : mS) : Prop := ∀ x, x < 165 → (∀ i, i < 3 → σ 39 i x = (pe x i : Int)) ∧ σ 40 0 x = (pD x : Int)
theorem CPw_ag {σ σ' : mS} (h : CPw σ) (hf : ag [39, 40] σ σ') : CPw σ' := fun x hx => ⟨fun i hi => by rw [hf 39 (by decide)]; exact (h x hx).1 i hi, by rw [hf 40 (by decide)]; exact (h x hx).2⟩
theorem X7_indexOf_eq {N i j k : Nat} {σ : mS} (h : i + j + k ≤ 8) : f_X7_indexOf N (i : Int) (j : Int) (k : Int) σ = some ((ixn i j k : Int), σ) := by
  unfold f_X7_indexOf
  have hd : i + (j + k) ≤ 8 := by omega
  generalize hr : j + k = r at hd
  have e1 : mw ((j : Int) + (k : Int)) = (r : Int) := by rw [mw_id (by omega) (by omega)]; omega
  rw [e1]
  generalize hdd : i + r = d at hd
  have e2 : mw ((i : Int) + (r : Int)) = (d : Int) := by rw [mw_id (by omega) (by omega)]; omega
  rw [e2]
  have hr8 : r ≤ 8 := by omega
  have hk8 : k ≤ 8 := by omega
  have fd : ∀ d ∈ List.range 9, o_div (mw (mw ((d : Nat) * mw ((d : Nat) + 1)) * mw ((d : Nat) + 2))) 6 = ((d * (d + 1) * (d + 2) / 6 : Nat) : Int) := by decide +kernel
  have fr : ∀ d ∈ List.range 9, o_div (mw ((d : Nat) * mw ((d : Nat) + 1))) 2 = ((d * (d + 1) / 2 : Nat) : Int) := by decide +kernel
  have b1 : ∀ d ∈ List.range 9, d * (d + 1) * (d + 2) / 6 ≤ 1000 ∧ d * (d + 1) / 2 ≤ 1000 := by decide +kernel
  rw [fd d (List.mem_range.mpr (by omega)), fr r (List.mem_range.mpr (by omega))]
  have c1 := (b1 d (List.mem_range.mpr (by omega))).1
  have c2 := (b1 r (List.mem_range.mpr (by omega))).2
  unfold ixn
  rw [hr, hdd]
  generalize d * (d + 1) * (d + 2) / 6 = u at c1
  generalize r * (r + 1) / 2 = v at c2
  rw [mw_id (z := (u : Int) + (v : Int)) (by omega) (by omega), mw_id (by omega) (by omega)]
  rfl
theorem X7_firstOf_eq {N d : Nat} {σ : mS} (h : d ≤ 9) : f_X7_firstOf N (d : Int) σ = some (((d * (d + 1) * (d + 2) / 6 : Nat) : Int), σ) := by
  unfold f_X7_firstOf
  have fd : ∀ d ∈ List.range 10, o_div (mw (mw ((d : Nat) * mw ((d : Nat) + 1)) * mw ((d : Nat) + 2))) 6 = ((d * (d + 1) * (d + 2) / 6 : Nat) : Int) := by decide +kernel
  rw [fd d (List.mem_range.mpr (by omega))]
theorem X7_product_eq {N x y : Nat} {σ : mS} (H : CPw σ) (hx : x < 165) (hy : y < 165) (h : pD x + pD y ≤ 8) : f_X7_indexOfProduct N (x : Int) (y : Int) σ = some ((ixn (pI x + pI y) (pJ x + pJ y) (pK x + pK y) : Int), σ) := by
  unfold f_X7_indexOfProduct
  unfold pD at h
  rw [if_pos (by omega), tN, tN, (H x hx).1 0 (by decide), (H y hy).1 0 (by decide), (H x hx).1 1 (by decide), (H y hy).1 1 (by decide), (H x hx).1 2 (by decide), (H y hy).1 2 (by decide)]
  have e0 : ∀ z, pe z 0 = pI z := fun _ => rfl
  have e1 : ∀ z, pe z 1 = pJ z := fun _ => rfl
  have e2 : ∀ z, pe z 2 = pK z := fun _ => rfl
  rw [e0, e0, e1, e1, e2, e2]
  rw [show mw ((pI x : Int) + (pI y : Int)) = ((pI x + pI y : Nat) : Int) from (by rw [mw_id (by omega) (by omega)]; omega), show mw ((pJ x : Int) + (pJ y : Int)) = ((pJ x + pJ y : Nat) : Int) from (by rw [mw_id (by omega) (by omega)]; omega), show mw ((pK x : Int) + (pK y : Int)) = ((pK x + pK y : Nat) : Int) from (by rw [mw_id (by omega) (by omega)]; omega), X7_indexOf_eq (by omega)]
  rfl
/-- the signs of the first letters -/
def tsP (t : tn) (x : Nat) : Nat → Int
  | 0 => 1
  | i + 1 => tsP t x i * ts1 t x i
theorem tsP_pm (t : tn) (x : Nat) : ∀ i, tsP t x i = 1 ∨ tsP t x i = -1
  | 0 => Or.inl rfl
  | i + 1 => by
    show tsP t x i * ts1 t x i = 1 ∨ tsP t x i * ts1 t x i = -1
    rcases tsP_pm t x i with a | a <;> rcases ts1_pm t x i with b | b <;> rw [a, b] <;> decide
theorem tsP_3 (t : tn) (x : Nat) : tsP t x 3 = tS t x := by
  show 1 * ts1 t x 0 * ts1 t x 1 * ts1 t x 2 = ts1 t x 0 * ts1 t x 1 * ts1 t x 2
  rw [Int.one_mul]
theorem lto_ne {t : tn} (ht : tok t) {i j : Nat} (hi : i < 3) (hj : j < 3) (h : i ≠ j) : lto t i ≠ lto t j := by
  have hn : lto t 0 ≠ lto t 1 ∧ lto t 0 ≠ lto t 2 ∧ lto t 1 ≠ lto t 2 := by
    have : ∀ t ∈ allT, lto t 0 ≠ lto t 1 ∧ lto t 0 ≠ lto t 2 ∧ lto t 1 ≠ lto t 2 := by decide +kernel
    exact this t (tok_mem.mp ht)
  have a : i = 0 ∨ i = 1 ∨ i = 2 := by omega
  have b : j = 0 ∨ j = 1 ∨ j = 2 := by omega
  rcases a with rfl | rfl | rfl <;> rcases b with rfl | rfl | rfl <;> omega
theorem pe_le {x : Nat} (h : x < 165) (i : Nat) : pe x i ≤ 8 := by
  have := pD_le h
  unfold pD at this
  unfold pe
  split
  · omega
  · split <;> omega
theorem X7_turned_eq {N x y : Nat} {t : tn} {σ : mS} (hN : 100 ≤ N) (H : CPw σ) (hx : x < 165) (ht : tok t) (he : elC σ y = t) : ∃ σ', f_X7_turnedCode_r7 N y (x : Int) σ = some (tS t x * ((tX t x + 1 : Nat) : Int), σ') ∧ fr [41] σ σ' := by
  obtain ⟨⟨a, s⟩, e, h1, h2, h3⟩ := lp2_0 (L := fun f i a s => L_X7_turnedCode_r7_5 N f y (x : Int) a i s) (I := fun i a s => a = tsP t x i ∧ fr [41] σ s ∧ ∀ i', i' < i → s 41 0 (lto t i') = (pe x i' : Int))
    (P := fun o => o.1 = tsP t x 3 ∧ fr [41] σ o.2 ∧ ∀ i', i' < 3 → o.2 41 0 (lto t i') = (pe x i' : Int)) 3 (fun f i a s hi hI => by
      obtain ⟨h1, h2, h3⟩ := hI
      subst h1
      left
      have hel : elC s y = t := by
        rw [← he]; unfold elC
        rw [h2 7 _ _ (by decide), h2 7 _ _ (by decide), h2 7 _ _ (by decide)]
      have hc := tcd_ok ht i
      have hl := lto_lt ht i
      have hpe := pe_le hx i
      have hp : s 39 i x = (pe x i : Int) := by rw [h2 39 _ _ (by decide)]; exact (H x hx).1 i hi
      have hpm := tsP_pm t x i
      have hneg : mw (-tsP t x i) = -tsP t x i := by rcases hpm with e | e <;> rw [e] <;> decide
      have st : ∀ i', i' < i + 1 → mup s 41 0 (lto t i) (pe x i : Int) 41 0 (lto t i') = (pe x i' : Int) := fun i' hi' => by
        by_cases e : i' = i
        · subst e; rw [mup_s]
        · rw [mup_k (lto_ne ht (by omega) hi e)]; exact h3 i' (by omega)
      try dsimp only
      rw [L_X7_turnedCode_r7_5_s, if_neg (by omega), if_pos (by omega), tN, tN, RG_c3 hel hi, X11_ixc hc, Option.bind_some, hp]
      try dsimp only
      rw [RG_c3 hel hi, show ((((tcd t i).natAbs - 1 : Nat)) : Int) = ((lto t i : Nat) : Int) from rfl, if_pos (by omega), tN, mw_s (by omega), hneg]
      by_cases q : 0 ≤ tcd t i
      · rw [if_pos q]
        refine ⟨_, _, rfl, ?_, fr_mup h2 (by decide), st⟩
        show tsP t x i = tsP t x i * ts1 t x i
        unfold ts1
        rw [if_neg (by omega), Int.mul_one]
      · rw [if_neg q]
        by_cases q2 : pe x i % 2 = 1
        · rw [if_pos ((and_one (by omega)).mpr q2)]
          refine ⟨_, _, rfl, ?_, fr_mup h2 (by decide), st⟩
          show -tsP t x i = tsP t x i * ts1 t x i
          unfold ts1
          rw [if_pos (by omega)]
          omega
        · rw [if_neg (fun z => q2 ((and_one (by omega)).mp z))]
          refine ⟨_, _, rfl, ?_, fr_mup h2 (by decide), st⟩
          show tsP t x i = tsP t x i * ts1 t x i
          unfold ts1
          rw [if_neg (by omega), Int.mul_one]) (fun f a s hI => by
      refine ⟨(a, s), ?_, hI⟩
      try dsimp only
      rw [L_X7_turnedCode_r7_5_s, if_pos (by omega)]) (f := N) (a := 1) (s := σ) (by omega) ⟨rfl, fr_rfl, fun i' h => absurd h (Nat.not_lt_zero _)⟩
  try dsimp only at e h1 h2 h3
  have hq : ∀ j, j < 3 → s 41 0 j = (tq t x j : Int) := fun j hj => by
    obtain ⟨i, hi, ei⟩ := lto_all ht hj
    rw [← ei, h3 i hi, tq_lto ht x hi]
  have hX := tX_lt ht hx
  refine ⟨s, ?_, h2⟩
  unfold f_X7_turnedCode_r7
  rw [e, Option.bind_some]
  try dsimp only
  rw [hq 0 (by decide), hq 1 (by decide), hq 2 (by decide), X7_indexOf_eq (tq_sum ht hx), Option.bind_some]
  try dsimp only
  rw [show ixn (tq t x 0) (tq t x 1) (tq t x 2) = tX t x from rfl, mw_s (by omega), h1, tsP_3]
  refine congrArg (fun z => some (z, s)) ?_
  rcases tS_pm t x with e | e <;> rw [e] <;> exact mw_id (by omega) (by omega)
theorem X11_ixs {N y : Nat} {s : Int} {σ : mS} (hs : s = 1 ∨ s = -1) (hy : y < 165) : f_X11_indexOfCode N (s * ((y + 1 : Nat) : Int)) σ = some ((y : Int), σ) := by
  unfold f_X11_indexOfCode
  rcases hs with rfl | rfl
  · rw [if_neg (by omega), mw_id (by omega) (by omega)]
    refine congrArg (fun z => some (z, σ)) ?_
    omega
  · rw [if_pos (by omega), mw_id (z := -(-1 * ((y + 1 : Nat) : Int))) (by omega) (by omega), mw_id (by omega) (by omega)]
    refine congrArg (fun z => some (z, σ)) ?_
    omega
theorem X11_signed_eq {N : Nat} {s w : Int} {v : Int} {σ : mS} (hs : s = 1 ∨ s = -1) (hw : 0 < w) (hv : 0 ≤ v ∧ v < 32003) : f_X11_signedNumber N (s * w) v σ = some ((s * v) % 32003, σ) := by
  unfold f_X11_signedNumber
  rcases hs with rfl | rfl
  · rw [if_pos (by omega)]
    refine congrArg (fun z => some (z, σ)) ?_
    omega
  · rw [if_neg (by omega)]
    by_cases e : v = 0
    · subst e; rw [if_pos rfl]; rfl
    · rw [if_neg e, mw_id (by omega) (by omega)]
      refine congrArg (fun z => some (z, σ)) ?_
      omega
theorem X6_addAside_eq {N y : Nat} {v : Int} {σ : mS} (hy : y < 165) (h1 : 0 ≤ σ 34 0 y ∧ σ 34 0 y < 32003) (h2 : 0 ≤ v ∧ v < 32003) : f_X6_addAside N (y : Int) v σ = some (mup σ 34 0 y ((σ 34 0 y + v) % 32003)) := by
  unfold f_X6_addAside
  rw [if_neg (by omega), if_neg (by omega), if_pos (by omega), tN, rem_md (by omega) (by omega)]
/-- what is turned, times a sign: of the first m numbers, at place k -/
def tvp (t : tn) (s : Int) (Q : Nat → Int) (m k : Nat) : Int := sm (fun x => if tX t x = k then tS t x * s * Q x else 0) m
theorem tvp_s (t : tn) (s : Int) (Q : Nat → Int) (m k : Nat) : tvp t s Q (m + 1) k = tvp t s Q m k + (if tX t m = k then tS t m * s * Q m else 0) := rfl
theorem md_add (a b : Int) : (a % 32003 + b % 32003) % 32003 = (a + b) % 32003 := by omega
theorem X6_addTurned_eq {N q y : Nat} {t : tn} {s : Int} {Q S : Nat → Int} {σ : mS} (hN : 1000 ≤ N) (H : CPw σ) (ht : tok t) (he : elC σ y = t) (hs : s = 1 ∨ s = -1) (hQ : ∀ x, x < 165 → σ 33 q x = Q x ∧ 0 ≤ Q x ∧ Q x < 32003) (hS : ∀ k, k < 165 → σ 34 0 k = S k % 32003) :
    ∃ σ', f_X6_addTurned_r33_r7 N q y s σ = some σ' ∧ fr [34, 41] σ σ' ∧ ∀ k, k < 165 → σ' 34 0 k = (S k + tvp t s Q 165 k) % 32003 := by
  obtain ⟨s1, e, h1, h2⟩ := lp_0 (L := fun f x s1 => L_X6_addTurned_r33_r7_3 N f q y s x s1) (I := fun x s1 => fr [34, 41] σ s1 ∧ ∀ k, k < 165 → s1 34 0 k = (S k + tvp t s Q x k) % 32003)
    (P := fun s1 => fr [34, 41] σ s1 ∧ ∀ k, k < 165 → s1 34 0 k = (S k + tvp t s Q 165 k) % 32003) 165 (fun f x s1 hx hI => by
      obtain ⟨h1, h2⟩ := hI
      left
      obtain ⟨q1, q2⟩ := hQ x hx
      have H1 := CPw_ag H (ag_fr h1 (by decide))
      have he1 : elC s1 y = t := by
        rw [← he]; unfold elC
        rw [h1 7 _ _ (by decide), h1 7 _ _ (by decide), h1 7 _ _ (by decide)]
      have hq1 : s1 33 q x = Q x := by rw [h1 33 _ _ (by decide)]; exact q1
      try dsimp only
      rw [L_X6_addTurned_r33_r7_3_s, if_neg (by omega), if_pos (by omega), tN, hq1, mw_s (by omega)]
      by_cases e0 : Q x = 0
      · rw [if_pos e0]
        refine ⟨_, rfl, h1, fun k hk => ?_⟩
        rw [h2 k hk, tvp_s, e0]
        simp
      · obtain ⟨s2, r1, r2⟩ := X7_turned_eq (N := N) (by omega) H1 hx ht he1
        have hX := tX_lt ht hx
        have hSp := tS_pm t x
        have hss : tS t x * s = 1 ∨ tS t x * s = -1 := by rcases hSp with a | a <;> rcases hs with b | b <;> rw [a, b] <;> decide
        have hcd : mw (tS t x * ((tX t x + 1 : Nat) : Int) * s) = tS t x * s * ((tX t x + 1 : Nat) : Int) := by
          rw [Int.mul_assoc, Int.mul_comm ((tX t x + 1 : Nat) : Int) s, ← Int.mul_assoc]
          rcases hss with a | a <;> rw [a] <;> exact mw_id (by omega) (by omega)
        rw [if_neg e0, r1, Option.bind_some]
        try dsimp only
        rw [X11_ixs hSp hX, Option.bind_some]
        try dsimp only
        have hq2 : s2 33 q x = Q x := by rw [r2 33 _ _ (by decide)]; exact hq1
        have hm := md_lt (tS t x * s * Q x)
        rw [if_pos (by omega), hq2, hcd, X11_signed_eq hss (by omega) q2, Option.bind_some]
        try dsimp only
        have ha : s2 34 0 (tX t x) = (S (tX t x) + tvp t s Q x (tX t x)) % 32003 := by rw [r2 34 _ _ (by decide)]; exact h2 _ hX
        have hm2 := md_lt (S (tX t x) + tvp t s Q x (tX t x))
        rw [X6_addAside_eq hX (by rw [ha]; exact hm2) hm, Option.bind_some, ha, md_add]
        refine ⟨_, rfl, fr_mup (fr_trans h1 (fr_sub r2 (fun r hr => by simp at hr ⊢; omega))) (by decide), fun k hk => ?_⟩
        rw [tvp_s]
        by_cases ek : k = tX t x
        · subst ek
          rw [mup_s, if_pos rfl, Int.add_assoc]
        · rw [mup_k ek, if_neg (fun z => ek z.symm), Int.add_zero, r2 34 _ _ (by decide), h2 k hk]) (fun f s1 hI => by
      refine ⟨s1, ?_, hI⟩
      try dsimp only
      rw [L_X6_addTurned_r33_r7_3_s, if_pos (by omega)]) (f := N) (s := σ) (by omega) ⟨fr_rfl, fun k hk => by rw [hS k hk]; show S k % 32003 = (S k + 0) % 32003; rw [Int.add_zero]⟩
  refine ⟨s1, ?_, h1, h2⟩
  unfold f_X6_addTurned_r33_r7
  try dsimp only at e
  rw [e]
  rfl
