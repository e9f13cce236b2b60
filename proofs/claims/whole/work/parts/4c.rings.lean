/-! the rings of a turn: pure, the reference's, the class's -/
def tcd (t : tn) (i : Nat) : Int := if i = 0 then t.1 else if i = 1 then t.2.1 else t.2.2
def lto (t : tn) (i : Nat) : Nat := (tcd t i).natAbs - 1
theorem tcd_ok {t : tn} (h : tok t) (i : Nat) : cok (tcd t i) := by
  unfold tcd
  split
  · exact h.1
  · split
    · exact h.2.1
    · exact h.2.2.1
theorem lto_lt {t : tn} (h : tok t) (i : Nat) : lto t i < 3 := by
  unfold lto
  rcases tcd_ok h i with e | e | e | e | e | e <;> rw [e] <;> decide
def bck (t : tn) (i : Nat) : Nat → Nat → Bool
  | 0, k => k == i
  | j + 1, k => k == i || bck t i j (lto t k)
theorem bck_ok : ∀ t ∈ allT, ∀ i ∈ [0, 1, 2], bck t i 2 (lto t i) = true := by decide +kernel
theorem m012 {i : Nat} (h : i < 3) : i ∈ [0, 1, 2] := by
  have : i = 0 ∨ i = 1 ∨ i = 2 := by omega
  rcases this with rfl | rfl | rfl <;> decide
def itL (t : tn) (i : Nat) : Nat → Nat → Nat → Nat
  | 0, _, l => l
  | f + 1, k, l => if k = i then l else itL t i f (lto t k) (if l ≤ k then l else k)
def itS (t : tn) (i : Nat) : Nat → Nat → Int → Int
  | 0, _, s => s
  | f + 1, k, s => if k = i then s else itS t i f (lto t k) (if 0 ≤ tcd t k then s else -s)
def itN (t : tn) (i : Nat) : Nat → Nat → Nat → Nat
  | 0, _, l => l
  | f + 1, k, l => if k = i then l else itN t i f (lto t k) (l + 1)
theorem itL_s (t : tn) (i f k l : Nat) : itL t i (f + 1) k l = if k = i then l else itL t i f (lto t k) (if l ≤ k then l else k) := rfl
theorem itS_s (t : tn) (i f k : Nat) (s : Int) : itS t i (f + 1) k s = if k = i then s else itS t i f (lto t k) (if 0 ≤ tcd t k then s else -s) := rfl
theorem itN_s (t : tn) (i f k l : Nat) : itN t i (f + 1) k l = if k = i then l else itN t i f (lto t k) (l + 1) := rfl
theorem bck_s (t : tn) (i j k : Nat) : bck t i (j + 1) k = (k == i || bck t i j (lto t k)) := rfl
def rLe (t : tn) (i : Nat) : Nat := itL t i 3 (lto t i) i
def rSg (t : tn) (i : Nat) : Int := itS t i 3 (lto t i) (if 0 ≤ tcd t i then 1 else -1)
def rLo (t : tn) (i : Nat) : Nat := itN t i 3 (lto t i) 1
theorem RG_cd {σ : mS} {E : Nat → tn} {n g i : Nat} (H : RG σ E n) (hg : g < n) (hi : i < 3) : σ 74 0 (3 * g + i) = tcd (E g) i := by
  have h := H.2.1 g hg
  rw [← h]
  have : i = 0 ∨ i = 1 ∨ i = 2 := by omega
  rcases this with rfl | rfl | rfl <;> rfl
theorem RG_ix {g i n : Nat} (hn : n ≤ 48) (hg : g < n) (hi : i < 3) : mw (mw (3 * (g : Int)) + (i : Int)) = ((3 * g + i : Nat) : Int) := by
  rw [show mw (3 * (g : Int)) = 3 * (g : Int) from mw_id (by omega) (by omega), mw_id (by omega) (by omega)]
  omega
theorem X12_to_eq {N : Nat} {σ : mS} {E : Nat → tn} {n g i : Nat} (H : RG σ E n) (hg : g < n) (hi : i < 3) : f_X12_to N (g : Int) (i : Int) σ = some ((lto (E g) i : Int), σ) := by
  have h48 := RG_48 H
  have hc := tcd_ok (H.2.2.2.2.1 g hg) i
  unfold f_X12_to
  rw [RG_ix h48 hg hi, if_pos (by omega), tN, RG_cd H hg hi, X12_size_eq hc, Option.bind_some]
  try dsimp only
  refine congrArg (fun z => some (z, σ)) ?_
  unfold lto
  rcases hc with e | e | e | e | e | e <;> rw [e] <;> decide
theorem X12_ringLeast_eq {N : Nat} {σ : mS} {E : Nat → tn} {n g i : Nat} (hN : 100 ≤ N) (H : RG σ E n) (hg : g < n) (hi : i < 3) : f_X12_ringLeast N (g : Int) (i : Int) σ = some ((rLe (E g) i : Int), σ) := by
  have ht := H.2.2.2.2.1 g hg
  have lp : ∀ (j k l f : Nat), k < 3 → bck (E g) i j k = true → j < f → L_X12_ringLeast_10 N f (g : Int) (i : Int) (l : Int) (k : Int) σ = some ((itL (E g) i (j + 1) k l : Int), σ) := by
    intro j
    induction j with
    | zero =>
      intro k l f hk hb hf
      obtain ⟨f, rfl⟩ : ∃ f', f = f' + 1 := ⟨f - 1, by omega⟩
      have e : k = i := eq_of_beq hb
      subst e
      rw [L_X12_ringLeast_10_s, if_pos rfl, itL_s, if_pos rfl]
    | succ j ih =>
      intro k l f hk hb hf
      obtain ⟨f, rfl⟩ : ∃ f', f = f' + 1 := ⟨f - 1, by omega⟩
      rw [L_X12_ringLeast_10_s, itL_s]
      by_cases e : k = i
      · subst e; rw [if_pos rfl, if_pos rfl]
      · have hb2 : bck (E g) i j (lto (E g) k) = true := by
          rw [bck_s] at hb
          simpa [e] using hb
        rw [if_neg (by omega), if_neg e, X12_to_eq H hg hk, Option.bind_some]
        try dsimp only
        by_cases q : l ≤ k
        · rw [if_pos (by omega), if_pos q]; exact ih _ _ f (lto_lt ht k) hb2 (by omega)
        · rw [if_neg (by omega), if_neg q, Option.bind_some]; exact ih _ _ f (lto_lt ht k) hb2 (by omega)
  unfold f_X12_ringLeast
  rw [X12_to_eq H hg hi, Option.bind_some]
  try dsimp only
  rw [lp 2 _ _ N (lto_lt ht i) (bck_ok _ (tok_mem.mp ht) i (m012 hi)) (by omega)]
  rfl
theorem X12_ringLong_eq {N : Nat} {σ : mS} {E : Nat → tn} {n g i : Nat} (hN : 100 ≤ N) (H : RG σ E n) (hg : g < n) (hi : i < 3) : f_X12_ringLong N (g : Int) (i : Int) σ = some ((rLo (E g) i : Int), σ) := by
  have ht := H.2.2.2.2.1 g hg
  have lp : ∀ (j k l f : Nat), k < 3 → l + j < 100 → bck (E g) i j k = true → j < f → L_X12_ringLong_10 N f (g : Int) (i : Int) (l : Int) (k : Int) σ = some ((itN (E g) i (j + 1) k l : Int), σ) := by
    intro j
    induction j with
    | zero =>
      intro k l f hk hl hb hf
      obtain ⟨f, rfl⟩ : ∃ f', f = f' + 1 := ⟨f - 1, by omega⟩
      have e : k = i := eq_of_beq hb
      subst e
      rw [L_X12_ringLong_10_s, if_pos rfl, itN_s, if_pos rfl]
    | succ j ih =>
      intro k l f hk hl hb hf
      obtain ⟨f, rfl⟩ : ∃ f', f = f' + 1 := ⟨f - 1, by omega⟩
      rw [L_X12_ringLong_10_s, itN_s]
      by_cases e : k = i
      · subst e; rw [if_pos rfl, if_pos rfl]
      · have hb2 : bck (E g) i j (lto (E g) k) = true := by
          rw [bck_s] at hb
          simpa [e] using hb
        rw [if_neg (by omega), if_neg e, X12_to_eq H hg hk, Option.bind_some]
        try dsimp only
        rw [mw_s (by omega)]
        exact ih _ _ f (lto_lt ht k) (by omega) hb2 (by omega)
  unfold f_X12_ringLong
  rw [X12_to_eq H hg hi, Option.bind_some]
  try dsimp only
  rw [show (1 : Int) = ((1 : Nat) : Int) from rfl, lp 2 _ _ N (lto_lt ht i) (by omega) (bck_ok _ (tok_mem.mp ht) i (m012 hi)) (by omega)]
  rfl
theorem X12_ringSign_eq {N : Nat} {σ : mS} {E : Nat → tn} {n g i : Nat} (hN : 100 ≤ N) (H : RG σ E n) (hg : g < n) (hi : i < 3) : f_X12_ringSign N (g : Int) (i : Int) σ = some (rSg (E g) i, σ) := by
  have ht := H.2.2.2.2.1 g hg
  have h48 := RG_48 H
  have lp : ∀ (j k f : Nat) (s : Int), k < 3 → (s = 1 ∨ s = -1) → bck (E g) i j k = true → j < f → L_X12_ringSign_27 N f (g : Int) (i : Int) s (k : Int) σ = some (itS (E g) i (j + 1) k s, σ) := by
    intro j
    induction j with
    | zero =>
      intro k f s hk hs hb hf
      obtain ⟨f, rfl⟩ : ∃ f', f = f' + 1 := ⟨f - 1, by omega⟩
      have e : k = i := eq_of_beq hb
      subst e
      rw [L_X12_ringSign_27_s, if_pos rfl, itS_s, if_pos rfl]
    | succ j ih =>
      intro k f s hk hs hb hf
      obtain ⟨f, rfl⟩ : ∃ f', f = f' + 1 := ⟨f - 1, by omega⟩
      rw [L_X12_ringSign_27_s, itS_s]
      by_cases e : k = i
      · subst e; rw [if_pos rfl, if_pos rfl]
      · have hb2 : bck (E g) i j (lto (E g) k) = true := by
          rw [bck_s] at hb
          simpa [e] using hb
        rw [if_neg (by omega), if_neg e, RG_ix h48 hg hk, if_pos (by omega), tN, RG_cd H hg hk, X12_to_eq H hg hk, Option.bind_some]
        try dsimp only
        by_cases q : 0 ≤ tcd (E g) k
        · rw [if_pos q, if_pos q]; exact ih _ f s (lto_lt ht k) hs hb2 (by omega)
        · rw [if_neg q, if_neg q, Option.bind_some]
          have e2 : mw (-s) = -s := by rcases hs with rfl | rfl <;> decide
          try dsimp only
          rw [e2]
          exact ih _ f (-s) (lto_lt ht k) (by omega) hb2 (by omega)
  unfold f_X12_ringSign
  rw [RG_ix h48 hg hi, if_pos (by omega), tN, RG_cd H hg hi, X12_to_eq H hg hi, Option.bind_some]
  try dsimp only
  rw [lp 2 _ N 1 (lto_lt ht i) (Or.inl rfl) (bck_ok _ (tok_mem.mp ht) i (m012 hi)) (by omega), Option.bind_some, Option.bind_some]
  try dsimp only
  rw [lp 2 _ N (-1) (lto_lt ht i) (Or.inr rfl) (bck_ok _ (tok_mem.mp ht) i (m012 hi)) (by omega), Option.bind_some]
  unfold rSg
  by_cases q : 0 ≤ tcd (E g) i
  · rw [if_pos q, if_pos q]
  · rw [if_neg q, if_neg q]
/-- lines that are left -/
def stl (t : tn) (i : Nat) : Nat := if rLe t i = i ∧ rSg t i = 1 then 1 else 0
def still (t : tn) : Nat := stl t 0 + stl t 1 + stl t 2
def mir (t : tn) : Bool := still t == 2
theorem X12_still_eq {N : Nat} {σ : mS} {E : Nat → tn} {n g : Nat} (hN : 100 ≤ N) (H : RG σ E n) (hg : g < n) : f_X12_still N (g : Int) σ = some ((still (E g) : Int), σ) := by
  have st : ∀ (i c f : Nat), i < 3 → c < 100 → L_X12_still_4 N (f + 1) (g : Int) (c : Int) (i : Int) σ = L_X12_still_4 N f (g : Int) ((c + stl (E g) i : Nat) : Int) ((i + 1 : Nat) : Int) σ := by
    intro i c f hi hc
    rw [L_X12_still_4_s, if_neg (by omega), X12_ringLeast_eq hN H hg hi, Option.bind_some]
    try dsimp only
    rw [X12_ringSign_eq hN H hg hi, Option.bind_some]
    try dsimp only
    rw [mw_s (by omega), mw_s (by omega), show mw ((c : Int) + 0) = (c : Int) from by rw [Int.add_zero]; exact mw_id (by omega) (by omega)]
    unfold stl
    by_cases q1 : rLe (E g) i = i
    · by_cases q2 : rSg (E g) i = 1
      · rw [if_pos (by omega), if_pos q2, if_pos ⟨q1, q2⟩]
      · rw [if_pos (by omega), if_neg q2, if_neg (fun q => q2 q.2)]; rfl
    · rw [if_neg (by omega), if_neg (fun q => q1 q.1)]; rfl
  have hst : ∀ i, stl (E g) i ≤ 1 := fun i => by unfold stl; split <;> omega
  unfold f_X12_still
  obtain ⟨M, rfl⟩ : ∃ M, N = M + 1 + 1 + 1 + 1 := ⟨N - 4, by omega⟩
  have a0 := hst 0
  have a1 := hst 1
  rw [show L_X12_still_4 (M + 1 + 1 + 1 + 1) (M + 1 + 1 + 1 + 1) (g : Int) 0 0 σ = L_X12_still_4 (M + 1 + 1 + 1 + 1) (M + 1 + 1 + 1 + 1) (g : Int) ((0 : Nat) : Int) ((0 : Nat) : Int) σ from rfl, st 0 0 _ (by omega) (by omega), st 1 _ _ (by omega) (by omega), st 2 _ _ (by omega) (by omega), L_X12_still_4_s, if_pos (by omega), Option.bind_some]
  try dsimp only
  unfold still
  rw [Nat.zero_add]
theorem mir_0 : mir tid = false := by decide +kernel
theorem X12_isMirror_eq {N : Nat} {σ : mS} {E : Nat → tn} {n g : Nat} (hN : 100 ≤ N) (H : RG σ E n) (hg : g < n) : f_X12_isMirror N (g : Int) σ = some (if mir (E g) = true then 1 else 0, σ) := by
  unfold f_X12_isMirror
  by_cases e : g = 0
  · subst e
    rw [if_pos (show ((0 : Nat) : Int) = 0 from rfl), H.2.2.2.1, mir_0]
    rfl
  · rw [if_neg (by omega), X12_still_eq hN H hg, Option.bind_some]
    try dsimp only
    unfold mir
    by_cases q : still (E g) = 2
    · rw [if_pos (by omega), q]; rfl
    · rw [if_neg (by omega), if_neg (by simpa using q)]
