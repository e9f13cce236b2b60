/-! Arrays.fill -/
/-- the first n places of a row bear v -/
def msv (σ : mS) (r i n : Nat) (v : Int) : mS := fun r' i' k' => if r' = r ∧ i' = i ∧ k' < n then v else σ r' i' k'
theorem fill_lp {L : Nat → Int → mS → Option mS} {r i n : Nat} {v : Int} (hs : ∀ f (k : Nat) σ, k < n → L (f + 1) (k : Int) σ = L f ((k + 1 : Nat) : Int) (mup σ r i k v)) (he : ∀ f σ, L (f + 1) (n : Int) σ = some σ) : ∀ (j k f : Nat) (σ : mS), k + j = n → j < f →
    L f (k : Int) σ = some (fun r' i' k' => if r' = r ∧ i' = i ∧ k ≤ k' ∧ k' < n then v else σ r' i' k') := by
  intro j
  induction j with
  | zero =>
    intro k f σ h1 h2
    obtain ⟨f, rfl⟩ : ∃ f', f = f' + 1 := ⟨f - 1, by omega⟩
    have e : k = n := by omega
    subst e
    rw [he]
    refine congrArg some ?_
    funext r' i' k'
    rw [if_neg (by omega)]
  | succ j ih =>
    intro k f σ h1 h2
    obtain ⟨f, rfl⟩ : ∃ f', f = f' + 1 := ⟨f - 1, by omega⟩
    rw [hs f k σ (by omega), ih (k + 1) f _ (by omega) (by omega)]
    refine congrArg some ?_
    funext r' i' k'
    rw [mup_def]
    by_cases e1 : r' = r ∧ i' = i
    · by_cases e2 : k' = k
      · rw [if_neg (by omega), if_pos ⟨e1.1, e1.2, e2⟩, if_pos (by omega)]
      · by_cases e3 : k + 1 ≤ k' ∧ k' < n
        · rw [if_pos (by omega), if_pos (by omega)]
        · rw [if_neg (by omega), if_neg (by omega), if_neg (by omega)]
    · rw [if_neg (fun q => e1 ⟨q.1, q.2.1⟩), if_neg (fun q => e1 ⟨q.1, q.2.1⟩), if_neg (fun q => e1 ⟨q.1, q.2.1⟩)]
theorem fill_r8 {N : Nat} (hN : 1000 ≤ N) (v : Int) (σ : mS) : f_J7_fill_53178_r8 N v σ = some (msv σ 8 0 343 v) := by
  unfold f_J7_fill_53178_r8
  rw [show (0 : Int) = ((0 : Nat) : Int) from rfl, fill_lp (L := fun f k s => L_J7_fill_53178_r8_5 N f v k 343 s) (r := 8) (i := 0) (n := 343) (v := v) (fun f k s hk => by
    rw [L_J7_fill_53178_r8_5_s, if_neg (by omega), if_pos (by omega), show (k : Int).toNat = k from by omega, show mw ((k : Int) + 1) = ((k + 1 : Nat) : Int) from mw_id (by omega) (by omega)]) (fun f s => by
    rw [L_J7_fill_53178_r8_5_s, if_pos (by omega)]) 343 0 N σ (by omega) (by omega), Option.bind_some]
  refine congrArg some ?_
  funext r' i' k'
  unfold msv
  by_cases e : r' = 8 ∧ i' = 0 ∧ k' < 343
  · rw [if_pos e, if_pos ⟨e.1, e.2.1, Nat.zero_le _, e.2.2⟩]
  · rw [if_neg e, if_neg (fun q => e ⟨q.1, q.2.1, q.2.2.2⟩)]
theorem fill_r19 {N : Nat} (hN : 1000 ≤ N) (v : Int) (σ : mS) : f_J7_fill_53178_r19 N v σ = some (msv σ 19 0 48 v) := by
  unfold f_J7_fill_53178_r19
  rw [show (0 : Int) = ((0 : Nat) : Int) from rfl, fill_lp (L := fun f k s => L_J7_fill_53178_r19_5 N f v k 48 s) (r := 19) (i := 0) (n := 48) (v := v) (fun f k s hk => by
    rw [L_J7_fill_53178_r19_5_s, if_neg (by omega), if_pos (by omega), show (k : Int).toNat = k from by omega, show mw ((k : Int) + 1) = ((k + 1 : Nat) : Int) from mw_id (by omega) (by omega)]) (fun f s => by
    rw [L_J7_fill_53178_r19_5_s, if_pos (by omega)]) 48 0 N σ (by omega) (by omega), Option.bind_some]
  refine congrArg some ?_
  funext r' i' k'
  unfold msv
  by_cases e : r' = 19 ∧ i' = 0 ∧ k' < 48
  · rw [if_pos e, if_pos ⟨e.1, e.2.1, Nat.zero_le _, e.2.2⟩]
  · rw [if_neg e, if_neg (fun q => e ⟨q.1, q.2.1, q.2.2.2⟩)]
theorem fill_r46 {N : Nat} (hN : 1000 ≤ N) (v : Int) (σ : mS) : f_J7_fill_53178_r46 N v σ = some (msv σ 46 0 28 v) := by
  unfold f_J7_fill_53178_r46
  rw [show (0 : Int) = ((0 : Nat) : Int) from rfl, fill_lp (L := fun f k s => L_J7_fill_53178_r46_5 N f v k 28 s) (r := 46) (i := 0) (n := 28) (v := v) (fun f k s hk => by
    rw [L_J7_fill_53178_r46_5_s, if_neg (by omega), if_pos (by omega), show (k : Int).toNat = k from by omega, show mw ((k : Int) + 1) = ((k + 1 : Nat) : Int) from mw_id (by omega) (by omega)]) (fun f s => by
    rw [L_J7_fill_53178_r46_5_s, if_pos (by omega)]) 28 0 N σ (by omega) (by omega), Option.bind_some]
  refine congrArg some ?_
  funext r' i' k'
  unfold msv
  by_cases e : r' = 46 ∧ i' = 0 ∧ k' < 28
  · rw [if_pos e, if_pos ⟨e.1, e.2.1, Nat.zero_le _, e.2.2⟩]
  · rw [if_neg e, if_neg (fun q => e ⟨q.1, q.2.1, q.2.2.2⟩)]
theorem fill_r34 {N : Nat} (hN : 1000 ≤ N) (v : Int) (σ : mS) : f_J7_fill_53178_r34 N v σ = some (msv σ 34 0 165 v) := by
  unfold f_J7_fill_53178_r34
  rw [show (0 : Int) = ((0 : Nat) : Int) from rfl, fill_lp (L := fun f k s => L_J7_fill_53178_r34_5 N f v k 165 s) (r := 34) (i := 0) (n := 165) (v := v) (fun f k s hk => by
    rw [L_J7_fill_53178_r34_5_s, if_neg (by omega), if_pos (by omega), show (k : Int).toNat = k from by omega, show mw ((k : Int) + 1) = ((k + 1 : Nat) : Int) from mw_id (by omega) (by omega)]) (fun f s => by
    rw [L_J7_fill_53178_r34_5_s, if_pos (by omega)]) 165 0 N σ (by omega) (by omega), Option.bind_some]
  refine congrArg some ?_
  funext r' i' k'
  unfold msv
  by_cases e : r' = 34 ∧ i' = 0 ∧ k' < 165
  · rw [if_pos e, if_pos ⟨e.1, e.2.1, Nat.zero_le _, e.2.2⟩]
  · rw [if_neg e, if_neg (fun q => e ⟨q.1, q.2.1, q.2.2.2⟩)]
theorem fill_r30 {N : Nat} (hN : 1000 ≤ N) (v : Int) (σ : mS) : f_J7_fill_53178_r30 N v σ = some (msv σ 30 0 201 v) := by
  unfold f_J7_fill_53178_r30
  rw [show (0 : Int) = ((0 : Nat) : Int) from rfl, fill_lp (L := fun f k s => L_J7_fill_53178_r30_5 N f v k 201 s) (r := 30) (i := 0) (n := 201) (v := v) (fun f k s hk => by
    rw [L_J7_fill_53178_r30_5_s, if_neg (by omega), if_pos (by omega), show (k : Int).toNat = k from by omega, show mw ((k : Int) + 1) = ((k + 1 : Nat) : Int) from mw_id (by omega) (by omega)]) (fun f s => by
    rw [L_J7_fill_53178_r30_5_s, if_pos (by omega)]) 201 0 N σ (by omega) (by omega), Option.bind_some]
  refine congrArg some ?_
  funext r' i' k'
  unfold msv
  by_cases e : r' = 30 ∧ i' = 0 ∧ k' < 201
  · rw [if_pos e, if_pos ⟨e.1, e.2.1, Nat.zero_le _, e.2.2⟩]
  · rw [if_neg e, if_neg (fun q => e ⟨q.1, q.2.1, q.2.2.2⟩)]
